/-! The law told of a card: both sides. -/
theorem nI_z {a : Nat} (h : a ≠ 0) (h2 : a < 2147483648) : nI a ≠ 0 := by
  intro e
  exact h ((nI_eq (by omega) (by omega)).mp (e.trans nI_0.symm))
theorem tyd_step {kn : Nat → Int32} {op a : Nat} {ty ty' : List Nat} {st : List Int32} (h : okStep op a ty = some ty') (ht : tyd ty st) : tyd ty' (vStep kn op a st) := by
  unfold vStep
  rcases ok_cases h with ⟨h0, h1, h2, rfl⟩ | ⟨h0, h1, h2, rfl⟩ | ⟨h0, r, rfl, rfl⟩ | ⟨h0, y, x, r, t, rfl, rfl, h5, h10, h6, hl⟩
  · rw [if_pos h0]
    refine ⟨⟨fun e => ?_, fun e => ?_⟩, ht⟩
    · by_cases ha : a = 0
      · rw [if_pos ha] at e; cases e
      · rw [if_neg ha] at e; cases e
    · by_cases ha : a = 0
      · rw [if_pos ha] at e; cases e
      · exact nI_z ha (by omega)
  · rw [if_neg (by omega), if_pos h0]
    exact ⟨⟨fun e => absurd e (by decide), fun e => absurd e (by decide)⟩, ht⟩
  · rw [if_neg (by omega), if_neg (by omega), if_pos h0]
    match st, ht with
    | v :: vs, ht =>
      refine ⟨⟨fun _ => ?_, fun e => by cases e⟩, ht.2⟩
      rcases ht.1.1 rfl with rfl | rfl
      · exact Or.inr rfl
      · exact Or.inl rfl
    | [], ht => exact ht.elim
  · rw [if_neg (by omega), if_neg (by omega), if_neg h0.2.2]
    match st, ht with
    | [], ht => exact ht.elim
    | [_], ht => exact ht.2.elim
    | vy :: vx :: vs, ht =>
      refine ⟨⟨fun e => ?_, fun e => ?_⟩, ht.2.2⟩
      · have h6' : 6 ≤ op := by
          by_cases q : op < 6
          · have := hl q; omega
          · omega
        refine vOp_b h6' h0.2.2 (fun q => ?_)
        obtain ⟨q1, q2, -⟩ := h10 q
        exact ⟨ht.1.1 q1, ht.2.1.1 q2⟩
      · by_cases q : op < 6
        · have := hl q; omega
        · have := h6 (by omega); omega
def stk (f : Nat → Int32) : List Int32 → Prop
  | [] => True
  | x :: r => f r.length = x ∧ stk f r
theorem stk_up {f : Nat → Int32} {j : Nat} {v : Int32} : ∀ {st : List Int32}, stk f st → st.length ≤ j → stk (upd f j v) st
  | [], _, _ => trivial
  | x :: r, h, hl => by
    simp only [List.length_cons] at hl
    exact ⟨by rw [upd_ne (by omega)]; exact h.1, stk_up h.2 (by omega)⟩
/-- the class: a sign joins two -/
theorem joined_s {op a : Nat} {x y : Int32} {S : pS} (h : 1 < op ∧ op < 12 ∧ op ≠ 9) (h5 : op = 5 → y ≠ 0) : La_joined (nI (tok op a)) x y S = some (vOp op x y, S) := by
  rw [La_joined_eq]
  have hc : op = 2 ∨ op = 3 ∨ op = 4 ∨ op = 5 ∨ op = 6 ∨ op = 7 ∨ op = 8 ∨ op = 10 ∨ op = 11 := by omega
  rcases hc with rfl | rfl | rfl | rfl | rfl | rfl | rfl | rfl | rfl
  · rfl
  · rfl
  · rfl
  · have := h5 rfl
    show (if y = 0 then _ else if y = 0 then none else _) = _
    rw [if_neg this, if_neg this]
    rfl
  · show (if x < y then _ else _) = some ((if x < y then (1 : Int32) else 0), S)
    by_cases q : x < y
    · rw [if_pos q, if_pos q]
    · rw [if_neg q, if_neg q]
  · show (if x = y then _ else _) = some ((if x = y then (1 : Int32) else 0), S)
    by_cases q : x = y
    · rw [if_pos q, if_pos q]
    · rw [if_neg q, if_neg q]
  · show (if x ≤ y then _ else _) = some ((if x ≤ y then (0 : Int32) else 1), S)
    by_cases q : x ≤ y
    · rw [if_pos q, if_pos q]
    · rw [if_neg q, if_neg q]
  · rfl
  · rfl
/-- the reference: likewise -/
theorem twoOf_s {op : Nat} {x y : Int32} {S : pS} (h : 1 < op ∧ op < 12 ∧ op ≠ 9) (h5 : op = 5 → y ≠ 0) (hb : 10 ≤ op → (y = 0 ∨ y = 1) ∧ (x = 0 ∨ x = 1)) : R_twoOf (nI op) x y S = some (vOp op x y, S) := by
  rw [R_twoOf_eq]
  have hc : op = 2 ∨ op = 3 ∨ op = 4 ∨ op = 5 ∨ op = 6 ∨ op = 7 ∨ op = 8 ∨ op = 10 ∨ op = 11 := by omega
  rcases hc with rfl | rfl | rfl | rfl | rfl | rfl | rfl | rfl | rfl
  · rfl
  · rfl
  · rfl
  · have := h5 rfl
    show (if y = 0 then none else _) = _
    rw [if_neg this]
    rfl
  · show (if x < y then _ else _) = some ((if x < y then (1 : Int32) else 0), S)
    by_cases q : x < y
    · rw [if_pos q, if_pos q]
    · rw [if_neg q, if_neg q]
  · show (if x = y then _ else _) = some ((if x = y then (1 : Int32) else 0), S)
    by_cases q : x = y
    · rw [if_pos q, if_pos q]
    · rw [if_neg q, if_neg q]
  · show (if x ≤ y then _ else _) = some ((if x ≤ y then (0 : Int32) else 1), S)
    by_cases q : x ≤ y
    · rw [if_pos q, if_pos q]
    · rw [if_neg q, if_neg q]
  · have := b01 (hb (by omega)).2 (hb (by omega)).1
    show some (x * y, S) = some (x &&& y, S)
    rw [this.2.2.1]
  · have := b01 (hb (by omega)).2 (hb (by omega)).1
    show (if x + y ≤ 0 then _ else _) = some (x ||| y, S)
    rw [← this.2.2.2]
    by_cases q : x + y ≤ 0
    · rw [if_pos q, if_pos q]
    · rw [if_neg q, if_neg q]
theorem tok_b {op a : Nat} (h : 1 < op ∧ op < 12 ∧ op ≠ 9) : tok op a < 307 ∧ tok op a ≠ 306 := by
  have hc : op = 2 ∨ op = 3 ∨ op = 4 ∨ op = 5 ∨ op = 6 ∨ op = 7 ∨ op = 8 ∨ op = 10 ∨ op = 11 := by omega
  rcases hc with rfl | rfl | rfl | rfl | rfl | rfl | rfl | rfl | rfl <;> simp [tok]
theorem nI_sub1 {k : Nat} (h : 0 < k) : nI k - nI 1 = nI (k - 1) := pk_sub h
theorem nI_subE {a b : Nat} (h : b ≤ a) : nI a - nI b = nI (a - b) := pk_sub h
theorem ob {α β : Type} (a : α) (f : α → Option β) : (some a).bind f = f a := rfl
/-- a run of the class's -/
theorem X_run {kn : Nat → Int32} {L : tL} (hL : L 0 1 ≤ 400) : ∀ (m k : Nat) (ty ty' : List Nat) (st : List Int32) (S : pS), okRun L k m ty = some ty' → k + m ≤ L 0 1 → ty.length ≤ 32 → tyd ty st → stk (S.2.1 11) st → (∀ i, i < 9 → S.2.1 10 i = kn i) → (∀ k, k < L 0 1 → S.2.1 5 k = nI (tok (L 5 k) (L 6 k))) → ∃ S', La_run_4_c5 (nI (k + m)) (nI st.length) (nI k) S = some ((vRun kn L k m st).headD 0, S') ∧ Off [] [11] S S' := by
  intro m
  induction m with
  | zero =>
    intro k ty ty' st S h hk hl ht hs hkn hco
    refine ⟨S, ?_, Off.rf⟩
    have hlen := tyd_len ht
    rw [La_run_4_c5_eq]
    match st, hs, hlen with
    | [], hs, hlen =>
      simp (disch := omega) only [fa_lit, nI_ltE, nI_leE, Nat.add_zero, Nat.lt_irrefl, List.length_nil, Nat.le_refl, if_true, if_false]
      rfl
    | x :: r, hs, hlen =>
      simp only [List.length_cons] at hlen
      have h0 : ¬ (r.length + 1 ≤ 0) := by omega
      simp (disch := omega) only [fa_lit, nI_ltE, nI_leE, Nat.add_zero, Nat.lt_irrefl, List.length_cons, nI_sub1, Nat.add_sub_cancel, inb_n, rA_n, if_true, if_false, h0]
      rw [hs.1]
      rfl
  | succ m ih =>
    intro k ty ty' st S h hk hl ht hs hkn hco
    have hlen := tyd_len ht
    rw [okRun] at h
    cases hst : okStep (L 5 k) (L 6 k) ty with
    | none => rw [hst] at h; cases h
    | some t1 =>
      rw [hst] at h
      have hcode := hco k (by omega)
      have ht1 := tyd_step (kn := kn) hst ht
      have hl1 := ok_len hst hl
      have h : okRun L (k + 1) m t1 = some ty' := h
      have go : ∀ (st1 : List Int32) (S1 : pS), st1 = vStep kn (L 5 k) (L 6 k) st → stk (S1.2.1 11) st1 → Off [] [11] S S1 → ∃ S', La_run_4_c5 (nI (k + (m + 1))) (nI st1.length) (nI (k + 1)) S1 = some ((vRun kn L k (m + 1) st).headD 0, S') ∧ Off [] [11] S S' := by
        intro st1 S1 e1 e2 e3
        subst e1
        obtain ⟨S', q1, q2⟩ := ih (k + 1) t1 ty' _ S1 h (by omega) hl1 ht1 e2 (fun i hi => by rw [e3.2.1 10 (by decide)]; exact hkn i hi) (fun k hk => by rw [e3.2.1 5 (by decide)]; exact hco k hk)
        refine ⟨S', ?_, e3.tr q2⟩
        rw [show k + (m + 1) = k + 1 + m from by omega, q1]
        rfl
      rw [La_run_4_c5_eq]
      have hkm : k < k + (m + 1) := by omega
      rcases ok_cases hst with ⟨h0, h1, h2, -⟩ | ⟨h0, h1, h2, -⟩ | ⟨h0, r, rfl, -⟩ | ⟨h0, y, x, r, t, rfl, -, h5, h10, h6, -⟩
      · have htk : tok (L 5 k) (L 6 k) = 1000 + L 6 k := by rw [h0]; rfl
        have a1 : ¬ (1000 + L 6 k < 1000) := by omega
        have a2 : st.length < 32 := by omega
        simp (disch := omega) only [fa_lit, nI_ltE, inb_n, rA_n, hcode, htk, a1, hkm, if_true, if_false, La_run_4_c44_eq, a2, nI_add, nI_subE]
        refine go (nI (L 6 k) :: st) _ (by unfold vStep; rw [if_pos h0]) ?_ (Off.rf.wA (by decide))
        rw [wA_21 (by omega), sA_eq]
        refine ⟨?_, stk_up hs (Nat.le_refl _)⟩
        rw [upd_eq, show 1000 + L 6 k - 1000 = L 6 k from by omega]
      · have htk : tok (L 5 k) (L 6 k) = 307 + L 6 k := by rw [h0]; rfl
        have a1 : 307 + L 6 k < 1000 := by omega
        have a3 : ¬ 307 + L 6 k < 307 := by omega
        have a4 : 307 + L 6 k ≤ 315 := by omega
        have a2 : st.length < 32 := by omega
        have a5 : 307 + L 6 k - 307 = L 6 k := by omega
        simp (disch := omega) only [fa_lit, nI_ltE, nI_leE, inb_n, rA_n, hcode, htk, a1, a3, a4, hkm, if_true, if_false, La_run_4_c44_eq, a2, nI_add, nI_subE, a5]
        refine go (kn (L 6 k) :: st) _ (by unfold vStep; rw [if_neg (by omega), if_pos h0]) ?_ (Off.rf.wA (by decide))
        rw [wA_21 (by omega), sA_eq]
        exact ⟨by rw [upd_eq]; exact hkn _ h2, stk_up hs (Nat.le_refl _)⟩
      · match st, hs, hlen, go, ht with
        | [], _, hlen, _, _ => simp at hlen
        | v :: vs, hs, hlen, go, ht =>
          have htk : tok (L 5 k) (L 6 k) = 306 := by rw [h0]; rfl
          simp only [List.length_cons] at hlen hl
          have a1 : ¬ (vs.length + 1 ≤ 0) := by omega
          simp (disch := omega) only [fa_lit, nI_ltE, nI_leE, inb_n, rA_n, hcode, htk, hkm, if_true, if_false, La_run_4_c93_eq, a1, nI_add, nI_subE, List.length_cons, Nat.add_sub_cancel, (by decide : 306 < 1000), (by decide : 306 < 307)]
          refine go ((1 - v) :: vs) _ (by unfold vStep; rw [if_neg (by omega), if_neg (by omega), if_pos h0]) ?_ (Off.rf.wA (by decide))
          rw [wA_21 (by omega), sA_eq]
          refine ⟨?_, stk_up hs.2 (Nat.le_refl _)⟩
          rw [upd_eq, hs.1]
          rfl
      · match st, hs, hlen, go, ht with
        | [], _, hlen, _, _ => simp at hlen
        | [_], _, hlen, _, _ => simp at hlen
        | vy :: vx :: vs, hs, hlen, go, ht =>
          obtain ⟨b1, b2⟩ := tok_b (a := L 6 k) h0
          simp only [List.length_cons] at hlen hl
          have a1 : ¬ (vs.length + 1 + 1 ≤ 1) := by omega
          have a2 : tok (L 5 k) (L 6 k) < 1000 := by omega
          have e1 : nI (vs.length + 1 + 1) + -nI 1 = nI (vs.length + 1) := pk_m1 _
          have hj := joined_s (a := L 6 k) (x := vx) (y := vy) (S := S) h0 (fun q => ht.1.2 (h5 q))
          have s1 : S.2.1 11 (vs.length + 1) = vy := hs.1
          have s2 : S.2.1 11 vs.length = vx := hs.2.1
          simp (disch := omega) only [fa_lit, nI_ltE, nI_leE, nI_eqE, inb_n, rA_n, hcode, hkm, if_true, if_false, La_run_4_c93_eq, La_run_4_c134_eq, a1, a2, b1, b2, e1, nI_add, nI_subE, List.length_cons, Nat.add_sub_cancel, s1, s2, hj, ob]
          refine go (vOp (L 5 k) vx vy :: vs) _ (by unfold vStep; rw [if_neg (by omega), if_neg (by omega), if_neg h0.2.2]) ?_ (Off.rf.wA (by decide))
          rw [wA_21 (by omega), sA_eq]
          exact ⟨by rw [upd_eq], stk_up hs.2.2 (Nat.le_refl _)⟩
/-- a run of the reference's -/
theorem R_run {kn : Nat → Int32} {L : tL} (hL : L 0 1 ≤ 400) {tz : Nat} : ∀ (m k : Nat) (ty : List Nat) (st : List Int32) (S : pS), okRun L k m ty = some [tz] → k + m ≤ L 0 1 → ty.length ≤ 32 → tyd ty st → stk (S.2.1 23) st → (∀ i, i < 9 → S.2.1 22 i = kn i) → (∀ k, k < L 0 1 → S.2.1 15 k = nI (L 5 k) ∧ S.2.1 16 k = nI (L 6 k)) → ∃ S', R_runs_c12 (nI 0) (nI (k + m)) (nI st.length) (nI k) S = some ((vRun kn L k m st).headD 0, S') ∧ Off [] [23] S S' := by
  intro m
  induction m with
  | zero =>
    intro k ty st S h hk hl ht hs hkn hco
    refine ⟨S, ?_, Off.rf⟩
    rw [okRun] at h
    cases h
    rw [R_runs_c12_eq]
    match st, hs, ht with
    | [], _, ht => exact ht.elim
    | _ :: _ :: _, _, ht => exact ht.2.elim
    | [x], hs, ht =>
      have e : (400 : Int32) * nI 0 + nI (k + 0) = nI k := by
        rw [show (400 : Int32) = nI 400 from rfl, pk_mul, nI_add]
        congr 1
        omega
      have : rA S 23 (0 : Int32) = x := hs.1
      rw [e, if_neg (by rw [nI_ltE (by omega) (by omega)]; omega), this]
      rfl
  | succ m ih =>
    intro k ty st S h hk hl ht hs hkn hco
    have hlen := tyd_len ht
    rw [okRun] at h
    cases hst : okStep (L 5 k) (L 6 k) ty with
    | none => rw [hst] at h; cases h
    | some t1 =>
      rw [hst] at h
      obtain ⟨hop, harg⟩ := hco k (by omega)
      have ht1 := tyd_step (kn := kn) hst ht
      have hl1 := ok_len hst hl
      have h : okRun L (k + 1) m t1 = some [tz] := h
      have go : ∀ (st1 : List Int32) (S1 : pS), st1 = vStep kn (L 5 k) (L 6 k) st → stk (S1.2.1 23) st1 → Off [] [23] S S1 → ∃ S', R_runs_c12 (nI 0) (nI (k + (m + 1))) (nI st1.length) (nI (k + 1)) S1 = some ((vRun kn L k (m + 1) st).headD 0, S') ∧ Off [] [23] S S' := by
        intro st1 S1 e1 e2 e3
        subst e1
        obtain ⟨S', q1, q2⟩ := ih (k + 1) t1 _ S1 h (by omega) hl1 ht1 e2 (fun i hi => by rw [e3.2.1 22 (by decide)]; exact hkn i hi) (fun k hk => by rw [e3.2.1 15 (by decide), e3.2.1 16 (by decide)]; exact hco k hk)
        refine ⟨S', ?_, e3.tr q2⟩
        rw [show k + (m + 1) = k + 1 + m from by omega, q1]
        rfl
      rw [R_runs_c12_eq]
      have hkm : k < k + (m + 1) := by omega
      rcases ok_cases hst with ⟨h0, h1, h2, -⟩ | ⟨h0, h1, h2, -⟩ | ⟨h0, r, rfl, -⟩ | ⟨h0, y, x, r, t, rfl, -, h5, h10, h6, -⟩
      · rw [h0] at hop
        simp (disch := omega) only [fa_lit, pk_mul, nI_add, Nat.mul_zero, Nat.zero_add, nI_ltE, inb_n, rA_n, hop, harg, hkm, if_true, R_runs_c45_eq, R_runs_c83_eq]
        refine go (nI (L 6 k) :: st) _ (by unfold vStep; rw [if_pos h0]) ?_ (Off.rf.wA (by decide))
        rw [wA_21 (by omega), sA_eq]
        exact ⟨by rw [upd_eq], stk_up hs (Nat.le_refl _)⟩
      · rw [h0] at hop
        simp (disch := omega) only [fa_lit, pk_mul, nI_add, Nat.mul_zero, Nat.zero_add, nI_ltE, nI_eqE, inb_n, rA_n, hop, harg, hkm, if_true, if_false, R_runs_c45_eq, R_runs_c83_eq, (by decide : ¬ (1 = 0))]
        refine go (kn (L 6 k) :: st) _ (by unfold vStep; rw [if_neg (by omega), if_pos h0]) ?_ (Off.rf.wA (by decide))
        rw [wA_21 (by omega), sA_eq]
        exact ⟨by rw [upd_eq]; exact hkn _ h2, stk_up hs (Nat.le_refl _)⟩
      · match st, hs, hlen, go, ht with
        | [], _, hlen, _, _ => simp at hlen
        | v :: vs, hs, hlen, go, ht =>
          rw [h0] at hop
          simp only [List.length_cons] at hlen hl
          have s1 : S.2.1 23 vs.length = v := hs.1
          simp (disch := omega) only [fa_lit, pk_mul, nI_add, Nat.mul_zero, Nat.zero_add, nI_ltE, nI_eqE, inb_n, rA_n, hop, harg, hkm, if_true, if_false, (by decide : ¬ (9 = 0)), (by decide : ¬ (9 = 1)), nI_subE, List.length_cons, Nat.add_sub_cancel, s1]
          refine go ((1 - v) :: vs) _ (by unfold vStep; rw [if_neg (by omega), if_neg (by omega), if_pos h0]) ?_ (Off.rf.wA (by decide))
          rw [wA_21 (by omega), sA_eq]
          exact ⟨by rw [upd_eq]; rfl, stk_up hs.2 (Nat.le_refl _)⟩
      · match st, hs, hlen, go, ht with
        | [], _, hlen, _, _ => simp at hlen
        | [_], _, hlen, _, _ => simp at hlen
        | vy :: vx :: vs, hs, hlen, go, ht =>
          simp only [List.length_cons] at hlen hl
          have a0 : ¬ L 5 k = 0 := by omega
          have a1 : ¬ L 5 k = 1 := by omega
          have a2 : ¬ L 5 k = 9 := h0.2.2
          have hj := twoOf_s (x := vx) (y := vy) (S := S) h0 (fun q => ht.1.2 (h5 q)) (fun q => ⟨ht.1.1 (h10 q).1, ht.2.1.1 (h10 q).2.1⟩)
          have s1 : S.2.1 23 (vs.length + 1) = vy := hs.1
          have s2 : S.2.1 23 vs.length = vx := hs.2.1
          simp (disch := omega) only [fa_lit, pk_mul, nI_add, Nat.mul_zero, Nat.zero_add, nI_ltE, nI_eqE, inb_n, rA_n, hop, hkm, if_true, if_false, a0, a1, a2, nI_subE, List.length_cons, Nat.add_sub_cancel, s1, s2, hj, ob]
          refine go (vOp (L 5 k) vx vy :: vs) _ (by unfold vStep; rw [if_neg (by omega), if_neg (by omega), if_neg h0.2.2]) ?_ (Off.rf.wA (by decide))
          rw [wA_21 (by omega), sA_eq]
          exact ⟨by rw [upd_eq], stk_up hs.2.2 (Nat.le_refl _)⟩
/-! what is told -/
def age (D : tD) (c : Nat) : Int32 := if 0 < D 7 3 - D 3 c then D 7 3 - D 3 c else 0
def kno (D : tD) (c : Nat) : Nat → Int32 := fun i => if i < 7 then D i c else if i = 7 then age D c else D 7 3
def unl (D : tD) (c w : Nat) : Int32 := if w = 0 then 900 - 20 * age D c else if w = 1 then age D c / 9 else 99 - age D c
def most (w : Nat) : Nat := if w = 0 then 1000 else if w = 1 then 99 else 999
def hel (w : Nat) (v : Int32) : Int32 := if v < 0 then 0 else if v ≤ nI (most w) then v else nI (most w)
def lin? (L : tL) (D : tD) (c w : Nat) : Option Nat := fst? (fun l => decide (L 1 l = w) && (decide (L 3 l = L 4 l) || !decide (vRes (kno D c) L (L 3 l) (L 4 l - L 3 l) = 0))) (L 0 0) 0
def tell (L : tL) (D : tD) (c w : Nat) : Int32 := hel w (match lin? L D c w with
  | some l => vRes (kno D c) L (L 2 l) (L 3 l - L 2 l)
  | none => unl D c w)
theorem most_lt (w : Nat) : most w < 2147483648 := by
  unfold most
  by_cases h : w = 0
  · rw [if_pos h]; omega
  · rw [if_neg h]
    by_cases h : w = 1
    · rw [if_pos h]; omega
    · rw [if_neg h]; omega
theorem hel_b (w : Nat) (v : Int32) : ∃ j, j ≤ most w ∧ hel w v = nI j := by
  have hm := most_lt w
  unfold hel
  by_cases h : v < 0
  · rw [if_pos h]; exact ⟨0, by omega, rfl⟩
  · rw [if_neg h]
    by_cases h2 : v ≤ nI (most w)
    · rw [if_pos h2]
      exact nI_of2 (nI_toInt (by omega)) h h2
    · rw [if_neg h2]; exact ⟨_, Nat.le_refl _, rfl⟩
theorem hel_x (w : Nat) (v : Int32) {S : pS} (hw : w < 3) : La_held (nI w) v S = some (hel w v, S) := by
  have key : ∀ m : Nat, m < 2147483648 → (if (0 : Int32) < (if v < nI m then v else nI m) then (if v < nI m then v else nI m) else (0 : Int32)) = (if v < 0 then 0 else if v ≤ nI m then v else nI m) := by
    intro m hm
    have hmI := nI_toInt (n := m) (by omega)
    have h0 : (0 : Int32).toInt = 0 := rfl
    by_cases a : v < nI m
    · rw [if_pos a]
      by_cases b : (0 : Int32) < v
      · rw [if_pos b, if_neg (fa_of_lt b).2.2.1, if_pos (fa_of_lt a).1]
      · rw [if_neg b]
        by_cases d : v < 0
        · rw [if_pos d]
        · rw [if_neg d, if_pos (fa_of_lt a).1]
          rw [fa_lt] at b d
          rw [fa_eq]
          omega
    · rw [if_neg a]
      rw [fa_lt] at a
      by_cases b : (0 : Int32) < nI m
      · rw [if_pos b]
        have d : ¬ v < 0 := by rw [fa_lt] at b ⊢; omega
        rw [if_neg d]
        by_cases e : v ≤ nI m
        · rw [if_pos e]
          rw [fa_le] at e
          rw [fa_eq]
          omega
        · rw [if_neg e]
      · rw [if_neg b]
        rw [fa_lt] at b
        have d : ¬ v < 0 := by rw [fa_lt]; omega
        rw [if_neg d]
        by_cases e : v ≤ nI m
        · rw [if_pos e]
          rw [fa_le] at e
          rw [fa_eq]
          omega
        · rw [if_neg e, fa_eq]
          omega
  rw [La_held_eq]
  have hc : w = 0 ∨ w = 1 ∨ w = 2 := by omega
  rcases hc with rfl | rfl | rfl
  · rw [if_pos (show nI 0 = (0 : Int32) from rfl), La_held_c23_eq]
    exact congrArg (fun x => some (x, S)) (key 1000 (by omega))
  · rw [if_neg (by decide), if_pos (show nI 1 = (1 : Int32) from rfl), La_held_c23_eq]
    exact congrArg (fun x => some (x, S)) (key 99 (by omega))
  · rw [if_neg (by decide), if_neg (by decide), La_held_c23_eq]
    exact congrArg (fun x => some (x, S)) (key 999 (by omega))
theorem hel_r (w : Nat) (v : Int32) {S : pS} : R_held v 0 (nI (most w)) S = some (hel w v, S) := by
  rw [R_held_eq]
  unfold hel
  by_cases h : v < 0
  · rw [if_pos h, if_pos h]
  · rw [if_neg h, if_neg h]
    by_cases h2 : v ≤ nI (most w)
    · rw [if_pos h2, if_pos h2]
    · rw [if_neg h2, if_neg h2]
theorem unl_x {D : tD} {c w : Nat} {S : pS} (hw : w < 3) : La_unlessTold (nI w) (age D c) S = some (unl D c w, S) := by
  rw [La_unlessTold_eq]
  have hc : w = 0 ∨ w = 1 ∨ w = 2 := by omega
  rcases hc with rfl | rfl | rfl <;> rfl
