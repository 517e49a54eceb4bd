/-! Deeds and years of the reference, on. -/
theorem nI_ne_m1 {k : Nat} (h : k < 2147483648) : ¬ nI k = (-1 : Int32) := by
  have := nI_m1 (k := k) h
  exact fun e => by rw [← this]; exact e
theorem mn99_l (x : Int32) {S : pS} : R_lesser (99 : Int32) x S = some (mn99 x, S) := by
  rw [R_lesser_eq]
  unfold mn99
  by_cases a : (99 : Int32) < x
  · rw [if_pos a, if_neg (fa_of_lt a).2.2.1]
  · rw [if_neg a]
    by_cases b : x < 99
    · rw [if_pos b]
    · rw [if_neg b]
      have : x = 99 := by
        rw [fa_lt] at a b
        rw [fa_eq]
        omega
      rw [this]
theorem drS_c (D : tD) : (1664525 : Int32) * D 7 7 + 1013904223 = drS D := by
  unfold drS
  rw [Int32.mul_comm]
/-- RUNG, the draw, the answer -/
theorem R_hold {th : Bool} {n : Nat} {L : tL} {P : tP} {S : pS} {c : Nat} (hn : n ≤ 14) (hc : c < n) (h : RP th n P S) : ∃ S', R_doesHold (nI c) (tell L P.1 c 0) S = some (b2i (ansW L th P.1 c), S') ∧ RP th n (rchD th P.1 c, P.2) S' ∧ Off [] [1] S S' := by
  have h6 := (h.1.1.1 c (by omega)).2.2.2.2.2.2
  have hw : RP th n (sA P.1 6 c (P.1 6 c + 1), P.2) (wA S 1 (nI (34 + c)) (P.1 6 c + nI 1)) := RP_w (D := P.1) h (by omega) (by omega) (RD_row h.1.1 (by omega) (by omega) hn)
  rw [R_doesHold_eq]
  simp (disch := omega) only [fa_lit, nI_add, inb_n, if_true, rA_n, h6]
  have hof : Off [] [1] S (wA S 1 (nI (34 + c)) (P.1 6 c + nI 1)) := Off.rf.wA (by decide)
  unfold ansW rchD
  cases th
  · have e5 : rF S 0 5 = nI 0 := h.2.1
    rw [if_pos e5, R_draw_eq]
    have e7 : (wA S 1 (nI (34 + c)) (P.1 6 c + nI 1)).2.1 1 1 = P.1 7 7 := by
      have := hw.1.1.2.2.2.1
      simpa only [sA_ne (show (7 : Nat) ≠ 6 by decide)] using this
    have e7' : rA (wA S 1 (nI (34 + c)) (P.1 6 c + nI 1)) 1 (1 : Int32) = P.1 7 7 := e7
    rw [e7', if_neg (show ¬ nI 1000 = (0 : Int32) by decide), ob, drS_c]
    simp only
    have hw2 : RP false n (sA (sA P.1 6 c (P.1 6 c + 1)) 7 7 (drS P.1), P.2) (wA (wA S 1 (nI (34 + c)) (P.1 6 c + nI 1)) 1 (1 : Int32) (drS P.1)) := RP_w (k := 1) hw (by omega) (by omega) (RD_sc hw.1.1 (by omega))
    rw [if_neg Bool.false_ne_true, if_neg Bool.false_ne_true]
    change ∃ S', (if drV (drS P.1) 1000 < tell L P.1 c 0 then _ else _) = _ ∧ _ ∧ _
    by_cases q : drV (drS P.1) 1000 < tell L P.1 c 0
    · rw [decide_eq_true q, if_pos q]
      exact ⟨_, rfl, hw2, hof.wA (by decide)⟩
    · rw [decide_eq_false q, if_neg q]
      exact ⟨_, rfl, hw2, hof.wA (by decide)⟩
  · have e5 : ¬ rF S 0 5 = nI 0 := by
      rw [show rF S 0 5 = 1 from h.2.1]; decide
    rw [if_neg e5, if_pos rfl, if_pos rfl]
    obtain ⟨j, hj, hje⟩ := tell_b L P.1 c 0
    have hj : j ≤ 1000 := hj
    rw [hje]
    simp (disch := omega) only [pk_mul, nI_ltE, fa_lit]
    by_cases q : j < 500
    · rw [if_pos (show 2 * j < 1000 by omega), decide_eq_true q]
      exact ⟨_, rfl, hw, hof⟩
    · rw [if_neg (show ¬ 2 * j < 1000 by omega), decide_eq_false q]
      exact ⟨_, rfl, hw, hof⟩
abbrev WR : List Nat := [1, 7, 22, 23]
theorem RP_tl {th : Bool} {n : Nat} {P : tP} {S S' : pS} (h : RP th n P S) (ho : Off [] [22, 23] S S') : RP th n P S' := RP_off h ho (by simp) (by simp) (by decide) (by decide) (by decide) (by decide) (by decide)
theorem RLm_wr {L : tL} {S S' : pS} (h : RLm L S) (ho : Off [] WR S S') : RLm L S' := RLm_off h ho (fun i a b => by simp; omega)
theorem rch_3 (th : Bool) (D : tD) (c : Nat) : rchD th D c 7 3 = D 7 3 := by
  unfold rchD
  cases th
  · rw [if_neg Bool.false_ne_true, sA_eq, upd_ne (by decide), sA_ne (by decide)]
  · rw [if_pos rfl, sA_ne (by decide)]
theorem rch_r (th : Bool) (D : tD) (c : Nat) {r : Nat} (h : r < 6) : rchD th D c r = D r := by
  unfold rchD
  cases th
  · rw [if_neg Bool.false_ne_true, sA_ne (by omega), sA_ne (by omega)]
  · rw [if_pos rfl, sA_ne (by omega)]
theorem rch_7 (th : Bool) (D : tD) (c : Nat) {i : Nat} (h : i ≠ 7) : rchD th D c 7 i = D 7 i := by
  unfold rchD
  cases th
  · rw [if_neg Bool.false_ne_true, sA_eq, upd_ne h, sA_ne (by decide)]
  · rw [if_pos rfl, sA_ne (by decide)]
theorem R_ringP {th : Bool} {n p c : Nat} {L : tL} {P : tP} {S : pS} (hn : n ≤ 14) (hL : WL L) (hp : p < 100) (h : RP th n P S) (hRL : RLm L S) (hb : bst L P.1 (perQ P.1 (nI p)) n 0 none = some c) : ∃ S', R_rings (nI p) S = some (b2i (ansW L th P.1 c), S') ∧ RP th n (rngP L th P c) S' ∧ Off [] WR S S' := by
  have hc := (bst_some (n := n) (by omega) (fun c e => by cases e) c hb).1
  obtain ⟨S1, q1, q2⟩ := R_best_p hn hL hp h.1 hRL
  rw [hb] at q1
  obtain ⟨S2, r1, r2⟩ := R_tell0 (c := c) hL (RP_tl h q2).1 (RLm_off hRL q2 (fun i a b => by simp; omega)) (by omega)
  obtain ⟨S3, s1, s2, s3⟩ := R_hold (L := L) (c := c) hn hc (RP_tl (RP_tl h q2) r2)
  rw [R_rings_eq, q1, ob]
  have r1 : R_holdsOf (o2i (some c)) S1 = _ := r1
  simp only
  rw [r1, ob]
  have s1 : R_doesHold (o2i (some c)) _ S2 = _ := s1
  simp only
  rw [s1, ob]
  have ho3 : Off [] WR S S3 := ((q2.tr r2).mono (by simp) (by simp)).tr (s3.mono (by simp) (by simp))
  have e5 : S3.2.1 1 (20 + c) = P.1 5 c := by
    have := (s2.1.1.1 c (by omega)).2.2.2.2.2.1
    rw [this]
    simp only
    rw [rch_r _ _ _ (by omega)]
  have e3 : rA S3 1 (0 : Int32) = P.1 7 3 := by
    have := s2.1.1.2.2.1
    rw [show rA S3 1 (0 : Int32) = S3.2.1 1 0 from rfl, this]
    simp only
    rw [rch_3]
  simp only [show o2i (some c) = nI c from rfl]
  unfold rngP
  cases ansW L th P.1 c
  · rw [b2i_f, if_pos rfl]
    simp (disch := omega) only [show (20 : Int32) = nI 20 from rfl, nI_add, inb_n, if_true, rA_n, e5, mn99_l, ob, R_rings_c71_eq, R_rings_c82_eq]
    have hw : RP th n (sA (rchD th P.1 c) 5 c (mn99 (P.1 5 c + 9)), P.2) (wA S3 1 (nI (20 + c)) (mn99 (P.1 5 c + 9))) := RP_w s2 (by omega) (by omega) (RD_row s2.1.1 (by omega) (by omega) hn)
    obtain ⟨S4, t1, t2, t3⟩ := R_noteP (a := 1) (b := nI c) (c := tell L P.1 c 0) hw
    rw [t1, ob]
    refine ⟨S4, rfl, ?_, (ho3.wA (by decide)).tr (t3.mono (by simp) (by simp))⟩
    have e : sA (rchD th P.1 c) 5 c (mn99 (P.1 5 c + 9)) 7 3 = P.1 7 3 := by rw [sA_ne (by decide), rch_3]
    simp only [e] at t2
    exact t2
  · rw [b2i_t, if_neg (by decide), e3]
    simp (disch := omega) only [show (6 : Int32) = nI 6 from rfl, nI_add, inb_n, if_true, R_rings_c71_eq, R_rings_c82_eq]
    rw [if_neg (by decide)]
    have hw : RP th n (sA (rchD th P.1 c) 3 c (P.1 7 3), P.2) (wA S3 1 (nI (6 + c)) (P.1 7 3)) := RP_w s2 (by omega) (by omega) (RD_row s2.1.1 (by omega) (by omega) hn)
    obtain ⟨S4, t1, t2, t3⟩ := R_noteP (a := 0) (b := nI c) (c := tell L P.1 c 0) hw
    rw [t1, ob, if_neg (by decide)]
    refine ⟨S4, rfl, ?_, (ho3.wA (by decide)).tr (t3.mono (by simp) (by simp))⟩
    have e : sA (rchD th P.1 c) 3 c (P.1 7 3) 7 3 = P.1 7 3 := by rw [sA_ne (by decide), rch_3]
    simp only [e] at t2
    exact t2
theorem R_lst {n : Nat} {L : tL} {D : tD} (hn : n ≤ 14) (hL : WL L) : ∀ (k i : Nat) (b : Option Nat) (S : pS), i + k = n → (∀ c, b = some c → c < n) → RDm n D S → RLm L S → ∃ S', R_leastWorth_c4 (o2i b) (nI i) S = some (o2i (lst L D k i b), S') ∧ Off [] [22, 23] S S' := by
  intro k
  induction k with
  | zero =>
    intro i b S hi hb hR hRL
    refine ⟨S, ?_, Off.rf⟩
    rw [R_leastWorth_c4_eq, show rF S 0 6 = nI n from hR.2]
    have a : ¬ i < n := by omega
    simp (disch := omega) only [nI_ltE, a, if_false]
    rfl
  | succ k ih =>
    intro i b S hi hb hR hRL
    have hin : i < n := by omega
    rw [R_leastWorth_c4_eq, show rF S 0 6 = nI n from hR.2]
    simp (disch := omega) only [nI_ltE, hin, if_true, R_kept hR hn hin, ob]
    have go : ∀ (b' : Option Nat) (S1 : pS), Off [] [22, 23] S S1 → (∀ c, b' = some c → c < n) → lstS L D i b = b' → ∃ S', R_leastWorth_c4 (o2i b') (nI i + 1) S1 = some (o2i (lst L D (k + 1) i b), S') ∧ Off [] [22, 23] S S' := by
      intro b' S1 ho hb' e
      obtain ⟨S', q1, q2⟩ := ih (i + 1) b' S1 (by omega) hb' (RDm_off hR ho (by simp) (by decide) (by decide) (by decide) (by decide)) (RLm_off hRL ho (fun i a b => by simp; omega))
      refine ⟨S', ?_, ho.tr q2⟩
      rw [nI_1, q1, ← e]
      rfl
    cases a : bt (D 7 2) i
    · rw [b2i_f, if_pos rfl]
      exact go b S Off.rf hb (lstS_no a)
    · rw [b2i_t, if_neg (by decide)]
      cases b with
      | none =>
        rw [if_pos (show o2i none = (-1 : Int32) from rfl)]
        exact go (some i) S Off.rf (fun c e => by cases e; exact hin) (lstS_0 a)
      | some b0 =>
        have hb0 := hb b0 rfl
        rw [show o2i (some b0) = nI b0 from rfl, if_neg (nI_ne_m1 (by omega))]
        obtain ⟨S1, q1, q2⟩ := R_tell2 (c := i) hL hR hRL (by omega)
        rw [q1, ob]
        obtain ⟨S2, r1, r2⟩ := R_tell2 (c := b0) hL (RDm_off hR q2 (by simp) (by decide) (by decide) (by decide) (by decide)) (RLm_off hRL q2 (fun i a b => by simp; omega)) (by omega)
        simp only
        rw [r1, ob]
        by_cases e : tell L D i 2 < tell L D b0 2
        · rw [if_pos e]
          exact go (some i) S2 (q2.tr r2) (fun c e => by cases e; exact hin) (by rw [lstS_1 a, if_pos e])
        · rw [if_neg e]
          exact go (some b0) S2 (q2.tr r2) hb (by rw [lstS_1 a, if_neg e])
theorem R_least {n : Nat} {L : tL} {D : tD} {S : pS} (hn : n ≤ 14) (hL : WL L) (hR : RDm n D S) (hRL : RLm L S) : ∃ S', R_leastWorth S = some (o2i (lst L D n 0 none), S') ∧ Off [] [22, 23] S S' := by
  rw [R_leastWorth_eq]
  exact R_lst hn hL n 0 none S (by omega) (fun c e => by cases e) hR hRL
theorem ths_none {L : tL} {th : Bool} {n m : Nat} {P : tP} (h : lst L P.1 n 0 none = none) : ∀ k, thsP L th n k m P = (m, P)
  | 0 => rfl
  | k + 1 => by rw [thsP, h]
theorem b_drp {x : Int32} {c c' : Nat} (hc : c < 32) (hc' : c' < 32) : bt (x &&& (bit c ^^^ (-1))) c' = (bt x c' && !decide (c' = c)) := by rw [b_and, b_not _ hc', bt_bit hc]
theorem R_throws {th : Bool} {n : Nat} {L : tL} (hn : n ≤ 14) (hL : WL L) : ∀ (k i m : Nat) (P : tP) (S : pS), i + k < 1000 → RP th n P S → RLm L S → ∃ S', R_throwsSome_c4 (nI (i + k)) (nI m) (nI i) S = some (nI (thsP L th n k m P).1, S') ∧ RP th n (thsP L th n k m P).2 S' ∧ Off [] WR S S' := by
  intro k
  induction k with
  | zero =>
    intro i m P S hi h hRL
    refine ⟨S, ?_, h, Off.rf⟩
    rw [R_throwsSome_c4_eq, if_neg (by rw [nI_ltE (by omega) (by omega)]; omega)]
    rfl
  | succ k ih =>
    intro i m P S hi h hRL
    rw [R_throwsSome_c4_eq, if_pos (by rw [nI_ltE (by omega) (by omega)]; omega)]
    obtain ⟨S1, q1, q2⟩ := R_least hn hL h.1 hRL
    rw [q1, ob]
    have ho1 : Off [] WR S S1 := q2.mono (by simp) (by simp)
    simp only
    cases hl : lst L P.1 n 0 none with
    | none =>
      rw [if_pos (show o2i none = (-1 : Int32) from rfl), nI_1]
      obtain ⟨S', r1, r2, r3⟩ := ih (i + 1) m P S1 (by omega) (RP_tl h q2) (RLm_wr hRL ho1)
      rw [show i + 1 + k = i + (k + 1) from by omega] at r1
      rw [ths_none hl] at r1 r2 ⊢
      exact ⟨S', r1, r2, ho1.tr r3⟩
    | some c =>
      have hc := lst_some (n := n) (by omega) (fun c e => by cases e) c hl
      rw [show o2i (some c) = nI c from rfl, if_neg (nI_ne_m1 (by omega))]
      obtain ⟨S2, r1, r2⟩ := R_tell2 (c := c) hL (RP_tl h q2).1 (RLm_wr hRL ho1) (by omega)
      rw [r1, ob]
      simp only
      obtain ⟨S3, s1, s2, s3⟩ := R_noteP (a := 2) (b := nI c) (c := tell L P.1 c 2) (RP_tl (RP_tl h q2) r2)
      rw [s1, ob]
      simp (disch := omega) only [show (48 : Int32) = nI 48 from rfl, nI_add, inb_n, if_true, nI_1]
      have hw : RP th n (thrP L th P c) (wA S3 1 (nI (48 + c)) 1) := by
        refine RP_w (D' := drp P.1 c) s2 (by omega) (by omega) (RD_kept s2.1.1 (by omega) hn (fun c' h1 h2 => ?_) ?_)
        · rw [b_drp (by omega) (by omega), decide_eq_false h2, Bool.not_false, Bool.and_true]
        · rw [b_drp (by omega) (by omega), decide_eq_true rfl, Bool.not_true, Bool.and_false]
          rfl
      have ho3 : Off [] WR S (wA S3 1 (nI (48 + c)) 1) := ((ho1.tr (r2.mono (by simp) (by simp))).tr (s3.mono (by simp) (by simp))).wA (by decide)
      obtain ⟨S', t1, t2, t3⟩ := ih (i + 1) (m + 1) _ _ (by omega) hw (RLm_wr hRL ho3)
      rw [show i + 1 + k = i + (k + 1) from by omega] at t1
      rw [thsP, hl]
      exact ⟨S', t1, t2, ho3.tr t3⟩
