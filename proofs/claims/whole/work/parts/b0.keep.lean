/-! Deeds of the class: the keeper at cell 25, its drawer at 1. -/
theorem holds_s (x : Int32) {c : Nat} (hc : c < 32) {S : pS} : C_holdsBit x (nI c) S = some (b2i (bt x c), S) := by
  rw [C_holdsBit_eq, b_tst x hc]
  cases bt x c <;> rfl
theorem XD_row {o : Nat} {D : tD} {S : pS} {r c : Nat} {v : Int32} (h : XD o D S) (hr : r < 7) (hc : c < 14) : XD o (sA D r c v) (wA S (o + 1) (nI (r * 14 + c)) v) := by
  refine ⟨fun r' c' hr' hc' => ?_, fun i h1 h2 => ?_⟩
  · rw [wA_21 (by omega), sA_eq, upd_at, sA_row]
    by_cases e : r' = r
    · subst e
      rw [if_pos rfl, upd_at]
      by_cases e2 : c' = c
      · rw [if_pos (by omega), if_pos e2]
      · rw [if_neg (by omega), if_neg e2]
        exact h.1 r' c' hr' hc'
    · rw [if_neg e, if_neg (by omega)]
      exact h.1 r' c' hr' hc'
  · rw [sA_ne (by omega)]
    exact h.2 i h1 h2
theorem XD_f {o : Nat} {D : tD} {S : pS} {i : Nat} {v : Int32} (h : XD o D S) : XD o (sA D 7 i v) (wF S o i v) := by
  refine ⟨fun r' c' hr' hc' => ?_, fun j h1 h2 => ?_⟩
  · rw [sA_ne (by omega)]
    exact h.1 r' c' hr' hc'
  · rw [wF_1, sA_eq, sA_eq, upd_at, upd_at, h.2 j h1 h2]
theorem XD_off {o : Nat} {D : tD} {S S' : pS} {F : List (Nat × Nat)} {W : List Nat} (h : XD o D S) (ho : Off F W S S') (h1 : ∀ i, 1 ≤ i → i < 8 → (o, i) ∉ F) (h2 : o + 1 ∉ W) : XD o D S' := ⟨fun r c hr hc => by rw [ho.2.1 _ h2]; exact h.1 r c hr hc, fun i a b => by rw [ho.1 _ _ (h1 i a b)]; exact h.2 i a b⟩
/-- a drawer and its book -/
def XP_25 (P : tP) (S : pS) : Prop := XD 1 P.1 S ∧ S.1 25 3 = 0 ∧ S.1 23 0 = nI 150 ∧ P.2.1 ≤ 150 ∧ S.1 23 2 = nI P.2.1 ∧ ∀ i, i < 4 * P.2.1 → S.2.1 24 i = P.2.2 i
abbrev FK_25 : List (Nat × Nat) := [(1, 2), (1, 3), (1, 4), (1, 5), (1, 6), (1, 7), (25, 4), (23, 2)]
abbrev WK_25 : List Nat := [2, 24, 10, 11]
theorem XP_off_25 {P : tP} {S S' : pS} (h : XP_25 P S) (ho : Off [(25, 4)] [10, 11] S S') : XP_25 P S' := by
  obtain ⟨a, b, c, d, e, f⟩ := h
  refine ⟨XD_off a ho (fun i h1 h2 => by simp) (by decide), by rw [ho.1 _ _ (by decide)]; exact b, by rw [ho.1 _ _ (by decide)]; exact c, d, by rw [ho.1 _ _ (by decide)]; exact e, by rw [ho.2.1 24 (by decide)]; exact f⟩
theorem XP_row_25 {D : tD} {B : tB} {S : pS} {r c : Nat} {v : Int32} (h : XP_25 (D, B) S) (hr : r < 7) (hc : c < 14) : XP_25 (sA D r c v, B) (wA S 2 (nI (r * 14 + c)) v) := by
  obtain ⟨a, b, c, d, e, f⟩ := h
  exact ⟨XD_row (o := 1) a hr hc, b, c, d, e, by rw [wA_21 (by omega), sA_ne (by decide)]; exact f⟩
theorem XP_f_25 {D : tD} {B : tB} {S : pS} {i : Nat} {v : Int32} (h : XP_25 (D, B) S) : XP_25 (sA D 7 i v, B) (wF S 1 i v) := by
  obtain ⟨a, b, c, d, e, f⟩ := h
  exact ⟨XD_f a, by rw [wF_1, sA_ne (by decide)]; exact b, by rw [wF_1, sA_ne (by decide)]; exact c, d, by rw [wF_1, sA_ne (by decide)]; exact e, f⟩
theorem write_1 {r c : Nat} {v : Int32} {S : pS} (hr : r < 7) (hc : c < 14) : Dr_write_1 (nI c) (nI r) v S = some (0, wA S 2 (nI (r * 14 + c)) v) := by
  rw [Dr_write_1_eq, show C_within (nI c) (14 : Int32) S = _ from wth (m := 14) hc (by omega), ob, if_neg (show ¬ (1 : Int32) = 0 by decide), show C_within (nI r) (7 : Int32) S = _ from wth (m := 7) hr (by omega), ob, if_neg (show ¬ (1 : Int32) = 0 by decide)]
  simp (disch := omega) only [fa_lit, pk_mul, nI_add, inb_n, if_true]
theorem kept_1 {D : tD} {S : pS} {c : Nat} (hX : XD 1 D S) (hc : c < 32) : Dr_isKept_1 (nI c) S = some (b2i (bt (D 7 2) c), S) := by
  rw [Dr_isKept_1_eq, show rF S 1 2 = D 7 2 from hX.2 2 (by omega) (by omega), holds_s _ hc, ob, if_pos (b2i_pB _)]
theorem cards_1 {n : Nat} {D : tD} {S : pS} (hD : WD n D) (hX : XD 1 D S) : S.1 1 1 = nI n := (hX.2 1 (by omega) (by omega)).trans hD.2.1
def kwQ (D : tD) (r : Nat) (v : Int32) : Nat → Bool := fun c => bt (D 7 2) c && decide (D r c = v)
def kw (D : tD) (r : Nat) (v : Int32) (n : Nat) : Int32 := orl (kwQ D r v) (fun c => c) n 0 0
theorem kw_bt {D : tD} {r n : Nat} {v : Int32} (hn : n ≤ 32) (x : Nat) : bt (kw D r v n) x = (decide (x < n) && kwQ D r v x) := by
  unfold kw
  rw [orl_bt (n := 0) n 0 0 (fun j h1 h2 _ => by omega), b_0, Bool.false_or]
  rw [Bool.eq_iff_iff, List.any_eq_true, Bool.and_eq_true, decide_eq_true_eq]
  constructor
  · rintro ⟨c, h1, h2⟩
    rw [List.mem_range'_1] at h1
    rw [Bool.and_eq_true, decide_eq_true_eq] at h2
    obtain ⟨h2, rfl⟩ := h2
    exact ⟨by omega, h2⟩
  · rintro ⟨h1, h2⟩
    refine ⟨x, ?_, ?_⟩
    · rw [List.mem_range'_1]; omega
    · rw [h2, decide_eq_true rfl]; rfl
theorem kw_low {D : tD} {r n : Nat} {v : Int32} (hn : n ≤ 32) : lowm (kw D r v n) n := fun i hi => by rw [kw_bt hn, decide_eq_false (by omega), Bool.false_and]
theorem keptW_1 {n r : Nat} {D : tD} {v : Int32} {S : pS} (hD : WD n D) (hX : XD 1 D S) (hr : r < 7) : Dr_keptWith_1 (nI r) v S = some (kw D r v n, S) := by
  have hn := hD.1
  have go : ∀ (k i : Nat) (m : Int32), i + k = n → Dr_keptWith_1_c5 (nI r) v m (nI i) S = some (orl (kwQ D r v) (fun c => c) k i m, S) := by
    intro k
    induction k with
    | zero =>
      intro i m hi
      rw [Dr_keptWith_1_c5_eq, show rF S 1 1 = nI n from cards_1 hD hX, if_neg (by rw [nI_ltE (by omega) (by omega)]; omega)]
      rfl
    | succ k ih =>
      intro i m hi
      have e : orl (kwQ D r v) (fun c => c) (k + 1) i m = orl (kwQ D r v) (fun c => c) k (i + 1) (if kwQ D r v i then m ||| bit i else m) := rfl
      rw [Dr_keptWith_1_c5_eq, show rF S 1 1 = nI n from cards_1 hD hX, if_pos (by rw [nI_ltE (by omega) (by omega)]; omega), kept_1 hX (by omega), ob, e, nI_1]
      simp only
      unfold kwQ at *
      cases bt (D 7 2) i
      · rw [b2i_f, if_pos rfl]
        exact ih (i + 1) m (by omega)
      · rw [b2i_t, if_neg (by decide), read_1 (n := 0) hX hr (by omega), ob]
        simp only
        by_cases q : D r i = v
        · rw [if_pos q, decide_eq_true q]
          exact ih (i + 1) _ (by omega)
        · rw [if_neg q, decide_eq_false q]
          exact ih (i + 1) m (by omega)
  rw [Dr_keptWith_1_eq]
  exact go n 0 0 (by omega)
theorem bst_cong {L : tL} {D : tD} {q q' : Nat → Bool} {k i : Nat} {b : Option Nat} (h : ∀ j, i ≤ j → j < i + k → q j = q' j) : bst L D q k i b = bst L D q' k i b := lp_cong (fun j h1 h2 x => by unfold bstS; rw [h j h1 h2])
def gh (L : tL) (D : tD) : Option Nat → Int32
  | none => -1
  | some c => tell L D c 0
theorem like_25 {n : Nat} {L : tL} {D : tD} {set : Int32} (hD : WD n D) (hL : WL L) : ∀ (k i : Nat) (b : Option Nat) (S : pS), i + k = n → (∀ c, b = some c → c < n) → XD 1 D S → XL 4 L S → S.1 25 4 = gh L D b → ∃ S', Ke_likeliest_25_c9 set (o2i b) (nI i) S = some (o2i (bst L D (bt set) k i b), S') ∧ S'.1 25 4 = gh L D (bst L D (bt set) k i b) ∧ Off [(25, 4)] [10, 11] S S' := by
  have hn := hD.1
  intro k
  induction k with
  | zero =>
    intro i b S hi hb hX hXL hg
    rw [Ke_likeliest_25_c9_eq, show rF S 1 1 = nI n from cards_1 hD hX, if_neg (by rw [nI_ltE (by omega) (by omega)]; omega)]
    exact ⟨S, rfl, hg, Off.rf⟩
  | succ k ih =>
    intro i b S hi hb hX hXL hg
    rw [Ke_likeliest_25_c9_eq, show rF S 1 1 = nI n from cards_1 hD hX, if_pos (by rw [nI_ltE (by omega) (by omega)]; omega), holds_s _ (by omega), ob]
    have go : ∀ (b' : Option Nat) (S1 : pS), Off [(25, 4)] [10, 11] S S1 → (∀ c, b' = some c → c < n) → S1.1 25 4 = gh L D b' → bstS L D (bt set) i b = b' → ∃ S', Ke_likeliest_25_c9 set (o2i b') (nI i + 1) S1 = some (o2i (bst L D (bt set) (k + 1) i b), S') ∧ S'.1 25 4 = gh L D (bst L D (bt set) (k + 1) i b) ∧ Off [(25, 4)] [10, 11] S S' := by
      intro b' S1 ho hb' hg' e
      obtain ⟨S', q1, q2, q3⟩ := ih (i + 1) b' S1 (by omega) hb' (XD_off hX ho (fun i h1 h2 => by simp) (by decide)) (XL_off hXL ho (by decide) (by decide) (by decide) (by decide) (by decide) (by decide) (by decide)) hg'
      rw [← e] at q1 q2
      rw [nI_1, ← e]
      exact ⟨S', q1, q2, ho.tr q3⟩
    simp only
    cases hs : bt set i
    · rw [b2i_f, if_pos rfl]
      exact go b S Off.rf hb hg (bstS_no hs)
    · rw [b2i_t, if_neg (by decide)]
      obtain ⟨S1, q1, q2⟩ := tell_1 (c := i) (w := 0) hD hL hX hXL (by omega) (by omega)
      have q1 : La_tell_4_1 (nI i) (0 : Int32) S = _ := q1
      rw [q1, ob]
      simp only
      have eg : rF S1 25 4 = gh L D b := by rw [show rF S1 25 4 = S1.1 25 4 from rfl, q2.1 _ _ (by simp)]; exact hg
      rw [eg]
      have ho1 : Off [(25, 4)] [10, 11] S S1 := q2.mono (by simp) (by simp)
      have yes : ∀ b' : Option Nat, b' = some i → bstS L D (bt set) i b = b' → ∃ S', Ke_likeliest_25_c9 set (nI i) (nI i + 1) (wF S1 25 4 (tell L D i 0)) = some (o2i (bst L D (bt set) (k + 1) i b), S') ∧ S'.1 25 4 = gh L D (bst L D (bt set) (k + 1) i b) ∧ Off [(25, 4)] [10, 11] S S' := by
        intro b' hb' e
        subst hb'
        exact go (some i) (wF S1 25 4 (tell L D i 0)) (ho1.wF (by decide)) (fun c e => by cases e; omega) (by rw [wF_1, sA_eq, upd_eq]; rfl) e
      cases b with
      | none =>
        obtain ⟨j, hj, hje⟩ := tell_b L D i 0
        have hj : j ≤ 1000 := hj
        have : ¬ tell L D i 0 ≤ gh L D none := by
          rw [hje]
          have := m1_le (k := j) (by omega)
          exact fun e => by rw [← this]; exact e
        rw [if_neg this]
        exact yes _ rfl (bstS_0 hs)
      | some b0 =>
        by_cases e : tell L D i 0 ≤ tell L D b0 0
        · rw [if_pos (show tell L D i 0 ≤ gh L D (some b0) from e)]
          exact go (some b0) S1 ho1 hb eg (by rw [bstS_1 hs, if_pos e])
        · rw [if_neg (show ¬ tell L D i 0 ≤ gh L D (some b0) from e)]
          exact yes _ rfl (by rw [bstS_1 hs, if_neg e])
theorem likely_25 {n : Nat} {L : tL} {P : tP} {S : pS} {set : Int32} {q : Nat → Bool} (hD : WD n P.1) (hL : WL L) (h : XP_25 P S) (hXL : XL 4 L S) (hq : ∀ c, c < n → bt set c = q c) : ∃ S', Ke_likeliest_25 set S = some (o2i (bst L P.1 q n 0 none), S') ∧ S'.1 25 4 = gh L P.1 (bst L P.1 q n 0 none) ∧ XP_25 P S' ∧ Off [(25, 4)] [10, 11] S S' := by
  have ho : Off [(25, 4)] [10, 11] S (wF S 25 4 (-1)) := Off.rf.wF (by decide)
  obtain ⟨S', q1, q2, q3⟩ := like_25 (set := set) hD hL n 0 none (wF S 25 4 (-1)) (by omega) (fun c e => by cases e) (XP_off_25 h ho).1 (XL_off hXL ho (by decide) (by decide) (by decide) (by decide) (by decide) (by decide) (by decide)) (by rw [wF_1, sA_eq, upd_eq]; rfl)
  rw [bst_cong (q' := q) (fun j h1 h2 => hq j (by omega))] at q1 q2
  refine ⟨S', ?_, q2, XP_off_25 h (ho.tr q3), ho.tr q3⟩
  rw [Ke_likeliest_25_eq]
  exact q1
/-! Deeds of the class: the keeper at cell 28, its drawer at 26. -/
def XP_28 (P : tP) (S : pS) : Prop := XD 26 P.1 S ∧ S.1 28 3 = 1 ∧ S.1 29 0 = 0 ∧ S.1 29 2 = 0
abbrev FK_28 : List (Nat × Nat) := [(26, 2), (26, 3), (26, 4), (26, 5), (26, 6), (26, 7), (28, 4)]
abbrev WK_28 : List Nat := [27, 10, 11]
theorem XP_off_28 {P : tP} {S S' : pS} (h : XP_28 P S) (ho : Off [(28, 4)] [10, 11] S S') : XP_28 P S' := by
  obtain ⟨a, b, c, d⟩ := h
  refine ⟨XD_off a ho (fun i h1 h2 => by simp) (by decide), by rw [ho.1 _ _ (by decide)]; exact b, by rw [ho.1 _ _ (by decide)]; exact c, by rw [ho.1 _ _ (by decide)]; exact d⟩
theorem XP_row_28 {D : tD} {B : tB} {S : pS} {r c : Nat} {v : Int32} (h : XP_28 (D, B) S) (hr : r < 7) (hc : c < 14) : XP_28 (sA D r c v, B) (wA S 27 (nI (r * 14 + c)) v) := by
  obtain ⟨a, b, c, d⟩ := h
  exact ⟨XD_row (o := 26) a hr hc, b, c, d⟩
theorem XP_f_28 {D : tD} {B : tB} {S : pS} {i : Nat} {v : Int32} (h : XP_28 (D, B) S) : XP_28 (sA D 7 i v, B) (wF S 26 i v) := by
  obtain ⟨a, b, c, d⟩ := h
  exact ⟨XD_f a, by rw [wF_1, sA_ne (by decide)]; exact b, by rw [wF_1, sA_ne (by decide)]; exact c, by rw [wF_1, sA_ne (by decide)]; exact d⟩
theorem write_26 {r c : Nat} {v : Int32} {S : pS} (hr : r < 7) (hc : c < 14) : Dr_write_26 (nI c) (nI r) v S = some (0, wA S 27 (nI (r * 14 + c)) v) := by
  rw [Dr_write_26_eq, show C_within (nI c) (14 : Int32) S = _ from wth (m := 14) hc (by omega), ob, if_neg (show ¬ (1 : Int32) = 0 by decide), show C_within (nI r) (7 : Int32) S = _ from wth (m := 7) hr (by omega), ob, if_neg (show ¬ (1 : Int32) = 0 by decide)]
  simp (disch := omega) only [fa_lit, pk_mul, nI_add, inb_n, if_true]
theorem kept_26 {D : tD} {S : pS} {c : Nat} (hX : XD 26 D S) (hc : c < 32) : Dr_isKept_26 (nI c) S = some (b2i (bt (D 7 2) c), S) := by
  rw [Dr_isKept_26_eq, show rF S 26 2 = D 7 2 from hX.2 2 (by omega) (by omega), holds_s _ hc, ob, if_pos (b2i_pB _)]
theorem cards_26 {n : Nat} {D : tD} {S : pS} (hD : WD n D) (hX : XD 26 D S) : S.1 26 1 = nI n := (hX.2 1 (by omega) (by omega)).trans hD.2.1
theorem keptW_26 {n r : Nat} {D : tD} {v : Int32} {S : pS} (hD : WD n D) (hX : XD 26 D S) (hr : r < 7) : Dr_keptWith_26 (nI r) v S = some (kw D r v n, S) := by
  have hn := hD.1
  have go : ∀ (k i : Nat) (m : Int32), i + k = n → Dr_keptWith_26_c5 (nI r) v m (nI i) S = some (orl (kwQ D r v) (fun c => c) k i m, S) := by
    intro k
    induction k with
    | zero =>
      intro i m hi
      rw [Dr_keptWith_26_c5_eq, show rF S 26 1 = nI n from cards_26 hD hX, if_neg (by rw [nI_ltE (by omega) (by omega)]; omega)]
      rfl
    | succ k ih =>
      intro i m hi
      have e : orl (kwQ D r v) (fun c => c) (k + 1) i m = orl (kwQ D r v) (fun c => c) k (i + 1) (if kwQ D r v i then m ||| bit i else m) := rfl
      rw [Dr_keptWith_26_c5_eq, show rF S 26 1 = nI n from cards_26 hD hX, if_pos (by rw [nI_ltE (by omega) (by omega)]; omega), kept_26 hX (by omega), ob, e, nI_1]
      simp only
      unfold kwQ at *
      cases bt (D 7 2) i
      · rw [b2i_f, if_pos rfl]
        exact ih (i + 1) m (by omega)
      · rw [b2i_t, if_neg (by decide), read_26 (n := 0) hX hr (by omega), ob]
        simp only
        by_cases q : D r i = v
        · rw [if_pos q, decide_eq_true q]
          exact ih (i + 1) _ (by omega)
        · rw [if_neg q, decide_eq_false q]
          exact ih (i + 1) m (by omega)
  rw [Dr_keptWith_26_eq]
  exact go n 0 0 (by omega)
theorem like_28 {n : Nat} {L : tL} {D : tD} {set : Int32} (hD : WD n D) (hL : WL L) : ∀ (k i : Nat) (b : Option Nat) (S : pS), i + k = n → (∀ c, b = some c → c < n) → XD 26 D S → XL 4 L S → S.1 28 4 = gh L D b → ∃ S', Ke_likeliest_28_c9 set (o2i b) (nI i) S = some (o2i (bst L D (bt set) k i b), S') ∧ S'.1 28 4 = gh L D (bst L D (bt set) k i b) ∧ Off [(28, 4)] [10, 11] S S' := by
  have hn := hD.1
  intro k
  induction k with
  | zero =>
    intro i b S hi hb hX hXL hg
    rw [Ke_likeliest_28_c9_eq, show rF S 26 1 = nI n from cards_26 hD hX, if_neg (by rw [nI_ltE (by omega) (by omega)]; omega)]
    exact ⟨S, rfl, hg, Off.rf⟩
  | succ k ih =>
    intro i b S hi hb hX hXL hg
    rw [Ke_likeliest_28_c9_eq, show rF S 26 1 = nI n from cards_26 hD hX, if_pos (by rw [nI_ltE (by omega) (by omega)]; omega), holds_s _ (by omega), ob]
    have go : ∀ (b' : Option Nat) (S1 : pS), Off [(28, 4)] [10, 11] S S1 → (∀ c, b' = some c → c < n) → S1.1 28 4 = gh L D b' → bstS L D (bt set) i b = b' → ∃ S', Ke_likeliest_28_c9 set (o2i b') (nI i + 1) S1 = some (o2i (bst L D (bt set) (k + 1) i b), S') ∧ S'.1 28 4 = gh L D (bst L D (bt set) (k + 1) i b) ∧ Off [(28, 4)] [10, 11] S S' := by
      intro b' S1 ho hb' hg' e
      obtain ⟨S', q1, q2, q3⟩ := ih (i + 1) b' S1 (by omega) hb' (XD_off hX ho (fun i h1 h2 => by simp) (by decide)) (XL_off hXL ho (by decide) (by decide) (by decide) (by decide) (by decide) (by decide) (by decide)) hg'
      rw [← e] at q1 q2
      rw [nI_1, ← e]
      exact ⟨S', q1, q2, ho.tr q3⟩
    simp only
    cases hs : bt set i
    · rw [b2i_f, if_pos rfl]
      exact go b S Off.rf hb hg (bstS_no hs)
    · rw [b2i_t, if_neg (by decide)]
      obtain ⟨S1, q1, q2⟩ := tell_26 (c := i) (w := 0) hD hL hX hXL (by omega) (by omega)
      have q1 : La_tell_4_26 (nI i) (0 : Int32) S = _ := q1
      rw [q1, ob]
      simp only
      have eg : rF S1 28 4 = gh L D b := by rw [show rF S1 28 4 = S1.1 28 4 from rfl, q2.1 _ _ (by simp)]; exact hg
      rw [eg]
      have ho1 : Off [(28, 4)] [10, 11] S S1 := q2.mono (by simp) (by simp)
      have yes : ∀ b' : Option Nat, b' = some i → bstS L D (bt set) i b = b' → ∃ S', Ke_likeliest_28_c9 set (nI i) (nI i + 1) (wF S1 28 4 (tell L D i 0)) = some (o2i (bst L D (bt set) (k + 1) i b), S') ∧ S'.1 28 4 = gh L D (bst L D (bt set) (k + 1) i b) ∧ Off [(28, 4)] [10, 11] S S' := by
        intro b' hb' e
        subst hb'
        exact go (some i) (wF S1 28 4 (tell L D i 0)) (ho1.wF (by decide)) (fun c e => by cases e; omega) (by rw [wF_1, sA_eq, upd_eq]; rfl) e
      cases b with
      | none =>
        obtain ⟨j, hj, hje⟩ := tell_b L D i 0
        have hj : j ≤ 1000 := hj
        have : ¬ tell L D i 0 ≤ gh L D none := by
          rw [hje]
          have := m1_le (k := j) (by omega)
          exact fun e => by rw [← this]; exact e
        rw [if_neg this]
        exact yes _ rfl (bstS_0 hs)
      | some b0 =>
        by_cases e : tell L D i 0 ≤ tell L D b0 0
        · rw [if_pos (show tell L D i 0 ≤ gh L D (some b0) from e)]
          exact go (some b0) S1 ho1 hb eg (by rw [bstS_1 hs, if_pos e])
        · rw [if_neg (show ¬ tell L D i 0 ≤ gh L D (some b0) from e)]
          exact yes _ rfl (by rw [bstS_1 hs, if_neg e])
theorem likely_28 {n : Nat} {L : tL} {P : tP} {S : pS} {set : Int32} {q : Nat → Bool} (hD : WD n P.1) (hL : WL L) (h : XP_28 P S) (hXL : XL 4 L S) (hq : ∀ c, c < n → bt set c = q c) : ∃ S', Ke_likeliest_28 set S = some (o2i (bst L P.1 q n 0 none), S') ∧ S'.1 28 4 = gh L P.1 (bst L P.1 q n 0 none) ∧ XP_28 P S' ∧ Off [(28, 4)] [10, 11] S S' := by
  have ho : Off [(28, 4)] [10, 11] S (wF S 28 4 (-1)) := Off.rf.wF (by decide)
  obtain ⟨S', q1, q2, q3⟩ := like_28 (set := set) hD hL n 0 none (wF S 28 4 (-1)) (by omega) (fun c e => by cases e) (XP_off_28 h ho).1 (XL_off hXL ho (by decide) (by decide) (by decide) (by decide) (by decide) (by decide) (by decide)) (by rw [wF_1, sA_eq, upd_eq]; rfl)
  rw [bst_cong (q' := q) (fun j h1 h2 => hq j (by omega))] at q1 q2
  refine ⟨S', ?_, q2, XP_off_28 h (ho.tr q3), ho.tr q3⟩
  rw [Ke_likeliest_28_eq]
  exact q1
