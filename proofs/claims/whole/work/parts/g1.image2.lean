/-! The image: the reference keeps each place by its number. -/
def pl (j : Nat) : Nat × Nat :=
  if j < 76 then (1, j) else if j = 76 then (0, 6) else if j = 77 then (0, 43) else if j = 78 then (0, 49) else if j = 79 then (0, 52)
  else if j < 122 then (4 + (j - 80) % 3, (j - 80) / 3) else if j < 146 then (24 + (j - 122) % 2, (j - 122) / 2) else if j < 166 then (29 + (j - 146) % 2, (j - 146) / 2) else if j < 190 then (31 + (j - 166) % 3, (j - 166) / 3)
  else if j = 190 then (0, 34) else if j = 191 then (0, 36) else if j = 192 then (0, 39) else if j < 205 then (18, j - 193) else if j < 221 then (19 + (j - 205) % 2, (j - 205) / 2) else if j < 269 then (21, j - 221)
  else if j < 869 then (7, j - 269) else if j = 869 then (10, 0) else if j < 934 then (11 + (j - 870) % 4, (j - 870) / 4) else (15 + (j - 934) % 2, (j - 934) / 2)
def ip (p : Nat × Nat) : Nat :=
  if p.1 = 0 then (if p.2 = 6 then 76 else if p.2 = 43 then 77 else if p.2 = 49 then 78 else if p.2 = 52 then 79 else if p.2 = 34 then 190 else if p.2 = 36 then 191 else 192)
  else if p.1 = 1 then p.2 else if p.1 < 7 then 80 + 3 * p.2 + (p.1 - 4) else if p.1 = 7 then 269 + p.2 else if p.1 = 10 then 869 else if p.1 < 15 then 870 + 4 * p.2 + (p.1 - 11) else if p.1 < 17 then 934 + 2 * p.2 + (p.1 - 15)
  else if p.1 = 18 then 193 + p.2 else if p.1 < 21 then 205 + 2 * p.2 + (p.1 - 19) else if p.1 = 21 then 221 + p.2 else if p.1 < 26 then 122 + 2 * p.2 + (p.1 - 24) else if p.1 < 31 then 146 + 2 * p.2 + (p.1 - 29) else 166 + 3 * p.2 + (p.1 - 31)
abbrev FK : List (Nat × Nat) := [(0, 58), (0, 6), (0, 43), (0, 49), (0, 52), (0, 34), (0, 36), (0, 39)]
abbrev WK : List Nat := [34, 1, 4, 5, 6, 24, 25, 29, 30, 31, 32, 33, 18, 19, 20, 21, 7, 10, 11, 12, 13, 14, 15, 16]
def plOk (k : Nat) : Bool := ip (pl k) == k && (pl k).1 != 34 && !((pl k).1 == 0 && ((pl k).2 == 58 || (pl k).2 == 56)) && decide ((pl k).2 < 2000) && (if (pl k).1 = 0 then FK.contains (0, (pl k).2) else WK.contains (pl k).1)
theorem plAll : ∀ k, k < 1734 → plOk k = true := by decide +kernel
theorem pl_ok {k : Nat} (h : k < 1734) : ip (pl k) = k ∧ (pl k).1 ≠ 34 ∧ (∀ _a : Nat, (pl k).1 = 0 → (pl k).2 ≠ 58 ∧ (pl k).2 ≠ 56) ∧ (pl k).2 < 2000 ∧ ((pl k).1 = 0 → (0, (pl k).2) ∈ FK) ∧ ((pl k).1 ≠ 0 → (pl k).1 ∈ WK) := by
  have := plAll k h
  unfold plOk at this
  simp only [Bool.and_eq_true, beq_iff_eq, bne_iff_ne, Bool.not_eq_true', Bool.and_eq_false_imp, Bool.or_eq_false_iff, beq_eq_false_iff_ne, decide_eq_true_eq] at this
  obtain ⟨⟨⟨⟨a, b⟩, c⟩, d⟩, e⟩ := this
  refine ⟨a, b, fun _ z => c z, d, fun z => ?_, fun z => ?_⟩
  · rw [if_pos z] at e
    exact List.contains_iff_mem.mp e
  · rw [if_neg z] at e
    exact List.contains_iff_mem.mp e
def gt (S : pS) (p : Nat × Nat) : Int32 := if p.1 = 0 then S.1 0 p.2 else S.2.1 p.1 p.2
def pt (S : pS) (p : Nat × Nat) (w : Int32) : pS := if p.1 = 0 then wF S 0 p.2 w else wA S p.1 (nI p.2) w
theorem gp_eq {S : pS} {p : Nat × Nat} {w : Int32} (h : p.2 < 2000) : gt (pt S p w) p = w := by
  unfold gt pt
  by_cases q : p.1 = 0
  · rw [if_pos q, if_pos q, wF_1, sA_eq, upd_eq]
  · rw [if_neg q, if_neg q, wA_21 (by omega), sA_eq, upd_eq]
theorem gp_ne {S : pS} {p r : Nat × Nat} {w : Int32} (h : p.2 < 2000) (hn : r ≠ p) : gt (pt S p w) r = gt S r := by
  unfold gt pt
  by_cases q : p.1 = 0
  · rw [if_pos q]
    by_cases q2 : r.1 = 0
    · rw [if_pos q2, if_pos q2, wF_1, sA_eq, upd_ne]
      intro z
      exact hn (Prod.ext (q2.trans q.symm) z)
    · rw [if_neg q2, if_neg q2, wF_2]
  · rw [if_neg q]
    by_cases q2 : r.1 = 0
    · rw [if_pos q2, if_pos q2, wA_1]
    · rw [if_neg q2, if_neg q2, wA_21 (by omega), sA_row]
      by_cases q3 : r.1 = p.1
      · rw [if_pos q3, upd_ne (fun z => hn (Prod.ext q3 z)), q3]
      · rw [if_neg q3]
/-- k places are kept: md 0 fetched, 1 put away -/
def Kq (md : Nat) (R0 : pS) (k : Nat) (S : pS) : Prop := S.1 0 56 = nI md ∧ S.1 0 58 = nI k ∧ (md = 0 → S.2.1 34 = R0.2.1 34) ∧ (md ≠ 0 → ∀ p : Nat × Nat, p ≠ (0, 58) → p.1 ≠ 34 → gt S p = gt R0 p) ∧ Off FK WK R0 S ∧ ∀ j, j < k → gt S (pl j) = S.2.1 34 j
theorem Kq_st {md k : Nat} {R0 S : pS} (hmd : md ≤ 1) (h : Kq md R0 k S) (hk : k < 1734) {p : Nat × Nat} (hp : pl k = p) {v : Int32} (hv : v = gt S p) : ∃ w S1, R_keepsOne v S = some (w, S1) ∧ Kq md R0 (k + 1) (pt S1 p w) := by
  subst hp
  obtain ⟨a1, a2, a3, a4, a5, a6⟩ := h
  obtain ⟨b1, b2, b3, b4, b5, b6⟩ := pl_ok hk
  have ek : (nI k + (1 : Int32)) - (1 : Int32) = nI k := by rw [show nI k + (1 : Int32) = nI (k + 1) from nI_1 k, nI_pred]
  have inj : ∀ j, j < k → pl j ≠ pl k := fun j hj z => by
    have := (pl_ok (k := j) (by omega)).1
    rw [z, b1] at this
    omega
  have e34 : ∀ (S1 : pS) w, (pt S1 (pl k) w).2.1 34 = S1.2.1 34 := fun S1 w => by
    unfold pt
    by_cases q : (pl k).1 = 0
    · rw [if_pos q, wF_2]
    · rw [if_neg q, wA_21 (by omega), sA_ne (Ne.symm b2)]
  have efd : ∀ (S1 : pS) w x, x = 58 ∨ x = 56 → (pt S1 (pl k) w).1 0 x = S1.1 0 x := fun S1 w x hx => by
    unfold pt
    by_cases q : (pl k).1 = 0
    · have := b3 0 q
      rw [if_pos q, wF_1, sA_eq, upd_ne (by omega)]
    · rw [if_neg q, wA_1]
  have eof : ∀ (S1 : pS) w, Off FK WK R0 S1 → Off FK WK R0 (pt S1 (pl k) w) := fun S1 w ho => by
    unfold pt
    by_cases q : (pl k).1 = 0
    · rw [if_pos q]; exact ho.wF (b5 q)
    · rw [if_neg q]; exact ho.wA (b6 q)
  have hm : md = 0 ∨ md = 1 := by omega
  rcases hm with rfl | rfl
  · refine ⟨S.2.1 34 k, wF S 0 58 (nI (k + 1)), ?_, ?_, ?_, ?_, fun z => absurd rfl z, ?_, fun j hj => ?_⟩
    · rw [R_keepsOne_eq, show rF S 0 56 = nI 0 from a1, if_pos (show nI 0 = (0 : Int32) from rfl), show rF S 0 58 = nI k from a2, ek, if_pos (inb_n (by omega) (by omega)), rA_n (by omega), show nI k + (1 : Int32) = nI (k + 1) from nI_1 k]
    · rw [efd _ _ _ (Or.inr rfl), wF_1, sA_eq, upd_ne (by decide)]; exact a1
    · rw [efd _ _ _ (Or.inl rfl), wF_1, sA_eq, upd_eq]
    · intro _
      rw [e34, wF_2]
      exact a3 rfl
    · exact eof _ _ (a5.wF (by decide))
    · rw [e34, wF_2]
      by_cases z : j = k
      · subst z
        rw [gp_eq b4]
      · rw [gp_ne b4 (inj j (by omega))]
        have : gt (wF S 0 58 (nI (k + 1))) (pl j) = gt S (pl j) := by
          have c := (pl_ok (k := j) (by omega)).2.2.1 0
          unfold gt
          by_cases q : (pl j).1 = 0
          · rw [if_pos q, if_pos q, wF_1, sA_eq, upd_ne (c q).1]
          · rw [if_neg q, if_neg q, wF_2]
        rw [this]
        exact a6 j (by omega)
  · refine ⟨v, wA (wF S 0 58 (nI (k + 1))) 34 (nI k) v, ?_, ?_, ?_, fun z => absurd z (by decide), fun _ p h1 h2 => ?_, ?_, fun j hj => ?_⟩
    · rw [R_keepsOne_eq, show rF S 0 56 = nI 1 from a1, if_neg (show ¬ nI 1 = (0 : Int32) by decide), show rF S 0 58 = nI k from a2, ek, if_pos (inb_n (by omega) (by omega)), show nI k + (1 : Int32) = nI (k + 1) from nI_1 k]
    · rw [efd _ _ _ (Or.inr rfl), wA_1, wF_1, sA_eq, upd_ne (by decide)]; exact a1
    · rw [efd _ _ _ (Or.inl rfl), wA_1, wF_1, sA_eq, upd_eq]
    · have g1 : gt (wA (wF S 0 58 (nI (k + 1))) 34 (nI k) v) p = gt S p := by
        unfold gt
        by_cases q : p.1 = 0
        · rw [if_pos q, if_pos q, wA_1, wF_1, sA_eq, upd_ne (fun z => h1 (Prod.ext q z))]
        · rw [if_neg q, if_neg q, wA_21 (by omega), sA_ne h2, wF_2]
      by_cases z : p = pl k
      · rw [z, gp_eq b4, hv, ← z]
        exact a4 (by decide) p h1 h2
      · rw [gp_ne b4 z, g1]
        exact a4 (by decide) p h1 h2
    · exact eof _ _ ((a5.wF (by decide)).wA (by decide))
    · rw [e34, wA_21 (by omega), sA_eq, wF_2]
      by_cases z : j = k
      · subst z
        rw [gp_eq b4, upd_eq]
      · rw [gp_ne b4 (inj j (by omega)), upd_ne z]
        have : gt (wA (wF S 0 58 (nI (k + 1))) 34 (nI k) v) (pl j) = gt S (pl j) := by
          have c := pl_ok (k := j) (by omega)
          unfold gt
          by_cases q : (pl j).1 = 0
          · rw [if_pos q, if_pos q, wA_1, wF_1, sA_eq, upd_ne (c.2.2.1 0 q).1]
          · rw [if_neg q, if_neg q, wA_21 (by omega), sA_ne c.2.1, wF_2]
        rw [this]
        exact a6 j (by omega)
