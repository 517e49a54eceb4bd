/-! Reading: a sign is passed, a number is passed, or both stop with the same fault. -/
def Fl (X R : pS) : Prop := X.1 50 4 = R.1 0 30 ∧ X.1 50 5 = R.1 0 31
theorem Fl_of {b : Nat → Nat} {len M k : Nat} {X R : pS} (c : Int32) (hx : Cx b len M k X) (hr : Cr b len k R) : Fl (wF (wF X 50 4 c) 50 5 (nI (stt b len k))) (wF (wF R 0 30 c) 0 31 (nI (stt b len k))) := by
  refine ⟨?_, ?_⟩
  · rw [wF_1, sA_eq, upd_ne (by decide), wF_1, sA_eq, upd_eq, wF_1, sA_eq, upd_ne (by decide), wF_1, sA_eq, upd_eq]
  · rw [wF_1, sA_eq, upd_eq, wF_1, sA_eq, upd_eq]
abbrev XF1 : List (Nat × Nat) := [(50, 6), (50, 7), (50, 8)]
abbrev XF0 : List (Nat × Nat) := [(50, 4), (50, 5), (50, 8)]
abbrev RF0 : List (Nat × Nat) := [(0, 30), (0, 31)]
theorem k_lt {b : Nat → Nat} {len M k : Nat} {X : pS} (hM : tkn b len M = 0) (h : Cx b len M k X) (h0 : tkn b len k ≠ 0) : k < M := by
  have := h.1
  rcases Nat.lt_or_ge k M with z | z
  · exact z
  · exact absurd (by rw [show k = M by omega]; exact hM) h0
theorem nmb {b : Nat → Nat} {len M k : Nat} {X R : pS} (hM : tkn b len M = 0) (hx : Cx b len M k X) (hr : Cr b len k R) (a1 a2 : Int32) : (∃ v X' R', v < 10000 ∧ tkn b len k = 1000 + v ∧ ¬ nI v < a1 ∧ nI v ≤ a2 ∧ Re_passesNumber_50 a1 a2 X = some (1, X') ∧ R_readNumber a1 a2 R = some (nI v, R') ∧ X'.1 50 8 = nI v ∧ Cx b len M (k + 1) X' ∧ Cr b len (k + 1) R' ∧ Off XF1 [] X X' ∧ Off FG [] R R') ∨ (∃ X' R', Re_passesNumber_50 a1 a2 X = some (0, X') ∧ R_readNumber a1 a2 R = some (-1, R') ∧ Fl X' R' ∧ Off XF0 [] X X' ∧ Off RF0 [] R R') := by
  have hlt := knd_lt hr.2.2.2
  have hn := knd_n hr.2.2.2
  have e7 : rF X 50 7 = nI (tkn b len k) := hx.2.2.2.1
  by_cases q : tkn b len k < 1000
  · refine Or.inr ⟨_, _, ?_, ?_, Fl_of 1 hx hr, (Off.rf.wF (by decide)).wF (by decide), (Off.rf.wF (by decide)).wF (by decide)⟩
    · rw [Re_passesNumber_50_eq, e7, if_pos (show nI (tkn b len k) < (1000 : Int32) from nlt_t (n := 1000) q (by omega)), fls hx, ob, if_pos (show pBool 1 0 = true from rfl)]
    · rw [R_readNumber_eq, if_neg (show ¬ rF R 0 15 = (3 : Int32) from fun z => by have := hn.1.mp z; omega), ers hr, ob]
  · obtain ⟨v, hv⟩ : ∃ v, tkn b len k = 1000 + v := ⟨tkn b len k - 1000, by omega⟩
    have e8 : nI (tkn b len k) - (1000 : Int32) = nI v := by rw [show (1000 : Int32) = nI 1000 from rfl, nI_subE (by omega), show tkn b len k - 1000 = v from by omega]
    have r15 : rF R 0 15 = (3 : Int32) := hn.1.mpr (by omega)
    have r16 : rF R 0 16 = nI v := by rw [show rF R 0 16 = _ from hn.2 (by omega), show tkn b len k - 1000 = v from by omega]
    have o8 : Off [(50, 8)] [] X (wF X 50 8 (nI v)) := Off.rf.wF (by decide)
    have hx8 : Cx b len M k (wF X 50 8 (nI v)) := Cx_off hx o8 (by decide) (by decide) (by decide) (by decide)
    have cX : Re_passesNumber_50 a1 a2 X = if nI v < a1 then some (0, wF (wF (wF X 50 8 (nI v)) 50 4 2) 50 5 (nI (stt b len k))) else if nI v ≤ a2 then (Re_advance_50 (wF X 50 8 (nI v))).bind (fun q3 => some ((1 : Int32), q3.2)) else some (0, wF (wF (wF X 50 8 (nI v)) 50 4 2) 50 5 (nI (stt b len k))) := by
      rw [Re_passesNumber_50_eq, e7, if_neg (show ¬ nI (tkn b len k) < (1000 : Int32) from nlt_f (n := 1000) q (by omega) (by omega)), e8]
      rw [fls hx8, ob, if_pos (show pBool 1 0 = true from rfl)]
    have cR : R_readNumber a1 a2 R = if nI v < a1 then some (-1, wF (wF R 0 30 2) 0 31 (nI (stt b len k))) else if nI v ≤ a2 then (R_reads R).bind (fun q3 => some (nI v, q3.2)) else some (-1, wF (wF R 0 30 2) 0 31 (nI (stt b len k))) := by
      rw [R_readNumber_eq, if_pos r15, r16, R_isIn_eq]
      by_cases z : nI v < a1
      · rw [if_pos z, if_pos z, ob]
        simp only [if_true]
        rw [ers hr, ob]
      · rw [if_neg z, if_neg z]
        by_cases z2 : nI v ≤ a2
        · rw [if_pos z2, if_pos z2, ob, if_neg (show ¬ (1 : Int32) = 0 by decide)]
          simp only []
          rw [show rF R 0 16 = nI v from r16]
        · rw [if_neg z2, if_neg z2, ob]
          simp only [if_true]
          rw [ers hr, ob]
    have fail : Re_passesNumber_50 a1 a2 X = some (0, wF (wF (wF X 50 8 (nI v)) 50 4 2) 50 5 (nI (stt b len k))) → R_readNumber a1 a2 R = some (-1, wF (wF R 0 30 2) 0 31 (nI (stt b len k))) → ∃ X' R', Re_passesNumber_50 a1 a2 X = some (0, X') ∧ R_readNumber a1 a2 R = some (-1, R') ∧ Fl X' R' ∧ Off XF0 [] X X' ∧ Off RF0 [] R R' := fun h1 h2 => ⟨_, _, h1, h2, Fl_of 2 hx8 hr, ((Off.rf.wF (by decide)).wF (by decide)).wF (by decide), (Off.rf.wF (by decide)).wF (by decide)⟩
    by_cases z : nI v < a1
    · exact Or.inr (fail (by rw [cX, if_pos z]) (by rw [cR, if_pos z]))
    · by_cases z2 : nI v ≤ a2
      · obtain ⟨X', x1, x2, x3⟩ := adv hx8 (k_lt hM hx (by omega))
        obtain ⟨R', r1, r2, r3⟩ := rds hr
        exact Or.inl ⟨v, X', R', by omega, hv, z, z2, by rw [cX, if_neg z, if_pos z2, x1, ob], by rw [cR, if_neg z, if_pos z2, r1, ob], by rw [x3.1 _ _ (by decide), wF_1, sA_eq, upd_eq], x2, r2, (o8.mono (by decide) (by decide)).tr (x3.mono (by decide) (by decide)), r3⟩
      · exact Or.inr (fail (by rw [cX, if_neg z, if_neg z2]) (by rw [cR, if_neg z, if_neg z2]))
/-- the class passes a sign or a word -/
theorem pas {b : Nat → Nat} {len M k c : Nat} {X : pS} (hM : tkn b len M = 0) (hx : Cx b len M k X) (hl : tkn b len k < 11000) (hc : 0 < c) (hc2 : c < 11000) : (tkn b len k = c ∧ ∃ X', Re_passes_50 (nI c) X = some (1, X') ∧ Cx b len M (k + 1) X' ∧ Off [(50, 6), (50, 7)] [] X X') ∨ (tkn b len k ≠ c ∧ Re_passes_50 (nI c) X = some (0, wF (wF X 50 4 1) 50 5 (nI (stt b len k)))) := by
  have e7 : rF X 50 7 = nI (tkn b len k) := hx.2.2.2.1
  by_cases q : tkn b len k = c
  · obtain ⟨X', x1, x2, x3⟩ := adv hx (k_lt hM hx (by omega))
    exact Or.inl ⟨q, X', by rw [Re_passes_50_eq, e7, q, if_pos rfl, x1, ob], x2, x3⟩
  · exact Or.inr ⟨q, by rw [Re_passes_50_eq, e7, if_neg (by rw [nI_eqE (by omega) (by omega)]; exact q), fls hx, ob, if_pos (show pBool 1 0 = true from rfl)]⟩
theorem mrk {b : Nat → Nat} {len M k c : Nat} {X R : pS} (hM : tkn b len M = 0) (hx : Cx b len M k X) (hr : Cr b len k R) (hc : sgn c = true) : (∃ X' R', tkn b len k = c ∧ Re_passes_50 (nI c) X = some (1, X') ∧ R_readMark (nI c) R = some (0, R') ∧ Cx b len M (k + 1) X' ∧ Cr b len (k + 1) R' ∧ Off XF1 [] X X' ∧ Off FG [] R R') ∨ (∃ X' R', Re_passes_50 (nI c) X = some (0, X') ∧ R_readMark (nI c) R = some (-1, R') ∧ Fl X' R' ∧ Off XF0 [] X X' ∧ Off RF0 [] R R') := by
  have hcb := sgn_b hc
  rcases pas hM hx (knd_lt hr.2.2.2) (c := c) (by omega) (by omega) with ⟨q, X', x1, x2, x3⟩ | ⟨q, x1⟩
  · obtain ⟨R', r1, r2, r3⟩ := rds hr
    refine Or.inl ⟨X', R', q, x1, ?_, x2, r2, x3.mono (by decide) (by decide), r3⟩
    rw [R_readMark_eq, isSg hr hc, ob, decide_eq_true q]
    simp only [b2t, if_false]
    rw [r1, ob]
  · refine Or.inr ⟨_, _, x1, ?_, Fl_of 1 hx hr, (Off.rf.wF (by decide)).wF (by decide), (Off.rf.wF (by decide)).wF (by decide)⟩
    rw [R_readMark_eq, isSg hr hc, ob, decide_eq_false q]
    simp only [b2f, if_true]
    rw [ers hr, ob]
