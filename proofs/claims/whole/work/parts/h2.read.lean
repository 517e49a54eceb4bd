/-! Reading: both stand before sign k. -/
def Cx (b : Nat → Nat) (len M k : Nat) (X : pS) : Prop := k ≤ M ∧ M ≤ 400 ∧ X.1 50 6 = nI k ∧ X.1 50 7 = nI (tkn b len k) ∧ ∀ j, j ≤ M → X.2.1 48 j = nI (tkn b len j) ∧ X.2.1 49 j = nI (stt b len j)
def Cr (b : Nat → Nat) (len k : Nat) (R : pS) : Prop := TR b len R ∧ R.1 0 13 = nI (pos b len (k + 1)) ∧ R.1 0 14 = nI (stt b len k) ∧ Knd (tkn b len k) (R.1 0 15) (R.1 0 16)
theorem ten_le {b : Nat → Nat} {len s : Nat} (h : s ≤ len) : ten b len s ≤ len := by
  by_cases q : s = len
  · unfold ten; rw [if_pos q]; exact Nat.le_refl len
  · exact (ten_s (by omega)).2
theorem pos_le {b : Nat → Nat} {len : Nat} : ∀ k, pos b len k ≤ len
  | 0 => Nat.zero_le len
  | k + 1 => ten_le (sk_s (pos_le k)).2.1
theorem stt_le {b : Nat → Nat} {len k : Nat} : stt b len k ≤ len := (sk_s (pos_le k)).2.1
theorem Cx_off {b : Nat → Nat} {len M k : Nat} {X X' : pS} {F : List (Nat × Nat)} {W : List Nat} (h : Cx b len M k X) (ho : Off F W X X') (h1 : (50, 6) ∉ F) (h2 : (50, 7) ∉ F) (h3 : 48 ∉ W) (h4 : 49 ∉ W) : Cx b len M k X' := by
  unfold Cx at *
  rw [ho.1 _ _ h1, ho.1 _ _ h2, ho.2.1 _ h3, ho.2.1 _ h4]
  exact h
theorem Cr_off {b : Nat → Nat} {len k : Nat} {X X' : pS} {F : List (Nat × Nat)} {W : List Nat} (h : Cr b len k X) (ho : Off F W X X') (h1 : ∀ a ∈ [12, 13, 14, 15, 16], (0, a) ∉ F) (h2 : 8 ∉ W) (h3 : 9 ∉ W) : Cr b len k X' := by
  unfold Cr at *
  rw [ho.1 _ _ (h1 13 (by simp)), ho.1 _ _ (h1 14 (by simp)), ho.1 _ _ (h1 15 (by simp)), ho.1 _ _ (h1 16 (by simp))]
  exact ⟨TR_off h.1 ho (h1 12 (by simp)) h2 h3, h.2⟩
theorem adv {b : Nat → Nat} {len M k : Nat} {X : pS} (h : Cx b len M k X) (hk : k < M) : ∃ X', Re_advance_50 X = some (0, X') ∧ Cx b len M (k + 1) X' ∧ Off [(50, 6), (50, 7)] [] X X' := by
  obtain ⟨h1, h2, h3, h4, h5⟩ := h
  refine ⟨wF (wF X 50 6 (nI (k + 1))) 50 7 (nI (tkn b len (k + 1))), ?_, ⟨by omega, h2, ?_, ?_, h5⟩, (Off.rf.wF (by decide)).wF (by decide)⟩
  · rw [Re_advance_50_eq, show rF X 50 6 = nI k from h3, if_pos (show nI k < (400 : Int32) from nlt_t (n := 400) (by omega) (by omega)), show nI k + (1 : Int32) = nI (k + 1) from nI_1 k, Re_advance_50_c20_eq, show rF (wF X 50 6 (nI (k + 1))) 50 6 = nI (k + 1) from by show (wF X 50 6 (nI (k + 1))).1 50 6 = _; rw [wF_1, sA_eq, upd_eq], if_pos (inb_n (by omega) (by omega)), rA_n (by omega), wF_2, (h5 (k + 1) (by omega)).1]
  · rw [wF_1, sA_eq, upd_ne (by decide), wF_1, sA_eq, upd_eq]
  · rw [wF_1, sA_eq, upd_eq]
theorem rds {b : Nat → Nat} {len k : Nat} {R : pS} (h : Cr b len k R) : ∃ R', R_reads R = some (0, R') ∧ Cr b len (k + 1) R' ∧ Off FG [] R R' := by
  obtain ⟨h1, h2, h3, h4⟩ := h
  obtain ⟨R', a1, a2, a3, a4, a5⟩ := reads_s (pos_le (k + 1)) h1 h2
  exact ⟨R', a1, ⟨TR_off h1 a2 (by decide) (by decide) (by decide), a3, a4, a5⟩, a2⟩
theorem fls {b : Nat → Nat} {len M k : Nat} {X : pS} (h : Cx b len M k X) (c : Int32) : Re_fails_50 c X = some (0, wF (wF X 50 4 c) 50 5 (nI (stt b len k))) := by
  obtain ⟨h1, h2, h3, h4, h5⟩ := h
  rw [Re_fails_50_eq, show rF X 50 6 = nI k from h3, if_pos (inb_n (by omega) (by omega)), rA_n (by omega), (h5 k (by omega)).2]
theorem ers {b : Nat → Nat} {len k : Nat} {R : pS} (h : Cr b len k R) (c : Int32) : R_errs c R = some (-1, wF (wF R 0 30 c) 0 31 (nI (stt b len k))) := by
  rw [R_errs_eq, show rF R 0 14 = nI (stt b len k) from h.2.2.1]
theorem sgn_b {c : Nat} (h : sgn c = true) : 40 ≤ c ∧ c ≤ 62 := by
  unfold sgn at h
  simp only [Bool.or_eq_true, decide_eq_true_eq] at h
  omega
theorem knd_w {tv : Nat} {k v : Int32} (h : Knd tv k v) {w : Nat} (hw : w < 24) : (k = 2 ∧ v = nI w) ↔ tv = 300 + w := by
  rcases h with ⟨a, c⟩ | ⟨a, c⟩ | ⟨a, a2, c, d⟩ | ⟨a, a2, c, d⟩ | ⟨a, c, d⟩
  · exact ⟨fun z => absurd (c.symm.trans z.1) (by decide), fun z => by omega⟩
  · exact ⟨fun z => absurd (c.symm.trans z.1) (by decide), fun z => by omega⟩
  · rw [d, nI_eqE (by omega) (by omega)]
    exact ⟨fun z => by omega, fun z => ⟨c, by omega⟩⟩
  · exact ⟨fun z => absurd (c.symm.trans z.1) (by decide), fun z => by omega⟩
  · have := sgn_b a
    exact ⟨fun z => absurd (c.symm.trans z.1) (by decide), fun z => by omega⟩
theorem knd_s {tv : Nat} {k v : Int32} (h : Knd tv k v) {c : Nat} (hc : sgn c = true) : (k = 4 ∧ v = nI c) ↔ tv = c := by
  have hcb := sgn_b hc
  rcases h with ⟨a, e⟩ | ⟨a, e⟩ | ⟨a, a2, e, d⟩ | ⟨a, a2, e, d⟩ | ⟨a, e, d⟩
  · exact ⟨fun z => absurd (e.symm.trans z.1) (by decide), fun z => by omega⟩
  · exact ⟨fun z => absurd (e.symm.trans z.1) (by decide), fun z => by omega⟩
  · exact ⟨fun z => absurd (e.symm.trans z.1) (by decide), fun z => by omega⟩
  · exact ⟨fun z => absurd (e.symm.trans z.1) (by decide), fun z => by omega⟩
  · have := sgn_b a
    rw [d, nI_eqE (by omega) (by omega)]
    exact ⟨fun z => z.2, fun z => ⟨e, z⟩⟩
theorem knd_n {tv : Nat} {k v : Int32} (h : Knd tv k v) : (k = 3 ↔ 1000 ≤ tv) ∧ (1000 ≤ tv → v = nI (tv - 1000)) := by
  rcases h with ⟨a, e⟩ | ⟨a, e⟩ | ⟨a, a2, e, d⟩ | ⟨a, a2, e, d⟩ | ⟨a, e, d⟩
  · exact ⟨⟨fun z => absurd (e.symm.trans z) (by decide), fun z => absurd z (by omega)⟩, fun z => absurd z (by omega)⟩
  · exact ⟨⟨fun z => absurd (e.symm.trans z) (by decide), fun z => absurd z (by omega)⟩, fun z => absurd z (by omega)⟩
  · exact ⟨⟨fun z => absurd (e.symm.trans z) (by decide), fun z => absurd z (by omega)⟩, fun z => absurd z (by omega)⟩
  · exact ⟨⟨fun _ => a, fun _ => e⟩, fun _ => d⟩
  · have := sgn_b a
    exact ⟨⟨fun z => absurd (e.symm.trans z) (by decide), fun z => absurd z (by omega)⟩, fun z => absurd z (by omega)⟩
theorem knd_0 {tv : Nat} {k v : Int32} (h : Knd tv k v) : k = 0 ↔ tv = 0 := by
  rcases h with ⟨a, e⟩ | ⟨a, e⟩ | ⟨a, a2, e, d⟩ | ⟨a, a2, e, d⟩ | ⟨a, e, d⟩
  · exact ⟨fun _ => a, fun _ => e⟩
  · exact ⟨fun z => absurd (e.symm.trans z) (by decide), fun z => by omega⟩
  · exact ⟨fun z => absurd (e.symm.trans z) (by decide), fun z => by omega⟩
  · exact ⟨fun z => absurd (e.symm.trans z) (by decide), fun z => by omega⟩
  · have := sgn_b a
    exact ⟨fun z => absurd (e.symm.trans z) (by decide), fun z => by omega⟩
theorem knd_lt {tv : Nat} {k v : Int32} (h : Knd tv k v) : tv < 11000 := by
  rcases h with ⟨a, e⟩ | ⟨a, e⟩ | ⟨a, a2, e, d⟩ | ⟨a, a2, e, d⟩ | ⟨a, e, d⟩
  · omega
  · omega
  · omega
  · omega
  · have := sgn_b a; omega
theorem isWd {b : Nat → Nat} {len k w : Nat} {R : pS} (h : Cr b len k R) (hw : w < 24) : R_isWord (nI w) R = some (b2i (decide (tkn b len k = 300 + w)), R) := by
  have e := knd_w h.2.2.2 hw
  rw [R_isWord_eq]
  by_cases q : tkn b len k = 300 + w
  · obtain ⟨a, c⟩ := e.mpr q
    rw [show rF R 0 15 = 2 from a, if_pos rfl, show rF R 0 16 = nI w from c, if_pos rfl, decide_eq_true q]; rfl
  · rw [decide_eq_false q]
    by_cases z : R.1 0 15 = 2
    · rw [if_pos (show rF R 0 15 = 2 from z), if_neg (show ¬ rF R 0 16 = nI w from fun z2 => q (e.mp ⟨z, z2⟩))]; rfl
    · rw [if_neg (show ¬ rF R 0 15 = 2 from z)]; rfl
theorem isSg {b : Nat → Nat} {len k c : Nat} {R : pS} (h : Cr b len k R) (hc : sgn c = true) : R_isSign (nI c) R = some (b2i (decide (tkn b len k = c)), R) := by
  have e := knd_s h.2.2.2 hc
  rw [R_isSign_eq]
  by_cases q : tkn b len k = c
  · obtain ⟨a, d⟩ := e.mpr q
    rw [show rF R 0 15 = 4 from a, if_pos rfl, show rF R 0 16 = nI c from d, if_pos rfl, decide_eq_true q]; rfl
  · rw [decide_eq_false q]
    by_cases z : R.1 0 15 = 4
    · rw [if_pos (show rF R 0 15 = 4 from z), if_neg (show ¬ rF R 0 16 = nI c from fun z2 => q (e.mp ⟨z, z2⟩))]; rfl
    · rw [if_neg (show ¬ rF R 0 15 = 4 from z)]; rfl
