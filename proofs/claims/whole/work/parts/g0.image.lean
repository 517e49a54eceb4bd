/-! The image: the class. -/
theorem Off.wC {F : List (Nat × Nat)} {W : List Nat} {S S' : pS} {o0 o1 : Nat} {sp dp n : Int32} (h : Off F W S S') (hm : o1 ∈ W) : Off F W S (wC S' o0 sp o1 dp n) := by
  refine ⟨h.1, fun j q => ?_, h.2.2⟩
  rw [← h.2.1 j q]
  show sW S'.2.1 o1 _ j = _
  have : j ≠ o1 := fun e => q (e ▸ hm)
  unfold sW
  first
    | rw [if_neg this]
    | simp [this]
theorem wC_at {S : pS} {o0 o1 n i : Nat} (hn : n < 2147483648) (hi : i < n) : (wC S o0 (0 : Int32) o1 (0 : Int32) (nI n)).2.1 o1 i = S.2.1 o0 i := by
  rw [show wC S o0 (0 : Int32) o1 (0 : Int32) (nI n) = wC S o0 (nI 0) o1 (nI 0) (nI n) from rfl, wC_21 (by omega) (by omega) hn, if_pos rfl, sb_cpy0 hi]
theorem wC_no {S : pS} {o0 o1 a : Nat} {x y z : Int32} (h : a ≠ o1) : (wC S o0 x o1 y z).2.1 a = S.2.1 a := (Off.wC (F := []) (W := [o1]) Off.rf (by simp)).2.1 a (by simp [h])
theorem mn4 {m lim : Nat} (h : m ≤ lim) (hl : lim < 1000) : (if nI m * (4 : Int32) < nI (4 * lim) then nI m * (4 : Int32) else nI (4 * lim)) = nI (4 * m) := by
  rw [m4]
  by_cases q : m = lim
  · rw [q]; split <;> rfl
  · rw [if_pos (nlt_t (by omega) (by omega))]
theorem ro_15_83 {S : pS} {m : Nat} (h : S.1 83 2 = nI m) (hm : m ≤ 16) : ∃ S', Ro_copyFrom_15_83 S = some (0, S') ∧ S'.1 15 2 = nI m ∧ (∀ i, i < 4 * m → S'.2.1 16 i = S.2.1 84 i) ∧ Off [(15, 2)] [16] S S' := by
  refine ⟨wF (wC S 84 (0 : Int32) 16 (0 : Int32) (nI (4 * m))) 15 2 (nI m), ?_, by rw [wF_1, sA_eq, upd_eq], fun i hi => by rw [wF_2, wC_at (by omega) hi], (Off.rf.wC (by decide)).wF (by decide)⟩
  rw [Ro_copyFrom_15_83_eq, show rF S 83 2 = nI m from h, show (if nI m * (4 : Int32) < (64 : Int32) then nI m * (4 : Int32) else (64 : Int32)) = nI (4 * m) from mn4 (lim := 16) hm (by omega), nI_clamp (by omega)]
  rw [if_pos ⟨by decide, by decide, nI_pos' (by omega), by rw [show (0 : Int32).toNatClampNeg = 0 from rfl]; omega, by rw [show (0 : Int32).toNatClampNeg = 0 from rfl]; omega, by decide⟩]
theorem ro_17_85 {S : pS} {m : Nat} (h : S.1 85 2 = nI m) (hm : m ≤ 12) : ∃ S', Ro_copyFrom_17_85 S = some (0, S') ∧ S'.1 17 2 = nI m ∧ (∀ i, i < 4 * m → S'.2.1 18 i = S.2.1 86 i) ∧ Off [(17, 2)] [18] S S' := by
  refine ⟨wF (wC S 86 (0 : Int32) 18 (0 : Int32) (nI (4 * m))) 17 2 (nI m), ?_, by rw [wF_1, sA_eq, upd_eq], fun i hi => by rw [wF_2, wC_at (by omega) hi], (Off.rf.wC (by decide)).wF (by decide)⟩
  rw [Ro_copyFrom_17_85_eq, show rF S 85 2 = nI m from h, show (if nI m * (4 : Int32) < (48 : Int32) then nI m * (4 : Int32) else (48 : Int32)) = nI (4 * m) from mn4 (lim := 12) hm (by omega), nI_clamp (by omega)]
  rw [if_pos ⟨by decide, by decide, nI_pos' (by omega), by rw [show (0 : Int32).toNatClampNeg = 0 from rfl]; omega, by rw [show (0 : Int32).toNatClampNeg = 0 from rfl]; omega, by decide⟩]
theorem ro_19_87 {S : pS} {m : Nat} (h : S.1 87 2 = nI m) (hm : m ≤ 10) : ∃ S', Ro_copyFrom_19_87 S = some (0, S') ∧ S'.1 19 2 = nI m ∧ (∀ i, i < 4 * m → S'.2.1 20 i = S.2.1 88 i) ∧ Off [(19, 2)] [20] S S' := by
  refine ⟨wF (wC S 88 (0 : Int32) 20 (0 : Int32) (nI (4 * m))) 19 2 (nI m), ?_, by rw [wF_1, sA_eq, upd_eq], fun i hi => by rw [wF_2, wC_at (by omega) hi], (Off.rf.wC (by decide)).wF (by decide)⟩
  rw [Ro_copyFrom_19_87_eq, show rF S 87 2 = nI m from h, show (if nI m * (4 : Int32) < (40 : Int32) then nI m * (4 : Int32) else (40 : Int32)) = nI (4 * m) from mn4 (lim := 10) hm (by omega), nI_clamp (by omega)]
  rw [if_pos ⟨by decide, by decide, nI_pos' (by omega), by rw [show (0 : Int32).toNatClampNeg = 0 from rfl]; omega, by rw [show (0 : Int32).toNatClampNeg = 0 from rfl]; omega, by decide⟩]
theorem ro_21_89 {S : pS} {m : Nat} (h : S.1 89 2 = nI m) (hm : m ≤ 8) : ∃ S', Ro_copyFrom_21_89 S = some (0, S') ∧ S'.1 21 2 = nI m ∧ (∀ i, i < 4 * m → S'.2.1 22 i = S.2.1 90 i) ∧ Off [(21, 2)] [22] S S' := by
  refine ⟨wF (wC S 90 (0 : Int32) 22 (0 : Int32) (nI (4 * m))) 21 2 (nI m), ?_, by rw [wF_1, sA_eq, upd_eq], fun i hi => by rw [wF_2, wC_at (by omega) hi], (Off.rf.wC (by decide)).wF (by decide)⟩
  rw [Ro_copyFrom_21_89_eq, show rF S 89 2 = nI m from h, show (if nI m * (4 : Int32) < (32 : Int32) then nI m * (4 : Int32) else (32 : Int32)) = nI (4 * m) from mn4 (lim := 8) hm (by omega), nI_clamp (by omega)]
  rw [if_pos ⟨by decide, by decide, nI_pos' (by omega), by rw [show (0 : Int32).toNatClampNeg = 0 from rfl]; omega, by rw [show (0 : Int32).toNatClampNeg = 0 from rfl]; omega, by decide⟩]
theorem ro_23_91 {S : pS} {m : Nat} (h : S.1 91 2 = nI m) (hm : m ≤ 150) : ∃ S', Ro_copyFrom_23_91 S = some (0, S') ∧ S'.1 23 2 = nI m ∧ (∀ i, i < 4 * m → S'.2.1 24 i = S.2.1 92 i) ∧ Off [(23, 2)] [24] S S' := by
  refine ⟨wF (wC S 92 (0 : Int32) 24 (0 : Int32) (nI (4 * m))) 23 2 (nI m), ?_, by rw [wF_1, sA_eq, upd_eq], fun i hi => by rw [wF_2, wC_at (by omega) hi], (Off.rf.wC (by decide)).wF (by decide)⟩
  rw [Ro_copyFrom_23_91_eq, show rF S 91 2 = nI m from h, show (if nI m * (4 : Int32) < (600 : Int32) then nI m * (4 : Int32) else (600 : Int32)) = nI (4 * m) from mn4 (lim := 150) hm (by omega), nI_clamp (by omega)]
  rw [if_pos ⟨by decide, by decide, nI_pos' (by omega), by rw [show (0 : Int32).toNatClampNeg = 0 from rfl]; omega, by rw [show (0 : Int32).toNatClampNeg = 0 from rfl]; omega, by decide⟩]
theorem ro_83_15 {S : pS} {m : Nat} (h : S.1 15 2 = nI m) (hm : m ≤ 16) : ∃ S', Ro_copyFrom_83_15 S = some (0, S') ∧ S'.1 83 2 = nI m ∧ (∀ i, i < 4 * m → S'.2.1 84 i = S.2.1 16 i) ∧ Off [(83, 2)] [84] S S' := by
  refine ⟨wF (wC S 16 (0 : Int32) 84 (0 : Int32) (nI (4 * m))) 83 2 (nI m), ?_, by rw [wF_1, sA_eq, upd_eq], fun i hi => by rw [wF_2, wC_at (by omega) hi], (Off.rf.wC (by decide)).wF (by decide)⟩
  rw [Ro_copyFrom_83_15_eq, show rF S 15 2 = nI m from h, show (if nI m * (4 : Int32) < (64 : Int32) then nI m * (4 : Int32) else (64 : Int32)) = nI (4 * m) from mn4 (lim := 16) hm (by omega), nI_clamp (by omega)]
  rw [if_pos ⟨by decide, by decide, nI_pos' (by omega), by rw [show (0 : Int32).toNatClampNeg = 0 from rfl]; omega, by rw [show (0 : Int32).toNatClampNeg = 0 from rfl]; omega, by decide⟩]
theorem ro_85_17 {S : pS} {m : Nat} (h : S.1 17 2 = nI m) (hm : m ≤ 12) : ∃ S', Ro_copyFrom_85_17 S = some (0, S') ∧ S'.1 85 2 = nI m ∧ (∀ i, i < 4 * m → S'.2.1 86 i = S.2.1 18 i) ∧ Off [(85, 2)] [86] S S' := by
  refine ⟨wF (wC S 18 (0 : Int32) 86 (0 : Int32) (nI (4 * m))) 85 2 (nI m), ?_, by rw [wF_1, sA_eq, upd_eq], fun i hi => by rw [wF_2, wC_at (by omega) hi], (Off.rf.wC (by decide)).wF (by decide)⟩
  rw [Ro_copyFrom_85_17_eq, show rF S 17 2 = nI m from h, show (if nI m * (4 : Int32) < (48 : Int32) then nI m * (4 : Int32) else (48 : Int32)) = nI (4 * m) from mn4 (lim := 12) hm (by omega), nI_clamp (by omega)]
  rw [if_pos ⟨by decide, by decide, nI_pos' (by omega), by rw [show (0 : Int32).toNatClampNeg = 0 from rfl]; omega, by rw [show (0 : Int32).toNatClampNeg = 0 from rfl]; omega, by decide⟩]
theorem ro_87_19 {S : pS} {m : Nat} (h : S.1 19 2 = nI m) (hm : m ≤ 10) : ∃ S', Ro_copyFrom_87_19 S = some (0, S') ∧ S'.1 87 2 = nI m ∧ (∀ i, i < 4 * m → S'.2.1 88 i = S.2.1 20 i) ∧ Off [(87, 2)] [88] S S' := by
  refine ⟨wF (wC S 20 (0 : Int32) 88 (0 : Int32) (nI (4 * m))) 87 2 (nI m), ?_, by rw [wF_1, sA_eq, upd_eq], fun i hi => by rw [wF_2, wC_at (by omega) hi], (Off.rf.wC (by decide)).wF (by decide)⟩
  rw [Ro_copyFrom_87_19_eq, show rF S 19 2 = nI m from h, show (if nI m * (4 : Int32) < (40 : Int32) then nI m * (4 : Int32) else (40 : Int32)) = nI (4 * m) from mn4 (lim := 10) hm (by omega), nI_clamp (by omega)]
  rw [if_pos ⟨by decide, by decide, nI_pos' (by omega), by rw [show (0 : Int32).toNatClampNeg = 0 from rfl]; omega, by rw [show (0 : Int32).toNatClampNeg = 0 from rfl]; omega, by decide⟩]
theorem ro_89_21 {S : pS} {m : Nat} (h : S.1 21 2 = nI m) (hm : m ≤ 8) : ∃ S', Ro_copyFrom_89_21 S = some (0, S') ∧ S'.1 89 2 = nI m ∧ (∀ i, i < 4 * m → S'.2.1 90 i = S.2.1 22 i) ∧ Off [(89, 2)] [90] S S' := by
  refine ⟨wF (wC S 22 (0 : Int32) 90 (0 : Int32) (nI (4 * m))) 89 2 (nI m), ?_, by rw [wF_1, sA_eq, upd_eq], fun i hi => by rw [wF_2, wC_at (by omega) hi], (Off.rf.wC (by decide)).wF (by decide)⟩
  rw [Ro_copyFrom_89_21_eq, show rF S 21 2 = nI m from h, show (if nI m * (4 : Int32) < (32 : Int32) then nI m * (4 : Int32) else (32 : Int32)) = nI (4 * m) from mn4 (lim := 8) hm (by omega), nI_clamp (by omega)]
  rw [if_pos ⟨by decide, by decide, nI_pos' (by omega), by rw [show (0 : Int32).toNatClampNeg = 0 from rfl]; omega, by rw [show (0 : Int32).toNatClampNeg = 0 from rfl]; omega, by decide⟩]
theorem ro_91_23 {S : pS} {m : Nat} (h : S.1 23 2 = nI m) (hm : m ≤ 150) : ∃ S', Ro_copyFrom_91_23 S = some (0, S') ∧ S'.1 91 2 = nI m ∧ (∀ i, i < 4 * m → S'.2.1 92 i = S.2.1 24 i) ∧ Off [(91, 2)] [92] S S' := by
  refine ⟨wF (wC S 24 (0 : Int32) 92 (0 : Int32) (nI (4 * m))) 91 2 (nI m), ?_, by rw [wF_1, sA_eq, upd_eq], fun i hi => by rw [wF_2, wC_at (by omega) hi], (Off.rf.wC (by decide)).wF (by decide)⟩
  rw [Ro_copyFrom_91_23_eq, show rF S 23 2 = nI m from h, show (if nI m * (4 : Int32) < (600 : Int32) then nI m * (4 : Int32) else (600 : Int32)) = nI (4 * m) from mn4 (lim := 150) hm (by omega), nI_clamp (by omega)]
  rw [if_pos ⟨by decide, by decide, nI_pos' (by omega), by rw [show (0 : Int32).toNatClampNeg = 0 from rfl]; omega, by rw [show (0 : Int32).toNatClampNeg = 0 from rfl]; omega, by decide⟩]
theorem ro_15_59 {S : pS} {m : Nat} (h : S.1 59 2 = nI m) (hm : m ≤ 16) : ∃ S', Ro_copyFrom_15_59 S = some (0, S') ∧ S'.1 15 2 = nI m ∧ (∀ i, i < 4 * m → S'.2.1 16 i = S.2.1 60 i) ∧ Off [(15, 2)] [16] S S' := by
  refine ⟨wF (wC S 60 (0 : Int32) 16 (0 : Int32) (nI (4 * m))) 15 2 (nI m), ?_, by rw [wF_1, sA_eq, upd_eq], fun i hi => by rw [wF_2, wC_at (by omega) hi], (Off.rf.wC (by decide)).wF (by decide)⟩
  rw [Ro_copyFrom_15_59_eq, show rF S 59 2 = nI m from h, show (if nI m * (4 : Int32) < (64 : Int32) then nI m * (4 : Int32) else (64 : Int32)) = nI (4 * m) from mn4 (lim := 16) hm (by omega), nI_clamp (by omega)]
  rw [if_pos ⟨by decide, by decide, nI_pos' (by omega), by rw [show (0 : Int32).toNatClampNeg = 0 from rfl]; omega, by rw [show (0 : Int32).toNatClampNeg = 0 from rfl]; omega, by decide⟩]
theorem la_4_72 {S : pS} {L : tL} (h : XL 72 L S) (h0 : L 0 0 ≤ 16) (h1 : L 0 1 ≤ 400) : ∃ S', La_copyFrom_4_72 S = some (0, S') ∧ XL 4 L S' ∧ Off [(4, 7), (4, 8)] [5, 6, 7, 8, 9] S S' := by
  obtain ⟨a, b, c, e⟩ := h
  obtain ⟨S1, hS1⟩ : ∃ S1, S1 = wC S 73 (0 : Int32) 5 (0 : Int32) (nI (L 0 1)) := ⟨_, rfl⟩
  obtain ⟨S2, hS2⟩ : ∃ S2, S2 = wC S1 74 (0 : Int32) 6 (0 : Int32) (nI 16) := ⟨_, rfl⟩
  obtain ⟨S3, hS3⟩ : ∃ S3, S3 = wC S2 75 (0 : Int32) 7 (0 : Int32) (nI 16) := ⟨_, rfl⟩
  obtain ⟨S4, hS4⟩ : ∃ S4, S4 = wC S3 76 (0 : Int32) 8 (0 : Int32) (nI 16) := ⟨_, rfl⟩
  obtain ⟨S5, hS5⟩ : ∃ S5, S5 = wC S4 77 (0 : Int32) 9 (0 : Int32) (nI 16) := ⟨_, rfl⟩
  have o1 : Off [(4, 7), (4, 8)] [5, 6, 7, 8, 9] S S1 := by rw [hS1]; exact Off.rf.wC (by decide)
  have o2 : Off [(4, 7), (4, 8)] [5, 6, 7, 8, 9] S S2 := by rw [hS2]; exact o1.wC (by decide)
  have o3 : Off [(4, 7), (4, 8)] [5, 6, 7, 8, 9] S S3 := by rw [hS3]; exact o2.wC (by decide)
  have o4 : Off [(4, 7), (4, 8)] [5, 6, 7, 8, 9] S S4 := by rw [hS4]; exact o3.wC (by decide)
  have o5 : Off [(4, 7), (4, 8)] [5, 6, 7, 8, 9] S S5 := by rw [hS5]; exact o4.wC (by decide)
  refine ⟨wF (wF S5 4 7 (nI (L 0 1))) 4 8 (nI (L 0 0)), ?_, ⟨by rw [wF_1, sA_eq, upd_eq], by rw [wF_1, sA_eq, upd_ne (by decide), wF_1, sA_eq, upd_eq], fun l hl => ?_, fun k hk => ?_⟩, (o5.wF (by decide)).wF (by decide)⟩
  · rw [La_copyFrom_4_72_eq, show rF S 72 7 = nI (L 0 1) from b, show rF S 72 8 = nI (L 0 0) from a, nI_clamp (by omega)]
    rw [if_pos ⟨by decide, by decide, nI_pos' (by omega), by rw [show (0 : Int32).toNatClampNeg = 0 from rfl]; omega, by rw [show (0 : Int32).toNatClampNeg = 0 from rfl]; omega, by decide⟩]
    rw [hS5, hS4, hS3, hS2, hS1]
    rfl
  · rw [wF_2, wF_2]
    obtain ⟨c1, c2, c3, c4⟩ := c l hl
    refine ⟨?_, ?_, ?_, ?_⟩
    · rw [hS5, wC_no (by decide), hS4, wC_no (by decide), hS3, wC_no (by decide), hS2, wC_at (by decide) (by omega), o1.2.1 _ (by decide)]; exact c1
    · rw [hS5, wC_no (by decide), hS4, wC_no (by decide), hS3, wC_at (by decide) (by omega), o2.2.1 _ (by decide)]; exact c2
    · rw [hS5, wC_no (by decide), hS4, wC_at (by decide) (by omega), o3.2.1 _ (by decide)]; exact c3
    · rw [hS5, wC_at (by decide) (by omega), o4.2.1 _ (by decide)]; exact c4
  · rw [wF_2, wF_2, hS5, wC_no (by decide), hS4, wC_no (by decide), hS3, wC_no (by decide), hS2, wC_no (by decide), hS1, wC_at (by omega) hk]
    exact e k hk
theorem la_72_4 {S : pS} {L : tL} (h : XL 4 L S) (h0 : L 0 0 ≤ 16) (h1 : L 0 1 ≤ 400) : ∃ S', La_copyFrom_72_4 S = some (0, S') ∧ XL 72 L S' ∧ Off [(72, 7), (72, 8)] [73, 74, 75, 76, 77] S S' := by
  obtain ⟨a, b, c, e⟩ := h
  obtain ⟨S1, hS1⟩ : ∃ S1, S1 = wC S 5 (0 : Int32) 73 (0 : Int32) (nI (L 0 1)) := ⟨_, rfl⟩
  obtain ⟨S2, hS2⟩ : ∃ S2, S2 = wC S1 6 (0 : Int32) 74 (0 : Int32) (nI 16) := ⟨_, rfl⟩
  obtain ⟨S3, hS3⟩ : ∃ S3, S3 = wC S2 7 (0 : Int32) 75 (0 : Int32) (nI 16) := ⟨_, rfl⟩
  obtain ⟨S4, hS4⟩ : ∃ S4, S4 = wC S3 8 (0 : Int32) 76 (0 : Int32) (nI 16) := ⟨_, rfl⟩
  obtain ⟨S5, hS5⟩ : ∃ S5, S5 = wC S4 9 (0 : Int32) 77 (0 : Int32) (nI 16) := ⟨_, rfl⟩
  have o1 : Off [(72, 7), (72, 8)] [73, 74, 75, 76, 77] S S1 := by rw [hS1]; exact Off.rf.wC (by decide)
  have o2 : Off [(72, 7), (72, 8)] [73, 74, 75, 76, 77] S S2 := by rw [hS2]; exact o1.wC (by decide)
  have o3 : Off [(72, 7), (72, 8)] [73, 74, 75, 76, 77] S S3 := by rw [hS3]; exact o2.wC (by decide)
  have o4 : Off [(72, 7), (72, 8)] [73, 74, 75, 76, 77] S S4 := by rw [hS4]; exact o3.wC (by decide)
  have o5 : Off [(72, 7), (72, 8)] [73, 74, 75, 76, 77] S S5 := by rw [hS5]; exact o4.wC (by decide)
  refine ⟨wF (wF S5 72 7 (nI (L 0 1))) 72 8 (nI (L 0 0)), ?_, ⟨by rw [wF_1, sA_eq, upd_eq], by rw [wF_1, sA_eq, upd_ne (by decide), wF_1, sA_eq, upd_eq], fun l hl => ?_, fun k hk => ?_⟩, (o5.wF (by decide)).wF (by decide)⟩
  · rw [La_copyFrom_72_4_eq, show rF S 4 7 = nI (L 0 1) from b, show rF S 4 8 = nI (L 0 0) from a, nI_clamp (by omega)]
    rw [if_pos ⟨by decide, by decide, nI_pos' (by omega), by rw [show (0 : Int32).toNatClampNeg = 0 from rfl]; omega, by rw [show (0 : Int32).toNatClampNeg = 0 from rfl]; omega, by decide⟩]
    rw [hS5, hS4, hS3, hS2, hS1]
    rfl
  · rw [wF_2, wF_2]
    obtain ⟨c1, c2, c3, c4⟩ := c l hl
    refine ⟨?_, ?_, ?_, ?_⟩
    · rw [hS5, wC_no (by decide), hS4, wC_no (by decide), hS3, wC_no (by decide), hS2, wC_at (by decide) (by omega), o1.2.1 _ (by decide)]; exact c1
    · rw [hS5, wC_no (by decide), hS4, wC_no (by decide), hS3, wC_at (by decide) (by omega), o2.2.1 _ (by decide)]; exact c2
    · rw [hS5, wC_no (by decide), hS4, wC_at (by decide) (by omega), o3.2.1 _ (by decide)]; exact c3
    · rw [hS5, wC_at (by decide) (by omega), o4.2.1 _ (by decide)]; exact c4
  · rw [wF_2, wF_2, hS5, wC_no (by decide), hS4, wC_no (by decide), hS3, wC_no (by decide), hS2, wC_no (by decide), hS1, wC_at (by omega) hk]
    exact e k hk
theorem la_4_51 {S : pS} {L : tL} (h : XL 51 L S) (h0 : L 0 0 ≤ 16) (h1 : L 0 1 ≤ 400) : ∃ S', La_copyFrom_4_51 S = some (0, S') ∧ XL 4 L S' ∧ Off [(4, 7), (4, 8)] [5, 6, 7, 8, 9] S S' := by
  obtain ⟨a, b, c, e⟩ := h
  obtain ⟨S1, hS1⟩ : ∃ S1, S1 = wC S 52 (0 : Int32) 5 (0 : Int32) (nI (L 0 1)) := ⟨_, rfl⟩
  obtain ⟨S2, hS2⟩ : ∃ S2, S2 = wC S1 53 (0 : Int32) 6 (0 : Int32) (nI 16) := ⟨_, rfl⟩
  obtain ⟨S3, hS3⟩ : ∃ S3, S3 = wC S2 54 (0 : Int32) 7 (0 : Int32) (nI 16) := ⟨_, rfl⟩
  obtain ⟨S4, hS4⟩ : ∃ S4, S4 = wC S3 55 (0 : Int32) 8 (0 : Int32) (nI 16) := ⟨_, rfl⟩
  obtain ⟨S5, hS5⟩ : ∃ S5, S5 = wC S4 56 (0 : Int32) 9 (0 : Int32) (nI 16) := ⟨_, rfl⟩
  have o1 : Off [(4, 7), (4, 8)] [5, 6, 7, 8, 9] S S1 := by rw [hS1]; exact Off.rf.wC (by decide)
  have o2 : Off [(4, 7), (4, 8)] [5, 6, 7, 8, 9] S S2 := by rw [hS2]; exact o1.wC (by decide)
  have o3 : Off [(4, 7), (4, 8)] [5, 6, 7, 8, 9] S S3 := by rw [hS3]; exact o2.wC (by decide)
  have o4 : Off [(4, 7), (4, 8)] [5, 6, 7, 8, 9] S S4 := by rw [hS4]; exact o3.wC (by decide)
  have o5 : Off [(4, 7), (4, 8)] [5, 6, 7, 8, 9] S S5 := by rw [hS5]; exact o4.wC (by decide)
  refine ⟨wF (wF S5 4 7 (nI (L 0 1))) 4 8 (nI (L 0 0)), ?_, ⟨by rw [wF_1, sA_eq, upd_eq], by rw [wF_1, sA_eq, upd_ne (by decide), wF_1, sA_eq, upd_eq], fun l hl => ?_, fun k hk => ?_⟩, (o5.wF (by decide)).wF (by decide)⟩
  · rw [La_copyFrom_4_51_eq, show rF S 51 7 = nI (L 0 1) from b, show rF S 51 8 = nI (L 0 0) from a, nI_clamp (by omega)]
    rw [if_pos ⟨by decide, by decide, nI_pos' (by omega), by rw [show (0 : Int32).toNatClampNeg = 0 from rfl]; omega, by rw [show (0 : Int32).toNatClampNeg = 0 from rfl]; omega, by decide⟩]
    rw [hS5, hS4, hS3, hS2, hS1]
    rfl
  · rw [wF_2, wF_2]
    obtain ⟨c1, c2, c3, c4⟩ := c l hl
    refine ⟨?_, ?_, ?_, ?_⟩
    · rw [hS5, wC_no (by decide), hS4, wC_no (by decide), hS3, wC_no (by decide), hS2, wC_at (by decide) (by omega), o1.2.1 _ (by decide)]; exact c1
    · rw [hS5, wC_no (by decide), hS4, wC_no (by decide), hS3, wC_at (by decide) (by omega), o2.2.1 _ (by decide)]; exact c2
    · rw [hS5, wC_no (by decide), hS4, wC_at (by decide) (by omega), o3.2.1 _ (by decide)]; exact c3
    · rw [hS5, wC_at (by decide) (by omega), o4.2.1 _ (by decide)]; exact c4
  · rw [wF_2, wF_2, hS5, wC_no (by decide), hS4, wC_no (by decide), hS3, wC_no (by decide), hS2, wC_no (by decide), hS1, wC_at (by omega) hk]
    exact e k hk
abbrev FI3 : List (Nat × Nat) := [(3, 8), (3, 9), (4, 7), (4, 8), (15, 2), (17, 2), (19, 2), (21, 2)]
abbrev WI3 : List Nat := [5, 6, 7, 8, 9, 12, 13, 14, 16, 18, 20, 22]
theorem to_3_71 {S : pS} {n : Nat} {L T : tL} (h : XL 72 L S) (ht : XT 71 T S) (h0 : L 0 0 ≤ 16) (h1 : L 0 1 ≤ 400) (hw : WT n T) : ∃ S', To_copyFrom_3_71 S = some (0, S') ∧ XL 4 L S' ∧ XT 3 T S' ∧ Off FI3 WI3 S S' := by
  obtain ⟨S0, a0, b0, c0⟩ := la_4_72 h h0 h1
  have o0 : Off FI3 WI3 S S0 := c0.mono (by decide) (by decide)
  obtain ⟨S1, hS1⟩ : ∃ S1, S1 = wC S0 80 (0 : Int32) 12 (0 : Int32) (nI 12) := ⟨_, rfl⟩
  obtain ⟨S2, hS2⟩ : ∃ S2, S2 = wC S1 81 (0 : Int32) 13 (0 : Int32) (nI 8) := ⟨_, rfl⟩
  obtain ⟨S3, hS3⟩ : ∃ S3, S3 = wC S2 82 (0 : Int32) 14 (0 : Int32) (nI 8) := ⟨_, rfl⟩
  have o1 : Off FI3 WI3 S S1 := by rw [hS1]; exact o0.wC (by decide)
  have o2 : Off FI3 WI3 S S2 := by rw [hS2]; exact o1.wC (by decide)
  have o3 : Off FI3 WI3 S S3 := by rw [hS3]; exact o2.wC (by decide)
  have ox : Off [] [12, 13, 14] S0 S3 := by rw [hS3, hS2, hS1]; exact ((Off.rf.wC (by decide)).wC (by decide)).wC (by decide)
  obtain ⟨t0, t1, t2, t3, t4, t5, t6, t7⟩ := ht
  obtain ⟨S4, a4, b4, c4, e4⟩ := ro_15_83 (S := S3) (m := T 0 2) (by rw [o3.1 _ _ (by decide)]; exact t4.1) hw.2.2.2.1.1
  have o4 : Off FI3 WI3 S S4 := o3.tr (e4.mono (by decide) (by decide))
  obtain ⟨S5, a5, b5, c5, e5⟩ := ro_17_85 (S := S4) (m := T 0 3) (by rw [o4.1 _ _ (by decide)]; exact t5.1) hw.2.2.2.2.1.1
  have o5 : Off FI3 WI3 S S5 := o4.tr (e5.mono (by decide) (by decide))
  obtain ⟨S6, a6, b6, c6, e6⟩ := ro_19_87 (S := S5) (m := T 0 4) (by rw [o5.1 _ _ (by decide)]; exact t6.1) hw.2.2.2.2.2.1.1
  have o6 : Off FI3 WI3 S S6 := o5.tr (e6.mono (by decide) (by decide))
  obtain ⟨S7, a7, b7, c7, e7⟩ := ro_21_89 (S := S6) (m := T 0 5) (by rw [o6.1 _ _ (by decide)]; exact t7.1) hw.2.2.2.2.2.2.1
  have o7 : Off FI3 WI3 S S7 := o6.tr (e7.mono (by decide) (by decide))
  have v8 : S7.1 71 8 = nI (T 0 0) := by rw [o7.1 _ _ (by decide)]; exact t0
  have v9 : S7.1 71 9 = nI (T 0 1) := by rw [o7.1 _ _ (by decide)]; exact t1
  refine ⟨wF (wF S7 3 8 (nI (T 0 0))) 3 9 (nI (T 0 1)), ?_, ?_, ⟨?_, ?_, fun p hp => ?_, fun f hf => ?_, ⟨?_, fun i hi => ?_⟩, ⟨?_, fun i hi => ?_⟩, ⟨?_, fun i hi => ?_⟩, ⟨?_, fun i hi => ?_⟩⟩, (o7.wF (by decide)).wF (by decide)⟩
  · rw [To_copyFrom_3_71_eq, a0, ob]
    rw [show wC (wC (wC S0 80 (0 : Int32) 12 (0 : Int32) (12 : Int32)) 81 (0 : Int32) 13 (0 : Int32) (8 : Int32)) 82 (0 : Int32) 14 (0 : Int32) (8 : Int32) = S3 from by rw [hS3, hS2, hS1]; rfl]
    rw [a4, ob, a5, ob, a6, ob, a7, ob]
    simp only
    rw [show rF S7 71 8 = nI (T 0 0) from v8]
    rw [show rF S7 71 9 = nI (T 0 1) from v9]
  · refine XL_off (XL_off (XL_off (XL_off (XL_off (XL_off b0 ox (by decide) (by decide) (by decide) (by decide) (by decide) (by decide) (by decide)) e4 (by decide) (by decide) (by decide) (by decide) (by decide) (by decide) (by decide)) e5 (by decide) (by decide) (by decide) (by decide) (by decide) (by decide) (by decide)) e6 (by decide) (by decide) (by decide) (by decide) (by decide) (by decide) (by decide)) e7 (by decide) (by decide) (by decide) (by decide) (by decide) (by decide) (by decide)) (((Off.rf (F := [(3, 8), (3, 9)]) (W := [])).wF (by decide)).wF (by decide)) (by decide) (by decide) (by decide) (by decide) (by decide) (by decide) (by decide)
  · rw [wF_1, sA_eq, upd_ne (by decide), wF_1, sA_eq, upd_eq]
  · rw [wF_1, sA_eq, upd_eq]
  · rw [wF_2, wF_2, e7.2.1 _ (by decide), e6.2.1 _ (by decide), e5.2.1 _ (by decide), e4.2.1 _ (by decide), hS3, wC_no (by decide), hS2, wC_no (by decide), hS1, wC_at (by decide) (by omega), o0.2.1 _ (by decide)]
    exact t2 p hp
  · rw [wF_2, wF_2, e7.2.1 _ (by decide), e6.2.1 _ (by decide), e5.2.1 _ (by decide), e4.2.1 _ (by decide), e7.2.1 _ (by decide), e6.2.1 _ (by decide), e5.2.1 _ (by decide), e4.2.1 _ (by decide)]
    refine ⟨?_, ?_⟩
    · rw [hS3, wC_no (by decide), hS2, wC_at (by decide) (by omega), o1.2.1 _ (by decide)]; exact (t3 f hf).1
    · rw [hS3, wC_at (by decide) (by omega), o2.2.1 _ (by decide)]; exact (t3 f hf).2
  · rw [wF_1, sA_ne (by decide), wF_1, sA_ne (by decide), e7.1 _ _ (by decide), e6.1 _ _ (by decide), e5.1 _ _ (by decide)]; exact b4
  · rw [wF_2, wF_2, e7.2.1 _ (by decide), e6.2.1 _ (by decide), e5.2.1 _ (by decide), c4 _ (by omega), c4 _ (by omega), c4 _ (by omega), o3.2.1 _ (by decide)]; exact t4.2 i hi
  · rw [wF_1, sA_ne (by decide), wF_1, sA_ne (by decide), e7.1 _ _ (by decide), e6.1 _ _ (by decide)]; exact b5
  · rw [wF_2, wF_2, e7.2.1 _ (by decide), e6.2.1 _ (by decide), c5 _ (by omega), c5 _ (by omega), o4.2.1 _ (by decide)]; exact t5.2 i hi
  · rw [wF_1, sA_ne (by decide), wF_1, sA_ne (by decide), e7.1 _ _ (by decide)]; exact b6
  · rw [wF_2, wF_2, e7.2.1 _ (by decide), c6 _ (by omega), c6 _ (by omega), o5.2.1 _ (by decide)]; exact t6.2 i hi
  · rw [wF_1, sA_ne (by decide), wF_1, sA_ne (by decide)]; exact b7
  · rw [wF_2, wF_2, c7 _ (by omega), c7 _ (by omega), c7 _ (by omega), o6.2.1 _ (by decide)]; exact t7.2 i hi
abbrev FI71 : List (Nat × Nat) := [(71, 8), (71, 9), (72, 7), (72, 8), (83, 2), (85, 2), (87, 2), (89, 2)]
abbrev WI71 : List Nat := [73, 74, 75, 76, 77, 80, 81, 82, 84, 86, 88, 90]
theorem to_71_3 {S : pS} {n : Nat} {L T : tL} (h : XL 4 L S) (ht : XT 3 T S) (h0 : L 0 0 ≤ 16) (h1 : L 0 1 ≤ 400) (hw : WT n T) : ∃ S', To_copyFrom_71_3 S = some (0, S') ∧ XL 72 L S' ∧ XT 71 T S' ∧ Off FI71 WI71 S S' := by
  obtain ⟨S0, a0, b0, c0⟩ := la_72_4 h h0 h1
  have o0 : Off FI71 WI71 S S0 := c0.mono (by decide) (by decide)
  obtain ⟨S1, hS1⟩ : ∃ S1, S1 = wC S0 12 (0 : Int32) 80 (0 : Int32) (nI 12) := ⟨_, rfl⟩
  obtain ⟨S2, hS2⟩ : ∃ S2, S2 = wC S1 13 (0 : Int32) 81 (0 : Int32) (nI 8) := ⟨_, rfl⟩
  obtain ⟨S3, hS3⟩ : ∃ S3, S3 = wC S2 14 (0 : Int32) 82 (0 : Int32) (nI 8) := ⟨_, rfl⟩
  have o1 : Off FI71 WI71 S S1 := by rw [hS1]; exact o0.wC (by decide)
  have o2 : Off FI71 WI71 S S2 := by rw [hS2]; exact o1.wC (by decide)
  have o3 : Off FI71 WI71 S S3 := by rw [hS3]; exact o2.wC (by decide)
  have ox : Off [] [80, 81, 82] S0 S3 := by rw [hS3, hS2, hS1]; exact ((Off.rf.wC (by decide)).wC (by decide)).wC (by decide)
  obtain ⟨t0, t1, t2, t3, t4, t5, t6, t7⟩ := ht
  obtain ⟨S4, a4, b4, c4, e4⟩ := ro_83_15 (S := S3) (m := T 0 2) (by rw [o3.1 _ _ (by decide)]; exact t4.1) hw.2.2.2.1.1
  have o4 : Off FI71 WI71 S S4 := o3.tr (e4.mono (by decide) (by decide))
  obtain ⟨S5, a5, b5, c5, e5⟩ := ro_85_17 (S := S4) (m := T 0 3) (by rw [o4.1 _ _ (by decide)]; exact t5.1) hw.2.2.2.2.1.1
  have o5 : Off FI71 WI71 S S5 := o4.tr (e5.mono (by decide) (by decide))
  obtain ⟨S6, a6, b6, c6, e6⟩ := ro_87_19 (S := S5) (m := T 0 4) (by rw [o5.1 _ _ (by decide)]; exact t6.1) hw.2.2.2.2.2.1.1
  have o6 : Off FI71 WI71 S S6 := o5.tr (e6.mono (by decide) (by decide))
  obtain ⟨S7, a7, b7, c7, e7⟩ := ro_89_21 (S := S6) (m := T 0 5) (by rw [o6.1 _ _ (by decide)]; exact t7.1) hw.2.2.2.2.2.2.1
  have o7 : Off FI71 WI71 S S7 := o6.tr (e7.mono (by decide) (by decide))
  have v8 : S7.1 3 8 = nI (T 0 0) := by rw [o7.1 _ _ (by decide)]; exact t0
  have v9 : S7.1 3 9 = nI (T 0 1) := by rw [o7.1 _ _ (by decide)]; exact t1
  refine ⟨wF (wF S7 71 8 (nI (T 0 0))) 71 9 (nI (T 0 1)), ?_, ?_, ⟨?_, ?_, fun p hp => ?_, fun f hf => ?_, ⟨?_, fun i hi => ?_⟩, ⟨?_, fun i hi => ?_⟩, ⟨?_, fun i hi => ?_⟩, ⟨?_, fun i hi => ?_⟩⟩, (o7.wF (by decide)).wF (by decide)⟩
  · rw [To_copyFrom_71_3_eq, a0, ob]
    rw [show wC (wC (wC S0 12 (0 : Int32) 80 (0 : Int32) (12 : Int32)) 13 (0 : Int32) 81 (0 : Int32) (8 : Int32)) 14 (0 : Int32) 82 (0 : Int32) (8 : Int32) = S3 from by rw [hS3, hS2, hS1]; rfl]
    rw [a4, ob, a5, ob, a6, ob, a7, ob]
    simp only
    rw [show rF S7 3 8 = nI (T 0 0) from v8]
    rw [show rF S7 3 9 = nI (T 0 1) from v9]
  · refine XL_off (XL_off (XL_off (XL_off (XL_off (XL_off b0 ox (by decide) (by decide) (by decide) (by decide) (by decide) (by decide) (by decide)) e4 (by decide) (by decide) (by decide) (by decide) (by decide) (by decide) (by decide)) e5 (by decide) (by decide) (by decide) (by decide) (by decide) (by decide) (by decide)) e6 (by decide) (by decide) (by decide) (by decide) (by decide) (by decide) (by decide)) e7 (by decide) (by decide) (by decide) (by decide) (by decide) (by decide) (by decide)) (((Off.rf (F := [(71, 8), (71, 9)]) (W := [])).wF (by decide)).wF (by decide)) (by decide) (by decide) (by decide) (by decide) (by decide) (by decide) (by decide)
  · rw [wF_1, sA_eq, upd_ne (by decide), wF_1, sA_eq, upd_eq]
  · rw [wF_1, sA_eq, upd_eq]
  · rw [wF_2, wF_2, e7.2.1 _ (by decide), e6.2.1 _ (by decide), e5.2.1 _ (by decide), e4.2.1 _ (by decide), hS3, wC_no (by decide), hS2, wC_no (by decide), hS1, wC_at (by decide) (by omega), o0.2.1 _ (by decide)]
    exact t2 p hp
  · rw [wF_2, wF_2, e7.2.1 _ (by decide), e6.2.1 _ (by decide), e5.2.1 _ (by decide), e4.2.1 _ (by decide), e7.2.1 _ (by decide), e6.2.1 _ (by decide), e5.2.1 _ (by decide), e4.2.1 _ (by decide)]
    refine ⟨?_, ?_⟩
    · rw [hS3, wC_no (by decide), hS2, wC_at (by decide) (by omega), o1.2.1 _ (by decide)]; exact (t3 f hf).1
    · rw [hS3, wC_at (by decide) (by omega), o2.2.1 _ (by decide)]; exact (t3 f hf).2
  · rw [wF_1, sA_ne (by decide), wF_1, sA_ne (by decide), e7.1 _ _ (by decide), e6.1 _ _ (by decide), e5.1 _ _ (by decide)]; exact b4
  · rw [wF_2, wF_2, e7.2.1 _ (by decide), e6.2.1 _ (by decide), e5.2.1 _ (by decide), c4 _ (by omega), c4 _ (by omega), c4 _ (by omega), o3.2.1 _ (by decide)]; exact t4.2 i hi
  · rw [wF_1, sA_ne (by decide), wF_1, sA_ne (by decide), e7.1 _ _ (by decide), e6.1 _ _ (by decide)]; exact b5
  · rw [wF_2, wF_2, e7.2.1 _ (by decide), e6.2.1 _ (by decide), c5 _ (by omega), c5 _ (by omega), o4.2.1 _ (by decide)]; exact t5.2 i hi
  · rw [wF_1, sA_ne (by decide), wF_1, sA_ne (by decide), e7.1 _ _ (by decide)]; exact b6
  · rw [wF_2, wF_2, e7.2.1 _ (by decide), c6 _ (by omega), c6 _ (by omega), o5.2.1 _ (by decide)]; exact t6.2 i hi
  · rw [wF_1, sA_ne (by decide), wF_1, sA_ne (by decide)]; exact b7
  · rw [wF_2, wF_2, c7 _ (by omega), c7 _ (by omega), c7 _ (by omega), o6.2.1 _ (by decide)]; exact t7.2 i hi
