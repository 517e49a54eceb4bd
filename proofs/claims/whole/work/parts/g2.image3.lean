/-! The image: the loops of the reference. -/
theorem hv_c {S1 : pS} {p : Nat × Nat} {w : Int32} {c i : Nat} (hp : p.2 < 2000) (hi : i < 2000) (hc : c ≠ 0) (hn : c ≠ p.1) : rA S1 c (nI i) = gt (pt S1 p w) (c, i) := by
  rw [gp_ne hp (fun z => hn (by rw [← z])), rA_n (by omega)]
  unfold gt
  rw [if_neg hc]
theorem hv_0 {S : pS} {c i : Nat} (hi : i < 2000) (hc : c ≠ 0) : rA S c (nI i) = gt S (c, i) := by
  rw [rA_n (by omega)]
  unfold gt
  rw [if_neg hc]
theorem hv_f {S1 : pS} {a b : Nat} {w : Int32} (ha : a < 2000) (hn : b ≠ a) : rF S1 0 b = gt (pt S1 (0, a) w) (0, b) := by
  rw [gp_ne ha (fun z => hn (congrArg Prod.snd z))]
  rfl
theorem p166_0 : ∀ i, i < 8 → pl (166 + 3 * i + 0) = (31, i) := by decide +kernel
theorem p166_1 : ∀ i, i < 8 → pl (166 + 3 * i + 1) = (32, i) := by decide +kernel
theorem p166_2 : ∀ i, i < 8 → pl (166 + 3 * i + 2) = (33, i) := by decide +kernel
theorem k_R_keepsTold_c204 {md : Nat} {R0 : pS} (hmd : md ≤ 1) : ∀ m i (S : pS), i + m = 8 → Kq md R0 (166 + 3 * i) S → ∃ S', Kq md R0 (166 + 3 * 8) S' ∧ R_keepsTold_c204 (nI i) S = some (0, S') := by
  intro m
  induction m with
  | zero =>
    intro i S hi h
    have : i = 8 := by omega
    subst this
    exact ⟨S, h, by rw [R_keepsTold_c204_eq, if_neg (by decide)]⟩
  | succ m ih =>
    intro i S hi h
    have hin : (inb (nI i) 8 = true) = True := eq_true (inb_n (by omega) (by omega))
    rw [R_keepsTold_c204_eq, if_pos (show nI i < (8 : Int32) from nlt_t (n := 8) (by omega) (by omega))]
    simp only [hin, if_true]
    obtain ⟨w0, S0, e0, k0⟩ := Kq_st hmd h (by omega) (p := (31, i)) (v := rA S 31 (nI i)) (p166_0 i (by omega)) (hv_0 (by omega) (by decide))
    obtain ⟨w1, S1, e1, k1⟩ := Kq_st hmd k0 (by omega) (p := (32, i)) (v := rA S0 32 (nI i)) (p166_1 i (by omega)) (hv_c (by omega) (by omega) (by decide) (show 32 ≠ 31 by decide))
    obtain ⟨w2, S2, e2, k2⟩ := Kq_st hmd k1 (by omega) (p := (33, i)) (v := rA S1 33 (nI i)) (p166_2 i (by omega)) (hv_c (by omega) (by omega) (by decide) (show 33 ≠ 32 by decide))
    rw [e0, ob]
    simp only []
    rw [show R_keepsOne (rA S0 32 (nI i)) (wA S0 31 (nI i) w0) = _ from e1, ob]
    simp only []
    rw [show R_keepsOne (rA S1 33 (nI i)) (wA S1 32 (nI i) w1) = _ from e2, ob]
    simp only []
    rw [show nI i + (1 : Int32) = nI (i + 1) from nI_1 i]
    exact ih (i + 1) _ (by omega) (by rw [show 166 + 3 * (i + 1) = 166 + 3 * i + 3 from by omega]; exact k2)
theorem p146_0 : ∀ i, i < 10 → pl (146 + 2 * i + 0) = (29, i) := by decide +kernel
theorem p146_1 : ∀ i, i < 10 → pl (146 + 2 * i + 1) = (30, i) := by decide +kernel
theorem k_R_keepsTold_c158 {md : Nat} {R0 : pS} (hmd : md ≤ 1) : ∀ m i (S : pS), i + m = 10 → Kq md R0 (146 + 2 * i) S → ∃ S', Kq md R0 (146 + 2 * 10) S' ∧ R_keepsTold_c158 (nI i) S = R_keepsTold_c204 (0 : Int32) S' := by
  intro m
  induction m with
  | zero =>
    intro i S hi h
    have : i = 10 := by omega
    subst this
    exact ⟨S, h, by rw [R_keepsTold_c158_eq, if_neg (by decide)]⟩
  | succ m ih =>
    intro i S hi h
    have hin : (inb (nI i) 10 = true) = True := eq_true (inb_n (by omega) (by omega))
    rw [R_keepsTold_c158_eq, if_pos (show nI i < (10 : Int32) from nlt_t (n := 10) (by omega) (by omega))]
    simp only [hin, if_true]
    obtain ⟨w0, S0, e0, k0⟩ := Kq_st hmd h (by omega) (p := (29, i)) (v := rA S 29 (nI i)) (p146_0 i (by omega)) (hv_0 (by omega) (by decide))
    obtain ⟨w1, S1, e1, k1⟩ := Kq_st hmd k0 (by omega) (p := (30, i)) (v := rA S0 30 (nI i)) (p146_1 i (by omega)) (hv_c (by omega) (by omega) (by decide) (show 30 ≠ 29 by decide))
    rw [e0, ob]
    simp only []
    rw [show R_keepsOne (rA S0 30 (nI i)) (wA S0 29 (nI i) w0) = _ from e1, ob]
    simp only []
    rw [show nI i + (1 : Int32) = nI (i + 1) from nI_1 i]
    exact ih (i + 1) _ (by omega) (by rw [show 146 + 2 * (i + 1) = 146 + 2 * i + 2 from by omega]; exact k1)
theorem p122_0 : ∀ i, i < 12 → pl (122 + 2 * i + 0) = (24, i) := by decide +kernel
theorem p122_1 : ∀ i, i < 12 → pl (122 + 2 * i + 1) = (25, i) := by decide +kernel
theorem k_R_keepsTold_c112 {md : Nat} {R0 : pS} (hmd : md ≤ 1) : ∀ m i (S : pS), i + m = 12 → Kq md R0 (122 + 2 * i) S → ∃ S', Kq md R0 (122 + 2 * 12) S' ∧ R_keepsTold_c112 (nI i) S = R_keepsTold_c158 (0 : Int32) S' := by
  intro m
  induction m with
  | zero =>
    intro i S hi h
    have : i = 12 := by omega
    subst this
    exact ⟨S, h, by rw [R_keepsTold_c112_eq, if_neg (by decide)]⟩
  | succ m ih =>
    intro i S hi h
    have hin : (inb (nI i) 12 = true) = True := eq_true (inb_n (by omega) (by omega))
    rw [R_keepsTold_c112_eq, if_pos (show nI i < (12 : Int32) from nlt_t (n := 12) (by omega) (by omega))]
    simp only [hin, if_true]
    obtain ⟨w0, S0, e0, k0⟩ := Kq_st hmd h (by omega) (p := (24, i)) (v := rA S 24 (nI i)) (p122_0 i (by omega)) (hv_0 (by omega) (by decide))
    obtain ⟨w1, S1, e1, k1⟩ := Kq_st hmd k0 (by omega) (p := (25, i)) (v := rA S0 25 (nI i)) (p122_1 i (by omega)) (hv_c (by omega) (by omega) (by decide) (show 25 ≠ 24 by decide))
    rw [e0, ob]
    simp only []
    rw [show R_keepsOne (rA S0 25 (nI i)) (wA S0 24 (nI i) w0) = _ from e1, ob]
    simp only []
    rw [show nI i + (1 : Int32) = nI (i + 1) from nI_1 i]
    exact ih (i + 1) _ (by omega) (by rw [show 122 + 2 * (i + 1) = 122 + 2 * i + 2 from by omega]; exact k1)
theorem p80_0 : ∀ i, i < 14 → pl (80 + 3 * i + 0) = (4, i) := by decide +kernel
theorem p80_1 : ∀ i, i < 14 → pl (80 + 3 * i + 1) = (5, i) := by decide +kernel
theorem p80_2 : ∀ i, i < 14 → pl (80 + 3 * i + 2) = (6, i) := by decide +kernel
theorem k_R_keepsTold_c50 {md : Nat} {R0 : pS} (hmd : md ≤ 1) : ∀ m i (S : pS), i + m = 14 → Kq md R0 (80 + 3 * i) S → ∃ S', Kq md R0 (80 + 3 * 14) S' ∧ R_keepsTold_c50 (nI i) S = R_keepsTold_c112 (0 : Int32) S' := by
  intro m
  induction m with
  | zero =>
    intro i S hi h
    have : i = 14 := by omega
    subst this
    exact ⟨S, h, by rw [R_keepsTold_c50_eq, if_neg (by decide)]⟩
  | succ m ih =>
    intro i S hi h
    have hin : (inb (nI i) 14 = true) = True := eq_true (inb_n (by omega) (by omega))
    rw [R_keepsTold_c50_eq, if_pos (show nI i < (14 : Int32) from nlt_t (n := 14) (by omega) (by omega))]
    simp only [hin, if_true]
    obtain ⟨w0, S0, e0, k0⟩ := Kq_st hmd h (by omega) (p := (4, i)) (v := rA S 4 (nI i)) (p80_0 i (by omega)) (hv_0 (by omega) (by decide))
    obtain ⟨w1, S1, e1, k1⟩ := Kq_st hmd k0 (by omega) (p := (5, i)) (v := rA S0 5 (nI i)) (p80_1 i (by omega)) (hv_c (by omega) (by omega) (by decide) (show 5 ≠ 4 by decide))
    obtain ⟨w2, S2, e2, k2⟩ := Kq_st hmd k1 (by omega) (p := (6, i)) (v := rA S1 6 (nI i)) (p80_2 i (by omega)) (hv_c (by omega) (by omega) (by decide) (show 6 ≠ 5 by decide))
    rw [e0, ob]
    simp only []
    rw [show R_keepsOne (rA S0 5 (nI i)) (wA S0 4 (nI i) w0) = _ from e1, ob]
    simp only []
    rw [show R_keepsOne (rA S1 6 (nI i)) (wA S1 5 (nI i) w1) = _ from e2, ob]
    simp only []
    rw [show nI i + (1 : Int32) = nI (i + 1) from nI_1 i]
    exact ih (i + 1) _ (by omega) (by rw [show 80 + 3 * (i + 1) = 80 + 3 * i + 3 from by omega]; exact k2)
theorem p221_0 : ∀ i, i < 48 → pl (221 + 1 * i + 0) = (21, i) := by decide +kernel
theorem k_R_keepsTexts_c114 {md : Nat} {R0 : pS} (hmd : md ≤ 1) : ∀ m i (S : pS), i + m = 48 → Kq md R0 (221 + 1 * i) S → ∃ S', Kq md R0 (221 + 1 * 48) S' ∧ R_keepsTexts_c114 (nI i) S = some (0, S') := by
  intro m
  induction m with
  | zero =>
    intro i S hi h
    have : i = 48 := by omega
    subst this
    exact ⟨S, h, by rw [R_keepsTexts_c114_eq, if_neg (by decide)]⟩
  | succ m ih =>
    intro i S hi h
    have hin : (inb (nI i) 96 = true) = True := eq_true (inb_n (by omega) (by omega))
    rw [R_keepsTexts_c114_eq, if_pos (show nI i < (48 : Int32) from nlt_t (n := 48) (by omega) (by omega))]
    simp only [hin, if_true]
    obtain ⟨w0, S0, e0, k0⟩ := Kq_st hmd h (by omega) (p := (21, i)) (v := rA S 21 (nI i)) (p221_0 i (by omega)) (hv_0 (by omega) (by decide))
    rw [e0, ob]
    simp only []
    rw [show nI i + (1 : Int32) = nI (i + 1) from nI_1 i]
    exact ih (i + 1) _ (by omega) (by rw [show 221 + 1 * (i + 1) = 221 + 1 * i + 1 from by omega]; exact k0)
theorem p205_0 : ∀ i, i < 8 → pl (205 + 2 * i + 0) = (19, i) := by decide +kernel
theorem p205_1 : ∀ i, i < 8 → pl (205 + 2 * i + 1) = (20, i) := by decide +kernel
theorem k_R_keepsTexts_c68 {md : Nat} {R0 : pS} (hmd : md ≤ 1) : ∀ m i (S : pS), i + m = 8 → Kq md R0 (205 + 2 * i) S → ∃ S', Kq md R0 (205 + 2 * 8) S' ∧ R_keepsTexts_c68 (nI i) S = R_keepsTexts_c114 (0 : Int32) S' := by
  intro m
  induction m with
  | zero =>
    intro i S hi h
    have : i = 8 := by omega
    subst this
    exact ⟨S, h, by rw [R_keepsTexts_c68_eq, if_neg (by decide)]⟩
  | succ m ih =>
    intro i S hi h
    have hin : (inb (nI i) 16 = true) = True := eq_true (inb_n (by omega) (by omega))
    rw [R_keepsTexts_c68_eq, if_pos (show nI i < (8 : Int32) from nlt_t (n := 8) (by omega) (by omega))]
    simp only [hin, if_true]
    obtain ⟨w0, S0, e0, k0⟩ := Kq_st hmd h (by omega) (p := (19, i)) (v := rA S 19 (nI i)) (p205_0 i (by omega)) (hv_0 (by omega) (by decide))
    obtain ⟨w1, S1, e1, k1⟩ := Kq_st hmd k0 (by omega) (p := (20, i)) (v := rA S0 20 (nI i)) (p205_1 i (by omega)) (hv_c (by omega) (by omega) (by decide) (show 20 ≠ 19 by decide))
    rw [e0, ob]
    simp only []
    rw [show R_keepsOne (rA S0 20 (nI i)) (wA S0 19 (nI i) w0) = _ from e1, ob]
    simp only []
    rw [show nI i + (1 : Int32) = nI (i + 1) from nI_1 i]
    exact ih (i + 1) _ (by omega) (by rw [show 205 + 2 * (i + 1) = 205 + 2 * i + 2 from by omega]; exact k1)
theorem p193_0 : ∀ i, i < 12 → pl (193 + 1 * i + 0) = (18, i) := by decide +kernel
theorem k_R_keepsTexts_c38 {md : Nat} {R0 : pS} (hmd : md ≤ 1) : ∀ m i (S : pS), i + m = 12 → Kq md R0 (193 + 1 * i) S → ∃ S', Kq md R0 (193 + 1 * 12) S' ∧ R_keepsTexts_c38 (nI i) S = R_keepsTexts_c68 (0 : Int32) S' := by
  intro m
  induction m with
  | zero =>
    intro i S hi h
    have : i = 12 := by omega
    subst this
    exact ⟨S, h, by rw [R_keepsTexts_c38_eq, if_neg (by decide)]⟩
  | succ m ih =>
    intro i S hi h
    have hin : (inb (nI i) 24 = true) = True := eq_true (inb_n (by omega) (by omega))
    rw [R_keepsTexts_c38_eq, if_pos (show nI i < (12 : Int32) from nlt_t (n := 12) (by omega) (by omega))]
    simp only [hin, if_true]
    obtain ⟨w0, S0, e0, k0⟩ := Kq_st hmd h (by omega) (p := (18, i)) (v := rA S 18 (nI i)) (p193_0 i (by omega)) (hv_0 (by omega) (by decide))
    rw [e0, ob]
    simp only []
    rw [show nI i + (1 : Int32) = nI (i + 1) from nI_1 i]
    exact ih (i + 1) _ (by omega) (by rw [show 193 + 1 * (i + 1) = 193 + 1 * i + 1 from by omega]; exact k0)
theorem p934_0 : ∀ i, i < 400 → pl (934 + 2 * i + 0) = (15, i) := by decide +kernel
theorem p934_1 : ∀ i, i < 400 → pl (934 + 2 * i + 1) = (16, i) := by decide +kernel
theorem k_R_keepsLaw_c96 {md : Nat} {R0 : pS} (hmd : md ≤ 1) : ∀ m i (S : pS), i + m = 400 → Kq md R0 (934 + 2 * i) S → ∃ S', Kq md R0 (934 + 2 * 400) S' ∧ R_keepsLaw_c96 (nI i) S = some (0, S') := by
  intro m
  induction m with
  | zero =>
    intro i S hi h
    have : i = 400 := by omega
    subst this
    exact ⟨S, h, by rw [R_keepsLaw_c96_eq, if_neg (by decide)]⟩
  | succ m ih =>
    intro i S hi h
    have hin : (inb (nI i) 1200 = true) = True := eq_true (inb_n (by omega) (by omega))
    rw [R_keepsLaw_c96_eq, if_pos (show nI i < (400 : Int32) from nlt_t (n := 400) (by omega) (by omega))]
    simp only [hin, if_true]
    obtain ⟨w0, S0, e0, k0⟩ := Kq_st hmd h (by omega) (p := (15, i)) (v := rA S 15 (nI i)) (p934_0 i (by omega)) (hv_0 (by omega) (by decide))
    obtain ⟨w1, S1, e1, k1⟩ := Kq_st hmd k0 (by omega) (p := (16, i)) (v := rA S0 16 (nI i)) (p934_1 i (by omega)) (hv_c (by omega) (by omega) (by decide) (show 16 ≠ 15 by decide))
    rw [e0, ob]
    simp only []
    rw [show R_keepsOne (rA S0 16 (nI i)) (wA S0 15 (nI i) w0) = _ from e1, ob]
    simp only []
    rw [show nI i + (1 : Int32) = nI (i + 1) from nI_1 i]
    exact ih (i + 1) _ (by omega) (by rw [show 934 + 2 * (i + 1) = 934 + 2 * i + 2 from by omega]; exact k1)
theorem p870_0 : ∀ i, i < 16 → pl (870 + 4 * i + 0) = (11, i) := by decide +kernel
theorem p870_1 : ∀ i, i < 16 → pl (870 + 4 * i + 1) = (12, i) := by decide +kernel
theorem p870_2 : ∀ i, i < 16 → pl (870 + 4 * i + 2) = (13, i) := by decide +kernel
theorem p870_3 : ∀ i, i < 16 → pl (870 + 4 * i + 3) = (14, i) := by decide +kernel
theorem k_R_keepsLaw_c18 {md : Nat} {R0 : pS} (hmd : md ≤ 1) : ∀ m i (S : pS), i + m = 16 → Kq md R0 (870 + 4 * i) S → ∃ S', Kq md R0 (870 + 4 * 16) S' ∧ R_keepsLaw_c18 (nI i) S = R_keepsLaw_c96 (0 : Int32) S' := by
  intro m
  induction m with
  | zero =>
    intro i S hi h
    have : i = 16 := by omega
    subst this
    exact ⟨S, h, by rw [R_keepsLaw_c18_eq, if_neg (by decide)]⟩
  | succ m ih =>
    intro i S hi h
    have hin : (inb (nI i) 48 = true) = True := eq_true (inb_n (by omega) (by omega))
    rw [R_keepsLaw_c18_eq, if_pos (show nI i < (16 : Int32) from nlt_t (n := 16) (by omega) (by omega))]
    simp only [hin, if_true]
    obtain ⟨w0, S0, e0, k0⟩ := Kq_st hmd h (by omega) (p := (11, i)) (v := rA S 11 (nI i)) (p870_0 i (by omega)) (hv_0 (by omega) (by decide))
    obtain ⟨w1, S1, e1, k1⟩ := Kq_st hmd k0 (by omega) (p := (12, i)) (v := rA S0 12 (nI i)) (p870_1 i (by omega)) (hv_c (by omega) (by omega) (by decide) (show 12 ≠ 11 by decide))
    obtain ⟨w2, S2, e2, k2⟩ := Kq_st hmd k1 (by omega) (p := (13, i)) (v := rA S1 13 (nI i)) (p870_2 i (by omega)) (hv_c (by omega) (by omega) (by decide) (show 13 ≠ 12 by decide))
    obtain ⟨w3, S3, e3, k3⟩ := Kq_st hmd k2 (by omega) (p := (14, i)) (v := rA S2 14 (nI i)) (p870_3 i (by omega)) (hv_c (by omega) (by omega) (by decide) (show 14 ≠ 13 by decide))
    rw [e0, ob]
    simp only []
    rw [show R_keepsOne (rA S0 12 (nI i)) (wA S0 11 (nI i) w0) = _ from e1, ob]
    simp only []
    rw [show R_keepsOne (rA S1 13 (nI i)) (wA S1 12 (nI i) w1) = _ from e2, ob]
    simp only []
    rw [show R_keepsOne (rA S2 14 (nI i)) (wA S2 13 (nI i) w2) = _ from e3, ob]
    simp only []
    rw [show nI i + (1 : Int32) = nI (i + 1) from nI_1 i]
    exact ih (i + 1) _ (by omega) (by rw [show 870 + 4 * (i + 1) = 870 + 4 * i + 4 from by omega]; exact k3)
theorem p269_0 : ∀ i, i < 600 → pl (269 + 1 * i + 0) = (7, i) := by decide +kernel
theorem k_R_image_c73 {md : Nat} {R0 : pS} (hmd : md ≤ 1) (l1 : Int32) : ∀ m i (S : pS), i + m = 600 → Kq md R0 (269 + 1 * i) S → ∃ S', Kq md R0 (269 + 1 * 600) S' ∧ R_image_c73 l1 (nI i) S = ((R_keepsLaw S').bind (fun q5 => if l1 = 0 then (some ((1 : Int32), (wF q5.2 0 3 (0 : Int32)))) else (some ((1 : Int32), q5.2)))) := by
  intro m
  induction m with
  | zero =>
    intro i S hi h
    have : i = 600 := by omega
    subst this
    exact ⟨S, h, by rw [R_image_c73_eq, if_neg (by decide)]⟩
  | succ m ih =>
    intro i S hi h
    have hin : (inb (nI i) 600 = true) = True := eq_true (inb_n (by omega) (by omega))
    rw [R_image_c73_eq, if_pos (show nI i < (600 : Int32) from nlt_t (n := 600) (by omega) (by omega))]
    simp only [hin, if_true]
    obtain ⟨w0, S0, e0, k0⟩ := Kq_st hmd h (by omega) (p := (7, i)) (v := rA S 7 (nI i)) (p269_0 i (by omega)) (hv_0 (by omega) (by decide))
    rw [e0, ob]
    simp only []
    rw [show nI i + (1 : Int32) = nI (i + 1) from nI_1 i]
    exact ih (i + 1) _ (by omega) (by rw [show 269 + 1 * (i + 1) = 269 + 1 * i + 1 from by omega]; exact k0)
theorem p0_0 : ∀ i, i < 76 → pl (0 + 1 * i + 0) = (1, i) := by decide +kernel
theorem k_R_image_c35 {md : Nat} {R0 : pS} (hmd : md ≤ 1) (l1 : Int32) : ∀ m i (S : pS), i + m = 76 → Kq md R0 (0 + 1 * i) S → ∃ S', Kq md R0 (0 + 1 * 76) S' ∧ R_image_c35 l1 (nI i) S = ((R_keepsTold S').bind (fun q2 => (R_keepsTexts q2.2).bind (fun q3 => R_image_c73 l1 (0 : Int32) q3.2))) := by
  intro m
  induction m with
  | zero =>
    intro i S hi h
    have : i = 76 := by omega
    subst this
    exact ⟨S, h, by rw [R_image_c35_eq, if_neg (by decide)]⟩
  | succ m ih =>
    intro i S hi h
    have hin : (inb (nI i) 76 = true) = True := eq_true (inb_n (by omega) (by omega))
    rw [R_image_c35_eq, if_pos (show nI i < (76 : Int32) from nlt_t (n := 76) (by omega) (by omega))]
    simp only [hin, if_true]
    obtain ⟨w0, S0, e0, k0⟩ := Kq_st hmd h (by omega) (p := (1, i)) (v := rA S 1 (nI i)) (p0_0 i (by omega)) (hv_0 (by omega) (by decide))
    rw [e0, ob]
    simp only []
    rw [show nI i + (1 : Int32) = nI (i + 1) from nI_1 i]
    exact ih (i + 1) _ (by omega) (by rw [show 0 + 1 * (i + 1) = 0 + 1 * i + 1 from by omega]; exact k0)
theorem k_told {md : Nat} {R0 S : pS} (hmd : md ≤ 1) (h : Kq md R0 76 S) : ∃ S', Kq md R0 190 S' ∧ R_keepsTold S = some (0, S') := by
  obtain ⟨w0, S0, e0, k0⟩ := Kq_st hmd h (by omega) (p := (0, 6)) (v := rF S 0 6) rfl rfl
  obtain ⟨w1, S1, e1, k1⟩ := Kq_st hmd k0 (by omega) (p := (0, 43)) (v := rF S0 0 43) rfl (hv_f (by decide) (by decide))
  obtain ⟨w2, S2, e2, k2⟩ := Kq_st hmd k1 (by omega) (p := (0, 49)) (v := rF S1 0 49) rfl (hv_f (by decide) (by decide))
  obtain ⟨w3, S3, e3, k3⟩ := Kq_st hmd k2 (by omega) (p := (0, 52)) (v := rF S2 0 52) rfl (hv_f (by decide) (by decide))
  obtain ⟨S4, k4, e4⟩ := k_R_keepsTold_c50 hmd 14 0 _ rfl k3
  obtain ⟨S5, k5, e5⟩ := k_R_keepsTold_c112 hmd 12 0 _ rfl k4
  obtain ⟨S6, k6, e6⟩ := k_R_keepsTold_c158 hmd 10 0 _ rfl k5
  obtain ⟨S7, k7, e7⟩ := k_R_keepsTold_c204 hmd 8 0 _ rfl k6
  refine ⟨S7, k7, ?_⟩
  rw [R_keepsTold_eq, e0, ob]
  simp only []
  rw [show R_keepsOne (rF S0 0 43) (wF S0 0 6 w0) = _ from e1, ob]
  simp only []
  rw [show R_keepsOne (rF S1 0 49) (wF S1 0 43 w1) = _ from e2, ob]
  simp only []
  rw [show R_keepsOne (rF S2 0 52) (wF S2 0 49 w2) = _ from e3, ob]
  simp only []
  rw [show R_keepsTold_c50 (0 : Int32) (wF S3 0 52 w3) = _ from e4, show R_keepsTold_c112 (0 : Int32) S4 = _ from e5, show R_keepsTold_c158 (0 : Int32) S5 = _ from e6, show R_keepsTold_c204 (0 : Int32) S6 = _ from e7]
theorem k_texts {md : Nat} {R0 S : pS} (hmd : md ≤ 1) (h : Kq md R0 190 S) : ∃ S', Kq md R0 269 S' ∧ R_keepsTexts S = some (0, S') := by
  obtain ⟨w0, S0, e0, k0⟩ := Kq_st hmd h (by omega) (p := (0, 34)) (v := rF S 0 34) rfl rfl
  obtain ⟨w1, S1, e1, k1⟩ := Kq_st hmd k0 (by omega) (p := (0, 36)) (v := rF S0 0 36) rfl (hv_f (by decide) (by decide))
  obtain ⟨w2, S2, e2, k2⟩ := Kq_st hmd k1 (by omega) (p := (0, 39)) (v := rF S1 0 39) rfl (hv_f (by decide) (by decide))
  obtain ⟨S4, k4, e4⟩ := k_R_keepsTexts_c38 hmd 12 0 _ rfl k2
  obtain ⟨S5, k5, e5⟩ := k_R_keepsTexts_c68 hmd 8 0 _ rfl k4
  obtain ⟨S6, k6, e6⟩ := k_R_keepsTexts_c114 hmd 48 0 _ rfl k5
  refine ⟨S6, k6, ?_⟩
  rw [R_keepsTexts_eq, e0, ob]
  simp only []
  rw [show R_keepsOne (rF S0 0 36) (wF S0 0 34 w0) = _ from e1, ob]
  simp only []
  rw [show R_keepsOne (rF S1 0 39) (wF S1 0 36 w1) = _ from e2, ob]
  simp only []
  rw [show R_keepsTexts_c38 (0 : Int32) (wF S2 0 39 w2) = _ from e4, show R_keepsTexts_c68 (0 : Int32) S4 = _ from e5, show R_keepsTexts_c114 (0 : Int32) S5 = _ from e6]
theorem k_law {md : Nat} {R0 S : pS} (hmd : md ≤ 1) (h : Kq md R0 869 S) : ∃ S', Kq md R0 1734 S' ∧ R_keepsLaw S = some (0, S') := by
  obtain ⟨w0, S0, e0, k0⟩ := Kq_st hmd h (by omega) (p := (10, 0)) (v := rA S 10 (nI 0)) rfl (hv_0 (by omega) (by decide))
  obtain ⟨S4, k4, e4⟩ := k_R_keepsLaw_c18 hmd 16 0 _ rfl k0
  obtain ⟨S5, k5, e5⟩ := k_R_keepsLaw_c96 hmd 400 0 _ rfl k4
  refine ⟨S5, k5, ?_⟩
  rw [R_keepsLaw_eq, show R_keepsOne (rA S 10 (0 : Int32)) S = _ from e0, ob]
  simp only []
  rw [show R_keepsLaw_c18 (0 : Int32) (wA S0 10 (0 : Int32) w0) = _ from e4, show R_keepsLaw_c96 (0 : Int32) S4 = _ from e5]
/-- the reference's image, whole -/
theorem k_image {md : Nat} {R0 S : pS} (hmd : md ≤ 1) (h : Kq md R0 0 S) : ∃ S', Kq md R0 1734 S' ∧ R_image_c35 (nI md) (0 : Int32) S = if md = 0 then some (1, wF S' 0 3 0) else some (1, S') := by
  obtain ⟨S1, k1, e1⟩ := k_R_image_c35 hmd (nI md) 76 0 _ rfl h
  obtain ⟨S2, k2, e2⟩ := k_told hmd k1
  obtain ⟨S3, k3, e3⟩ := k_texts hmd k2
  obtain ⟨S4, k4, e4⟩ := k_R_image_c73 hmd (nI md) 600 0 _ rfl k3
  obtain ⟨S5, k5, e5⟩ := k_law hmd k4
  refine ⟨S5, k5, ?_⟩
  rw [show R_image_c35 (nI md) (0 : Int32) S = _ from e1, e2, ob]
  simp only []
  rw [e3, ob]
  simp only []
  rw [show R_image_c73 (nI md) (0 : Int32) S3 = _ from e4, e5, ob]
  have hm : md = 0 ∨ md = 1 := by omega
  rcases hm with rfl | rfl <;> rfl
