/-! The image: the call. -/
theorem cp_off {a b : Nat} (S : pS) : Off [(a, 1), (a, 2), (a, 3), (a, 4), (a, 5), (a, 6), (a, 7)] [a + 1] S (cpS a b S) := by
  unfold cpS
  exact (((((((Off.rf.wC (by simp)).wF (by simp)).wF (by simp)).wF (by simp)).wF (by simp)).wF (by simp)).wF (by simp)).wF (by simp)
abbrev FS : List (Nat × Nat) := [(69, 1), (69, 2), (69, 3), (69, 4), (69, 5), (69, 6), (69, 7), (71, 8), (71, 9), (72, 7), (72, 8), (83, 2), (85, 2), (87, 2), (89, 2), (91, 2), (0, 15)]
abbrev WS : List Nat := [70, 73, 74, 75, 76, 77, 80, 81, 82, 84, 86, 88, 90, 92]
abbrev FL : List (Nat × Nat) := [(1, 1), (1, 2), (1, 3), (1, 4), (1, 5), (1, 6), (1, 7), (3, 8), (3, 9), (4, 7), (4, 8), (15, 2), (17, 2), (19, 2), (21, 2), (23, 2), (31, 2)]
abbrev WLo : List Nat := [2, 5, 6, 7, 8, 9, 12, 13, 14, 16, 18, 20, 22, 24]
theorem q_image {X R : pS} (a : Int32) (ha : a = 0 ∨ a = 1) (h : INV X R) : Gd (C_image a) (R_image a) X R := by
  obtain ⟨hcx, hcr, him, htp, n, D, B, L, T, hw, hX, hR, hH⟩ := id h
  -- the reference's start
  have start : ∀ md, md ≤ 1 → Kq md (wF (wF (wF (wF R 0 0 0) 0 56 (nI md)) 0 57 1) 0 58 0) 0 (wF (wF (wF (wF R 0 0 0) 0 56 (nI md)) 0 57 1) 0 58 0) := by
    intro md hmd
    refine ⟨?_, ?_, fun _ => rfl, fun _ _ _ _ => rfl, Off.rf, fun j hj => absurd hj (Nat.not_lt_zero j)⟩
    · rw [wF_1, sA_eq, upd_ne (by decide), wF_1, sA_eq, upd_ne (by decide), wF_1, sA_eq, upd_eq]
    · rw [wF_1, sA_eq, upd_eq]; rfl
  have off0 : ∀ md, Off [(0, 0), (0, 56), (0, 57), (0, 58)] [] R (wF (wF (wF (wF R 0 0 0) 0 56 (nI md)) 0 57 1) 0 58 0) := fun md => (((Off.rf.wF (by decide)).wF (by decide)).wF (by decide)).wF (by decide)
  have f57 : ∀ md, (wF (wF (wF (wF R 0 0 0) 0 56 (nI md)) 0 57 1) 0 58 0).1 0 57 = 1 := fun md => by rw [wF_1, sA_eq, upd_ne (by decide), wF_1, sA_eq, upd_eq]
  rcases ha with rfl | rfl
  · -- fetched
    rcases him with ⟨x0, r0⟩ | ⟨x1, r1, n', D', B', L', T', hw', d1, d2, d3, d4, d5⟩
    · refine Gd_of h (v := 0) (X' := X) ?_ Off.rf ?_ told0
      · rw [C_image_eq, if_pos rfl, show rF X 0 15 = 0 from x0, if_pos rfl, if_pos (show pBool 1 0 = true from rfl)]
      · rw [R_image_eq, if_pos rfl, show rF R 0 57 = 0 from r0, if_pos rfl]
    · obtain ⟨R0, hR0⟩ : ∃ R0, R0 = wF (wF (wF (wF R 0 0 0) 0 56 (nI 0)) 0 57 1) 0 58 0 := ⟨_, rfl⟩
      have st := start 0 (by omega)
      have of0 := off0 0
      have g57 := f57 0
      rw [← hR0] at st of0 g57
      obtain ⟨R', k1, k2⟩ := k_image (by omega) st
      have ro : Off FK WK R0 R' := k1.2.2.2.2.1
      have r34 : R'.2.1 34 = R.2.1 34 := (k1.2.2.1 rfl).trans (of0.2.1 34 (by decide))
      have rx : R_image 0 R = some (1, wF R' 0 3 0) := by
        rw [R_image_eq, if_pos rfl, show rF R 0 57 = 1 from r1, if_neg (show ¬ (1 : Int32) = 0 by decide), R_image_c18_eq, if_pos (Or.inr (Or.inl rfl)), show (wF (wF (wF (wF R 0 0 (0 : Int32)) 0 56 (0 : Int32)) 0 57 (1 : Int32)) 0 58 (0 : Int32)) = R0 from by rw [hR0]; rfl]
        exact k2
      obtain ⟨X1, hX1⟩ : ∃ X1, X1 = cpS 1 69 X := ⟨_, rfl⟩
      have o1 : Off FL WLo X X1 := by rw [hX1]; exact (cp_off X).mono (by decide) (by decide)
      have xd1 : XD 1 D' X1 := by rw [hX1]; exact XD_cp d1
      obtain ⟨X2, a2, xl2, xt2, o2'⟩ := to_3_71 (S := X1) (XL_off d3 o1 (by decide) (by decide) (by decide) (by decide) (by decide) (by decide) (by decide)) (XT_off d4 o1 (by decide) (by decide) (by decide) (by decide) (by decide) (by decide) (by decide) (by decide) (by decide) (by decide) (by decide) (by decide) (by decide)) hw'.2.2.1.1 hw'.2.2.1.2.1 hw'.2.2.2
      have o2 : Off FL WLo X X2 := o1.tr (o2'.mono (by decide) (by decide))
      have xd2 : XD 1 D' X2 := XD_off xd1 o2' (fun i h1 h2 => by simp) (by decide)
      obtain ⟨X3, a3, b3, c3, o3'⟩ := ro_23_91 (S := X2) (m := B'.1) (by rw [o2.1 _ _ (by decide)]; exact d2.1) hw'.2.1
      have o3 : Off FL WLo X X3 := o2.tr (o3'.mono (by decide) (by decide))
      have xd3 : XD 1 D' X3 := XD_off xd2 o3' (fun i h1 h2 => by simp) (by decide)
      have xl3 : XL 4 L' X3 := XL_off xl2 o3' (by decide) (by decide) (by decide) (by decide) (by decide) (by decide) (by decide)
      have xt3 : XT 3 T' X3 := XT_off xt2 o3' (by decide) (by decide) (by decide) (by decide) (by decide) (by decide) (by decide) (by decide) (by decide) (by decide) (by decide) (by decide) (by decide)
      have xb3 : XB 23 B' X3 := ⟨b3, fun i hi => by rw [c3 i hi, o2.2.1 _ (by decide)]; exact d2.2 i hi⟩
      have o4 : Off FL WLo X (wF X3 31 2 0) := o3.wF (by decide)
      have of4 : Off [(31, 2)] [] X3 (wF X3 31 2 0) := Off.rf.wF (by decide)
      have v15 : (wF X3 31 2 0).1 0 15 = 1 := by rw [o4.1 _ _ (by decide)]; exact x1
      have cx : C_image 0 X = some (1, wF X3 31 2 0) := by
        rw [C_image_eq, if_pos rfl, show rF X 0 15 = 1 from x1, if_neg (show ¬ (1 : Int32) = 0 by decide), show Dr_copyFrom_1_69 X = some (0, X1) from by rw [Dr_copyFrom_1_69_eq, hX1]; rfl, ob, a2, ob, a3, ob, Hi_forget_31_eq, ob]
        simp only []
        rw [show rF (wF X3 31 2 0) 0 15 = 1 from v15, if_pos (show pBool 1 1 = true from rfl)]
      have o5 : Off [(0, 0), (0, 56), (0, 57), (0, 58), (0, 3), (0, 6), (0, 43), (0, 49), (0, 52), (0, 34), (0, 36), (0, 39)] WK R (wF R' 0 3 0) := ((of0.mono (by decide) (by decide)).tr (ro.mono (by decide) (by decide))).wF (by decide)
      refine ⟨1, _, _, cx, rx, ConX_off hcx o4 (by decide), ConR_off hcr o5 (by decide) (by decide), Or.inr ⟨v15, ?_, n', D', B', L', T', hw', ?_, ?_, ?_, ?_, ?_⟩, Tap_off htp o4 o5 (by decide) (by decide) (by decide) (by decide), n', D', B', L', T', hw', ⟨?_, ?_, ?_, ?_⟩, ?_, Hst_0 ?_ ?_ ?_⟩
      · rw [wF_1, sA_eq, upd_ne (by decide), ro.1 _ _ (by decide)]; exact g57
      · exact XD_off d1 o4 (fun i h1 h2 => by simp) (by decide)
      · exact XB_off d2 o4 (by decide) (by decide)
      · exact XL_off d3 o4 (by decide) (by decide) (by decide) (by decide) (by decide) (by decide) (by decide)
      · exact XT_off d4 o4 (by decide) (by decide) (by decide) (by decide) (by decide) (by decide) (by decide) (by decide) (by decide) (by decide) (by decide) (by decide) (by decide)
      · rw [wF_2, r34]; exact d5
      · exact XD_off xd3 of4 (fun i h1 h2 => by simp) (by decide)
      · exact XB_off xb3 of4 (by decide) (by decide)
      · exact XL_off xl3 of4 (by decide) (by decide) (by decide) (by decide) (by decide) (by decide) (by decide)
      · exact XT_off xt3 of4 (by decide) (by decide) (by decide) (by decide) (by decide) (by decide) (by decide) (by decide) (by decide) (by decide) (by decide) (by decide) (by decide)
      · have of5 : Off [(0, 3)] [] R' (wF R' 0 3 0) := Off.rf.wF (by decide)
        have ra := RA_of hw' (Eq_Kq k1) (by rw [r34]; exact d5)
        exact ⟨RDm_off ra.1 of5 (by decide) (by decide) (by decide) (by decide) (by decide), RB_off ra.2.1 of5 (by decide) (by decide), RLm_off ra.2.2.1 of5 (fun i a b => by simp), RTm_off ra.2.2.2 of5 (by decide) (by decide)⟩
      · have hp := hH.1
        unfold Prm at *
        rw [o4.2.2]
        exact hp
      · rw [wF_1, sA_eq, upd_eq]
      · rw [wF_1, sA_eq, upd_eq]
  · -- put away
    obtain ⟨R0, hR0⟩ : ∃ R0, R0 = wF (wF (wF (wF R 0 0 0) 0 56 (nI 1)) 0 57 1) 0 58 0 := ⟨_, rfl⟩
    have st := start 1 (by omega)
    have of0 := off0 1
    have g57 := f57 1
    rw [← hR0] at st of0 g57
    obtain ⟨R', k1, k2⟩ := k_image (by omega) st
    have ro : Off FK WK R0 R' := k1.2.2.2.2.1
    have same := k1.2.2.2.1 (by decide)
    have ro2 : Off [(0, 58)] [34] R0 R' := by
      refine ⟨fun i x q => ?_, fun i q => ?_, ro.2.2⟩
      · by_cases z : i = 0
        · subst z
          exact same (0, x) (fun e => q (by rw [e]; decide)) (show (0 : Nat) ≠ 34 by decide)
        · exact ro.1 i x (by simp; omega)
      · by_cases z : i = 0
        · subst z
          exact ro.2.1 0 (by decide)
        · funext x
          have := same (i, x) (fun e => z (congrArg Prod.fst e)) (fun e => q (by rw [show i = 34 from e]; decide))
          unfold gt at this
          simp only [z, if_false] at this
          exact this
    have rx : R_image 1 R = some (1, R') := by
      rw [R_image_eq, if_neg (show ¬ (1 : Int32) = 0 by decide), R_image_c18_eq, if_pos (Or.inr (Or.inr rfl)), show (wF (wF (wF (wF R 0 0 (0 : Int32)) 0 56 (1 : Int32)) 0 57 (1 : Int32)) 0 58 (0 : Int32)) = R0 from by rw [hR0]; rfl]
      exact k2
    have o5 : Off [(0, 0), (0, 56), (0, 57), (0, 58)] [34] R R' := (of0.mono (by decide) (by decide)).tr (ro2.mono (by decide) (by decide))
    have ra : RA n D B L T R' := ⟨RDm_off hR.1 o5 (by decide) (by decide) (by decide) (by decide) (by decide), RB_off hR.2.1 o5 (by decide) (by decide), RLm_off hR.2.2.1 o5 (fun i a b => by simp; omega), RTm_off hR.2.2.2 o5 (by decide) (by decide)⟩
    obtain ⟨X1, hX1⟩ : ∃ X1, X1 = cpS 69 1 X := ⟨_, rfl⟩
    have o1 : Off FS WS X X1 := by rw [hX1]; exact (cp_off X).mono (by decide) (by decide)
    have xd1 : XD 69 D X1 := by rw [hX1]; exact XD_cp hX.1
    obtain ⟨X2, a2, xl2, xt2, o2'⟩ := to_71_3 (S := X1) (XL_off hX.2.2.1 o1 (by decide) (by decide) (by decide) (by decide) (by decide) (by decide) (by decide)) (XT_off hX.2.2.2 o1 (by decide) (by decide) (by decide) (by decide) (by decide) (by decide) (by decide) (by decide) (by decide) (by decide) (by decide) (by decide) (by decide)) hw.2.2.1.1 hw.2.2.1.2.1 hw.2.2.2
    have o2 : Off FS WS X X2 := o1.tr (o2'.mono (by decide) (by decide))
    have xd2 : XD 69 D X2 := XD_off xd1 o2' (fun i h1 h2 => by simp) (by decide)
    obtain ⟨X3, a3, b3, c3, o3'⟩ := ro_91_23 (S := X2) (m := B.1) (by rw [o2.1 _ _ (by decide)]; exact hX.2.1.1) hw.2.1
    have o3 : Off FS WS X X3 := o2.tr (o3'.mono (by decide) (by decide))
    have xd3 : XD 69 D X3 := XD_off xd2 o3' (fun i h1 h2 => by simp) (by decide)
    have xl3 : XL 72 L X3 := XL_off xl2 o3' (by decide) (by decide) (by decide) (by decide) (by decide) (by decide) (by decide)
    have xt3 : XT 71 T X3 := XT_off xt2 o3' (by decide) (by decide) (by decide) (by decide) (by decide) (by decide) (by decide) (by decide) (by decide) (by decide) (by decide) (by decide) (by decide)
    have xb3 : XB 91 B X3 := ⟨b3, fun i hi => by rw [c3 i hi, o2.2.1 _ (by decide)]; exact hX.2.1.2 i hi⟩
    have o4 : Off FS WS X (wF X3 0 15 1) := o3.wF (by decide)
    have of4 : Off [(0, 15)] [] X3 (wF X3 0 15 1) := Off.rf.wF (by decide)
    have cx : C_image 1 X = some (1, wF X3 0 15 1) := by
      rw [C_image_eq, if_neg (show ¬ (1 : Int32) = 0 by decide), show Dr_copyFrom_69_1 X = some (0, X1) from by rw [Dr_copyFrom_69_1_eq, hX1]; rfl, ob, a2, ob, a3, ob]
    refine ⟨1, _, _, cx, rx, ConX_off hcx o4 (by decide), ConR_off hcr o5 (by decide) (by decide), Or.inr ⟨?_, ?_, n, D, B, L, T, hw, ?_, ?_, ?_, ?_, ?_⟩, Tap_off htp o4 o5 (by decide) (by decide) (by decide) (by decide), n, D, B, L, T, hw, ⟨?_, ?_, ?_, ?_⟩, ra, Hst_off hH o4 o5 (by decide) (fun o a h1 h2 => by simp; omega) (fun o h1 h2 => by simp; omega) (by decide) (by decide)⟩
    · rw [wF_1, sA_eq, upd_eq]
    · rw [ro2.1 _ _ (by decide)]; exact g57
    · exact XD_off xd3 of4 (fun i h1 h2 => by simp) (by decide)
    · exact XB_off xb3 of4 (by decide) (by decide)
    · exact XL_off xl3 of4 (by decide) (by decide) (by decide) (by decide) (by decide) (by decide) (by decide)
    · exact XT_off xt3 of4 (by decide) (by decide) (by decide) (by decide) (by decide) (by decide) (by decide) (by decide) (by decide) (by decide) (by decide) (by decide) (by decide)
    · exact RI_of hw (Eq_Kq k1) ra
    · exact XD_off hX.1 o4 (fun i h1 h2 => by simp) (by decide)
    · exact XB_off hX.2.1 o4 (by decide) (by decide)
    · exact XL_off hX.2.2.1 o4 (by decide) (by decide) (by decide) (by decide) (by decide) (by decide) (by decide)
    · exact XT_off hX.2.2.2 o4 (by decide) (by decide) (by decide) (by decide) (by decide) (by decide) (by decide) (by decide) (by decide) (by decide) (by decide) (by decide) (by decide)
