/-! Reading a law: a condition. -/
theorem add_off {v r : Int32} {X Y : pS} (h : La_add_51 v X = some (r, Y)) : Off [(51, 7)] [52] X Y := by
  rw [La_add_51_eq] at h
  split at h
  · split at h
    · cases h
      exact (Off.rf.wA (by decide)).wF (by decide)
    · cases h
  · cases h
    exact Off.rf
theorem nI_nes {n : Nat} (h : n < 1000) : ¬ nI (n + 1) = 0 := by
  rw [show (0 : Int32) = nI 0 from rfl, nI_eqE (by omega) (by omega)]; omega
/-- too deep: both stop -/
theorem co_deep {b : Nat → Nat} {len M k d lp : Nat} {X R : pS} {l3 : Int32} (hd : 100 ≤ d) (hx : Cx b len M k X) (hr : Cr b len k R) (h27 : R.1 0 27 = nI 8) (l2 : Int32) : FOut X R (Re_condition_50_c18 (d + 1) (nI 8) l2 X) (R_readAny_c33 (nI lp) 1 l3 R) := by
  have o : Off RF0 [] R (wF (wF R 0 30 3) 0 31 (nI (stt b len k))) := (Off.rf.wF (by decide)).wF (by decide)
  refine ⟨_, _, ?_, ?_, Fl_of 3 hx hr, (Off.rf.wF (by decide)).wF (by decide), o.mono (by decide) (by decide), Sm.of o (by decide) (by decide)⟩
  · rw [Re_condition_50_c18_eq d hd, if_neg (show ¬ nI 8 < (8 : Int32) by decide), fls hx, ob, if_pos (show pBool 1 0 = true from rfl)]
  · rw [R_readAny_c33_eq, if_pos (show rF R 0 27 = (8 : Int32) from h27), ers hr, ob]
/-- a not, or a bracket, opens: the reference's way -/
theorem co_open {b : Nat → Nat} {len k dp lp w : Nat} {W : List Nat} {R : pS} {l3 : Int32} (hw : (w = 9 ∧ ¬ l3 = 0) ∨ (w = 12 ∧ l3 = 0)) (hdp : dp < 8) (hr : Cr b len k R) (h27 : R.1 0 27 = nI dp) (hWt : Wt W R) (hW : W.length < 40) : ∃ R', R_readAny_c33 (nI lp) 1 l3 R = R_readAny_c9 (nI (if w = 12 then lp + 1 else lp)) 1 R' ∧ Cr b len (k + 1) R' ∧ Wt (w :: W) R' ∧ R'.1 0 27 = nI (dp + 1) ∧ Off [(0, 27), (0, 29), (0, 13), (0, 14), (0, 15), (0, 16)] [17] R R' ∧ Sm R R' := by
  have o1 : Off [(0, 27)] [] R (wF R 0 27 (nI (dp + 1))) := Off.rf.wF (by decide)
  obtain ⟨R2, u1, u2, u3, u4⟩ := wai w (Wt_off hWt o1 (by decide) (by decide)) hW
  have hr2 : Cr b len k R2 := Cr_off (Cr_off hr o1 (by decide) (by decide) (by decide)) u3 (by decide) (by decide) (by decide)
  obtain ⟨R3, r1, r2, r3⟩ := rds hr2
  refine ⟨R3, ?_, r2, Wt_off u2 r3 (by decide) (by decide), ?_, ((o1.mono (by decide) (by decide)).tr (u3.mono (by decide) (by decide))).tr (r3.mono (by decide) (by decide)), ((Sm.of o1 (by decide) (by decide)).tr u4).tr (Sm.of r3 (by decide) (by decide))⟩
  · rw [R_readAny_c33_eq, show rF R 0 27 = nI dp from h27, if_neg (show ¬ nI dp = (8 : Int32) by rw [show (8 : Int32) = nI 8 from rfl, nI_eqE (by omega) (by omega)]; omega), show nI dp + (1 : Int32) = nI (dp + 1) from nI_1 dp]
    rcases hw with ⟨z, y⟩ | ⟨z, y⟩
    · subst z
      have u1 : R_waits (9 : Int32) (wF R 0 27 (nI (dp + 1))) = some (0, R2) := u1
      rw [if_neg y, R_readAny_c66_eq, if_neg y, u1, ob]
      simp only []
      rw [r1, ob]
      rfl
    · subst z
      have u1 : R_waits (12 : Int32) (wF R 0 27 (nI (dp + 1))) = some (0, R2) := u1
      rw [if_pos y, R_readAny_c66_eq, if_pos y, u1, ob]
      simp only []
      rw [r1, ob, show nI lp + (1 : Int32) = nI (lp + 1) from nI_1 lp]
      rfl
  · rw [r3.1 _ _ (by decide), u3.1 _ _ (by decide), wF_1, sA_eq, upd_eq]
theorem cond_step {b : Nat → Nat} {len M f : Nat} (hM : tkn b len M = 0) (hC : CondP b len M f) : CondP b len M (f + 1) := by
  intro k dp j lp n c d L W ty X R hf hdp hd hx hr he h27 hj hlp hWt hh hWl hty hc
  have hM4 := hx.2.1
  have hkM := hx.1
  have hlt := knd_lt hr.2.2.2
  have e7 : rF X 50 7 = nI (tkn b len k) := hx.2.2.2.1
  have d6 : R_isWord (6 : Int32) R = some (b2i (decide (tkn b len k = 306)), R) := isWd hr (w := 6) (by decide)
  have d40 : R_isSign (40 : Int32) R = some (b2i (decide (tkn b len k = 40)), R) := isSg hr (c := 40) rfl
  have rl : (List.replicate j 9 ++ W).length = j + W.length := by rw [List.length_append, List.length_replicate]
  by_cases w6 : tkn b len k = 306
  · have hkl : k < M := k_lt hM hx (by omega)
    have cR : R_readAny_c9 (nI lp) 1 R = R_readAny_c33 (nI lp) 1 (b2i true) R := by
      rw [R_readAny_c9_eq, if_neg (show ¬ (1 : Int32) = 0 by decide), d6, ob, decide_eq_true w6, if_neg (show ¬ b2i true = 0 by decide)]
    have cX : Re_condition_50 (d + 1) (nI dp) X = Re_condition_50_c18 (d + 1) (nI dp) (306 : Int32) X := by
      rw [Re_condition_50_eq d (by omega), e7, w6, if_pos (show nI 306 = (306 : Int32) from rfl)]; rfl
    rw [cR, cX]
    by_cases q8 : dp = 8
    · subst q8
      exact Or.inr (co_deep (by omega) hx hr h27 _)
    · obtain ⟨R3, r1, r2, r3, r4, r5, r6⟩ := co_open (lp := lp) (l3 := b2i true) (w := 9) (Or.inl ⟨rfl, by decide⟩) (by omega) hr h27 hWt (by omega)
      have r1 : R_readAny_c33 (nI lp) 1 (b2i true) R = R_readAny_c9 (nI lp) 1 R3 := r1
      obtain ⟨X2, x1, x2, x3⟩ := adv hx hkl
      obtain ⟨d', rfl⟩ : ∃ d', d = d' + 1 := ⟨d - 1, by omega⟩
      have cX2 : Re_condition_50_c18 (d' + 1 + 1) (nI dp) (306 : Int32) X = (Re_condition_50 (d' + 1) (nI (dp + 1)) X2).bind (fun q6 => if q6.1 = 0 then (some ((0 : Int32), q6.2)) else ((La_add_51 (306 : Int32) q6.2).bind (fun q7 => some ((1 : Int32), q7.2)))) := by
        rw [Re_condition_50_c18_eq (d' + 1) (by omega), if_pos (show nI dp < (8 : Int32) from nlt_t (n := 8) (by omega) (by omega)), x1, ob, if_neg (show ¬ (306 : Int32) = 40 by decide), show nI dp + (1 : Int32) = nI (dp + 1) from nI_1 dp]
      have ox : Off FSu WU X X2 := x3.mono (by decide) (by decide)
      have orr : Off GC VC R R3 := r5.mono (by decide) (by decide)
      rcases hC (k + 1) (dp + 1) (j + 1) lp n c d' L W ty X2 R3 (by omega) (by omega) (by omega) x2 r2 (Em_off he x3 r5 (by decide) (by decide) (by decide) (by decide) (by decide)) r4 (by omega) (by omega) r3 hh (by omega) (by omega) (by omega) with ⟨k', n', L', X', Y', R', c1, c2, c3, c4, c5, c6, c7, c8, c9, c10, c11, c12, c13, c14, c15, c16, c17⟩ | ⟨X', R', f1, f2, f3, f4, f5, f6⟩
      · obtain ⟨X1, m1, m2⟩ := c2
        refine Or.inl ⟨k', n', L', X1, Y', R', ?_, m2, ?_, c4, c5, c6, by omega, c8, c9, ?_, c11, c12, c13, (ox.tr c14).tr ((add_off m1).mono (by decide) (by decide)), ox.tr c15, orr.tr c16, r6.tr c17⟩
        · rw [cX2, c1, ob, if_neg (show ¬ (1 : Int32) = 0 by decide), m1, ob]
        · rw [r1, c3]
        · rw [c10, show dp + 1 - (j + 1) = dp - j from by omega]
      · exact Or.inr ⟨X', R', by rw [cX2, f1, ob, if_pos (show (0 : Int32) = 0 from rfl)], by rw [r1]; exact f2, f3, (oFU ox).tr f4, orr.tr f5, r6.tr f6⟩
  · by_cases w40 : tkn b len k = 40
    · have hkl : k < M := k_lt hM hx (by omega)
      have cR : R_readAny_c9 (nI lp) 1 R = R_readAny_c33 (nI lp) 1 (b2i false) R := by
        rw [R_readAny_c9_eq, if_neg (show ¬ (1 : Int32) = 0 by decide), d6, ob, decide_eq_false w6, if_pos (show b2i false = 0 from rfl)]
        simp only []
        rw [d40, ob, decide_eq_true w40, if_neg (show ¬ b2i true = 0 by decide)]
      have cX : Re_condition_50 (d + 1) (nI dp) X = Re_condition_50_c18 (d + 1) (nI dp) (40 : Int32) X := by
        rw [Re_condition_50_eq d (by omega), e7, w40, if_neg (show ¬ nI 40 = (306 : Int32) by decide), if_pos (show nI 40 = (40 : Int32) from rfl)]; rfl
      rw [cR, cX]
      by_cases q8 : dp = 8
      · subst q8
        exact Or.inr (co_deep (by omega) hx hr h27 _)
      · obtain ⟨R3, r1, r2, r3, r4, r5, r6⟩ := co_open (lp := lp) (l3 := b2i false) (w := 12) (Or.inr ⟨rfl, rfl⟩) (by omega) hr h27 hWt (by omega)
        have r1 : R_readAny_c33 (nI lp) 1 (b2i false) R = R_readAny_c9 (nI (lp + 1)) 1 R3 := r1
        obtain ⟨X2, x1, x2, x3⟩ := adv hx hkl
        obtain ⟨d', rfl⟩ : ∃ d', d = d' + 1 + 1 := ⟨d - 2, by omega⟩
        have cX2 : Re_condition_50_c18 (d' + 1 + 1 + 1) (nI dp) (40 : Int32) X = (Re_either_50 (d' + 1 + 1) (nI (dp + 1)) X2).bind (fun q4 => if q4.1 = 0 then (some ((0 : Int32), q4.2)) else ((Re_passes_50 (41 : Int32) q4.2).bind (fun q5 => if q5.1 = 0 then (some ((0 : Int32), q5.2)) else (some ((1 : Int32), q5.2))))) := by
          rw [Re_condition_50_c18_eq (d' + 1 + 1) (by omega), if_pos (show nI dp < (8 : Int32) from nlt_t (n := 8) (by omega) (by omega)), x1, ob, if_pos (show (40 : Int32) = 40 from rfl), show nI dp + (1 : Int32) = nI (dp + 1) from nI_1 dp]
        have ox : Off FSu WU X X2 := x3.mono (by decide) (by decide)
        have orr : Off GC VC R R3 := r5.mono (by decide) (by decide)
        rcases ei_s (k := k + 1) (dp := dp + 1) (lp := lp + 1) (c := c + j) (d := d') (W := 12 :: (List.replicate j 9 ++ W)) (ty := ty) hM hC (by omega) (by omega) (by omega) (by omega) (by rw [List.length_cons, rl]; omega) (fun w h => by have : 12 = w := Option.some.inj h; omega) (by omega) x2 r2 (Em_off he x3 r5 (by decide) (by decide) (by decide) (by decide) (by decide)) r4 r3 (by omega) with ⟨k1, n1, L1, X3, R4, a1, a2, a3, a4, a5, a6, a7, a8, a9, a10, a11, a12, a13, a14, a15⟩ | ⟨X', R', f1, f2, f3, f4, f5, f6⟩
        · have h4 := a3.1
          have s41 : R_isSign (41 : Int32) R4 = some (b2i (decide (tkn b len k1 = 41)), R4) := isSg a4 (c := 41) rfl
          have l10 : rF R4 0 29 = nI (j + W.length + 1) := by rw [show rF R4 0 29 = _ from a10.1, List.length_cons, rl]
          rcases pas hM a3 (knd_lt a4.2.2.2) (c := 41) (by omega) (by omega) with ⟨q, X5, y1, y2, y3⟩ | ⟨q, y1⟩
          · have y1 : Re_passes_50 (41 : Int32) X3 = some (1, X5) := y1
            obtain ⟨R5, hR5⟩ : ∃ R5, R5 = wF (wF R4 0 29 (nI (j + W.length))) 0 27 (nI dp) := ⟨_, rfl⟩
            have o5 : Off [(0, 29), (0, 27)] [] R4 R5 := by rw [hR5]; exact (Off.rf.wF (by decide)).wF (by decide)
            have wt5 : Wt (List.replicate j 9 ++ W) R5 := by
              refine ⟨?_, ?_⟩
              · rw [hR5, wF_1, sA_eq, upd_ne (by decide), wF_1, sA_eq, upd_eq, rl]
              · rw [o5.2.1 _ (by decide)]; exact a10.2.2
            have e27 : R5.1 0 27 = nI dp := by rw [hR5, wF_1, sA_eq, upd_eq]
            have em5 : Em n1 L1 X5 R5 := Em_off a5 y3 o5 (by decide) (by decide) (by decide) (by decide) (by decide)
            obtain ⟨Y, R6, L2, b1, b2, b3, b4, b5, b6, b7, b8, b9, b10⟩ := set_j j n1 L1 W X5 R5 wt5 (by omega) hh em5 (by omega)
            have hr6 : Cr b len k1 R6 := Cr_off (Cr_off a4 o5 (by decide) (by decide) (by decide)) b9 (by decide) (by decide) (by decide)
            obtain ⟨R7, z1, z2, z3⟩ := rds hr6
            have b2 : R_settles (9 : Int32) R5 = some (0, R6) := by rw [R_settles_eq]; exact b2
            have fin : FINr (nI (lp + 1)) R4 = R_readAny_c9 (nI lp) 0 R7 := by
              unfold FINr
              rw [if_neg (nI_nes (by omega)), s41, ob, decide_eq_true q, if_neg (show ¬ b2i true = 0 by decide)]
              simp only []
              rw [l10, nI_pred, show rF R4 0 27 = nI (dp + 1) from a9, nI_pred, nI_pred, ← hR5, b2, ob]
              simp only []
              rw [z1, ob]
            have e28 : nI dp - nI j = nI (dp - j) := nI_subE hj
            refine Or.inl ⟨k1 + 1, n1 + j, L2, X5, Y, R7, ?_, b1, ?_, Cx_off y2 b8 (by decide) (by decide) (by decide) (by decide), z2, Em_off b4 Off.rf z3 (F := []) (W := []) (by decide) (by decide) (by decide) (by decide) (by decide), by omega, by omega, by omega, ?_, Wt_off b3 z3 (by decide) (by decide), b7 n ty ty (by omega) a11, a12.tr b6 (by omega), (ox.tr a13).tr (y3.mono (by decide) (by decide)), ((ox.tr a13).tr (y3.mono (by decide) (by decide))).tr (b8.mono (by decide) (by decide)), (((orr.tr a14).tr (o5.mono (by decide) (by decide))).tr (b9.mono (by decide) (by decide))).tr (z3.mono (by decide) (by decide)), (((r6.tr a15).tr (Sm.of o5 (by decide) (by decide))).tr b10).tr (Sm.of z3 (by decide) (by decide))⟩
            · rw [cX2, a1, ob, if_neg (show ¬ (1 : Int32) = 0 by decide)]
              simp only []
              rw [y1, ob, if_neg (show ¬ (1 : Int32) = 0 by decide)]
            · rw [r1, a2, fin]
            · rw [z3.1 _ _ (by decide), b5, e27, e28]
          · have y1 : Re_passes_50 (41 : Int32) X3 = some (0, wF (wF X3 50 4 1) 50 5 (nI (stt b len k1))) := y1
            have o : Off RF0 [] R4 (wF (wF R4 0 30 1) 0 31 (nI (stt b len k1))) := (Off.rf.wF (by decide)).wF (by decide)
            refine Or.inr ⟨_, _, ?_, ?_, Fl_of 1 a3 a4, ((oFU (ox.tr a13)).wF (by decide)).wF (by decide), (orr.tr a14).tr (o.mono (by decide) (by decide)), (r6.tr a15).tr (Sm.of o (by decide) (by decide))⟩
            · rw [cX2, a1, ob, if_neg (show ¬ (1 : Int32) = 0 by decide)]
              simp only []
              rw [y1, ob, if_pos (show (0 : Int32) = 0 from rfl)]
            · rw [r1, a2]
              unfold FINr
              rw [if_neg (nI_nes (by omega)), s41, ob, decide_eq_false q, if_pos (show b2i false = 0 from rfl), ers a4, ob]
        · exact Or.inr ⟨X', R', by rw [cX2, f1, ob, if_pos (show (0 : Int32) = 0 from rfl)], by rw [r1]; exact f2, f3, (oFU ox).tr f4, orr.tr f5, r6.tr f6⟩
    · have cX : Re_condition_50 (d + 1) (nI dp) X = cmpX X := cond_cmp (by omega) hx hlt w6 w40 _
      have cR : R_readAny_c9 (nI lp) 1 R = (R_readCompared R).bind (fun q18 => if q18.1 = (-1 : Int32) then (some ((-1 : Int32), q18.2)) else ((R_settles (9 : Int32) q18.2).bind (fun q19 => R_readAny_c9 (nI lp) (0 : Int32) q19.2))) := by
        rw [R_readAny_c9_eq, if_neg (show ¬ (1 : Int32) = 0 by decide), d6, ob, decide_eq_false w6, if_pos (show b2i false = 0 from rfl)]
        simp only []
        rw [d40, ob, decide_eq_false w40, if_pos (show b2i false = 0 from rfl)]
      rw [cX, cR]
      rcases cmp_s (c := c + j) (ty := ty) hM (by omega) hx hr he (by omega) with ⟨k1, n1, L1, X3, R4, a1, a2, a3, a4, a5, a6, a7, a8, a9, a10, a11, a12, a13⟩ | ⟨X', R', f1, f2, f3, f4, f5, f6⟩
      · have h4 := a3.1
        have o12 : Off GC VC R R4 := a12.mono (by decide) (by decide)
        obtain ⟨Y, R6, L2, b1, b2, b3, b4, b5, b6, b7, b8, b9, b10⟩ := set_j j n1 L1 W X3 R4 (Wt_off hWt a12 (by decide) (by decide)) (by omega) hh a5 (by omega)
        have b2 : R_settles (9 : Int32) R4 = some (0, R6) := by rw [R_settles_eq]; exact b2
        have e28 : nI dp - nI j = nI (dp - j) := nI_subE hj
        refine Or.inl ⟨k1, n1 + j, L2, X3, Y, R6, a1, b1, ?_, Cx_off a3 b8 (by decide) (by decide) (by decide) (by decide), Cr_off a4 b9 (by decide) (by decide) (by decide), b4, ?_, by omega, by omega, ?_, b3, b7 n ty ty (by omega) a9, a10.tr b6 (by omega), a11, a11.tr (b8.mono (by decide) (by decide)), o12.tr (b9.mono (by decide) (by decide)), a13.tr b10⟩
        · rw [a2, ob, if_neg (show ¬ (0 : Int32) = -1 by decide)]
          simp only []
          rw [b2, ob]
        · exact a6
        · rw [b5, a12.1 _ _ (by decide), h27, e28]
      · exact Or.inr ⟨X', R', f1, by rw [f2, ob, if_pos rfl], f3, f4, f5.mono (by decide) (by decide), f6⟩
theorem cond_s {b : Nat → Nat} {len M : Nat} (hM : tkn b len M = 0) : ∀ f, CondP b len M f
  | 0 => fun k _ _ _ _ _ _ _ _ _ _ _ hf => absurd hf (Nat.not_lt_zero _)
  | f + 1 => cond_step hM (cond_s hM f)
