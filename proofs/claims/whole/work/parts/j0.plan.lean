/-! Reading: a plan by years. -/
theorem FailP_wA {X0 R0 X R : pS} {i : Nat} {v : Int32} (h : FailP X0 R0 X R) (h1 : 48 ≤ i) (h2 : i < 1000) : FailP X0 R0 X (wA R 21 (nI i) v) := ⟨h.1, h.2.1, h.2.2.tr (Sm_w (Or.inr (Or.inr (Or.inr ⟨rfl, h1⟩))) (by omega))⟩
theorem rA_wA {R : pS} {i : Nat} {v : Int32} (h : i < 1000) : rA (wA R 21 (nI i) v) 21 (nI i) = v := by
  rw [rA_n (by omega), wA_21 (by omega), sA_eq, upd_eq]
def JP (b : Nat → Nat) (len M nn : Nat) (X0 R0 : pS) (l k : Nat) (X R : pS) : Prop := Cx b len M k X ∧ Cr b len k R ∧ X.1 50 3 = nI l ∧ l ≤ 16 ∧ NF X R ∧ ∃ A, LsX l A X ∧ (∀ i, i < l → A i 0 ≤ 99 ∧ 320 ≤ A i 1 ∧ A i 1 < 324 ∧ A i 2 ≤ 14 ∧ (322 ≤ A i 1 → A i 2 < nn)) ∧ (∀ i, i < l → R.2.1 21 (48 + 3 * i) = nI (A i 0) ∧ R.2.1 21 (48 + 3 * i + 1) = nI (A i 1 - 320) ∧ R.2.1 21 (48 + 3 * i + 2) = nI (A i 2)) ∧ Off FTx WTx X0 X ∧ Sm R0 R
theorem plan_line {b : Nat → Nat} {len M nn l k : Nat} {X0 R0 X R : pS} (hM : tkn b len M = 0) (h6 : R0.1 0 6 = nI nn) (hnn : nn ≤ 14) (h : JP b len M nn X0 R0 l k X R) (hl : l < 16) (ht : tkn b len k = 319) {X1 : pS} (x1 : Re_opens_50 (319 : Int32) (319 : Int32) X = some (1, X1)) (x2 : Cx b len M (k + 1) X1) (x3 : Off [(50, 6), (50, 7)] [] X X1) : LOut b len M l k (JP b len M nn X0 R0) X0 R0 (Re_planLine_50 (nI nn) X) (R_readDeed (nI (48 + 3 * l)) R) := by
  obtain ⟨hx, hr, h3, hl6, nf, A, ls, wA0, h21, ox, sm⟩ := h
  obtain ⟨R1, r1, r2, r3⟩ := rds hr
  have t0 : R_readTold (19 : Int32) 0 99 R = R_readNumber 0 99 R1 := tld0 hr (w := 19) (by decide) ht r1
  have ox1 : Off FTx WTx X0 X1 := ox.tr (x3.mono (by decide) (by decide))
  have sm1 : Sm R0 R1 := sm.tr (Sm.of r3 (by decide) (by decide))
  have ia : inb (nI (48 + 3 * l)) 96 = true := inb_n (by omega) (by omega)
  have ib : inb (nI (48 + 3 * l + 1)) 96 = true := inb_n (by omega) (by omega)
  have ic : inb (nI (48 + 3 * l + 2)) 96 = true := inb_n (by omega) (by omega)
  have p1 : nI (48 + 3 * l) + (1 : Int32) = nI (48 + 3 * l + 1) := nI_add _ 1
  have p2 : nI (48 + 3 * l) + (2 : Int32) = nI (48 + 3 * l + 2) := nI_add _ 2
  rcases nmbF hM x2 r2 0 99 ox1 sm1 with ⟨y, X2, R2, a1, a2, a3, a4, a5, a6, a7, a8, a9, ox2, sm2⟩ | ⟨X', R', f1, f2, f3⟩
  · have hy : y ≤ 99 := (n_le (c := 99) (by omega) (by omega)).mp a2
    have hlt := knd_lt a7.2.2.2
    have e7 : rF X2 50 7 = nI (tkn b len (k + 1 + 1)) := a6.2.2.2.1
    have e8 : rF X2 50 8 = nI y := a5
    have oa : Off [] [21] R2 (wA R2 21 (nI (48 + 3 * l)) (nI y)) := Off.rf.wA (by decide)
    have hra : Cr b len (k + 1 + 1) (wA R2 21 (nI (48 + 3 * l)) (nI y)) := Cr_off a7 oa (by decide) (by decide) (by decide)
    have sma : Sm R0 (wA R2 21 (nI (48 + 3 * l)) (nI y)) := sm2.tr (Sm_w (Or.inr (Or.inr (Or.inr ⟨rfl, by omega⟩))) (by omega))
    have cX : Re_planLine_50 (nI nn) X = (if (nI (tkn b len (k + 1 + 1))) < (320 : Int32) then ((Re_fails_50 (1 : Int32) X2).bind (fun q3 => if pBool 1 q3.1 = true then some (q3.1, q3.2) else none)) else (if (nI (tkn b len (k + 1 + 1))) ≤ (323 : Int32) then ((Re_advance_50 X2).bind (fun q4 => if (nI (tkn b len (k + 1 + 1))) = (320 : Int32) then (Re_planLine_50_c71 (nI nn) (nI y) (nI (tkn b len (k + 1 + 1))) (1 : Int32) q4.2) else (Re_planLine_50_c71 (nI nn) (nI y) (nI (tkn b len (k + 1 + 1))) (0 : Int32) q4.2))) else ((Re_fails_50 (1 : Int32) X2).bind (fun q5 => if pBool 1 q5.1 = true then some (q5.1, q5.2) else none)))) := by
      rw [Re_planLine_50_eq, x1, ob, if_neg (show ¬ (1 : Int32) = 0 by decide)]
      simp only []
      rw [a3, ob, if_neg (show ¬ (1 : Int32) = 0 by decide)]
      simp only []
      rw [e7, e8]
    have cR : R_readDeed (nI (48 + 3 * l)) R = (if (rF R2 0 15) = (2 : Int32) then (R_readDeed_c43 (nI (48 + 3 * l)) (rF R2 0 16) (wA R2 21 (nI (48 + 3 * l)) (nI y))) else (R_readDeed_c43 (nI (48 + 3 * l)) (-1 : Int32) (wA R2 21 (nI (48 + 3 * l)) (nI y)))) := by
      rw [R_readDeed_eq, t0, a4, ob, if_pos ia]
      simp only []
      rw [if_pos ia, rA_wA (by omega), if_neg (show ¬ nI y = -1 from nI_nm (by omega))]
    by_cases q : 320 ≤ tkn b len (k + 1 + 1) ∧ tkn b len (k + 1 + 1) ≤ 323
    · obtain ⟨t, hT⟩ : ∃ t, tkn b len (k + 1 + 1) = 320 + t := ⟨tkn b len (k + 1 + 1) - 320, by omega⟩
      have ht4 : t < 4 := by omega
      obtain ⟨k15, k16⟩ := (knd_w a7.2.2.2 (w := 20 + t) (by omega)).mpr (by omega)
      obtain ⟨X3, b1, b2, b3⟩ := adv a6 (k_lt hM a6 (by omega))
      have ox3 : Off FTx WTx X0 X3 := ox2.tr (b3.mono (by decide) (by decide))
      obtain ⟨Rb, z1, z2, z3⟩ := rds hra
      have smb : Sm R0 Rb := sma.tr (Sm.of z3 (by decide) (by decide))
      have e6 : rF Rb 0 6 = nI nn := by show Rb.1 0 6 = _; rw [smb.1 0 6 (by decide)]; exact h6
      have oc : Off [] [21] Rb (wA Rb 21 (nI (48 + 3 * l + 1)) (nI t)) := Off.rf.wA (by decide)
      have hrc : Cr b len (k + 1 + 1 + 1) (wA Rb 21 (nI (48 + 3 * l + 1)) (nI t)) := Cr_off z2 oc (by decide) (by decide) (by decide)
      have smc : Sm R0 (wA Rb 21 (nI (48 + 3 * l + 1)) (nI t)) := smb.tr (Sm_w (Or.inr (Or.inr (Or.inr ⟨rfl, by omega⟩))) (by omega))
      have cX2 : Re_planLine_50 (nI nn) X = (if nI (320 + t) = (320 : Int32) then (Re_planLine_50_c71 (nI nn) (nI y) (nI (320 + t)) (1 : Int32) X3) else (Re_planLine_50_c71 (nI nn) (nI y) (nI (320 + t)) (0 : Int32) X3)) := by
        rw [cX, hT, if_neg (show ¬ nI (320 + t) < (320 : Int32) from nlt_f (n := 320) (by omega) (by omega) (by omega)), if_pos (show nI (320 + t) ≤ (323 : Int32) from (n_le (c := 323) (by omega) (by omega)).mpr (by omega)), b1, ob]
      have cR2 : R_readDeed (nI (48 + 3 * l)) R = (if nI (20 + t) = (20 : Int32) then ((R_readNumber (1 : Int32) (14 : Int32) (wA Rb 21 (nI (48 + 3 * l + 1)) (nI t))).bind (fun q5 => R_readDeed_c123 (nI (48 + 3 * l)) q5.1 (nI (48 + 3 * l + 2)) q5.2)) else (if nI (20 + t) = (21 : Int32) then ((R_readNumber (0 : Int32) (11 : Int32) (wA Rb 21 (nI (48 + 3 * l + 1)) (nI t))).bind (fun q6 => R_readDeed_c123 (nI (48 + 3 * l)) q6.1 (nI (48 + 3 * l + 2)) q6.2)) else ((R_readNumber (0 : Int32) (nI nn - (1 : Int32)) (wA Rb 21 (nI (48 + 3 * l + 1)) (nI t))).bind (fun q7 => R_readDeed_c123 (nI (48 + 3 * l)) q7.1 (nI (48 + 3 * l + 2)) q7.2)))) := by
        rw [cR, if_pos (show rF R2 0 15 = 2 from k15), show rF R2 0 16 = nI (20 + t) from k16, R_readDeed_c43_eq, R_isIn_eq, if_neg (show ¬ nI (20 + t) < (20 : Int32) from nlt_f (n := 20) (by omega) (by omega) (by omega)), if_pos (show nI (20 + t) ≤ (23 : Int32) from (n_le (c := 23) (by omega) (by omega)).mpr (by omega)), ob, if_neg (show ¬ (1 : Int32) = 0 by decide)]
        simp only []
        rw [z1, ob, p1, p2, if_pos ib]
        simp only []
        rw [e6, show nI (20 + t) - (20 : Int32) = nI t from by rw [show (20 : Int32) = nI 20 from rfl, nI_subE (by omega), Nat.add_sub_cancel_left]]
      obtain ⟨lo, hi, cX3, cR3, hb⟩ : ∃ lo hi : Int32, Re_planLine_50 (nI nn) X = Re_planLine_50_c100 (nI y) (nI (320 + t)) lo hi X3 ∧ R_readDeed (nI (48 + 3 * l)) R = ((R_readNumber lo hi (wA Rb 21 (nI (48 + 3 * l + 1)) (nI t))).bind (fun q5 => R_readDeed_c123 (nI (48 + 3 * l)) q5.1 (nI (48 + 3 * l + 2)) q5.2)) ∧ ∀ v, v < 10000 → nI v ≤ hi → v ≤ 14 ∧ (2 ≤ t → v < nn) := by
        have n0 : ∀ c : Nat, c < 400 → 320 + t ≠ c → ¬ nI (320 + t) = nI c := fun c hc z => by rw [nI_eqE (by omega) (by omega)]; exact z
        have m0 : ∀ c : Nat, c < 400 → 20 + t ≠ c → ¬ nI (20 + t) = nI c := fun c hc z => by rw [nI_eqE (by omega) (by omega)]; exact z
        by_cases t0' : t = 0
        · subst t0'
          refine ⟨1, 14, ?_, ?_, fun v hv h => ⟨(n_le (c := 14) (by omega) (by omega)).mp h, fun z => by omega⟩⟩
          · rw [cX2, if_pos (show nI (320 + 0) = (320 : Int32) from rfl), Re_planLine_50_c71_eq, if_pos (show nI (320 + 0) = (320 : Int32) from rfl)]
          · rw [cR2, if_pos (show nI (20 + 0) = (20 : Int32) from rfl)]
        · by_cases t1 : t = 1
          · subst t1
            refine ⟨0, 11, ?_, ?_, fun v hv h => ⟨by have := (n_le (c := 11) (by omega) (by omega)).mp h; omega, fun z => by omega⟩⟩
            · rw [cX2, if_neg (show ¬ nI (320 + 1) = (320 : Int32) by decide), Re_planLine_50_c71_eq, if_neg (show ¬ nI (320 + 1) = (320 : Int32) by decide), if_pos (show nI (320 + 1) = (321 : Int32) from rfl)]
            · rw [cR2, if_neg (show ¬ nI (20 + 1) = (20 : Int32) by decide), if_pos (show nI (20 + 1) = (21 : Int32) from rfl)]
          · refine ⟨0, nI nn - 1, ?_, ?_, fun v hv h => ?_⟩
            · rw [cX2, if_neg (show ¬ nI (320 + t) = (320 : Int32) from n0 320 (by omega) (by omega)), Re_planLine_50_c71_eq, if_neg (show ¬ nI (320 + t) = (320 : Int32) from n0 320 (by omega) (by omega)), if_neg (show ¬ nI (320 + t) = (321 : Int32) from n0 321 (by omega) (by omega))]
            · rw [cR2, if_neg (show ¬ nI (20 + t) = (20 : Int32) from m0 20 (by omega) (by omega)), if_neg (show ¬ nI (20 + t) = (21 : Int32) from m0 21 (by omega) (by omega))]
            · cases nn with
              | zero =>
                exfalso
                rw [Int32.le_iff_toInt_le] at h
                have e1 : (nI v).toInt = v := Int32.toInt_ofNat_of_lt (by omega)
                rw [e1, show (nI 0 - 1).toInt = -1 from rfl] at h
                omega
              | succ nn =>
                rw [nI_pred, nI_leE (by omega) (by omega)] at h
                omega
      rcases nmbF hM b2 hrc lo hi ox3 smc with ⟨v, X4, R4, g1, g2, g3, g4, g5, g6, g7, g8, g9, ox4, sm4⟩ | ⟨X', R', f1, f2, f3⟩
      · obtain ⟨hv1, hv2⟩ := hb v g1 g2
        have ls4 : LsX l A X4 := LsX_off (LsX_off (LsX_off (LsX_off ls x3 (by decide) (by decide) (by decide)) a8 (by decide) (by decide) (by decide)) b3 (by decide) (by decide) (by decide)) g8 (by decide) (by decide) (by decide)
        obtain ⟨X5, w1, w2, w3⟩ := ro_add (a := y) (b := 320 + t) (c := v) ls4 hl
        have ox5 : Off FTx WTx X0 X5 := ox4.tr (w3.mono (by decide) (by decide))
        have hx5 := Cx_off g6 w3 (by decide) (by decide) (by decide) (by decide)
        have o5 : Off [] [21] R4 (wA R4 21 (nI (48 + 3 * l + 2)) (nI v)) := Off.rf.wA (by decide)
        have hr5 := Cr_off g7 o5 (by decide) (by decide) (by decide)
        have sm5 : Sm R0 (wA R4 21 (nI (48 + 3 * l + 2)) (nI v)) := sm4.tr (Sm_w (Or.inr (Or.inr (Or.inr ⟨rfl, by omega⟩))) (by omega))
        have e21 : (wA R4 21 (nI (48 + 3 * l + 2)) (nI v)).2.1 21 = upd (upd (upd (R.2.1 21) (48 + 3 * l) (nI y)) (48 + 3 * l + 1) (nI t)) (48 + 3 * l + 2) (nI v) := by
          rw [wA_21 (by omega), sA_eq, g9.2.1 _ (by decide), wA_21 (by omega), sA_eq, z3.2.1 _ (by decide), wA_21 (by omega), sA_eq, a9.2.1 _ (by decide), r3.2.1 _ (by decide)]
        have cX4 : Re_planLine_50 (nI nn) X = (Re_passes_50 (59 : Int32) X5).bind (fun q8 => if pBool 1 q8.1 = true then some (q8.1, q8.2) else none) := by
          rw [cX3, Re_planLine_50_c100_eq, g3, ob, if_neg (show ¬ (1 : Int32) = 0 by decide)]
          simp only []
          rw [show rF X4 50 8 = nI v from g5, w1, ob]
        have cR4 : R_readDeed (nI (48 + 3 * l)) R = (R_readMark (59 : Int32) (wA R4 21 (nI (48 + 3 * l + 2)) (nI v))).bind (fun q8 => some (q8.1, q8.2)) := by
          rw [cR3, g4, ob, R_readDeed_c123_eq, if_pos ic, p2, if_pos ic]
          simp only []
          rw [rA_wA (by omega), if_neg (show ¬ nI v = -1 from nI_nm (by omega))]
        rcases lnendF hM hx5 hr5 ox5 sm5 with ⟨X8, R8, u1, u2, u3, u4, u5, u6, ox8, sm8⟩ | ⟨X', R', f1, f2, f3⟩
        · refine Or.inr ⟨_, X8, R8, ?_, by rw [cX4, u1], ?_, by rw [cR4, u2], Cx_off u3 (Off.wF (F := [(50, 3)]) (W := []) Off.rf (by decide)) (by decide) (by decide) (by decide) (by decide), u4, by rw [wF_1, sA_eq, upd_eq], by omega, (NF_off (NF_off (NF_off (NF_off (NF_off (NF_off (NF_off (NF_off (NF_off nf x3 r3 (by decide) (by decide) (by decide) (by decide)) a8 a9 (by decide) (by decide) (by decide) (by decide)) b3 oa (by decide) (by decide) (by decide) (by decide)) (Off.rf (F := []) (W := [])) z3 (by decide) (by decide) (by decide) (by decide)) (Off.rf (F := []) (W := [])) oc (by decide) (by decide) (by decide) (by decide)) g8 g9 (by decide) (by decide) (by decide) (by decide)) w3 o5 (by decide) (by decide) (by decide) (by decide)) u5 u6 (by decide) (by decide) (by decide) (by decide)) (Off.wF (F := [(50, 3)]) (W := []) Off.rf (by decide)) (Off.rf (F := []) (W := [])) (by decide) (by decide) (by decide) (by decide)), stA A l y (320 + t) v, LsX_off (LsX_off w2 u5 (by decide) (by decide) (by decide)) (Off.wF (F := [(50, 3)]) (W := []) Off.rf (by decide)) (by decide) (by decide) (by decide), fun i hi => ?_, fun i hi => ?_, ox8.wF (by decide), sm8⟩
          · omega
          · rw [u5.1 _ _ (by decide), w3.1 _ _ (by decide), g8.1 _ _ (by decide), b3.1 _ _ (by decide), a8.1 _ _ (by decide), x3.1 _ _ (by decide)]; exact h3
          · by_cases z : i = l
            · subst z
              rw [stA_l.1, stA_l.2.1, stA_l.2.2]; exact ⟨hy, by omega, by omega, hv1, fun z => hv2 (by omega)⟩
            · rw [stA_o z, stA_o z, stA_o z]; exact wA0 i (by omega)
          · rw [u6.2.1 _ (by decide), e21]
            by_cases z : i = l
            · subst z
              rw [stA_l.1, stA_l.2.1, stA_l.2.2, Nat.add_sub_cancel_left]
              refine ⟨?_, ?_, ?_⟩
              · rw [upd_ne (by omega), upd_ne (by omega), upd_eq]
              · rw [upd_ne (by omega), upd_eq]
              · rw [upd_eq]
            · rw [stA_o z, stA_o z, stA_o z, upd_ne (by omega), upd_ne (by omega), upd_ne (by omega), upd_ne (by omega), upd_ne (by omega), upd_ne (by omega), upd_ne (by omega), upd_ne (by omega), upd_ne (by omega)]
              exact h21 i (by omega)
        · exact Or.inl ⟨X', R', by rw [cX4, f1], by rw [cR4, f2], f3⟩
      · refine Or.inl ⟨X', _, by rw [cX3, Re_planLine_50_c100_eq, f1, ob, if_pos (show (0 : Int32) = 0 from rfl)], ?_, FailP_wA (i := 48 + 3 * l + 2) (v := -1) f3 (by omega) (by omega)⟩
        rw [cR3, f2, ob, R_readDeed_c123_eq, if_pos ic, p2, if_pos ic]
        simp only []
        rw [rA_wA (by omega), if_pos rfl]
    · refine Or.inl ⟨_, _, ?_, ?_, FailP_of 1 a6 hra ox2 sma⟩
      · rw [cX]
        by_cases z : tkn b len (k + 1 + 1) < 320
        · rw [if_pos (show nI (tkn b len (k + 1 + 1)) < (320 : Int32) from nlt_t (n := 320) z (by omega)), fls a6, ob, if_pos (show pBool 1 0 = true from rfl)]
        · rw [if_neg (show ¬ nI (tkn b len (k + 1 + 1)) < (320 : Int32) from nlt_f (n := 320) z (by omega) (by omega)), if_neg (show ¬ nI (tkn b len (k + 1 + 1)) ≤ (323 : Int32) from fun y => q ⟨by omega, (n_le (c := 323) (by omega) (by omega)).mp y⟩), fls a6, ob, if_pos (show pBool 1 0 = true from rfl)]
      · obtain ⟨s0, hs0, c43⟩ : ∃ s0 : Int32, s0 < 20 ∧ R_readDeed (nI (48 + 3 * l)) R = R_readDeed_c43 (nI (48 + 3 * l)) s0 (wA R2 21 (nI (48 + 3 * l)) (nI y)) := by
          by_cases z : rF R2 0 15 = (2 : Int32)
          · have kd := a7.2.2.2
            have z' : R2.1 0 15 = 2 := z
            rcases kd with ⟨a, e⟩ | ⟨a, e⟩ | ⟨a, aa, e, d⟩ | ⟨a, aa, e, d⟩ | ⟨a, e, d⟩
            · exact absurd (e.symm.trans z') (by decide)
            · exact absurd (e.symm.trans z') (by decide)
            · refine ⟨rF R2 0 16, ?_, by rw [cR, if_pos z]⟩
              rw [show rF R2 0 16 = _ from d]
              exact nlt_t (n := 20) (by omega) (by omega)
            · exact absurd (e.symm.trans z') (by decide)
            · exact absurd (e.symm.trans z') (by decide)
          · exact ⟨-1, by decide, by rw [cR, if_neg z]⟩
        rw [c43, R_readDeed_c43_eq, R_isIn_eq, if_pos hs0, ob, if_pos (show (0 : Int32) = 0 from rfl)]
        simp only []
        rw [ers hra, ob]
  · refine Or.inl ⟨X', _, ?_, ?_, FailP_wA (i := 48 + 3 * l) (v := -1) f3 (by omega) (by omega)⟩
    · rw [Re_planLine_50_eq, x1, ob, if_neg (show ¬ (1 : Int32) = 0 by decide)]
      simp only []
      rw [f1, ob, if_pos (show (0 : Int32) = 0 from rfl)]
    · rw [R_readDeed_eq, t0, f2, ob, if_pos ia]
      simp only []
      rw [if_pos ia, rA_wA (by omega), if_pos rfl]
