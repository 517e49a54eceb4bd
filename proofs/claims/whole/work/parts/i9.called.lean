/-! Reading: firms that were called so; a plan. -/
theorem nmbF {b : Nat → Nat} {len M k : Nat} {X0 R0 X R : pS} (hM : tkn b len M = 0) (hx : Cx b len M k X) (hr : Cr b len k R) (a1 a2 : Int32) (ox : Off FTx WTx X0 X) (sm : Sm R0 R) : (∃ v X' R', v < 10000 ∧ nI v ≤ a2 ∧ Re_passesNumber_50 a1 a2 X = some (1, X') ∧ R_readNumber a1 a2 R = some (nI v, R') ∧ X'.1 50 8 = nI v ∧ Cx b len M (k + 1) X' ∧ Cr b len (k + 1) R' ∧ Off XF1 [] X X' ∧ Off FG [] R R' ∧ Off FTx WTx X0 X' ∧ Sm R0 R') ∨ (∃ X' R', Re_passesNumber_50 a1 a2 X = some (0, X') ∧ R_readNumber a1 a2 R = some (-1, R') ∧ FailP X0 R0 X' R') := by
  rcases nmb hM hx hr a1 a2 with ⟨v, X', R', v1, v2, v3, v4, v5, v6, v7, v8, v9, v10, v11⟩ | ⟨X', R', f1, f2, f3, f4, f5⟩
  · exact Or.inl ⟨v, X', R', v1, v4, v5, v6, v7, v8, v9, v10, v11, ox.tr (v10.mono (by decide) (by decide)), sm.tr (Sm.of v11 (by decide) (by decide))⟩
  · exact Or.inr ⟨X', R', f1, f2, FailP_nm f3 f4 f5 ox sm⟩
theorem tldp {b : Nat → Nat} {len M k w : Nat} {X0 R0 X R : pS} (hM : tkn b len M = 0) (hx : Cx b len M k X) (hr : Cr b len k R) (hw : w < 24) (ox : Off FTx WTx X0 X) (sm : Sm R0 R) : (∃ X1 R1, Re_passes_50 (nI (300 + w)) X = some (1, X1) ∧ (∀ lo hi, R_readTold (nI w) lo hi R = R_readNumber lo hi R1) ∧ Cx b len M (k + 1) X1 ∧ Cr b len (k + 1) R1 ∧ Off [(50, 6), (50, 7)] [] X X1 ∧ Off FG [] R R1 ∧ Off FTx WTx X0 X1 ∧ Sm R0 R1) ∨ (∃ X' R', Re_passes_50 (nI (300 + w)) X = some (0, X') ∧ (∀ lo hi, R_readTold (nI w) lo hi R = some (-1, R')) ∧ FailP X0 R0 X' R') := by
  rcases pas hM hx (knd_lt hr.2.2.2) (c := 300 + w) (by omega) (by omega) with ⟨q, X1, y1, y2, y3⟩ | ⟨q, y1⟩
  · obtain ⟨R1, r1, r2, r3⟩ := rds hr
    exact Or.inl ⟨X1, R1, y1, fun lo hi => tld0 hr hw q r1, y2, r2, y3, r3, ox.tr (y3.mono (by decide) (by decide)), sm.tr (Sm.of r3 (by decide) (by decide))⟩
  · exact Or.inr ⟨_, _, y1, fun lo hi => tldn hr hw q, FailP_of 1 hx hr ox sm⟩
theorem lnendF {b : Nat → Nat} {len M k : Nat} {X0 R0 X R : pS} (hM : tkn b len M = 0) (hx : Cx b len M k X) (hr : Cr b len k R) (ox : Off FTx WTx X0 X) (sm : Sm R0 R) : (∃ X' R', (Re_passes_50 (59 : Int32) X).bind (fun q7 => if pBool 1 q7.1 = true then some (q7.1, q7.2) else none) = some (1, X') ∧ (R_readMark (59 : Int32) R).bind (fun q8 => some (q8.1, q8.2)) = some (0, R') ∧ Cx b len M (k + 1) X' ∧ Cr b len (k + 1) R' ∧ Off XF1 [] X X' ∧ Off FG [] R R' ∧ Off FTx WTx X0 X' ∧ Sm R0 R') ∨ (∃ X' R', (Re_passes_50 (59 : Int32) X).bind (fun q7 => if pBool 1 q7.1 = true then some (q7.1, q7.2) else none) = some (0, X') ∧ (R_readMark (59 : Int32) R).bind (fun q8 => some (q8.1, q8.2)) = some (-1, R') ∧ FailP X0 R0 X' R') := by
  rcases lnend hM hx hr with ⟨X', R', a1, a2, a3, a4, a5, a6⟩ | ⟨X', R', a1, a2, a3, a4, a5⟩
  · exact Or.inl ⟨X', R', a1, a2, a3, a4, a5, a6, ox.tr (a5.mono (by decide) (by decide)), sm.tr (Sm.of a6 (by decide) (by decide))⟩
  · exact Or.inr ⟨X', R', a1, a2, FailP_nm a3 a4 a5 ox sm⟩
/-- the last word on a firm stays -/
def wrd (A : Nat → Nat → Nat) (j z : Nat) : Nat → Nat → Nat
  | 0, _ => z
  | l + 1, f => if A l 0 = f then A l j else wrd A j z l f
theorem wrd_ext {A A' : Nat → Nat → Nat} {j z f : Nat} : ∀ {l : Nat}, (∀ i, i < l → A' i 0 = A i 0 ∧ A' i j = A i j) → wrd A' j z l f = wrd A j z l f
  | 0, _ => rfl
  | l + 1, h => by
    unfold wrd
    rw [wrd_ext (fun i hi => h i (by omega)), (h l (by omega)).1, (h l (by omega)).2]
theorem wrd_le {A : Nat → Nat → Nat} {j z f m : Nat} (hz : z ≤ m) : ∀ {l : Nat}, (∀ i, i < l → A i j ≤ m) → wrd A j z l f ≤ m
  | 0, _ => hz
  | l + 1, h => by
    unfold wrd
    have := h l (by omega)
    have := wrd_le (A := A) (f := f) hz (l := l) (fun i hi => h i (by omega))
    split <;> omega
def JC (b : Nat → Nat) (len M : Nat) (X0 R0 : pS) (l k : Nat) (X R : pS) : Prop := Cx b len M k X ∧ Cr b len k R ∧ X.1 50 3 = nI l ∧ l ≤ 16 ∧ NF X R ∧ ∃ A, LsX l A X ∧ (∀ i, i < l → A i 0 < 8 ∧ A i 1 ≤ 99 ∧ A i 2 ≤ 99) ∧ (∀ f, f < 8 → R.2.1 19 (8 + f) = nI (wrd A 1 0 l f) ∧ R.2.1 20 (8 + f) = nI (wrd A 2 99 l f) - 99) ∧ Off FTx WTx X0 X ∧ Sm R0 R
theorem called_line {b : Nat → Nat} {len M l k : Nat} {X0 R0 X R : pS} (hM : tkn b len M = 0) (h : JC b len M X0 R0 l k X R) (hl : l < 16) (ht : tkn b len k = 308) {X1 : pS} (x1 : Re_opens_50 (308 : Int32) (308 : Int32) X = some (1, X1)) (x2 : Cx b len M (k + 1) X1) (x3 : Off [(50, 6), (50, 7)] [] X X1) : LOut b len M l k (JC b len M X0 R0) X0 R0 (Re_calledLine_50 X) (R_readCalledLine R) := by
  obtain ⟨hx, hr, h3, hl6, nf, A, ls, wA0, h19, ox, sm⟩ := h
  obtain ⟨R1, r1, r2, r3⟩ := rds hr
  have t0 : R_readTold (8 : Int32) 0 7 R = R_readNumber 0 7 R1 := tld0 hr (w := 8) (by decide) ht r1
  have ox1 : Off FTx WTx X0 X1 := ox.tr (x3.mono (by decide) (by decide))
  have sm1 : Sm R0 R1 := sm.tr (Sm.of r3 (by decide) (by decide))
  rcases nmbF hM x2 r2 0 7 ox1 sm1 with ⟨f, X2, R2, a1, a2, a3, a4, a5, a6, a7, a8, a9, ox2, sm2⟩ | ⟨X', R', f1, f2, f3⟩
  · have hf : f < 8 := by have := (n_le (c := 7) (by omega) (by omega)).mp a2; omega
    rcases tldp (w := 17) hM a6 a7 (by decide) ox2 sm2 with ⟨X3, R3, b1, b2, b3, b4, b5, b6, ox3, sm3⟩ | ⟨X', R', f1, f2, f3⟩
    · have b1 : Re_passes_50 (317 : Int32) X2 = some (1, X3) := b1
      have b2 : R_readTold (17 : Int32) 0 99 R2 = R_readNumber 0 99 R3 := b2 0 99
      rcases nmbF hM b3 b4 0 99 ox3 sm3 with ⟨y, X4, R4, c1, c2, c3, c4, c5, c6, c7, c8, c9, ox4, sm4⟩ | ⟨X', R', f1, f2, f3⟩
      · have hy : y ≤ 99 := (n_le (c := 99) (by omega) (by omega)).mp c2
        rcases tldp (w := 18) hM c6 c7 (by decide) ox4 sm4 with ⟨X5, R5, d1, d2, d3, d4, d5, d6, ox5, sm5⟩ | ⟨X', R', f1, f2, f3⟩
        · have d1 : Re_passes_50 (318 : Int32) X4 = some (1, X5) := d1
          have d2 : R_readTold (18 : Int32) (nI y) 99 R4 = R_readNumber (nI y) 99 R5 := d2 _ 99
          have e8a : rF X3 50 8 = nI f := by show X3.1 50 8 = _; rw [b5.1 _ _ (by decide)]; exact a5
          have e8b : rF X5 50 8 = nI y := by show X5.1 50 8 = _; rw [d5.1 _ _ (by decide)]; exact c5
          have cX : Re_calledLine_50 X = (Re_passesNumber_50 (nI y) (99 : Int32) X5).bind (fun q6 => if q6.1 = 0 then (some ((0 : Int32), q6.2)) else ((Ro_add_59 (nI f) (nI y) (rF q6.2 50 8) (0 : Int32) q6.2).bind (fun q7 => (Re_passes_50 (59 : Int32) q7.2).bind (fun q8 => if pBool 1 q8.1 = true then some (q8.1, q8.2) else none)))) := by
            rw [Re_calledLine_50_eq, x1, ob, if_neg (show ¬ (1 : Int32) = 0 by decide)]
            simp only []
            rw [a3, ob, if_neg (show ¬ (1 : Int32) = 0 by decide)]
            simp only []
            rw [b1, ob, if_neg (show ¬ (1 : Int32) = 0 by decide)]
            simp only []
            rw [c3, ob, if_neg (show ¬ (1 : Int32) = 0 by decide)]
            simp only []
            rw [d1, ob, if_neg (show ¬ (1 : Int32) = 0 by decide)]
            simp only []
            rw [e8a, e8b]
          have cR : R_readCalledLine R = (R_readNumber (nI y) 99 R5).bind (fun q3 => if q3.1 = (-1 : Int32) then (some ((-1 : Int32), q3.2)) else ((R_readMark (59 : Int32) (wA (wA q3.2 19 (nI (8 + f)) (nI y)) 20 (nI (8 + f)) (q3.1 - (99 : Int32)))).bind (fun q4 => some (q4.1, q4.2)))) := by
            rw [R_readCalledLine_eq, t0, a4, ob, if_neg (show ¬ nI f = -1 from nI_nm (by omega))]
            simp only []
            rw [b2, c4, ob, if_neg (show ¬ nI y = -1 from nI_nm (by omega))]
            simp only []
            rw [d2, show (8 : Int32) + nI f = nI (8 + f) from nI_add 8 f]
            refine bind_cong (fun q => ?_)
            rw [if_pos (inb_n (by omega) (by omega)), if_pos (inb_n (by omega) (by omega))]
          rcases nmbF hM d3 d4 (nI y) 99 ox5 sm5 with ⟨v, X6, R6, g1, g2, g3, g4, g5, g6, g7, g8, g9, ox6, sm6⟩ | ⟨X', R', f1, f2, f3⟩
          · have hv : v ≤ 99 := (n_le (c := 99) (by omega) (by omega)).mp g2
            have ls6 : LsX l A X6 := LsX_off (LsX_off (LsX_off (LsX_off (LsX_off (LsX_off ls x3 (by decide) (by decide) (by decide)) a8 (by decide) (by decide) (by decide)) b5 (by decide) (by decide) (by decide)) c8 (by decide) (by decide) (by decide)) d5 (by decide) (by decide) (by decide)) g8 (by decide) (by decide) (by decide)
            obtain ⟨X7, w1, w2, w3⟩ := ro_add (a := f) (b := y) (c := v) ls6 hl
            have ox7 : Off FTx WTx X0 X7 := ox6.tr (w3.mono (by decide) (by decide))
            have hx7 := Cx_off g6 w3 (by decide) (by decide) (by decide) (by decide)
            have r19 : ∀ o, R6.2.1 o = R.2.1 o := fun o => by rw [g9.2.1 _ (by simp), d6.2.1 _ (by simp), c9.2.1 _ (by simp), b6.2.1 _ (by simp), a9.2.1 _ (by simp), r3.2.1 _ (by simp)]
            obtain ⟨R7, hR7⟩ : ∃ R7, R7 = wA (wA R6 19 (nI (8 + f)) (nI y)) 20 (nI (8 + f)) (nI v - (99 : Int32)) := ⟨_, rfl⟩
            have o7 : Off [] [19, 20] R6 R7 := by rw [hR7]; exact (Off.rf.wA (by decide)).wA (by decide)
            have sm7 : Sm R0 R7 := by rw [hR7]; exact (sm6.tr (Sm_w (Or.inr (Or.inr (Or.inl ⟨by omega, by omega⟩))) (by omega))).tr (Sm_w (Or.inr (Or.inr (Or.inl ⟨by omega, by omega⟩))) (by omega))
            have hr7 := Cr_off g7 o7 (by decide) (by decide) (by decide)
            have e19 : R7.2.1 19 = upd (R.2.1 19) (8 + f) (nI y) := by rw [hR7, wA_21 (by omega), sA_ne (by decide), wA_21 (by omega), sA_eq, r19]
            have e20 : R7.2.1 20 = upd (R.2.1 20) (8 + f) (nI v - 99) := by rw [hR7, wA_21 (by omega), sA_eq, wA_21 (by omega), sA_ne (by decide), r19]
            have cX2 : Re_calledLine_50 X = (Re_passes_50 (59 : Int32) X7).bind (fun q8 => if pBool 1 q8.1 = true then some (q8.1, q8.2) else none) := by
              rw [cX, g3, ob, if_neg (show ¬ (1 : Int32) = 0 by decide)]
              simp only []
              rw [show rF X6 50 8 = nI v from g5, w1, ob]
            have cR2 : R_readCalledLine R = (R_readMark (59 : Int32) R7).bind (fun q4 => some (q4.1, q4.2)) := by
              rw [cR, g4, ob, if_neg (show ¬ nI v = -1 from nI_nm (by omega)), hR7]
            rcases lnendF hM hx7 hr7 ox7 sm7 with ⟨X8, R8, u1, u2, u3, u4, u5, u6, ox8, sm8⟩ | ⟨X', R', f1, f2, f3⟩
            · refine Or.inr ⟨_, X8, R8, ?_, by rw [cX2, u1], ?_, by rw [cR2, u2], Cx_off u3 (Off.wF (F := [(50, 3)]) (W := []) Off.rf (by decide)) (by decide) (by decide) (by decide) (by decide), u4, by rw [wF_1, sA_eq, upd_eq], by omega, (NF_off (NF_off (NF_off (NF_off (NF_off (NF_off (NF_off (NF_off (NF_off nf x3 r3 (by decide) (by decide) (by decide) (by decide)) a8 a9 (by decide) (by decide) (by decide) (by decide)) b5 b6 (by decide) (by decide) (by decide) (by decide)) c8 c9 (by decide) (by decide) (by decide) (by decide)) d5 d6 (by decide) (by decide) (by decide) (by decide)) g8 g9 (by decide) (by decide) (by decide) (by decide)) w3 o7 (by decide) (by decide) (by decide) (by decide)) u5 u6 (by decide) (by decide) (by decide) (by decide)) (Off.wF (F := [(50, 3)]) (W := []) Off.rf (by decide)) (Off.rf (F := []) (W := [])) (by decide) (by decide) (by decide) (by decide)), stA A l f y v, LsX_off (LsX_off w2 u5 (by decide) (by decide) (by decide)) (Off.wF (F := [(50, 3)]) (W := []) Off.rf (by decide)) (by decide) (by decide) (by decide), fun i hi => ?_, fun f' hf' => ?_, ox8.wF (by decide), sm8⟩
              · omega
              · rw [u5.1 _ _ (by decide), w3.1 _ _ (by decide), g8.1 _ _ (by decide), d5.1 _ _ (by decide), c8.1 _ _ (by decide), b5.1 _ _ (by decide), a8.1 _ _ (by decide), x3.1 _ _ (by decide)]; exact h3
              · by_cases z : i = l
                · subst z
                  rw [stA_l.1, stA_l.2.1, stA_l.2.2]; exact ⟨hf, hy, hv⟩
                · rw [stA_o z, stA_o z, stA_o z]; exact wA0 i (by omega)
              · rw [u6.2.1 _ (by decide), u6.2.1 _ (by decide), e19, e20, wrd, wrd, stA_l.1, stA_l.2.1, stA_l.2.2, wrd_ext (A := A) (fun i hi => ⟨stA_o (by omega), stA_o (by omega)⟩), wrd_ext (A := A) (fun i hi => ⟨stA_o (by omega), stA_o (by omega)⟩)]
                by_cases z : f = f'
                · subst z
                  rw [upd_eq, upd_eq, if_pos rfl, if_pos rfl]
                  exact ⟨rfl, rfl⟩
                · rw [upd_ne (by omega), upd_ne (by omega), if_neg z, if_neg z]
                  exact h19 f' hf'
            · exact Or.inl ⟨X', R', by rw [cX2, f1], by rw [cR2, f2], f3⟩
          · exact Or.inl ⟨X', R', by rw [cX, f1, ob, if_pos (show (0 : Int32) = 0 from rfl)], by rw [cR, f2, ob, if_pos rfl], f3⟩
        · have f1 : Re_passes_50 (318 : Int32) X4 = some (0, X') := f1
          have f2 : R_readTold (18 : Int32) (nI y) 99 R4 = some (-1, R') := f2 _ 99
          refine Or.inl ⟨X', R', ?_, ?_, f3⟩
          · rw [Re_calledLine_50_eq, x1, ob, if_neg (show ¬ (1 : Int32) = 0 by decide)]
            simp only []
            rw [a3, ob, if_neg (show ¬ (1 : Int32) = 0 by decide)]
            simp only []
            rw [b1, ob, if_neg (show ¬ (1 : Int32) = 0 by decide)]
            simp only []
            rw [c3, ob, if_neg (show ¬ (1 : Int32) = 0 by decide)]
            simp only []
            rw [f1, ob, if_pos (show (0 : Int32) = 0 from rfl)]
          · rw [R_readCalledLine_eq, t0, a4, ob, if_neg (show ¬ nI f = -1 from nI_nm (by omega))]
            simp only []
            rw [b2, c4, ob, if_neg (show ¬ nI y = -1 from nI_nm (by omega))]
            simp only []
            rw [f2, ob, if_pos rfl]
      · refine Or.inl ⟨X', R', ?_, ?_, f3⟩
        · rw [Re_calledLine_50_eq, x1, ob, if_neg (show ¬ (1 : Int32) = 0 by decide)]
          simp only []
          rw [a3, ob, if_neg (show ¬ (1 : Int32) = 0 by decide)]
          simp only []
          rw [b1, ob, if_neg (show ¬ (1 : Int32) = 0 by decide)]
          simp only []
          rw [f1, ob, if_pos (show (0 : Int32) = 0 from rfl)]
        · rw [R_readCalledLine_eq, t0, a4, ob, if_neg (show ¬ nI f = -1 from nI_nm (by omega))]
          simp only []
          rw [b2, f2, ob, if_pos rfl]
    · have f1 : Re_passes_50 (317 : Int32) X2 = some (0, X') := f1
      have f2 : R_readTold (17 : Int32) 0 99 R2 = some (-1, R') := f2 0 99
      refine Or.inl ⟨X', R', ?_, ?_, f3⟩
      · rw [Re_calledLine_50_eq, x1, ob, if_neg (show ¬ (1 : Int32) = 0 by decide)]
        simp only []
        rw [a3, ob, if_neg (show ¬ (1 : Int32) = 0 by decide)]
        simp only []
        rw [f1, ob, if_pos (show (0 : Int32) = 0 from rfl)]
      · rw [R_readCalledLine_eq, t0, a4, ob, if_neg (show ¬ nI f = -1 from nI_nm (by omega))]
        simp only []
        rw [f2, ob, if_pos rfl]
  · refine Or.inl ⟨X', R', ?_, ?_, f3⟩
    · rw [Re_calledLine_50_eq, x1, ob, if_neg (show ¬ (1 : Int32) = 0 by decide)]
      simp only []
      rw [f1, ob, if_pos (show (0 : Int32) = 0 from rfl)]
    · rw [R_readCalledLine_eq, t0, f2, ob, if_pos rfl]
