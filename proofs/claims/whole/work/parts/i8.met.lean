/-! Reading: rows of numbers; who met whom. -/
theorem nI_nm {k : Nat} (h : k < 2147483648) : ¬ nI k = -1 := by
  rw [show (-1 : Int32) = -nI 1 from rfl, nI_m1 h]
  exact id
theorem bnd_eta (x : Option (Int32 × pS)) : x.bind (fun q => some (q.1, q.2)) = x := by cases x <;> rfl
theorem FailP_nm {X0 R0 X R X' R' : pS} (f : Fl X' R') (o1 : Off XF0 [] X X') (o2 : Off RF0 [] R R') (ox : Off FTx WTx X0 X) (sm : Sm R0 R) : FailP X0 R0 X' R' := ⟨f, ox.tr (o1.mono (by decide) (by decide)), sm.tr (Sm.of o2 (by decide) (by decide))⟩
def LsX (l : Nat) (A : Nat → Nat → Nat) (X : pS) : Prop := X.1 59 0 = nI 16 ∧ X.1 59 2 = nI l ∧ ∀ i, i < l → X.2.1 60 (4 * i) = nI (A i 0) ∧ X.2.1 60 (4 * i + 1) = nI (A i 1) ∧ X.2.1 60 (4 * i + 2) = nI (A i 2)
theorem LsX_off {l : Nat} {A : Nat → Nat → Nat} {X X' : pS} {F : List (Nat × Nat)} {W : List Nat} (h : LsX l A X) (ho : Off F W X X') (h1 : (59, 0) ∉ F) (h2 : (59, 2) ∉ F) (h3 : 60 ∉ W) : LsX l A X' := by
  unfold LsX at *
  rw [ho.1 _ _ h1, ho.1 _ _ h2, ho.2.1 _ h3]
  exact h
def stA (A : Nat → Nat → Nat) (l a b c : Nat) : Nat → Nat → Nat := fun i j => if i = l then (if j = 0 then a else if j = 1 then b else c) else A i j
theorem stA_l {A : Nat → Nat → Nat} {l a b c : Nat} : stA A l a b c l 0 = a ∧ stA A l a b c l 1 = b ∧ stA A l a b c l 2 = c := by
  unfold stA
  simp
theorem stA_o {A : Nat → Nat → Nat} {l a b c i j : Nat} (h : i ≠ l) : stA A l a b c i j = A i j := by
  unfold stA
  rw [if_neg h]
theorem ro_add {l a b c : Nat} {A : Nat → Nat → Nat} {X : pS} (h : LsX l A X) (hl : l < 16) : ∃ X', Ro_add_59 (nI a) (nI b) (nI c) 0 X = some (nI (l + 1), X') ∧ LsX (l + 1) (stA A l a b c) X' ∧ Off [(59, 2)] [60] X X' := by
  obtain ⟨h0, h2, h3⟩ := h
  obtain ⟨X', hX'⟩ : ∃ X', X' = wF (wA (wA (wA (wA X 60 (nI (4 * l)) (nI a)) 60 (nI (4 * l + 1)) (nI b)) 60 (nI (4 * l + 2)) (nI c)) 60 (nI (4 * l + 3)) 0) 59 2 (nI (l + 1)) := ⟨_, rfl⟩
  have e1 : X'.2.1 60 = upd (upd (upd (upd (X.2.1 60) (4 * l) (nI a)) (4 * l + 1) (nI b)) (4 * l + 2) (nI c)) (4 * l + 3) 0 := by
    rw [hX', wF_2, wA_21 (by omega), sA_eq, wA_21 (by omega), sA_eq, wA_21 (by omega), sA_eq, wA_21 (by omega), sA_eq]
  have ho : Off [(59, 2)] [60] X X' := by
    rw [hX']
    exact ((((Off.rf.wA (by decide)).wA (by decide)).wA (by decide)).wA (by decide)).wF (by decide)
  refine ⟨X', ?_, ⟨by rw [ho.1 _ _ (by decide)]; exact h0, by rw [hX', wF_1, sA_eq, upd_eq], fun i hi => ?_⟩, ho⟩
  · rw [Ro_add_59_eq, show rF X 59 2 = nI l from h2, show rF X 59 0 = nI 16 from h0, m4, if_pos (nlt_t hl (by omega)), show nI (4 * l) + (1 : Int32) = nI (4 * l + 1) from nI_add _ 1, show nI (4 * l) + (2 : Int32) = nI (4 * l + 2) from nI_add _ 2, show nI (4 * l) + (3 : Int32) = nI (4 * l + 3) from nI_add _ 3, show nI l + (1 : Int32) = nI (l + 1) from nI_add _ 1, if_pos (inb_n (by omega) (by omega)), if_pos (inb_n (by omega) (by omega)), if_pos (inb_n (by omega) (by omega)), if_pos (inb_n (by omega) (by omega)), hX']
  · rw [e1]
    by_cases e : i = l
    · subst e
      rw [stA_l.1, stA_l.2.1, stA_l.2.2]
      refine ⟨?_, ?_, ?_⟩
      · rw [upd_ne (by omega), upd_ne (by omega), upd_ne (by omega), upd_eq]
      · rw [upd_ne (by omega), upd_ne (by omega), upd_eq]
      · rw [upd_ne (by omega), upd_eq]
    · rw [stA_o e, stA_o e, stA_o e, upd_ne (by omega), upd_ne (by omega), upd_ne (by omega), upd_ne (by omega), upd_ne (by omega), upd_ne (by omega), upd_ne (by omega), upd_ne (by omega), upd_ne (by omega), upd_ne (by omega), upd_ne (by omega), upd_ne (by omega)]
      exact h3 i (by omega)
/-- the reference passes a word that stands there, then a number -/
theorem tld0 {b : Nat → Nat} {len k w : Nat} {lo hi : Int32} {R R1 : pS} (hr : Cr b len k R) (hw : w < 24) (h : tkn b len k = 300 + w) (r1 : R_reads R = some (0, R1)) : R_readTold (nI w) lo hi R = R_readNumber lo hi R1 := by
  rw [R_readTold_eq, isWd hr hw, ob, decide_eq_true h, if_neg (show ¬ b2i true = 0 by decide)]
  simp only []
  rw [r1, ob]
  exact bnd_eta _
/-- one that doesn't -/
theorem tldn {b : Nat → Nat} {len k w : Nat} {lo hi : Int32} {R : pS} (hr : Cr b len k R) (hw : w < 24) (h : tkn b len k ≠ 300 + w) : R_readTold (nI w) lo hi R = some (-1, wF (wF R 0 30 1) 0 31 (nI (stt b len k))) := by
  rw [R_readTold_eq, isWd hr hw, ob, decide_eq_false h, if_pos (show b2i false = 0 from rfl)]
  simp only []
  rw [ers hr, ob]
/-- the end of a line -/
theorem lnend {b : Nat → Nat} {len M k : Nat} {X R : pS} (hM : tkn b len M = 0) (hx : Cx b len M k X) (hr : Cr b len k R) : (∃ X' R', (Re_passes_50 (59 : Int32) X).bind (fun q7 => if pBool 1 q7.1 = true then some (q7.1, q7.2) else none) = some (1, X') ∧ (R_readMark (59 : Int32) R).bind (fun q8 => some (q8.1, q8.2)) = some (0, R') ∧ Cx b len M (k + 1) X' ∧ Cr b len (k + 1) R' ∧ Off XF1 [] X X' ∧ Off FG [] R R') ∨ (∃ X' R', (Re_passes_50 (59 : Int32) X).bind (fun q7 => if pBool 1 q7.1 = true then some (q7.1, q7.2) else none) = some (0, X') ∧ (R_readMark (59 : Int32) R).bind (fun q8 => some (q8.1, q8.2)) = some (-1, R') ∧ Fl X' R' ∧ Off XF0 [] X X' ∧ Off RF0 [] R R') := by
  rcases mrk hM hx hr (c := 59) rfl with ⟨X', R', a0, a1, a2, a3, a4, a5, a6⟩ | ⟨X', R', a1, a2, a3, a4, a5⟩
  · have a1 : Re_passes_50 (59 : Int32) X = some (1, X') := a1
    have a2 : R_readMark (59 : Int32) R = some (0, R') := a2
    exact Or.inl ⟨X', R', by rw [a1, ob, if_pos (show pBool 1 1 = true from rfl)], by rw [a2, ob], a3, a4, a5, a6⟩
  · have a1 : Re_passes_50 (59 : Int32) X = some (0, X') := a1
    have a2 : R_readMark (59 : Int32) R = some (-1, R') := a2
    exact Or.inr ⟨X', R', by rw [a1, ob, if_pos (show pBool 1 0 = true from rfl)], by rw [a2, ob], a3, a4, a5⟩
/-- what a line of rows gives: class, reference, then the same -/
def LOut (b : Nat → Nat) (len M l k : Nat) (J : Nat → Nat → pS → pS → Prop) (X0 R0 : pS) (f g : Option (Int32 × pS)) : Prop := (∃ X' R', f = some (0, X') ∧ g = some (-1, R') ∧ FailP X0 R0 X' R') ∨ (∃ k' X' R', k < k' ∧ f = some (1, X') ∧ X'.1 50 3 = nI l ∧ g = some (0, R') ∧ J (l + 1) k' (wF X' 50 3 (nI (l + 1))) R')
/-- by whom: the first one stays -/
def mt (A : Nat → Nat → Nat) : Nat → Nat → Nat
  | 0, _ => 0
  | l + 1, p => if mt A l p = 0 ∧ A l 0 = p then A l 1 + 1 else mt A l p
theorem mt_ext {A A' : Nat → Nat → Nat} {p : Nat} : ∀ {l : Nat}, (∀ i, i < l → A' i 0 = A i 0 ∧ A' i 1 = A i 1) → mt A' l p = mt A l p
  | 0, _ => rfl
  | l + 1, h => by
    unfold mt
    rw [mt_ext (fun i hi => h i (by omega)), (h l (by omega)).1, (h l (by omega)).2]
theorem mt_le {A : Nat → Nat → Nat} {p : Nat} : ∀ {l : Nat}, (∀ i, i < l → A i 1 < 12) → mt A l p ≤ 12
  | 0, _ => Nat.zero_le _
  | l + 1, h => by
    unfold mt
    have := h l (by omega)
    have := mt_le (A := A) (p := p) (l := l) (fun i hi => h i (by omega))
    split <;> omega
def JM (b : Nat → Nat) (len M : Nat) (X0 R0 : pS) (l k : Nat) (X R : pS) : Prop := Cx b len M k X ∧ Cr b len k R ∧ X.1 50 3 = nI l ∧ l ≤ 16 ∧ NF X R ∧ ∃ A, LsX l A X ∧ (∀ i, i < l → A i 0 < 12 ∧ A i 1 < 12) ∧ (∀ p, p < 12 → R.2.1 18 (12 + p) = nI (mt A l p)) ∧ Off FTx WTx X0 X ∧ Sm R0 R
theorem met_line {b : Nat → Nat} {len M l k : Nat} {X0 R0 X R : pS} (hM : tkn b len M = 0) (h : JM b len M X0 R0 l k X R) (hl : l < 16) (ht : tkn b len k = 307) {X1 : pS} (x1 : Re_opens_50 (307 : Int32) (307 : Int32) X = some (1, X1)) (x2 : Cx b len M (k + 1) X1) (x3 : Off [(50, 6), (50, 7)] [] X X1) : LOut b len M l k (JM b len M X0 R0) X0 R0 (Re_metLine_50 X) (R_readMetLine R) := by
  obtain ⟨hx, hr, h3, hl6, nf, A, ls, wA0, h18, ox, sm⟩ := h
  obtain ⟨R1, r1, r2, r3⟩ := rds hr
  have t0 : R_readTold (7 : Int32) 0 11 R = R_readNumber 0 11 R1 := tld0 hr (w := 7) (by decide) ht r1
  have ox1 : Off FTx WTx X0 X1 := ox.tr (x3.mono (by decide) (by decide))
  have sm1 : Sm R0 R1 := sm.tr (Sm.of r3 (by decide) (by decide))
  have cX : Re_metLine_50 X = (Re_passesNumber_50 (0 : Int32) (11 : Int32) X1).bind (fun q2 => if q2.1 = 0 then (some ((0 : Int32), q2.2)) else ((Re_passes_50 (316 : Int32) q2.2).bind (fun q3 => if q3.1 = 0 then (some ((0 : Int32), q3.2)) else (if (rF q3.2 50 7) = ((1000 : Int32) + (rF q3.2 50 8)) then ((Re_fails_50 (2 : Int32) q3.2).bind (fun q4 => if pBool 1 q4.1 = true then some (q4.1, q4.2) else none)) else ((Re_passesNumber_50 (0 : Int32) (11 : Int32) q3.2).bind (fun q5 => if q5.1 = 0 then (some ((0 : Int32), q5.2)) else ((Ro_add_59 (rF q3.2 50 8) (rF q5.2 50 8) (0 : Int32) (0 : Int32) q5.2).bind (fun q6 => (Re_passes_50 (59 : Int32) q6.2).bind (fun q7 => if pBool 1 q7.1 = true then some (q7.1, q7.2) else none))))))))) := by
    rw [Re_metLine_50_eq, x1, ob, if_neg (show ¬ (1 : Int32) = 0 by decide)]
  rcases nmb hM x2 r2 0 11 with ⟨p, X2, R2, p1, p2, p3, p4, p5, p6, p7, p8, p9, p10, p11⟩ | ⟨X', R', f1, f2, f3, f4, f5⟩
  · have p12 : p < 12 := by have := (n_le (c := 11) (by omega) (by omega)).mp p4; omega
    have ox2 : Off FTx WTx X0 X2 := ox1.tr (p10.mono (by decide) (by decide))
    have sm2 : Sm R0 R2 := sm1.tr (Sm.of p11 (by decide) (by decide))
    have d16 : R_isWord (16 : Int32) R2 = some (b2i (decide (tkn b len (k + 1 + 1) = 316)), R2) := isWd p9 (w := 16) (by decide)
    have cR : R_readMetLine R = (R_isWord (16 : Int32) R2).bind (fun q2 => if q2.1 = 0 then ((R_errs (1 : Int32) q2.2).bind (fun q3 => some (q3.1, q3.2))) else ((R_reads q2.2).bind (fun q4 => if (rF q4.2 0 15) = (3 : Int32) then (if (rF q4.2 0 16) = nI p then ((R_errs (2 : Int32) q4.2).bind (fun q5 => some (q5.1, q5.2))) else (R_readMetLine_c58 (nI p) q4.2)) else (R_readMetLine_c58 (nI p) q4.2)))) := by
      rw [R_readMetLine_eq, t0, p6, ob, if_neg (show ¬ nI p = -1 from nI_nm (by omega))]
    rcases pas hM p8 (knd_lt p9.2.2.2) (c := 316) (by omega) (by omega) with ⟨q, X3, y1, y2, y3⟩ | ⟨q, y1⟩
    · have y1 : Re_passes_50 (316 : Int32) X2 = some (1, X3) := y1
      obtain ⟨R3, z1, z2, z3⟩ := rds p9
      have hlt3 := knd_lt z2.2.2.2
      have kn3 := knd_n z2.2.2.2
      have ox3 : Off FTx WTx X0 X3 := ox2.tr (y3.mono (by decide) (by decide))
      have sm3 : Sm R0 R3 := sm2.tr (Sm.of z3 (by decide) (by decide))
      have e7 : rF X3 50 7 = nI (tkn b len (k + 1 + 1 + 1)) := y2.2.2.2.1
      have e8 : rF X3 50 8 = nI p := by show X3.1 50 8 = _; rw [y3.1 _ _ (by decide)]; exact p7
      have cX2 : Re_metLine_50 X = (if (rF X3 50 7) = ((1000 : Int32) + (rF X3 50 8)) then ((Re_fails_50 (2 : Int32) X3).bind (fun q4 => if pBool 1 q4.1 = true then some (q4.1, q4.2) else none)) else ((Re_passesNumber_50 (0 : Int32) (11 : Int32) X3).bind (fun q5 => if q5.1 = 0 then (some ((0 : Int32), q5.2)) else ((Ro_add_59 (rF X3 50 8) (rF q5.2 50 8) (0 : Int32) (0 : Int32) q5.2).bind (fun q6 => (Re_passes_50 (59 : Int32) q6.2).bind (fun q7 => if pBool 1 q7.1 = true then some (q7.1, q7.2) else none)))))) := by
        rw [cX, p5, ob, if_neg (show ¬ (1 : Int32) = 0 by decide)]
        simp only []
        rw [y1, ob, if_neg (show ¬ (1 : Int32) = 0 by decide)]
      have cR2 : R_readMetLine R = (if (rF R3 0 15) = (3 : Int32) then (if (rF R3 0 16) = nI p then ((R_errs (2 : Int32) R3).bind (fun q5 => some (q5.1, q5.2))) else (R_readMetLine_c58 (nI p) R3)) else (R_readMetLine_c58 (nI p) R3)) := by
        rw [cR, d16, ob, decide_eq_true q, if_neg (show ¬ b2i true = 0 by decide)]
        simp only []
        rw [z1, ob]
      by_cases e : tkn b len (k + 1 + 1 + 1) = 1000 + p
      · refine Or.inl ⟨_, _, ?_, ?_, FailP_of 2 y2 z2 ox3 sm3⟩
        · rw [cX2, e7, e8, e, if_pos (show nI (1000 + p) = (1000 : Int32) + nI p from (nI_add 1000 p).symm), fls y2, ob, if_pos (show pBool 1 0 = true from rfl)]
        · rw [cR2, if_pos (show rF R3 0 15 = 3 from kn3.1.mpr (by omega)), if_pos (show rF R3 0 16 = nI p by rw [show rF R3 0 16 = _ from kn3.2 (by omega), e, Nat.add_sub_cancel_left]), ers z2, ob]
      · have cX3 : Re_metLine_50 X = (Re_passesNumber_50 (0 : Int32) (11 : Int32) X3).bind (fun q5 => if q5.1 = 0 then (some ((0 : Int32), q5.2)) else ((Ro_add_59 (nI p) (rF q5.2 50 8) (0 : Int32) (0 : Int32) q5.2).bind (fun q6 => (Re_passes_50 (59 : Int32) q6.2).bind (fun q7 => if pBool 1 q7.1 = true then some (q7.1, q7.2) else none)))) := by
          rw [cX2, e7, e8, if_neg (show ¬ nI (tkn b len (k + 1 + 1 + 1)) = (1000 : Int32) + nI p from fun z => e (by rw [show (1000 : Int32) + nI p = nI (1000 + p) from nI_add 1000 p, nI_eqE (by omega) (by omega)] at z; exact z))]
        have cR3 : R_readMetLine R = R_readMetLine_c58 (nI p) R3 := by
          rw [cR2]
          by_cases z : rF R3 0 15 = (3 : Int32)
          · rw [if_pos z, if_neg (show ¬ rF R3 0 16 = nI p from fun z4 => e (by
              have h1 := kn3.1.mp z
              have h2 : rF R3 0 16 = _ := kn3.2 h1
              rw [h2, nI_eqE (by omega) (by omega)] at z4
              omega))]
          · rw [if_neg z]
        rcases nmb hM y2 z2 0 11 with ⟨v, X4, R4, v1, v2, v3, v4, v5, v6, v7, v8, v9, v10, v11⟩ | ⟨X', R', f1, f2, f3, f4, f5⟩
        · have v12 : v < 12 := by have := (n_le (c := 11) (by omega) (by omega)).mp v4; omega
          have ls4 : LsX l A X4 := LsX_off (LsX_off (LsX_off (LsX_off ls x3 (by decide) (by decide) (by decide)) p10 (by decide) (by decide) (by decide)) y3 (by decide) (by decide) (by decide)) v10 (by decide) (by decide) (by decide)
          obtain ⟨X5, w1, w2, w3⟩ := ro_add (a := p) (b := v) (c := 0) ls4 hl
          have w1 : Ro_add_59 (nI p) (nI v) (0 : Int32) (0 : Int32) X4 = some (nI (l + 1), X5) := w1
          have ox5 : Off FTx WTx X0 X5 := (ox3.tr (v10.mono (by decide) (by decide))).tr (w3.mono (by decide) (by decide))
          have sm4 : Sm R0 R4 := sm3.tr (Sm.of v11 (by decide) (by decide))
          have r18 : R4.2.1 18 = R.2.1 18 := by rw [v11.2.1 _ (by decide), z3.2.1 _ (by decide), p11.2.1 _ (by decide), r3.2.1 _ (by decide)]
          have i12 : (12 : Int32) + nI p = nI (12 + p) := nI_add 12 p
          obtain ⟨R5, hR5, o5, s5, e18⟩ : ∃ R5, R_readMetLine R = (R_readMark (59 : Int32) R5).bind (fun q8 => some (q8.1, q8.2)) ∧ Off [] [18] R4 R5 ∧ Sm R4 R5 ∧ ∀ p', p' < 12 → R5.2.1 18 (12 + p') = nI (mt (stA A l p v 0) (l + 1) p') := by
            have mx : ∀ p', mt (stA A l p v 0) (l + 1) p' = if mt A l p' = 0 ∧ p = p' then v + 1 else mt A l p' := by
              intro p'
              rw [mt, stA_l.1, stA_l.2.1, mt_ext (A := A) (fun i hi => ⟨stA_o (by omega), stA_o (by omega)⟩)]
            have m12 : mt A l p ≤ 12 := mt_le (fun i hi => (wA0 i hi).2)
            have c0 : R_readMetLine R = (if (nI (mt A l p) : Int32) = 0 then ((R_readMark (59 : Int32) (wA R4 18 (nI (12 + p)) (nI (v + 1)))).bind (fun q7 => some (q7.1, q7.2))) else ((R_readMark (59 : Int32) R4).bind (fun q8 => some (q8.1, q8.2)))) := by
              rw [cR3, R_readMetLine_c58_eq, v6, ob, if_neg (show ¬ nI v = -1 from nI_nm (by omega)), i12, if_pos (inb_n (by omega) (by omega))]
              simp only []
              rw [rA_n (by omega), r18, h18 p p12, if_pos (inb_n (by omega) (by omega)), show nI v + (1 : Int32) = nI (v + 1) from nI_1 v]
            by_cases z : mt A l p = 0
            · refine ⟨wA R4 18 (nI (12 + p)) (nI (v + 1)), by rw [c0, z, if_pos (show nI 0 = 0 from rfl)], Off.rf.wA (by decide), Sm_w (Or.inr (Or.inl ⟨rfl, by omega⟩)) (by omega), fun p' hp' => ?_⟩
              rw [wA_21 (by omega), sA_eq, mx]
              by_cases y : p = p'
              · subst y
                rw [upd_eq, if_pos ⟨z, rfl⟩]
              · rw [upd_ne (by omega), if_neg (fun t => y t.2), r18]
                exact h18 p' hp'
            · refine ⟨R4, by rw [c0, if_neg (show ¬ nI (mt A l p) = 0 from fun t => z (by rw [show (0 : Int32) = nI 0 from rfl, nI_eqE (by omega) (by omega)] at t; exact t))], Off.rf, Sm.rf, fun p' hp' => ?_⟩
              rw [mx, r18, h18 p' hp', if_neg (fun t => z (by rw [t.2]; exact t.1))]
          have sm5 : Sm R0 R5 := sm4.tr s5
          have hx5 : Cx b len M (k + 1 + 1 + 1 + 1) X5 := Cx_off v8 w3 (by decide) (by decide) (by decide) (by decide)
          have hr5 : Cr b len (k + 1 + 1 + 1 + 1) R5 := Cr_off v9 o5 (by decide) (by decide) (by decide)
          have cX4 : Re_metLine_50 X = (Re_passes_50 (59 : Int32) X5).bind (fun q7 => if pBool 1 q7.1 = true then some (q7.1, q7.2) else none) := by
            rw [cX3, v5, ob, if_neg (show ¬ (1 : Int32) = 0 by decide)]
            simp only []
            rw [show rF X4 50 8 = nI v from v7, w1, ob]
          rcases lnend hM hx5 hr5 with ⟨X6, R6, u1, u2, u3, u4, u5, u6⟩ | ⟨X', R', f1, f2, f3, f4, f5⟩
          · refine Or.inr ⟨_, X6, R6, ?_, by rw [cX4, u1], ?_, by rw [hR5, u2], Cx_off u3 (Off.wF (F := [(50, 3)]) (W := []) Off.rf (by decide)) (by decide) (by decide) (by decide) (by decide), u4, by rw [wF_1, sA_eq, upd_eq], by omega, (NF_off (NF_off (NF_off (NF_off (NF_off (NF_off (NF_off nf x3 r3 (by decide) (by decide) (by decide) (by decide)) p10 p11 (by decide) (by decide) (by decide) (by decide)) y3 z3 (by decide) (by decide) (by decide) (by decide)) v10 v11 (by decide) (by decide) (by decide) (by decide)) w3 o5 (by decide) (by decide) (by decide) (by decide)) u5 u6 (by decide) (by decide) (by decide) (by decide)) (Off.wF (F := [(50, 3)]) (W := []) Off.rf (by decide)) (Off.rf (F := []) (W := [])) (by decide) (by decide) (by decide) (by decide)), stA A l p v 0, LsX_off (LsX_off w2 u5 (by decide) (by decide) (by decide)) (Off.wF (F := [(50, 3)]) (W := []) Off.rf (by decide)) (by decide) (by decide) (by decide), fun i hi => ?_, fun p' hp' => ?_, (ox5.tr (u5.mono (by decide) (by decide))).wF (by decide), sm5.tr (Sm.of u6 (by decide) (by decide))⟩
            · omega
            · rw [u5.1 _ _ (by decide), w3.1 _ _ (by decide), v10.1 _ _ (by decide), y3.1 _ _ (by decide), p10.1 _ _ (by decide), x3.1 _ _ (by decide)]; exact h3
            · by_cases z : i = l
              · subst z
                rw [stA_l.1, stA_l.2.1]; exact ⟨p12, v12⟩
              · rw [stA_o z, stA_o z]; exact wA0 i (by omega)
            · rw [u6.2.1 _ (by decide)]; exact e18 p' hp'
          · exact Or.inl ⟨X', R', by rw [cX4, f1], by rw [hR5, f2], FailP_nm f3 f4 f5 ox5 sm5⟩
        · exact Or.inl ⟨X', R', by rw [cX3, f1, ob, if_pos (show (0 : Int32) = 0 from rfl)], by rw [cR3, R_readMetLine_c58_eq, f2, ob, if_pos rfl], FailP_nm f3 f4 f5 ox3 sm3⟩
    · have y1 : Re_passes_50 (316 : Int32) X2 = some (0, wF (wF X2 50 4 1) 50 5 (nI (stt b len (k + 1 + 1)))) := y1
      refine Or.inl ⟨_, _, ?_, ?_, FailP_of 1 p8 p9 ox2 sm2⟩
      · rw [cX, p5, ob, if_neg (show ¬ (1 : Int32) = 0 by decide)]
        simp only []
        rw [y1, ob, if_pos (show (0 : Int32) = 0 from rfl)]
      · rw [cR, d16, ob, decide_eq_false q, if_pos (show b2i false = 0 from rfl)]
        simp only []
        rw [ers p9, ob]
  · exact Or.inl ⟨X', R', by rw [cX, f1, ob, if_pos (show (0 : Int32) = 0 from rfl)], by rw [R_readMetLine_eq, t0, f2, ob, if_pos rfl], FailP_nm f3 f4 f5 ox1 sm1⟩
