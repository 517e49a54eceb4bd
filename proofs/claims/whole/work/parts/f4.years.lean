/-! Years, in thought too; undo; what is told of a drawer. -/
theorem wF_id {R : pS} {o a : Nat} {v : Int32} (h : R.1 o a = v) : wF R o a v = R := by
  refine Prod.ext (funext fun i => ?_) rfl
  rw [wF_1, sA_row]
  by_cases z : i = o
  · subst z
    rw [if_pos rfl]
    funext k
    rw [upd_at]
    by_cases z2 : k = a
    · rw [if_pos z2, z2, h]
    · rw [if_neg z2]
  · rw [if_neg z]
theorem q_years {X R : pS} (a : Int32) (h : INV X R) : Gd (C_years a) (R_years a) X R := by
  have step : ∀ {X R : pS}, INV X R → R.1 0 0 = 0 → ∃ (b : Bool) (X1 X2 R1 R2 : pS), Hi_remember_31_1 (rF X 23 2) X = some (0, X1) ∧ Ke_passYear_25 X1 = some (0, X2) ∧ R_keepsAhead R = some (0, R1) ∧ R_goesBy R1 = some (b2i b, R2) ∧ INV X2 R2 ∧ X2.1 1 4 = X.1 1 4 + b2i b ∧ R2.1 0 0 = 0 := by
    intro X R h h0
    obtain ⟨hcx, hcr, him, htp, n, D, B, L, T, hw, hX, hR, hH⟩ := id h
    obtain ⟨X1, R1, b1, b2, b3, b4, b5, b6, b7, b8, b9⟩ := deedI hcx hcr him htp hw hX hR hH
    rw [wF_id h0] at b2
    obtain ⟨X2, c1, c2, c3⟩ := year_25 hw.2.2.1 hw.2.2.2.2.2.2.1 hw.1 b3 b5 b7
    obtain ⟨R2, d1, d2, d3⟩ := R_yearP hw.1.1 hw.2.2.1 hw.2.2.2.2.2.2.1 b4 b6 b8
    have hl := le_yer (L := L) (th := false) (n := n) (m := T 0 2) (A := plA T) (D, B)
    refine ⟨(yerP L false n (T 0 2) (plA T) (D, B)).1, X1, X2, R1, R2, b1, c1, b2, d1, b9 _ X2 R2 c2 c3 d2 d3 (WD_yer (fun i hi => (hw.2.2.2.2.2.2.1.2 i hi).2.2.2) hw.1) hl.1, ?_, ?_⟩
    · rw [c2.1.2 4 (by omega) (by omega), hl.2, hX.1.2 4 (by omega) (by omega)]
    · rw [d3.1 0 0 (by simp)]
      obtain ⟨h', R1', -, r1, -, -, -, r5⟩ := aheadR (R := R) hH.2.choose_spec.choose_spec.choose_spec.1 hH.2.choose_spec.choose_spec.choose_spec.2.2.1
      rw [b2] at r1
      cases r1
      rw [r5.1 0 0 (by decide)]
      exact h0
  obtain ⟨hcx, hcr, him, htp, n, D, B, L, T, hw, hX, hR, hH⟩ := id h
  have h0 := INV_off h (Off.rf) (told0)
  rw [show Gd (C_years a) (R_years a) X R = ∃ r X' R', C_years a X = some (r, X') ∧ R_years a R = some (r, R') ∧ INV X' R' from rfl, C_years_eq, R_years_eq, R_isIn_eq]
  by_cases z1 : a < 1
  · rw [if_pos z1, if_pos z1, ob]
    exact ⟨-1, X, wF R 0 0 0, rfl, rfl, h0⟩
  · rw [if_neg z1, if_neg z1]
    by_cases z2 : a ≤ 30
    · rw [if_pos z2, if_pos z2, ob]
      simp only
      rw [if_neg (show ¬ (1 : Int32) = 0 by decide), show rF X 1 3 = D 7 3 from hX.1.2 3 (by omega) (by omega), show rA (wF R 0 0 0) 1 (0 : Int32) = D 7 3 from hR.1.1.2.2.1]
      by_cases z3 : D 7 3 + a ≤ 99
      · rw [if_pos z3, if_pos z3]
        have h00 : ¬ a < 0 := fun z => z1 (by
          rw [fa_lt] at z ⊢
          have h0 : (0 : Int32).toInt = 0 := rfl
          have h1 : (1 : Int32).toInt = 1 := rfl
          omega)
        obtain ⟨v, hv, rfl⟩ := nI_of2 (n := 30) (M := 30) rfl h00 z2
        have go : ∀ k i (sum u : Int32) (X R : pS), i + k = v → INV X R → R.1 0 0 = 0 → X.1 1 4 = u + sum → ∃ r X' R', C_years_c37 (nI v) u (nI i) X = some (r, X') ∧ R_years_c35 (nI v) sum (nI i) R = some (r, R') ∧ INV X' R' := by
          intro k
          induction k with
          | zero =>
            intro i sum u X R hi hI h0 hu
            refine ⟨sum, X, R, ?_, ?_, hI⟩
            · rw [C_years_c37_eq, if_neg (nlt_f (by omega) (by omega) (by omega)), show rF X 1 4 = u + sum from hu, Int32.add_comm, Int32.add_sub_cancel]
            · rw [R_years_c35_eq, if_neg (nlt_f (by omega) (by omega) (by omega))]
          | succ k ih =>
            intro i sum u X R hi hI h0 hu
            obtain ⟨b, X1, X2, R1, R2, s1, s2, s3, s4, s5, s6, s7⟩ := step hI h0
            rw [C_years_c37_eq, if_pos (nlt_t (by omega) (by omega)), s1, ob, R_years_c35_eq, if_pos (nlt_t (by omega) (by omega)), s3, ob]
            simp only
            rw [s2, ob, s4, ob, nI_1]
            exact ih (i + 1) (sum + b2i b) u X2 R2 (by omega) s5 s7 (by rw [s6, hu, Int32.add_assoc])
        exact go v 0 0 (rF X 1 4) X (wF R 0 0 0) (by omega) h0 (by rw [wF_1, sA_eq, upd_eq]) (by rw [Int32.add_zero])
      · rw [if_neg z3, if_neg z3]
        exact ⟨-1, X, wF R 0 0 0, rfl, rfl, h0⟩
    · rw [if_neg z2, if_neg z2, ob]
      exact ⟨-1, X, wF R 0 0 0, rfl, rfl, h0⟩
def yrs (L : tL) (n m : Nat) (A : Nat → Nat → Nat) : Nat → tP → tP
  | 0, P => P
  | k + 1, P => yrs L n m A k (yerP L true n m A P).2
theorem ent_t (y : Int32) (B : tB) (a b c : Int32) : ent true y B a b c = B := rfl
theorem q_goes {X R : pS} (a w : Int32) (h : INV X R) : Gd (C_goes a w) (R_goes a w) X R := by
  obtain ⟨hcx, hcr, him, htp, n, D, B, L, T, hw, hX, hR, hH⟩ := id h
  have hR0 := RA_off hR told0
  have hn := hw.1.1
  have h0 := INV_off h (Off.rf) (told0)
  have w2 : C_within w (4 : Int32) X = _ := within_s w 4 (S := X)
  have i2 : R_isIn w (0 : Int32) (3 : Int32) (wF R 0 0 0) = _ := isIn_s w 4 (by omega)
  rw [show Gd (C_goes a w) (R_goes a w) X R = ∃ r X' R', C_goes a w X = some (r, X') ∧ R_goes a w R = some (r, R') ∧ INV X' R' from rfl, C_goes_eq, R_goes_eq, R_isIn_eq]
  by_cases z1 : a < 1
  · rw [if_pos z1, if_pos z1, ob]
    exact ⟨-1, X, wF R 0 0 0, rfl, rfl, h0⟩
  · rw [if_neg z1, if_neg z1]
    by_cases z2 : a ≤ 60
    · rw [if_pos z2, if_pos z2, ob]
      simp only
      rw [if_neg (show ¬ (1 : Int32) = 0 by decide), w2, i2, ob, ob]
      cases e : inr w 4
      · exact ⟨-1, X, wF R 0 0 0, rfl, rfl, h0⟩
      · simp only [b2t, if_false]
        obtain ⟨w', hw', rfl⟩ := inr_t (by omega) e
        have h00 : ¬ a < 0 := fun z => z1 (by
          rw [fa_lt] at z ⊢
          have h0 : (0 : Int32).toInt = 0 := rfl
          have h1 : (1 : Int32).toInt = 1 := rfl
          omega)
        obtain ⟨v, hv, rfl⟩ := nI_of2 (n := 60) (M := 60) rfl h00 z2
        -- the class thinks on a copy
        have xc : Dr_copyFrom_26_1 X = some (0, cpS 26 1 X) := Dr_copyFrom_26_1_eq X
        have oc : Off FX WX X (cpS 26 1 X) := by
          refine ⟨fun i x q => ?_, fun i q => ?_, rfl⟩
          · rw [cp_1f, if_neg]
            rintro ⟨rfl, h1, h2⟩
            apply q
            have hx : x = 1 ∨ x = 2 ∨ x = 3 ∨ x = 4 ∨ x = 5 ∨ x = 6 ∨ x = 7 := by omega
            rcases hx with rfl | rfl | rfl | rfl | rfl | rfl | rfl <;> decide
          · rw [cp_2, if_neg]
            intro e
            apply q
            rw [e]
            decide
        have hX1 := XA_off hX oc
        have hcx1 := ConX_off hcx oc (by decide)
        have xp : XP_28 (D, B) (cpS 26 1 X) := ⟨XD_cp hX.1, hcx1.2.1, hcx1.2.2.1, hcx1.2.2.2.1⟩
        -- the reference puts its own aside
        have thk : ∀ j k (S : pS), k + j = 76 → (∀ i, i < k → S.2.1 3 i = (wF R 0 0 0).2.1 1 i) → Off [] [3] (wF R 0 0 0) S → ∃ S', R_thinks_c2 (nI k) S = some (0, wF S' 0 5 1) ∧ (∀ i, i < 76 → S'.2.1 3 i = (wF R 0 0 0).2.1 1 i) ∧ Off [] [3] (wF R 0 0 0) S' := by
          intro j
          induction j with
          | zero =>
            intro k S hk h1 h2
            have : k = 76 := by omega
            subst this
            exact ⟨S, by rw [R_thinks_c2_eq, if_neg (by decide)], h1, h2⟩
          | succ j ih =>
            intro k S hk h1 h2
            rw [R_thinks_c2_eq, if_pos (show nI k < (76 : Int32) from nlt_t (n := 76) (by omega) (by omega)), if_pos (inb_n (by omega) (by omega)), if_pos (inb_n (by omega) (by omega)), rA_n (by omega), h2.2.1 1 (by decide), nI_1]
            refine ih (k + 1) _ (by omega) (fun i hi => ?_) (h2.wA (by decide))
            rw [wA_21 (by omega), sA_eq, upd_at]
            by_cases q : i = k
            · rw [if_pos q, q]
            · rw [if_neg q]; exact h1 i (by omega)
        obtain ⟨S1, t1, t2, t3⟩ := thk 76 0 (wF R 0 0 0) rfl (fun i hi => by omega) Off.rf
        have t1 : R_thinks (wF R 0 0 0) = some (0, wF S1 0 5 1) := (R_thinks_eq _).trans t1
        have o1 : Off [(0, 5)] [3] (wF R 0 0 0) (wF S1 0 5 1) := (t3.mono (by simp) (by simp)).wF (by decide)
        have rp : RP true n (D, B) (wF S1 0 5 1) := by
          refine ⟨RDm_off hR0.1 o1 (by decide) (by decide) (by decide) (by decide) (by decide), by rw [wF_1, sA_eq, upd_eq]; rfl, hw.2.1, ?_, ?_⟩
          · rw [o1.2.1 1 (by decide)]; exact hR0.2.1.1
          · rw [o1.2.1 7 (by decide)]; exact hR0.2.1.2
        have rl1 : RLm L (wF S1 0 5 1) := RLm_off hR0.2.2.1 o1 (fun i p q => by simp; omega)
        have rpl1 : RPl (T 0 2) (plA T) (wF S1 0 5 1) := by
          have hx := RPl_of hR0.2.2.2
          unfold RPl at *
          rw [o1.1 0 39 (by decide), o1.2.1 21 (by decide)]
          exact hx
        have hPl := hw.2.2.2.2.2.2.1
        -- year by year
        have xg : ∀ k i (P : tP) (S : pS), i + k = v → WD n P.1 → XP_28 P S → XL 4 L S → XPl (T 0 2) (plA T) S → ∃ S', C_goes_c34 (nI v) (nI w') (nI i) S = C_goes_c34 (nI v) (nI w') (nI v) S' ∧ XP_28 (yrs L n (T 0 2) (plA T) k P) S' ∧ WD n (yrs L n (T 0 2) (plA T) k P).1 ∧ Off FK_28 WK_28 S S' := by
          intro k
          induction k with
          | zero =>
            intro i P S hi h1 h2 h3 h4
            have : i = v := by omega
            subst this
            exact ⟨S, rfl, h2, h1, Off.rf⟩
          | succ k ih =>
            intro i P S hi h1 h2 h3 h4
            obtain ⟨S2, c1, c2, c3⟩ := year_28 hw.2.2.1 hPl h1 h2 h3 h4
            have he := C_goes_c34_eq (nI v) (nI w') (nI i) S
            rw [if_pos (nlt_t (by omega) (by omega)), c1, ob, nI_1] at he
            obtain ⟨S3, d1, d2, d3, d4⟩ := ih (i + 1) (yerP L true n (T 0 2) (plA T) P).2 S2 (by omega) (WD_yer (fun i hi => (hPl.2 i hi).2.2.2) h1) c2 (XL_fk_28 h3 c3) (XPl_off h4 c3 (by decide) (by decide))
            exact ⟨S3, he.trans d1, d2, d3, c3.tr d4⟩
        have rg : ∀ k i (P : tP) (S : pS), i + k = v → RP true n P S → RLm L S → RPl (T 0 2) (plA T) S → ∃ S', R_goes_c34 (nI v) (nI w') (nI i) S = R_goes_c34 (nI v) (nI w') (nI v) S' ∧ RP true n (yrs L n (T 0 2) (plA T) k P) S' ∧ Off [] WR S S' := by
          intro k
          induction k with
          | zero =>
            intro i P S hi h2 h3 h4
            have : i = v := by omega
            subst this
            exact ⟨S, rfl, h2, Off.rf⟩
          | succ k ih =>
            intro i P S hi h2 h3 h4
            obtain ⟨S2, c1, c2, c3⟩ := R_yearP hn hw.2.2.1 hPl h2 h3 h4
            have he := R_goes_c34_eq (nI v) (nI w') (nI i) S
            rw [if_pos (nlt_t (by omega) (by omega)), c1, ob, nI_1] at he
            obtain ⟨S3, d1, d2, d4⟩ := ih (i + 1) (yerP L true n (T 0 2) (plA T) P).2 S2 (by omega) c2 (RLm_wr h3 c3) (RPl_wr h4 c3)
            exact ⟨S3, he.trans d1, d2, c3.tr d4⟩
        obtain ⟨X3, x1, x2, x3, x4⟩ := xg v 0 (D, B) (cpS 26 1 X) (by omega) hw.1 xp hX1.2.2.1 (XPl_of hX1.2.2.2)
        obtain ⟨R3, r1, r2, r3⟩ := rg v 0 (D, B) (wF S1 0 5 1) (by omega) rp rl1 rpl1
        have bk : ∀ k (P : tP), (yrs L n (T 0 2) (plA T) k P).2 = P.2 := by
          have e1 : ∀ k m (P : tP), (thsP L true n k m P).2.2 = P.2 := by
            intro k
            induction k with
            | zero => exact fun m P => rfl
            | succ k ih =>
              intro m P
              rw [thsP]
              cases lst L P.1 n 0 none with
              | none => rfl
              | some c => exact ih (m + 1) (thrP L true P c)
          have e2 : ∀ a b (P : tP), (dedP L true n a b P).2 = P.2 := by
            intro a b P
            unfold dedP
            by_cases a0 : a = 0
            · rw [if_pos a0]; exact e1 b 0 P
            rw [if_neg a0]
            by_cases a1 : a = 1
            · rw [if_pos a1]
              cases bst L P.1 (perQ P.1 (nI b)) n 0 none <;> rfl
            rw [if_neg a1]
            by_cases a2 : a = 2
            · rw [if_pos a2]; rfl
            rw [if_neg a2]
            cases bt (P.1 7 2) b <;> rfl
          have e3 : ∀ k i (P : tP), (plnP L true n (plA T) k i P).2 = P.2 := by
            intro k
            induction k with
            | zero => exact fun i P => rfl
            | succ k ih =>
              intro i P
              rw [show plnP L true n (plA T) (k + 1) i P = plnP L true n (plA T) k (i + 1) (if nI (plA T i 0) = P.1 7 3 then dedP L true n (plA T i 1) (plA T i 2) P else P) from rfl, ih]
              by_cases z : nI (plA T i 0) = P.1 7 3
              · rw [if_pos z]; exact e2 _ _ _
              · rw [if_neg z]
          have e4 : ∀ P : tP, (wntP L true n P).2.2 = P.2 := by
            intro P
            unfold wntP wntP2
            cases bst L (wntD true P.1) (wrtQ (wntD true P.1) (wntT true P.1)) n 0 none with
            | none => rfl
            | some c =>
              simp only
              cases ansW L true (wntD true P.1) c <;> rfl
          have e5 : ∀ k i (P : tP), (werA L true k i P).2 = P.2 := by
            intro k
            induction k with
            | zero => exact fun i P => rfl
            | succ k ih =>
              intro i P
              rw [show werA L true (k + 1) i P = werA L true k (i + 1) (if bt (P.1 7 2) i then werP L true i P else P) from rfl, ih]
              cases bt (P.1 7 2) i
              · rfl
              · rw [if_pos rfl]
                unfold werP
                by_cases z : mn99 (P.1 5 i + tell L P.1 i 1) < 99
                · rw [if_pos z]
                · rw [if_neg z]; rfl
          intro k
          induction k with
          | zero => exact fun P => rfl
          | succ k ih =>
            intro P
            rw [yrs, ih]
            show (werA L true n 0 (wntP L true n (plnP L true n (plA T) (T 0 2) 0 P)).2).2 = _
            rw [e5, e4, e3]
        obtain ⟨Pf, hPf⟩ : ∃ Pf, Pf = yrs L n (T 0 2) (plA T) v (D, B) := ⟨_, rfl⟩
        rw [← hPf] at x2 x3 r2
        have hPB : Pf.2 = B := by rw [hPf]; exact bk v (D, B)
        -- the reference goes back
        have e3 : ∀ i, i < 76 → R3.2.1 3 i = R.2.1 1 i := fun i hi => by
          rw [r3.2.1 3 (by decide), show (wF S1 0 5 1).2.1 3 = S1.2.1 3 from rfl, t2 i hi]; rfl
        have bck : ∀ j k (S : pS), k + j = 76 → (∀ i, i < k → S.2.1 1 i = R.2.1 1 i) → (∀ i, i < 76 → S.2.1 3 i = R.2.1 1 i) → Off [] [1] R3 S → ∃ S', R_endsThought_c2 (nI k) S = some (0, wF S' 0 5 0) ∧ (∀ i, i < 76 → S'.2.1 1 i = R.2.1 1 i) ∧ Off [] [1] R3 S' := by
          intro j
          induction j with
          | zero =>
            intro k S hk h1 h2 h3
            have : k = 76 := by omega
            subst this
            exact ⟨S, by rw [R_endsThought_c2_eq, if_neg (by decide)], h1, h3⟩
          | succ j ih =>
            intro k S hk h1 h2 h3
            rw [R_endsThought_c2_eq, if_pos (show nI k < (76 : Int32) from nlt_t (n := 76) (by omega) (by omega)), if_pos (inb_n (by omega) (by omega)), if_pos (inb_n (by omega) (by omega)), rA_n (by omega), h2 k (by omega), nI_1]
            refine ih (k + 1) _ (by omega) (fun i hi => ?_) (fun i hi => ?_) (h3.wA (by decide))
            · rw [wA_21 (by omega), sA_eq, upd_at]
              by_cases q : i = k
              · rw [if_pos q, q]
              · rw [if_neg q]; exact h1 i (by omega)
            · rw [wA_21 (by omega), sA_ne (by decide)]; exact h2 i hi
        obtain ⟨S4, u1, u2, u3⟩ := bck 76 0 R3 rfl (fun i hi => by omega) e3 Off.rf
        have u1 : R_endsThought R3 = some (0, wF S4 0 5 0) := (R_endsThought_eq _).trans u1
        have oR : Off [(0, 0), (0, 5)] [1, 3, 7, 22, 23] R (wF S4 0 5 0) := Off.wF (Off.tr (Off.wF (F := [(0, 0), (0, 5)]) (W := [1, 3, 7, 22, 23]) (o := 0) (a := 0) (v := 0) (S := R) Off.rf (by decide)) ((o1.mono (by simp) (by simp)).tr ((r3.mono (by simp) (by simp)).tr (u3.mono (by simp) (by simp))))) (by decide)
        have oX : Off FX WX X X3 := oc.tr (x4.mono (by simp) (by simp))
        have finI : INV X3 (wF S4 0 5 0) := by
          refine ⟨ConX_off hcx oX (by decide), ⟨by rw [wF_1, sA_eq, upd_eq], by rw [oR.2.1 9 (by decide)]; exact hcr.2⟩, Img_off him oX oR (by decide) (fun o a h => by simp; omega) (fun o h1 h2 => by simp; omega) (by decide) (by decide), Tap_off htp oX oR (by decide) (by decide) (by decide) (by decide), n, D, B, L, T, hw, XA_off hX oX, ⟨⟨?_, ?_⟩, ⟨?_, ?_⟩, RLm_off hR.2.2.1 oR (fun i p q => by simp; omega), RTm_off hR.2.2.2 oR (by decide) (by decide)⟩, Hst_off hH oX oR (by decide) (fun o a h1 h2 => by simp; omega) (fun o h1 h2 => by simp; omega) (by decide) (by decide)⟩
          · rw [oR.2.1 4 (by decide), oR.2.1 5 (by decide), oR.2.1 6 (by decide)]
            exact RD_cong hR.1.1 hn (fun k hk => u2 k hk)
          · rw [oR.1 0 6 (by decide)]; exact hR.1.2
          · show S4.2.1 1 2 = _
            rw [u2 2 (by omega)]; exact hR.2.1.1
          · intro i hi
            show S4.2.1 7 i = _
            rw [u3.2.1 7 (by decide), ← hPB]
            exact r2.2.2.2.2 i (by rw [hPB]; exact hi)
        have cend := C_goes_c34_eq (nI v) (nI w') (nI v) X3
        rw [if_neg (nlt_f (by omega) (by omega) (by omega))] at cend
        have rend := R_goes_c34_eq (nI v) (nI w') (nI v) R3
        rw [if_neg (nlt_f (by omega) (by omega) (by omega))] at rend
        have r74 : ∀ s0, R_goes_c74 s0 R3 = some (s0, wF S4 0 5 0) := fun s0 => by rw [R_goes_c74_eq, u1]; rfl
        have cgo : (Dr_copyFrom_26_1 X).bind (fun q2 => C_goes_c34 (nI v) (nI w') (0 : Int32) q2.2) = C_goes_c34 (nI v) (nI w') (nI v) X3 := by
          rw [xc, ob]
          exact x1
        have rgo : (R_thinks (wF R 0 0 0)).bind (fun q3 => R_goes_c34 (nI v) (nI w') (0 : Int32) q3.2) = R_goes_c34 (nI v) (nI w') (nI v) R3 := by
          rw [t1, ob]
          exact r1
        rw [cgo, rgo, cend, rend]
        have hc : w' = 0 ∨ w' = 1 ∨ w' = 2 ∨ w' = 3 := by omega
        rcases hc with rfl | rfl | rfl | rfl
        · refine ⟨Pf.1 7 4, X3, wF S4 0 5 0, ?_, ?_, finI⟩
          · rw [if_pos (show nI 0 = (0 : Int32) from rfl), show rF X3 26 4 = Pf.1 7 4 from x2.1.2 4 (by omega) (by omega)]
          · rw [if_pos (by decide), show (3 : Int32) + nI 0 = nI 3 from rfl, if_pos (inb_n (by omega) (by omega)), rA_n (by omega), r2.1.1.2.2.2.2.1, r74]
        · refine ⟨Pf.1 7 5, X3, wF S4 0 5 0, ?_, ?_, finI⟩
          · rw [if_neg (by decide), if_pos (show nI 1 = (1 : Int32) from rfl), show rF X3 26 5 = Pf.1 7 5 from x2.1.2 5 (by omega) (by omega)]
          · rw [if_pos (by decide), show (3 : Int32) + nI 1 = nI 4 from rfl, if_pos (inb_n (by omega) (by omega)), rA_n (by omega), r2.1.1.2.2.2.2.2.1, r74]
        · refine ⟨Pf.1 7 6, X3, wF S4 0 5 0, ?_, ?_, finI⟩
          · rw [if_neg (by decide), if_neg (by decide), if_pos (show nI 2 = (2 : Int32) from rfl), show rF X3 26 6 = Pf.1 7 6 from x2.1.2 6 (by omega) (by omega)]
          · rw [if_pos (by decide), show (3 : Int32) + nI 2 = nI 5 from rfl, if_pos (inb_n (by omega) (by omega)), rA_n (by omega), r2.1.1.2.2.2.2.2.2, r74]
        · refine ⟨nI (ones (Pf.1 7 2) 14), X3, wF S4 0 5 0, ?_, ?_, finI⟩
          · rw [if_neg (by decide), if_neg (by decide), if_neg (by decide), show rF X3 26 2 = Pf.1 7 2 from x2.1.2 2 (by omega) (by omega), bc_low (low_up x3.2.2.1 hn)]; rfl
          · rw [if_neg (by decide), kset x3 r2.1, ob]
            simp only
            rw [on_low (low_up x3.2.2.1 hn), ob, r74]
    · rw [if_neg z2, if_neg z2, ob]
      exact ⟨-1, X, wF R 0 0 0, rfl, rfl, h0⟩
