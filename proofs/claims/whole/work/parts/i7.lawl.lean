/-! Reading a law: a line. -/
def LnX (l : Nat) (L : tL) (X : pS) : Prop := X.1 51 8 = nI l ∧ ∀ i, i < l → X.2.1 53 i = nI (L 1 i) ∧ X.2.1 54 i = nI (L 2 i) ∧ X.2.1 55 i = nI (L 3 i) ∧ X.2.1 56 i = nI (L 4 i)
def LnR (l : Nat) (L : tL) (R : pS) : Prop := ∀ i, i < l → R.2.1 11 (32 + i) = nI (L 1 i) ∧ R.2.1 12 (32 + i) = nI (L 2 i) ∧ R.2.1 13 (32 + i) = nI (L 3 i) ∧ R.2.1 14 (32 + i) = nI (L 4 i)
def LnW (l n : Nat) (L : tL) : Prop := ∀ i, i < l → L 1 i < 3 ∧ L 2 i ≤ L 3 i ∧ L 3 i ≤ L 4 i ∧ L 4 i ≤ n ∧ (∃ t, okRun L (L 2 i) (L 3 i - L 2 i) [] = some [t]) ∧ (L 3 i < L 4 i → ∃ t, okRun L (L 3 i) (L 4 i - L 3 i) [] = some [t])
def liL (L : tL) (l a p q e : Nat) : tL := fun r i => if i = l then (if r = 1 then a else if r = 2 then p else if r = 3 then q else if r = 4 then e else L r i) else L r i
theorem liL_c {L : tL} {l a p q e r i : Nat} (h : 5 ≤ r) : liL L l a p q e r i = L r i := by
  unfold liL
  by_cases z : i = l
  · rw [if_pos z, if_neg (by omega), if_neg (by omega), if_neg (by omega), if_neg (by omega)]
  · rw [if_neg z]
theorem liL_o {L : tL} {l a p q e r i : Nat} (h : i ≠ l) : liL L l a p q e r i = L r i := by
  unfold liL
  rw [if_neg h]
theorem liL_l {L : tL} {l a p q e : Nat} : liL L l a p q e 1 l = a ∧ liL L l a p q e 2 l = p ∧ liL L l a p q e 3 l = q ∧ liL L l a p q e 4 l = e := by
  unfold liL
  simp
theorem Em_li {n l a p q e : Nat} {L : tL} {X R : pS} (h : Em n L X R) : Em n (liL L l a p q e) X R := by
  refine ⟨h.1, h.2.1, fun i hi => ?_⟩
  rw [liL_c (by omega), liL_c (by omega)]
  exact h.2.2 i hi
theorem LnW_gr {l n n' : Nat} {L L' : tL} (h : LnW l n L) (hg : Gr n L L') (hn : n ≤ n') : LnW l n' L' := by
  intro i hi
  obtain ⟨a1, a2, a3, a4, a5, a6⟩ := h i hi
  rw [hg.2 1 i (by omega) (by omega), hg.2 2 i (by omega) (by omega), hg.2 3 i (by omega) (by omega), hg.2 4 i (by omega) (by omega)]
  refine ⟨a1, a2, a3, by omega, ?_, ?_⟩
  · rw [ok_ext (L := L) (fun j h1 h3 => ⟨hg.1 5 j (by omega), hg.1 6 j (by omega)⟩)]; exact a5
  · rw [ok_ext (L := L) (fun j h1 h3 => ⟨hg.1 5 j (by omega), hg.1 6 j (by omega)⟩)]; exact a6
theorem LnW_li {l n a p q : Nat} {L : tL} (h : LnW l n L) (ha : a < 3) (h1 : p ≤ q) (h2 : q ≤ n) (h3 : ∃ t, okRun L p (q - p) [] = some [t]) (h4 : q < n → ∃ t, okRun L q (n - q) [] = some [t]) : LnW (l + 1) n (liL L l a p q n) := by
  intro i hi
  have ex : ∀ k m ty, okRun (liL L l a p q n) k m ty = okRun L k m ty := fun k m ty => ok_ext (fun j _ _ => ⟨liL_c (by omega), liL_c (by omega)⟩)
  by_cases z : i = l
  · subst z
    rw [liL_l.1, liL_l.2.1, liL_l.2.2.1, liL_l.2.2.2, ex, ex]
    exact ⟨ha, h1, h2, Nat.le_refl n, h3, h4⟩
  · rw [liL_o z, liL_o z, liL_o z, liL_o z, ex, ex]
    exact h i (by omega)
def JL (b : Nat → Nat) (len M : Nat) (X0 R0 : pS) (l k : Nat) (X R : pS) : Prop := Cx b len M k X ∧ Cr b len k R ∧ X.1 50 3 = nI l ∧ l ≤ 16 ∧ NF X R ∧ ∃ n L, Em n L X R ∧ n ≤ k ∧ R.1 0 27 = nI 0 ∧ R.1 0 25 = 0 ∧ LnX l L X ∧ LnR l L R ∧ LnW l n L ∧ Off FTx WTx X0 X ∧ Sm R0 R
theorem law_line {b : Nat → Nat} {len M l k d : Nat} {X0 R0 X R : pS} (hM : tkn b len M = 0) (hd : 116 ≤ d) (h : JL b len M X0 R0 l k X R) (h0 : tkn b len k ≠ 0) : (∃ X' R', Re_lawLine_50 (d + 1 + 1 + 1) X = some (0, X') ∧ R_readLaw_c2 (nI l) R = some (-1, R') ∧ FailP X0 R0 X' R') ∨ (∃ k' X' R', k < k' ∧ l < 16 ∧ Re_lawLine_50 (d + 1 + 1 + 1) X = some (1, X') ∧ X'.1 50 3 = nI l ∧ R_readLaw_c2 (nI l) R = R_readLaw_c2 (nI (l + 1)) R' ∧ JL b len M X0 R0 (l + 1) k' (wF X' 50 3 (nI (l + 1))) R') := by
  obtain ⟨hx, hr, h3, hl, nf, n, L, he, hc, h27, h25, lx, lr, lw, ox, sm⟩ := h
  have hlt := knd_lt hr.2.2.2
  have hkM := hx.1
  have hM4 := hx.2.1
  have e7 : rF X 50 7 = nI (tkn b len k) := hx.2.2.2.1
  have lwd := isLW hr
  have k0 := knd_0 hr.2.2.2
  rcases opn (lo := 300) (hi := 302) hM hx hlt h3 hl (by omega) (by omega) (by omega) with ⟨q, x1⟩ | ⟨q1, q2, q3, x1⟩ | ⟨q1, q2, q3, X1, x1, x2, x3⟩
  · have x1 : Re_opens_50 (300 : Int32) (302 : Int32) X = _ := x1
    refine Or.inl ⟨_, _, ?_, ?_, FailP_of 1 hx hr ox sm⟩
    · rw [Re_lawLine_50_eq (d + 1 + 1) (by omega), x1, ob, if_pos (show (0 : Int32) = 0 from rfl)]
    · rw [R_readLaw_c2_eq, lwd, ob, decide_eq_false q, if_pos (show b2i false = 0 from rfl)]
      simp only []
      rw [if_neg (show ¬ rF R 0 15 = 0 from fun z => h0 (k0.mp z)), ers hr, ob]
  · have x1 : Re_opens_50 (300 : Int32) (302 : Int32) X = _ := x1
    refine Or.inl ⟨_, _, ?_, ?_, FailP_of 3 hx hr ox sm⟩
    · rw [Re_lawLine_50_eq (d + 1 + 1) (by omega), x1, ob, if_pos (show (0 : Int32) = 0 from rfl)]
    · rw [R_readLaw_c2_eq, lwd, ob, decide_eq_true ⟨q1, q2⟩, if_neg (show ¬ b2i true = 0 by decide), q3, if_pos (show nI 16 = (16 : Int32) from rfl), ers hr, ob]
  · have x1 : Re_opens_50 (300 : Int32) (302 : Int32) X = some (1, X1) := x1
    obtain ⟨a, ha⟩ : ∃ a, tkn b len k = 300 + a := ⟨tkn b len k - 300, by omega⟩
    have e7a : rF X 50 7 - (300 : Int32) = nI a := by rw [e7, show (300 : Int32) = nI 300 from rfl, nI_subE (by omega), show tkn b len k - 300 = a from by omega]
    have v16 : rF R 0 16 = nI a := ((knd_w hr.2.2.2 (w := a) (by omega)).mpr ha).2
    have i32 : (32 : Int32) + nI l = nI (32 + l) := nI_add 32 l
    have inl : inb (nI (32 + l)) 48 = true := inb_n (by omega) (by omega)
    have oa : Off [] [11] R (wA R 11 (nI (32 + l)) (nI a)) := Off.rf.wA (by decide)
    obtain ⟨Rb, r1, r2, r3⟩ := rds (Cr_off hr oa (by decide) (by decide) (by decide))
    have e26 : rF Rb 0 26 = nI n := by
      show Rb.1 0 26 = _
      rw [r3.1 _ _ (by decide), oa.1 _ _ (by decide)]; exact he.2.1
    have oc : Off [] [12] Rb (wA Rb 12 (nI (32 + l)) (nI n)) := Off.rf.wA (by decide)
    have orc : Off [(0, 13), (0, 14), (0, 15), (0, 16)] [11, 12] R (wA Rb 12 (nI (32 + l)) (nI n)) := ((oa.mono (by decide) (by decide)).tr (r3.mono (by decide) (by decide))).tr (oc.mono (by decide) (by decide))
    have smc : Sm R (wA Rb 12 (nI (32 + l)) (nI n)) := ((Sm_w (Or.inl ⟨by omega, by omega⟩) (by omega)).tr (Sm.of r3 (by decide) (by decide))).tr (Sm_w (Or.inl ⟨by omega, by omega⟩) (by omega))
    have c11 : (wA Rb 12 (nI (32 + l)) (nI n)).2.1 11 = upd (R.2.1 11) (32 + l) (nI a) := by
      rw [oc.2.1 _ (by decide), r3.2.1 _ (by decide), wA_21 (by omega), sA_eq]
    have c12 : (wA Rb 12 (nI (32 + l)) (nI n)).2.1 12 = upd (R.2.1 12) (32 + l) (nI n) := by
      rw [wA_21 (by omega), sA_eq, r3.2.1 _ (by decide), oa.2.1 _ (by decide)]
    have e51 : rF X 51 7 = nI n := he.1
    have cR : R_readLaw_c2 (nI l) R = (R_readSum (wA Rb 12 (nI (32 + l)) (nI n))).bind (fun q5 => if q5.1 = (-1 : Int32) then (some ((-1 : Int32), q5.2)) else ((R_isWord (3 : Int32) (wA q5.2 13 (nI (32 + l)) (rF q5.2 0 26))).bind (fun q6 => if q6.1 = 0 then (R_readLaw_c92 (nI l) (nI (32 + l)) q6.2) else ((R_reads q6.2).bind (fun q7 => (R_readAny q7.2).bind (fun q8 => if q8.1 = (-1 : Int32) then (some ((-1 : Int32), q8.2)) else (R_readLaw_c92 (nI l) (nI (32 + l)) q8.2))))))) := by
      rw [R_readLaw_c2_eq, lwd, ob, decide_eq_true ⟨q1, q2⟩, if_neg (show ¬ b2i true = 0 by decide), if_neg (show ¬ nI l = (16 : Int32) by rw [show (16 : Int32) = nI 16 from rfl, nI_eqE (by omega) (by omega)]; omega), i32, if_pos inl]
      simp only []
      rw [v16, r1, ob, if_pos inl]
      simp only []
      rw [e26]
      refine bind_cong (fun q => ?_)
      rw [if_pos inl]
    have cX : Re_lawLine_50 (d + 1 + 1 + 1) X = (Re_sum_50 X1).bind (fun q2 => if q2.1 = 0 then (some ((0 : Int32), q2.2)) else (if (rF q2.2 50 7) = (303 : Int32) then ((Re_advance_50 q2.2).bind (fun q3 => (Re_either_50 (d + 1 + 1) (0 : Int32) q3.2).bind (fun q4 => if q4.1 = 0 then (some ((0 : Int32), q4.2)) else (Re_lawLine_50_c71 (d + 1 + 1 + 1) (nI a) (nI n) (rF q2.2 51 7) q4.2)))) else (Re_lawLine_50_c71 (d + 1 + 1 + 1) (nI a) (nI n) (rF q2.2 51 7) q2.2))) := by
      rw [Re_lawLine_50_eq (d + 1 + 1) (by omega), x1, ob, if_neg (show ¬ (1 : Int32) = 0 by decide), e7a, e51]
    rcases sum_s (c := 0) (ty := []) hM (by decide) x2 (Cr_off r2 oc (by decide) (by decide) (by decide)) (Em_off he x3 orc (by decide) (by decide) (by decide) (by decide) (by decide)) (by omega) with ⟨k2, n2, L2, X2, R2, t, a1, a2, a3, a4, a5, a6, a7, a8, a9, a10, a11, a12, a13, a14⟩ | ⟨X', R', f1, f2, f3, f4, f5, f6⟩
    · have od : Off [] [13] R2 (wA R2 13 (nI (32 + l)) (nI n2)) := Off.rf.wA (by decide)
      have e26b : rF R2 0 26 = nI n2 := a5.2.1
      have e51b : rF X2 51 7 = nI n2 := a5.1
      have h27b : (wA R2 13 (nI (32 + l)) (nI n2)).1 0 27 = nI 0 := by
        rw [od.1 _ _ (by decide), a13.1 _ _ (by decide), orc.1 _ _ (by decide)]; exact h27
      rcases when_s (d := d) hM hd a3 (Cr_off a4 od (by decide) (by decide) (by decide)) (Em_off a5 Off.rf od (F := []) (W := []) (by decide) (by decide) (by decide) (by decide) (by decide)) h27b (by omega) (fun S => Re_lawLine_50_c71 (d + 1 + 1 + 1) (nI a) (nI n) (nI n2) S) (fun S => R_readLaw_c92 (nI l) (nI (32 + l)) S) (Re_lawLine_50 (d + 1 + 1 + 1) X) (R_readLaw_c2 (nI l) R) (by rw [cX, a1, ob, if_neg (show ¬ (1 : Int32) = 0 by decide), e51b]) (by rw [cR, a2, ob, if_neg (show ¬ (0 : Int32) = -1 by decide), e26b]) with ⟨k3, n3, L3, X3, R3, g1, g2, g3, g4, g5, g6, g7, g8, g9, g10, g11, g12, g13, g14⟩ | ⟨X', R', f1, f2, f3, f4, f5, f6⟩
      · have hk3 := g3.1
        have oX3 : Off FTx WTx X X3 := ((x3.mono (by decide) (by decide)).tr (a12.mono (by decide) (by decide))).tr (g12.mono (by decide) (by decide))
        have u53 : ∀ o, o ∉ WU → X3.2.1 o = X.2.1 o := fun o ho => by rw [g12.2.1 _ ho, a12.2.1 _ ho, x3.2.1 _ (by simp)]
        have u8 : X3.1 51 8 = nI l := by rw [g12.1 _ _ (by decide), a12.1 _ _ (by decide), x3.1 _ _ (by decide)]; exact lx.1
        have u3 : X3.1 50 3 = nI l := by rw [g12.1 _ _ (by decide), a12.1 _ _ (by decide), x3.1 _ _ (by decide)]; exact h3
        have sm3 : Sm R R3 := ((smc.tr a14).tr (Sm_w (Or.inl ⟨by omega, by omega⟩) (by omega))).tr g14
        obtain ⟨X4, hX4⟩ : ∃ X4, X4 = wF (wA (wA (wA (wA X3 53 (nI l) (nI a)) 54 (nI l) (nI n)) 55 (nI l) (nI n2)) 56 (nI l) (nI n3)) 51 8 (nI (l + 1)) := ⟨_, rfl⟩
        have add : La_addLine_51 (nI a) (nI n) (nI n2) X3 = some (0, X4) := by
          rw [La_addLine_51_eq, show rF X3 51 8 = nI l from u8, if_pos (show nI l < (16 : Int32) from nlt_t (n := 16) (by omega) (by omega)), if_pos (inb_n (by omega) (by omega)), if_pos (inb_n (by omega) (by omega)), if_pos (inb_n (by omega) (by omega)), if_pos (inb_n (by omega) (by omega)), show rF X3 51 7 = nI n3 from g5.1, show nI l + (1 : Int32) = nI (l + 1) from nI_1 l, hX4]
        have o4 : Off [(51, 8)] [53, 54, 55, 56] X3 X4 := by
          rw [hX4]
          exact ((((Off.rf.wA (by decide)).wA (by decide)).wA (by decide)).wA (by decide)).wF (by decide)
        have hx4 : Cx b len M k3 X4 := Cx_off g3 o4 (by decide) (by decide) (by decide) (by decide)
        have oe : Off [] [14] R3 (wA R3 14 (nI (32 + l)) (nI n3)) := Off.rf.wA (by decide)
        have hr4 : Cr b len k3 (wA R3 14 (nI (32 + l)) (nI n3)) := Cr_off g4 oe (by decide) (by decide) (by decide)
        have sme : Sm R (wA R3 14 (nI (32 + l)) (nI n3)) := sm3.tr (Sm_w (Or.inl ⟨by omega, by omega⟩) (by omega))
        have s59 : R_isSign (59 : Int32) (wA R3 14 (nI (32 + l)) (nI n3)) = some (b2i (decide (tkn b len k3 = 59)), wA R3 14 (nI (32 + l)) (nI n3)) := isSg hr4 (c := 59) rfl
        have gX : Re_lawLine_50 (d + 1 + 1 + 1) X = (Re_passes_50 (59 : Int32) X4).bind (fun q6 => if pBool 1 q6.1 = true then some (q6.1, q6.2) else none) := by
          rw [g1, Re_lawLine_50_c71_eq (d + 1 + 1) (by omega), add, ob]
        have gR : R_readLaw_c2 (nI l) R = (R_isSign (59 : Int32) (wA R3 14 (nI (32 + l)) (nI n3))).bind (fun q9 => if q9.1 = 0 then ((R_errs (1 : Int32) q9.2).bind (fun q10 => some (q10.1, q10.2))) else ((R_reads q9.2).bind (fun q11 => R_readLaw_c2 (nI l + (1 : Int32)) q11.2))) := by
          rw [g2, R_readLaw_c92_eq, if_pos inl, show rF R3 0 26 = nI n3 from g5.2.1]
        rcases pas hM hx4 (knd_lt g4.2.2.2) (c := 59) (by omega) (by omega) with ⟨q, X5, y1, y2, y3⟩ | ⟨q, y1⟩
        · have y1 : Re_passes_50 (59 : Int32) X4 = some (1, X5) := y1
          obtain ⟨R5, z1, z2, z3⟩ := rds hr4
          have o45 : Off [(50, 6), (50, 7), (50, 3)] [] X4 (wF X5 50 3 (nI (l + 1))) := (y3.mono (by decide) (by decide)).wF (by decide)
          have v53 : ∀ o, (wF X5 50 3 (nI (l + 1))).2.1 o = X4.2.1 o := fun o => o45.2.1 o (by simp)
          have e53 : X4.2.1 53 = upd (X.2.1 53) l (nI a) := by rw [hX4, wF_2, wA_21 (by omega), sA_ne (by decide), wA_21 (by omega), sA_ne (by decide), wA_21 (by omega), sA_ne (by decide), wA_21 (by omega), sA_eq, u53 53 (by decide)]
          have e54 : X4.2.1 54 = upd (X.2.1 54) l (nI n) := by rw [hX4, wF_2, wA_21 (by omega), sA_ne (by decide), wA_21 (by omega), sA_ne (by decide), wA_21 (by omega), sA_eq, wA_21 (by omega), sA_ne (by decide), u53 54 (by decide)]
          have e55 : X4.2.1 55 = upd (X.2.1 55) l (nI n2) := by rw [hX4, wF_2, wA_21 (by omega), sA_ne (by decide), wA_21 (by omega), sA_eq, wA_21 (by omega), sA_ne (by decide), wA_21 (by omega), sA_ne (by decide), u53 55 (by decide)]
          have e56 : X4.2.1 56 = upd (X.2.1 56) l (nI n3) := by rw [hX4, wF_2, wA_21 (by omega), sA_eq, wA_21 (by omega), sA_ne (by decide), wA_21 (by omega), sA_ne (by decide), wA_21 (by omega), sA_ne (by decide), u53 56 (by decide)]
          have e11 : R5.2.1 11 = upd (R.2.1 11) (32 + l) (nI a) := by rw [z3.2.1 _ (by decide), oe.2.1 _ (by decide), g13.2.1 _ (by decide), od.2.1 _ (by decide), a13.2.1 _ (by decide), c11]
          have e12 : R5.2.1 12 = upd (R.2.1 12) (32 + l) (nI n) := by rw [z3.2.1 _ (by decide), oe.2.1 _ (by decide), g13.2.1 _ (by decide), od.2.1 _ (by decide), a13.2.1 _ (by decide), c12]
          have e13 : R5.2.1 13 = upd (R.2.1 13) (32 + l) (nI n2) := by rw [z3.2.1 _ (by decide), oe.2.1 _ (by decide), g13.2.1 _ (by decide), wA_21 (by omega), sA_eq, a13.2.1 _ (by decide), orc.2.1 _ (by decide)]
          have e14 : R5.2.1 14 = upd (R.2.1 14) (32 + l) (nI n3) := by rw [z3.2.1 _ (by decide), wA_21 (by omega), sA_eq, g13.2.1 _ (by decide), od.2.1 _ (by decide), a13.2.1 _ (by decide), orc.2.1 _ (by decide)]
          have gr : Gr n L L3 := a11.tr g11 a7
          have lw3 : LnW (l + 1) n3 (liL L3 l a n n2 n3) := LnW_li (LnW_gr lw gr (by omega)) (by omega) a7 g7 ⟨t, by rw [ok_ext (L := L2) (fun j h1 h3 => ⟨g11.1 5 j (by omega), g11.1 6 j (by omega)⟩)]; exact a9⟩ g10
          have o35 : Off [(51, 8), (50, 6), (50, 7), (50, 3)] [53, 54, 55, 56] X3 (wF X5 50 3 (nI (l + 1))) := (o4.mono (by decide) (by decide)).tr (o45.mono (by decide) (by decide))
          have p35 : Off [(0, 13), (0, 14), (0, 15), (0, 16)] [14] R3 R5 := (oe.mono (by decide) (by decide)).tr (z3.mono (by decide) (by decide))
          have o5 : Off [(50, 3)] [] X5 (wF X5 50 3 (nI (l + 1))) := Off.rf.wF (by decide)
          have j1 : Cx b len M (k3 + 1) (wF X5 50 3 (nI (l + 1))) := Cx_off y2 o5 (by decide) (by decide) (by decide) (by decide)
          have j2 : Em n3 (liL L3 l a n n2 n3) (wF X5 50 3 (nI (l + 1))) R5 := Em_li (Em_off g5 o35 p35 (by decide) (by decide) (by decide) (by decide) (by decide))
          have j3 : LnX (l + 1) (liL L3 l a n n2 n3) (wF X5 50 3 (nI (l + 1))) := by
            refine ⟨by rw [o45.1 _ _ (by decide), hX4, wF_1, sA_eq, upd_eq], fun i hi => ?_⟩
            rw [v53, v53, v53, v53, e53, e54, e55, e56]
            by_cases z : i = l
            · subst z
              rw [upd_eq, upd_eq, upd_eq, upd_eq, liL_l.1, liL_l.2.1, liL_l.2.2.1, liL_l.2.2.2]
              exact ⟨rfl, rfl, rfl, rfl⟩
            · rw [upd_ne z, upd_ne z, upd_ne z, upd_ne z, liL_o z, liL_o z, liL_o z, liL_o z, gr.2 1 i (by omega) (by omega), gr.2 2 i (by omega) (by omega), gr.2 3 i (by omega) (by omega), gr.2 4 i (by omega) (by omega)]
              exact lx.2 i (by omega)
          have j4 : LnR (l + 1) (liL L3 l a n n2 n3) R5 := by
            intro i hi
            rw [e11, e12, e13, e14]
            by_cases z : i = l
            · subst z
              rw [upd_eq, upd_eq, upd_eq, upd_eq, liL_l.1, liL_l.2.1, liL_l.2.2.1, liL_l.2.2.2]
              exact ⟨rfl, rfl, rfl, rfl⟩
            · rw [upd_ne (by omega), upd_ne (by omega), upd_ne (by omega), upd_ne (by omega), liL_o z, liL_o z, liL_o z, liL_o z, gr.2 1 i (by omega) (by omega), gr.2 2 i (by omega) (by omega), gr.2 3 i (by omega) (by omega), gr.2 4 i (by omega) (by omega)]
              exact lr i (by omega)
          refine Or.inr ⟨k3 + 1, X5, R5, by omega, q3, ?_, ?_, ?_, j1, z2, ?_, by omega, (NF_off (NF_off (NF_off (NF_off (NF_off nf x3 orc (by decide) (by decide) (by decide) (by decide)) a12 a13 (by decide) (by decide) (by decide) (by decide)) (Off.rf (F := []) (W := [])) od (by decide) (by decide) (by decide) (by decide)) g12 g13 (by decide) (by decide) (by decide) (by decide)) o35 p35 (by decide) (by decide) (by decide) (by decide)), n3, _, j2, by omega, ?_, ?_, j3, j4, lw3, (ox.tr oX3).tr (o35.mono (by decide) (by decide)), (sm.tr sme).tr (Sm.of z3 (by decide) (by decide))⟩
          · rw [gX, y1, ob, if_pos (show pBool 1 1 = true from rfl)]
          · rw [y3.1 _ _ (by decide), o4.1 _ _ (by decide)]; exact u3
          · rw [gR, s59, ob, decide_eq_true q, if_neg (show ¬ b2i true = 0 by decide)]
            simp only []
            rw [z1, ob, show nI l + (1 : Int32) = nI (l + 1) from nI_1 l]
          · rw [wF_1, sA_eq, upd_eq]
          · rw [p35.1 _ _ (by decide)]; exact g9
          · rw [p35.1 _ _ (by decide), g13.1 _ _ (by decide), od.1 _ _ (by decide), a13.1 _ _ (by decide), orc.1 _ _ (by decide)]; exact h25
        · have y1 : Re_passes_50 (59 : Int32) X4 = some (0, wF (wF X4 50 4 1) 50 5 (nI (stt b len k3))) := y1
          refine Or.inl ⟨_, _, ?_, ?_, FailP_of 1 hx4 hr4 ((ox.tr oX3).tr (o4.mono (by decide) (by decide))) (sm.tr sme)⟩
          · rw [gX, y1, ob, if_pos (show pBool 1 0 = true from rfl)]
          · rw [gR, s59, ob, decide_eq_false q, if_pos (show b2i false = 0 from rfl), ers hr4, ob]
      · exact Or.inl ⟨X', R', f1, f2, f3, ((ox.tr (x3.mono (by decide) (by decide))).tr (a12.mono (by decide) (by decide))).tr (f4.mono (by decide) (by decide)), (((sm.tr smc).tr a14).tr (Sm_w (Or.inl ⟨by omega, by omega⟩) (by omega))).tr f6⟩
    · exact Or.inl ⟨X', R', by rw [cX, f1, ob, if_pos (show (0 : Int32) = 0 from rfl)], by rw [cR, f2, ob, if_pos rfl], f3, (ox.tr (x3.mono (by decide) (by decide))).tr (f4.mono (by decide) (by decide)), (sm.tr smc).tr f6⟩
