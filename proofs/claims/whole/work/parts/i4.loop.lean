/-! Reading a law: the loop of either. -/
theorem fln_le (a : Bool) : fln a ≤ 1 := by cases a <;> decide
theorem flg_len (a : Bool) (c : Nat) : (flg a c).length = fln a := by cases a <;> rfl
theorem b2i_or0 (o : Bool) : b2i o ||| (0 : Int32) = b2i o := by cases o <;> rfl
theorem b2i_or1 (o : Bool) : b2i o ||| (1 : Int32) = b2i true := by cases o <;> rfl
theorem fo_len {o : Bool} {W : List Nat} : (flg o 11 ++ W).length = fln o + W.length := by rw [List.length_append, flg_len]
theorem hd_o {o : Bool} {W : List Nat} (hh : ∀ w, W.head? = some w → w ≠ 9 ∧ w ≠ 10 ∧ w ≠ 11 ∧ w < 100) : ∀ w, (flg o 11 ++ W).head? = some w → w ≠ 10 ∧ w < 100 := by
  cases o
  · intro w h
    exact ⟨(hh w h).2.1, (hh w h).2.2.2⟩
  · intro w h
    have : 11 = w := Option.some.inj h
    omega
theorem hd_w {W : List Nat} (hh : ∀ w, W.head? = some w → w ≠ 9 ∧ w ≠ 10 ∧ w ≠ 11 ∧ w < 100) : ∀ w, W.head? = some w → w ≠ 11 ∧ w < 100 := fun w h => ⟨(hh w h).2.2.1, (hh w h).2.2.2⟩
theorem stE_a {a o : Bool} {ty : List Nat} : some (stE a o ty) = some (if a then 1 :: 1 :: (flg o 1 ++ ty) else 1 :: (flg o 1 ++ ty)) := by cases a <;> rfl
theorem stE_o {o : Bool} {ty : List Nat} : some (1 :: (flg o 1 ++ ty)) = some (if o then 1 :: 1 :: ty else 1 :: ty) := by cases o <;> rfl
theorem ok_jn {L L' : tL} {n0 n n' : Nat} {ty t1 t2 : List Nat} (h0 : n0 ≤ n) (h1 : n ≤ n') (hg : Gr n L L') (r1 : okRun L n0 (n - n0) ty = some t1) (r2 : okRun L' n (n' - n) t1 = some t2) : okRun L' n0 (n' - n0) ty = some t2 := by
  have r1' : okRun L' n0 (n - n0) ty = some t1 := by
    rw [ok_ext (L := L) (fun i h1 h3 => ⟨hg.1 5 i (by omega), hg.1 6 i (by omega)⟩)]
    exact r1
  rw [show n' - n0 = (n - n0) + (n' - n) from by omega, ok_app r1', show n0 + (n - n0) = n from by omega]
  exact r2
theorem c123_of {D : Nat} {o : Bool} {Y Z : pS} (hD : 100 ≤ D) (h : FAdd o 11 Y Z) : Re_either_50_c123 (D + 1) (b2i o) Y = some (1, Z) := by
  rw [Re_either_50_c123_eq D hD]
  cases o
  · have h : Z = Y := h
    rw [if_pos (show b2i false = 0 from rfl), h]
  · have h : La_add_51 (304 : Int32) Y = some (0, Z) := h
    rw [if_neg (show ¬ b2i true = 0 by decide), h, ob]
theorem c41_of {D : Nat} {l1 l3 : Int32} {o : Bool} {Y Z : pS} (hD : 100 ≤ D) (e7 : rF Y 50 7 = (304 : Int32)) (h : FAdd o 11 Y Z) : Re_either_50_c41 (D + 1) l1 (b2i o) l3 Y = Re_either_50_c69 (D + 1) l1 (b2i o) l3 (304 : Int32) Z := by
  rw [Re_either_50_c41_eq D hD, e7, if_pos (show (304 : Int32) = 304 from rfl)]
  cases o
  · have h : Z = Y := h
    rw [if_pos (show b2i false = 0 from rfl), h]
  · have h : La_add_51 (304 : Int32) Y = some (0, Z) := h
    rw [if_neg (show ¬ b2i true = 0 by decide), h, ob]
theorem ei_end {b : Nat → Nat} {len M dp lp n0 c d k n l3 : Nat} {L : tL} {a o : Bool} {W ty : List Nat} {X R : pS} (hdp : dp ≤ 8) (hd : 100 ≤ d) (hW : W.length ≤ 3 * dp) (hh : ∀ w, W.head? = some w → w ≠ 9 ∧ w ≠ 10 ∧ w ≠ 11 ∧ w < 100) (hx : Cx b len M k X) (hr : Cr b len k R) (he : Em n L X R) (h27 : R.1 0 27 = nI dp) (hWt : Wt (flg a 10 ++ (flg o 11 ++ W)) R) (hn0 : n0 ≤ n) (hc : n + c + fln a + fln o ≤ k) (hok : okRun L n0 (n - n0) ty = some (stE a o ty)) (w5 : tkn b len k ≠ 305) (w4 : tkn b len k ≠ 304) : EOut b len M k dp lp n n0 c L W ty X R (LX (d + 1 + 1) dp l3 a o X) (R_readAny_c9 (nI lp) 0 R) := by
  have hM4 := hx.2.1
  have hkM := hx.1
  have ha := fln_le a
  have ho := fln_le o
  have hlt := knd_lt hr.2.2.2
  have fl : (flg o 11 ++ W).length = fln o + W.length := fo_len
  obtain ⟨Y, R1, L1, s1, s2, s3, s4, s5, s6, s7, s8, s9, s10⟩ := set_f (a := a) (c := 10) (Or.inl rfl) hWt (by omega) (hd_o hh) he (by omega)
  obtain ⟨Z, R2, L2, t1, t2, t3, t4, t5, t6, t7, t8, t9, t10⟩ := set_f (a := o) (c := 11) (Or.inr rfl) s3 (by omega) (hd_w hh) s4 (by omega)
  have hy : Cx b len M k Y := Cx_off hx s8 (by decide) (by decide) (by decide) (by decide)
  have e7 : rF Y 50 7 = nI (tkn b len k) := hy.2.2.2.1
  have d5 : R_isWord (5 : Int32) R = some (b2i (decide (tkn b len k = 305)), R) := isWd hr (w := 5) (by decide)
  have d4 : R_isWord (4 : Int32) R = some (b2i (decide (tkn b len k = 304)), R) := isWd hr (w := 4) (by decide)
  have s2 : R_settles (10 : Int32) R = some (0, R1) := s2
  have t2 : R_settles (11 : Int32) R1 = some (0, R2) := t2
  have cX : LX (d + 1 + 1) dp l3 a o X = some (1, Z) := by
    rw [LX_of s1, Re_either_50_c14_eq (d + 1) (by omega), e7, if_neg (show ¬ nI (tkn b len k) = (305 : Int32) by rw [show (305 : Int32) = nI 305 from rfl, nI_eqE (by omega) (by omega)]; exact w5), if_neg (show ¬ nI (tkn b len k) = (304 : Int32) by rw [show (304 : Int32) = nI 304 from rfl, nI_eqE (by omega) (by omega)]; exact w4), c123_of (by omega) t1]
    split <;> rfl
  have cR : R_readAny_c9 (nI lp) 0 R = FINr (nI lp) R2 := by
    rw [R_readAny_c9_eq, if_pos (show (0 : Int32) = 0 from rfl), d5, ob, decide_eq_false w5, if_pos (show b2i false = 0 from rfl)]
    simp only []
    rw [d4, ob, decide_eq_false w4, if_pos (show b2i false = 0 from rfl)]
    simp only []
    rw [s2, ob]
    simp only []
    rw [t2, ob]
    rfl
  have k1 := s7 n0 ty _ hn0 (hok.trans stE_a)
  have k2 := t7 n0 ty _ (by omega) (k1.trans stE_o)
  exact Or.inl ⟨k, n + fln a + fln o, L2, Z, R2, cX, cR, Cx_off hy t8 (by decide) (by decide) (by decide) (by decide), Cr_off (Cr_off hr s9 (by decide) (by decide) (by decide)) t9 (by decide) (by decide) (by decide), t4, Nat.le_refl k, by omega, by omega, by rw [t5, s5, h27], t3, k2, s6.tr t6 (by omega), (s8.mono (by decide) (by decide)).tr (t8.mono (by decide) (by decide)), (s9.mono (by decide) (by decide)).tr (t9.mono (by decide) (by decide)), s10.tr t10⟩
theorem ei_loop {b : Nat → Nat} {len M f dp lp n0 c d : Nat} {W ty : List Nat} (hM : tkn b len M = 0) (hC : CondP b len M f) (hdp : dp ≤ 8) (hlp : lp ≤ dp) (hd : 100 + 2 * (8 - dp) ≤ d) (hW : W.length ≤ 3 * dp) (hh : ∀ w, W.head? = some w → w ≠ 9 ∧ w ≠ 10 ∧ w ≠ 11 ∧ w < 100) (hty : ty.length ≤ 2 * dp) : ∀ (m k n l3 : Nat) (L : tL) (a o : Bool) (X R : pS), M - k ≤ m → M - k < f → l3 ≤ k → Cx b len M k X → Cr b len k R → Em n L X R → R.1 0 27 = nI dp → Wt (flg a 10 ++ (flg o 11 ++ W)) R → n0 ≤ n → n + c + fln a + fln o ≤ k → okRun L n0 (n - n0) ty = some (stE a o ty) → EOut b len M k dp lp n n0 c L W ty X R (LX (d + 1 + 1) dp l3 a o X) (R_readAny_c9 (nI lp) 0 R) := by
  intro m
  induction m with
  | zero =>
    intro k n l3 L a o X R hm hf hl hx hr he h27 hWt hn0 hc hok
    have hkM := hx.1
    have e0 : tkn b len k = 0 := by rw [show k = M by omega]; exact hM
    exact ei_end hdp (by omega) hW hh hx hr he h27 hWt hn0 hc hok (by omega) (by omega)
  | succ m ih =>
    intro k n l3 L a o X R hm hf hl hx hr he h27 hWt hn0 hc hok
    have hM4 := hx.2.1
    have hkM := hx.1
    have ha := fln_le a
    have ho := fln_le o
    have fl : (flg o 11 ++ W).length = fln o + W.length := fo_len
    have ft : (flg o 1 ++ ty).length = fln o + ty.length := by rw [List.length_append, flg_len]
    by_cases w5 : tkn b len k = 305
    · have hkl : k < M := k_lt hM hx (by omega)
      obtain ⟨Y, R1, L1, s1, s2, s3, s4, s5, s6, s7, s8, s9, s10⟩ := set_f (a := a) (c := 10) (Or.inl rfl) hWt (by omega) (hd_o hh) he (by omega)
      obtain ⟨R2, u1, u2, u3, u4⟩ := wai 10 s3 (by omega)
      have hr2 : Cr b len k R2 := Cr_off (Cr_off hr s9 (by decide) (by decide) (by decide)) u3 (by decide) (by decide) (by decide)
      obtain ⟨R3, r1, r2, r3⟩ := rds hr2
      have hy : Cx b len M k Y := Cx_off hx s8 (by decide) (by decide) (by decide) (by decide)
      obtain ⟨X2, x1, x2, x3⟩ := adv hy hkl
      have e7 : rF Y 50 7 = (305 : Int32) := by rw [show rF Y 50 7 = nI (tkn b len k) from hy.2.2.2.1, w5]; rfl
      have o13 : Off [(0, 29), (0, 13), (0, 14), (0, 15), (0, 16)] [17] R1 R3 := (u3.mono (by decide) (by decide)).tr (r3.mono (by decide) (by decide))
      have em3 : Em (n + fln a) L1 X2 R3 := Em_off s4 x3 o13 (by decide) (by decide) (by decide) (by decide) (by decide)
      have wt3 : Wt (10 :: (flg o 11 ++ W)) R3 := Wt_off u2 r3 (by decide) (by decide)
      have h27' : R3.1 0 27 = nI dp := by rw [o13.1 _ _ (by decide), s5, h27]
      have ox : Off FSu WU X X2 := (s8.mono (by decide) (by decide)).tr (x3.mono (by decide) (by decide))
      have orr : Off GC VC R R3 := (s9.mono (by decide) (by decide)).tr (o13.mono (by decide) (by decide))
      have sm : Sm R R3 := s10.tr (u4.tr (Sm.of r3 (by decide) (by decide)))
      have d5 : R_isWord (5 : Int32) R = some (b2i (decide (tkn b len k = 305)), R) := isWd hr (w := 5) (by decide)
      have s2 : R_settles (10 : Int32) R = some (0, R1) := s2
      have u1 : R_waits (10 : Int32) R1 = some (0, R2) := u1
      have cX : LX (d + 1 + 1) dp l3 a o X = (Re_condition_50 (d + 1) (nI dp) X2).bind (fun q5 => if q5.1 = 0 then some ((0 : Int32), q5.2) else (La_add_51 (305 : Int32) q5.2).bind (fun q6 => Re_either_50_c14 (d + 1 + 1) (nI dp) (b2i o) (nI (l3 + 1)) q6.2)) := by
        rw [LX_of s1, Re_either_50_c14_eq (d + 1) (by omega), if_pos (show nI l3 < (400 : Int32) from nlt_t (n := 400) (by omega) (by omega)), e7, if_pos (show (305 : Int32) = 305 from rfl), Re_either_50_c41_eq (d + 1) (by omega), e7, if_neg (show ¬ (305 : Int32) = 304 by decide), Re_either_50_c69_eq (d + 1) (by omega), if_neg (show ¬ (305 : Int32) = 304 by decide), Re_either_50_c83_eq (d + 1) (by omega), x1, ob]
        refine bind_cong (fun q => ?_)
        rw [if_pos (show (305 : Int32) = 305 from rfl), b2i_or0, show nI l3 + (1 : Int32) = nI (l3 + 1) from nI_1 l3]
      have cR : R_readAny_c9 (nI lp) 0 R = R_readAny_c9 (nI lp) 1 R3 := by
        rw [R_readAny_c9_eq, if_pos (show (0 : Int32) = 0 from rfl), d5, ob, decide_eq_true w5, if_neg (show ¬ b2i true = 0 by decide)]
        simp only []
        rw [s2, ob]
        simp only []
        rw [u1, ob]
        simp only []
        rw [r1, ob]
      have k1 := s7 n0 ty _ hn0 (hok.trans stE_a)
      rcases hC (k + 1) dp 0 lp (n + fln a) (c + fln o + 1) d L1 (10 :: (flg o 11 ++ W)) (1 :: (flg o 1 ++ ty)) X2 R3 (by omega) hdp hd x2 r2 em3 h27' (Nat.zero_le _) hlp wt3 (fun w h => by have : 10 = w := Option.some.inj h; omega) (by rw [List.length_cons, fl]; omega) (by rw [List.length_cons, ft]; omega) (by omega) with ⟨k', n', L', X', Y', R', c1, c2, c3, c4, c5, c6, c7, c8, c9, c10, c11, c12, c13, c14, c15, c16, c17⟩ | ⟨X', R', f1, f2, f3, f4, f5, f6⟩
      · have c2 : Y' = X' := c2
        subst c2
        have kk := ih k' n' (l3 + 1) L' true o Y' R' (by omega) (by omega) (by omega) c4 c5 c6 c10 c11 (by omega) (show n' + c + 1 + fln o ≤ k' by omega) (ok_jn (by omega) c8 c13 k1 c12)
        rw [cX, c1, ob, if_neg (show ¬ (1 : Int32) = 0 by decide), cR, c3]
        exact EOut_tr kk (by omega) (by omega) (s6.tr c13 (by omega)) (ox.tr c14) (orr.tr c16) (sm.tr c17)
      · exact Or.inr ⟨X', R', by rw [cX, f1, ob, if_pos (show (0 : Int32) = 0 from rfl)], by rw [cR]; exact f2, f3, (oFU ox).tr f4, orr.tr f5, sm.tr f6⟩
    · by_cases w4 : tkn b len k = 304
      · have hkl : k < M := k_lt hM hx (by omega)
        obtain ⟨Y, R1, L1, s1, s2, s3, s4, s5, s6, s7, s8, s9, s10⟩ := set_f (a := a) (c := 10) (Or.inl rfl) hWt (by omega) (hd_o hh) he (by omega)
        obtain ⟨Z, R2, L2, t1, t2, t3, t4, t5, t6, t7, t8, t9, t10⟩ := set_f (a := o) (c := 11) (Or.inr rfl) s3 (by omega) (hd_w hh) s4 (by omega)
        obtain ⟨R3, u1, u2, u3, u4⟩ := wai 11 t3 (by omega)
        have hr3 : Cr b len k R3 := Cr_off (Cr_off (Cr_off hr s9 (by decide) (by decide) (by decide)) t9 (by decide) (by decide) (by decide)) u3 (by decide) (by decide) (by decide)
        obtain ⟨R4, r1, r2, r3⟩ := rds hr3
        have hy : Cx b len M k Y := Cx_off hx s8 (by decide) (by decide) (by decide) (by decide)
        have hz : Cx b len M k Z := Cx_off hy t8 (by decide) (by decide) (by decide) (by decide)
        obtain ⟨X2, x1, x2, x3⟩ := adv hz hkl
        have e7 : rF Y 50 7 = (304 : Int32) := by rw [show rF Y 50 7 = nI (tkn b len k) from hy.2.2.2.1, w4]; rfl
        have o13 : Off [(0, 29), (0, 13), (0, 14), (0, 15), (0, 16)] [17] R2 R4 := (u3.mono (by decide) (by decide)).tr (r3.mono (by decide) (by decide))
        have em3 : Em (n + fln a + fln o) L2 X2 R4 := Em_off t4 x3 o13 (by decide) (by decide) (by decide) (by decide) (by decide)
        have wt3 : Wt (11 :: W) R4 := Wt_off u2 r3 (by decide) (by decide)
        have h27' : R4.1 0 27 = nI dp := by rw [o13.1 _ _ (by decide), t5, s5, h27]
        have ox : Off FSu WU X X2 := ((s8.mono (by decide) (by decide)).tr (t8.mono (by decide) (by decide))).tr (x3.mono (by decide) (by decide))
        have orr : Off GC VC R R4 := ((s9.mono (by decide) (by decide)).tr (t9.mono (by decide) (by decide))).tr (o13.mono (by decide) (by decide))
        have sm : Sm R R4 := (s10.tr t10).tr (u4.tr (Sm.of r3 (by decide) (by decide)))
        have d5 : R_isWord (5 : Int32) R = some (b2i (decide (tkn b len k = 305)), R) := isWd hr (w := 5) (by decide)
        have d4 : R_isWord (4 : Int32) R = some (b2i (decide (tkn b len k = 304)), R) := isWd hr (w := 4) (by decide)
        have s2 : R_settles (10 : Int32) R = some (0, R1) := s2
        have t2 : R_settles (11 : Int32) R1 = some (0, R2) := t2
        have u1 : R_waits (11 : Int32) R2 = some (0, R3) := u1
        have cX : LX (d + 1 + 1) dp l3 a o X = (Re_condition_50 (d + 1) (nI dp) X2).bind (fun q5 => if q5.1 = 0 then some ((0 : Int32), q5.2) else Re_either_50_c14 (d + 1 + 1) (nI dp) (b2i true) (nI (l3 + 1)) q5.2) := by
          rw [LX_of s1, Re_either_50_c14_eq (d + 1) (by omega), if_pos (show nI l3 < (400 : Int32) from nlt_t (n := 400) (by omega) (by omega)), e7, if_neg (show ¬ (304 : Int32) = 305 by decide), if_pos (show (304 : Int32) = 304 from rfl), c41_of (by omega) e7 t1, Re_either_50_c69_eq (d + 1) (by omega), if_pos (show (304 : Int32) = 304 from rfl), Re_either_50_c83_eq (d + 1) (by omega), x1, ob]
          refine bind_cong (fun q => ?_)
          rw [if_neg (show ¬ (304 : Int32) = 305 by decide), b2i_or1, show nI l3 + (1 : Int32) = nI (l3 + 1) from nI_1 l3]
        have cR : R_readAny_c9 (nI lp) 0 R = R_readAny_c9 (nI lp) 1 R4 := by
          rw [R_readAny_c9_eq, if_pos (show (0 : Int32) = 0 from rfl), d5, ob, decide_eq_false w5, if_pos (show b2i false = 0 from rfl)]
          simp only []
          rw [d4, ob, decide_eq_true w4, if_neg (show ¬ b2i true = 0 by decide)]
          simp only []
          rw [s2, ob]
          simp only []
          rw [t2, ob]
          simp only []
          rw [u1, ob]
          simp only []
          rw [r1, ob]
        have k1 := s7 n0 ty _ hn0 (hok.trans stE_a)
        have k2 := t7 n0 ty _ (by omega) (k1.trans stE_o)
        rcases hC (k + 1) dp 0 lp (n + fln a + fln o) (c + 1) d L2 (11 :: W) (1 :: ty) X2 R4 (by omega) hdp hd x2 r2 em3 h27' (Nat.zero_le _) hlp wt3 (fun w h => by have : 11 = w := Option.some.inj h; omega) (by rw [List.length_cons]; omega) (by rw [List.length_cons]; omega) (by omega) with ⟨k', n', L', X', Y', R', c1, c2, c3, c4, c5, c6, c7, c8, c9, c10, c11, c12, c13, c14, c15, c16, c17⟩ | ⟨X', R', f1, f2, f3, f4, f5, f6⟩
        · have c2 : Y' = X' := c2
          subst c2
          have kk := ih k' n' (l3 + 1) L' false true Y' R' (by omega) (by omega) (by omega) c4 c5 c6 c10 c11 (by omega) (show n' + c + 0 + 1 ≤ k' by omega) (ok_jn (by omega) c8 c13 k2 c12)
          rw [cX, c1, ob, if_neg (show ¬ (1 : Int32) = 0 by decide), cR, c3]
          exact EOut_tr kk (by omega) (by omega) ((s6.tr t6 (by omega)).tr c13 (by omega)) (ox.tr c14) (orr.tr c16) (sm.tr c17)
        · exact Or.inr ⟨X', R', by rw [cX, f1, ob, if_pos (show (0 : Int32) = 0 from rfl)], by rw [cR]; exact f2, f3, (oFU ox).tr f4, orr.tr f5, sm.tr f6⟩
      · exact ei_end hdp (by omega) hW hh hx hr he h27 hWt hn0 hc hok w5 w4
/-- conditions joined by and, or -/
theorem ei_s {b : Nat → Nat} {len M f dp lp n c d k : Nat} {L : tL} {W ty : List Nat} {X R : pS} (hM : tkn b len M = 0) (hC : CondP b len M f) (hf : M - k < f) (hdp : dp ≤ 8) (hlp : lp ≤ dp) (hd : 100 + 2 * (8 - dp) ≤ d) (hW : W.length ≤ 3 * dp) (hh : ∀ w, W.head? = some w → w ≠ 9 ∧ w ≠ 10 ∧ w ≠ 11 ∧ w < 100) (hty : ty.length ≤ 2 * dp) (hx : Cx b len M k X) (hr : Cr b len k R) (he : Em n L X R) (h27 : R.1 0 27 = nI dp) (hWt : Wt W R) (hc : n + c ≤ k) : EOut b len M k dp lp n n c L W ty X R (Re_either_50 (d + 1 + 1) (nI dp) X) (R_readAny_c9 (nI lp) 1 R) := by
  rcases hC k dp 0 lp n c d L W ty X R hf hdp hd hx hr he h27 (Nat.zero_le _) hlp hWt (fun w h => ⟨(hh w h).1, (hh w h).2.2.2⟩) (by omega) (by omega) (by omega) with ⟨k', n', L', X', Y', R', c1, c2, c3, c4, c5, c6, c7, c8, c9, c10, c11, c12, c13, c14, c15, c16, c17⟩ | ⟨X', R', f1, f2, f3, f4, f5, f6⟩
  · have c2 : Y' = X' := c2
    subst c2
    have kk := ei_loop (n0 := n) (c := c) hM hC hdp hlp hd hW hh hty M k' n' 0 L' false false Y' R' (by omega) (by omega) (by omega) c4 c5 c6 c10 c11 c8 (show n' + c + 0 + 0 ≤ k' by omega) c12
    rw [Re_either_50_eq (d + 1) (by omega), c1, ob, if_neg (show ¬ (1 : Int32) = 0 by decide), c3]
    exact EOut_tr kk (by omega) c8 c13 c14 c16 c17
  · exact Or.inr ⟨X', R', by rw [Re_either_50_eq (d + 1) (by omega), f1, ob, if_pos (show (0 : Int32) = 0 from rfl)], f2, f3, f4, f5, f6⟩
