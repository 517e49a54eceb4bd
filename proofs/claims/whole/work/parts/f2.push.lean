/-! What can be undone: put aside, gone back to. -/
theorem aheadR {h : Nat} {R : pS} (hh : h ≤ 6) (h3 : R.1 0 3 = nI h) : ∃ h' R', (h = 6 ∧ h' = 5 ∨ h < 6 ∧ h' = h) ∧ R_keepsAhead R = some (0, R') ∧ R'.1 0 3 = nI (h' + 1) ∧ (∀ i, i < h' → ∀ k, k < 76 → R'.2.1 2 (76 * i + k) = R.2.1 2 (76 * (i + (h - h')) + k)) ∧ (∀ k, k < 76 → R'.2.1 2 (76 * h' + k) = R.2.1 1 k) ∧ Off [(0, 3)] [2] R R' := by
  have cpy : ∀ m, m < 6 → ∀ j k (S : pS), k + j = 76 → S.1 0 3 = nI m → (∀ i, i < k → S.2.1 2 (76 * m + i) = R.2.1 1 i) → S.2.1 1 = R.2.1 1 → Off [(0, 3)] [2] R S → ∃ S', R_keepsAhead_c55 (nI k) S = some (0, S') ∧ S'.1 0 3 = nI (m + 1) ∧ (∀ x, x < 76 * m → S'.2.1 2 x = S.2.1 2 x) ∧ (∀ i, i < 76 → S'.2.1 2 (76 * m + i) = R.2.1 1 i) ∧ Off [(0, 3)] [2] R S' := by
    intro m hm j
    induction j with
    | zero =>
      intro k S hk h1 h2 h4 h5
      have : k = 76 := by omega
      subst this
      refine ⟨wF S 0 3 (nI (m + 1)), by rw [R_keepsAhead_c55_eq, if_neg (by decide), show rF S 0 3 = nI m from h1, nI_1], by rw [wF_1, sA_eq, upd_eq], fun x _ => rfl, h2, h5.wF (by decide)⟩
    | succ j ih =>
      intro k S hk h1 h2 h4 h5
      have e : (76 : Int32) * nI m + nI k = nI (76 * m + k) := by rw [show (76 : Int32) = nI 76 from rfl, pk_mul, nI_add]
      rw [R_keepsAhead_c55_eq, if_pos (show nI k < (76 : Int32) from nlt_t (n := 76) (by omega) (by omega)), if_pos (inb_n (by omega) (by omega)), show rF S 0 3 = nI m from h1, e, if_pos (inb_n (by omega) (by omega)), rA_n (by omega), h4, nI_1]
      obtain ⟨S', a1, a2, a3, a4, a5⟩ := ih (k + 1) (wA S 2 (nI (76 * m + k)) (R.2.1 1 k)) (by omega) h1 (fun i hi => by
        rw [wA_21 (by omega), sA_eq, upd_at]
        by_cases q : i = k
        · rw [if_pos (by omega), q]
        · rw [if_neg (by omega)]; exact h2 i (by omega)) (by rw [wA_21 (by omega), sA_ne (by decide)]; exact h4) (h5.wA (by decide))
      refine ⟨S', a1, a2, fun x hx => ?_, a4, a5⟩
      rw [a3 x hx, wA_21 (by omega), sA_eq, upd_ne (by omega)]
  by_cases e6 : h = 6
  · subst e6
    have sh : ∀ j k (S : pS), k + j = 380 → S.1 0 3 = nI 5 → (∀ x, x < 456 → S.2.1 2 x = if x < k then R.2.1 2 (x + 76) else R.2.1 2 x) → Off [(0, 3)] [2] R S → ∃ S', R_keepsAhead_c21 (nI k) S = R_keepsAhead_c55 0 S' ∧ S'.1 0 3 = nI 5 ∧ (∀ x, x < 380 → S'.2.1 2 x = R.2.1 2 (x + 76)) ∧ Off [(0, 3)] [2] R S' := by
      intro j
      induction j with
      | zero =>
        intro k S hk h1 h2 h4
        have : k = 380 := by omega
        subst this
        refine ⟨S, ?_, h1, fun x hx => ?_, h4⟩
        · rw [R_keepsAhead_c21_eq, show rF S 0 3 = nI 5 from h1, if_neg (by decide)]
        · rw [h2 x (by omega), if_pos hx]
      | succ j ih =>
        intro k S hk h1 h2 h4
        rw [R_keepsAhead_c21_eq, show rF S 0 3 = nI 5 from h1, show (76 : Int32) * nI 5 = nI 380 from rfl, if_pos (nlt_t (by omega) (by omega)), show (76 : Int32) = nI 76 from rfl, nI_add, if_pos (inb_n (by omega) (by omega)), if_pos (inb_n (by omega) (by omega)), rA_n (by omega), h2 (k + 76) (by omega), if_neg (by omega), nI_1]
        refine ih (k + 1) _ (by omega) h1 (fun x hx => ?_) (h4.wA (by decide))
        rw [wA_21 (by omega), sA_eq, upd_at, h2 x hx]
        by_cases q : x = k
        · rw [if_pos q, if_pos (by omega), q]
        · rw [if_neg q]
          by_cases q2 : x < k
          · rw [if_pos q2, if_pos (by omega)]
          · rw [if_neg q2, if_neg (by omega)]
    obtain ⟨S1, a1, a2, a3, a4⟩ := sh 380 0 (wF R 0 3 (nI 5)) rfl (by rw [wF_1, sA_eq, upd_eq]) (fun x _ => by rw [if_neg (by omega)]; rfl) (Off.rf.wF (by decide))
    obtain ⟨S2, b1, b2, b3, b4, b5⟩ := cpy 5 (by omega) 76 0 S1 rfl a2 (fun i hi => by omega) (by rw [a4.2.1 1 (by decide)]) a4
    refine ⟨5, S2, Or.inl ⟨rfl, rfl⟩, ?_, b2, fun i hi k hk => ?_, b4, b5⟩
    · rw [R_keepsAhead_eq, show rF R 0 3 = nI 6 from h3, if_pos (show nI 6 = (6 : Int32) from rfl), show nI 6 - (1 : Int32) = nI 5 from rfl, show R_keepsAhead_c21 (0 : Int32) (wF R 0 3 (nI 5)) = _ from a1]
      exact b1
    · rw [b3 _ (by omega), a3 _ (by omega), show 76 * i + k + 76 = 76 * (i + (6 - 5)) + k from by omega]
  · obtain ⟨S2, b1, b2, b3, b4, b5⟩ := cpy h (by omega) 76 0 R rfl h3 (fun i hi => by omega) rfl Off.rf
    refine ⟨h, S2, Or.inr ⟨by omega, rfl⟩, ?_, b2, fun i hi k hk => ?_, b4, b5⟩
    · rw [R_keepsAhead_eq, show rF R 0 3 = nI h from h3, if_neg (show ¬ nI h = (6 : Int32) from fun z => e6 ((nI_eq (b := 6) (by omega) (by omega)).mp z))]
      exact b1
    · rw [b3 _ (by omega), Nat.sub_self, Nat.add_zero]
/-- the drawer is put aside -/
theorem push {n : Nat} {D : tD} {B : tB} {X R : pS} (hD : WD n D) (hB : B.1 ≤ 150) (xd : XD 1 D X) (rd : RDm n D R) (rb : RB B R) (hh : Hst n B X R) : ∃ X' R', Hi_remember_31_1 (nI B.1) X = some (0, X') ∧ R_keepsAhead R = some (0, R') ∧ Hst n B X' R' ∧ offH X X' ∧ Off [(0, 3)] [2] R R' := by
  obtain ⟨hp, h, Hd, Hb, a1, a2, a3, am, a4⟩ := hh
  obtain ⟨h', R', e0, r1, r2, r3, r4, r5⟩ := aheadR a1 a3
  have hn := hD.1
  -- the class, till there is room
  have room : ∃ X1, Hi_remember_31_1 (nI B.1) X = Hi_remember_31_1_c13 (nI B.1) X1 ∧ Prm X1 ∧ X1.1 31 2 = nI h' ∧ (∀ i, i < h' → X1.2.2 32 i = X.2.2 32 (i + (h - h')) ∧ X1.2.1 33 i = X.2.1 33 (i + (h - h'))) ∧ (∀ i a, (i, a) ≠ (31, 2) → X1.1 i a = X.1 i a) ∧ ∀ i, i ≠ 33 → X1.2.1 i = X.2.1 i := by
    rw [Hi_remember_31_1_eq, show rF X 31 2 = nI h from a2]
    rcases e0 with ⟨rfl, rfl⟩ | ⟨e1, rfl⟩
    · obtain ⟨X1, b1, b2, b3, b4, b5, b6⟩ := dropX hp
      rw [if_pos (show nI 6 = (6 : Int32) from rfl), b1, ob]
      exact ⟨X1, rfl, b2, b4, fun i hi => b3 i hi, b5, b6⟩
    · rw [if_neg (show ¬ nI h' = (6 : Int32) from fun z => by have := (nI_eq (b := 6) (by omega) (by omega)).mp z; omega)]
      exact ⟨X, rfl, hp, a2, fun i hi => by rw [Nat.sub_self, Nat.add_zero]; exact ⟨rfl, rfl⟩, fun _ _ _ => rfl, fun _ _ => rfl⟩
  obtain ⟨X1, c1, c2, c3, c4, c5, c6⟩ := room
  have h6 : h' < 6 := by omega
  obtain ⟨j, d1, d2⟩ := c2.1 h' h6
  obtain ⟨g1, g2⟩ := cp_to d2 X1
  have xd1 : XD 1 D X1 := ⟨fun r c hr hc => by rw [c6 _ (by omega)]; exact xd.1 r c hr hc, fun i q1 q2 => by rw [c5 1 i (by simp)]; exact xd.2 i q1 q2⟩
  have hjr := hj_r d2
  have ej31 : (cpS j 1 X1).1 31 2 = nI h' := by rw [cp_1f, if_neg (by omega)]; exact c3
  have oH1 : offH X X1 := ⟨fun i a q => c5 i a (fun e => q (by rw [e]; decide)), fun i q => c6 i (fun e => q (by rw [e]; decide))⟩
  refine ⟨wF (wA (cpS j 1 X1) 33 (nI h') (nI B.1)) 31 2 (nI (h' + 1)), R', ?_, r1, ?_, ?_, r5⟩
  · rw [c1, Hi_remember_31_1_c13_eq, show rF X1 31 2 = nI h' from c3, if_pos (inb_n (by omega) (by omega)), nI_clamp (by omega), d1, ob, if_pos g2, g1, ob]
    simp only
    rw [show rF (cpS j 1 X1) 31 2 = nI h' from ej31, if_pos (inb_n (by omega) (by omega)), nI_1]
  · have refs : ∀ i, (wF (wA (cpS j 1 X1) 33 (nI h') (nI B.1)) 31 2 (nI (h' + 1))).2.2 32 i = X1.2.2 32 i := fun i => rfl
    have xdo : ∀ {o : Nat} {D' : tD}, XD o D' (cpS j 1 X1) → 34 ≤ o → XD o D' (wF (wA (cpS j 1 X1) 33 (nI h') (nI B.1)) 31 2 (nI (h' + 1))) := by
      intro o D' hx ho1
      refine ⟨fun r c hr hc => ?_, fun i q1 q2 => ?_⟩
      · rw [wF_2, wA_21 (by omega), sA_ne (by omega)]; exact hx.1 r c hr hc
      · rw [wF_1, sA_ne (by omega), wA_1]; exact hx.2 i q1 q2
    refine ⟨⟨fun i hi => c2.1 i hi, fun i i' hi hi' he => c2.2 i i' hi hi' he⟩, h' + 1, fun i => if i = h' then D else Hd (i + (h - h')), fun i => if i = h' then B.1 else Hb (i + (h - h')), by omega, by rw [wF_1, sA_eq, upd_eq], r2, fun i i' q1 q2 => ?_, fun i hi => ?_⟩
    · simp only
      by_cases z' : i' = h'
      · rw [if_pos z']
        by_cases z : i = h'
        · rw [if_pos z]; exact Nat.le_refl _
        · rw [if_neg z]
          exact (a4 (i + (h - h')) (by omega)).2.2.1
      · rw [if_neg z', if_neg (by omega)]
        exact am _ _ (by omega) (by omega)
    · simp only
      by_cases z : i = h'
      · subst z
        simp only [if_true]
        refine ⟨⟨j, d1, xdo (XD_cp xd1) hjr.1⟩, ?_, Nat.le_refl _, hD, ?_, ?_⟩
        · rw [wF_2, wA_21 (by omega), sA_eq, upd_eq]
        · rw [r5.2.1 4 (by decide), r5.2.1 5 (by decide), r5.2.1 6 (by decide)]
          exact RD_cong rd.1 hn (fun k hk => r4 k hk)
        · rw [r4 2 (by omega)]; exact rb.1
      · rw [if_neg z, if_neg z]
        have hi' : i < h' := by omega
        obtain ⟨⟨j', b1, b2⟩, b3, b4, b5, b6, b7⟩ := a4 (i + (h - h')) (by omega)
        obtain ⟨j'', b8, b9⟩ := hp.1 (i + (h - h')) (by omega)
        have : j'' = j' := by rw [b1] at b8; cases b8; rfl
        subst this
        have hjr' := hj_r b9
        have e1 := (c4 i hi').1
        have hne : j'' ≠ j := fun e => by
          have := c2.2 i h' (by omega) h6 (by rw [e1, b1, d1, e])
          omega
        have xj1 : XD j'' (Hd (i + (h - h'))) X1 := ⟨fun r c hr hc => by rw [c6 _ (by omega)]; exact b2.1 r c hr hc, fun a q1 q2 => by rw [c5 j'' a (fun e => by cases e; omega)]; exact b2.2 a q1 q2⟩
        refine ⟨⟨j'', by rw [refs, e1]; exact b1, xdo (XD_cp2 xj1 hne) hjr'.1⟩, ?_, b4, b5, ?_, ?_⟩
        · rw [wF_2, wA_21 (by omega), sA_eq, upd_ne z, cp_2, if_neg (by rcases d2 with rfl | rfl | rfl | rfl | rfl | rfl <;> decide), (c4 i hi').2]; exact b3
        · rw [r5.2.1 4 (by decide), r5.2.1 5 (by decide), r5.2.1 6 (by decide)]
          exact RD_cong b6 hn (fun k hk => r3 i hi' k hk)
        · rw [r3 i hi' 2 (by omega)]; exact b7
  · refine offH_tr oH1 (offH_tr (offH_cp d2 X1) ⟨fun i a q => ?_, fun i q => ?_⟩)
    · rw [wF_1, sA_row, wA_1]
      by_cases e : i = 31
      · subst e
        rw [if_pos rfl, upd_ne]
        intro e2
        apply q
        rw [e2]
        decide
      · rw [if_neg e]
    · rw [wF_2, wA_21 (by omega), sA_ne]
      intro e
      apply q
      rw [e]
      decide
