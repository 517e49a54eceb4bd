/-! Texts taken: firms, a plan. -/
theorem tc_c2 : ∀ (m i : Nat) (S : pS), i + m = 8 → (∀ p, p < i → S.2.1 13 p = 0 ∧ S.2.1 14 p = 99) → ∃ S', To_takeCalled_3_59_c2 (nI i) S = To_takeCalled_3_59_c31 (nI 0) S' ∧ (∀ p, p < 8 → S'.2.1 13 p = 0 ∧ S'.2.1 14 p = 99) ∧ Off [] [13, 14] S S' := by
  intro m
  induction m with
  | zero =>
    intro i S hi h
    exact ⟨S, by rw [To_takeCalled_3_59_c2_eq, if_neg (show ¬ nI i < (8 : Int32) from nlt_f (n := 8) (by omega) (by omega) (by omega))]; rfl, fun p hp => h p (by omega), Off.rf⟩
  | succ m ih =>
    intro i S hi h
    have o : Off [] [13, 14] S (wA (wA S 13 (nI i) 0) 14 (nI i) 99) := (Off.rf.wA (by decide)).wA (by decide)
    obtain ⟨S', g1, g2, g3⟩ := ih (i + 1) (wA (wA S 13 (nI i) 0) 14 (nI i) 99) (by omega) (fun p hp => by
      rw [wA_21 (by omega), sA_ne (by decide), sA_eq, wA_21 (by omega), sA_eq, sA_ne (by decide)]
      by_cases z : p = i
      · rw [z, upd_eq, upd_eq]; exact ⟨rfl, rfl⟩
      · rw [upd_ne z, upd_ne z]; exact h p (by omega))
    refine ⟨S', ?_, g2, o.tr g3⟩
    rw [To_takeCalled_3_59_c2_eq, if_pos (show nI i < (8 : Int32) from nlt_t (n := 8) (by omega) (by omega)), if_pos (inb_n (by omega) (by omega)), if_pos (inb_n (by omega) (by omega)), show nI i + (1 : Int32) = nI (i + 1) from nI_1 i]
    exact g1
theorem tc_c31 {l : Nat} {A : Nat → Nat → Nat} (hl : l ≤ 16) (hA : ∀ i, i < l → A i 0 < 8 ∧ A i 1 ≤ 99 ∧ A i 2 ≤ 99) : ∀ (m i : Nat) (S : pS), i + m = l → LsX l A S → (∀ p, p < 8 → S.2.1 13 p = nI (wrd A 1 0 i p) ∧ S.2.1 14 p = nI (wrd A 2 99 i p)) → ∃ S', To_takeCalled_3_59_c31 (nI i) S = some (0, S') ∧ (∀ p, p < 8 → S'.2.1 13 p = nI (wrd A 1 0 l p) ∧ S'.2.1 14 p = nI (wrd A 2 99 l p)) ∧ S'.1 3 9 = nI l ∧ Off [(3, 9)] [13, 14] S S' := by
  intro m
  induction m with
  | zero =>
    intro i S hi ls h
    refine ⟨wF S 3 9 (nI l), by rw [To_takeCalled_3_59_c31_eq, show rF S 59 2 = nI l from ls.2.1, if_neg (nlt_f (by omega) (by omega) (by omega))], fun p hp => ?_, by rw [wF_1, sA_eq, upd_eq], Off.rf.wF (by decide)⟩
    rw [wF_2, show l = i from by omega]; exact h p hp
  | succ m ih =>
    intro i S hi ls h
    obtain ⟨hp, hq, hq2⟩ := hA i (by omega)
    have r0 : Ro_at_59 (nI i) (0 : Int32) S = some (nI (A i 0), S) := ro_at (j := 0) ls hl (by omega) (by omega)
    have r1 : Ro_at_59 (nI i) (1 : Int32) S = some (nI (A i 1), S) := ro_at (j := 1) ls hl (by omega) (by omega)
    have o1 : Off [(3, 9)] [13, 14] S (wA S 13 (nI (A i 0)) (nI (A i 1))) := Off.rf.wA (by decide)
    have r2 : Ro_at_59 (nI i) (2 : Int32) (wA S 13 (nI (A i 0)) (nI (A i 1))) = some (nI (A i 2), wA S 13 (nI (A i 0)) (nI (A i 1))) := ro_at (j := 2) (LsX_off ls o1 (by decide) (by decide) (by decide)) hl (by omega) (by omega)
    have w : C_within (nI (A i 0)) (8 : Int32) S = some (b2i (inr (nI (A i 0)) 8), S) := within_s _ 8 (S := S)
    have o2 : Off [(3, 9)] [13, 14] S (wA (wA S 13 (nI (A i 0)) (nI (A i 1))) 14 (nI (A i 0)) (nI (A i 2))) := o1.wA (by decide)
    obtain ⟨S', g1, g2, g3, g4⟩ := ih (i + 1) (wA (wA S 13 (nI (A i 0)) (nI (A i 1))) 14 (nI (A i 0)) (nI (A i 2))) (by omega) (LsX_off ls o2 (by decide) (by decide) (by decide)) (fun p hp' => by
      rw [wA_21 (by omega), sA_ne (by decide), sA_eq, wA_21 (by omega), sA_eq, sA_ne (by decide), wrd, wrd]
      by_cases y : A i 0 = p
      · subst y
        rw [upd_eq, upd_eq, if_pos rfl, if_pos rfl]; exact ⟨rfl, rfl⟩
      · rw [upd_ne (fun t => y t.symm), upd_ne (fun t => y t.symm), if_neg y, if_neg y]; exact h p hp')
    refine ⟨S', ?_, g2, g3, o2.tr g4⟩
    rw [To_takeCalled_3_59_c31_eq, show rF S 59 2 = nI l from ls.2.1, if_pos (nlt_t (by omega) (by omega)), r0, ob, show nI i + (1 : Int32) = nI (i + 1) from nI_1 i]
    simp only []
    rw [w, ob, inr_n hp (by omega), if_neg (show ¬ b2i true = 0 by decide)]
    simp only []
    rw [r1, ob, if_pos (inb_n hp (by omega))]
    simp only []
    rw [r2, ob, if_pos (inb_n hp (by omega))]
    exact g1
theorem tr_c49 {l : Nat} {f g : Nat → Nat} : ∀ (m i : Nat) (S : pS), i + m = 8 → (∀ p, p < 8 → S.2.1 19 (8 + p) = nI (f p) ∧ S.2.1 20 (8 + p) = nI (g p) - 99) → (∀ p, p < i → S.2.1 19 p = nI (f p) ∧ S.2.1 20 p = nI (g p) - 99) → ∃ S', R_takesOther_c49 (nI l) (nI i) S = some (0, S') ∧ (∀ p, p < 8 → S'.2.1 19 p = nI (f p) ∧ S'.2.1 20 p = nI (g p) - 99) ∧ S'.1 0 36 = nI l ∧ Off [(0, 36)] [19, 20] S S' := by
  intro m
  induction m with
  | zero =>
    intro i S hi h1 h2
    exact ⟨wF S 0 36 (nI l), by rw [R_takesOther_c49_eq, if_neg (show ¬ nI i < (8 : Int32) from nlt_f (n := 8) (by omega) (by omega) (by omega))], fun p hp => h2 p (by omega), by rw [wF_1, sA_eq, upd_eq], Off.rf.wF (by decide)⟩
  | succ m ih =>
    intro i S hi h1 h2
    have o : Off [(0, 36)] [19, 20] S (wA (wA S 19 (nI i) (nI (f i))) 20 (nI i) (nI (g i) - 99)) := (Off.rf.wA (by decide)).wA (by decide)
    have e19 : (wA (wA S 19 (nI i) (nI (f i))) 20 (nI i) (nI (g i) - 99)).2.1 19 = upd (S.2.1 19) i (nI (f i)) := by rw [wA_21 (by omega), sA_ne (by decide), wA_21 (by omega), sA_eq]
    have e20 : (wA (wA S 19 (nI i) (nI (f i))) 20 (nI i) (nI (g i) - 99)).2.1 20 = upd (S.2.1 20) i (nI (g i) - 99) := by rw [wA_21 (by omega), sA_eq, wA_21 (by omega), sA_ne (by decide)]
    obtain ⟨S', g1, g2, g3, g4⟩ := ih (i + 1) (wA (wA S 19 (nI i) (nI (f i))) 20 (nI i) (nI (g i) - 99)) (by omega) (fun p hp => by
      rw [e19, e20, upd_ne (by omega), upd_ne (by omega)]; exact h1 p hp) (fun p hp => by
      rw [e19, e20]
      by_cases z : p = i
      · rw [z, upd_eq, upd_eq]; exact ⟨rfl, rfl⟩
      · rw [upd_ne z, upd_ne z]; exact h2 p (by omega))
    refine ⟨S', ?_, g2, g3, o.tr g4⟩
    have hs := h1 i (by omega)
    rw [R_takesOther_c49_eq, if_pos (show nI i < (8 : Int32) from nlt_t (n := 8) (by omega) (by omega)), show (8 : Int32) + nI i = nI (8 + i) from nI_add 8 i, if_pos (inb_n (by omega) (by omega)), if_pos (inb_n (by omega) (by omega)), if_pos (inb_n (by omega) (by omega)), if_pos (inb_n (by omega) (by omega)), rA_n (by omega), rA_n (by omega), hs.1, hs.2, show nI i + (1 : Int32) = nI (i + 1) from nI_1 i]
    exact g1
def clT (T : tL) (l : Nat) (f g : Nat → Nat) : tL := fun r i => if r = 0 then (if i = 1 then l else T 0 i) else if r = 2 then f i else if r = 3 then g i else T r i
theorem tk_called {b : Nat → Nat} {len M n l k : Nat} {D : tD} {B : tB} {L T : tL} {X R X' R' : pS} (h : INVt n D B L T X R) (j : JC b len M X R l k X' R') : ∃ X2 R2 T2, To_take_3_50 2 (wF X' 46 4 0) = some (0, X2) ∧ R_takesOther 2 (nI l) (wF R' 0 12 0) = some (0, R2) ∧ INVt n D B L T2 X2 R2 ∧ Off [(3, 9)] [13, 14] (wF X' 46 4 0) X2 ∧ Off [(0, 36)] [19, 20] (wF R' 0 12 0) R2 := by
  obtain ⟨hx, hr, h3, hl, nf, A, ls, hA, h19, ox, sm⟩ := j
  have hi := INVt_cl (INVt_rd h ox sm)
  have o1 : Off [(46, 4)] [] X' (wF X' 46 4 0) := Off.rf.wF (by decide)
  obtain ⟨S1, a1, a2, a3⟩ := tc_c2 8 0 (wF X' 46 4 0) (by omega) (fun p hp => by omega)
  obtain ⟨X2, b1, b2, b3, b4⟩ := tc_c31 hl hA l 0 S1 (by omega) (LsX_off (LsX_off ls o1 (by decide) (by decide) (by decide)) a3 (by decide) (by decide) (by decide)) (fun p hp => by rw [(a2 p hp).1, (a2 p hp).2]; exact ⟨rfl, rfl⟩)
  obtain ⟨R2, c1, c2, c3, c4⟩ := tr_c49 (l := l) (f := wrd A 1 0 l) (g := wrd A 2 99 l) 8 0 (wF R' 0 12 0) (by omega) h19 (fun p hp => by omega)
  have oX : Off [(3, 9)] [13, 14] (wF X' 46 4 0) X2 := (a3.mono (by decide) (by decide)).tr b4
  refine ⟨X2, R2, clT T l (wrd A 1 0 l) (wrd A 2 99 l), ?_, ?_, INVt_T hi (oX.mono (by decide) (by decide)) (c4.mono (by decide) (by decide)) ?_ ?_ ?_, oX, c4⟩
  · rw [To_take_3_50_eq, if_neg (show ¬ (2 : Int32) = 0 by decide), if_neg (show ¬ (2 : Int32) = 1 by decide), if_pos (show (2 : Int32) = 2 from rfl), To_takeCalled_3_59_eq, show To_takeCalled_3_59_c2 (0 : Int32) (wF X' 46 4 0) = _ from a1, b1, ob]
  · rw [R_takesOther_eq, if_neg (show ¬ (2 : Int32) = 1 by decide), if_pos (show (2 : Int32) = 2 from rfl)]; exact c1
  · obtain ⟨x0, x1, x2, x3, x4, x5, x6, x7⟩ := hi.2.2.2.2.1.2.2.2
    refine ⟨by rw [oX.1 _ _ (by decide)]; exact x0, b3, by rw [oX.2.1 _ (by decide)]; exact x2, fun p hp => b2 p hp, by rw [oX.1 _ _ (by decide), oX.2.1 _ (by decide)]; exact x4, by rw [oX.1 _ _ (by decide), oX.2.1 _ (by decide)]; exact x5, by rw [oX.1 _ _ (by decide), oX.2.1 _ (by decide)]; exact x6, by rw [oX.1 _ _ (by decide), oX.2.1 _ (by decide)]; exact x7⟩
  · obtain ⟨⟨y0, y1, y2, y3, y4, y5⟩, z1, z2, z3, z4, z5, z6⟩ := hi.2.2.2.2.2.1.2.2.2
    refine ⟨⟨by rw [c4.1 _ _ (by decide)]; exact y0, c3, by rw [c4.1 _ _ (by decide)]; exact y2, by rw [c4.1 _ _ (by decide)]; exact y3, by rw [c4.1 _ _ (by decide)]; exact y4, by rw [c4.1 _ _ (by decide)]; exact y5⟩, by rw [c4.2.1 18 (by decide)]; exact z1, fun p hp => c2 p hp, by rw [c4.2.1 21 (by decide)]; exact z3, by rw [c4.2.1 24 (by decide), c4.2.1 25 (by decide)]; exact z4, by rw [c4.2.1 29 (by decide), c4.2.1 30 (by decide)]; exact z5, by rw [c4.2.1 31 (by decide), c4.2.1 32 (by decide), c4.2.1 33 (by decide)]; exact z6⟩
  · obtain ⟨⟨w0, w1⟩, w2, w3, w4, w5, w6, w7⟩ := hi.2.2.2.1.2.2.2
    exact ⟨⟨w0, hl⟩, w2, fun p hp => ⟨wrd_le (by omega) (fun i hi => (hA i hi).2.1), wrd_le (by omega) (fun i hi => (hA i hi).2.2)⟩, w4, w5, w6, w7⟩
