/-! Texts taken: who met whom, firms, a plan. -/
theorem INVt_T {n : Nat} {D : tD} {B : tB} {L T T' : tL} {X R X' R' : pS} (h : INVt n D B L T X R) (ox : Off [(3, 8), (3, 9), (15, 2)] [12, 13, 14, 16] X X') (orr : Off [(0, 34), (0, 36), (0, 39)] [18, 19, 20, 21] R R') (h1 : XT 3 T' X') (h2 : RTm T' R') (h3 : WT n T') : INVt n D B L T' X' R' := by
  obtain ⟨i1, i2, i3, ⟨d1, d2, d3, d4⟩, ⟨e1, e2, e3, e4⟩, ⟨g1, g2, g3, g4⟩, i7⟩ := h
  exact ⟨ConX_off i1 ox (by decide), ConR_off i2 orr (by decide) (by decide), Img_off i3 ox orr (by decide) (fun o a h => by simp; omega) (fun o h1 h2 => by simp; omega) (by decide) (by decide), ⟨d1, d2, d3, h3⟩, ⟨XD_off e1 ox (fun i h1 h2 => by simp) (by decide), XB_off e2 ox (by decide) (by decide), XL_off e3 ox (by decide) (by decide) (by decide) (by decide) (by decide) (by decide) (by decide), h1⟩, ⟨RDm_off g1 orr (by decide) (by decide) (by decide) (by decide) (by decide), RB_off g2 orr (by decide) (by decide), RLm_off g3 orr (fun i a b => by simp; omega), h2⟩, Hst_off i7 ox orr (by decide) (fun o a h1 h2 => by simp; omega) (fun o h1 h2 => by simp; omega) (by decide) (by decide)⟩
theorem ro_at {l i j : Nat} {A : Nat → Nat → Nat} {S : pS} (h : LsX l A S) (hl : l ≤ 16) (hi : i < l) (hj : j < 3) : Ro_at_59 (nI i) (nI j) S = some (nI (A i j), S) := by
  have w : C_within (nI j) (4 : Int32) S = some (b2i (inr (nI j) 4), S) := within_s (nI j) 4 (S := S)
  rw [Ro_at_59_eq, if_neg (show ¬ nI i < 0 from nlt_f (n := 0) (by omega) (by omega) (by omega)), show rF S 59 2 = nI l from h.2.1, if_pos (nlt_t hi (by omega)), w, ob, inr_n (by omega) (by omega), if_neg (show ¬ b2i true = 0 by decide), m4, nI_add, if_pos (inb_n (by omega) (by omega)), rA_n (by omega)]
  have := h.2.2 i hi
  have hj' : j = 0 ∨ j = 1 ∨ j = 2 := by omega
  rcases hj' with z | z | z
  · subst z; rw [show 4 * i + 0 = 4 * i from rfl, this.1]
  · subst z; rw [this.2.1]
  · subst z; rw [this.2.2]
/-- the class takes who met whom -/
theorem tm_c2 : ∀ (m i : Nat) (S : pS), i + m = 12 → (∀ p, p < i → S.2.1 12 p = -1) → ∃ S', To_takeMet_3_59_c2 (nI i) S = To_takeMet_3_59_c23 (nI 0) S' ∧ (∀ p, p < 12 → S'.2.1 12 p = -1) ∧ Off [] [12] S S' := by
  intro m
  induction m with
  | zero =>
    intro i S hi h
    exact ⟨S, by rw [To_takeMet_3_59_c2_eq, if_neg (show ¬ nI i < (12 : Int32) from nlt_f (n := 12) (by omega) (by omega) (by omega))]; rfl, fun p hp => h p (by omega), Off.rf⟩
  | succ m ih =>
    intro i S hi h
    have o : Off [] [12] S (wA S 12 (nI i) (-1)) := Off.rf.wA (by decide)
    obtain ⟨S', g1, g2, g3⟩ := ih (i + 1) (wA S 12 (nI i) (-1)) (by omega) (fun p hp => by
      rw [wA_21 (by omega), sA_eq]
      by_cases z : p = i
      · rw [z, upd_eq]
      · rw [upd_ne z]; exact h p (by omega))
    refine ⟨S', ?_, g2, o.tr g3⟩
    rw [To_takeMet_3_59_c2_eq, if_pos (show nI i < (12 : Int32) from nlt_t (n := 12) (by omega) (by omega)), if_pos (inb_n (by omega) (by omega)), show nI i + (1 : Int32) = nI (i + 1) from nI_1 i]
    exact g1
theorem tm_c23 {l : Nat} {A : Nat → Nat → Nat} (hl : l ≤ 16) (hA : ∀ i, i < l → A i 0 < 12 ∧ A i 1 < 12) : ∀ (m i : Nat) (S : pS), i + m = l → LsX l A S → (∀ p, p < 12 → S.2.1 12 p = nI (mt A i p) - 1) → ∃ S', To_takeMet_3_59_c23 (nI i) S = some (0, S') ∧ (∀ p, p < 12 → S'.2.1 12 p = nI (mt A l p) - 1) ∧ S'.1 3 8 = nI l ∧ Off [(3, 8)] [12] S S' := by
  intro m
  induction m with
  | zero =>
    intro i S hi ls h
    refine ⟨wF S 3 8 (nI l), by rw [To_takeMet_3_59_c23_eq, show rF S 59 2 = nI l from ls.2.1, if_neg (nlt_f (by omega) (by omega) (by omega))], fun p hp => ?_, by rw [wF_1, sA_eq, upd_eq], Off.rf.wF (by decide)⟩
    rw [wF_2, show l = i from by omega]; exact h p hp
  | succ m ih =>
    intro i S hi ls h
    obtain ⟨hp, hq⟩ := hA i (by omega)
    have r0 : Ro_at_59 (nI i) (0 : Int32) S = some (nI (A i 0), S) := ro_at (j := 0) ls hl (by omega) (by omega)
    have r1 : Ro_at_59 (nI i) (1 : Int32) S = some (nI (A i 1), S) := ro_at (j := 1) ls hl (by omega) (by omega)
    have w : C_within (nI (A i 0)) (12 : Int32) S = some (b2i (inr (nI (A i 0)) 12), S) := within_s _ 12 (S := S)
    have m12 : mt A i (A i 0) ≤ 12 := mt_le (fun j hj => (hA j (by omega)).2)
    have e0 : To_takeMet_3_59_c23 (nI i) S = (if nI (mt A i (A i 0)) - 1 = (-1 : Int32) then To_takeMet_3_59_c23 (nI (i + 1)) (wA S 12 (nI (A i 0)) (nI (A i 1))) else To_takeMet_3_59_c23 (nI (i + 1)) S) := by
      rw [To_takeMet_3_59_c23_eq, show rF S 59 2 = nI l from ls.2.1, if_pos (nlt_t (by omega) (by omega)), r0, ob, show nI i + (1 : Int32) = nI (i + 1) from nI_1 i]
      simp only []
      rw [w, ob, inr_n hp (by omega), if_neg (show ¬ b2i true = 0 by decide), if_pos (inb_n hp (by omega))]
      simp only []
      rw [rA_n (by omega), h _ hp, r1, ob, if_pos (inb_n hp (by omega))]
    by_cases z : mt A i (A i 0) = 0
    · have o : Off [(3, 8)] [12] S (wA S 12 (nI (A i 0)) (nI (A i 1))) := Off.rf.wA (by decide)
      obtain ⟨S', g1, g2, g3, g4⟩ := ih (i + 1) (wA S 12 (nI (A i 0)) (nI (A i 1))) (by omega) (LsX_off ls o (by decide) (by decide) (by decide)) (fun p hp' => by
        rw [wA_21 (by omega), sA_eq, mt]
        by_cases y : A i 0 = p
        · subst y
          rw [upd_eq, if_pos ⟨z, rfl⟩, nI_pred]
        · rw [upd_ne (fun t => y t.symm), if_neg (fun t => y t.2)]; exact h p hp')
      refine ⟨S', ?_, g2, g3, o.tr g4⟩
      rw [e0, z, if_pos (show nI 0 - 1 = (-1 : Int32) by decide)]; exact g1
    · obtain ⟨S', g1, g2, g3, g4⟩ := ih (i + 1) S (by omega) ls (fun p hp' => by
        rw [mt, if_neg (fun t => z (by rw [t.2]; exact t.1))]; exact h p hp')
      refine ⟨S', ?_, g2, g3, g4⟩
      obtain ⟨q, hq'⟩ : ∃ q, mt A i (A i 0) = q + 1 := ⟨mt A i (A i 0) - 1, by omega⟩
      rw [e0, hq', nI_pred, if_neg (nI_nm (by omega))]; exact g1
theorem tr_c7 {l : Nat} {f : Nat → Nat} : ∀ (m i : Nat) (S : pS), i + m = 12 → (∀ p, p < 12 → S.2.1 18 (12 + p) = nI (f p)) → (∀ p, p < i → S.2.1 18 p = nI (f p)) → ∃ S', R_takesOther_c7 (nI l) (nI i) S = some (0, S') ∧ (∀ p, p < 12 → S'.2.1 18 p = nI (f p)) ∧ S'.1 0 34 = nI l ∧ Off [(0, 34)] [18] S S' := by
  intro m
  induction m with
  | zero =>
    intro i S hi h1 h2
    exact ⟨wF S 0 34 (nI l), by rw [R_takesOther_c7_eq, if_neg (show ¬ nI i < (12 : Int32) from nlt_f (n := 12) (by omega) (by omega) (by omega))], fun p hp => h2 p (by omega), by rw [wF_1, sA_eq, upd_eq], Off.rf.wF (by decide)⟩
  | succ m ih =>
    intro i S hi h1 h2
    have o : Off [(0, 34)] [18] S (wA S 18 (nI i) (nI (f i))) := Off.rf.wA (by decide)
    obtain ⟨S', g1, g2, g3, g4⟩ := ih (i + 1) (wA S 18 (nI i) (nI (f i))) (by omega) (fun p hp => by
      rw [wA_21 (by omega), sA_eq, upd_ne (by omega)]; exact h1 p hp) (fun p hp => by
      rw [wA_21 (by omega), sA_eq]
      by_cases z : p = i
      · rw [z, upd_eq]
      · rw [upd_ne z]; exact h2 p (by omega))
    refine ⟨S', ?_, g2, g3, o.tr g4⟩
    rw [R_takesOther_c7_eq, if_pos (show nI i < (12 : Int32) from nlt_t (n := 12) (by omega) (by omega)), show (12 : Int32) + nI i = nI (12 + i) from nI_add 12 i, if_pos (inb_n (by omega) (by omega)), if_pos (inb_n (by omega) (by omega)), rA_n (by omega), h1 i (by omega), show nI i + (1 : Int32) = nI (i + 1) from nI_1 i]
    exact g1
def mtT (T : tL) (l : Nat) (f : Nat → Nat) : tL := fun r i => if r = 0 then (if i = 0 then l else T 0 i) else if r = 1 then f i else T r i
theorem tk_met {b : Nat → Nat} {len M n l k : Nat} {D : tD} {B : tB} {L T : tL} {X R X' R' : pS} (h : INVt n D B L T X R) (j : JM b len M X R l k X' R') : ∃ X2 R2 T2, To_take_3_50 1 (wF X' 46 4 0) = some (0, X2) ∧ R_takesOther 1 (nI l) (wF R' 0 12 0) = some (0, R2) ∧ INVt n D B L T2 X2 R2 ∧ Off [(3, 8)] [12] (wF X' 46 4 0) X2 ∧ Off [(0, 34)] [18] (wF R' 0 12 0) R2 := by
  obtain ⟨hx, hr, h3, hl, nf, A, ls, hA, h18, ox, sm⟩ := j
  have hi := INVt_cl (INVt_rd h ox sm)
  have o1 : Off [(46, 4)] [] X' (wF X' 46 4 0) := Off.rf.wF (by decide)
  obtain ⟨S1, a1, a2, a3⟩ := tm_c2 12 0 (wF X' 46 4 0) (by omega) (fun p hp => by omega)
  obtain ⟨X2, b1, b2, b3, b4⟩ := tm_c23 hl hA l 0 S1 (by omega) (LsX_off (LsX_off ls o1 (by decide) (by decide) (by decide)) a3 (by decide) (by decide) (by decide)) (fun p hp => by rw [a2 p hp]; rfl)
  obtain ⟨R2, c1, c2, c3, c4⟩ := tr_c7 (l := l) (f := mt A l) 12 0 (wF R' 0 12 0) (by omega) h18 (fun p hp => by omega)
  have oX : Off [(3, 8)] [12] (wF X' 46 4 0) X2 := (a3.mono (by decide) (by decide)).tr b4
  refine ⟨X2, R2, mtT T l (mt A l), ?_, ?_, INVt_T hi (oX.mono (by decide) (by decide)) (c4.mono (by decide) (by decide)) ?_ ?_ ?_, oX, c4⟩
  · rw [To_take_3_50_eq, if_neg (show ¬ (1 : Int32) = 0 by decide), if_pos (show (1 : Int32) = 1 from rfl), To_takeMet_3_59_eq, show To_takeMet_3_59_c2 (0 : Int32) (wF X' 46 4 0) = _ from a1, b1, ob]
  · rw [R_takesOther_eq, if_pos (show (1 : Int32) = 1 from rfl)]; exact c1
  · obtain ⟨x0, x1, x2, x3, x4, x5, x6, x7⟩ := hi.2.2.2.2.1.2.2.2
    refine ⟨b3, by rw [oX.1 _ _ (by decide)]; exact x1, fun p hp => b2 p hp, by rw [oX.2.1 _ (by decide), oX.2.1 _ (by decide)]; exact x3, by rw [oX.1 _ _ (by decide), oX.2.1 _ (by decide)]; exact x4, by rw [oX.1 _ _ (by decide), oX.2.1 _ (by decide)]; exact x5, by rw [oX.1 _ _ (by decide), oX.2.1 _ (by decide)]; exact x6, by rw [oX.1 _ _ (by decide), oX.2.1 _ (by decide)]; exact x7⟩
  · obtain ⟨⟨y0, y1, y2, y3, y4, y5⟩, z1, z2, z3, z4, z5, z6⟩ := hi.2.2.2.2.2.1.2.2.2
    refine ⟨⟨c3, by rw [c4.1 _ _ (by decide)]; exact y1, by rw [c4.1 _ _ (by decide)]; exact y2, by rw [c4.1 _ _ (by decide)]; exact y3, by rw [c4.1 _ _ (by decide)]; exact y4, by rw [c4.1 _ _ (by decide)]; exact y5⟩, fun p hp => c2 p hp, by rw [c4.2.1 19 (by decide), c4.2.1 20 (by decide)]; exact z2, by rw [c4.2.1 21 (by decide)]; exact z3, by rw [c4.2.1 24 (by decide), c4.2.1 25 (by decide)]; exact z4, by rw [c4.2.1 29 (by decide), c4.2.1 30 (by decide)]; exact z5, by rw [c4.2.1 31 (by decide), c4.2.1 32 (by decide), c4.2.1 33 (by decide)]; exact z6⟩
  · obtain ⟨⟨w0, w1⟩, w2, w3, w4, w5, w6, w7⟩ := hi.2.2.2.1.2.2.2
    exact ⟨⟨hl, w1⟩, fun p hp => mt_le (fun i hi => (hA i hi).2), w3, w4, w5, w6, w7⟩
