/-! Texts taken: a plan; the call. -/
theorem tr_c101 {l : Nat} {F : Nat → Int32} (hl : l ≤ 16) : ∀ (m i : Nat) (S : pS), i + m = 3 * l → (∀ j, j < 3 * l → S.2.1 21 (48 + j) = F j) → (∀ j, j < i → S.2.1 21 j = F j) → ∃ S', R_takesOther_c101 (nI l) (nI i) S = some (0, wF (wF S' 0 39 (nI l)) 0 3 0) ∧ (∀ j, j < 3 * l → S'.2.1 21 j = F j) ∧ Off [] [21] S S' := by
  intro m
  have h3 : (3 : Int32) * nI l = nI (3 * l) := by rw [show (3 : Int32) = nI 3 from rfl, pk_mul]
  induction m with
  | zero =>
    intro i S hi h1 h2
    exact ⟨S, by rw [R_takesOther_c101_eq, h3, if_neg (nlt_f (by omega) (by omega) (by omega))], fun j hj => h2 j (by omega), Off.rf⟩
  | succ m ih =>
    intro i S hi h1 h2
    have o : Off [] [21] S (wA S 21 (nI i) (F i)) := Off.rf.wA (by decide)
    obtain ⟨S', g1, g2, g3⟩ := ih (i + 1) (wA S 21 (nI i) (F i)) (by omega) (fun j hj => by
      rw [wA_21 (by omega), sA_eq, upd_ne (by omega)]; exact h1 j hj) (fun j hj => by
      rw [wA_21 (by omega), sA_eq]
      by_cases z : j = i
      · rw [z, upd_eq]
      · rw [upd_ne z]; exact h2 j (by omega))
    refine ⟨S', ?_, g2, o.tr g3⟩
    rw [R_takesOther_c101_eq, h3, if_pos (nlt_t (by omega) (by omega)), show (48 : Int32) + nI i = nI (48 + i) from nI_add 48 i, if_pos (inb_n (by omega) (by omega)), if_pos (inb_n (by omega) (by omega)), rA_n (by omega), h1 i (by omega), show nI i + (1 : Int32) = nI (i + 1) from nI_1 i]
    exact g1
theorem INVt_F {n : Nat} {D : tD} {B : tB} {L T : tL} {X R : pS} (h : INVt n D B L T X R) : INVt n D B L T (wF X 31 2 0) (wF R 0 3 0) := by
  obtain ⟨i1, i2, i3, d, ⟨e1, e2, e3, e4⟩, ⟨g1, g2, g3, g4⟩, hp, -⟩ := h
  have ox : Off [(31, 2)] [] X (wF X 31 2 0) := Off.rf.wF (by decide)
  have orr : Off [(0, 3)] [] R (wF R 0 3 0) := Off.rf.wF (by decide)
  refine ⟨ConX_off i1 ox (by decide), ConR_off i2 orr (by decide) (by decide), Img_off i3 ox orr (by decide) (fun o a h => by simp; omega) (fun o h1 h2 => by simp) (by decide) (by decide), d, ⟨XD_off e1 ox (fun i h1 h2 => by simp) (by decide), XB_off e2 ox (by decide) (by decide), XL_off e3 ox (by decide) (by decide) (by decide) (by decide) (by decide) (by decide) (by decide), XT_off e4 ox (by decide) (by decide) (by decide) (by decide) (by decide) (by decide) (by decide) (by decide) (by decide) (by decide) (by decide) (by decide) (by decide)⟩, ⟨RDm_off g1 orr (by decide) (by decide) (by decide) (by decide) (by decide), RB_off g2 orr (by decide) (by decide), RLm_off g3 orr (fun i a b => by simp), RTm_off g4 orr (by decide) (by decide)⟩, ?_, 0, fun _ => D, fun _ => 0, by omega, by rw [wF_1, sA_eq, upd_eq]; rfl, by rw [wF_1, sA_eq, upd_eq]; rfl, fun i j h1 h2 => by omega, fun i hi => by omega⟩
  unfold Prm at *
  rw [ox.2.2]
  exact hp
def plT (T : tL) (l : Nat) (A : Nat → Nat → Nat) : tL := fun r i => if r = 0 then (if i = 2 then l else T 0 i) else if r = 4 then A i 0 else if r = 5 then A i 1 - 320 else if r = 6 then A i 2 else T r i
theorem tk_plan {b : Nat → Nat} {len M n l k : Nat} {D : tD} {B : tB} {L T : tL} {X R X' R' : pS} (h : INVt n D B L T X R) (j : JP b len M n X R l k X' R') : ∃ X2 R2 T2, To_take_3_50 3 (wF X' 46 4 0) = some (0, X2) ∧ R_takesOther 3 (nI l) (wF R' 0 12 0) = some (0, R2) ∧ INVt n D B L T2 (wF X2 31 2 0) R2 ∧ Off [(15, 2)] [16] (wF X' 46 4 0) X2 ∧ Off [(0, 39), (0, 3)] [21] (wF R' 0 12 0) R2 := by
  obtain ⟨hx, hr, h3, hl, nf, A, ls, hA, h21, ox, sm⟩ := j
  have hi := INVt_cl (INVt_rd h ox sm)
  have o1 : Off [(46, 4)] [] X' (wF X' 46 4 0) := Off.rf.wF (by decide)
  have ls1 : LsX l A (wF X' 46 4 0) := LsX_off ls o1 (by decide) (by decide) (by decide)
  obtain ⟨X2, a1, a2, a3, oX⟩ := ro_15_59 ls1.2.1 hl
  obtain ⟨S', c1, c2, c3⟩ := tr_c101 (F := fun j => R'.2.1 21 (48 + j)) hl (3 * l) 0 (wF R' 0 12 0) (by omega) (fun j hj => rfl) (fun p hp => by omega)
  have o39 : Off [(0, 39)] [21] (wF R' 0 12 0) (wF S' 0 39 (nI l)) := (c3.mono (by decide) (by decide)).wF (by decide)
  refine ⟨X2, _, plT T l A, ?_, ?_, INVt_F (INVt_T hi (oX.mono (by decide) (by decide)) (o39.mono (by decide) (by decide)) ?_ ?_ ?_), oX, (o39.mono (by decide) (by decide)).wF (by decide)⟩
  · rw [To_take_3_50_eq, if_neg (show ¬ (3 : Int32) = 0 by decide), if_neg (show ¬ (3 : Int32) = 1 by decide), if_neg (show ¬ (3 : Int32) = 2 by decide), a1, ob]
  · rw [R_takesOther_eq, if_neg (show ¬ (3 : Int32) = 1 by decide), if_neg (show ¬ (3 : Int32) = 2 by decide)]; exact c1
  · obtain ⟨x0, x1, x2, x3, x4, x5, x6, x7⟩ := hi.2.2.2.2.1.2.2.2
    refine ⟨by rw [oX.1 _ _ (by decide)]; exact x0, by rw [oX.1 _ _ (by decide)]; exact x1, by rw [oX.2.1 _ (by decide)]; exact x2, by rw [oX.2.1 _ (by decide), oX.2.1 _ (by decide)]; exact x3, ⟨a2, fun i hi => ?_⟩, by rw [oX.1 _ _ (by decide), oX.2.1 _ (by decide)]; exact x5, by rw [oX.1 _ _ (by decide), oX.2.1 _ (by decide)]; exact x6, by rw [oX.1 _ _ (by decide), oX.2.1 _ (by decide)]; exact x7⟩
    have hi : i < l := hi
    have hs := ls1.2.2 i hi
    have ha := hA i hi
    show X2.2.1 16 (4 * i) = nI (A i 0) ∧ X2.2.1 16 (4 * i + 1) = nI (320 + (A i 1 - 320)) ∧ X2.2.1 16 (4 * i + 2) = nI (A i 2)
    rw [a3 _ (by omega), a3 _ (by omega), a3 _ (by omega), show 320 + (A i 1 - 320) = A i 1 from by omega]
    exact hs
  · obtain ⟨⟨y0, y1, y2, y3, y4, y5⟩, z1, z2, z3, z4, z5, z6⟩ := hi.2.2.2.2.2.1.2.2.2
    refine ⟨⟨by rw [o39.1 _ _ (by decide)]; exact y0, by rw [o39.1 _ _ (by decide)]; exact y1, by rw [wF_1, sA_eq, upd_eq]; rfl, by rw [o39.1 _ _ (by decide)]; exact y3, by rw [o39.1 _ _ (by decide)]; exact y4, by rw [o39.1 _ _ (by decide)]; exact y5⟩, by rw [o39.2.1 18 (by decide)]; exact z1, by rw [o39.2.1 19 (by decide), o39.2.1 20 (by decide)]; exact z2, fun i hi => ?_, by rw [o39.2.1 24 (by decide), o39.2.1 25 (by decide)]; exact z4, by rw [o39.2.1 29 (by decide), o39.2.1 30 (by decide)]; exact z5, by rw [o39.2.1 31 (by decide), o39.2.1 32 (by decide), o39.2.1 33 (by decide)]; exact z6⟩
    have hi : i < l := hi
    have hs := h21 i hi
    show S'.2.1 21 (3 * i) = nI (A i 0) ∧ S'.2.1 21 (3 * i + 1) = nI (A i 1 - 320) ∧ S'.2.1 21 (3 * i + 2) = nI (A i 2)
    rw [c2 _ (by omega), c2 _ (by omega), c2 _ (by omega)]
    exact hs
  · obtain ⟨⟨w0, w1⟩, w2, w3, w4, w5, w6, w7⟩ := hi.2.2.2.1.2.2.2
    refine ⟨⟨w0, w1⟩, w2, w3, ⟨hl, fun i hi => ?_⟩, w5, w6, w7⟩
    obtain ⟨a, b, c, d, e⟩ := hA i hi
    show A i 0 ≤ 99 ∧ A i 1 - 320 < 4 ∧ A i 2 ≤ 14 ∧ (2 ≤ A i 1 - 320 → A i 2 < n)
    exact ⟨a, by omega, d, fun z => e (by omega)⟩
