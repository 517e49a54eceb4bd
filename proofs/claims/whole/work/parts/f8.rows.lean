/-! What is told in rows: ahead, asked, noted. -/
def clrT (q : Nat) (T : tL) : tL := fun a i => if a = 0 then (if i = q then 0 else T 0 i) else T a i
def addT (q m r x y z : Nat) (T : tL) : tL := fun a i => if a = 0 then (if i = q then m + 1 else T 0 i) else if a = r then (if i = m then x else T a i) else if a = r + 1 then (if i = m then y else T a i) else if a = 13 then (if r = 11 then (if i = m then z else T a i) else T a i) else T a i
abbrev FO : List (Nat × Nat) := [(17, 2), (19, 2), (21, 2)]
abbrev WO : List Nat := [18, 20, 22]
abbrev GO : List (Nat × Nat) := [(0, 0), (0, 43), (0, 49), (0, 52)]
abbrev VO : List Nat := [24, 25, 29, 30, 31, 32, 33]
/-- only what is told in rows is changed -/
theorem tolI {X X' R R' : pS} {n : Nat} {D : tD} {B : tB} {L T T' : tL} (hcx : ConX X) (hcr : ConR R) (him : Img X R) (htp : Tap X R) (hw : Wf n D B L T) (hX : XA D B L T X) (hR : RA n D B L T R) (hH : Hst n B X R) (hx : Off FO WO X X') (hr : Off GO VO R R') (hw' : WT n T') (h1 : XT 3 T' X') (h2 : RTm T' R') : INV X' R' := by
  refine ⟨ConX_off hcx hx (by decide), ConR_off hcr hr (by decide) (by decide), Img_off him hx hr (by decide) (fun o a h => by simp; omega) (fun o h1 h2 => by simp; omega) (by decide) (by decide), Tap_off htp hx hr (by decide) (by decide) (by decide) (by decide), n, D, B, L, T', ⟨hw.1, hw.2.1, hw.2.2.1, hw'⟩, ?_, ?_, Hst_off hH hx hr (by decide) (fun o a h1 h2 => by simp; omega) (fun o h1 h2 => by simp; omega) (by decide) (by decide)⟩
  · obtain ⟨a, b, c, d⟩ := hX
    exact ⟨XD_off a hx (fun i h1 h2 => by simp) (by decide), XB_off b hx (by decide) (by decide), XL_off c hx (by decide) (by decide) (by decide) (by decide) (by decide) (by decide) (by decide), h1⟩
  · obtain ⟨a, b, c, d⟩ := hR
    exact ⟨RDm_off a hr (by decide) (by decide) (by decide) (by decide) (by decide), RB_off b hr (by decide) (by decide), RLm_off c hr (fun i a b => by simp; omega), h2⟩
theorem WPl_cl {n q : Nat} {T : tL} (h : WPl (T 0 2) n (plA T)) : WPl (T 0 2) n (plA (clrT q T)) := h
theorem m4 (m : Nat) : nI m * (4 : Int32) = nI (4 * m) := by
  rw [show (4 : Int32) = nI 4 from rfl]
  unfold nI
  rw [← Int32.ofNat_mul, Nat.mul_comm]

theorem add_17 {m : Nat} (a b c : Int32) {X : pS} (h1 : X.1 17 2 = nI m) (h0 : X.1 17 0 = nI 12) (hm : m ≤ 12) : Ro_add_17 a b c 0 X = if m < 12 then some (nI (m + 1), wF (wA (wA (wA (wA X 18 (nI (4 * m)) a) 18 (nI (4 * m + 1)) b) 18 (nI (4 * m + 2)) c) 18 (nI (4 * m + 3)) 0) 17 2 (nI (m + 1))) else some (-1, X) := by
  rw [Ro_add_17_eq, show rF X 17 2 = nI m from h1, show rF X 17 0 = nI 12 from h0]
  rw [m4]
  by_cases q : m < 12
  · rw [if_pos (show nI m < nI 12 by rw [nI_ltE (by omega) (by omega)]; exact q), if_pos q]
    rw [show nI (4 * m) + (1 : Int32) = nI (4 * m + 1) from nI_add _ 1, show nI (4 * m) + (2 : Int32) = nI (4 * m + 2) from nI_add _ 2, show nI (4 * m) + (3 : Int32) = nI (4 * m + 3) from nI_add _ 3, show nI m + (1 : Int32) = nI (m + 1) from nI_add _ 1]
    rw [if_pos (inb_n (by omega) (by omega)), if_pos (inb_n (by omega) (by omega)), if_pos (inb_n (by omega) (by omega)), if_pos (inb_n (by omega) (by omega))]
  · rw [if_neg (show ¬ nI m < nI 12 by rw [nI_ltE (by omega) (by omega)]; exact q), if_neg q]
theorem clr_17 {T : tL} {X : pS} (h : XT 3 T X) : XT 3 (clrT 3 T) (wF X 17 2 0) := by
  obtain ⟨a0, a1, a2, a3, a4, a5, a6, a7⟩ := h
  have e : ∀ x, x ≠ 17 → (wF X 17 2 0).1 x = X.1 x := fun x hx => by rw [wF_1, sA_ne hx]
  refine ⟨by rw [e 3 (by decide)]; exact a0, by rw [e 3 (by decide)]; exact a1, a2, a3, ⟨by rw [e (3 + 12) (by decide)]; exact a4.1, a4.2⟩, ⟨by rw [wF_1, sA_eq, upd_eq]; rfl, fun i hi => absurd hi (Nat.not_lt_zero i)⟩, ⟨by rw [e (3 + 16) (by decide)]; exact a6.1, a6.2⟩, ⟨by rw [e (3 + 18) (by decide)]; exact a7.1, a7.2⟩⟩
theorem put_17 {T : tL} {X : pS} {m x y z : Nat} (h : XT 3 T X) (hm : T 0 3 = m) (hl : m < 12) : XT 3 (addT 3 m 7 x y z T) (wF (wA (wA (wA (wA X 18 (nI (4 * m)) (nI x)) 18 (nI (4 * m + 1)) (nI y)) 18 (nI (4 * m + 2)) (nI z)) 18 (nI (4 * m + 3)) 0) 17 2 (nI (m + 1))) := by
  obtain ⟨a0, a1, a2, a3, a4, a5, a6, a7⟩ := h
  obtain ⟨X', hX'⟩ : ∃ X', X' = wF (wA (wA (wA (wA X 18 (nI (4 * m)) (nI x)) 18 (nI (4 * m + 1)) (nI y)) 18 (nI (4 * m + 2)) (nI z)) 18 (nI (4 * m + 3)) 0) 17 2 (nI (m + 1)) := ⟨_, rfl⟩
  have e1 : X'.2.1 18 = upd (upd (upd (upd (X.2.1 18) (4 * m) (nI x)) (4 * m + 1) (nI y)) (4 * m + 2) (nI z)) (4 * m + 3) 0 := by
    rw [hX', wF_2, wA_21 (by omega), sA_eq, wA_21 (by omega), sA_eq, wA_21 (by omega), sA_eq, wA_21 (by omega), sA_eq]
  have e2 : X'.1 17 2 = nI (m + 1) := by rw [hX', wF_1, sA_eq, upd_eq]
  have ho : Off [(17, 2)] [18] X X' := by
    rw [hX']
    exact ((((Off.rf.wA (by decide)).wA (by decide)).wA (by decide)).wA (by decide)).wF (by decide)
  rw [← hX']
  refine ⟨by rw [ho.1 _ _ (by decide)]; exact a0, by rw [ho.1 _ _ (by decide)]; exact a1, by rw [ho.2.1 _ (by decide)]; exact a2, by rw [ho.2.1 _ (by decide), ho.2.1 _ (by decide)]; exact a3, by rw [ho.1 _ _ (by decide), ho.2.1 _ (by decide)]; exact a4, ⟨e2, ?_⟩, by rw [ho.1 _ _ (by decide), ho.2.1 _ (by decide)]; exact a6, by rw [ho.1 _ _ (by decide), ho.2.1 _ (by decide)]; exact a7⟩
  intro i hi
  have hi' : i < m + 1 := hi
  show X'.2.1 18 (4 * i) = nI (if i = m then x else T 7 i) ∧ X'.2.1 18 (4 * i + 1) = nI (if i = m then y else T 8 i)
  rw [e1]
  by_cases e : i = m
  · subst e
    simp only [if_true]
    refine ⟨?_, ?_⟩
    · rw [upd_ne (by omega), upd_ne (by omega), upd_ne (by omega), upd_eq]
    · rw [upd_ne (by omega), upd_ne (by omega), upd_eq]
  · simp only [e, if_false]
    rw [upd_ne (by omega), upd_ne (by omega), upd_ne (by omega), upd_ne (by omega), upd_ne (by omega), upd_ne (by omega), upd_ne (by omega), upd_ne (by omega)]
    exact a5.2 i (by omega)
theorem clrR_17 {T : tL} {R : pS} (h : RTm T R) : RTm (clrT 3 T) (wF (wF R 0 0 0) 0 43 0) := by
  obtain ⟨⟨b0, b1, b2, b3, b4, b5⟩, a1, a2, a3, a4, a5, a6⟩ := h
  have e : ∀ x, x ≠ 43 → x ≠ 0 → (wF (wF R 0 0 0) 0 43 0).1 0 x = R.1 0 x := fun x hx h0 => by rw [wF_1, sA_eq, upd_ne hx, wF_1, sA_eq, upd_ne h0]
  refine ⟨⟨by rw [e _ (by decide) (by decide)]; exact b0, by rw [e _ (by decide) (by decide)]; exact b1, by rw [e _ (by decide) (by decide)]; exact b2, by rw [wF_1, sA_eq, upd_eq]; rfl, by rw [e _ (by decide) (by decide)]; exact b4, by rw [e _ (by decide) (by decide)]; exact b5⟩, a1, a2, a3, fun i hi => absurd hi (Nat.not_lt_zero i), a5, a6⟩
theorem putR_17 {T : tL} {R : pS} {m x y z : Nat} (h : RTm T R) (hm : T 0 3 = m) (hl : m < 12) : RTm (addT 3 m 7 x y z T) (wF (wA (wA (wF R 0 0 0) 24 (nI m) (nI x)) 25 (nI m) (nI y)) 0 43 (nI (m + 1))) := by
  obtain ⟨R', hR'⟩ : ∃ R', R' = wF (wA (wA (wF R 0 0 0) 24 (nI m) (nI x)) 25 (nI m) (nI y)) 0 43 (nI (m + 1)) := ⟨_, rfl⟩
  have e0 : R'.2.1 24 = upd (R.2.1 24) m (nI x) := by
    rw [hR', wF_2, wA_21 (by omega), sA_ne (by decide), wA_21 (by omega), sA_eq, wF_2]
  have e1 : R'.2.1 25 = upd (R.2.1 25) m (nI y) := by
    rw [hR', wF_2, wA_21 (by omega), sA_eq, wA_21 (by omega), sA_ne (by decide), wF_2]
  have e9 : R'.1 0 43 = nI (m + 1) := by rw [hR', wF_1, sA_eq, upd_eq]
  have ho : Off [(0, 0), (0, 43)] [24, 25] R R' := by
    rw [hR']
    exact ((((Off.rf.wF (by decide))).wA (by decide)).wA (by decide)).wF (by decide)
  rw [← hR']
  obtain ⟨⟨b0, b1, b2, b3, b4, b5⟩, a1, a2, a3, a4, a5, a6⟩ := h
  refine ⟨⟨by rw [ho.1 _ _ (by decide)]; exact b0, by rw [ho.1 _ _ (by decide)]; exact b1, by rw [ho.1 _ _ (by decide)]; exact b2, e9, by rw [ho.1 _ _ (by decide)]; exact b4, by rw [ho.1 _ _ (by decide)]; exact b5⟩, by rw [ho.2.1 _ (by decide)]; exact a1, by rw [ho.2.1 _ (by decide), ho.2.1 _ (by decide)]; exact a2, by rw [ho.2.1 _ (by decide)]; exact a3, fun i hi => ?_, by rw [ho.2.1 _ (by decide), ho.2.1 _ (by decide)]; exact a5, by rw [ho.2.1 _ (by decide), ho.2.1 _ (by decide), ho.2.1 _ (by decide)]; exact a6⟩
  have hi' : i < m + 1 := hi
  show R'.2.1 24 i = nI (if i = m then x else T 7 i) ∧ R'.2.1 25 i = nI (if i = m then y else T 8 i)
  rw [e0, e1]
  by_cases e : i = m
  · subst e
    simp only [if_true, upd_eq, and_self]
  · simp only [e, if_false]
    rw [upd_ne e, upd_ne e]
    exact a4 i (by omega)

theorem add_19 {m : Nat} (a b c : Int32) {X : pS} (h1 : X.1 19 2 = nI m) (h0 : X.1 19 0 = nI 10) (hm : m ≤ 10) : Ro_add_19 a b c 0 X = if m < 10 then some (nI (m + 1), wF (wA (wA (wA (wA X 20 (nI (4 * m)) a) 20 (nI (4 * m + 1)) b) 20 (nI (4 * m + 2)) c) 20 (nI (4 * m + 3)) 0) 19 2 (nI (m + 1))) else some (-1, X) := by
  rw [Ro_add_19_eq, show rF X 19 2 = nI m from h1, show rF X 19 0 = nI 10 from h0]
  rw [m4]
  by_cases q : m < 10
  · rw [if_pos (show nI m < nI 10 by rw [nI_ltE (by omega) (by omega)]; exact q), if_pos q]
    rw [show nI (4 * m) + (1 : Int32) = nI (4 * m + 1) from nI_add _ 1, show nI (4 * m) + (2 : Int32) = nI (4 * m + 2) from nI_add _ 2, show nI (4 * m) + (3 : Int32) = nI (4 * m + 3) from nI_add _ 3, show nI m + (1 : Int32) = nI (m + 1) from nI_add _ 1]
    rw [if_pos (inb_n (by omega) (by omega)), if_pos (inb_n (by omega) (by omega)), if_pos (inb_n (by omega) (by omega)), if_pos (inb_n (by omega) (by omega))]
  · rw [if_neg (show ¬ nI m < nI 10 by rw [nI_ltE (by omega) (by omega)]; exact q), if_neg q]
theorem clr_19 {T : tL} {X : pS} (h : XT 3 T X) : XT 3 (clrT 4 T) (wF X 19 2 0) := by
  obtain ⟨a0, a1, a2, a3, a4, a5, a6, a7⟩ := h
  have e : ∀ x, x ≠ 19 → (wF X 19 2 0).1 x = X.1 x := fun x hx => by rw [wF_1, sA_ne hx]
  refine ⟨by rw [e 3 (by decide)]; exact a0, by rw [e 3 (by decide)]; exact a1, a2, a3, ⟨by rw [e (3 + 12) (by decide)]; exact a4.1, a4.2⟩, ⟨by rw [e (3 + 14) (by decide)]; exact a5.1, a5.2⟩, ⟨by rw [wF_1, sA_eq, upd_eq]; rfl, fun i hi => absurd hi (Nat.not_lt_zero i)⟩, ⟨by rw [e (3 + 18) (by decide)]; exact a7.1, a7.2⟩⟩
theorem put_19 {T : tL} {X : pS} {m x y z : Nat} (h : XT 3 T X) (hm : T 0 4 = m) (hl : m < 10) : XT 3 (addT 4 m 9 x y z T) (wF (wA (wA (wA (wA X 20 (nI (4 * m)) (nI x)) 20 (nI (4 * m + 1)) (nI y)) 20 (nI (4 * m + 2)) (nI z)) 20 (nI (4 * m + 3)) 0) 19 2 (nI (m + 1))) := by
  obtain ⟨a0, a1, a2, a3, a4, a5, a6, a7⟩ := h
  obtain ⟨X', hX'⟩ : ∃ X', X' = wF (wA (wA (wA (wA X 20 (nI (4 * m)) (nI x)) 20 (nI (4 * m + 1)) (nI y)) 20 (nI (4 * m + 2)) (nI z)) 20 (nI (4 * m + 3)) 0) 19 2 (nI (m + 1)) := ⟨_, rfl⟩
  have e1 : X'.2.1 20 = upd (upd (upd (upd (X.2.1 20) (4 * m) (nI x)) (4 * m + 1) (nI y)) (4 * m + 2) (nI z)) (4 * m + 3) 0 := by
    rw [hX', wF_2, wA_21 (by omega), sA_eq, wA_21 (by omega), sA_eq, wA_21 (by omega), sA_eq, wA_21 (by omega), sA_eq]
  have e2 : X'.1 19 2 = nI (m + 1) := by rw [hX', wF_1, sA_eq, upd_eq]
  have ho : Off [(19, 2)] [20] X X' := by
    rw [hX']
    exact ((((Off.rf.wA (by decide)).wA (by decide)).wA (by decide)).wA (by decide)).wF (by decide)
  rw [← hX']
  refine ⟨by rw [ho.1 _ _ (by decide)]; exact a0, by rw [ho.1 _ _ (by decide)]; exact a1, by rw [ho.2.1 _ (by decide)]; exact a2, by rw [ho.2.1 _ (by decide), ho.2.1 _ (by decide)]; exact a3, by rw [ho.1 _ _ (by decide), ho.2.1 _ (by decide)]; exact a4, by rw [ho.1 _ _ (by decide), ho.2.1 _ (by decide)]; exact a5, ⟨e2, ?_⟩, by rw [ho.1 _ _ (by decide), ho.2.1 _ (by decide)]; exact a7⟩
  intro i hi
  have hi' : i < m + 1 := hi
  show X'.2.1 20 (4 * i) = nI (if i = m then x else T 9 i) ∧ X'.2.1 20 (4 * i + 1) = nI (if i = m then y else T 10 i)
  rw [e1]
  by_cases e : i = m
  · subst e
    simp only [if_true]
    refine ⟨?_, ?_⟩
    · rw [upd_ne (by omega), upd_ne (by omega), upd_ne (by omega), upd_eq]
    · rw [upd_ne (by omega), upd_ne (by omega), upd_eq]
  · simp only [e, if_false]
    rw [upd_ne (by omega), upd_ne (by omega), upd_ne (by omega), upd_ne (by omega), upd_ne (by omega), upd_ne (by omega), upd_ne (by omega), upd_ne (by omega)]
    exact a6.2 i (by omega)
theorem clrR_19 {T : tL} {R : pS} (h : RTm T R) : RTm (clrT 4 T) (wF (wF R 0 0 0) 0 49 0) := by
  obtain ⟨⟨b0, b1, b2, b3, b4, b5⟩, a1, a2, a3, a4, a5, a6⟩ := h
  have e : ∀ x, x ≠ 49 → x ≠ 0 → (wF (wF R 0 0 0) 0 49 0).1 0 x = R.1 0 x := fun x hx h0 => by rw [wF_1, sA_eq, upd_ne hx, wF_1, sA_eq, upd_ne h0]
  refine ⟨⟨by rw [e _ (by decide) (by decide)]; exact b0, by rw [e _ (by decide) (by decide)]; exact b1, by rw [e _ (by decide) (by decide)]; exact b2, by rw [e _ (by decide) (by decide)]; exact b3, by rw [wF_1, sA_eq, upd_eq]; rfl, by rw [e _ (by decide) (by decide)]; exact b5⟩, a1, a2, a3, a4, fun i hi => absurd hi (Nat.not_lt_zero i), a6⟩
theorem putR_19 {T : tL} {R : pS} {m x y z : Nat} (h : RTm T R) (hm : T 0 4 = m) (hl : m < 10) : RTm (addT 4 m 9 x y z T) (wF (wA (wA (wF R 0 0 0) 29 (nI m) (nI x)) 30 (nI m) (nI y)) 0 49 (nI (m + 1))) := by
  obtain ⟨R', hR'⟩ : ∃ R', R' = wF (wA (wA (wF R 0 0 0) 29 (nI m) (nI x)) 30 (nI m) (nI y)) 0 49 (nI (m + 1)) := ⟨_, rfl⟩
  have e0 : R'.2.1 29 = upd (R.2.1 29) m (nI x) := by
    rw [hR', wF_2, wA_21 (by omega), sA_ne (by decide), wA_21 (by omega), sA_eq, wF_2]
  have e1 : R'.2.1 30 = upd (R.2.1 30) m (nI y) := by
    rw [hR', wF_2, wA_21 (by omega), sA_eq, wA_21 (by omega), sA_ne (by decide), wF_2]
  have e9 : R'.1 0 49 = nI (m + 1) := by rw [hR', wF_1, sA_eq, upd_eq]
  have ho : Off [(0, 0), (0, 49)] [29, 30] R R' := by
    rw [hR']
    exact ((((Off.rf.wF (by decide))).wA (by decide)).wA (by decide)).wF (by decide)
  rw [← hR']
  obtain ⟨⟨b0, b1, b2, b3, b4, b5⟩, a1, a2, a3, a4, a5, a6⟩ := h
  refine ⟨⟨by rw [ho.1 _ _ (by decide)]; exact b0, by rw [ho.1 _ _ (by decide)]; exact b1, by rw [ho.1 _ _ (by decide)]; exact b2, by rw [ho.1 _ _ (by decide)]; exact b3, e9, by rw [ho.1 _ _ (by decide)]; exact b5⟩, by rw [ho.2.1 _ (by decide)]; exact a1, by rw [ho.2.1 _ (by decide), ho.2.1 _ (by decide)]; exact a2, by rw [ho.2.1 _ (by decide)]; exact a3, by rw [ho.2.1 _ (by decide), ho.2.1 _ (by decide)]; exact a4, fun i hi => ?_, by rw [ho.2.1 _ (by decide), ho.2.1 _ (by decide), ho.2.1 _ (by decide)]; exact a6⟩
  have hi' : i < m + 1 := hi
  show R'.2.1 29 i = nI (if i = m then x else T 9 i) ∧ R'.2.1 30 i = nI (if i = m then y else T 10 i)
  rw [e0, e1]
  by_cases e : i = m
  · subst e
    simp only [if_true, upd_eq, and_self]
  · simp only [e, if_false]
    rw [upd_ne e, upd_ne e]
    exact a5 i (by omega)

theorem add_21 {m : Nat} (a b c : Int32) {X : pS} (h1 : X.1 21 2 = nI m) (h0 : X.1 21 0 = nI 8) (hm : m ≤ 8) : Ro_add_21 a b c 0 X = if m < 8 then some (nI (m + 1), wF (wA (wA (wA (wA X 22 (nI (4 * m)) a) 22 (nI (4 * m + 1)) b) 22 (nI (4 * m + 2)) c) 22 (nI (4 * m + 3)) 0) 21 2 (nI (m + 1))) else some (-1, X) := by
  rw [Ro_add_21_eq, show rF X 21 2 = nI m from h1, show rF X 21 0 = nI 8 from h0]
  rw [m4]
  by_cases q : m < 8
  · rw [if_pos (show nI m < nI 8 by rw [nI_ltE (by omega) (by omega)]; exact q), if_pos q]
    rw [show nI (4 * m) + (1 : Int32) = nI (4 * m + 1) from nI_add _ 1, show nI (4 * m) + (2 : Int32) = nI (4 * m + 2) from nI_add _ 2, show nI (4 * m) + (3 : Int32) = nI (4 * m + 3) from nI_add _ 3, show nI m + (1 : Int32) = nI (m + 1) from nI_add _ 1]
    rw [if_pos (inb_n (by omega) (by omega)), if_pos (inb_n (by omega) (by omega)), if_pos (inb_n (by omega) (by omega)), if_pos (inb_n (by omega) (by omega))]
  · rw [if_neg (show ¬ nI m < nI 8 by rw [nI_ltE (by omega) (by omega)]; exact q), if_neg q]
theorem clr_21 {T : tL} {X : pS} (h : XT 3 T X) : XT 3 (clrT 5 T) (wF X 21 2 0) := by
  obtain ⟨a0, a1, a2, a3, a4, a5, a6, a7⟩ := h
  have e : ∀ x, x ≠ 21 → (wF X 21 2 0).1 x = X.1 x := fun x hx => by rw [wF_1, sA_ne hx]
  refine ⟨by rw [e 3 (by decide)]; exact a0, by rw [e 3 (by decide)]; exact a1, a2, a3, ⟨by rw [e (3 + 12) (by decide)]; exact a4.1, a4.2⟩, ⟨by rw [e (3 + 14) (by decide)]; exact a5.1, a5.2⟩, ⟨by rw [e (3 + 16) (by decide)]; exact a6.1, a6.2⟩, ⟨by rw [wF_1, sA_eq, upd_eq]; rfl, fun i hi => absurd hi (Nat.not_lt_zero i)⟩⟩
theorem put_21 {T : tL} {X : pS} {m x y z : Nat} (h : XT 3 T X) (hm : T 0 5 = m) (hl : m < 8) : XT 3 (addT 5 m 11 x y z T) (wF (wA (wA (wA (wA X 22 (nI (4 * m)) (nI x)) 22 (nI (4 * m + 1)) (nI y)) 22 (nI (4 * m + 2)) (nI z)) 22 (nI (4 * m + 3)) 0) 21 2 (nI (m + 1))) := by
  obtain ⟨a0, a1, a2, a3, a4, a5, a6, a7⟩ := h
  obtain ⟨X', hX'⟩ : ∃ X', X' = wF (wA (wA (wA (wA X 22 (nI (4 * m)) (nI x)) 22 (nI (4 * m + 1)) (nI y)) 22 (nI (4 * m + 2)) (nI z)) 22 (nI (4 * m + 3)) 0) 21 2 (nI (m + 1)) := ⟨_, rfl⟩
  have e1 : X'.2.1 22 = upd (upd (upd (upd (X.2.1 22) (4 * m) (nI x)) (4 * m + 1) (nI y)) (4 * m + 2) (nI z)) (4 * m + 3) 0 := by
    rw [hX', wF_2, wA_21 (by omega), sA_eq, wA_21 (by omega), sA_eq, wA_21 (by omega), sA_eq, wA_21 (by omega), sA_eq]
  have e2 : X'.1 21 2 = nI (m + 1) := by rw [hX', wF_1, sA_eq, upd_eq]
  have ho : Off [(21, 2)] [22] X X' := by
    rw [hX']
    exact ((((Off.rf.wA (by decide)).wA (by decide)).wA (by decide)).wA (by decide)).wF (by decide)
  rw [← hX']
  refine ⟨by rw [ho.1 _ _ (by decide)]; exact a0, by rw [ho.1 _ _ (by decide)]; exact a1, by rw [ho.2.1 _ (by decide)]; exact a2, by rw [ho.2.1 _ (by decide), ho.2.1 _ (by decide)]; exact a3, by rw [ho.1 _ _ (by decide), ho.2.1 _ (by decide)]; exact a4, by rw [ho.1 _ _ (by decide), ho.2.1 _ (by decide)]; exact a5, by rw [ho.1 _ _ (by decide), ho.2.1 _ (by decide)]; exact a6, ⟨e2, ?_⟩⟩
  intro i hi
  have hi' : i < m + 1 := hi
  show X'.2.1 22 (4 * i) = nI (if i = m then x else T 11 i) ∧ X'.2.1 22 (4 * i + 1) = nI (if i = m then y else T 12 i) ∧ X'.2.1 22 (4 * i + 2) = nI (if i = m then z else T 13 i)
  rw [e1]
  by_cases e : i = m
  · subst e
    simp only [if_true]
    refine ⟨?_, ?_, ?_⟩
    · rw [upd_ne (by omega), upd_ne (by omega), upd_ne (by omega), upd_eq]
    · rw [upd_ne (by omega), upd_ne (by omega), upd_eq]
    · rw [upd_ne (by omega), upd_eq]
  · simp only [e, if_false]
    rw [upd_ne (by omega), upd_ne (by omega), upd_ne (by omega), upd_ne (by omega), upd_ne (by omega), upd_ne (by omega), upd_ne (by omega), upd_ne (by omega), upd_ne (by omega), upd_ne (by omega), upd_ne (by omega), upd_ne (by omega)]
    exact a7.2 i (by omega)
theorem clrR_21 {T : tL} {R : pS} (h : RTm T R) : RTm (clrT 5 T) (wF (wF R 0 0 0) 0 52 0) := by
  obtain ⟨⟨b0, b1, b2, b3, b4, b5⟩, a1, a2, a3, a4, a5, a6⟩ := h
  have e : ∀ x, x ≠ 52 → x ≠ 0 → (wF (wF R 0 0 0) 0 52 0).1 0 x = R.1 0 x := fun x hx h0 => by rw [wF_1, sA_eq, upd_ne hx, wF_1, sA_eq, upd_ne h0]
  refine ⟨⟨by rw [e _ (by decide) (by decide)]; exact b0, by rw [e _ (by decide) (by decide)]; exact b1, by rw [e _ (by decide) (by decide)]; exact b2, by rw [e _ (by decide) (by decide)]; exact b3, by rw [e _ (by decide) (by decide)]; exact b4, by rw [wF_1, sA_eq, upd_eq]; rfl⟩, a1, a2, a3, a4, a5, fun i hi => absurd hi (Nat.not_lt_zero i)⟩
theorem putR_21 {T : tL} {R : pS} {m x y z : Nat} (h : RTm T R) (hm : T 0 5 = m) (hl : m < 8) : RTm (addT 5 m 11 x y z T) (wF (wA (wA (wA (wF R 0 0 0) 31 (nI m) (nI x)) 32 (nI m) (nI y)) 33 (nI m) (nI z)) 0 52 (nI (m + 1))) := by
  obtain ⟨R', hR'⟩ : ∃ R', R' = wF (wA (wA (wA (wF R 0 0 0) 31 (nI m) (nI x)) 32 (nI m) (nI y)) 33 (nI m) (nI z)) 0 52 (nI (m + 1)) := ⟨_, rfl⟩
  have e0 : R'.2.1 31 = upd (R.2.1 31) m (nI x) := by
    rw [hR', wF_2, wA_21 (by omega), sA_ne (by decide), wA_21 (by omega), sA_ne (by decide), wA_21 (by omega), sA_eq, wF_2]
  have e1 : R'.2.1 32 = upd (R.2.1 32) m (nI y) := by
    rw [hR', wF_2, wA_21 (by omega), sA_ne (by decide), wA_21 (by omega), sA_eq, wA_21 (by omega), sA_ne (by decide), wF_2]
  have e2 : R'.2.1 33 = upd (R.2.1 33) m (nI z) := by
    rw [hR', wF_2, wA_21 (by omega), sA_eq, wA_21 (by omega), sA_ne (by decide), wA_21 (by omega), sA_ne (by decide), wF_2]
  have e9 : R'.1 0 52 = nI (m + 1) := by rw [hR', wF_1, sA_eq, upd_eq]
  have ho : Off [(0, 0), (0, 52)] [31, 32, 33] R R' := by
    rw [hR']
    exact (((((Off.rf.wF (by decide))).wA (by decide)).wA (by decide)).wA (by decide)).wF (by decide)
  rw [← hR']
  obtain ⟨⟨b0, b1, b2, b3, b4, b5⟩, a1, a2, a3, a4, a5, a6⟩ := h
  refine ⟨⟨by rw [ho.1 _ _ (by decide)]; exact b0, by rw [ho.1 _ _ (by decide)]; exact b1, by rw [ho.1 _ _ (by decide)]; exact b2, by rw [ho.1 _ _ (by decide)]; exact b3, by rw [ho.1 _ _ (by decide)]; exact b4, e9⟩, by rw [ho.2.1 _ (by decide)]; exact a1, by rw [ho.2.1 _ (by decide), ho.2.1 _ (by decide)]; exact a2, by rw [ho.2.1 _ (by decide)]; exact a3, by rw [ho.2.1 _ (by decide), ho.2.1 _ (by decide)]; exact a4, by rw [ho.2.1 _ (by decide), ho.2.1 _ (by decide)]; exact a5, fun i hi => ?_⟩
  have hi' : i < m + 1 := hi
  show R'.2.1 31 i = nI (if i = m then x else T 11 i) ∧ R'.2.1 32 i = nI (if i = m then y else T 12 i) ∧ R'.2.1 33 i = nI (if i = m then z else T 13 i)
  rw [e0, e1, e2]
  by_cases e : i = m
  · subst e
    simp only [if_true, upd_eq, and_self]
  · simp only [e, if_false]
    rw [upd_ne e, upd_ne e, upd_ne e]
    exact a6 i (by omega)
