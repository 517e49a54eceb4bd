/-! The law told by the class, of the drawer at cell 1. -/
/-- a number below a bound is within it -/
theorem wth {c m : Nat} {S : pS} (h : c < m) (hm : m < 2147483648) : C_within (nI c) (nI m) S = some (1, S) := by
  rw [C_within_eq, if_neg (nI_pos (by omega)), if_pos (by rw [nI_ltE (by omega) hm]; exact h)]
theorem read_1 {n : Nat} {D : tD} {S : pS} (hX : XD 1 D S) {c r : Nat} (hr : r < 7) (hc : c < 14) : Dr_read_1 (nI c) (nI r) S = some (D r c, S) := by
  rw [Dr_read_1_eq, show C_within (nI c) (14 : Int32) S = _ from wth (m := 14) hc (by omega), ob, if_neg (show ¬ (1 : Int32) = 0 by decide), show C_within (nI r) (7 : Int32) S = _ from wth (m := 7) hr (by omega), ob, if_neg (show ¬ (1 : Int32) = 0 by decide)]
  simp (disch := omega) only [fa_lit, pk_mul, nI_add, inb_n, if_true, rA_n]
  rw [← hX.1 r c hr hc]
theorem XD_off_1 {D : tD} {S S' : pS} {F : List (Nat × Nat)} {W : List Nat} (h : XD 1 D S) (ho : Off F W S S') (h1 : ∀ i, 1 ≤ i → i < 8 → (1, i) ∉ F) (h2 : 2 ∉ W) : XD 1 D S' := ⟨fun r c hr hc => by rw [ho.2.1 _ h2]; exact h.1 r c hr hc, fun i a b => by rw [ho.1 _ _ (h1 i a b)]; exact h.2 i a b⟩
theorem tell_k_1 {D : tD} {c : Nat} {w : Int32} (hc : c < 14) : ∀ (k i : Nat) (S : pS), i + k = 7 → XD 1 D S → ∃ S', La_tell_4_1_c3 (nI c) w (nI i) S = La_tell_4_1_c3 (nI c) w (nI 7) S' ∧ Off [] [10] S S' ∧ ∀ j, j < 7 → (i ≤ j → S'.2.1 10 j = D j c) ∧ (j < i → S'.2.1 10 j = S.2.1 10 j) := by
  intro k
  induction k with
  | zero =>
    intro i S hi hX
    have : i = 7 := by omega
    subst this
    exact ⟨S, rfl, Off.rf, fun j hj => ⟨fun h => by omega, fun _ => rfl⟩⟩
  | succ k ih =>
    intro i S hi hX
    have ho : Off [] [10] S (wA S 10 (nI i) (D i c)) := Off.rf.wA (by decide)
    obtain ⟨S', h1, h2, h3⟩ := ih (i + 1) (wA S 10 (nI i) (D i c)) (by omega) (XD_off_1 hX ho (fun _ _ _ => by simp) (by decide))
    refine ⟨S', ?_, ho.tr h2, fun j hj => ⟨fun h => ?_, fun h => ?_⟩⟩
    · rw [La_tell_4_1_c3_eq, ← h1]
      have a : i < 7 := by omega
      simp (disch := omega) only [fa_lit, nI_ltE, a, if_true, read_1 (n := 0) hX (by omega : i < 7) hc, ob, inb_n, nI_add]
    · by_cases e : j = i
      · subst e
        rw [(h3 j hj).2 (by omega), wA_21 (by omega), sA_eq, upd_eq]
      · exact (h3 j hj).1 (by omega)
    · rw [(h3 j hj).2 (by omega), wA_21 (by omega), sA_eq, upd_ne (by omega)]
theorem X_run0 {kn : Nat → Int32} {L : tL} {S : pS} {k e t : Nat} (hL : L 0 1 ≤ 400) (hX : XL 4 L S) (hk : k ≤ e) (he : e ≤ L 0 1) (h : okRun L k (e - k) [] = some [t]) (hkn : ∀ i, i < 9 → S.2.1 10 i = kn i) : ∃ S', La_run_4 (nI k) (nI e) S = some (vRes kn L k (e - k), S') ∧ Off [] [11] S S' := by
  obtain ⟨S', h1, h2⟩ := X_run (kn := kn) hL (e - k) k [] [t] [] S h (by omega) (by simp) trivial trivial hkn hX.2.2.2
  rw [show k + (e - k) = e from by omega] at h1
  exact ⟨S', by rw [La_run_4_eq]; exact h1, h2⟩
theorem XL_off {o : Nat} {L : tL} {S S' : pS} {F : List (Nat × Nat)} {W : List Nat} (h : XL o L S) (ho : Off F W S S') (h1 : (o, 8) ∉ F) (h2 : (o, 7) ∉ F) (h3 : o + 1 ∉ W) (h4 : o + 2 ∉ W) (h5 : o + 3 ∉ W) (h6 : o + 4 ∉ W) (h7 : o + 5 ∉ W) : XL o L S' := by
  unfold XL at *
  rw [ho.1 _ _ h1, ho.1 _ _ h2, ho.2.1 _ h3, ho.2.1 _ h4, ho.2.1 _ h5, ho.2.1 _ h6, ho.2.1 _ h7]
  exact h
theorem tell_l_1 {L : tL} {D : tD} {c w : Nat} (hw : w < 3) (hL : WL L) : ∀ (k l : Nat) (S : pS), l + k = L 0 0 → XL 4 L S → (∀ i, i < 9 → S.2.1 10 i = kno D c i) → ∃ S', La_tell_4_1_c70 (nI w) (age D c) (nI l) S = some (hel w (match fst? (fun l => decide (L 1 l = w) && (decide (L 3 l = L 4 l) || !decide (vRes (kno D c) L (L 3 l) (L 4 l - L 3 l) = 0))) k l with
  | some l => vRes (kno D c) L (L 2 l) (L 3 l - L 2 l)
  | none => unl D c w), S') ∧ Off [] [11] S S' := by
  intro k
  induction k with
  | zero =>
    intro l S hl hX hkn
    refine ⟨S, ?_, Off.rf⟩
    rw [La_tell_4_1_c70_eq]
    have a : ¬ l < L 0 0 := by omega
    have := hL.1
    rw [show rF S 4 8 = nI (L 0 0) from hX.1]
    simp (disch := omega) only [nI_ltE, a, if_false, unl_x hw, ob, hel_x w _ hw]
    rfl
  | succ k ih =>
    intro l S hl hX hkn
    have hlt : l < L 0 0 := by omega
    have h16 := hL.1
    have h400 := hL.2.1
    obtain ⟨w1, w2, w3, w4, ⟨t1, w5⟩, w6⟩ := hL.2.2 l hlt
    obtain ⟨x1, x2, x3, x4⟩ := hX.2.2.1 l hlt
    have x1 : S.2.1 6 l = nI (L 1 l) := x1
    have x2 : S.2.1 7 l = nI (L 2 l) := x2
    have x3 : S.2.1 8 l = nI (L 3 l) := x3
    have x4 : S.2.1 9 l = nI (L 4 l) := x4
    rw [La_tell_4_1_c70_eq, show rF S 4 8 = nI (L 0 0) from hX.1]
    simp (disch := omega) only [nI_ltE, hlt, if_true, inb_n, rA_n, x1, x3, x4, nI_eqE]
    rw [fst?]
    have hit : ∀ S1 : pS, Off [] [11] S S1 → ∃ S', La_tell_4_1_c126 (nI w) (nI l) (nI (L 3 l)) S1 = some (hel w (vRes (kno D c) L (L 2 l) (L 3 l - L 2 l)), S') ∧ Off [] [11] S S' := by
      intro S1 ho
      have hX1 : XL 4 L S1 := XL_off hX ho (by decide) (by decide) (by decide) (by decide) (by decide) (by decide) (by decide)
      obtain ⟨S', q1, q2⟩ := X_run0 (kn := kno D c) h400 hX1 w2 (by omega) w5 (fun i hi => by rw [ho.2.1 10 (by decide)]; exact hkn i hi)
      refine ⟨S', ?_, ho.tr q2⟩
      rw [La_tell_4_1_c126_eq]
      have y2 : S1.2.1 7 l = nI (L 2 l) := by rw [ho.2.1 7 (by decide)]; exact x2
      simp (disch := omega) only [inb_n, if_true, rA_n, y2, q1, ob, hel_x w _ hw]
    have next : ∀ S1 : pS, Off [] [11] S S1 → _ := fun S1 ho => ih (l + 1) S1 (by omega) (XL_off hX ho (by decide) (by decide) (by decide) (by decide) (by decide) (by decide) (by decide)) (fun i hi => by rw [ho.2.1 10 (by decide)]; exact hkn i hi)
    by_cases b1 : L 1 l = w
    · rw [if_pos b1]
      by_cases b2 : L 3 l = L 4 l
      · rw [if_pos b2]
        simp only [b1, b2, decide_true, Bool.true_or, Bool.true_and, if_true]
        rw [← b2]
        exact hit S Off.rf
      · rw [if_neg b2]
        obtain ⟨t2, w7⟩ := w6 (by omega)
        obtain ⟨S1, q1, q2⟩ := X_run0 (kn := kno D c) h400 hX w3 w4 w7 hkn
        rw [q1, ob]
        by_cases b3 : vRes (kno D c) L (L 3 l) (L 4 l - L 3 l) = 0
        · simp only [b3, b2, decide_true, decide_false, Bool.not_true, Bool.or_false, Bool.and_false, if_true, Bool.false_eq_true, if_false]
          obtain ⟨S', r1, r2⟩ := next S1 q2
          refine ⟨S', ?_, q2.tr r2⟩
          rw [← r1, fa_lit, nI_add]
        · simp only [b1, b3, b2, decide_true, decide_false, Bool.not_false, Bool.or_true, Bool.and_true, if_true, if_false]
          exact hit S1 q2
    · rw [if_neg b1]
      simp only [b1, decide_false, Bool.false_and, Bool.false_eq_true, if_false]
      obtain ⟨S', r1, r2⟩ := next S Off.rf
      refine ⟨S', ?_, r2⟩
      rw [← r1, fa_lit, nI_add]
theorem tell_1 {n : Nat} {L : tL} {D : tD} {S : pS} {c w : Nat} (hD : WD n D) (hL : WL L) (hX : XD 1 D S) (hXL : XL 4 L S) (hc : c < 14) (hw : w < 3) : ∃ S', La_tell_4_1 (nI c) (nI w) S = some (tell L D c w, S') ∧ Off [] [10, 11] S S' := by
  obtain ⟨S1, h1, h2, h3⟩ := tell_k_1 (w := nI w) hc 7 0 S rfl hX
  have hX1 := XD_off_1 hX h2 (fun _ _ _ => by simp) (by decide)
  have e3 : S1.1 1 3 = D 7 3 := hX1.2 3 (by omega) (by omega)
  have ho : Off [] [10] S (wA (wA S1 10 (nI 7) (age D c)) 10 (nI 8) (D 7 3)) := (h2.wA (by decide)).wA (by decide)
  obtain ⟨S', q1, q2⟩ := tell_l_1 hw hL (L 0 0) 0 (wA (wA S1 10 (nI 7) (age D c)) 10 (nI 8) (D 7 3)) (by omega) (XL_off hXL ho (by decide) (by decide) (by decide) (by decide) (by decide) (by decide) (by decide)) (D := D) (c := c) (fun i hi => by
    rw [wA_21 (by omega), sA_eq, upd_at, wA_21 (by omega), sA_eq, upd_at]
    unfold kno
    by_cases a : i = 8
    · subst a; rw [if_pos rfl, if_neg (by omega), if_neg (by omega)]
    · rw [if_neg a]
      by_cases b : i = 7
      · subst b; rw [if_pos rfl, if_neg (by omega), if_pos rfl]
      · rw [if_neg b, if_pos (by omega)]
        exact (h3 i (by omega)).1 (by omega))
  refine ⟨S', ?_, (ho.mono (by simp) (by simp)).tr (q2.mono (by simp) (by simp))⟩
  rw [La_tell_4_1_eq]
  have h1 : La_tell_4_1_c3 (nI c) (nI w) 0 S = La_tell_4_1_c3 (nI c) (nI w) (nI 7) S1 := h1
  rw [h1, La_tell_4_1_c3_eq]
  have r3 : Dr_read_1 (nI c) (3 : Int32) S1 = some (D 3 c, S1) := read_1 (n := 0) (r := 3) hX1 (by omega) hc
  rw [if_neg (by decide), r3, ob]
  simp only [rF, e3]
  exact q1
/-! The law told by the class, of the drawer at cell 26. -/
theorem read_26 {n : Nat} {D : tD} {S : pS} (hX : XD 26 D S) {c r : Nat} (hr : r < 7) (hc : c < 14) : Dr_read_26 (nI c) (nI r) S = some (D r c, S) := by
  rw [Dr_read_26_eq, show C_within (nI c) (14 : Int32) S = _ from wth (m := 14) hc (by omega), ob, if_neg (show ¬ (1 : Int32) = 0 by decide), show C_within (nI r) (7 : Int32) S = _ from wth (m := 7) hr (by omega), ob, if_neg (show ¬ (1 : Int32) = 0 by decide)]
  simp (disch := omega) only [fa_lit, pk_mul, nI_add, inb_n, if_true, rA_n]
  rw [← hX.1 r c hr hc]
theorem XD_off_26 {D : tD} {S S' : pS} {F : List (Nat × Nat)} {W : List Nat} (h : XD 26 D S) (ho : Off F W S S') (h1 : ∀ i, 1 ≤ i → i < 8 → (26, i) ∉ F) (h2 : 27 ∉ W) : XD 26 D S' := ⟨fun r c hr hc => by rw [ho.2.1 _ h2]; exact h.1 r c hr hc, fun i a b => by rw [ho.1 _ _ (h1 i a b)]; exact h.2 i a b⟩
theorem tell_k_26 {D : tD} {c : Nat} {w : Int32} (hc : c < 14) : ∀ (k i : Nat) (S : pS), i + k = 7 → XD 26 D S → ∃ S', La_tell_4_26_c3 (nI c) w (nI i) S = La_tell_4_26_c3 (nI c) w (nI 7) S' ∧ Off [] [10] S S' ∧ ∀ j, j < 7 → (i ≤ j → S'.2.1 10 j = D j c) ∧ (j < i → S'.2.1 10 j = S.2.1 10 j) := by
  intro k
  induction k with
  | zero =>
    intro i S hi hX
    have : i = 7 := by omega
    subst this
    exact ⟨S, rfl, Off.rf, fun j hj => ⟨fun h => by omega, fun _ => rfl⟩⟩
  | succ k ih =>
    intro i S hi hX
    have ho : Off [] [10] S (wA S 10 (nI i) (D i c)) := Off.rf.wA (by decide)
    obtain ⟨S', h1, h2, h3⟩ := ih (i + 1) (wA S 10 (nI i) (D i c)) (by omega) (XD_off_26 hX ho (fun _ _ _ => by simp) (by decide))
    refine ⟨S', ?_, ho.tr h2, fun j hj => ⟨fun h => ?_, fun h => ?_⟩⟩
    · rw [La_tell_4_26_c3_eq, ← h1]
      have a : i < 7 := by omega
      simp (disch := omega) only [fa_lit, nI_ltE, a, if_true, read_26 (n := 0) hX (by omega : i < 7) hc, ob, inb_n, nI_add]
    · by_cases e : j = i
      · subst e
        rw [(h3 j hj).2 (by omega), wA_21 (by omega), sA_eq, upd_eq]
      · exact (h3 j hj).1 (by omega)
    · rw [(h3 j hj).2 (by omega), wA_21 (by omega), sA_eq, upd_ne (by omega)]
theorem tell_l_26 {L : tL} {D : tD} {c w : Nat} (hw : w < 3) (hL : WL L) : ∀ (k l : Nat) (S : pS), l + k = L 0 0 → XL 4 L S → (∀ i, i < 9 → S.2.1 10 i = kno D c i) → ∃ S', La_tell_4_26_c70 (nI w) (age D c) (nI l) S = some (hel w (match fst? (fun l => decide (L 1 l = w) && (decide (L 3 l = L 4 l) || !decide (vRes (kno D c) L (L 3 l) (L 4 l - L 3 l) = 0))) k l with
  | some l => vRes (kno D c) L (L 2 l) (L 3 l - L 2 l)
  | none => unl D c w), S') ∧ Off [] [11] S S' := by
  intro k
  induction k with
  | zero =>
    intro l S hl hX hkn
    refine ⟨S, ?_, Off.rf⟩
    rw [La_tell_4_26_c70_eq]
    have a : ¬ l < L 0 0 := by omega
    have := hL.1
    rw [show rF S 4 8 = nI (L 0 0) from hX.1]
    simp (disch := omega) only [nI_ltE, a, if_false, unl_x hw, ob, hel_x w _ hw]
    rfl
  | succ k ih =>
    intro l S hl hX hkn
    have hlt : l < L 0 0 := by omega
    have h16 := hL.1
    have h400 := hL.2.1
    obtain ⟨w1, w2, w3, w4, ⟨t1, w5⟩, w6⟩ := hL.2.2 l hlt
    obtain ⟨x1, x2, x3, x4⟩ := hX.2.2.1 l hlt
    have x1 : S.2.1 6 l = nI (L 1 l) := x1
    have x2 : S.2.1 7 l = nI (L 2 l) := x2
    have x3 : S.2.1 8 l = nI (L 3 l) := x3
    have x4 : S.2.1 9 l = nI (L 4 l) := x4
    rw [La_tell_4_26_c70_eq, show rF S 4 8 = nI (L 0 0) from hX.1]
    simp (disch := omega) only [nI_ltE, hlt, if_true, inb_n, rA_n, x1, x3, x4, nI_eqE]
    rw [fst?]
    have hit : ∀ S1 : pS, Off [] [11] S S1 → ∃ S', La_tell_4_26_c126 (nI w) (nI l) (nI (L 3 l)) S1 = some (hel w (vRes (kno D c) L (L 2 l) (L 3 l - L 2 l)), S') ∧ Off [] [11] S S' := by
      intro S1 ho
      have hX1 : XL 4 L S1 := XL_off hX ho (by decide) (by decide) (by decide) (by decide) (by decide) (by decide) (by decide)
      obtain ⟨S', q1, q2⟩ := X_run0 (kn := kno D c) h400 hX1 w2 (by omega) w5 (fun i hi => by rw [ho.2.1 10 (by decide)]; exact hkn i hi)
      refine ⟨S', ?_, ho.tr q2⟩
      rw [La_tell_4_26_c126_eq]
      have y2 : S1.2.1 7 l = nI (L 2 l) := by rw [ho.2.1 7 (by decide)]; exact x2
      simp (disch := omega) only [inb_n, if_true, rA_n, y2, q1, ob, hel_x w _ hw]
    have next : ∀ S1 : pS, Off [] [11] S S1 → _ := fun S1 ho => ih (l + 1) S1 (by omega) (XL_off hX ho (by decide) (by decide) (by decide) (by decide) (by decide) (by decide) (by decide)) (fun i hi => by rw [ho.2.1 10 (by decide)]; exact hkn i hi)
    by_cases b1 : L 1 l = w
    · rw [if_pos b1]
      by_cases b2 : L 3 l = L 4 l
      · rw [if_pos b2]
        simp only [b1, b2, decide_true, Bool.true_or, Bool.true_and, if_true]
        rw [← b2]
        exact hit S Off.rf
      · rw [if_neg b2]
        obtain ⟨t2, w7⟩ := w6 (by omega)
        obtain ⟨S1, q1, q2⟩ := X_run0 (kn := kno D c) h400 hX w3 w4 w7 hkn
        rw [q1, ob]
        by_cases b3 : vRes (kno D c) L (L 3 l) (L 4 l - L 3 l) = 0
        · simp only [b3, b2, decide_true, decide_false, Bool.not_true, Bool.or_false, Bool.and_false, if_true, Bool.false_eq_true, if_false]
          obtain ⟨S', r1, r2⟩ := next S1 q2
          refine ⟨S', ?_, q2.tr r2⟩
          rw [← r1, fa_lit, nI_add]
        · simp only [b1, b3, b2, decide_true, decide_false, Bool.not_false, Bool.or_true, Bool.and_true, if_true, if_false]
          exact hit S1 q2
    · rw [if_neg b1]
      simp only [b1, decide_false, Bool.false_and, Bool.false_eq_true, if_false]
      obtain ⟨S', r1, r2⟩ := next S Off.rf
      refine ⟨S', ?_, r2⟩
      rw [← r1, fa_lit, nI_add]
theorem tell_26 {n : Nat} {L : tL} {D : tD} {S : pS} {c w : Nat} (hD : WD n D) (hL : WL L) (hX : XD 26 D S) (hXL : XL 4 L S) (hc : c < 14) (hw : w < 3) : ∃ S', La_tell_4_26 (nI c) (nI w) S = some (tell L D c w, S') ∧ Off [] [10, 11] S S' := by
  obtain ⟨S1, h1, h2, h3⟩ := tell_k_26 (w := nI w) hc 7 0 S rfl hX
  have hX1 := XD_off_26 hX h2 (fun _ _ _ => by simp) (by decide)
  have e3 : S1.1 26 3 = D 7 3 := hX1.2 3 (by omega) (by omega)
  have ho : Off [] [10] S (wA (wA S1 10 (nI 7) (age D c)) 10 (nI 8) (D 7 3)) := (h2.wA (by decide)).wA (by decide)
  obtain ⟨S', q1, q2⟩ := tell_l_26 hw hL (L 0 0) 0 (wA (wA S1 10 (nI 7) (age D c)) 10 (nI 8) (D 7 3)) (by omega) (XL_off hXL ho (by decide) (by decide) (by decide) (by decide) (by decide) (by decide) (by decide)) (D := D) (c := c) (fun i hi => by
    rw [wA_21 (by omega), sA_eq, upd_at, wA_21 (by omega), sA_eq, upd_at]
    unfold kno
    by_cases a : i = 8
    · subst a; rw [if_pos rfl, if_neg (by omega), if_neg (by omega)]
    · rw [if_neg a]
      by_cases b : i = 7
      · subst b; rw [if_pos rfl, if_neg (by omega), if_pos rfl]
      · rw [if_neg b, if_pos (by omega)]
        exact (h3 i (by omega)).1 (by omega))
  refine ⟨S', ?_, (ho.mono (by simp) (by simp)).tr (q2.mono (by simp) (by simp))⟩
  rw [La_tell_4_26_eq]
  have h1 : La_tell_4_26_c3 (nI c) (nI w) 0 S = La_tell_4_26_c3 (nI c) (nI w) (nI 7) S1 := h1
  rw [h1, La_tell_4_26_c3_eq]
  have r3 : Dr_read_26 (nI c) (3 : Int32) S1 = some (D 3 c, S1) := read_26 (n := 0) (r := 3) hX1 (by omega) hc
  rw [if_neg (by decide), r3, ob]
  simp only [rF, e3]
  exact q1
