/-! The law told by the reference. -/
theorem R_age {D : tD} {c : Nat} {S : pS} (hc : c < 14) (h0 : S.2.1 1 0 = D 7 3) (h6 : S.2.1 1 (6 + c) = D 3 c) : R_ageOf (nI c) S = some (age D c, S) := by
  rw [R_ageOf_eq]
  have e0 : rA S 1 (0 : Int32) = D 7 3 := h0
  simp (disch := omega) only [fa_lit, nI_add, inb_n, if_true, rA_n, h6, R_greater_eq, h0]
  unfold age
  by_cases q : (0 : Int32) < D 7 3 - D 3 c
  · rw [if_pos q, if_pos (show nI 0 ≤ D 7 3 - D 3 c from (fa_of_lt q).1)]
    rfl
  · rw [if_neg q]
    by_cases q2 : nI 0 ≤ D 7 3 - D 3 c
    · rw [if_pos q2, ob]
      have : D 7 3 - D 3 c = 0 := by
        rw [fa_lt] at q
        rw [fa_le] at q2
        rw [fa_eq]
        have : (0 : Int32).toInt = 0 := rfl
        have : (nI 0).toInt = 0 := rfl
        omega
      rw [this]
    · rw [if_neg q2]
      rfl
theorem R_run0 {kn : Nat → Int32} {L : tL} {S : pS} {k e t : Nat} (hL : L 0 1 ≤ 400) (hX : RLm L S) (hk : k ≤ e) (he : e ≤ L 0 1) (h : okRun L k (e - k) [] = some [t]) (hkn : ∀ i, i < 9 → S.2.1 22 i = kn i) : ∃ S', R_runs 0 (nI k) (nI e) S = some (vRes kn L k (e - k), S') ∧ Off [] [23] S S' := by
  obtain ⟨S', h1, h2⟩ := R_run (kn := kn) hL (e - k) k [] [] S h (by omega) (by simp) trivial trivial hkn hX.2.2
  rw [show k + (e - k) = e from by omega] at h1
  refine ⟨S', ?_, h2⟩
  rw [R_runs_eq, show (400 : Int32) * 0 + nI k = nI k from by rw [show (400 : Int32) * 0 = 0 from rfl, Int32.zero_add]]
  exact h1
theorem RLm_off {L : tL} {S S' : pS} {F : List (Nat × Nat)} {W : List Nat} (h : RLm L S) (ho : Off F W S S') (h1 : ∀ i, 10 ≤ i → i < 17 → i ∉ W) : RLm L S' := by
  unfold RLm at *
  rw [ho.2.1 10 (h1 _ (by omega) (by omega)), ho.2.1 11 (h1 _ (by omega) (by omega)), ho.2.1 12 (h1 _ (by omega) (by omega)), ho.2.1 13 (h1 _ (by omega) (by omega)), ho.2.1 14 (h1 _ (by omega) (by omega)), ho.2.1 15 (h1 _ (by omega) (by omega)), ho.2.1 16 (h1 _ (by omega) (by omega))]
  exact h
theorem RDm_off {n : Nat} {D : tD} {S S' : pS} {F : List (Nat × Nat)} {W : List Nat} (h : RDm n D S) (ho : Off F W S S') (h0 : (0, 6) ∉ F) (h1 : 1 ∉ W) (h4 : 4 ∉ W) (h5 : 5 ∉ W) (h6 : 6 ∉ W) : RDm n D S' := by
  unfold RDm at *
  rw [ho.1 _ _ h0, ho.2.1 1 h1, ho.2.1 4 h4, ho.2.1 5 h5, ho.2.1 6 h6]
  exact h
theorem R_lin {L : tL} {D : tD} {c w : Nat} (hw : w < 3) (hL : WL L) : ∀ (k l : Nat) (S : pS), l + k = L 0 0 → RLm L S → (∀ i, i < 9 → S.2.1 22 i = kno D c i) → ∃ S', R_lineOf_c2 (nI w) (nI l) S = some ((match fst? (fun l => decide (L 1 l = w) && (decide (L 3 l = L 4 l) || !decide (vRes (kno D c) L (L 3 l) (L 4 l - L 3 l) = 0))) k l with
  | some l => nI l
  | none => -1), S') ∧ Off [] [23] S S' := by
  intro k
  induction k with
  | zero =>
    intro l S hl hX hkn
    refine ⟨S, ?_, Off.rf⟩
    rw [R_lineOf_c2_eq]
    have a : ¬ l < L 0 0 := by omega
    have := hL.1
    rw [show rA S 10 (0 : Int32) = nI (L 0 0) from hX.1]
    simp (disch := omega) only [nI_ltE, a, if_false]
    rfl
  | succ k ih =>
    intro l S hl hX hkn
    have hlt : l < L 0 0 := by omega
    have h16 := hL.1
    have h400 := hL.2.1
    obtain ⟨w1, w2, w3, w4, ⟨t1, w5⟩, w6⟩ := hL.2.2 l hlt
    obtain ⟨x1, x2, x3, x4⟩ := hX.2.1 l hlt
    rw [R_lineOf_c2_eq, show rA S 10 (0 : Int32) = nI (L 0 0) from hX.1]
    simp (disch := omega) only [nI_ltE, hlt, if_true, inb_n, rA_n, x1, x3, x4, nI_eqE]
    rw [fst?]
    have next : ∀ S1 : pS, Off [] [23] S S1 → _ := fun S1 ho => ih (l + 1) S1 (by omega) (RLm_off hX ho (fun i a b => by simp; omega)) (fun i hi => by rw [ho.2.1 22 (by decide)]; exact hkn i hi)
    by_cases b1 : L 1 l = w
    · rw [if_pos b1]
      by_cases b2 : L 3 l = L 4 l
      · rw [if_pos b2]
        simp only [b1, b2, decide_true, Bool.true_or, Bool.true_and, if_true]
        exact ⟨S, rfl, Off.rf⟩
      · rw [if_neg b2]
        obtain ⟨t2, w7⟩ := w6 (by omega)
        obtain ⟨S1, q1, q2⟩ := R_run0 (kn := kno D c) h400 hX w3 w4 w7 hkn
        rw [q1, ob]
        by_cases b3 : vRes (kno D c) L (L 3 l) (L 4 l - L 3 l) = 0
        · simp only [b3, b2, decide_true, decide_false, Bool.not_true, Bool.or_false, Bool.and_false, if_true, Bool.false_eq_true, if_false]
          obtain ⟨S', r1, r2⟩ := next S1 q2
          refine ⟨S', ?_, q2.tr r2⟩
          rw [← r1, fa_lit, nI_add]
        · simp only [b1, b3, b2, decide_true, decide_false, Bool.not_false, Bool.or_true, Bool.and_true, if_true, if_false]
          exact ⟨S1, rfl, q2⟩
    · rw [if_neg b1]
      simp only [b1, decide_false, Bool.false_and, Bool.false_eq_true, if_false]
      obtain ⟨S', r1, r2⟩ := next S Off.rf
      refine ⟨S', ?_, r2⟩
      rw [← r1, fa_lit, nI_add]
theorem R_law {n : Nat} {L : tL} {D : tD} {S : pS} {c w : Nat} (hL : WL L) (hR : RDm n D S) (hRL : RLm L S) (hc : c < 14) (hw : w < 3) : ∃ S', R_lawTells (nI c) (nI w) (unl D c w) (nI (most w)) S = some (tell L D c w, S') ∧ Off [] [22, 23] S S' := by
  obtain ⟨d1, d2, d3, d4, d5, d6, d7⟩ := hR.1.1 c hc
  have dn := hR.1.2.2.1
  have ho : Off [] [22] S (wA (wA (wA (wA (wA (wA (wA S 22 (nI 0) (D 0 c)) 22 (nI 1) (D 1 c)) 22 (nI 2) (D 2 c)) 22 (nI 3) (D 3 c)) 22 (nI 4) (D 4 c)) 22 (nI 5) (D 5 c)) 22 (nI 6) (D 6 c)) := ((((((Off.rf.wA (by decide)).wA (by decide)).wA (by decide)).wA (by decide)).wA (by decide)).wA (by decide)).wA (by decide)
  have hage := R_age (D := D) (S := wA (wA (wA (wA (wA (wA (wA S 22 (nI 0) (D 0 c)) 22 (nI 1) (D 1 c)) 22 (nI 2) (D 2 c)) 22 (nI 3) (D 3 c)) 22 (nI 4) (D 4 c)) 22 (nI 5) (D 5 c)) 22 (nI 6) (D 6 c)) hc (by rw [ho.2.1 1 (by decide)]; exact dn) (by rw [ho.2.1 1 (by decide)]; exact d4)
  have ho2 := (ho.wA (o := 22) (i := nI 7) (v := age D c) (by decide)).wA (o := 22) (i := nI 8) (v := D 7 3) (by decide)
  obtain ⟨S1, q1, q2⟩ := R_lin hw hL (L 0 0) 0 _ (by omega) (RLm_off hRL ho2 (fun i a b => by simp; omega)) (D := D) (c := c) (fun i hi => by
    have hc9 : i = 0 ∨ i = 1 ∨ i = 2 ∨ i = 3 ∨ i = 4 ∨ i = 5 ∨ i = 6 ∨ i = 7 ∨ i = 8 := by omega
    rcases hc9 with rfl | rfl | rfl | rfl | rfl | rfl | rfl | rfl | rfl <;> rfl)
  have q1 : R_lineOf (nI w) _ = _ := (R_lineOf_eq _ _).trans q1
  rw [R_lawTells_eq]
  have e0 : rA (wA (wA (wA (wA (wA (wA (wA S 22 (nI 0) (D 0 c)) 22 (nI 1) (D 1 c)) 22 (nI 2) (D 2 c)) 22 (nI 3) (D 3 c)) 22 (nI 4) (D 4 c)) 22 (nI 5) (D 5 c)) 22 (nI 6) (D 6 c)) 1 (nI 0) = D 7 3 := dn
  simp (disch := omega) only [fa_lit, nI_add, inb_n, if_true, rA_n, d1, d2, d3, d4, d5, d6, d7, hage, ob]
  have e0' : (wA (wA (wA (wA (wA (wA (wA S 22 (nI 0) (D 0 c)) 22 (nI 1) (D 1 c)) 22 (nI 2) (D 2 c)) 22 (nI 3) (D 3 c)) 22 (nI 4) (D 4 c)) 22 (nI 5) (D 5 c)) 22 (nI 6) (D 6 c)).2.1 1 0 = D 7 3 := dn
  rw [e0', q1, ob]
  unfold tell lin?
  have hX2 : RLm L S1 := RLm_off (RLm_off hRL ho2 (fun i a b => by simp; omega)) q2 (fun i a b => by simp; omega)
  cases hf : fst? (fun l => decide (L 1 l = w) && (decide (L 3 l = L 4 l) || !decide (vRes (kno D c) L (L 3 l) (L 4 l - L 3 l) = 0))) (L 0 0) 0 with
  | none =>
    simp only [hf, fa_lit, if_true]
    rw [show R_held (unl D c w) (nI 0) (nI (most w)) S1 = _ from hel_r w _]
    exact ⟨S1, rfl, (ho2.mono (by simp) (by simp)).tr (q2.mono (by simp) (by simp))⟩
  | some l =>
    simp only [hf, fa_lit]
    have hl := (fst_some hf).1.2
    have h16 := hL.1
    obtain ⟨w1, w2, w3, w4, ⟨t1, w5⟩, w6⟩ := hL.2.2 l (by omega)
    obtain ⟨x1, x2, x3, x4⟩ := hX2.2.1 l (by omega)
    obtain ⟨S2, r1, r2⟩ := R_run0 (kn := kno D c) hL.2.1 hX2 w2 (by omega) w5 (fun i hi => by
      rw [q2.2.1 22 (by decide)]
      have hc9 : i = 0 ∨ i = 1 ∨ i = 2 ∨ i = 3 ∨ i = 4 ∨ i = 5 ∨ i = 6 ∨ i = 7 ∨ i = 8 := by omega
      rcases hc9 with rfl | rfl | rfl | rfl | rfl | rfl | rfl | rfl | rfl <;> rfl)
    have r1 : R_runs (nI 0) (nI (L 2 l)) (nI (L 3 l)) S1 = _ := r1
    refine ⟨S2, ?_, ((ho2.mono (by simp) (by simp)).tr (q2.mono (by simp) (by simp))).tr (r2.mono (by simp) (by simp))⟩
    simp (disch := omega) only [nI_m1, if_false, inb_n, if_true, rA_n, x2, x3, r1, ob]
    rw [show R_held (vRes (kno D c) L (L 2 l) (L 3 l - L 2 l)) (nI 0) (nI (most w)) S2 = _ from hel_r w _]
    rfl
theorem R_tell0 {n : Nat} {L : tL} {D : tD} {S : pS} {c : Nat} (hL : WL L) (hR : RDm n D S) (hRL : RLm L S) (hc : c < 14) : ∃ S', R_holdsOf (nI c) S = some (tell L D c 0, S') ∧ Off [] [22, 23] S S' := by
  obtain ⟨S', h1, h2⟩ := R_law (w := 0) hL hR hRL hc (by omega)
  refine ⟨S', ?_, h2⟩
  rw [R_holdsOf_eq, R_age hc hR.1.2.2.1 (hR.1.1 c hc).2.2.2.1, ob]
  have h1 : R_lawTells (nI c) (0 : Int32) ((900 : Int32) - (20 : Int32) * age D c) (1000 : Int32) S = _ := h1
  rw [h1]
  rfl
theorem R_tell1 {n : Nat} {L : tL} {D : tD} {S : pS} {c : Nat} (hL : WL L) (hR : RDm n D S) (hRL : RLm L S) (hc : c < 14) : ∃ S', R_dustOf (nI c) S = some (tell L D c 1, S') ∧ Off [] [22, 23] S S' := by
  obtain ⟨S', h1, h2⟩ := R_law (w := 1) hL hR hRL hc (by omega)
  refine ⟨S', ?_, h2⟩
  rw [R_dustOf_eq, R_age hc hR.1.2.2.1 (hR.1.1 c hc).2.2.2.1, ob]
  have h1 : R_lawTells (nI c) (1 : Int32) (age D c / (9 : Int32)) (99 : Int32) S = _ := h1
  rw [h1]
  rfl
theorem R_tell2 {n : Nat} {L : tL} {D : tD} {S : pS} {c : Nat} (hL : WL L) (hR : RDm n D S) (hRL : RLm L S) (hc : c < 14) : ∃ S', R_worthOf (nI c) S = some (tell L D c 2, S') ∧ Off [] [22, 23] S S' := by
  obtain ⟨S', h1, h2⟩ := R_law (w := 2) hL hR hRL hc (by omega)
  refine ⟨S', ?_, h2⟩
  rw [R_worthOf_eq, R_age hc hR.1.2.2.1 (hR.1.1 c hc).2.2.2.1, ob]
  have h1 : R_lawTells (nI c) (2 : Int32) ((99 : Int32) - age D c) (999 : Int32) S = _ := h1
  rw [h1]
  rfl
theorem tell_b (L : tL) (D : tD) (c w : Nat) : ∃ j, j ≤ most w ∧ tell L D c w = nI j := hel_b w _
