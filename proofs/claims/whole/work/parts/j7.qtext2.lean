/-! The call text, on. -/
theorem cl_met : ∀ (m i : Nat) (S : pS), i + m = 12 → (∀ p, p < i → S.2.1 18 (12 + p) = 0) → ∃ S', R_readMet_c2 (nI i) S = R_readMet_c26 (nI 0) S' ∧ (∀ p, p < 12 → S'.2.1 18 (12 + p) = 0) ∧ Off [] [18] S S' ∧ Sm S S' := by
  intro m
  induction m with
  | zero =>
    intro i S hi h
    exact ⟨S, by rw [R_readMet_c2_eq, if_neg (show ¬ nI i < (12 : Int32) from nlt_f (n := 12) (by omega) (by omega) (by omega))]; rfl, fun p hp => h p (by omega), Off.rf, Sm.rf⟩
  | succ m ih =>
    intro i S hi h
    have o : Off [] [18] S (wA S 18 (nI (12 + i)) 0) := Off.rf.wA (by decide)
    obtain ⟨S', g1, g2, g3, g4⟩ := ih (i + 1) (wA S 18 (nI (12 + i)) 0) (by omega) (fun p hp => by
      rw [wA_21 (by omega), sA_eq]
      by_cases z : p = i
      · rw [z, upd_eq]
      · rw [upd_ne (by omega)]; exact h p (by omega))
    refine ⟨S', ?_, g2, o.tr g3, (Sm_w (Or.inr (Or.inl ⟨rfl, by omega⟩)) (by omega)).tr g4⟩
    rw [R_readMet_c2_eq, if_pos (show nI i < (12 : Int32) from nlt_t (n := 12) (by omega) (by omega)), show (12 : Int32) + nI i = nI (12 + i) from nI_add 12 i, if_pos (inb_n (by omega) (by omega)), show nI i + (1 : Int32) = nI (i + 1) from nI_1 i]
    exact g1
theorem cl_called : ∀ (m i : Nat) (S : pS), i + m = 8 → (∀ p, p < i → S.2.1 19 (8 + p) = 0 ∧ S.2.1 20 (8 + p) = 0) → ∃ S', R_readCalled_c2 (nI i) S = R_readCalled_c36 (nI 0) S' ∧ (∀ p, p < 8 → S'.2.1 19 (8 + p) = 0 ∧ S'.2.1 20 (8 + p) = 0) ∧ Off [] [19, 20] S S' ∧ Sm S S' := by
  intro m
  induction m with
  | zero =>
    intro i S hi h
    exact ⟨S, by rw [R_readCalled_c2_eq, if_neg (show ¬ nI i < (8 : Int32) from nlt_f (n := 8) (by omega) (by omega) (by omega))]; rfl, fun p hp => h p (by omega), Off.rf, Sm.rf⟩
  | succ m ih =>
    intro i S hi h
    have o : Off [] [19, 20] S (wA (wA S 19 (nI (8 + i)) 0) 20 (nI (8 + i)) 0) := (Off.rf.wA (by decide)).wA (by decide)
    obtain ⟨S', g1, g2, g3, g4⟩ := ih (i + 1) (wA (wA S 19 (nI (8 + i)) 0) 20 (nI (8 + i)) 0) (by omega) (fun p hp => by
      rw [wA_21 (by omega), sA_ne (by decide), sA_eq, wA_21 (by omega), sA_eq, sA_ne (by decide)]
      by_cases z : p = i
      · rw [z, upd_eq, upd_eq]; exact ⟨rfl, rfl⟩
      · rw [upd_ne (by omega), upd_ne (by omega)]; exact h p (by omega))
    refine ⟨S', ?_, g2, o.tr g3, ((Sm_w (Or.inr (Or.inr (Or.inl ⟨by omega, by omega⟩))) (by omega)).tr (Sm_w (Or.inr (Or.inr (Or.inl ⟨by omega, by omega⟩))) (by omega))).tr g4⟩
    rw [R_readCalled_c2_eq, if_pos (show nI i < (8 : Int32) from nlt_t (n := 8) (by omega) (by omega)), show (8 : Int32) + nI i = nI (8 + i) from nI_add 8 i, if_pos (inb_n (by omega) (by omega)), if_pos (inb_n (by omega) (by omega)), show nI i + (1 : Int32) = nI (i + 1) from nI_1 i]
    exact g1
