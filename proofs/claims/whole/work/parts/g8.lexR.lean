/-! The reference reads a sign. -/
def Knd (tv : Nat) (k v : Int32) : Prop := (tv = 0 ∧ k = 0) ∨ (tv = 1 ∧ k = 1) ∨ (300 ≤ tv ∧ tv < 324 ∧ k = 2 ∧ v = nI (tv - 300)) ∨ (1000 ≤ tv ∧ tv < 11000 ∧ k = 3 ∧ v = nI (tv - 1000)) ∨ (sgn tv = true ∧ k = 4 ∧ v = nI tv)
/-- the tape as the reference has it, and its words -/
def TR (b : Nat → Nat) (len : Nat) (S : pS) : Prop := len ≤ 400 ∧ S.1 0 12 = nI len ∧ (∀ i, i < len → b i < 256 ∧ S.2.1 8 i = nI (b i)) ∧ ∀ i, i < 115 → S.2.1 9 i = nI (wd i)
abbrev FG : List (Nat × Nat) := [(0, 13), (0, 14), (0, 15), (0, 16)]
theorem TR_off {b : Nat → Nat} {len : Nat} {S S' : pS} {F : List (Nat × Nat)} {W : List Nat} (h : TR b len S) (ho : Off F W S S') (h1 : (0, 12) ∉ F) (h2 : 8 ∉ W) (h3 : 9 ∉ W) : TR b len S' := by
  unfold TR at *
  rw [ho.1 _ _ h1, ho.2.1 _ h2, ho.2.1 _ h3]
  exact h
theorem rawR {b : Nat → Nat} {len i : Nat} {S : pS} (h : TR b len S) (hi : i < len) : R_raw (nI i) S = some (nI (b i), S) := by
  obtain ⟨h1, h2, h3, _⟩ := h
  rw [R_raw_eq, show rF S 0 12 = nI len from h2, if_pos (nlt_t hi (by omega)), if_pos (inb_n (by omega) (by omega)), rA_n (by omega), (h3 i hi).2]
theorem rawE {b : Nat → Nat} {len i : Nat} {S : pS} (h : TR b len S) (hi : i = len) : R_raw (nI i) S = some (-1, S) := by
  obtain ⟨h1, h2, h3, _⟩ := h
  rw [R_raw_eq, show rF S 0 12 = nI len from h2, if_neg (nlt_f (by omega) (by omega) (by omega))]
theorem rd95 {b : Nat → Nat} {len : Nat} : ∀ m j (S : pS), j + m = len → TR b len S → S.1 0 13 = nI j → ∃ S1, R_reads_c95 S = (R_wordAt (S1.1 0 14) (nI (pst ltr b len m j)) S1).bind (fun q12 => if q12.1 = (-1 : Int32) then (some (0, (wF q12.2 0 16 q12.1))) else (some (0, (wF (wF q12.2 0 16 q12.1) 0 15 (2 : Int32))))) ∧ S1.1 0 13 = nI (pst ltr b len m j) ∧ Off [(0, 13)] [] S S1 := by
  intro m
  induction m with
  | zero =>
    intro j S hj h h13
    refine ⟨S, ?_, h13, Off.rf⟩
    rw [R_reads_c95_eq, show rF S 0 13 = nI j from h13, rawE h (by omega), ob]
    simp only []
    rw [ltrM, ob]
    simp only [if_true]
    rw [show rF S 0 13 = nI j from h13]
    rfl
  | succ m ih =>
    intro j S hj h h13
    have hb := (h.2.2.1 j (by omega)).1
    rw [R_reads_c95_eq, show rF S 0 13 = nI j from h13, rawR h (by omega), ob]
    simp only []
    rw [ltrR hb, ob]
    cases q : ltr (b j)
    · refine ⟨S, ?_, ?_, Off.rf⟩
      · simp only [b2f, if_true]
        rw [show rF S 0 13 = nI j from h13, pst, if_neg (by rw [q]; simp)]
        first | done | rfl
      · rw [pst, if_neg (by rw [q]; simp)]; exact h13
    · simp only [b2t, if_false]
      rw [show rF S 0 13 = nI j from h13, show nI j + (1 : Int32) = nI (j + 1) from nI_1 j, pst, if_pos ⟨by omega, q⟩]
      have o1 : Off [(0, 13)] [] S (wF S 0 13 (nI (j + 1))) := Off.rf.wF (by decide)
      obtain ⟨S1, a1, a2, a3⟩ := ih (j + 1) _ (by omega) (TR_off h o1 (by decide) (by decide) (by decide)) (by rw [wF_1, sA_eq, upd_eq])
      exact ⟨S1, a1, a2, o1.tr a3⟩
/-- the digits: n are read, v is their number as far as it is kept -/
theorem rd171 {b : Nat → Nat} {len s : Nat} : ∀ m j (S : pS), j + m = len → TR b len S → S.1 0 13 = nI j → S.1 0 14 = nI s → s < j → S.1 0 15 = 1 → (∀ i, s ≤ i → i < j → dgt (b i) = true) → (j - s ≤ 4 → S.1 0 16 = nI (dvl b (j - s) s 0)) → ∃ S1, R_reads_c171 S = some (0, S1) ∧ S1.1 0 13 = nI (pst dgt b len m j) ∧ Off [(0, 13), (0, 15), (0, 16)] [] S S1 ∧ ((pst dgt b len m j - s ≤ 4 ∧ S1.1 0 15 = 3 ∧ S1.1 0 16 = nI (dvl b (pst dgt b len m j - s) s 0)) ∨ (¬ pst dgt b len m j - s ≤ 4 ∧ S1.1 0 15 = 1)) := by
  intro m
  have fin : ∀ j (S : pS), s < j → j ≤ 400 → S.1 0 13 = nI j → S.1 0 14 = nI s → S.1 0 15 = 1 → (j - s ≤ 4 → S.1 0 16 = nI (dvl b (j - s) s 0)) → ∃ S1, (if ((rF S 0 13) - (rF S 0 14)) < (5 : Int32) then (some ((0 : Int32), (wF S 0 15 (3 : Int32)))) else (some ((0 : Int32), S))) = some (0, S1) ∧ S1.1 0 13 = nI j ∧ Off [(0, 13), (0, 15), (0, 16)] [] S S1 ∧ ((j - s ≤ 4 ∧ S1.1 0 15 = 3 ∧ S1.1 0 16 = nI (dvl b (j - s) s 0)) ∨ (¬ j - s ≤ 4 ∧ S1.1 0 15 = 1)) := by
    intro j S hsj hj4 h13 h14 h15 h16
    rw [show rF S 0 13 = nI j from h13, show rF S 0 14 = nI s from h14, nI_subE (by omega)]
    by_cases q : j - s ≤ 4
    · rw [if_pos (show nI (j - s) < (5 : Int32) from nlt_t (n := 5) (by omega) (by omega))]
      refine ⟨_, rfl, by rw [wF_1, sA_eq, upd_ne (by decide)]; exact h13, Off.rf.wF (by decide), Or.inl ⟨q, by rw [wF_1, sA_eq, upd_eq], by rw [wF_1, sA_eq, upd_ne (by decide)]; exact h16 q⟩⟩
    · rw [if_neg (show ¬ nI (j - s) < (5 : Int32) from nlt_f (n := 5) (by omega) (by omega) (by omega))]
      exact ⟨S, rfl, h13, Off.rf, Or.inr ⟨q, h15⟩⟩
  induction m with
  | zero =>
    intro j S hj h h13 h14 hsj h15 hd h16
    have := h.1
    rw [R_reads_c171_eq, show rF S 0 13 = nI j from h13, rawE h (by omega), ob]
    simp only []
    rw [dgtM, ob]
    simp only [if_true]
    exact fin j S hsj (by omega) h13 h14 h15 h16
  | succ m ih =>
    intro j S hj h h13 h14 hsj h15 hd h16
    have h4 := h.1
    have hb := (h.2.2.1 j (by omega)).1
    rw [R_reads_c171_eq, show rF S 0 13 = nI j from h13, rawR h (by omega), ob]
    simp only []
    rw [dgtR hb, ob]
    cases q : dgt (b j)
    · simp only [b2f, if_true]
      have pe : pst dgt b len (m + 1) j = j := by rw [pst, if_neg (by rw [q]; simp)]
      rw [pe]
      exact fin j S hsj (by omega) h13 h14 h15 h16
    · simp only [b2t, if_false]
      rw [show rF S 0 13 = nI j from h13, rawR h (by omega), ob]
      simp only []
      have pe : pst dgt b len (m + 1) j = pst dgt b len m (j + 1) := by rw [pst, if_pos ⟨by omega, q⟩]
      rw [pe]
      have hd' : ∀ i, s ≤ i → i < j + 1 → dgt (b i) = true := fun i h1 h2 => by
        by_cases z : i = j
        · rw [z]; exact q
        · exact hd i h1 (by omega)
      have step : ∀ v : Int32, (j + 1 - s ≤ 4 → v = nI (dvl b (j + 1 - s) s 0)) → ∃ S1, R_reads_c223 v S = some (0, S1) ∧ S1.1 0 13 = nI (pst dgt b len m (j + 1)) ∧ Off [(0, 13), (0, 15), (0, 16)] [] S S1 ∧ ((pst dgt b len m (j + 1) - s ≤ 4 ∧ S1.1 0 15 = 3 ∧ S1.1 0 16 = nI (dvl b (pst dgt b len m (j + 1) - s) s 0)) ∨ (¬ pst dgt b len m (j + 1) - s ≤ 4 ∧ S1.1 0 15 = 1)) := by
        intro v hv
        rw [R_reads_c223_eq, show rF S 0 13 = nI j from h13, show nI j + (1 : Int32) = nI (j + 1) from nI_1 j]
        have o1 : Off [(0, 13), (0, 15), (0, 16)] [] S (wF (wF S 0 16 v) 0 13 (nI (j + 1))) := (Off.rf.wF (by decide)).wF (by decide)
        obtain ⟨S1, a1, a2, a3, a4⟩ := ih (j + 1) (wF (wF S 0 16 v) 0 13 (nI (j + 1))) (by omega) (TR_off h o1 (by decide) (by decide) (by decide)) (by rw [wF_1, sA_eq, upd_eq]) (by rw [o1.1 _ _ (by decide)]; exact h14) (by omega) (by rw [wF_1, sA_eq, upd_ne (by decide), wF_1, sA_eq, upd_ne (by decide)]; exact h15) hd' (fun z => by rw [wF_1, sA_eq, upd_ne (by decide), wF_1, sA_eq, upd_eq]; exact hv z)
        exact ⟨S1, a1, a2, o1.tr a3, a4⟩
      by_cases q5 : S.1 0 16 < (10000 : Int32)
      · rw [if_pos (show rF S 0 16 < (10000 : Int32) from q5)]
        refine step _ (fun z => ?_)
        have e16 := h16 (by omega)
        rw [show rF S 0 16 = _ from e16, show j + 1 - s = (j - s) + 1 from by omega, dvl_snoc, show s + (j - s) = j from by omega, show (10 : Int32) = nI 10 from rfl, pk_mul, nI_add, show (48 : Int32) = nI 48 from rfl]
        have hq := q
        unfold dgt at hq
        rw [Bool.and_eq_true, decide_eq_true_eq, decide_eq_true_eq] at hq
        rw [nI_subE (by omega), Nat.mul_comm]
      · rw [if_neg (show ¬ rF S 0 16 < (10000 : Int32) from q5)]
        refine step _ (fun z => ?_)
        exfalso
        apply q5
        rw [h16 (by omega)]
        have hlt := dvl_lt (b := b) (m := j - s) (i := s) (v := 0) (fun i h1 h2 => hd i h1 (by omega))
        have h3 : 10 ^ (j - s) ≤ 10 ^ 4 := Nat.pow_le_pow_right (by omega) (by omega)
        exact nlt_t (n := 10000) (by omega) (by omega)
