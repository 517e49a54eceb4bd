/-! The class's list of signs. -/
def pos (b : Nat → Nat) (len : Nat) : Nat → Nat
  | 0 => 0
  | k + 1 => ten b len (sk b len (pos b len k))
/-- where sign k begins; what it is -/
def stt (b : Nat → Nat) (len k : Nat) : Nat := sk b len (pos b len k)
noncomputable def tkn (b : Nat → Nat) (len k : Nat) : Nat := tva b len (stt b len k)
def Sc (b : Nat → Nat) (len k : Nat) (X : pS) : Prop := X.1 46 3 = nI k ∧ ∀ j, j < k → X.2.1 48 j = nI (tkn b len j) ∧ X.2.1 49 j = nI (stt b len j)
theorem Sc_put {b : Nat → Nat} {len k : Nat} {X : pS} (h : Sc b len k X) (hk : k ≤ 400) {s v : Int32} (hs : s = nI (stt b len k)) (hv : v = nI (tkn b len k)) : Sc b len (k + 1) (wF (wA (wA X 49 (nI k) s) 48 (nI k) v) 46 3 (nI (k + 1))) := by
  refine ⟨by rw [wF_1, sA_eq, upd_eq], fun j hj => ?_⟩
  rw [wF_2, wA_21 (by omega), sA_eq, sA_ne (by decide), wA_21 (by omega), sA_ne (by decide), sA_eq]
  by_cases z : j = k
  · rw [z, upd_eq, upd_eq]; exact ⟨hv, hs⟩
  · rw [upd_ne z, upd_ne z]; exact h.2 j (by omega)
abbrev FN : List (Nat × Nat) := [(46, 3)]
abbrev WN : List Nat := [48, 49]
theorem scan {b : Nat → Nat} {len : Nat} : ∀ f p k l (X : pS), len - p < f → p ≤ len → TX b len X → Sc b len k X → k ≤ p → l ≤ p → sk b len p = stt b len k → ∃ X' M, Ta_scan_46_c9 (nI p) (nI l) X = some (0, X') ∧ M ≤ len ∧ k ≤ M ∧ stt b len M = len ∧ Sc b len (M + 1) X' ∧ Off FN WN X X' ∧ ∀ j, k ≤ j → j < M → stt b len j < len := by
  intro f
  induction f with
  | zero => intro p k l X h; omega
  | succ f ih =>
    intro p k l X hf hp hT hS hkp hlp hsk
    have h4 := hT.1
    by_cases e : p = len
    · have es : stt b len k = len := by rw [← hsk, sk_n (fun z => by omega)]; exact e
      have et : tkn b len k = 0 := by unfold tkn; rw [es]; unfold tva; rw [if_pos rfl]
      have e1 : Ta_scan_46_c9 (nI p) (nI l) X = Ta_scan_46_c135 X := by
        rw [Ta_scan_46_c9_eq, show rF X 46 4 = nI len from hT.2.1, if_neg (show ¬ nI p < nI len from nlt_f (by omega) (by omega) (by omega))]
        by_cases q : nI l < (400 : Int32)
        · rw [if_pos q]
        · rw [if_neg q]
      refine ⟨_, k, by rw [e1, Ta_scan_46_c135_eq, ptX hS.1 (by omega), ob], by omega, Nat.le_refl k, es, Sc_put hS (by omega) (by rw [show rF X 46 4 = nI len from hT.2.1, es]) (by rw [et]; rfl), ((Off.rf.wA (by decide)).wA (by decide)).wF (by decide), fun j h1 h2 => by omega⟩
    · have hpl : p < len := by omega
      have hc := (hT.2.2 p hpl).1
      have hts := ten_s (b := b) hpl
      -- a sign that begins here
      have go : ∀ v : Int32, blk (b p) = false → v = nI (tva b len p) → ∃ X' M, Ta_scan_46_c9 (nI (ten b len p)) (nI (l + 1)) (wF (wA (wA X 49 (nI k) (nI p)) 48 (nI k) v) 46 3 (nI (k + 1))) = some (0, X') ∧ M ≤ len ∧ k ≤ M ∧ stt b len M = len ∧ Sc b len (M + 1) X' ∧ Off FN WN X X' ∧ ∀ j, k ≤ j → j < M → stt b len j < len := by
        intro v hb hv
        have es : stt b len k = p := by rw [← hsk, sk_n (fun _ => hb)]
        have o1 : Off FN WN X (wF (wA (wA X 49 (nI k) (nI p)) 48 (nI k) v) 46 3 (nI (k + 1))) := ((Off.rf.wA (by decide)).wA (by decide)).wF (by decide)
        obtain ⟨X', M, a1, a2, a3, a4, a5, a6, a7⟩ := ih (ten b len p) (k + 1) (l + 1) _ (by omega) hts.2 (TX_off hT o1 (by decide) (by decide)) (Sc_put hS (by omega) (by rw [es]) (by unfold tkn; rw [es]; exact hv)) (by omega) (by omega) (by show sk b len (ten b len p) = sk b len (ten b len (stt b len k)); rw [es])
        refine ⟨X', M, a1, a2, by omega, a4, a5, o1.tr a6, fun j h1 h2 => ?_⟩
        by_cases z : j = k
        · rw [z, es]; exact hpl
        · exact a7 j (by omega) h2
      rw [Ta_scan_46_c9_eq, if_pos (show nI l < (400 : Int32) from nlt_t (n := 400) (by omega) (by omega)), show rF X 46 4 = nI len from hT.2.1, if_pos (nlt_t hpl (by omega)), if_pos (inb_n (by omega) (by omega)), rA_n (by omega), (hT.2.2 p hpl).2, ltrX hc, ob, show nI l + (1 : Int32) = nI (l + 1) from nI_1 l, show nI p + (1 : Int32) = nI (p + 1) from nI_1 p]
      cases q1 : ltr (b p)
      · simp only [b2f, if_true]
        rw [dgtX hc, ob]
        cases q2 : dgt (b p)
        · simp only [b2f, if_true]
          have et : ten b len p = p + 1 := by
            unfold ten
            rw [if_neg e, if_neg (by rw [q1]; decide), if_neg (by rw [q2]; decide)]
          by_cases z : b p = 32
          · rw [z, if_pos (show nI 32 = (32 : Int32) from rfl)]
            exact ih (p + 1) k (l + 1) X (by omega) (by omega) hT hS (by omega) (by omega) (by rw [← sk_b hpl (by rw [z]; rfl)]; exact hsk)
          rw [if_neg (show ¬ nI (b p) = (32 : Int32) by rw [show (32 : Int32) = nI 32 from rfl, nI_eqE (by omega) (by omega)]; exact z)]
          by_cases z2 : b p = 10
          · rw [z2, if_pos (show nI 10 = (10 : Int32) from rfl)]
            exact ih (p + 1) k (l + 1) X (by omega) (by omega) hT hS (by omega) (by omega) (by rw [← sk_b hpl (by rw [z2]; rfl)]; exact hsk)
          rw [if_neg (show ¬ nI (b p) = (10 : Int32) by rw [show (10 : Int32) = nI 10 from rfl, nI_eqE (by omega) (by omega)]; exact z2)]
          have hb : blk (b p) = false := by unfold blk; rw [decide_eq_false z, decide_eq_false z2]; rfl
          rw [ixo hc, ob]
          simp only []
          rw [← et]
          have fs := fi_s (b p) hc
          cases q3 : sgn (b p)
          · rw [if_pos (by rw [fs]; exact q3), ptX hS.1 (by omega), ob]
            exact go 1 hb (by unfold tva; rw [if_neg e, if_neg (by rw [q1]; decide), if_neg (by rw [q2]; decide), if_neg (by rw [q3]; decide)]; rfl)
          · rw [if_neg (by rw [fs, q3]; decide), ptX hS.1 (by omega), ob]
            exact go _ hb (by unfold tva; rw [if_neg e, if_neg (by rw [q1]; decide), if_neg (by rw [q2]; decide), if_pos q3])
        · simp only [b2t, if_false]
          have et : ten b len p = pst dgt b len (len - p) p := by
            unfold ten
            rw [if_neg e, if_neg (by rw [q1]; decide), if_pos q2]
          have hb : blk (b p) = false := by
            unfold blk
            unfold dgt at q2
            rw [Bool.and_eq_true, decide_eq_true_eq, decide_eq_true_eq] at q2
            rw [decide_eq_false (by omega), decide_eq_false (by omega)]; rfl
          rw [Ta_pastDigits_46_eq, pdX hT (len - p) p (by omega), ← et, ob]
          simp only []
          rw [Ta_numberAt_46_eq, nI_subE (by omega)]
          have hall : ∀ j, p ≤ j → j < ten b len p → dgt (b j) = true := by
            intro j h1 h2
            rw [et] at h2
            exact (pst_s (P := dgt) (b := b) (len := len) (m := len - p) (i := p) (by omega)).2.2.1 j h1 h2
          by_cases q4 : ten b len p - p ≤ 4
          · rw [if_pos (show nI (ten b len p - p) ≤ (4 : Int32) from (n_le (c := 4) (by omega) (by omega)).mpr q4)]
            rw [show Ta_numberAt_46_c14 (nI (ten b len p)) (0 : Int32) (nI p) X = _ from nmX hT hts.2 (ten b len p - p) p 0 (by omega) hall, ob]
            simp only []
            rw [ptX hS.1 (by omega), ob]
            exact go _ hb (by unfold tva; rw [if_neg e, if_neg (by rw [q1]; decide), if_pos q2, if_pos q4])
          · rw [if_neg (show ¬ nI (ten b len p - p) ≤ (4 : Int32) from fun z => q4 ((n_le (c := 4) (by omega) (by omega)).mp z)), ob]
            simp only []
            rw [ptX hS.1 (by omega), ob]
            exact go _ hb (by unfold tva; rw [if_neg e, if_neg (by rw [q1]; decide), if_pos q2, if_neg q4]; rfl)
      · simp only [b2t, if_false]
        have et : ten b len p = pst ltr b len (len - p) p := by
          unfold ten
          rw [if_neg e, if_pos q1]
        have hb : blk (b p) = false := by
          cases z : blk (b p)
          · rfl
          · unfold blk at z
            rw [Bool.or_eq_true, decide_eq_true_eq, decide_eq_true_eq] at z
            rcases z with z | z <;> (rw [z] at q1; revert q1; decide)
        have hall : ∀ j, p ≤ j → j < ten b len p → b j ≠ 32 := by
          intro j h1 h2
          rw [et] at h2
          exact ltr_32 ((pst_s (P := ltr) (b := b) (len := len) (m := len - p) (i := p) (by omega)).2.2.1 j h1 h2)
        rw [Ta_pastLetters_46_eq, plX hT (len - p) p (by omega), ← et, ob]
        simp only []
        rw [wordX hT.2.2 h4 hts.1 hts.2 hall (wix_s b p (ten b len p)), ob]
        simp only []
        rw [ptX hS.1 (by omega), ob]
        refine go _ hb ?_
        unfold tva
        rw [if_neg e, if_pos q1]
        by_cases qx : wix b p (ten b len p) < 24
        · rw [if_pos qx, if_pos qx]
        · rw [if_neg qx, if_neg qx]; rfl
theorem scan_s {b : Nat → Nat} {len : Nat} {X : pS} (hT : TX b len X) : ∃ X' M, Ta_scan_46 X = some (0, X') ∧ M ≤ len ∧ stt b len M = len ∧ Sc b len (M + 1) X' ∧ Off FN WN X X' ∧ ∀ j, j < M → stt b len j < len := by
  have o1 : Off FN WN X (wF X 46 3 0) := Off.rf.wF (by decide)
  obtain ⟨X', M, a1, a2, a3, a4, a5, a6, a7⟩ := scan (len + 1) 0 0 0 (wF X 46 3 0) (by omega) (by omega) (TX_off hT o1 (by decide) (by decide)) ⟨by rw [wF_1, sA_eq, upd_eq]; rfl, fun j hj => by omega⟩ (by omega) (by omega) rfl
  exact ⟨X', M, by rw [Ta_scan_46_eq]; exact a1, a2, a4, a5, o1.tr a6, fun j hj => a7 j (by omega) hj⟩
