/-! Sorted, the game, uses. -/
theorem x_xor (a b : Nat) : nI a ^^^ nI b = nI (a ^^^ b) := by
  apply b_ext
  intro i hi
  rw [b_xor, bt_nI _ hi, bt_nI _ hi, bt_nI _ hi, Nat.testBit_xor]
section
variable {n : Nat} {D : tD} {B : tB} {L T : tL} {X R : pS}
theorem R_ans (hD : WD n D) (hT : WT n T) (hR : RA n D B L T R) (x : Int32) {k : Nat} (hk : k < T 0 4) : R_answersIn x (nI k) R = some (nI (cnt (fun c => bt x c && decide (D (T 9 k) c = nI (T 10 k))) n 0 0), R) := by
  have hn := hD.1
  obtain ⟨h10, hq⟩ := hT.2.2.2.2.2.1
  obtain ⟨q1, q2⟩ := hq k hk
  obtain ⟨a1, a2⟩ := hR.2.2.2.2.2.2.2.2.1 k hk
  have go : ∀ j i m, i + j = n → R_answersIn_c5 x (nI k) (nI m) (nI i) R = some (nI (cnt (fun c => bt x c && decide (D (T 9 k) c = nI (T 10 k))) j i m), R) := by
    intro j
    induction j with
    | zero =>
      intro i m hi
      rw [R_answersIn_c5_eq, show rF R 0 6 = nI n from hR.1.2, if_neg (nlt_f (by omega) (by omega) (by omega))]; rfl
    | succ j ih =>
      intro i m hi
      rw [R_answersIn_c5_eq, show rF R 0 6 = nI n from hR.1.2, if_pos (nlt_t (by omega) (by omega)), R_hasS _ (by omega), ob, cnt_s, nI_1, nI_1]
      simp only
      cases bt x i
      · rw [b2i_f, if_pos rfl, Bool.false_and, if_neg Bool.false_ne_true]
        exact ih (i + 1) m (by omega)
      · rw [b2i_t, if_neg (by decide), if_pos (inb_n (by omega) (by omega)), rA_n (by omega), a1, R_fact hR.1 (by omega) (by omega), ob, Bool.true_and]
        simp only
        rw [if_pos (inb_n (by omega) (by omega)), rA_n (by omega), a2]
        by_cases q : D (T 9 k) i = nI (T 10 k)
        · rw [if_pos q, decide_eq_true q, if_pos rfl]; exact ih (i + 1) (m + 1) (by omega)
        · rw [if_neg q, decide_eq_false q, if_neg Bool.false_ne_true]; exact ih (i + 1) m (by omega)
  rw [R_answersIn_eq]
  exact go n 0 0 (by omega)
theorem p_looked (hD : WD n D) (hT : WT n T) (hX : XA D B L T X) (hR : RA n D B L T R) (o : Nat) (ho : o < 3) : ∃ v, Ch_lookedAt_67 (nI o) X = some (v, X) ∧ R_lookedAt (nI o) R = some (v, R) := by
  have hn := hD.1
  obtain ⟨h10, hq⟩ := hT.2.2.2.2.2.1
  have x0 : X.1 19 2 = nI (T 0 4) := hX.2.2.2.2.2.2.2.2.2.1.1
  have r0 : R.1 0 49 = nI (T 0 4) := hR.2.2.2.1.2.2.2.2.1
  have go : ∀ j k (m : Int32), k + j = T 0 4 → ∃ v, Ch_lookedAt_67_c4 (nI o) m (nI k) X = some (v, X) ∧ R_lookedAt_c4 (nI o) m (nI k) R = some (v, R) := by
    intro j
    induction j with
    | zero =>
      intro k m hk
      refine ⟨m, ?_, ?_⟩
      · rw [Ch_lookedAt_67_c4_eq, show rF X 19 2 = nI (T 0 4) from x0, if_neg (nlt_f (by omega) (by omega) (by omega))]
      · rw [R_lookedAt_c4_eq, show rF R 0 49 = nI (T 0 4) from r0, if_neg (nlt_f (by omega) (by omega) (by omega))]
    | succ j ih =>
      intro k m hk
      obtain ⟨q1, q2⟩ := hq k (by omega)
      obtain ⟨x1, x2⟩ := hX.2.2.2.2.2.2.2.2.2.1.2 k (by omega)
      obtain ⟨a1, a2⟩ := hR.2.2.2.2.2.2.2.2.1 k (by omega)
      have t0 : Ro_at_19 (nI k) (0 : Int32) X = some (nI (T 9 k), X) := by rw [← x1]; exact at_19 (j := 0) h10 x0 (by omega) (by omega)
      have t1 : Ro_at_19 (nI k) (1 : Int32) X = some (nI (T 10 k), X) := by rw [← x2]; exact at_19 (j := 1) h10 x0 (by omega) (by omega)
      rw [Ch_lookedAt_67_c4_eq, show rF X 19 2 = nI (T 0 4) from x0, if_pos (nlt_t (by omega) (by omega)), t0, ob, R_lookedAt_c4_eq, show rF R 0 49 = nI (T 0 4) from r0, if_pos (nlt_t (by omega) (by omega)), if_pos (inb_n (by omega) (by omega)), rA_n (by omega), a1, kset hD hR.1, ob, nI_1]
      simp only
      by_cases e : nI (T 9 k) = nI o
      · rw [if_pos e, if_pos e, t1, ob, R_ans hD hT hR _ (by omega), ob]
        simp only
        rw [keptW_1 hD hX.1 (by omega), ob, Ch_lookedAt_67_c69_eq]
        simp only
        rw [bc_low (low_up (kw_low (by omega)) hn), ob, ones14 (p := kwQ D (T 9 k) (nI (T 10 k))) hn (kw_low (by omega)) (fun c hc => by rw [kw_bt (by omega), decide_eq_true hc, Bool.true_and]), nI_1]
        exact ih (k + 1) _ (by omega)
      · rw [if_neg e, if_neg e, ob]
        simp only
        rw [on_low (low_up hD.2.2.1 hn), ob, Ch_lookedAt_67_c69_eq, show rF X 1 2 = D 7 2 from hX.1.2 2 (by omega) (by omega), bc_low (low_up hD.2.2.1 hn), ob, nI_1]
        exact ih (k + 1) _ (by omega)
  rw [Ch_lookedAt_67_eq, R_lookedAt_eq]
  exact go (T 0 4) 0 0 (by omega)
end
theorem q_sorted {X R : pS} (w : Int32) (h : INV X R) : Gd (C_sorted w) (R_sorted w) X R := by
  obtain ⟨-, -, -, -, n, D, B, L, T, hw, hX, hR, -⟩ := id h
  have hR0 := RA_off hR told0
  have w2 : C_within w (2 : Int32) X = _ := within_s w 2 (S := X)
  have i2 : R_isIn w (0 : Int32) (1 : Int32) (wF R 0 0 0) = _ := isIn_s w 2 (by omega)
  cases e : inr w 2
  · rw [e] at w2 i2
    exact Gd_of h (v := -1) (by rw [C_sorted_eq, w2, ob]; rfl) Off.rf (by rw [R_sorted_eq, i2, ob]; rfl) told0
  · rw [e] at w2 i2
    have pl := fun o ho => p_looked hw.1 hw.2.2.2 hX hR0 o ho
    have fin : ∀ b, b < 3 → ∃ v, (if w = 0 then (some (nI b, X)) else ((Ch_lookedAt_67 (nI b) X).bind (fun q3 => some (q3.1, q3.2)))) = some (v, X) ∧ R_sorted_c21 w (nI b) (nI 3) (wF R 0 0 0) = some (v, wF R 0 0 0) := by
      intro b hb
      obtain ⟨v, v1, v2⟩ := pl b hb
      rw [R_sorted_c21_eq, if_neg (show ¬ nI 3 < (3 : Int32) by decide)]
      by_cases q : w = 0
      · rw [if_pos q, if_pos q]; exact ⟨_, rfl, rfl⟩
      · rw [if_neg q, if_neg q, v1, v2]; exact ⟨v, rfl, rfl⟩
    have go : ∀ k i b, i + k = 3 → b < 3 → ∃ b', b' < 3 ∧ Ch_bestOrder_67_c4 (nI b) (nI i) X = some (nI b', X) ∧ R_sorted_c21 w (nI b) (nI i) (wF R 0 0 0) = R_sorted_c21 w (nI b') (nI 3) (wF R 0 0 0) := by
      intro k
      induction k with
      | zero =>
        intro i b hi hb
        have : i = 3 := by omega
        subst this
        exact ⟨b, hb, by rw [Ch_bestOrder_67_c4_eq, if_neg (by decide)], rfl⟩
      | succ k ih =>
        intro i b hi hb
        obtain ⟨v1, a1, a2⟩ := pl i (by omega)
        obtain ⟨v2, b1, b2⟩ := pl b hb
        have h3 : nI i < (3 : Int32) := nlt_t (n := 3) (by omega) (by omega)
        have re := R_sorted_c21_eq w (nI b) (nI i) (wF R 0 0 0)
        rw [if_pos h3, a2, ob] at re
        simp only at re
        rw [b2, ob] at re
        rw [Ch_bestOrder_67_c4_eq, if_pos h3, a1, ob, re, nI_1]
        simp only
        rw [b1, ob]
        simp only
        by_cases q : v1 < v2
        · rw [if_pos q, if_pos q]; exact ih (i + 1) i (by omega) (by omega)
        · rw [if_neg q, if_neg q]; exact ih (i + 1) b (by omega) hb
    obtain ⟨b', hb', g1, g2⟩ := go 2 1 0 rfl (by omega)
    obtain ⟨v, v1, v2⟩ := fin b' hb'
    have g1 : Ch_bestOrder_67 X = some (nI b', X) := (Ch_bestOrder_67_eq X).trans g1
    refine Gd_of h (v := v) (X' := X) ?_ Off.rf ?_ told0
    · rw [C_sorted_eq, w2, ob]
      simp only [b2t, if_false, g1, ob]
      exact v1
    · rw [R_sorted_eq, i2, ob]
      simp only [b2t, if_false]
      rw [show R_sorted_c21 w (0 : Int32) (1 : Int32) (wF R 0 0 0) = _ from g2]
      exact v2
/-- how many kept cards of a firm -/
def hp (D : tD) (n f : Nat) : Nat := cnt (kwQ D 1 (nI f)) n 0 0
theorem cnt_le (p : Nat → Bool) : ∀ k i m, cnt p k i m ≤ m + k
  | 0, _, _ => Nat.le_refl _
  | k + 1, i, m => by
    rw [cnt_s]
    have := cnt_le p k (i + 1) (if p i = true then m + 1 else m)
    by_cases h : p i = true
    · rw [if_pos h] at *; omega
    · rw [if_neg h] at *; omega
def xAll (D : tD) (n : Nat) : Nat → Nat → Nat → Nat := lp (fun o m => m ^^^ hp D n o)
def xOut (D : tD) (n f : Nat) : Nat → Nat → Nat → Nat := lp (fun o m => if o = f then m else m ^^^ hp D n o)
theorem xAll_m {D : tD} {n : Nat} (x : Nat) : ∀ k i m, xAll D n k i (m ^^^ x) = xAll D n k i m ^^^ x
  | 0, _, _ => rfl
  | k + 1, i, m => by
    show xAll D n k (i + 1) (m ^^^ x ^^^ hp D n i) = xAll D n k (i + 1) (m ^^^ hp D n i) ^^^ x
    rw [← xAll_m x k (i + 1), Nat.xor_assoc, Nat.xor_comm x, ← Nat.xor_assoc]
theorem xOut_eq {D : tD} {n f : Nat} : ∀ k i m, (f < i ∨ i + k ≤ f) → xOut D n f k i m = xAll D n k i m
  | 0, _, _, _ => rfl
  | k + 1, i, m, h => by
    show xOut D n f k (i + 1) (if i = f then m else m ^^^ hp D n i) = xAll D n k (i + 1) (m ^^^ hp D n i)
    rw [if_neg (by omega), xOut_eq k (i + 1) _ (by omega)]
theorem x_out {D : tD} {n f : Nat} : ∀ k i m, i ≤ f → f < i + k → xAll D n k i m = xOut D n f k i m ^^^ hp D n f
  | 0, i, m, h1, h2 => by omega
  | k + 1, i, m, h1, h2 => by
    show xAll D n k (i + 1) (m ^^^ hp D n i) = xOut D n f k (i + 1) (if i = f then m else m ^^^ hp D n i) ^^^ hp D n f
    by_cases e : i = f
    · subst e
      rw [if_pos rfl, xOut_eq k (i + 1) m (by omega), xAll_m]
    · rw [if_neg e]
      exact x_out k (i + 1) _ (by omega) (by omega)
theorem hp_lt {D : tD} {n f : Nat} (hn : n ≤ 14) : hp D n f < 2 ^ 4 := by
  have := cnt_le (kwQ D 1 (nI f)) n 0 0
  unfold hp
  omega
theorem xOut_lt {D : tD} {n f : Nat} (hn : n ≤ 14) : ∀ k i m, m < 2 ^ 4 → xOut D n f k i m < 2 ^ 4
  | 0, _, _, h => h
  | k + 1, i, m, h => by
    show xOut D n f k (i + 1) (if i = f then m else m ^^^ hp D n i) < 2 ^ 4
    apply xOut_lt hn
    by_cases e : i = f
    · rw [if_pos e]; exact h
    · rw [if_neg e]; exact Nat.xor_lt_two_pow h (hp_lt hn)
section
variable {n : Nat} {D : tD} {B : tB} {L T : tL} {X R : pS}
theorem pile_s (hD : WD n D) (hX : XD 1 D X) (f : Nat) : Ch_pile_67 (nI f) X = some (nI (hp D n f), X) := by
  have hn := hD.1
  rw [Ch_pile_67_eq, show Dr_keptWith_1 (1 : Int32) (nI f) X = _ from keptW_1 (r := 1) hD hX (by omega), ob]
  simp only
  rw [bc_low (low_up (kw_low (by omega)) hn), ones14 (p := kwQ D 1 (nI f)) hn (kw_low (by omega)) (fun c hc => by rw [kw_bt (by omega), decide_eq_true hc, Bool.true_and])]
  rfl
theorem left_s (hD : WD n D) (hX : XD 1 D X) {f : Nat} (hf : f < 8) : Ch_leftToLose_67 (nI f) X = some (nI (xOut D n f 8 0 0), X) := by
  have go : ∀ k i m, i + k = 8 → Ch_leftToLose_67_c4 (nI f) (nI m) (nI i) X = some (nI (xOut D n f k i m), X) := by
    intro k
    induction k with
    | zero =>
      intro i m hi
      have : i = 8 := by omega
      subst this
      rw [Ch_leftToLose_67_c4_eq, if_neg (by decide)]; rfl
    | succ k ih =>
      intro i m hi
      rw [Ch_leftToLose_67_c4_eq, if_pos (show nI i < (8 : Int32) from nlt_t (n := 8) (by omega) (by omega)), nI_1]
      show _ = some (nI (xOut D n f k (i + 1) (if i = f then m else m ^^^ hp D n i)), X)
      by_cases e : i = f
      · rw [if_pos (by rw [e]), if_pos e]; exact ih (i + 1) m (by omega)
      · rw [if_neg (neq_f e (by omega) (by omega)), if_neg e, pile_s hD hX, ob]
        simp only
        rw [x_xor]
        exact ih (i + 1) _ (by omega)
  rw [Ch_leftToLose_67_eq]
  exact go 8 0 0 rfl
theorem heap_s (hD : WD n D) (hR : RDm n D R) (f : Nat) : R_heapOf (nI f) R = some (nI (hp D n f), R) := by
  have hn := hD.1
  have go : ∀ k i m, i + k = n → R_heapOf_c4 (nI f) (nI m) (nI i) R = some (nI (cnt (kwQ D 1 (nI f)) k i m), R) := by
    intro k
    induction k with
    | zero =>
      intro i m hi
      rw [R_heapOf_c4_eq, show rF R 0 6 = nI n from hR.2, if_neg (nlt_f (by omega) (by omega) (by omega))]; rfl
    | succ k ih =>
      intro i m hi
      have d1 := (hR.1.1 i (by omega)).2.1
      rw [R_heapOf_c4_eq, show rF R 0 6 = nI n from hR.2, if_pos (nlt_t (by omega) (by omega)), R_kept hR hn (by omega), ob, cnt_s, nI_1, nI_1]
      simp only
      unfold kwQ at *
      cases bt (D 7 2) i
      · rw [b2i_f, if_pos rfl, Bool.false_and, if_neg Bool.false_ne_true]; exact ih (i + 1) m (by omega)
      · rw [b2i_t, if_neg (by decide), if_pos (inb_n (by omega) (by omega)), rA_n (by omega), d1, Bool.true_and]
        by_cases q : D 1 i = nI f
        · rw [if_pos q, decide_eq_true q, if_pos rfl]; exact ih (i + 1) (m + 1) (by omega)
        · rw [if_neg q, decide_eq_false q, if_neg Bool.false_ne_true]; exact ih (i + 1) m (by omega)
  rw [R_heapOf_eq]
  exact go n 0 0 (by omega)
end
theorem q_game {X R : pS} (w : Int32) (h : INV X R) : Gd (C_game w) (R_game w) X R := by
  obtain ⟨-, -, -, -, n, D, B, L, T, hw, hX, hR, -⟩ := id h
  have hR0 := RA_off hR told0
  have hn := hw.1.1
  have w2 : C_within w (2 : Int32) X = _ := within_s w 2 (S := X)
  have i2 : R_isIn w (0 : Int32) (1 : Int32) (wF R 0 0 0) = _ := isIn_s w 2 (by omega)
  cases e : inr w 2
  · rw [e] at w2 i2
    exact Gd_of h (v := -1) (by rw [C_game_eq, w2, ob]; rfl) Off.rf (by rw [R_game_eq, i2, ob]; rfl) told0
  · rw [e] at w2 i2
    have all : ∀ k i m, i + k = 8 → R_game_c21 w (nI m) (nI i) (wF R 0 0 0) = R_game_c43 w (nI (xAll D n k i m)) 0 (wF R 0 0 0) := by
      intro k
      induction k with
      | zero =>
        intro i m hi
        have : i = 8 := by omega
        subst this
        rw [R_game_c21_eq, if_neg (by decide)]; rfl
      | succ k ih =>
        intro i m hi
        rw [R_game_c21_eq, if_pos (show nI i < (8 : Int32) from nlt_t (n := 8) (by omega) (by omega)), heap_s hw.1 hR0.1, ob, nI_1]
        simp only
        rw [x_xor]
        exact ih (i + 1) _ (by omega)
    have cts : ∀ f, f < 8 → Ch_cardsToThrow_67 (nI f) X = some (nI (hp D n f) - nI (xOut D n f 8 0 0), X) := by
      intro f hf
      rw [Ch_cardsToThrow_67_eq, pile_s hw.1 hX.1, ob]
      simp only
      rw [left_s hw.1 hX.1 hf]; rfl
    have xo : ∀ f, f < 8 → hp D n f ^^^ xAll D n 8 0 0 = xOut D n f 8 0 0 := by
      intro f hf
      rw [x_out 8 0 0 (by omega) (by omega : f < 0 + 8), Nat.xor_comm, Nat.xor_assoc, Nat.xor_self, Nat.xor_zero]
    have go : ∀ k i, i + k = 8 → ∃ v, (∃ b : Int32, Ch_firmToThrow_67_c2 (nI i) X = some (b, X) ∧ (if b = (-1 : Int32) then (some (b, X)) else (if w = 0 then (some (b, X)) else ((Ch_cardsToThrow_67 b X).bind (fun q3 => some (q3.1, q3.2))))) = some (v, X)) ∧ R_game_c43 w (nI (xAll D n 8 0 0)) (nI i) (wF R 0 0 0) = some (v, wF R 0 0 0) := by
      intro k
      induction k with
      | zero =>
        intro i hi
        have : i = 8 := by omega
        subst this
        exact ⟨-1, ⟨-1, by rw [Ch_firmToThrow_67_c2_eq, if_neg (by decide)], rfl⟩, by rw [R_game_c43_eq, if_neg (by decide)]⟩
      | succ k ih =>
        intro i hi
        have h8 : nI i < (8 : Int32) := nlt_t (n := 8) (by omega) (by omega)
        have hl := hp_lt (D := D) (f := i) hn
        have ho := xOut_lt (D := D) (f := i) hn 8 0 0 (by omega)
        have key : (nI (hp D n i) - nI (xOut D n i 8 0 0) ≤ 0) ↔ ¬ nI (xOut D n i 8 0 0) < nI (hp D n i) := by
          rw [nI_ltE (by omega) (by omega), fa_le, pk_sub_toInt (by omega) (by omega), show (0 : Int32).toInt = 0 from rfl]
          omega
        rw [Ch_firmToThrow_67_c2_eq, if_pos h8, cts i (by omega), ob, R_game_c43_eq, if_pos h8, heap_s hw.1 hR0.1, ob]
        simp only
        rw [heap_s hw.1 hR0.1, ob, nI_1, x_xor, xo i (by omega)]
        simp only
        by_cases q : nI (xOut D n i 8 0 0) < nI (hp D n i)
        · rw [if_pos q, if_neg (fun z => key.mp z q)]
          by_cases q0 : w = 0
          · rw [if_pos q0]
            exact ⟨nI i, ⟨nI i, rfl, by rw [if_neg (nI_ne_m1 (by omega)), if_pos q0]⟩, rfl⟩
          · rw [if_neg q0, heap_s hw.1 hR0.1, ob]
            simp only
            rw [heap_s hw.1 hR0.1, ob]
            simp only
            rw [x_xor, xo i (by omega)]
            exact ⟨_, ⟨nI i, rfl, by rw [if_neg (nI_ne_m1 (by omega)), if_neg q0, cts i (by omega)]; rfl⟩, rfl⟩
        · rw [if_neg q, if_pos (key.mpr q)]
          exact ih (i + 1) (by omega)
    obtain ⟨v, ⟨b, b1, b2⟩, v2⟩ := go 8 0 rfl
    have b1 : Ch_firmToThrow_67 X = some (b, X) := (Ch_firmToThrow_67_eq X).trans b1
    refine Gd_of h (v := v) (X' := X) ?_ Off.rf ?_ told0
    · rw [C_game_eq, w2, ob]
      simp only [b2t, if_false, b1, ob]
      exact b2
    · rw [R_game_eq, i2, ob]
      simp only [b2t, if_false]
      rw [show R_game_c21 w (0 : Int32) (0 : Int32) (wF R 0 0 0) = _ from all 8 0 0 rfl]
      exact v2
def sumH (L : tL) (D : tD) : Nat → Nat → Int32 → Int32 := lp (fun c s => if bt (D 7 2) c then s + tell L D c 0 else s)
theorem q_uses {X R : pS} (w : Int32) (h : INV X R) : Gd (C_uses w) (R_uses w) X R := by
  obtain ⟨hcx, -, -, -, n, D, B, L, T, hw, hX, hR, -⟩ := id h
  have hR0 := RA_off hR told0
  have hn := hw.1.1
  have i2 : R_isIn w (0 : Int32) (1 : Int32) (wF R 0 0 0) = _ := isIn_s w 2 (by omega)
  cases e : inr w 2
  · rw [e] at i2
    have nb : ∀ k, k < 2 → ¬ w = nI k := fun k hk q => by rw [q, inr_n hk (by omega)] at e; cases e
    exact Gd_of h (v := -1) (by rw [C_uses_eq, if_neg (show ¬ w = (0 : Int32) from nb 0 (by omega)), if_neg (show ¬ w = (1 : Int32) from nb 1 (by omega))]) Off.rf (by rw [R_uses_eq, i2, ob]; rfl) told0
  · rw [e] at i2
    have rgo : ∀ k i (s : Int32) (b : Option Nat) (S : pS), i + k = n → (∀ c, b = some c → c < n) → RDm n D S → RLm L S → ∃ S', R_uses_c24 w s (o2i b) (nI i) S = (if w = 0 then (some (sumH L D k i s / (1000 : Int32), S')) else (some (o2i (bst L D (bt (D 7 2)) k i b), S'))) ∧ Off [] [22, 23] S S' := by
      intro k
      induction k with
      | zero =>
        intro i s b S hi hb hS hSL
        refine ⟨S, ?_, Off.rf⟩
        rw [R_uses_c24_eq, show rF S 0 6 = nI n from hS.2, if_neg (nlt_f (by omega) (by omega) (by omega))]; rfl
      | succ k ih =>
        intro i s b S hi hb hS hSL
        rw [R_uses_c24_eq, show rF S 0 6 = nI n from hS.2, if_pos (nlt_t (by omega) (by omega)), R_kept hS hn (by omega), ob, nI_1]
        have off2 : ∀ S1, Off [] [22, 23] S S1 → RDm n D S1 ∧ RLm L S1 := fun S1 ho => ⟨RDm_off hS ho (by simp) (by decide) (by decide) (by decide) (by decide), RLm_off hSL ho (fun i a b => by simp; omega)⟩
        have go : ∀ (b' : Option Nat) (s' : Int32) (S1 : pS), Off [] [22, 23] S S1 → (∀ c, b' = some c → c < n) → (if bt (D 7 2) i then s + tell L D i 0 else s) = s' → bstS L D (bt (D 7 2)) i b = b' → ∃ S', R_uses_c24 w s' (o2i b') (nI (i + 1)) S1 = (if w = 0 then (some (sumH L D (k + 1) i s / (1000 : Int32), S')) else (some (o2i (bst L D (bt (D 7 2)) (k + 1) i b), S'))) ∧ Off [] [22, 23] S S' := by
          intro b' s' S1 ho hb' es e
          obtain ⟨S', q1, q2⟩ := ih (i + 1) s' b' S1 (by omega) hb' (off2 S1 ho).1 (off2 S1 ho).2
          refine ⟨S', ?_, ho.tr q2⟩
          rw [q1, ← es, ← e]
          rfl
        simp only
        cases hk : bt (D 7 2) i
        · rw [b2i_f, if_pos rfl]
          exact go b s S Off.rf hb (by rw [hk]; rfl) (bstS_no hk)
        · rw [b2i_t, if_neg (by decide)]
          obtain ⟨S1, q1, q2⟩ := R_tell0 (c := i) hw.2.2.1 hS hSL (by omega)
          rw [q1, ob]
          simp only
          cases b with
          | none =>
            rw [if_pos (show o2i none = (-1 : Int32) from rfl)]
            exact go (some i) _ S1 q2 (fun c e => by cases e; omega) (by rw [hk]; rfl) (bstS_0 hk)
          | some b0 =>
            have hb0 := hb b0 rfl
            rw [show o2i (some b0) = nI b0 from rfl, if_neg (nI_ne_m1 (by omega))]
            obtain ⟨S2, r1, r2⟩ := R_tell0 (c := i) hw.2.2.1 (off2 S1 q2).1 (off2 S1 q2).2 (by omega)
            rw [r1, ob]
            simp only
            obtain ⟨S3, s1, s2⟩ := R_tell0 (c := b0) hw.2.2.1 (off2 S2 (q2.tr r2)).1 (off2 S2 (q2.tr r2)).2 (by omega)
            rw [s1, ob]
            simp only
            by_cases q : tell L D i 0 ≤ tell L D b0 0
            · rw [if_pos q]
              exact go (some b0) _ S3 ((q2.tr r2).tr s2) hb (by rw [hk]; rfl) (by rw [bstS_1 hk, if_pos q])
            · rw [if_neg q]
              exact go (some i) _ S3 ((q2.tr r2).tr s2) (fun c e => by cases e; omega) (by rw [hk]; rfl) (by rw [bstS_1 hk, if_neg q])
    obtain ⟨R', r1, r2⟩ := rgo n 0 0 none (wF R 0 0 0) (by omega) (fun c e => by cases e) hR0.1 hR0.2.2.1
    have re : R_uses w R = (if w = 0 then (some (sumH L D n 0 0 / (1000 : Int32), R')) else (some (o2i (bst L D (bt (D 7 2)) n 0 none), R'))) := by
      rw [R_uses_eq, i2, ob]
      simp only [b2t, if_false]
      exact r1
    have ro : Off FR WRs R R' := told0.tr (r2.mono (by simp) (by simp))
    by_cases q : w = 0
    · have xgo : ∀ k i (s : Int32) (S : pS), i + k = n → XD 1 D S → XL 4 L S → ∃ S', Ke_sumOfHolds_25_c4 s (nI i) S = some (sumH L D k i s, S') ∧ Off [] [10, 11] S S' := by
        intro k
        induction k with
        | zero =>
          intro i s S hi hS hSL
          refine ⟨S, ?_, Off.rf⟩
          rw [Ke_sumOfHolds_25_c4_eq, show rF S 1 1 = nI n from cards_1 hw.1 hS, if_neg (nlt_f (by omega) (by omega) (by omega))]; rfl
        | succ k ih =>
          intro i s S hi hS hSL
          rw [Ke_sumOfHolds_25_c4_eq, show rF S 1 1 = nI n from cards_1 hw.1 hS, if_pos (nlt_t (by omega) (by omega)), kept_1 hS (by omega), ob, nI_1]
          rw [show sumH L D (k + 1) i s = sumH L D k (i + 1) (if bt (D 7 2) i then s + tell L D i 0 else s) from rfl]
          simp only
          cases bt (D 7 2) i
          · rw [b2i_f, if_pos rfl, if_neg Bool.false_ne_true]
            exact ih (i + 1) s S (by omega) hS hSL
          · rw [b2i_t, if_neg (by decide), if_pos rfl]
            obtain ⟨S1, q1, q2⟩ := tell_1 (c := i) (w := 0) hw.1 hw.2.2.1 hS hSL (by omega) (by omega)
            rw [show La_tell_4_1 (nI i) (0 : Int32) S = _ from q1, ob]
            obtain ⟨S2, r1, r2⟩ := ih (i + 1) (s + tell L D i 0) S1 (by omega) (XD_off hS q2 (fun _ _ _ => by simp) (by decide)) (XL_off hSL q2 (by decide) (by decide) (by decide) (by decide) (by decide) (by decide) (by decide))
            exact ⟨S2, r1, q2.tr r2⟩
      obtain ⟨X', x1, x2⟩ := xgo n 0 0 X (by omega) hX.1 hX.2.2.1
      rw [if_pos q] at re
      refine Gd_of h ?_ (x2.mono (by simp) (by simp)) re ro
      rw [C_uses_eq, if_pos q, Ke_sumOfHolds_25_eq, show Ke_sumOfHolds_25_c4 (0 : Int32) (0 : Int32) X = _ from x1]; rfl
    · rw [if_neg q] at re
      have q1 : w = 1 := by
        obtain ⟨j, hj, rfl⟩ := inr_t (by omega) e
        have : j = 0 ∨ j = 1 := by omega
        rcases this with rfl | rfl
        · exact absurd rfl q
        · rfl
      obtain ⟨X', x1, x2, x3, x4⟩ := likely_25 (set := D 7 2) (q := bt (D 7 2)) hw.1 hw.2.2.1 (XP_of hcx hw hX) hX.2.2.1 (fun c _ => rfl)
      refine Gd_of h ?_ (x4.mono (by simp) (by simp)) re ro
      rw [C_uses_eq, if_neg q, if_pos q1, show rF X 1 2 = D 7 2 from hX.1.2 2 (by omega) (by omega), x1]; rfl
