/-! Questions of kept cards, on. -/
theorem at_17 {m i j : Nat} {S : pS} (hm : m ≤ 12) (h : S.1 17 2 = nI m) (hi : i < m) (hj : j < 4) : Ro_at_17 (nI i) (nI j) S = some (S.2.1 18 (4 * i + j), S) := by
  rw [Ro_at_17_eq, show rF S 17 2 = nI m from h, if_neg (show ¬ nI i < 0 from nI_pos (by omega)), if_pos (nlt_t (by omega) (by omega)), show C_within (nI j) (4 : Int32) S = _ from within_s (nI j) 4, inr_n hj (by omega), ob]
  simp only [b2t, if_false]
  simp (disch := omega) only [show (4 : Int32) = nI 4 from rfl, pk_mul, nI_add, inb_n, if_true, rA_n, Nat.mul_comm i 4]
theorem at_19 {m i j : Nat} {S : pS} (hm : m ≤ 10) (h : S.1 19 2 = nI m) (hi : i < m) (hj : j < 4) : Ro_at_19 (nI i) (nI j) S = some (S.2.1 20 (4 * i + j), S) := by
  rw [Ro_at_19_eq, show rF S 19 2 = nI m from h, if_neg (show ¬ nI i < 0 from nI_pos (by omega)), if_pos (nlt_t (by omega) (by omega)), show C_within (nI j) (4 : Int32) S = _ from within_s (nI j) 4, inr_n hj (by omega), ob]
  simp only [b2t, if_false]
  simp (disch := omega) only [show (4 : Int32) = nI 4 from rfl, pk_mul, nI_add, inb_n, if_true, rA_n, Nat.mul_comm i 4]
theorem at_21 {m i j : Nat} {S : pS} (hm : m ≤ 8) (h : S.1 21 2 = nI m) (hi : i < m) (hj : j < 4) : Ro_at_21 (nI i) (nI j) S = some (S.2.1 22 (4 * i + j), S) := by
  rw [Ro_at_21_eq, show rF S 21 2 = nI m from h, if_neg (show ¬ nI i < 0 from nI_pos (by omega)), if_pos (nlt_t (by omega) (by omega)), show C_within (nI j) (4 : Int32) S = _ from within_s (nI j) 4, inr_n hj (by omega), ob]
  simp only [b2t, if_false]
  simp (disch := omega) only [show (4 : Int32) = nI 4 from rfl, pk_mul, nI_add, inb_n, if_true, rA_n, Nat.mul_comm i 4]
/-- how many -/
def cnt (p : Nat → Bool) : Nat → Nat → Nat → Nat := lp (fun c m => if p c then m + 1 else m)
theorem cnt_s (p : Nat → Bool) (k i m : Nat) : cnt p (k + 1) i m = cnt p k (i + 1) (if p i then m + 1 else m) := rfl
theorem cnt_add (p : Nat → Bool) : ∀ k i m, cnt p k i m = m + cnt p k i 0
  | 0, _, _ => rfl
  | k + 1, i, m => by
    rw [cnt_s, cnt_s, cnt_add p k (i + 1) (if p i = true then m + 1 else m), cnt_add p k (i + 1) (if p i = true then 0 + 1 else 0)]
    by_cases h : p i = true
    · rw [if_pos h, if_pos h]; omega
    · rw [if_neg h, if_neg h]; omega
theorem cnt_ones {x : Int32} {p : Nat → Bool} : ∀ n, (∀ c, c < n → bt x c = p c) → ones x n = cnt p n 0 0
  | 0, _ => rfl
  | n + 1, h => by
    rw [ones, cnt_ones n (fun c hc => h c (by omega)), h n (by omega)]
    unfold cnt
    rw [lp_last, Nat.zero_add]
    by_cases q : p n = true
    · rw [if_pos q, if_pos q]
    · rw [if_neg q, if_neg q]; rfl
theorem ones14 {x : Int32} {p : Nat → Bool} {n : Nat} (hn : n ≤ 14) (hl : lowm x n) (h : ∀ c, c < n → bt x c = p c) : ones x 14 = cnt p n 0 0 := by
  rw [← cnt_ones n h]
  have := ones_up hl (14 - n)
  rw [show n + (14 - n) = 14 from by omega] at this
  exact this
def sonQ (D : tD) (c : Nat) : Nat → Bool := fun o => bt (D 7 2) o && (decide (D 0 o = D 0 c) && (decide (D 3 o < D 3 c) || (decide (D 3 o = D 3 c) && decide (o < c))))
theorem or_tw (m : Int32) (c : Nat) : m ||| bit c ||| bit c = m ||| bit c := b_ext (fun i _ => by rw [b_or, b_or, Bool.or_assoc, Bool.or_self])
section
variable {n : Nat} {D : tD} {X R : pS}
theorem p_sooner (hD : WD n D) (hX : XD 1 D X) {c : Nat} (hc : c < n) : Ch_hasSooner_67 (nI c) X = some (b2i (fst? (sonQ D c) n 0).isSome, X) := by
  have hn := hD.1
  have go : ∀ k i, i + k = n → Ch_hasSooner_67_c12 (nI c) (D 3 c) (nI i) X = some (b2i (fst? (sonQ D c) k i).isSome, X) := by
    intro k
    induction k with
    | zero =>
      intro i hi
      rw [Ch_hasSooner_67_c12_eq, show rF X 1 1 = nI n from cards_1 hD hX, if_neg (nlt_f (by omega) (by omega) (by omega))]; rfl
    | succ k ih =>
      intro i hi
      have r0 : ∀ o, o < 14 → Dr_read_1 (nI o) (0 : Int32) X = some (D 0 o, X) := fun o ho => read_1 (n := 0) (r := 0) hX (by omega) ho
      have r3 : ∀ o, o < 14 → Dr_read_1 (nI o) (3 : Int32) X = some (D 3 o, X) := fun o ho => read_1 (n := 0) (r := 3) hX (by omega) ho
      rw [Ch_hasSooner_67_c12_eq, show rF X 1 1 = nI n from cards_1 hD hX, if_pos (nlt_t (by omega) (by omega)), kept_1 hX (by omega), ob, fst?, nI_1]
      simp only
      unfold sonQ at *
      cases bt (D 7 2) i
      · rw [b2i_f, if_pos rfl, Bool.false_and, if_neg Bool.false_ne_true]
        exact ih (i + 1) (by omega)
      · rw [b2i_t, if_neg (by decide), r0 i (by omega), ob]
        simp only
        rw [r0 c (by omega), ob]
        simp only
        by_cases e0 : D 0 i = D 0 c
        · rw [if_pos e0, r3 i (by omega), ob, decide_eq_true e0, Bool.true_and, Bool.true_and]
          simp only
          by_cases e1 : D 3 i < D 3 c
          · rw [if_pos e1, decide_eq_true e1, Bool.true_or, if_pos rfl]; rfl
          · rw [if_neg e1, decide_eq_false e1, Bool.false_or]
            by_cases e2 : D 3 i = D 3 c
            · rw [if_pos e2, decide_eq_true e2, Bool.true_and]
              by_cases e3 : i < c
              · rw [if_pos (nlt_t e3 (by omega)), decide_eq_true e3, if_pos rfl]; rfl
              · rw [if_neg (nlt_f e3 (by omega) (by omega)), decide_eq_false e3, if_neg Bool.false_ne_true]
                exact ih (i + 1) (by omega)
            · rw [if_neg e2, decide_eq_false e2, Bool.false_and, if_neg Bool.false_ne_true]
              exact ih (i + 1) (by omega)
        · rw [if_neg e0, decide_eq_false e0, Bool.false_and, Bool.and_false, if_neg Bool.false_ne_true]
          exact ih (i + 1) (by omega)
  rw [Ch_hasSooner_67_eq, show Dr_read_1 (nI c) (3 : Int32) X = _ from read_1 (n := 0) (r := 3) hX (by omega) (by omega), ob]
  exact go n 0 (by omega)
theorem R_aheadS (hR : RDm n D R) {o c : Nat} (ho : o < 14) (hc : c < 14) : R_isAhead (nI o) (nI c) R = some (b2i (decide (D 3 o < D 3 c) || (decide (D 3 o = D 3 c) && decide (o < c))), R) := by
  have e1 := (hR.1.1 o ho).2.2.2.1
  have e2 := (hR.1.1 c hc).2.2.2.1
  rw [R_isAhead_eq, show (6 : Int32) = nI 6 from rfl, nI_add, nI_add, if_pos (inb_n (by omega) (by omega)), if_pos (inb_n (by omega) (by omega)), rA_n (by omega), rA_n (by omega), e1, e2]
  by_cases q1 : D 3 o < D 3 c
  · rw [if_pos q1, decide_eq_true q1]; rfl
  · rw [if_neg q1, decide_eq_false q1, if_pos (inb_n (by omega) (by omega)), if_pos (inb_n (by omega) (by omega))]
    by_cases q2 : D 3 o = D 3 c
    · rw [if_pos q2, decide_eq_true q2]
      by_cases q3 : o < c
      · rw [if_pos (nlt_t q3 (by omega)), decide_eq_true q3]; rfl
      · rw [if_neg (nlt_f q3 (by omega) (by omega)), decide_eq_false q3]; rfl
    · rw [if_neg q2, decide_eq_false q2]; rfl
theorem R_sec1 (hD : WD n D) (hR : RDm n D R) {c : Nat} (hc : c < n) : ∀ k i m, i + k = n → R_seconds_c19 m (nI c) (nI i) R = R_seconds_c9 (if bt (D 7 2) c && (fst? (sonQ D c) k i).isSome then m ||| bit c else m) (nI (c + 1)) R := by
  have hn := hD.1
  intro k
  induction k with
  | zero =>
    intro i m hi
    rw [R_seconds_c19_eq, show rF R 0 6 = nI n from hR.2, if_neg (nlt_f (by omega) (by omega) (by omega)), nI_1]
    simp [fst?]
  | succ k ih =>
    intro i m hi
    have p0 := (hR.1.1 i (by omega)).1
    have p1 := (hR.1.1 c (by omega)).1
    rw [R_seconds_c19_eq, show rF R 0 6 = nI n from hR.2, if_pos (nlt_t (by omega) (by omega)), R_kept hR hn hc, ob, nI_1]
    simp only
    have ihm := ih (i + 1) m (by omega)
    cases hk : bt (D 7 2) c
    · rw [b2i_f, if_pos rfl, ihm, hk, Bool.false_and, Bool.false_and]
    · rw [hk] at ihm
      rw [b2i_t, if_neg (by decide), R_kept hR hn (by omega), ob]
      simp only
      have nof : ∀ (q : sonQ D c i = false), (fst? (sonQ D c) (k + 1) i) = fst? (sonQ D c) k (i + 1) := fun q => by rw [fst?, q, if_neg Bool.false_ne_true]
      cases hi2 : bt (D 7 2) i
      · rw [b2i_f, if_pos rfl, ihm, nof (by unfold sonQ; rw [hi2]; rfl)]
      · rw [b2i_t, if_neg (by decide), if_pos (inb_n (by omega) (by omega)), if_pos (inb_n (by omega) (by omega)), rA_n (by omega), rA_n (by omega), p0, p1]
        by_cases e0 : D 0 i = D 0 c
        · rw [if_pos e0, R_aheadS hR (by omega) (by omega), ob]
          simp only
          cases ha : (decide (D 3 i < D 3 c) || (decide (D 3 i = D 3 c) && decide (i < c)))
          · rw [b2i_f, if_pos rfl, ihm, nof (by unfold sonQ; rw [hi2, ha, Bool.and_false, Bool.and_false])]
          · rw [b2i_t, if_neg (by decide)]
            have : sonQ D c i = true := by unfold sonQ; rw [hi2, ha, decide_eq_true e0]; rfl
            have ih2 := ih (i + 1) (m ||| bit c) (by omega)
            rw [hk] at ih2
            rw [show m ||| (1 : Int32) <<< (nI c &&& 31) = m ||| bit c from rfl, ih2, fst?, this, if_pos rfl, or_tw]
            simp
        · rw [if_neg e0, ihm, nof (by unfold sonQ; rw [decide_eq_false e0, Bool.false_and, Bool.and_false])]
theorem p_seconds (hD : WD n D) (hX : XD 1 D X) (hR : RDm n D R) : ∃ v, Ch_secondOnes_67 X = some (v, X) ∧ R_seconds_c9 0 0 R = some (v, R) := by
  have hn := hD.1
  have go : ∀ k c m, c + k = n → ∃ v, Ch_secondOnes_67_c4 m (nI c) X = some (v, X) ∧ R_seconds_c9 m (nI c) R = some (v, R) := by
    intro k
    induction k with
    | zero =>
      intro c m hc
      refine ⟨m, ?_, ?_⟩
      · rw [Ch_secondOnes_67_c4_eq, show rF X 1 1 = nI n from cards_1 hD hX, if_neg (nlt_f (by omega) (by omega) (by omega))]
      · rw [R_seconds_c9_eq, show rF R 0 6 = nI n from hR.2, if_neg (nlt_f (by omega) (by omega) (by omega))]
    | succ k ih =>
      intro c m hc
      rw [Ch_secondOnes_67_c4_eq, show rF X 1 1 = nI n from cards_1 hD hX, if_pos (nlt_t (by omega) (by omega)), R_seconds_c9_eq, show rF R 0 6 = nI n from hR.2, if_pos (nlt_t (by omega) (by omega)), show R_seconds_c19 m (nI c) (0 : Int32) R = _ from R_sec1 hD hR (by omega) n 0 m (by omega), kept_1 hX (by omega), ob, nI_1]
      simp only
      cases bt (D 7 2) c
      · rw [b2i_f, if_pos rfl, Bool.false_and, if_neg Bool.false_ne_true]
        exact ih (c + 1) m (by omega)
      · rw [b2i_t, if_neg (by decide), p_sooner hD hX (by omega), ob]
        simp only
        cases (fst? (sonQ D c) n 0).isSome
        · rw [b2i_f, if_pos rfl, Bool.and_false, if_neg Bool.false_ne_true]
          exact ih (c + 1) m (by omega)
        · rw [b2i_t, if_neg (by decide), Bool.and_self, if_pos rfl]
          exact ih (c + 1) _ (by omega)
  rw [Ch_secondOnes_67_eq]
  exact go n 0 0 (by omega)
theorem p_common (hX : XD 1 D X) (hR : RDm n D R) {a b : Nat} (ha : a < 14) (hb : b < 14) : ∃ v : Nat, v ≤ 4 ∧ Ch_inCommon_67 (nI a) (nI b) X = some (nI v, X) ∧ R_inCommon (nI a) (nI b) R = some (nI v, R) := by
  have go : ∀ k i m, i + k = 4 → m ≤ i → ∃ v : Nat, v ≤ 4 ∧ Ch_inCommon_67_c5 (nI a) (nI b) (nI m) (nI i) X = some (nI v, X) ∧ R_inCommon_c5 (nI a) (nI b) (nI m) (nI i) R = some (nI v, R) := by
    intro k
    induction k with
    | zero =>
      intro i m hi hm
      have : i = 4 := by omega
      subst this
      exact ⟨m, by omega, by rw [Ch_inCommon_67_c5_eq, if_neg (by decide)], by rw [R_inCommon_c5_eq, if_neg (by decide)]⟩
    | succ k ih =>
      intro i m hi hm
      rw [Ch_inCommon_67_c5_eq, R_inCommon_c5_eq, if_pos (show nI i ≤ (3 : Int32) from (nI_leI (b := 3) (by omega) (by omega)).mpr (by omega)), if_pos (show nI i < (4 : Int32) from nlt_t (n := 4) (by omega) (by omega)), read_1 (n := 0) hX (by omega) ha, R_fact hR (by omega) ha, ob, ob, nI_1, nI_1]
      simp only
      rw [read_1 (n := 0) hX (by omega) hb, R_fact hR (by omega) hb, ob, ob]
      simp only
      by_cases q : D i a = D i b
      · rw [if_pos q, if_pos q]; exact ih (i + 1) (m + 1) (by omega) (by omega)
      · rw [if_neg q, if_neg q]; exact ih (i + 1) m (by omega) (by omega)
  rw [Ch_inCommon_67_eq, R_inCommon_eq]
  exact go 4 0 0 rfl (by omega)
theorem p_near (hD : WD n D) (hX : XD 1 D X) (hR : RDm n D R) {c : Nat} (hc : c < n) {w : Int32} : ∀ k i (b0 : Option Nat), i + k = n → (∀ d, b0 = some d → d < n) → ∃ b : Option Nat, (∀ d, b = some d → d < n) ∧ Ch_nearest_67_c4 (nI c) (o2i b0) (nI i) X = some (o2i b, X) ∧ R_beside_c30 (nI c) w (o2i b0) (nI i) R = R_beside_c30 (nI c) w (o2i b) (nI n) R := by
  have hn := hD.1
  intro k
  induction k with
  | zero =>
    intro i b0 hi hb
    have : i = n := by omega
    subst this
    exact ⟨b0, hb, by rw [Ch_nearest_67_c4_eq, show rF X 1 1 = nI i from cards_1 hD hX, if_neg (nlt_f (by omega) (by omega) (by omega))], rfl⟩
  | succ k ih =>
    intro i b0 hi hb
    rw [Ch_nearest_67_c4_eq, show rF X 1 1 = nI n from cards_1 hD hX, if_pos (nlt_t (by omega) (by omega))]
    have re : R_beside_c30 (nI c) w (o2i b0) (nI i) R = _ := R_beside_c30_eq _ _ _ _ _
    rw [show rF R 0 6 = nI n from hR.2, if_pos (nlt_t (by omega) (by omega))] at re
    rw [re, nI_1]
    by_cases e : i = c
    · rw [if_pos (by rw [e]), if_pos (by rw [e])]
      exact ih (i + 1) b0 (by omega) hb
    · rw [if_neg (neq_f e (by omega) (by omega)), if_neg (neq_f e (by omega) (by omega)), kept_1 hX (by omega), R_kept hR hn (by omega), ob, ob]
      simp only
      cases bt (D 7 2) i
      · rw [b2i_f, if_pos rfl, if_pos rfl]; exact ih (i + 1) b0 (by omega) hb
      · rw [b2i_t, if_neg (show ¬ (1 : Int32) = 0 by decide), if_neg (show ¬ (1 : Int32) = 0 by decide)]
        cases b0 with
        | none =>
          rw [if_pos (show o2i none = (-1 : Int32) from rfl), if_pos (show o2i none = (-1 : Int32) from rfl)]
          exact ih (i + 1) (some i) (by omega) (fun d e => by cases e; omega)
        | some d0 =>
          have hd := hb d0 rfl
          obtain ⟨v1, u1, a1, a2⟩ := p_common hX hR (a := c) (b := i) (by omega) (by omega)
          obtain ⟨v2, u2, b1, b2⟩ := p_common hX hR (a := c) (b := d0) (by omega) (by omega)
          rw [show o2i (some d0) = nI d0 from rfl, if_neg (nI_ne_m1 (k := d0) (by omega)), if_neg (nI_ne_m1 (k := d0) (by omega)), a1, a2, ob, ob]
          simp only
          rw [b1, b2, ob, ob]
          simp only
          by_cases q : nI v1 ≤ nI v2
          · rw [if_pos q, if_pos q]; exact ih (i + 1) (some d0) (by omega) hb
          · rw [if_neg q, if_neg q]; exact ih (i + 1) (some i) (by omega) (fun d e => by cases e; omega)
end
theorem q_seconds {X R : pS} (h : INV X R) : Gd C_seconds R_seconds X R := by
  obtain ⟨-, -, -, -, n, D, B, L, T, hw, hX, hR, -⟩ := id h
  have hR0 := RA_off hR told0
  obtain ⟨v, v1, v2⟩ := p_seconds hw.1 hX.1 hR0.1
  exact Gd_of h (by rw [C_seconds_eq, v1]; rfl) Off.rf (by rw [R_seconds_eq]; exact v2) told0
theorem q_beside {X R : pS} (a w : Int32) (h : INV X R) : Gd (C_beside a w) (R_beside a w) X R := by
  obtain ⟨-, -, -, -, n, D, B, L, T, hw, hX, hR, -⟩ := id h
  have hR0 := RA_off hR told0
  have hn := hw.1.1
  have w1 := has1_s a hw.1 hX.1
  have w2 : C_within w (2 : Int32) X = _ := within_s w 2 (S := X)
  have i1 := isCard_s a hR0.1
  have i2 : R_isIn w (0 : Int32) (1 : Int32) (wF R 0 0 0) = _ := isIn_s w 2 (by omega)
  cases e : inr a n
  · rw [e] at w1 i1
    exact Gd_of h (v := -1) (by rw [C_beside_eq, w1, ob]; rfl) Off.rf (by rw [R_beside_eq, i1, ob]; rfl) told0
  · rw [e] at w1 i1
    obtain ⟨c, hc, rfl⟩ := inr_t (by omega) e
    cases e2 : inr w 2
    · rw [e2] at w2 i2
      refine Gd_of h (v := -1) ?_ Off.rf ?_ told0
      · rw [C_beside_eq, w1, ob]; simp only [b2t, if_false, w2, ob, b2f, if_true]
      · rw [R_beside_eq, i1, ob]; simp only [b2t, if_false, i2, ob, b2f, if_true]
    · rw [e2] at w2 i2
      obtain ⟨b, hb, u1, u2⟩ := p_near hw.1 hX.1 hR0.1 hc (w := w) n 0 none (by omega) (fun d e => by cases e)
      have u1 : Ch_nearest_67 (nI c) X = some (o2i b, X) := (Ch_nearest_67_eq _ _).trans u1
      have ce : C_beside (nI c) w X = (if o2i b = (-1 : Int32) then (some (o2i b, X)) else (if w = 0 then (some (o2i b, X)) else ((Ch_inCommon_67 (nI c) (o2i b) X).bind (fun q4 => some (q4.1, q4.2))))) := by
        rw [C_beside_eq, w1, ob]
        simp only [b2t, if_false, w2, ob, u1]
      have re : R_beside (nI c) w R = (if o2i b = (-1 : Int32) then (some (o2i b, wF R 0 0 0)) else (if w = 0 then (some (o2i b, wF R 0 0 0)) else ((R_inCommon (nI c) (o2i b) (wF R 0 0 0)).bind (fun q6 => some (q6.1, q6.2))))) := by
        rw [R_beside_eq, i1, ob]
        simp only [b2t, if_false, i2, ob]
        rw [show R_beside_c30 (nI c) w (-1 : Int32) (0 : Int32) (wF R 0 0 0) = _ from u2, R_beside_c30_eq, show rF (wF R 0 0 0) 0 6 = nI n from hR0.1.2, if_neg (nlt_f (by omega) (by omega) (by omega))]
      cases b with
      | none => exact Gd_of h (v := -1) (by rw [ce]; rfl) Off.rf (by rw [re]; rfl) told0
      | some d =>
        have hd := hb d rfl
        have hne : ¬ o2i (some d) = (-1 : Int32) := nI_ne_m1 (by omega)
        by_cases q : w = 0
        · exact Gd_of h (v := nI d) (by rw [ce, if_neg hne, if_pos q]; rfl) Off.rf (by rw [re, if_neg hne, if_pos q]; rfl) told0
        · obtain ⟨v, -, a1, a2⟩ := p_common hX.1 hR0.1 (a := c) (b := d) (by omega) (by omega)
          exact Gd_of h (v := nI v) (by rw [ce, if_neg hne, if_neg q, show o2i (some d) = nI d from rfl, a1]; rfl) Off.rf (by rw [re, if_neg hne, if_neg q, show o2i (some d) = nI d from rfl, a2]; rfl) told0
