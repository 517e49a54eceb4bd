/-! Questions of kept cards. -/
theorem nlt_f {i n : Nat} (h : ¬ i < n) (hi : i < 2147483648) (hn : n < 2147483648) : ¬ nI i < nI n := by rw [nI_ltE hi hn]; exact h
theorem nlt_t {i n : Nat} (h : i < n) (hn : n < 2147483648) : nI i < nI n := by rw [nI_ltE (by omega) hn]; exact h
theorem neq_f {i n : Nat} (h : i ≠ n) (hi : i < 2147483648) (hn : n < 2147483648) : ¬ nI i = nI n := by rw [nI_eqE hi hn]; exact h
theorem q_of {X R : pS} (a b : Int32) (h : INV X R) : Gd (C_of a b) (R_of a b) X R := by
  obtain ⟨-, -, -, -, n, D, B, L, T, hw, hX, hR, -⟩ := id h
  have hR0 := RA_off hR told0
  have hn := hw.1.1
  have w1 := has1_s a hw.1 hX.1
  have w2 : C_within b (7 : Int32) X = _ := within_s b 7 (S := X)
  have i1 := isCard_s a hR0.1
  have i2 : R_isIn b (0 : Int32) (10 : Int32) (wF R 0 0 0) = _ := isIn_s b 11 (by omega)
  cases e : inr a n
  · rw [e] at w1 i1
    exact Gd_of h (v := -1) (by rw [C_of_eq, w1, ob]; rfl) Off.rf (by rw [R_of_eq, i1, ob]; rfl) told0
  · rw [e] at w1 i1
    obtain ⟨c, hc, rfl⟩ := inr_t (by omega) e
    cases e2 : inr b 11
    · rw [e2] at i2
      have nb : ∀ k, k < 11 → ¬ b = nI k := fun k hk q => by rw [q, inr_n hk (by omega)] at e2; cases e2
      have e7 : inr b 7 = false := by
        cases q : inr b 7
        · rfl
        · obtain ⟨k, hk, rfl⟩ := inr_t (by omega) q
          exact absurd rfl (nb k (by omega))
      rw [e7] at w2
      refine Gd_of h (v := -1) ?_ Off.rf ?_ told0
      · rw [C_of_eq, w1, ob]
        simp only [b2t, if_false, w2, ob, b2f, if_true]
        rw [if_neg (show ¬ b = (7 : Int32) from nb 7 (by omega)), if_neg (show ¬ b = (8 : Int32) from nb 8 (by omega)), if_neg (show ¬ b = (9 : Int32) from nb 9 (by omega)), if_neg (show ¬ b = (10 : Int32) from nb 10 (by omega))]
      · rw [R_of_eq, i1, ob]
        simp only [b2t, if_false, i2, ob, b2f, if_true]
    · rw [e2] at i2
      obtain ⟨k, hk, rfl⟩ := inr_t (by omega) e2
      obtain ⟨d0, d1, d2, d3, d4, d5, d6⟩ := hR0.1.1.1 c (by omega)
      have dk := hR0.1.1.2.1 c hc
      have Rst : ∀ v R', (if nI k = 0 then (if inb (nI c) 14 = true then (some ((rA (wF R 0 0 0) 4 (nI c)), wF R 0 0 0)) else (none)) else (if nI k = (1 : Int32) then (if inb (nI c) 14 = true then (some ((rA (wF R 0 0 0) 5 (nI c)), wF R 0 0 0)) else (none)) else (if nI k = (2 : Int32) then (if inb (nI c) 14 = true then (some ((rA (wF R 0 0 0) 6 (nI c)), wF R 0 0 0)) else (none)) else (if nI k = (3 : Int32) then (if inb ((6 : Int32) + nI c) 76 = true then (some ((rA (wF R 0 0 0) 1 ((6 : Int32) + nI c)), wF R 0 0 0)) else (none)) else (if nI k = (4 : Int32) then (if inb ((62 : Int32) + nI c) 76 = true then (some ((rA (wF R 0 0 0) 1 ((62 : Int32) + nI c)), wF R 0 0 0)) else (none)) else (if nI k = (5 : Int32) then (if inb ((20 : Int32) + nI c) 76 = true then (some ((rA (wF R 0 0 0) 1 ((20 : Int32) + nI c)), wF R 0 0 0)) else (none)) else (if nI k = (6 : Int32) then (if inb ((34 : Int32) + nI c) 76 = true then (some ((rA (wF R 0 0 0) 1 ((34 : Int32) + nI c)), wF R 0 0 0)) else (none)) else (if nI k = (7 : Int32) then (if inb ((48 : Int32) + nI c) 76 = true then (some (((1 : Int32) - (rA (wF R 0 0 0) 1 ((48 : Int32) + nI c))), wF R 0 0 0)) else (none)) else (if nI k = (8 : Int32) then ((R_holdsOf (nI c) (wF R 0 0 0)).bind (fun q3 => some (q3.1, q3.2))) else (if nI k = (9 : Int32) then ((R_dustOf (nI c) (wF R 0 0 0)).bind (fun q4 => some (q4.1, q4.2))) else ((R_worthOf (nI c) (wF R 0 0 0)).bind (fun q5 => some (q5.1, q5.2))))))))))))) = some (v, R') → R_of (nI c) (nI k) R = some (v, R') := by
        intro v R' hv
        rw [R_of_eq, i1, ob]
        simp only [b2t, if_false, i2, ob]
        exact hv
      have nk : ∀ m, m ≠ k → m < 11 → ¬ nI k = nI m := fun m h1 h2 => neq_f (Ne.symm h1) (by omega) (by omega)
      by_cases h7 : k < 7
      · rw [inr_n h7 (by omega)] at w2
        have cx : C_of (nI c) (nI k) X = some (D k c, X) := by
          rw [C_of_eq, w1, ob]
          simp only [b2t, if_false, w2, ob, read_1 (n := 0) hX.1 h7 (by omega : c < 14)]
        refine Gd_of h cx Off.rf (Rst _ _ ?_) told0
        have hk7 : k = 0 ∨ k = 1 ∨ k = 2 ∨ k = 3 ∨ k = 4 ∨ k = 5 ∨ k = 6 := by omega
        rcases hk7 with rfl | rfl | rfl | rfl | rfl | rfl | rfl
        · rw [if_pos (show nI 0 = (0 : Int32) from rfl), if_pos (inb_n (by omega) (by omega)), rA_n (by omega), d0]
        · rw [if_neg (by decide), if_pos (show nI 1 = (1 : Int32) from rfl), if_pos (inb_n (by omega) (by omega)), rA_n (by omega), d1]
        · rw [if_neg (by decide), if_neg (by decide), if_pos (show nI 2 = (2 : Int32) from rfl), if_pos (inb_n (by omega) (by omega)), rA_n (by omega), d2]
        · rw [if_neg (by decide), if_neg (by decide), if_neg (by decide), if_pos (show nI 3 = (3 : Int32) from rfl), show (6 : Int32) = nI 6 from rfl, nI_add, if_pos (inb_n (by omega) (by omega)), rA_n (by omega), d3]
        · rw [if_neg (by decide), if_neg (by decide), if_neg (by decide), if_neg (by decide), if_pos (show nI 4 = (4 : Int32) from rfl), show (62 : Int32) = nI 62 from rfl, nI_add, if_pos (inb_n (by omega) (by omega)), rA_n (by omega), d4]
        · rw [if_neg (by decide), if_neg (by decide), if_neg (by decide), if_neg (by decide), if_neg (by decide), if_pos (show nI 5 = (5 : Int32) from rfl), show (20 : Int32) = nI 20 from rfl, nI_add, if_pos (inb_n (by omega) (by omega)), rA_n (by omega), d5]
        · rw [if_neg (by decide), if_neg (by decide), if_neg (by decide), if_neg (by decide), if_neg (by decide), if_neg (by decide), if_pos (show nI 6 = (6 : Int32) from rfl), show (34 : Int32) = nI 34 from rfl, nI_add, if_pos (inb_n (by omega) (by omega)), rA_n (by omega), d6]
      · have e7 : inr (nI k) 7 = false := by rw [inr_x (by omega) (by omega)]; exact decide_eq_false h7
        rw [e7] at w2
        have hk7 : k = 7 ∨ k = 8 ∨ k = 9 ∨ k = 10 := by omega
        rcases hk7 with rfl | rfl | rfl | rfl
        · refine Gd_of h (v := b2i (bt (D 7 2) c)) (X' := X) ?_ Off.rf (Rst _ (wF R 0 0 0) ?_) told0
          · rw [C_of_eq, w1, ob]
            simp only [b2t, if_false, w2, ob, b2f, if_true]
            rw [if_pos (show nI 7 = (7 : Int32) from rfl), kept_1 hX.1 (by omega), ob]
            cases bt (D 7 2) c <;> rfl
          · rw [if_neg (by decide), if_neg (by decide), if_neg (by decide), if_neg (by decide), if_neg (by decide), if_neg (by decide), if_neg (by decide), if_pos (show nI 7 = (7 : Int32) from rfl), show (48 : Int32) = nI 48 from rfl, nI_add, if_pos (inb_n (by omega) (by omega)), rA_n (by omega), dk]
            cases bt (D 7 2) c <;> rfl
        · obtain ⟨X', x1, x2⟩ := tell_1 (c := c) (w := 0) hw.1 hw.2.2.1 hX.1 hX.2.2.1 (by omega) (by omega)
          obtain ⟨R', r1, r2⟩ := R_tell0 (c := c) hw.2.2.1 hR0.1 hR0.2.2.1 (by omega)
          refine Gd_of h (v := tell L D c 0) (X' := X') ?_ (x2.mono (by simp) (by simp)) (Rst _ R' ?_) (told0.tr (r2.mono (by simp) (by simp)))
          · rw [C_of_eq, w1, ob]
            simp only [b2t, if_false, w2, ob, b2f, if_true]
            rw [if_neg (show ¬ nI 8 = (7 : Int32) by decide), if_pos (show nI 8 = (8 : Int32) from rfl), show La_tell_4_1 (nI c) (0 : Int32) X = _ from x1]; rfl
          · rw [if_neg (by decide), if_neg (by decide), if_neg (by decide), if_neg (by decide), if_neg (by decide), if_neg (by decide), if_neg (by decide), if_neg (by decide), if_pos (show nI 8 = (8 : Int32) from rfl), r1]; rfl
        · obtain ⟨X', x1, x2⟩ := tell_1 (c := c) (w := 1) hw.1 hw.2.2.1 hX.1 hX.2.2.1 (by omega) (by omega)
          obtain ⟨R', r1, r2⟩ := R_tell1 (c := c) hw.2.2.1 hR0.1 hR0.2.2.1 (by omega)
          refine Gd_of h (v := tell L D c 1) (X' := X') ?_ (x2.mono (by simp) (by simp)) (Rst _ R' ?_) (told0.tr (r2.mono (by simp) (by simp)))
          · rw [C_of_eq, w1, ob]
            simp only [b2t, if_false, w2, ob, b2f, if_true]
            rw [if_neg (show ¬ nI 9 = (7 : Int32) by decide), if_neg (show ¬ nI 9 = (8 : Int32) by decide), if_pos (show nI 9 = (9 : Int32) from rfl), show La_tell_4_1 (nI c) (1 : Int32) X = _ from x1]; rfl
          · rw [if_neg (by decide), if_neg (by decide), if_neg (by decide), if_neg (by decide), if_neg (by decide), if_neg (by decide), if_neg (by decide), if_neg (by decide), if_neg (by decide), if_pos (show nI 9 = (9 : Int32) from rfl), r1]; rfl
        · obtain ⟨X', x1, x2⟩ := tell_1 (c := c) (w := 2) hw.1 hw.2.2.1 hX.1 hX.2.2.1 (by omega) (by omega)
          obtain ⟨R', r1, r2⟩ := R_tell2 (c := c) hw.2.2.1 hR0.1 hR0.2.2.1 (by omega)
          refine Gd_of h (v := tell L D c 2) (X' := X') ?_ (x2.mono (by simp) (by simp)) (Rst _ R' ?_) (told0.tr (r2.mono (by simp) (by simp)))
          · rw [C_of_eq, w1, ob]
            simp only [b2t, if_false, w2, ob, b2f, if_true]
            rw [if_neg (show ¬ nI 10 = (7 : Int32) by decide), if_neg (show ¬ nI 10 = (8 : Int32) by decide), if_neg (show ¬ nI 10 = (9 : Int32) by decide), if_pos (show nI 10 = (10 : Int32) from rfl), show La_tell_4_1 (nI c) (2 : Int32) X = _ from x1]; rfl
          · rw [if_neg (by decide), if_neg (by decide), if_neg (by decide), if_neg (by decide), if_neg (by decide), if_neg (by decide), if_neg (by decide), if_neg (by decide), if_neg (by decide), if_neg (by decide), r1]; rfl
section
variable {n : Nat} {D : tD} {X R : pS}
theorem p_alike (hX : XD 1 D X) (hR : RDm n D R) {a b : Nat} (ha : a < 14) (hb : b < 14) (x : Int32) : ∃ v : Bool, Ch_isAlike_67 (nI a) (nI b) x X = some (b2i v, X) ∧ R_areAlike (nI a) (nI b) x R = some (b2i v, R) := by
  have go : ∀ k i, i + k = 5 → ∃ v : Bool, Ch_isAlike_67_c3 (nI a) (nI b) x (nI i) X = some (b2i v, X) ∧ R_areAlike_c3 (nI a) (nI b) x (nI i) R = some (b2i v, R) := by
    intro k
    induction k with
    | zero =>
      intro i hi
      have : i = 5 := by omega
      subst this
      exact ⟨true, by rw [Ch_isAlike_67_c3_eq, if_neg (by decide)]; rfl, by rw [R_areAlike_c3_eq, if_neg (by decide)]; rfl⟩
    | succ k ih =>
      intro i hi
      obtain ⟨v, v1, v2⟩ := ih (i + 1) (by omega)
      have h5 : nI i < (5 : Int32) := nlt_t (n := 5) (by omega) (by omega)
      rw [Ch_isAlike_67_c3_eq, R_areAlike_c3_eq, if_pos h5, if_pos h5, holds_s _ (by omega), R_hasS _ (by omega), ob, ob, nI_1]
      simp only
      cases bt x i
      · rw [b2i_f, if_pos rfl, if_pos rfl]
        exact ⟨v, v1, v2⟩
      · rw [b2i_t, if_neg (by decide), if_neg (by decide), read_1 (n := 0) hX (by omega) ha, R_fact hR (by omega) ha, ob, ob]
        simp only
        rw [read_1 (n := 0) hX (by omega) hb, R_fact hR (by omega) hb, ob, ob]
        simp only
        by_cases q : D i a = D i b
        · rw [if_pos q, if_pos q]
          exact ⟨v, v1, v2⟩
        · rw [if_neg q, if_neg q]
          exact ⟨false, rfl, rfl⟩
  rw [Ch_isAlike_67_eq, R_areAlike_eq]
  exact go 5 0 rfl
theorem p_apart1 (hD : WD n D) (hX : XD 1 D X) (hR : RDm n D R) (x : Int32) : ∃ v : Bool, Ch_tellsApart_67 x X = some (b2i v, X) ∧ R_tellsApart x R = some (b2i v, R) := by
  have hn := hD.1
  have go : ∀ k a, a + k = n → ∃ v : Bool, Ch_tellsApart_67_c2 x (nI a) X = some (b2i v, X) ∧ R_tellsApart_c2 x (nI a) R = some (b2i v, R) := by
    intro k
    induction k with
    | zero =>
      intro a ha
      refine ⟨true, ?_, ?_⟩
      · rw [Ch_tellsApart_67_c2_eq, show rF X 1 1 = nI n from cards_1 hD hX, if_neg (nlt_f (by omega) (by omega) (by omega))]; rfl
      · rw [R_tellsApart_c2_eq, show rF R 0 6 = nI n from hR.2, if_neg (nlt_f (by omega) (by omega) (by omega))]; rfl
    | succ k ih =>
      intro a ha
      obtain ⟨v, v1, v2⟩ := ih (a + 1) (by omega)
      rw [Ch_tellsApart_67_c2_eq, show rF X 1 1 = nI n from cards_1 hD hX, R_tellsApart_c2_eq, show rF R 0 6 = nI n from hR.2, if_pos (nlt_t (by omega) (by omega)), if_pos (nlt_t (by omega) (by omega))]
      have inner : ∀ m b, b + m = a → ∃ v : Bool, Ch_tellsApart_67_c15 x (nI a) (nI b) X = some (b2i v, X) ∧ R_tellsApart_c12 x (nI a) (nI b) R = some (b2i v, R) := by
        intro m
        induction m with
        | zero =>
          intro b hb
          refine ⟨v, ?_, ?_⟩
          · rw [Ch_tellsApart_67_c15_eq, if_neg (nlt_f (by omega) (by omega) (by omega)), nI_1]; exact v1
          · rw [R_tellsApart_c12_eq, if_neg (nlt_f (by omega) (by omega) (by omega)), nI_1]; exact v2
        | succ m ih2 =>
          intro b hb
          obtain ⟨u, u1, u2⟩ := ih2 (b + 1) (by omega)
          rw [Ch_tellsApart_67_c15_eq, R_tellsApart_c12_eq, if_pos (nlt_t (by omega) (by omega)), if_pos (nlt_t (by omega) (by omega)), kept_1 hX (by omega), R_kept hR hn (by omega), ob, ob, nI_1]
          simp only
          cases bt (D 7 2) a
          · rw [b2i_f, if_pos rfl, if_pos rfl]; exact ⟨u, u1, u2⟩
          · rw [b2i_t, if_neg (by decide), if_neg (by decide), kept_1 hX (by omega), R_kept hR hn (by omega), ob, ob]
            simp only
            cases bt (D 7 2) b
            · rw [b2i_f, if_pos rfl, if_pos rfl]; exact ⟨u, u1, u2⟩
            · obtain ⟨w, w1, w2⟩ := p_alike hX hR (a := a) (b := b) (by omega) (by omega) x
              rw [b2i_t, if_neg (by decide), if_neg (by decide), w1, w2, ob, ob]
              simp only
              cases w
              · rw [b2i_f, if_pos rfl, if_pos rfl]; exact ⟨u, u1, u2⟩
              · rw [b2i_t, if_neg (by decide), if_neg (by decide)]; exact ⟨false, rfl, rfl⟩
      exact inner a 0 (by omega)
  rw [Ch_tellsApart_67_eq, R_tellsApart_eq]
  exact go n 0 (by omega)
theorem p_apart (hD : WD n D) (hX : XD 1 D X) (hR : RDm n D R) : ∃ v, Ch_fewestApart_67 X = some (v, X) ∧ R_apart_c9 (-1) 0 R = some (v, R) := by
  have go : ∀ k i (b : Option Nat), i + k = 32 → (∀ c, b = some c → c < 32) → ∃ v, Ch_fewestApart_67_c4 (o2i b) (nI i) X = some (v, X) ∧ R_apart_c9 (o2i b) (nI i) R = some (v, R) := by
    intro k
    induction k with
    | zero =>
      intro i b hi hb
      have : i = 32 := by omega
      subst this
      exact ⟨o2i b, by rw [Ch_fewestApart_67_c4_eq, if_neg (by decide)], by rw [R_apart_c9_eq, if_neg (by decide)]⟩
    | succ k ih =>
      intro i b hi hb
      have h32 : nI i < (32 : Int32) := nlt_t (n := 32) (by omega) (by omega)
      obtain ⟨w, w1, w2⟩ := p_apart1 hD hX hR (nI i)
      obtain ⟨v1, a1, a2⟩ := ih (i + 1) b (by omega) hb
      obtain ⟨v2, b1, b2⟩ := ih (i + 1) (some i) (by omega) (fun c e => by cases e; omega)
      have b1 : Ch_fewestApart_67_c4 (nI i) (nI (i + 1)) X = _ := b1
      have b2 : R_apart_c9 (nI i) (nI (i + 1)) R = _ := b2
      have tst : ∃ v, Ch_fewestApart_67_c31 (o2i b) (nI i) 1 X = some (v, X) ∧ R_apart_c33 (o2i b) (nI i) R = some (v, R) := by
        rw [Ch_fewestApart_67_c31_eq, R_apart_c33_eq, if_neg (by decide), w1, w2, ob, ob, nI_1]
        simp only
        cases w
        · rw [b2i_f, if_pos rfl, if_pos rfl]; exact ⟨v1, a1, a2⟩
        · rw [b2i_t, if_neg (by decide), if_neg (by decide)]; exact ⟨v2, b1, b2⟩
      rw [Ch_fewestApart_67_c4_eq, R_apart_c9_eq, if_pos h32, if_pos h32]
      cases b with
      | none =>
        rw [if_pos (show o2i none = (-1 : Int32) from rfl), if_pos (show o2i none = (-1 : Int32) from rfl)]
        exact tst
      | some c =>
        have hc := hb c rfl
        have l1 : lowm (nI i) 14 := low_up (low_of (n := 5) (by omega) (by omega)) (by omega)
        have l2 : lowm (o2i (some c)) 14 := low_up (low_of (n := 5) (by omega) (by omega)) (by omega)
        have o1 := ones_le (nI i) 14
        have o2 := ones_le (o2i (some c)) 14
        rw [if_neg (show ¬ o2i (some c) = (-1 : Int32) from nI_ne_m1 (by omega)), if_neg (show ¬ o2i (some c) = (-1 : Int32) from nI_ne_m1 (by omega)), bc_low l1, on_low l1, ob, ob]
        simp only
        rw [bc_low l2, on_low l2, ob, ob]
        simp only
        by_cases q : nI (ones (nI i) 14) < nI (ones (o2i (some c)) 14)
        · rw [if_pos q, if_pos q]; exact tst
        · rw [if_neg q, if_neg q, Ch_fewestApart_67_c31_eq, if_pos rfl, nI_1]; exact ⟨v1, a1, a2⟩
  rw [Ch_fewestApart_67_eq]
  exact go 32 0 none rfl (fun c e => by cases e)
end
theorem q_apart {X R : pS} (h : INV X R) : Gd C_apart R_apart X R := by
  obtain ⟨-, -, -, -, n, D, B, L, T, hw, hX, hR, -⟩ := id h
  have hR0 := RA_off hR told0
  obtain ⟨v, v1, v2⟩ := p_apart hw.1 hX.1 hR0.1
  exact Gd_of h (by rw [C_apart_eq, v1]; rfl) Off.rf (by rw [R_apart_eq]; exact v2) told0
