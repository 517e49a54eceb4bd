/-! Counting bits. -/
def onesN (k : Nat) : Nat → Nat
  | 0 => 0
  | n + 1 => onesN k n + (if k.testBit n then 1 else 0)
theorem ones_nI (k : Nat) : ∀ n, n ≤ 32 → ones (nI k) n = onesN k n
  | 0, _ => rfl
  | n + 1, h => by rw [ones, onesN, ones_nI k n (by omega), bt_nI k (by omega)]
def bcN (k : Nat) : Nat :=
  (fun x => x &&& 63) ((fun x => x + x / 65536) ((fun x => x + x / 256) ((fun x => (x + x / 16) &&& 252645135) ((fun x => (x &&& 858993459) + (x / 4 &&& 858993459)) ((fun x => x - (x / 2 &&& 1431655765)) k)))))
set_option maxRecDepth 100000 in
theorem bcN_k : ∀ a, a < 128 → ∀ b, b < 128 → bcN (128 * a + b) = onesN (128 * a + b) 14 := by decide +kernel
theorem ushr_n {n : Nat} (hn : n < 4294967296) (k : Nat) (s : Int32) (hs : ((s.toUInt32 &&& Int32.toUInt32 31).toBitVec % 32).toNat = k) : ((nI n).toUInt32 >>> (s.toUInt32 &&& Int32.toUInt32 31)).toInt32 = nI (n / 2 ^ k) := pk_ushrN hn s k hs
set_option maxRecDepth 100000 in
theorem bc_n {k : Nat} (hk : k < 16384) {S : pS} : J_bitCount (nI k) S = some (nI (onesN k 14), S) := by
  have e1 : k / 2 &&& 1431655765 ≤ k / 2 := Nat.and_le_left
  have s1 : ((nI k).toUInt32 >>> ((1 : Int32).toUInt32 &&& Int32.toUInt32 31)).toInt32 = nI (k / 2) := ushr_n (by omega) 1 1 (by decide)
  obtain ⟨x1, hx1⟩ : ∃ x1, x1 = k - (k / 2 &&& 1431655765) := ⟨_, rfl⟩
  have i1 : nI k - (nI (k / 2) &&& (1431655765 : Int32)) = nI x1 := by
    rw [show (1431655765 : Int32) = nI 1431655765 from rfl, fa_and, pk_sub (by omega), hx1]
  have b1 : x1 < 16384 := by omega
  have s2 : ((nI x1).toUInt32 >>> ((2 : Int32).toUInt32 &&& Int32.toUInt32 31)).toInt32 = nI (x1 / 4) := ushr_n (by omega) 2 2 (by decide)
  have a1 : x1 &&& 858993459 ≤ x1 := Nat.and_le_left
  have a2 : x1 / 4 &&& 858993459 ≤ x1 / 4 := Nat.and_le_left
  obtain ⟨x2, hx2⟩ : ∃ x2, x2 = (x1 &&& 858993459) + (x1 / 4 &&& 858993459) := ⟨_, rfl⟩
  have i2 : (nI x1 &&& (858993459 : Int32)) + (nI (x1 / 4) &&& (858993459 : Int32)) = nI x2 := by
    rw [show (858993459 : Int32) = nI 858993459 from rfl, fa_and, fa_and, nI_add, hx2]
  have b2 : x2 < 32768 := by omega
  have s3 : ((nI x2).toUInt32 >>> ((4 : Int32).toUInt32 &&& Int32.toUInt32 31)).toInt32 = nI (x2 / 16) := ushr_n (by omega) 4 4 (by decide)
  obtain ⟨x3, hx3⟩ : ∃ x3, x3 = (x2 + x2 / 16) &&& 252645135 := ⟨_, rfl⟩
  have a3 : (x2 + x2 / 16) &&& 252645135 ≤ x2 + x2 / 16 := Nat.and_le_left
  have i3 : (nI x2 + nI (x2 / 16)) &&& (252645135 : Int32) = nI x3 := by
    rw [show (252645135 : Int32) = nI 252645135 from rfl, nI_add, fa_and, hx3]
  have b3 : x3 < 65536 := by omega
  have s4 : ((nI x3).toUInt32 >>> ((8 : Int32).toUInt32 &&& Int32.toUInt32 31)).toInt32 = nI (x3 / 256) := ushr_n (by omega) 8 8 (by decide)
  obtain ⟨x4, hx4⟩ : ∃ x4, x4 = x3 + x3 / 256 := ⟨_, rfl⟩
  have i4 : nI x3 + nI (x3 / 256) = nI x4 := by rw [nI_add, hx4]
  have s5 : ((nI x4).toUInt32 >>> ((16 : Int32).toUInt32 &&& Int32.toUInt32 31)).toInt32 = nI (x4 / 65536) := ushr_n (by omega) 16 16 (by decide)
  have fin : (x4 + x4 / 65536) &&& 63 = onesN k 14 := by
    have := bcN_k (k / 128) (by omega) (k % 128) (by omega)
    rw [show 128 * (k / 128) + k % 128 = k from by omega] at this
    rw [← this, hx4, hx3, hx2, hx1]
    rfl
  rw [J_bitCount_eq]
  simp only [s1, i1, s2, i2, s3, i3, s4, i4, s5]
  rw [show (63 : Int32) = nI 63 from rfl, nI_add, fa_and, fin]
theorem bc_low {x : Int32} (h : lowm x 14) {S : pS} : J_bitCount x S = some (nI (ones x 14), S) := by
  obtain ⟨k, hk, rfl⟩ := low_nI (by omega) h
  rw [bc_n hk, ones_nI k 14 (by omega)]
theorem and_pred_lt {k : Nat} (h : k ≠ 0) : k &&& (k - 1) < k := by
  have : k &&& (k - 1) ≤ k - 1 := Nat.and_le_right
  omega
theorem onesN_0 : ∀ n, onesN 0 n = 0
  | 0 => rfl
  | n + 1 => by rw [onesN, onesN_0 n, Nat.zero_testBit]; rfl
theorem onesN_s (k : Nat) : ∀ n, onesN k (n + 1) = k % 2 + onesN (k / 2) n
  | 0 => by
    show 0 + (if k.testBit 0 then 1 else 0) = k % 2 + 0
    rw [Nat.testBit_zero]
    rcases Nat.mod_two_eq_zero_or_one k with h | h <;> rw [h] <;> rfl
  | n + 1 => by
    rw [onesN, onesN_s k n, onesN, Nat.testBit_succ]
    omega
theorem and_odd (m : Nat) : (2 * m + 1) &&& (2 * m) = 2 * m := by
  apply Nat.eq_of_testBit_eq
  intro i
  rw [Nat.testBit_and]
  cases i with
  | zero => simp
  | succ i => rw [Nat.testBit_succ, Nat.testBit_succ, show (2 * m + 1) / 2 = m from by omega, show 2 * m / 2 = m from by omega, Bool.and_self]
theorem and_even {m : Nat} (h : m ≠ 0) : (2 * m) &&& (2 * m - 1) = 2 * (m &&& (m - 1)) := by
  apply Nat.eq_of_testBit_eq
  intro i
  rw [Nat.testBit_and]
  cases i with
  | zero => simp
  | succ i => rw [Nat.testBit_succ, Nat.testBit_succ, Nat.testBit_succ, show 2 * m / 2 = m from by omega, show (2 * m - 1) / 2 = m - 1 from by omega, show 2 * (m &&& (m - 1)) / 2 = m &&& (m - 1) from by omega, Nat.testBit_and]
theorem onesN_c : ∀ (n k : Nat), k ≠ 0 → k < 2 ^ n → onesN (k &&& (k - 1)) n + 1 = onesN k n
  | 0, k, h, hk => by
    rw [Nat.pow_zero] at hk
    omega
  | n + 1, k, h, hk => by
    have hk' : k < 2 * 2 ^ n := by rw [Nat.pow_succ] at hk; omega
    rcases Nat.mod_two_eq_zero_or_one k with e | e
    · have e1 : k = 2 * (k / 2) := by omega
      have hz : k / 2 ≠ 0 := by omega
      have e2 : k &&& (k - 1) = 2 * (k / 2 &&& (k / 2 - 1)) := by
        have := and_even hz
        rw [← e1] at this
        exact this
      have ih := onesN_c n (k / 2) hz (by omega)
      rw [e2, onesN_s, onesN_s k n, show 2 * (k / 2 &&& (k / 2 - 1)) / 2 = k / 2 &&& (k / 2 - 1) from by omega]
      omega
    · have e1 : k = 2 * (k / 2) + 1 := by omega
      have e2 : k &&& (k - 1) = 2 * (k / 2) := by
        have := and_odd (k / 2)
        rw [← e1, show 2 * (k / 2) = k - 1 from by omega] at this
        omega
      rw [e2, onesN_s, onesN_s k n, show 2 * (k / 2) / 2 = k / 2 from by omega]
      omega
theorem onesOf_n : ∀ (k m : Nat) (S : pS), k < 16384 → R_onesOf_c4 (nI m) (nI k) S = some (nI (m + onesN k 14), S) := by
  intro k
  induction k using Nat.strongRecOn with
  | _ k ih =>
    intro m S h2
    rw [R_onesOf_c4_eq]
    by_cases hk : k = 0
    · subst hk
      rw [if_pos (show nI 0 = (0 : Int32) from rfl), onesN_0]
      rfl
    · have hlt := and_pred_lt hk
      have := onesN_c 14 k hk h2
      rw [if_neg (nI_z hk (by omega)), nI_1, show (1 : Int32) = nI 1 from rfl, pk_sub (by omega), fa_and, ih _ hlt (m + 1) S (by omega), show m + 1 + onesN (k &&& (k - 1)) 14 = m + onesN k 14 from by omega]
theorem on_low {x : Int32} (h : lowm x 14) {S : pS} : R_onesOf x S = some (nI (ones x 14), S) := by
  obtain ⟨k, hk, rfl⟩ := low_nI (by omega) h
  have h1 : R_onesOf_c4 (0 : Int32) (nI k) S = _ := onesOf_n k 0 S hk
  rw [R_onesOf_eq, h1, Nat.zero_add, ones_nI k 14 (by omega)]
theorem ones_le (x : Int32) : ∀ n, ones x n ≤ n
  | 0 => Nat.le_refl 0
  | n + 1 => by
    have := ones_le x n
    rw [ones]
    by_cases h : bt x n = true
    · rw [if_pos h]; omega
    · rw [if_neg h]; omega
theorem ones_up {x : Int32} {n : Nat} (h : lowm x n) : ∀ m, ones x (n + m) = ones x n
  | 0 => rfl
  | m + 1 => by rw [Nat.add_succ, ones, h (n + m) (by omega), ones_up h m]; rfl
theorem ones_cong {x y : Int32} : ∀ {n : Nat}, (∀ i, i < n → bt x i = bt y i) → ones x n = ones y n
  | 0, _ => rfl
  | n + 1, h => by rw [ones, ones, h n (by omega), ones_cong (fun i hi => h i (by omega))]
