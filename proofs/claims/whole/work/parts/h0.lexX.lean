/-! The class lists the signs of a text. -/
def fi (y : Int32) : Int32 := if y = 59 then 0 else if y = 43 then 1 else if y = 45 then 2 else if y = 42 then 3 else if y = 47 then 4 else if y = 40 then 5 else if y = 41 then 6 else if y = 60 then 7 else if y = 61 then 8 else if y = 62 then 9 else -1
theorem fi_s : ∀ c, c < 256 → ((fi (nI c).toInt8.toInt32 < 0) = (sgn c = false)) := by
  have : ∀ c, c < 256 → decide (fi (nI c).toInt8.toInt32 < 0) = !(sgn c) := by decide +kernel
  intro c hc
  have h := this c hc
  apply propext
  constructor
  · intro q
    rw [decide_eq_true q] at h
    cases z : sgn c
    · rfl
    · rw [z] at h; cases h
  · intro q
    rw [q] at h
    exact of_decide_eq_true h
theorem u16 : ∀ c, c < 256 → ((nI c).toUInt32 % 65536).toInt32 = nI c := by decide +kernel
theorem ixc (y : Int32) {S : pS} : J_indexOfChar_t1_c7 (10 : Int32) y (0 : Int32) S = some (fi y, S) := by
  unfold fi
  rw [J_indexOfChar_t1_c7_eq, if_pos (show (0 : Int32) < 10 by decide), if_pos (show inb (0 : Int32) (pTx 1).length = true from rfl), show (pTx 1).getD (0 : Int32).toNatClampNeg 0 = (59 : Int32) from rfl]
  by_cases q0 : y = 59
  · rw [if_pos q0.symm, if_pos q0]
  rw [if_neg (fun z => q0 z.symm), if_neg q0, show (0 : Int32) + 1 = 1 from rfl]
  rw [J_indexOfChar_t1_c7_eq, if_pos (show (1 : Int32) < 10 by decide), if_pos (show inb (1 : Int32) (pTx 1).length = true from rfl), show (pTx 1).getD (1 : Int32).toNatClampNeg 0 = (43 : Int32) from rfl]
  by_cases q1 : y = 43
  · rw [if_pos q1.symm, if_pos q1]
  rw [if_neg (fun z => q1 z.symm), if_neg q1, show (1 : Int32) + 1 = 2 from rfl]
  rw [J_indexOfChar_t1_c7_eq, if_pos (show (2 : Int32) < 10 by decide), if_pos (show inb (2 : Int32) (pTx 1).length = true from rfl), show (pTx 1).getD (2 : Int32).toNatClampNeg 0 = (45 : Int32) from rfl]
  by_cases q2 : y = 45
  · rw [if_pos q2.symm, if_pos q2]
  rw [if_neg (fun z => q2 z.symm), if_neg q2, show (2 : Int32) + 1 = 3 from rfl]
  rw [J_indexOfChar_t1_c7_eq, if_pos (show (3 : Int32) < 10 by decide), if_pos (show inb (3 : Int32) (pTx 1).length = true from rfl), show (pTx 1).getD (3 : Int32).toNatClampNeg 0 = (42 : Int32) from rfl]
  by_cases q3 : y = 42
  · rw [if_pos q3.symm, if_pos q3]
  rw [if_neg (fun z => q3 z.symm), if_neg q3, show (3 : Int32) + 1 = 4 from rfl]
  rw [J_indexOfChar_t1_c7_eq, if_pos (show (4 : Int32) < 10 by decide), if_pos (show inb (4 : Int32) (pTx 1).length = true from rfl), show (pTx 1).getD (4 : Int32).toNatClampNeg 0 = (47 : Int32) from rfl]
  by_cases q4 : y = 47
  · rw [if_pos q4.symm, if_pos q4]
  rw [if_neg (fun z => q4 z.symm), if_neg q4, show (4 : Int32) + 1 = 5 from rfl]
  rw [J_indexOfChar_t1_c7_eq, if_pos (show (5 : Int32) < 10 by decide), if_pos (show inb (5 : Int32) (pTx 1).length = true from rfl), show (pTx 1).getD (5 : Int32).toNatClampNeg 0 = (40 : Int32) from rfl]
  by_cases q5 : y = 40
  · rw [if_pos q5.symm, if_pos q5]
  rw [if_neg (fun z => q5 z.symm), if_neg q5, show (5 : Int32) + 1 = 6 from rfl]
  rw [J_indexOfChar_t1_c7_eq, if_pos (show (6 : Int32) < 10 by decide), if_pos (show inb (6 : Int32) (pTx 1).length = true from rfl), show (pTx 1).getD (6 : Int32).toNatClampNeg 0 = (41 : Int32) from rfl]
  by_cases q6 : y = 41
  · rw [if_pos q6.symm, if_pos q6]
  rw [if_neg (fun z => q6 z.symm), if_neg q6, show (6 : Int32) + 1 = 7 from rfl]
  rw [J_indexOfChar_t1_c7_eq, if_pos (show (7 : Int32) < 10 by decide), if_pos (show inb (7 : Int32) (pTx 1).length = true from rfl), show (pTx 1).getD (7 : Int32).toNatClampNeg 0 = (60 : Int32) from rfl]
  by_cases q7 : y = 60
  · rw [if_pos q7.symm, if_pos q7]
  rw [if_neg (fun z => q7 z.symm), if_neg q7, show (7 : Int32) + 1 = 8 from rfl]
  rw [J_indexOfChar_t1_c7_eq, if_pos (show (8 : Int32) < 10 by decide), if_pos (show inb (8 : Int32) (pTx 1).length = true from rfl), show (pTx 1).getD (8 : Int32).toNatClampNeg 0 = (61 : Int32) from rfl]
  by_cases q8 : y = 61
  · rw [if_pos q8.symm, if_pos q8]
  rw [if_neg (fun z => q8 z.symm), if_neg q8, show (8 : Int32) + 1 = 9 from rfl]
  rw [J_indexOfChar_t1_c7_eq, if_pos (show (9 : Int32) < 10 by decide), if_pos (show inb (9 : Int32) (pTx 1).length = true from rfl), show (pTx 1).getD (9 : Int32).toNatClampNeg 0 = (62 : Int32) from rfl]
  by_cases q9 : y = 62
  · rw [if_pos q9.symm, if_pos q9]
  rw [if_neg (fun z => q9 z.symm), if_neg q9, show (9 : Int32) + 1 = 10 from rfl]
  rw [J_indexOfChar_t1_c7_eq, if_neg (show ¬ (10 : Int32) < 10 by decide)]
theorem ixo {c : Nat} (hc : c < 256) {S : pS} : J_indexOf_t1 (((nI c)).toUInt32 % 65536).toInt32 S = some (fi (nI c).toInt8.toInt32, S) := by
  rw [u16 c hc, J_indexOf_t1_eq, J_indexOf2_t1_eq, J_isLatin1_t1_eq, ob, if_neg (show ¬ (1 : Int32) = 0 by decide), J_length_t1_eq, J_coder_t1_eq, ob, ob]
  simp only []
  rw [show ((10 : Int32) >>> ((0 : Int32) &&& 31)) = 10 from rfl, J_indexOfL_t1_eq, J_canEncode_eq, if_neg (nI_pos (by omega)), if_pos (show nI c ≤ (255 : Int32) from (n_le (c := 255) (by omega) (by omega)).mpr (by omega)), ob, if_neg (show ¬ (1 : Int32) = 0 by decide)]
  simp only []
  rw [show (if (0 : Int32) < (0 : Int32) then (0 : Int32) else 0) = 0 from rfl, show (if (10 : Int32) < (10 : Int32) then (10 : Int32) else 10) = 10 from rfl, if_pos (show (0 : Int32) < 10 by decide), J_indexOfChar_t1_eq, ixc, ob, ob, ob]
/-- the tape as the class has it -/
def TX (b : Nat → Nat) (len : Nat) (S : pS) : Prop := len ≤ 400 ∧ S.1 46 4 = nI len ∧ ∀ i, i < len → b i < 256 ∧ S.2.1 47 i = nI (b i)
theorem TX_off {b : Nat → Nat} {len : Nat} {S S' : pS} {F : List (Nat × Nat)} {W : List Nat} (h : TX b len S) (ho : Off F W S S') (h1 : (46, 4) ∉ F) (h2 : 47 ∉ W) : TX b len S' := by
  unfold TX at *
  rw [ho.1 _ _ h1, ho.2.1 _ h2]
  exact h
theorem ptX {k : Nat} {s v : Int32} {S : pS} (h : S.1 46 3 = nI k) (hk : k ≤ 400) : Ta_put_46 s v S = some (0, wF (wA (wA S 49 (nI k) s) 48 (nI k) v) 46 3 (nI (k + 1))) := by
  rw [Ta_put_46_eq, show rF S 46 3 = nI k from h, if_pos (show nI k ≤ (400 : Int32) from (n_le (c := 400) (by omega) (by omega)).mpr hk), if_pos (inb_n (by omega) (by omega)), if_pos (inb_n (by omega) (by omega)), show nI k + (1 : Int32) = nI (k + 1) from nI_1 k]
theorem plX {b : Nat → Nat} {len : Nat} {S : pS} (h : TX b len S) : ∀ m j, j + m = len → Ta_pastLetters_46_c2 (nI j) S = some (nI (pst ltr b len m j), S) := by
  intro m
  obtain ⟨h4, h1, h2⟩ := h
  induction m with
  | zero =>
    intro j hj
    rw [Ta_pastLetters_46_c2_eq, show rF S 46 4 = nI len from h1, if_neg (nlt_f (by omega) (by omega) (by omega)), show pst ltr b len 0 j = len from by show j = len; omega]
  | succ m ih =>
    intro j hj
    rw [Ta_pastLetters_46_c2_eq, show rF S 46 4 = nI len from h1, if_pos (nlt_t (by omega) (by omega)), if_pos (inb_n (by omega) (by omega)), rA_n (by omega), (h2 j (by omega)).2, ltrX (h2 j (by omega)).1, ob]
    cases q : ltr (b j)
    · simp only [b2f, if_true]
      rw [pst, if_neg (by rw [q]; simp)]
    · simp only [b2t, if_false]
      rw [pst, if_pos ⟨by omega, q⟩, show nI j + (1 : Int32) = nI (j + 1) from nI_1 j]
      exact ih (j + 1) (by omega)
theorem pdX {b : Nat → Nat} {len : Nat} {S : pS} (h : TX b len S) : ∀ m j, j + m = len → Ta_pastDigits_46_c2 (nI j) S = some (nI (pst dgt b len m j), S) := by
  intro m
  obtain ⟨h4, h1, h2⟩ := h
  induction m with
  | zero =>
    intro j hj
    rw [Ta_pastDigits_46_c2_eq, show rF S 46 4 = nI len from h1, if_neg (nlt_f (by omega) (by omega) (by omega)), show pst dgt b len 0 j = len from by show j = len; omega]
  | succ m ih =>
    intro j hj
    rw [Ta_pastDigits_46_c2_eq, show rF S 46 4 = nI len from h1, if_pos (nlt_t (by omega) (by omega)), if_pos (inb_n (by omega) (by omega)), rA_n (by omega), (h2 j (by omega)).2, dgtX (h2 j (by omega)).1, ob]
    cases q : dgt (b j)
    · simp only [b2f, if_true]
      rw [pst, if_neg (by rw [q]; simp)]
    · simp only [b2t, if_false]
      rw [pst, if_pos ⟨by omega, q⟩, show nI j + (1 : Int32) = nI (j + 1) from nI_1 j]
      exact ih (j + 1) (by omega)
theorem nmX {b : Nat → Nat} {len e : Nat} {S : pS} (h : TX b len S) (he : e ≤ len) : ∀ m i v, i + m = e → (∀ j, i ≤ j → j < e → dgt (b j) = true) → Ta_numberAt_46_c14 (nI e) (nI v) (nI i) S = some (nI (1000 + dvl b m i v), S) := by
  intro m
  obtain ⟨h4, h1, h2⟩ := h
  induction m with
  | zero =>
    intro i v hi hd
    rw [Ta_numberAt_46_c14_eq, if_neg (nlt_f (by omega) (by omega) (by omega)), show (1000 : Int32) + nI v = nI (1000 + v) from nI_add 1000 v]
    rfl
  | succ m ih =>
    intro i v hi hd
    have hq := hd i (by omega) (by omega)
    unfold dgt at hq
    rw [Bool.and_eq_true, decide_eq_true_eq, decide_eq_true_eq] at hq
    rw [Ta_numberAt_46_c14_eq, if_pos (nlt_t (by omega) (by omega)), if_pos (inb_n (by omega) (by omega)), rA_n (by omega), (h2 i (by omega)).2, show (10 : Int32) = nI 10 from rfl, pk_mul, nI_add, show (48 : Int32) = nI 48 from rfl, nI_subE (by omega), show nI i + (1 : Int32) = nI (i + 1) from nI_1 i]
    exact ih (i + 1) (v * 10 + b i - 48) (by omega) (fun j a c => hd j (by omega) c)
