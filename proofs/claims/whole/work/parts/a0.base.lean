/-! Plain facts of ints, bits, cells and loops (the rows on bits began as kit/laws/BITS.to-paste and NUMBERS.to-paste). -/
def bt (x : Int32) (i : Nat) : Bool := x.toBitVec.getLsbD i
theorem b_ext {x y : Int32} (h : ∀ i, i < 32 → bt x i = bt y i) : x = y := Int32.toBitVec_inj.mp (BitVec.eq_of_getLsbD_eq (fun i hi => h i hi))
theorem b_or (x y : Int32) (i : Nat) : bt (x ||| y) i = (bt x i || bt y i) := by unfold bt; rw [Int32.toBitVec_or, BitVec.getLsbD_or]
theorem b_and (x y : Int32) (i : Nat) : bt (x &&& y) i = (bt x i && bt y i) := by unfold bt; rw [Int32.toBitVec_and, BitVec.getLsbD_and]
theorem b_xor (x y : Int32) (i : Nat) : bt (x ^^^ y) i = (bt x i ^^ bt y i) := by unfold bt; rw [Int32.toBitVec_xor, BitVec.getLsbD_xor]
theorem b_big {x : Int32} {i : Nat} (h : 32 ≤ i) : bt x i = false := BitVec.getLsbD_of_ge _ _ h
theorem b_m1 : ∀ i, i < 32 → bt (-1) i = true := by decide +kernel
theorem b_0 (i : Nat) : bt 0 i = false := BitVec.getLsbD_zero
theorem s_l : ∀ n, n < 32 → ((nI n &&& 31).toBitVec.smod 32).toNat = n := by decide +kernel
theorem s_u : ∀ n, n < 32 → (((nI n).toUInt32 &&& Int32.toUInt32 31).toBitVec % 32).toNat = n := by decide +kernel
theorem b_shl (n : Nat) (hn : n < 32) (x : Int32) {i : Nat} (hi : i < 32) : bt (x <<< (nI n &&& 31)) i = (decide (n ≤ i) && bt x (i - n)) := by
  unfold bt
  rw [Int32.toBitVec_shiftLeft]
  show (x.toBitVec <<< ((nI n &&& 31).toBitVec.smod 32).toNat).getLsbD i = _
  rw [s_l n hn, BitVec.getLsbD_shiftLeft]
  rcases Nat.lt_or_ge i n with h | h
  · simp [h, Nat.not_le.mpr h]
  · simp [hi, h, Nat.not_lt.mpr h]
theorem b_sshr (n : Nat) (hn : n < 32) (x : Int32) {i : Nat} (hi : i < 32) : bt (x >>> (nI n &&& 31)) i = if n + i < 32 then bt x (n + i) else bt x 31 := by
  unfold bt
  rw [Int32.toBitVec_shiftRight]
  show (x.toBitVec.sshiftRight ((nI n &&& 31).toBitVec.smod 32).toNat).getLsbD i = _
  rw [s_l n hn, BitVec.getLsbD_sshiftRight, BitVec.msb_eq_getLsbD_last]
  simp [hi]
theorem fa_lt (a b : Int32) : a < b ↔ a.toInt < b.toInt := Int32.lt_iff_toInt_lt
theorem fa_le (a b : Int32) : a ≤ b ↔ a.toInt ≤ b.toInt := Int32.le_iff_toInt_le
theorem fa_eq (a b : Int32) : a = b ↔ a.toInt = b.toInt := Int32.toInt_inj.symm
theorem fa_of_lt {a b : Int32} (h : a < b) : a ≤ b ∧ ¬ b ≤ a ∧ ¬ b < a ∧ a ≠ b ∧ b ≠ a := by
  rw [fa_lt] at h
  refine ⟨?_, ?_, ?_, ?_, ?_⟩
  · rw [fa_le]; omega
  · rw [fa_le]; omega
  · rw [fa_lt]; omega
  · intro e; rw [fa_eq] at e; omega
  · intro e; rw [fa_eq] at e; omega
theorem fa_of_nlt {a b : Int32} (h : ¬ a < b) : b ≤ a := by
  rw [fa_lt] at h
  rw [fa_le]
  omega
theorem fa_of_nle {a b : Int32} (h : ¬ a ≤ b) : b < a := by
  rw [fa_le] at h
  rw [fa_lt]
  omega
theorem fa_le_ne {a b : Int32} (h : a ≤ b) (h2 : a ≠ b) : a < b := by
  rw [fa_le] at h
  rw [fa_lt]
  have h3 : a.toInt ≠ b.toInt := fun e => h2 ((fa_eq a b).mpr e)
  omega
theorem fa_three (a b : Int32) : a < b ∨ a = b ∨ b < a := by
  rw [fa_lt, fa_lt, fa_eq]
  omega
theorem fa_trans {a b c : Int32} (h : a < b) (h2 : b ≤ c) : a < c := by
  rw [fa_lt] at *
  rw [fa_le] at h2
  omega
theorem fa_lit (n : Nat) : (OfNat.ofNat n : Int32) = nI n := rfl
theorem fa_and (a b : Nat) : nI a &&& nI b = nI (a &&& b) := by
  apply Int32.toBitVec_inj.1
  show BitVec.ofNat 32 a &&& BitVec.ofNat 32 b = BitVec.ofNat 32 (a &&& b)
  apply BitVec.eq_of_getLsbD_eq
  intro i hi
  simp [hi]
theorem fa_or (a b : Nat) : nI a ||| nI b = nI (a ||| b) := by
  apply Int32.toBitVec_inj.1
  show BitVec.ofNat 32 a ||| BitVec.ofNat 32 b = BitVec.ofNat 32 (a ||| b)
  apply BitVec.eq_of_getLsbD_eq
  intro i hi
  simp [hi]
/-- a remainder by a power of two, as a mask -/
def b2i (b : Bool) : Int32 := if b then 1 else 0
theorem b2i_t : b2i true = 1 := rfl
theorem b2i_f : b2i false = 0 := rfl
theorem b2i_0 (b : Bool) : (b2i b = nI 0) = (b = false) := by cases b <;> simp [b2i, nI] <;> decide
theorem b2i_pB (b : Bool) : pBool 1 (b2i b) = true := by cases b <;> rfl
theorem inb_n {k N : Nat} (h : k < N) (hN : k < 2147483648) : inb (nI k) N = true := by
  unfold inb
  rw [nI_clamp (by omega), decide_eq_true (nI_pos' (by omega)), decide_eq_true h]
  rfl
theorem rA_n {S : pS} {o k : Nat} (h : k < 2147483648) : rA S o (nI k) = S.2.1 o k := by
  show S.2.1 o (nI k).toNatClampNeg = _
  rw [nI_clamp (by omega)]
theorem nI_m1 {k : Nat} (h : k < 2147483648) : (nI k = -nI 1) = False := by
  apply eq_false
  intro e
  have := congrArg Int32.toInt e
  rw [nI_toInt (by omega)] at this
  have h2 : (-nI 1).toInt = -1 := by decide
  omega
theorem nI_m1' {k : Nat} (h : k < 2147483648) : (-nI 1 = nI k) = False := by
  have := nI_m1 h
  apply eq_false
  intro e
  rw [← this]
  exact e.symm
theorem nI_lt0 {k : Nat} (h : k < 2147483648) : (nI k < nI 0) = False := eq_false (nI_pos (by omega))
theorem nI_ltE {a b : Nat} (ha : a < 2147483648) (hb : b < 2147483648) : (nI a < nI b) = (a < b) := propext (nI_ltI (by omega) (by omega))
theorem nI_leE {a b : Nat} (ha : a < 2147483648) (hb : b < 2147483648) : (nI a ≤ nI b) = (a ≤ b) := propext (nI_leI (by omega) (by omega))
theorem nI_eqE {a b : Nat} (ha : a < 2147483648) (hb : b < 2147483648) : (nI a = nI b) = (a = b) := propext (nI_eq (by omega) (by omega))
theorem m1_lt {k : Nat} (h : k < 2147483648) : (-nI 1 < nI k) = True := by
  apply eq_true
  rw [fa_lt, nI_toInt (by omega)]
  have h2 : (-nI 1).toInt = -1 := by decide
  omega
theorem m1_le {k : Nat} (h : k < 2147483648) : (nI k ≤ -nI 1) = False := by
  apply eq_false
  rw [fa_le, nI_toInt (by omega)]
  have h2 : (-nI 1).toInt = -1 := by decide
  omega
/-- an int: below 0, from n on, or a number below n -/
theorem i3 (x : Int32) (n : Nat) (hn : n < 2147483648) : x < 0 ∨ nI n ≤ x ∨ ∃ j : Nat, j < n ∧ x = nI j := pk_ix x (by omega)
theorem i3_lt {x : Int32} {n : Nat} (h : nI n ≤ x) : ¬ x < nI n := fun h2 => (fa_of_lt h2).2.1 h
theorem i3_nlt0 {x : Int32} {n : Nat} (h : nI n ≤ x) (hn : n < 2147483648) : ¬ x < 0 := by
  rw [fa_lt]
  rw [fa_le, nI_toInt (by omega)] at h
  have : (0 : Int32).toInt = 0 := rfl
  omega
/-! bits -/
theorem b_bit (k : Nat) (hk : k < 32) (i : Nat) : bt ((1 : Int32) <<< (nI k &&& 31)) i = decide (i = k) := by
  rcases Nat.lt_or_ge i 32 with h | h
  · exact (by decide +kernel : ∀ k, k < 32 → ∀ i, i < 32 → bt ((1 : Int32) <<< (nI k &&& 31)) i = decide (i = k)) k hk i h
  · rw [b_big h, decide_eq_false (by omega)]
/-- the bit k -/
def bit (k : Nat) : Int32 := (1 : Int32) <<< (nI k &&& 31)
theorem bt_bit {k : Nat} (hk : k < 32) (i : Nat) : bt (bit k) i = decide (i = k) := b_bit k hk i
theorem bit_def (k : Nat) : nI 1 <<< (nI k &&& nI 31) = bit k := rfl
theorem b_not (x : Int32) {i : Nat} (hi : i < 32) : bt (x ^^^ (-1)) i = !bt x i := by rw [b_xor, b_m1 i hi, Bool.xor_true]
theorem b_not' (x : Int32) {i : Nat} (hi : i < 32) : bt (x ^^^ (-nI 1)) i = !bt x i := b_not x hi
theorem b_1 (i : Nat) : bt 1 i = decide (i = 0) := by
  rcases Nat.lt_or_ge i 32 with h | h
  · exact (by decide +kernel : ∀ i, i < 32 → bt 1 i = decide (i = 0)) i h
  · rw [b_big h, decide_eq_false (by omega)]
theorem b_tst (x : Int32) {k : Nat} (hk : k < 32) : (x >>> (nI k &&& 31)) &&& 1 = b2i (bt x k) := by
  apply b_ext
  intro i hi
  rw [b_and, b_1]
  by_cases h0 : i = 0
  · subst h0
    rw [b_sshr k hk x (by omega), if_pos (by omega)]
    cases hb : bt x k
    · simp [hb, b2i, b_0]
    · simp [hb, b2i, b_1]
  · rw [decide_eq_false h0, Bool.and_false]
    cases hb : bt x k
    · rw [b2i_f, b_0]
    · rw [b2i_t, b_1, decide_eq_false h0]
theorem b_tst' (x : Int32) {k : Nat} (hk : k < 32) : (x >>> (nI k &&& nI 31)) &&& nI 1 = b2i (bt x k) := b_tst x hk
theorem b2i_1 (b : Bool) : (b2i b = nI 1) = (b = true) := by cases b <;> simp [b2i, nI] <;> decide
theorem bt_nI (n : Nat) {i : Nat} (hi : i < 32) : bt (nI n) i = n.testBit i := by
  show (BitVec.ofNat 32 n).getLsbD i = _
  rw [BitVec.getLsbD_ofNat]
  simp [hi]
/-- a number of bits below n -/
def lowm (x : Int32) (n : Nat) : Prop := ∀ i, n ≤ i → bt x i = false
theorem low_nI {x : Int32} {n : Nat} (hn : n < 32) (h : lowm x n) : ∃ k, k < 2 ^ n ∧ x = nI k := by
  refine ⟨x.toBitVec.toNat, ?_, ?_⟩
  · apply Nat.lt_pow_two_of_testBit
    intro j hj
    rw [show x.toBitVec.toNat.testBit j = bt x j from BitVec.testBit_toNat x.toBitVec]
    exact h j hj
  · apply Int32.toBitVec_inj.mp
    show _ = BitVec.ofNat 32 _
    simp
theorem low_of {k n : Nat} (hn : n ≤ 31) (h : k < 2 ^ n) : lowm (nI k) n := by
  intro i hi
  rcases Nat.lt_or_ge i 32 with h2 | h2
  · rw [bt_nI k h2]
    exact Nat.testBit_lt_two_pow (Nat.lt_of_lt_of_le h (Nat.pow_le_pow_right (by decide) hi))
  · exact b_big h2
theorem low_or {x y : Int32} {n : Nat} (hx : lowm x n) (hy : lowm y n) : lowm (x ||| y) n := fun i hi => by rw [b_or, hx i hi, hy i hi]; rfl
theorem low_and {x y : Int32} {n : Nat} (hx : lowm x n) : lowm (x &&& y) n := fun i hi => by rw [b_and, hx i hi, Bool.false_and]
theorem low_and2 {x y : Int32} {n : Nat} (hy : lowm y n) : lowm (x &&& y) n := fun i hi => by rw [b_and, hy i hi, Bool.and_false]
theorem low_bit {k n : Nat} (h : k < n) (hn : n ≤ 32) : lowm (bit k) n := fun i hi => by rw [bt_bit (by omega), decide_eq_false (by omega)]
theorem low_0 {n : Nat} : lowm 0 n := fun i _ => b_0 i
theorem low_up {x : Int32} {n m : Nat} (h : lowm x n) (hm : n ≤ m) : lowm x m := fun i hi => h i (by omega)
theorem low_ext {x y : Int32} {n : Nat} (hx : lowm x n) (hy : lowm y n) (h : ∀ i, i < n → bt x i = bt y i) : x = y := b_ext (fun i _ => by
  rcases Nat.lt_or_ge i n with q | q
  · exact h i q
  · rw [hx i q, hy i q])
/-- how many bits there are below n -/
def ones (x : Int32) : Nat → Nat
  | 0 => 0
  | n + 1 => ones x n + (if bt x n then 1 else 0)
def onesF : Nat → Nat → Nat
  | 0, _ => 0
  | f + 1, k => if k = 0 then 0 else onesF f (k &&& (k - 1)) + 1
/-! cells -/
theorem sA_row (A : Nat → Nat → Int32) (i j : Nat) (v : Int32) (a : Nat) : sA A i j v a = if a = i then upd (A i) j v else A a := rfl
theorem sA_ne {A : Nat → Nat → Int32} {i j : Nat} {v : Int32} {a : Nat} (h : a ≠ i) : sA A i j v a = A a := if_neg h
theorem sA_eq {A : Nat → Nat → Int32} {i j : Nat} {v : Int32} : sA A i j v i = upd (A i) j v := if_pos rfl
theorem upd_at (f : Nat → Int32) (k : Nat) (x : Int32) (j : Nat) : upd f k x j = if j = k then x else f j := rfl
theorem upd_eq (f : Nat → Int32) (k : Nat) (x : Int32) : upd f k x k = x := if_pos rfl
theorem upd_ne {f : Nat → Int32} {k : Nat} {x : Int32} {j : Nat} (h : j ≠ k) : upd f k x j = f j := if_neg h
theorem wF_1 (S : pS) (o a : Nat) (v : Int32) : (wF S o a v).1 = sA S.1 o a v := rfl
theorem wF_2 (S : pS) (o a : Nat) (v : Int32) : (wF S o a v).2 = S.2 := rfl
theorem wA_1 (S : pS) (o : Nat) (i v : Int32) : (wA S o i v).1 = S.1 := rfl
theorem wA_21 {S : pS} {o k : Nat} {v : Int32} (h : k < 2147483648) : (wA S o (nI k) v).2.1 = sA S.2.1 o k v := by
  show sA S.2.1 o (nI k).toNatClampNeg v = _
  rw [nI_clamp (by omega)]
theorem wA_22 (S : pS) (o : Nat) (i v : Int32) : (wA S o i v).2.2 = S.2.2 := rfl
theorem wC_1 (S : pS) (o0 : Nat) (sp : Int32) (o1 : Nat) (dp n : Int32) : (wC S o0 sp o1 dp n).1 = S.1 := rfl
theorem wC_22 (S : pS) (o0 : Nat) (sp : Int32) (o1 : Nat) (dp n : Int32) : (wC S o0 sp o1 dp n).2.2 = S.2.2 := rfl
theorem wC_21 {S : pS} {o0 o1 sp dp n : Nat} (h1 : sp < 2147483648) (h2 : dp < 2147483648) (h3 : n < 2147483648) (a : Nat) : (wC S o0 (nI sp) o1 (nI dp) (nI n)).2.1 a = if a = o1 then va_cpy (S.2.1 o0) (S.2.1 o1) sp dp n else S.2.1 a := by
  show sW S.2.1 o1 (va_cpy (S.2.1 o0) (S.2.1 o1) (nI sp).toNatClampNeg (nI dp).toNatClampNeg (nI n).toNatClampNeg) a = _
  rw [nI_clamp (by omega), nI_clamp (by omega), nI_clamp (by omega)]
  rfl
/-- all but these fields and rows stay -/
def Off (F : List (Nat × Nat)) (W : List Nat) (S S' : pS) : Prop := (∀ i a, (i, a) ∉ F → S'.1 i a = S.1 i a) ∧ (∀ i, i ∉ W → S'.2.1 i = S.2.1 i) ∧ S'.2.2 = S.2.2
theorem Off.rf {F : List (Nat × Nat)} {W : List Nat} {S : pS} : Off F W S S := ⟨fun _ _ _ => rfl, fun _ _ => rfl, rfl⟩
theorem Off.tr {F : List (Nat × Nat)} {W : List Nat} {S S' S'' : pS} (h : Off F W S S') (h2 : Off F W S' S'') : Off F W S S'' := ⟨fun i a q => (h2.1 i a q).trans (h.1 i a q), fun i q => (h2.2.1 i q).trans (h.2.1 i q), h2.2.2.trans h.2.2⟩
theorem Off.mono {F F' : List (Nat × Nat)} {W W' : List Nat} {S S' : pS} (h : Off F W S S') (h1 : ∀ x ∈ F, x ∈ F') (h2 : ∀ x ∈ W, x ∈ W') : Off F' W' S S' := ⟨fun i a q => h.1 i a (fun q2 => q (h1 _ q2)), fun i q => h.2.1 i (fun q2 => q (h2 _ q2)), h.2.2⟩
theorem Off.wF {F : List (Nat × Nat)} {W : List Nat} {S S' : pS} {o a : Nat} {v : Int32} (h : Off F W S S') (hm : (o, a) ∈ F) : Off F W S (wF S' o a v) := by
  refine ⟨fun i b q => ?_, h.2.1, h.2.2⟩
  rw [← h.1 i b q, wF_1, sA_row]
  by_cases e : i = o
  · subst e
    rw [if_pos rfl, upd_ne]
    intro e2
    subst e2
    exact q hm
  · rw [if_neg e]
theorem Off.wA {F : List (Nat × Nat)} {W : List Nat} {S S' : pS} {o : Nat} {i v : Int32} (h : Off F W S S') (hm : o ∈ W) : Off F W S (wA S' o i v) := by
  refine ⟨h.1, fun j q => ?_, h.2.2⟩
  rw [← h.2.1 j q]
  show sA S'.2.1 o _ v j = _
  rw [sA_ne]
  intro e
  subst e
  exact q hm
/-! loops -/
def lp {α : Type} (f : Nat → α → α) : Nat → Nat → α → α
  | 0, _, a => a
  | k + 1, i, a => lp f k (i + 1) (f i a)
theorem lp_cong {α : Type} {f g : Nat → α → α} : ∀ {k i : Nat} {a : α}, (∀ j, i ≤ j → j < i + k → ∀ x, f j x = g j x) → lp f k i a = lp g k i a
  | 0, _, _, _ => rfl
  | k + 1, i, a, h => by
    rw [lp, lp, h i (Nat.le_refl i) (by omega)]
    exact lp_cong (fun j h1 h2 x => h j (by omega) (by omega) x)
theorem lp_inv {α : Type} {f : Nat → α → α} {P : Nat → α → Prop} : ∀ {k i : Nat} {a : α}, P i a → (∀ j x, i ≤ j → j < i + k → P j x → P (j + 1) (f j x)) → P (i + k) (lp f k i a)
  | 0, _, _, h, _ => h
  | k + 1, i, a, h, hs => by
    rw [lp, show i + (k + 1) = (i + 1) + k from by omega]
    exact lp_inv (hs i a (Nat.le_refl i) (by omega) h) (fun j x h1 h2 => hs j x (by omega) (by omega))
theorem lp_split {α : Type} {f : Nat → α → α} : ∀ {k m i : Nat} {a : α}, lp f (k + m) i a = lp f m (i + k) (lp f k i a)
  | 0, m, i, a => by rw [Nat.zero_add]; rfl
  | k + 1, m, i, a => by
    rw [show k + 1 + m = (k + m) + 1 from by omega, lp, lp_split, lp, show i + 1 + k = i + (k + 1) from by omega]
theorem lp_last {α : Type} {f : Nat → α → α} {k i : Nat} {a : α} : lp f (k + 1) i a = f (i + k) (lp f k i a) := by
  rw [lp_split]
  rfl
/-- the first from i on, of k -/
def fst? (p : Nat → Bool) : Nat → Nat → Option Nat
  | 0, _ => none
  | k + 1, i => if p i then some i else fst? p k (i + 1)
theorem fst_cong {p q : Nat → Bool} : ∀ {k i : Nat}, (∀ j, i ≤ j → j < i + k → p j = q j) → fst? p k i = fst? q k i
  | 0, _, _ => rfl
  | k + 1, i, h => by
    rw [fst?, fst?, h i (Nat.le_refl i) (by omega), fst_cong (fun j h1 h2 => h j (by omega) (by omega))]
theorem fst_none {p : Nat → Bool} : ∀ {k i : Nat}, fst? p k i = none ↔ ∀ j, i ≤ j → j < i + k → p j = false
  | 0, i => ⟨fun _ j h1 h2 => by omega, fun _ => rfl⟩
  | k + 1, i => by
    rw [fst?]
    cases hp : p i
    · rw [if_neg (by decide), fst_none]
      constructor
      · intro h j h1 h2
        by_cases e : j = i
        · subst e; exact hp
        · exact h j (by omega) (by omega)
      · intro h j h1 h2
        exact h j (by omega) (by omega)
    · rw [if_pos rfl]
      constructor
      · intro h; cases h
      · intro h
        have := h i (Nat.le_refl i) (by omega)
        rw [hp] at this
        cases this
theorem fst_some {p : Nat → Bool} : ∀ {k i j : Nat}, fst? p k i = some j → (i ≤ j ∧ j < i + k) ∧ p j = true ∧ ∀ m, i ≤ m → m < j → p m = false
  | 0, _, _, h => by cases h
  | k + 1, i, j, h => by
    rw [fst?] at h
    cases hp : p i
    · rw [hp, if_neg (by decide)] at h
      obtain ⟨h1, h2, h3⟩ := fst_some h
      refine ⟨⟨by omega, by omega⟩, h2, fun m q1 q2 => ?_⟩
      by_cases e : m = i
      · subst e; exact hp
      · exact h3 m (by omega) q2
    · rw [hp, if_pos rfl] at h
      cases h
      exact ⟨⟨Nat.le_refl _, by omega⟩, hp, fun m q1 q2 => by omega⟩
/-- a set put together -/
def orl (p : Nat → Bool) (b : Nat → Nat) : Nat → Nat → Int32 → Int32 := lp (fun i m => if p i then m ||| bit (b i) else m)
theorem orl_bt {p : Nat → Bool} {b : Nat → Nat} {n : Nat} : ∀ (k i : Nat) (m : Int32), (∀ j, i ≤ j → j < i + k → p j = true → b j < 32) → ∀ x, bt (orl p b k i m) x = (bt m x || (List.range' i k).any (fun c => p c && decide (x = b c)))
  | 0, i, m, _, x => by simp [orl, lp]
  | k + 1, i, m, h, x => by
    show bt (orl p b k (i + 1) _) x = _
    rw [orl_bt (n := n) k (i + 1) _ (fun j h1 h2 => h j (by omega) (by omega)) x, List.range'_succ, List.any_cons, ← Bool.or_assoc]
    congr 1
    show bt (if p i = true then m ||| bit (b i) else m) x = _
    cases hp : p i
    · rw [if_neg Bool.false_ne_true, Bool.false_and, Bool.or_false]
    · rw [if_pos rfl, b_or, bt_bit (h i (Nat.le_refl i) (by omega) hp), Bool.true_and]
