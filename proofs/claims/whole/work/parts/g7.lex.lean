/-! The signs of a text, one after another. -/
def ltr (c : Nat) : Bool := (decide (97 ≤ c) && decide (c ≤ 122)) || (decide (65 ≤ c) && decide (c ≤ 90))
def dgt (c : Nat) : Bool := decide (48 ≤ c) && decide (c ≤ 57)
def blk (c : Nat) : Bool := decide (c = 32) || decide (c = 10)
def sgn (c : Nat) : Bool := decide (c = 59) || decide (c = 43) || decide (c = 45) || decide (c = 42) || decide (c = 47) || decide (c = 40) || decide (c = 41) || decide (c = 60) || decide (c = 61) || decide (c = 62)
/-- past all that is P -/
def pst (P : Nat → Bool) (b : Nat → Nat) (len : Nat) : Nat → Nat → Nat
  | 0, i => i
  | m + 1, i => if i < len ∧ P (b i) = true then pst P b len m (i + 1) else i
theorem pst_s {P : Nat → Bool} {b : Nat → Nat} {len : Nat} : ∀ {m i : Nat}, i + m = len → i ≤ pst P b len m i ∧ pst P b len m i ≤ len ∧ (∀ j, i ≤ j → j < pst P b len m i → P (b j) = true) ∧ (pst P b len m i < len → P (b (pst P b len m i)) = false)
  | 0, i, h => ⟨Nat.le_refl i, by show i ≤ len; omega, fun j h1 h2 => by have h2 : j < i := h2; omega, fun h2 => by have h2 : i < len := h2; omega⟩
  | m + 1, i, h => by
    by_cases q : i < len ∧ P (b i) = true
    · rw [pst, if_pos q]
      obtain ⟨a1, a2, a3, a4⟩ := pst_s (P := P) (b := b) (len := len) (m := m) (i := i + 1) (by omega)
      refine ⟨by omega, a2, fun j h1 h2 => ?_, a4⟩
      by_cases z : j = i
      · rw [z]; exact q.2
      · exact a3 j (by omega) h2
    · rw [pst, if_neg q]
      refine ⟨Nat.le_refl i, by omega, fun j h1 h2 => by omega, fun h2 => ?_⟩
      cases z : P (b i)
      · rfl
      · exact absurd ⟨h2, z⟩ q
/-- the digits as a number -/
def dvl (b : Nat → Nat) : Nat → Nat → Nat → Nat
  | 0, _, v => v
  | m + 1, i, v => dvl b m (i + 1) (v * 10 + b i - 48)
/-- past the blanks -/
def sk (b : Nat → Nat) (len i : Nat) : Nat := pst blk b len (len - i) i
noncomputable def wix (b : Nat → Nat) (s e : Nat) : Nat := Classical.choose (WIx_ex b s e)
theorem wix_s (b : Nat → Nat) (s e : Nat) : WIx b s e (wix b s e) := Classical.choose_spec (WIx_ex b s e)
/-- the sign that begins at s: where it ends, what it is -/
def ten (b : Nat → Nat) (len s : Nat) : Nat := if s = len then len else if ltr (b s) = true then pst ltr b len (len - s) s else if dgt (b s) = true then pst dgt b len (len - s) s else s + 1
noncomputable def tva (b : Nat → Nat) (len s : Nat) : Nat := if s = len then 0 else if ltr (b s) = true then (if wix b s (ten b len s) < 24 then 300 + wix b s (ten b len s) else 1) else if dgt (b s) = true then (if ten b len s - s ≤ 4 then 1000 + dvl b (ten b len s - s) s 0 else 1) else if sgn (b s) = true then b s else 1
theorem sk_s {b : Nat → Nat} {len i : Nat} (h : i ≤ len) : i ≤ sk b len i ∧ sk b len i ≤ len ∧ (∀ j, i ≤ j → j < sk b len i → blk (b j) = true) ∧ (sk b len i < len → blk (b (sk b len i)) = false) := pst_s (by omega)
theorem ten_s {b : Nat → Nat} {len s : Nat} (h : s < len) : s < ten b len s ∧ ten b len s ≤ len := by
  unfold ten
  rw [if_neg (by omega)]
  by_cases q : ltr (b s) = true
  · rw [if_pos q]
    obtain ⟨a1, a2, a3, a4⟩ := pst_s (P := ltr) (b := b) (len := len) (m := len - s) (i := s) (by omega)
    refine ⟨?_, a2⟩
    rcases Nat.lt_or_ge s (pst ltr b len (len - s) s) with z | z
    · exact z
    · have e : pst ltr b len (len - s) s = s := by omega
      rw [e] at a4
      rw [a4 h] at q
      cases q
  · rw [if_neg q]
    by_cases q2 : dgt (b s) = true
    · rw [if_pos q2]
      obtain ⟨a1, a2, a3, a4⟩ := pst_s (P := dgt) (b := b) (len := len) (m := len - s) (i := s) (by omega)
      refine ⟨?_, a2⟩
      rcases Nat.lt_or_ge s (pst dgt b len (len - s) s) with z | z
      · exact z
      · have e : pst dgt b len (len - s) s = s := by omega
        rw [e] at a4
        rw [a4 h] at q2
        cases q2
    · rw [if_neg q2]; omega
theorem dvl_lt {b : Nat → Nat} : ∀ {m i v : Nat}, (∀ j, i ≤ j → j < i + m → dgt (b j) = true) → dvl b m i v < (v + 1) * 10 ^ m
  | 0, _, v, _ => by show v < _; omega
  | m + 1, i, v, h => by
    have h1 := h i (by omega) (by omega)
    have h2 := dvl_lt (b := b) (m := m) (i := i + 1) (v := v * 10 + b i - 48) (fun j a c => h j (by omega) (by omega))
    unfold dgt at h1
    rw [Bool.and_eq_true, decide_eq_true_eq, decide_eq_true_eq] at h1
    show dvl b m (i + 1) (v * 10 + b i - 48) < (v + 1) * 10 ^ (m + 1)
    refine Nat.lt_of_lt_of_le h2 ?_
    rw [Nat.pow_succ, Nat.mul_comm (10 ^ m) 10, ← Nat.mul_assoc]
    exact Nat.mul_le_mul_right _ (by omega)
theorem dvl_snoc {b : Nat → Nat} : ∀ {m i v : Nat}, dvl b (m + 1) i v = dvl b m i v * 10 + b (i + m) - 48
  | 0, i, v => rfl
  | m + 1, i, v => by
    have := dvl_snoc (b := b) (m := m) (i := i + 1) (v := v * 10 + b i - 48)
    rw [show i + 1 + m = i + (m + 1) from by omega] at this
    exact this
/-! plain questions of a byte -/
theorem n_le {a c : Nat} (ha : a < 2147483648) (hc : c < 2147483648) : nI a ≤ nI c ↔ a ≤ c := by rw [nI_leE ha hc]
theorem inN {c lo hi : Nat} (hc : c < 256) (h1 : lo < 256) (h2 : hi < 256) {S : pS} : R_isIn (nI c) (nI lo) (nI hi) S = some (b2i (decide (lo ≤ c) && decide (c ≤ hi)), S) := by
  rw [R_isIn_eq]
  by_cases q : c < lo
  · rw [if_pos (nlt_t q (by omega)), decide_eq_false (by omega)]; rfl
  · rw [if_neg (nlt_f q (by omega) (by omega)), decide_eq_true (by omega)]
    by_cases q2 : c ≤ hi
    · rw [if_pos ((n_le (by omega) (by omega)).mpr q2), decide_eq_true q2]; rfl
    · rw [if_neg (fun z => q2 ((n_le (by omega) (by omega)).mp z)), decide_eq_false q2]; rfl
theorem ltrR {c : Nat} (hc : c < 256) {S : pS} : R_isLetter (nI c) S = some (b2i (ltr c), S) := by
  rw [R_isLetter_eq, show R_isIn (nI c) (97 : Int32) (122 : Int32) S = _ from inN hc (lo := 97) (hi := 122) (by omega) (by omega), ob]
  unfold ltr
  cases e : (decide (97 ≤ c) && decide (c ≤ 122))
  · simp only [b2f, if_true, Bool.false_or]
    rw [show R_isIn (nI c) (65 : Int32) (90 : Int32) S = _ from inN hc (lo := 65) (hi := 90) (by omega) (by omega), ob]
    cases e2 : (decide (65 ≤ c) && decide (c ≤ 90)) <;> rfl
  · rfl
theorem dgtR {c : Nat} (hc : c < 256) {S : pS} : R_isDigit (nI c) S = some (b2i (dgt c), S) := by
  rw [R_isDigit_eq, show R_isIn (nI c) (48 : Int32) (57 : Int32) S = _ from inN hc (lo := 48) (hi := 57) (by omega) (by omega), ob]
  unfold dgt
  simp only []
  rw [if_pos (b2i_pB _)]
theorem ltrM {S : pS} : R_isLetter (-1) S = some (0, S) := by
  rw [R_isLetter_eq, R_isIn_eq, if_pos (by decide), ob]
  simp only [if_true]
  rw [R_isIn_eq, if_pos (by decide), ob]
  rfl
theorem dgtM {S : pS} : R_isDigit (-1) S = some (0, S) := by
  rw [R_isDigit_eq, R_isIn_eq, if_pos (by decide), ob]
  rfl
theorem sgnR {c : Nat} (hc : c < 256) {S : pS} : R_isMarkSign (nI c) S = some (b2i (sgn c), S) := by
  have e : ∀ k, k < 256 → (nI c = nI k ↔ c = k) := fun k hk => by rw [nI_eqE (by omega) (by omega)]
  rw [R_isMarkSign_eq]
  unfold sgn
  by_cases h1 : c = 59
  · subst h1; rfl
  rw [if_neg (show ¬ nI c = (59 : Int32) from fun z => h1 ((e 59 (by omega)).mp z)), decide_eq_false h1]
  by_cases h2 : c = 43
  · subst h2; rfl
  rw [if_neg (show ¬ nI c = (43 : Int32) from fun z => h2 ((e 43 (by omega)).mp z)), decide_eq_false h2]
  by_cases h3 : c = 45
  · subst h3; rfl
  rw [if_neg (show ¬ nI c = (45 : Int32) from fun z => h3 ((e 45 (by omega)).mp z)), decide_eq_false h3]
  by_cases h4 : c = 42
  · subst h4; rfl
  rw [if_neg (show ¬ nI c = (42 : Int32) from fun z => h4 ((e 42 (by omega)).mp z)), decide_eq_false h4]
  by_cases h5 : c = 47
  · subst h5; rfl
  rw [if_neg (show ¬ nI c = (47 : Int32) from fun z => h5 ((e 47 (by omega)).mp z)), decide_eq_false h5]
  by_cases h6 : c = 40
  · subst h6; rfl
  rw [if_neg (show ¬ nI c = (40 : Int32) from fun z => h6 ((e 40 (by omega)).mp z)), decide_eq_false h6]
  by_cases h7 : c = 41
  · subst h7; rfl
  rw [if_neg (show ¬ nI c = (41 : Int32) from fun z => h7 ((e 41 (by omega)).mp z)), decide_eq_false h7]
  by_cases h8 : c = 60
  · subst h8; rfl
  rw [if_neg (show ¬ nI c = (60 : Int32) from fun z => h8 ((e 60 (by omega)).mp z)), decide_eq_false h8]
  by_cases h9 : c = 61
  · subst h9; rfl
  rw [if_neg (show ¬ nI c = (61 : Int32) from fun z => h9 ((e 61 (by omega)).mp z)), decide_eq_false h9]
  by_cases h10 : c = 62
  · subst h10; rfl
  rw [if_neg (show ¬ nI c = (62 : Int32) from fun z => h10 ((e 62 (by omega)).mp z)), decide_eq_false h10]
  rfl
theorem ltrX {c : Nat} (hc : c < 256) {S : pS} : Ta_isLetter (nI c) S = some (b2i (ltr c), S) := by
  have e : Ta_isLetter_c12 (nI c) S = some (b2i (decide (65 ≤ c) && decide (c ≤ 90)), S) := by
    rw [Ta_isLetter_c12_eq]
    by_cases q : c < 65
    · rw [if_pos (show nI c < (65 : Int32) from nlt_t (n := 65) q (by omega)), decide_eq_false (by omega)]; rfl
    · rw [if_neg (show ¬ nI c < (65 : Int32) from nlt_f (n := 65) q (by omega) (by omega)), decide_eq_true (by omega)]
      by_cases q2 : c ≤ 90
      · rw [if_pos (show nI c ≤ (90 : Int32) from (n_le (c := 90) (by omega) (by omega)).mpr q2), decide_eq_true q2]; rfl
      · rw [if_neg (show ¬ nI c ≤ (90 : Int32) from fun z => q2 ((n_le (c := 90) (by omega) (by omega)).mp z)), decide_eq_false q2]; rfl
  rw [Ta_isLetter_eq, e]
  unfold ltr
  by_cases q : c < 97
  · rw [if_pos (show nI c < (97 : Int32) from nlt_t (n := 97) q (by omega)), decide_eq_false (show ¬ 97 ≤ c by omega)]
    simp only [Bool.false_and, Bool.false_or]
  · rw [if_neg (show ¬ nI c < (97 : Int32) from nlt_f (n := 97) q (by omega) (by omega)), decide_eq_true (show 97 ≤ c by omega)]
    by_cases q2 : c ≤ 122
    · rw [if_pos (show nI c ≤ (122 : Int32) from (n_le (c := 122) (by omega) (by omega)).mpr q2), decide_eq_true q2]; rfl
    · rw [if_neg (show ¬ nI c ≤ (122 : Int32) from fun z => q2 ((n_le (c := 122) (by omega) (by omega)).mp z)), decide_eq_false q2]
      simp only [Bool.and_false, Bool.false_or]
theorem dgtX {c : Nat} (hc : c < 256) {S : pS} : Ta_isDigit (nI c) S = some (b2i (dgt c), S) := by
  rw [Ta_isDigit_eq]
  unfold dgt
  by_cases q : c < 48
  · rw [if_pos (show nI c < (48 : Int32) from nlt_t (n := 48) q (by omega)), decide_eq_false (show ¬ 48 ≤ c by omega)]; rfl
  · rw [if_neg (show ¬ nI c < (48 : Int32) from nlt_f (n := 48) q (by omega) (by omega)), decide_eq_true (show 48 ≤ c by omega)]
    by_cases q2 : c ≤ 57
    · rw [if_pos (show nI c ≤ (57 : Int32) from (n_le (c := 57) (by omega) (by omega)).mpr q2), decide_eq_true q2]; rfl
    · rw [if_neg (show ¬ nI c ≤ (57 : Int32) from fun z => q2 ((n_le (c := 57) (by omega) (by omega)).mp z)), decide_eq_false q2]; rfl
