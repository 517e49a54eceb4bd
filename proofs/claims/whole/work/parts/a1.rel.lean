/-! Tables: what a drawer and the law hold, on both sides. -/
abbrev tD : Type := Nat → Nat → Int32
abbrev tL : Type := Nat → Nat → Nat
/-- a drawer of the class at cell o: rows 0 .. 6 what cards bear; row 7: 1 cards, 2 kept, 3 now, 4 used, 5 missed, 6 lacked, 7 draws -/
def XD (o : Nat) (D : tD) (S : pS) : Prop := (∀ r c, r < 7 → c < 14 → S.2.1 (o + 1) (r * 14 + c) = D r c) ∧ ∀ i, 1 ≤ i → i < 8 → S.1 o i = D 7 i
def WD (n : Nat) (D : tD) : Prop := n ≤ 14 ∧ D 7 1 = nI n ∧ lowm (D 7 2) n ∧ ∀ c, c < n → (∃ p, p < 12 ∧ D 0 c = nI p) ∧ (∃ f, f < 8 ∧ D 1 c = nI f) ∧ ∃ t, t < 6 ∧ D 2 c = nI t
def RD (n : Nat) (N P F T : Nat → Int32) (D : tD) : Prop :=
  (∀ c, c < 14 → P c = D 0 c ∧ F c = D 1 c ∧ T c = D 2 c ∧ N (6 + c) = D 3 c ∧ N (62 + c) = D 4 c ∧ N (20 + c) = D 5 c ∧ N (34 + c) = D 6 c) ∧ (∀ c, c < n → N (48 + c) = b2i (!bt (D 7 2) c)) ∧ N 0 = D 7 3 ∧ N 1 = D 7 7 ∧ N 3 = D 7 4 ∧ N 4 = D 7 5 ∧ N 5 = D 7 6
def RDm (n : Nat) (D : tD) (S : pS) : Prop := RD n (S.2.1 1) (S.2.1 4) (S.2.1 5) (S.2.1 6) D ∧ S.1 0 6 = nI n
/-- a token of the class for a code of the reference -/
def tok (op a : Nat) : Nat := if op = 0 then 1000 + a else if op = 1 then 307 + a else if op = 2 then 43 else if op = 3 then 45 else if op = 4 then 42 else if op = 5 then 47 else if op = 6 then 60 else if op = 7 then 61 else if op = 8 then 62 else if op = 9 then 306 else if op = 10 then 305 else 304
/-- the law: row 0: lines, codes; of each line 1 word, 2 from, 3 when, 4 to; of each code 5 what, 6 its number -/
def XL (o : Nat) (L : tL) (S : pS) : Prop := S.1 o 8 = nI (L 0 0) ∧ S.1 o 7 = nI (L 0 1) ∧ (∀ l, l < L 0 0 → S.2.1 (o + 2) l = nI (L 1 l) ∧ S.2.1 (o + 3) l = nI (L 2 l) ∧ S.2.1 (o + 4) l = nI (L 3 l) ∧ S.2.1 (o + 5) l = nI (L 4 l)) ∧ ∀ k, k < L 0 1 → S.2.1 (o + 1) k = nI (tok (L 5 k) (L 6 k))
def RL (M W F H T O A : Nat → Int32) (L : tL) : Prop := M 0 = nI (L 0 0) ∧ (∀ l, l < L 0 0 → W l = nI (L 1 l) ∧ F l = nI (L 2 l) ∧ H l = nI (L 3 l) ∧ T l = nI (L 4 l)) ∧ ∀ k, k < L 0 1 → O k = nI (L 5 k) ∧ A k = nI (L 6 k)
def RLm (L : tL) (S : pS) : Prop := RL (S.2.1 10) (S.2.1 11) (S.2.1 12) (S.2.1 13) (S.2.1 14) (S.2.1 15) (S.2.1 16) L
/-- kinds on the stack: 0 a number, 1 a truth, 2 a number told that is not 0 -/
def okStep (op a : Nat) (ty : List Nat) : Option (List Nat) :=
  if op = 0 then (if ty.length < 32 ∧ a < 10000 then some ((if a = 0 then 0 else 2) :: ty) else none)
  else if op = 1 then (if ty.length < 32 ∧ a < 9 then some (0 :: ty) else none)
  else if op = 9 then (match ty with
    | x :: r => if x = 1 then some (1 :: r) else none
    | [] => none)
  else match ty with
    | y :: x :: r => if op < 5 then (if y ≠ 1 ∧ x ≠ 1 then some (0 :: r) else none) else if op = 5 then (if y = 2 ∧ x ≠ 1 then some (0 :: r) else none) else if op < 9 then (if y ≠ 1 ∧ x ≠ 1 then some (1 :: r) else none) else if op < 12 then (if y = 1 ∧ x = 1 then some (1 :: r) else none) else none
    | _ => none
def okRun (L : tL) : Nat → Nat → List Nat → Option (List Nat)
  | _, 0, ty => some ty
  | k, m + 1, ty => (okStep (L 5 k) (L 6 k) ty).bind (fun t => okRun L (k + 1) m t)
def WL (L : tL) : Prop := L 0 0 ≤ 16 ∧ L 0 1 ≤ 400 ∧ ∀ l, l < L 0 0 → L 1 l < 3 ∧ L 2 l ≤ L 3 l ∧ L 3 l ≤ L 4 l ∧ L 4 l ≤ L 0 1 ∧ (∃ t, okRun L (L 2 l) (L 3 l - L 2 l) [] = some [t]) ∧ (L 3 l < L 4 l → ∃ t, okRun L (L 3 l) (L 4 l - L 3 l) [] = some [t])
def vOp (op : Nat) (x y : Int32) : Int32 := if op = 2 then x + y else if op = 3 then x - y else if op = 4 then x * y else if op = 5 then x / y else if op = 6 then (if x < y then 1 else 0) else if op = 7 then (if x = y then 1 else 0) else if op = 8 then (if x ≤ y then 0 else 1) else if op = 10 then x &&& y else x ||| y
def vStep (kn : Nat → Int32) (op a : Nat) (st : List Int32) : List Int32 :=
  if op = 0 then nI a :: st else if op = 1 then kn a :: st else if op = 9 then (match st with
    | x :: r => (1 - x) :: r
    | [] => [])
  else match st with
    | y :: x :: r => vOp op x y :: r
    | st => st
def vRun (kn : Nat → Int32) (L : tL) : Nat → Nat → List Int32 → List Int32
  | _, 0, st => st
  | k, m + 1, st => vRun kn L (k + 1) m (vStep kn (L 5 k) (L 6 k) st)
def vRes (kn : Nat → Int32) (L : tL) (k m : Nat) : Int32 := (vRun kn L k m []).headD 0
def tyd : List Nat → List Int32 → Prop
  | [], [] => True
  | t :: ts, v :: vs => ((t = 1 → v = 0 ∨ v = 1) ∧ (t = 2 → v ≠ 0)) ∧ tyd ts vs
  | _, _ => False
theorem tyd_len : ∀ {ty : List Nat} {st : List Int32}, tyd ty st → st.length = ty.length
  | [], [], _ => rfl
  | _ :: _, _ :: _, h => congrArg (· + 1) (tyd_len h.2)
  | [], _ :: _, h => h.elim
  | _ :: _, [], h => h.elim
theorem ok_cases {op a : Nat} {ty ty' : List Nat} (h : okStep op a ty = some ty') : (op = 0 ∧ ty.length < 32 ∧ a < 10000 ∧ ty' = (if a = 0 then 0 else 2) :: ty) ∨ (op = 1 ∧ ty.length < 32 ∧ a < 9 ∧ ty' = 0 :: ty) ∨ (op = 9 ∧ ∃ r, ty = 1 :: r ∧ ty' = 1 :: r) ∨ ((1 < op ∧ op < 12 ∧ op ≠ 9) ∧ ∃ y x r t, ty = y :: x :: r ∧ ty' = t :: r ∧ (op = 5 → y = 2) ∧ (10 ≤ op → y = 1 ∧ x = 1 ∧ t = 1) ∧ (6 ≤ op → t = 1) ∧ (op < 6 → t = 0)) := by
  unfold okStep at h
  by_cases h0 : op = 0
  · rw [if_pos h0] at h
    by_cases h1 : ty.length < 32 ∧ a < 10000
    · rw [if_pos h1] at h
      cases h
      exact Or.inl ⟨h0, h1.1, h1.2, rfl⟩
    · rw [if_neg h1] at h
      cases h
  rw [if_neg h0] at h
  by_cases h1 : op = 1
  · rw [if_pos h1] at h
    by_cases h2 : ty.length < 32 ∧ a < 9
    · rw [if_pos h2] at h
      cases h
      exact Or.inr (Or.inl ⟨h1, h2.1, h2.2, rfl⟩)
    · rw [if_neg h2] at h
      cases h
  rw [if_neg h1] at h
  by_cases h9 : op = 9
  · rw [if_pos h9] at h
    match ty, h with
    | x :: r, h =>
      by_cases hx : x = 1
      · subst hx
        simp only [if_true] at h
        cases h
        exact Or.inr (Or.inr (Or.inl ⟨h9, r, rfl, rfl⟩))
      · simp only [if_neg hx] at h
        cases h
    | [], h => cases h
  rw [if_neg h9] at h
  match ty, h with
  | [], h => cases h
  | [_], h => cases h
  | y :: x :: r, h =>
    simp only at h
    refine Or.inr (Or.inr (Or.inr ?_))
    by_cases a1 : op < 5
    · rw [if_pos a1] at h
      by_cases b : y ≠ 1 ∧ x ≠ 1
      · rw [if_pos b] at h
        cases h
        exact ⟨by omega, y, x, r, 0, rfl, rfl, by omega, by omega, by omega, fun _ => rfl⟩
      · rw [if_neg b] at h
        cases h
    rw [if_neg a1] at h
    by_cases a2 : op = 5
    · rw [if_pos a2] at h
      by_cases b : y = 2 ∧ x ≠ 1
      · rw [if_pos b] at h
        cases h
        exact ⟨by omega, y, x, r, 0, rfl, rfl, fun _ => b.1, by omega, by omega, fun _ => rfl⟩
      · rw [if_neg b] at h
        cases h
    rw [if_neg a2] at h
    by_cases a3 : op < 9
    · rw [if_pos a3] at h
      by_cases b : y ≠ 1 ∧ x ≠ 1
      · rw [if_pos b] at h
        cases h
        exact ⟨by omega, y, x, r, 1, rfl, rfl, by omega, by omega, fun _ => rfl, by omega⟩
      · rw [if_neg b] at h
        cases h
    rw [if_neg a3] at h
    by_cases a4 : op < 12
    · rw [if_pos a4] at h
      by_cases b : y = 1 ∧ x = 1
      · rw [if_pos b] at h
        cases h
        exact ⟨by omega, y, x, r, 1, rfl, rfl, by omega, fun _ => ⟨b.1, b.2, rfl⟩, fun _ => rfl, by omega⟩
      · rw [if_neg b] at h
        cases h
    rw [if_neg a4] at h
    cases h
theorem ok_len {op a : Nat} {ty ty' : List Nat} (h : okStep op a ty = some ty') (hl : ty.length ≤ 32) : ty'.length ≤ 32 := by
  rcases ok_cases h with ⟨-, h1, -, rfl⟩ | ⟨-, h1, -, rfl⟩ | ⟨-, r, rfl, rfl⟩ | ⟨-, y, x, r, t, rfl, rfl, -⟩
  · simp only [List.length_cons]; omega
  · simp only [List.length_cons]; omega
  · exact hl
  · simp only [List.length_cons] at *; omega
theorem b01 {x y : Int32} (hx : x = 0 ∨ x = 1) (hy : y = 0 ∨ y = 1) : (x &&& y = 0 ∨ x &&& y = 1) ∧ (x ||| y = 0 ∨ x ||| y = 1) ∧ x * y = x &&& y ∧ (if x + y ≤ 0 then (0 : Int32) else 1) = x ||| y := by
  rcases hx with rfl | rfl <;> rcases hy with rfl | rfl <;> decide
theorem vOp_b {op : Nat} {x y : Int32} (h6 : 6 ≤ op) (h9 : op ≠ 9) (h : 10 ≤ op → (y = 0 ∨ y = 1) ∧ (x = 0 ∨ x = 1)) : vOp op x y = 0 ∨ vOp op x y = 1 := by
  unfold vOp
  rw [if_neg (by omega), if_neg (by omega), if_neg (by omega), if_neg (by omega)]
  by_cases h1 : op = 6
  · rw [if_pos h1]
    by_cases q : x < y
    · rw [if_pos q]; exact Or.inr rfl
    · rw [if_neg q]; exact Or.inl rfl
  rw [if_neg h1]
  by_cases h2 : op = 7
  · rw [if_pos h2]
    by_cases q : x = y
    · rw [if_pos q]; exact Or.inr rfl
    · rw [if_neg q]; exact Or.inl rfl
  rw [if_neg h2]
  by_cases h3 : op = 8
  · rw [if_pos h3]
    by_cases q : x ≤ y
    · rw [if_pos q]; exact Or.inl rfl
    · rw [if_neg q]; exact Or.inr rfl
  rw [if_neg h3]
  have hh := h (by omega)
  have := b01 hh.2 hh.1
  by_cases q : op = 10
  · rw [if_pos q]; exact this.1
  · rw [if_neg q]; exact this.2.1
