/-! The equations of the small machine's runs. -/
/-- a branch that nobody decides by reckoning -/
noncomputable def br {α : Type} (c : Prop) (x y : α) : α := @ite α c (Classical.propDecidable c) x y
theorem br_eq {α : Type} {c : Prop} [ic : Decidable c] (x y : α) : br c x y = if c then x else y := by
  unfold br
  by_cases h : c
  · rw [if_pos h, if_pos h]
  · rw [if_neg h, if_neg h]
theorem brT {α : Type} {c : Prop} {x y z : α} (h : c) (h2 : x = z) : br c x y = z := by
  unfold br
  rw [if_pos h, h2]
theorem brF {α : Type} {c : Prop} {x y z : α} (h : ¬ c) (h2 : y = z) : br c x y = z := by
  unfold br
  rw [if_neg h, h2]
theorem br_cong {α : Type} {c : Prop} {ic : Decidable c} {x y x' y' : α} (h1 : x = x') (h2 : y = y') : br c x y = @ite α c ic x' y' := by
  rw [← h1, ← h2]
  exact br_eq x y
noncomputable def pSwK {ρ : Type} (pc : Nat) (ls st : List Value) (S : pS) (K : pO → Option ρ) (x : Int32) (d : Int) : List (Int × Int) → Option ρ
  | [] => K (some ((pc : Int) + d).toNat, ls, st, S)
  | (v, o) :: r => br (x = Int32.ofInt v) (K (some ((pc : Int) + o).toNat, ls, st, S)) (pSwK pc ls st S K x d r)
theorem pSwK_eq {ρ : Type} (pc : Nat) (ls st : List Value) (S : pS) (K : pO → Option ρ) (x : Int32) (d : Int) (r : List (Int × Int)) : pSwK pc ls st S K x d r = (pSw pc ls st S x d r).bind K := by
  induction r with
  | nil => rfl
  | cons q r ih =>
    obtain ⟨v, o⟩ := q
    rw [pSwK, pSw, br_eq]
    split
    · rfl
    · exact ih
noncomputable def pStepK {ρ : Type} (G : List pSh) (ls st : List Value) (S : pS) (K : pO → Option ρ) : pI → Option ρ
  | (_, .nop, a, _, _, _) => K (none, ls.set a .null, st, S)
  | (_, .iconst _, _, _, c, _) => K (none, ls, .int c :: st, S)
  | (_, .bipush _, _, _, c, _) => K (none, ls, .int c :: st, S)
  | (_, .sipush _, _, _, c, _) => K (none, ls, .int c :: st, S)
  | (_, .ldc _, a, b, c, _) => if b = 0 then K (none, ls, .int c :: st, S) else K (none, ls, .float (UInt32.ofNat a) :: st, S)
  | (_, .ldc_w _, _, _, c, _) => K (none, ls, .int c :: st, S)
  | (_, .iload_n _, a, _, _, _) => match ls[a]? with
    | some (.int x) => K (none, ls, .int x :: st, S)
    | _ => none
  | (_, .iload _, a, _, _, _) => match ls[a]? with
    | some (.int x) => K (none, ls, .int x :: st, S)
    | _ => none
  | (_, .aload_n _, a, _, _, _) => match ls[a]? with
    | some (.ref x) => K (none, ls, .ref x :: st, S)
    | some (.float x) => K (none, ls, .float x :: st, S)
    | some (.double x) => K (none, ls, .double x :: st, S)
    | _ => none
  | (_, .istore_n _, a, _, _, _) => match st with
    | .int x :: st => K (none, ls.set a (.int x), st, S)
    | _ => none
  | (_, .istore _, a, _, _, _) => match st with
    | .int x :: st => K (none, ls.set a (.int x), st, S)
    | _ => none
  | (_, .astore_n _, a, _, _, _) => match st with
    | .ref x :: st => K (none, ls.set a (.ref x), st, S)
    | _ => none
  | (_, .iinc _ _, a, _, c, _) => match ls[a]? with
    | some (.int x) => K (none, ls.set a (.int (x + c)), st, S)
    | _ => none
  | (_, .iadd, _, _, _, _) => match st with
    | .int y :: .int x :: st => K (none, ls, .int (x + y) :: st, S)
    | _ => none
  | (_, .isub, _, _, _, _) => match st with
    | .int y :: .int x :: st => K (none, ls, .int (x - y) :: st, S)
    | _ => none
  | (_, .imul, _, _, _, _) => match st with
    | .int y :: .int x :: st => K (none, ls, .int (x * y) :: st, S)
    | _ => none
  | (_, .idiv, _, _, _, _) => match st with
    | .int y :: .int x :: st => br (y = 0) none (K (none, ls, .int (x / y) :: st, S))
    | _ => none
  | (_, .irem, _, _, _, _) => match st with
    | .int y :: .int x :: st => br (y = 0) none (K (none, ls, .int (x - x / y * y) :: st, S))
    | _ => none
  | (_, .iand, _, _, _, _) => match st with
    | .int y :: .int x :: st => K (none, ls, .int (x &&& y) :: st, S)
    | _ => none
  | (_, .ior, _, _, _, _) => match st with
    | .int y :: .int x :: st => K (none, ls, .int (x ||| y) :: st, S)
    | _ => none
  | (_, .ixor, _, _, _, _) => match st with
    | .int y :: .int x :: st => K (none, ls, .int (x ^^^ y) :: st, S)
    | _ => none
  | (_, .ishl, _, _, _, _) => match st with
    | .int y :: .int x :: st => K (none, ls, .int (x <<< (y &&& 31)) :: st, S)
    | _ => none
  | (_, .ishr, _, _, _, _) => match st with
    | .int y :: .int x :: st => K (none, ls, .int (x >>> (y &&& 31)) :: st, S)
    | _ => none
  | (_, .iushr, _, _, _, _) => match st with
    | .int y :: .int x :: st => K (none, ls, .int ((x.toUInt32 >>> (y.toUInt32 &&& Int32.toUInt32 31)).toInt32) :: st, S)
    | _ => none
  | (_, .i2c, _, _, _, _) => match st with
    | .int x :: st => K (none, ls, .int ((x.toUInt32 % 65536).toInt32) :: st, S)
    | _ => none
  | (_, .dup, _, _, _, _) => match st with
    | v :: st => K (none, ls, v :: v :: st, S)
    | _ => none
  | (_, .dup2, _, _, _, _) => match st with
    | v :: w :: st => K (none, ls, v :: w :: v :: w :: st, S)
    | _ => none
  | (_, .pop, _, _, _, _) => match st with
    | _ :: st => K (none, ls, st, S)
    | _ => none
  | (_, .goto _, a, _, _, _) => K (some a, ls, st, S)
  | (_, .ifCond .eq _, a, _, _, _) => match st with
    | .int x :: st => br (x = 0) (K (some a, ls, st, S)) (K (none, ls, st, S))
    | _ => none
  | (_, .ifCond .ne _, a, _, _, _) => match st with
    | .int x :: st => br (x = 0) (K (none, ls, st, S)) (K (some a, ls, st, S))
    | _ => none
  | (_, .ifCond .lt _, a, _, _, _) => match st with
    | .int x :: st => br (x < 0) (K (some a, ls, st, S)) (K (none, ls, st, S))
    | _ => none
  | (_, .ifCond .ge _, a, _, _, _) => match st with
    | .int x :: st => br (x < 0) (K (none, ls, st, S)) (K (some a, ls, st, S))
    | _ => none
  | (_, .ifCond .gt _, a, _, _, _) => match st with
    | .int x :: st => br (x ≤ 0) (K (none, ls, st, S)) (K (some a, ls, st, S))
    | _ => none
  | (_, .ifCond .le _, a, _, _, _) => match st with
    | .int x :: st => br (x ≤ 0) (K (some a, ls, st, S)) (K (none, ls, st, S))
    | _ => none
  | (_, .if_icmp .eq _, a, _, _, _) => match st with
    | .int y :: .int x :: st => br (x = y) (K (some a, ls, st, S)) (K (none, ls, st, S))
    | _ => none
  | (_, .if_icmp .ne _, a, _, _, _) => match st with
    | .int y :: .int x :: st => br (x = y) (K (none, ls, st, S)) (K (some a, ls, st, S))
    | _ => none
  | (_, .if_icmp .lt _, a, _, _, _) => match st with
    | .int y :: .int x :: st => br (x < y) (K (some a, ls, st, S)) (K (none, ls, st, S))
    | _ => none
  | (_, .if_icmp .ge _, a, _, _, _) => match st with
    | .int y :: .int x :: st => br (x < y) (K (none, ls, st, S)) (K (some a, ls, st, S))
    | _ => none
  | (_, .if_icmp .gt _, a, _, _, _) => match st with
    | .int y :: .int x :: st => br (x ≤ y) (K (none, ls, st, S)) (K (some a, ls, st, S))
    | _ => none
  | (_, .if_icmp .le _, a, _, _, _) => match st with
    | .int y :: .int x :: st => br (x ≤ y) (K (some a, ls, st, S)) (K (none, ls, st, S))
    | _ => none
  | (pc, .tableswitch d lo _ offs, _, _, _, _) => match st with
    | .int x :: st => pSwK pc ls st S K x d (pPairs lo offs.toList)
    | _ => none
  | (pc, .lookupswitch d ps, _, _, _, _) => match st with
    | .int x :: st => pSwK pc ls st S K x d ps.toList
    | _ => none
  | (_, .getfield _, a, b, _, _) => match st with
    | .ref o :: st => match G[o]? with
      | some (.inl (ci, fl)) => if ci = b then (match fl[a]? with
        | some none => K (none, ls, .int (S.1 o a) :: st, S)
        | some (some (some j)) => K (none, ls, .ref j :: st, S)
        | _ => none) else none
      | _ => none
    | .float w :: st => if b = 100 then (if w.toNat < 2 then (if a = 0 then K (none, ls, .double (UInt64.ofNat w.toNat) :: st, S) else K (none, ls, .int 0 :: st, S)) else none) else none
    | _ => none
  | (_, .getstatic _, a, _, _, _) => if a = 0 then K (none, ls, .int 1 :: st, S) else K (none, ls, .retAddr 0 :: st, S)
  | (_, .baload, _, _, _, _) => match st with
    | .int i :: .double w :: st => if w.toNat < 2 then (br (inb i (pTx w.toNat).length = true) (K (none, ls, .int ((pTx w.toNat).getD i.toNatClampNeg 0) :: st, S)) none) else none
    | _ => none
  | (_, .i2b, _, _, _, _) => match st with
    | .int x :: st => K (none, ls, .int x.toInt8.toInt32 :: st, S)
    | _ => none
  | (_, .putfield _, a, b, c, _) => match st with
    | .int v :: .ref o :: st => match G[o]? with
      | some (.inl (ci, fl)) => if ci = b then (match fl[a]? with
        | some none => br (c = 0 ∨ v = 0 ∨ v = 1) (K (none, ls, st, (sA S.1 o a v, S.2.1, S.2.2))) none
        | _ => none) else none
      | _ => none
    | _ => none
  | (_, .iaload, _, _, _, _) => match st with
    | .int i :: .ref o :: st => match G[o]? with
      | some (.inr (.inl n)) => br (inb i n = true) (K (none, ls, .int (S.2.1 o i.toNatClampNeg) :: st, S)) none
      | _ => none
    | _ => none
  | (_, .iastore, _, _, _, _) => match st with
    | .int v :: .int i :: .ref o :: st => match G[o]? with
      | some (.inr (.inl n)) => br (inb i n = true) (K (none, ls, st, (S.1, sA S.2.1 o i.toNatClampNeg v, S.2.2))) none
      | _ => none
    | _ => none
  | (_, .arraylength, _, _, _, _) => match st with
    | .ref o :: st => match G[o]? with
      | some (.inr (.inl n)) => K (none, ls, .int (nI n) :: st, S)
      | some (.inr (.inr n)) => K (none, ls, .int (nI n) :: st, S)
      | _ => none
    | .double w :: st => if w.toNat < 2 then K (none, ls, .int (nI (pTx w.toNat).length) :: st, S) else none
    | _ => none
  | (_, .aaload, _, _, _, _) => match st with
    | .int i :: .ref o :: st => match G[o]? with
      | some (.inr (.inr n)) => br (inb i n = true) ((S.2.2 o i.toNatClampNeg).bind (fun j => K (none, ls, .ref j :: st, S))) none
      | _ => none
    | _ => none
  | (_, .aastore, _, b, _, _) => match st with
    | .ref j :: .int i :: .ref o :: st => match G[o]? with
      | some (.inr (.inr n)) => br (pObj G j b = true) (br (inb i n = true) (K (none, ls, st, (S.1, S.2.1, sR S.2.2 o i.toNatClampNeg (some j)))) none) none
      | _ => none
    | _ => none
  | (_, .invokespecial _, a, _, _, _) => if a = 9000 then (match st with
    | .ref _ :: st => if st.length ≤ 8 then K (none, ls, st, S) else none
    | _ => none) else none
  | (_, .invokestatic _, a, _, _, _) => if a = 9001 then (match st with
    | .int n :: .int dp :: .ref o1 :: .int sp :: .ref o0 :: st => match G[o0]?, G[o1]? with
      | some (.inr (.inl n0)), some (.inr (.inl n1)) =>
        br (0 ≤ sp ∧ 0 ≤ dp ∧ 0 ≤ n ∧ sp.toNatClampNeg + n.toNatClampNeg ≤ n0 ∧ dp.toNatClampNeg + n.toNatClampNeg ≤ n1 ∧ st.length ≤ 8) (
          K (none, ls, st, (S.1, sW S.2.1 o1 (va_cpy (S.2.1 o0) (S.2.1 o1) sp.toNatClampNeg dp.toNatClampNeg n.toNatClampNeg), S.2.2))) none
      | _, _ => none
    | _ => none) else if a = 9004 then (match st with
    | .int y :: .int x :: st => if st.length ≤ 8 then K (none, ls, .int (if x < y then y else x) :: st, S) else none
    | _ => none) else if a = 9005 then (match st with
    | .int y :: .int x :: st => if st.length ≤ 8 then K (none, ls, .int (if y < x then y else x) :: st, S) else none
    | _ => none) else none
  | _ => none
set_option maxHeartbeats 4000000 in
theorem pStepK_eq {ρ : Type} (G : List pSh) (ls st : List Value) (S : pS) (K : pO → Option ρ) (e : pI) : pStepK G ls st S K e = (pStep G ls st S e).bind K := by
  obtain ⟨pc, ins, a, b, c, w⟩ := e
  cases ins with
  | ifCond co off => cases co <;> (rcases st with _ | ⟨v, st⟩ <;> first | rfl | (cases v <;> first | rfl | (simp only [pStepK, pStep, br_eq]; split <;> rfl)))
  | if_icmp co off => cases co <;> (rcases st with _ | ⟨v, _ | ⟨v2, st⟩⟩ <;> first | rfl | (cases v <;> first | rfl | (cases v2 <;> first | rfl | (simp only [pStepK, pStep, br_eq]; split <;> rfl))))
  | tableswitch d lo hi offs => rcases st with _ | ⟨v, st⟩ <;> first | rfl | (cases v <;> first | rfl | exact pSwK_eq ..)
  | lookupswitch d ps => rcases st with _ | ⟨v, st⟩ <;> first | rfl | (cases v <;> first | rfl | exact pSwK_eq ..)
  | idiv => rcases st with _ | ⟨v, _ | ⟨v2, st⟩⟩ <;> first | rfl | (cases v <;> first | rfl | (cases v2 <;> first | rfl | (simp only [pStepK, pStep, br_eq]; split <;> rfl)))
  | irem => rcases st with _ | ⟨v, _ | ⟨v2, st⟩⟩ <;> first | rfl | (cases v <;> first | rfl | (cases v2 <;> first | rfl | (simp only [pStepK, pStep, br_eq]; split <;> rfl)))
  | ldc i => simp only [pStepK, pStep, br_eq]; split <;> rfl
  | iload_n i => simp only [pStepK, pStep, br_eq]; rcases ls[a]? with _ | v <;> first | rfl | (cases v <;> rfl)
  | iload i => simp only [pStepK, pStep, br_eq]; rcases ls[a]? with _ | v <;> first | rfl | (cases v <;> rfl)
  | aload_n i => simp only [pStepK, pStep, br_eq]; rcases ls[a]? with _ | v <;> first | rfl | (cases v <;> rfl)
  | getstatic i => simp only [pStepK, pStep, br_eq]; split <;> rfl
  | baload =>
    rcases st with _ | ⟨v, _ | ⟨v2, st⟩⟩ <;> first | rfl | (cases v <;> rfl) | skip
    cases v <;> first | rfl | skip
    cases v2 <;> first | rfl | skip
    simp only [pStepK, pStep, br_eq]
    split
    · split <;> rfl
    · rfl
  | i2b => rcases st with _ | ⟨v, st⟩ <;> first | rfl | (cases v <;> rfl)
  | iinc i n => simp only [pStepK, pStep, br_eq]; rcases ls[a]? with _ | v <;> first | rfl | (cases v <;> rfl)
  | getfield i =>
    rcases st with _ | ⟨v, st⟩ <;> first | rfl | skip
    cases v <;> first | rfl | skip
    · simp only [pStepK, pStep, br_eq]
      split
      · split
        · split <;> rfl
        · rfl
      · rfl
    simp only [pStepK, pStep, br_eq]
    rcases G[_]? with _ | ⟨ci, fl⟩ | n <;> first | rfl | skip
    dsimp only
    by_cases h : ci = b
    · simp only [h, if_true]
      rcases fl[a]? with _ | _ | _ | j <;> rfl
    · simp only [h, if_false]
      rfl
  | putfield i =>
    rcases st with _ | ⟨v, _ | ⟨v2, st⟩⟩ <;> first | rfl | (cases v <;> rfl) | skip
    cases v <;> first | rfl | skip
    cases v2 <;> first | rfl | skip
    simp only [pStepK, pStep, br_eq]
    rcases G[_]? with _ | ⟨ci, fl⟩ | n <;> first | rfl | skip
    dsimp only
    by_cases h : ci = b
    · simp only [h, if_true]
      rcases fl[a]? with _ | _ | _ <;> first | rfl | skip
      dsimp only
      split <;> rfl
    · simp only [h, if_false]
      rfl
  | iaload =>
    rcases st with _ | ⟨v, _ | ⟨v2, st⟩⟩ <;> first | rfl | (cases v <;> rfl) | skip
    cases v <;> first | rfl | skip
    cases v2 <;> first | rfl | skip
    simp only [pStepK, pStep, br_eq]
    rcases G[_]? with _ | ⟨ci, fl⟩ | n | n <;> first | rfl | skip
    dsimp only
    split <;> rfl
  | iastore =>
    rcases st with _ | ⟨v, _ | ⟨v2, _ | ⟨v3, st⟩⟩⟩ <;> first | rfl | (cases v <;> rfl) | (cases v <;> first | rfl | (cases v2 <;> rfl)) | skip
    cases v <;> first | rfl | skip
    cases v2 <;> first | rfl | skip
    cases v3 <;> first | rfl | skip
    simp only [pStepK, pStep, br_eq]
    rcases G[_]? with _ | ⟨ci, fl⟩ | n | n <;> first | rfl | skip
    dsimp only
    split <;> rfl
  | arraylength =>
    rcases st with _ | ⟨v, st⟩ <;> first | rfl | skip
    cases v <;> first | rfl | skip
    · simp only [pStepK, pStep, br_eq]
      split <;> rfl
    simp only [pStepK, pStep, br_eq]
    rcases G[_]? with _ | ⟨ci, fl⟩ | n | n <;> rfl
  | aaload =>
    rcases st with _ | ⟨v, _ | ⟨v2, st⟩⟩ <;> first | rfl | (cases v <;> rfl) | skip
    cases v <;> first | rfl | skip
    cases v2 <;> first | rfl | skip
    simp only [pStepK, pStep, br_eq]
    rcases G[_]? with _ | ⟨ci, fl⟩ | n | n <;> first | rfl | skip
    dsimp only
    split
    · rcases S.2.2 _ _ with _ | j <;> rfl
    · rfl
  | aastore =>
    rcases st with _ | ⟨v, _ | ⟨v2, _ | ⟨v3, st⟩⟩⟩ <;> first | rfl | (cases v <;> rfl) | (cases v <;> first | rfl | (cases v2 <;> rfl)) | skip
    cases v <;> first | rfl | skip
    cases v2 <;> first | rfl | skip
    cases v3 <;> first | rfl | skip
    rename_i j i o
    simp only [pStepK, pStep, br_eq]
    rcases G[o]? with _ | ⟨ci, fl⟩ | n | n <;> first | rfl | skip
    dsimp only
    by_cases h : pObj G j b = true
    · simp only [h, if_true]
      split <;> rfl
    · simp only [h]
      rfl
  | invokespecial i =>
    simp only [pStepK, pStep, br_eq]
    by_cases h : a = 9000
    · simp only [h, if_true]
      rcases st with _ | ⟨v, st⟩ <;> first | rfl | skip
      cases v <;> first | rfl | skip
      dsimp only
      split <;> rfl
    · simp only [h, if_false]
      rfl
  | invokestatic i =>
    simp only [pStepK, pStep, br_eq]
    by_cases h : a = 9001
    · simp only [h, if_true]
      rcases st with _ | ⟨v, _ | ⟨v2, _ | ⟨v3, _ | ⟨v4, _ | ⟨v5, st⟩⟩⟩⟩⟩ <;> first | rfl | (cases v <;> first | rfl | (cases v2 <;> first | rfl | (cases v3 <;> first | rfl | (cases v4 <;> rfl)))) | skip
      cases v <;> first | rfl | skip
      cases v2 <;> first | rfl | skip
      cases v3 <;> first | rfl | skip
      cases v4 <;> first | rfl | skip
      cases v5 <;> first | rfl | skip
      dsimp only
      rename_i o1 sp o0
      rcases G[o0]? with _ | ⟨ci, fl⟩ | n | n <;> first | rfl | skip
      rcases G[o1]? with _ | ⟨ci, fl⟩ | n | n <;> first | rfl | skip
      dsimp only
      split <;> rfl
    · simp only [h, if_false]
      by_cases h : a = 9004
      · simp only [h, if_true]
        rcases st with _ | ⟨v, _ | ⟨v2, st⟩⟩ <;> first | rfl | (cases v <;> rfl) | skip
        cases v <;> first | rfl | skip
        cases v2 <;> first | rfl | skip
        dsimp only
        split <;> rfl
      · simp only [h, if_false]
        by_cases h : a = 9005
        · simp only [h, if_true]
          rcases st with _ | ⟨v, _ | ⟨v2, st⟩⟩ <;> first | rfl | (cases v <;> rfl) | skip
          cases v <;> first | rfl | skip
          cases v2 <;> first | rfl | skip
          dsimp only
          split <;> rfl
        · simp only [h, if_false]
          rfl
  | istore_n i => rcases st with _ | ⟨v, st⟩ <;> first | rfl | (cases v <;> rfl)
  | istore i => rcases st with _ | ⟨v, st⟩ <;> first | rfl | (cases v <;> rfl)
  | astore_n i => rcases st with _ | ⟨v, st⟩ <;> first | rfl | (cases v <;> rfl)
  | dup => rcases st with _ | ⟨v, st⟩ <;> rfl
  | pop => rcases st with _ | ⟨v, st⟩ <;> rfl
  | dup2 => rcases st with _ | ⟨v, _ | ⟨v2, st⟩⟩ <;> rfl
  | i2c => rcases st with _ | ⟨v, st⟩ <;> first | rfl | (cases v <;> rfl)
  | iadd => rcases st with _ | ⟨v, _ | ⟨v2, st⟩⟩ <;> first | rfl | (cases v <;> first | rfl | (cases v2 <;> rfl))
  | isub => rcases st with _ | ⟨v, _ | ⟨v2, st⟩⟩ <;> first | rfl | (cases v <;> first | rfl | (cases v2 <;> rfl))
  | imul => rcases st with _ | ⟨v, _ | ⟨v2, st⟩⟩ <;> first | rfl | (cases v <;> first | rfl | (cases v2 <;> rfl))
  | iand => rcases st with _ | ⟨v, _ | ⟨v2, st⟩⟩ <;> first | rfl | (cases v <;> first | rfl | (cases v2 <;> rfl))
  | ior => rcases st with _ | ⟨v, _ | ⟨v2, st⟩⟩ <;> first | rfl | (cases v <;> first | rfl | (cases v2 <;> rfl))
  | ixor => rcases st with _ | ⟨v, _ | ⟨v2, st⟩⟩ <;> first | rfl | (cases v <;> first | rfl | (cases v2 <;> rfl))
  | ishl => rcases st with _ | ⟨v, _ | ⟨v2, st⟩⟩ <;> first | rfl | (cases v <;> first | rfl | (cases v2 <;> rfl))
  | ishr => rcases st with _ | ⟨v, _ | ⟨v2, st⟩⟩ <;> first | rfl | (cases v <;> first | rfl | (cases v2 <;> rfl))
  | iushr => rcases st with _ | ⟨v, _ | ⟨v2, st⟩⟩ <;> first | rfl | (cases v <;> first | rfl | (cases v2 <;> rfl))
  | _ => rfl
/-- a state of a run -/
abbrev pSt : Type := List pI × List Value × List Value × pS
section RES
variable (P : Nat → pM) (G : List pSh)
theorem exf_up : ∀ (n d k : Nat) (is : List pI) (ls st : List Value) (S : pS) (r : Int32 × pS), exf P G n d k is ls st S = some r → exf P G (n + 1) d k is ls st S = some r := by
  intro n
  induction n with
  | zero => intro d k is ls st S r h; rw [exf_zero] at h; cases h
  | succ n ih =>
    intro d k is ls st S r h
    cases is with
    | nil => rw [exf_nil] at h; cases h
    | cons e is =>
      rw [exf_cons] at h ⊢
      split at h
      · split at h
        · cases h
        · exact ih _ _ _ _ _ _ _ h
      · exact h
      · exact h
      · split at h
        · rename_i hg
          rw [if_pos hg]
          split at h
          · cases h
          · rename_i x S1 hc
            rw [ih _ _ _ _ _ _ _ hc]
            exact ih _ _ _ _ _ _ _ h
        · cases h
      · cases h
theorem exf_le {n m d k : Nat} {is : List pI} {ls st : List Value} {S : pS} {r : Int32 × pS} (hnm : n ≤ m) (h : exf P G n d k is ls st S = some r) : exf P G m d k is ls st S = some r := by
  induction hnm with
  | refl => exact h
  | step _ ih => exact exf_up P G _ _ _ _ _ _ _ _ ih
/-- what a run answers at its end, if it has one -/
noncomputable def Res (d k : Nat) (σ : pSt) : Option (Int32 × pS) := @dite _ (∃ r, ∃ n, exf P G n d k σ.1 σ.2.1 σ.2.2.1 σ.2.2.2 = some r) (Classical.propDecidable _) (fun h => some h.choose) (fun _ => none)
theorem Res_iff {d k : Nat} {σ : pSt} {r : Int32 × pS} : Res P G d k σ = some r ↔ ∃ n, exf P G n d k σ.1 σ.2.1 σ.2.2.1 σ.2.2.2 = some r := by
  unfold Res
  by_cases h : ∃ r, ∃ n, exf P G n d k σ.1 σ.2.1 σ.2.2.1 σ.2.2.2 = some r
  · rw [dif_pos h]
    obtain ⟨n, hn⟩ := h.choose_spec
    constructor
    · intro e
      rw [Option.some.inj e] at hn
      exact ⟨n, hn⟩
    · rintro ⟨m, hm⟩
      have h1 := exf_le P G (Nat.le_max_left n m) hn
      have h2 := exf_le P G (Nat.le_max_right n m) hm
      rw [h1] at h2
      exact h2
  · rw [dif_neg h]
    constructor
    · intro e; cases e
    · rintro ⟨m, hm⟩; exact absurd ⟨r, m, hm⟩ h
theorem Res_ext {d k d' k' : Nat} {σ σ' : pSt} (h : ∀ r, (∃ n, exf P G n d k σ.1 σ.2.1 σ.2.2.1 σ.2.2.2 = some r) ↔ ∃ n, exf P G n d' k' σ'.1 σ'.2.1 σ'.2.2.1 σ'.2.2.2 = some r) : Res P G d k σ = Res P G d' k' σ' := by
  apply Option.ext
  intro r
  rw [Res_iff, Res_iff]
  exact h r
theorem Res_none {d k : Nat} {σ : pSt} (h : ∀ n r, exf P G n d k σ.1 σ.2.1 σ.2.2.1 σ.2.2.2 ≠ some r) : Res P G d k σ = none := by
  cases hr : Res P G d k σ with
  | none => rfl
  | some r =>
    obtain ⟨n, hn⟩ := (Res_iff P G).mp hr
    exact absurd hn (h n r)
theorem R_step {d k : Nat} {e : pI} {is : List pI} {ls st : List Value} {S : pS} (hk : pKind e = 0) : Res P G d k (e :: is, ls, st, S) = pStepK G ls st S (fun o => Res P G d k (pNext (P k).2.2.2 is o.1, o.2.1, o.2.2.1, o.2.2.2)) e := by
  rw [pStepK_eq]
  cases hs : pStep G ls st S e with
  | none =>
    refine Res_none P G (fun n r h => ?_)
    cases n with
    | zero => rw [exf_zero] at h; cases h
    | succ n => rw [exf_cons, hk] at h; dsimp only at h; rw [hs] at h; cases h
  | some o =>
    obtain ⟨j, ls', st', S'⟩ := o
    show _ = Res P G d k _
    refine Res_ext P G (fun r => ⟨?_, ?_⟩)
    · rintro ⟨n, h⟩
      cases n with
      | zero => rw [exf_zero] at h; cases h
      | succ n => rw [exf_cons, hk] at h; dsimp only at h; rw [hs] at h; exact ⟨n, h⟩
    · rintro ⟨n, h⟩
      refine ⟨n + 1, ?_⟩
      rw [exf_cons, hk]
      dsimp only
      rw [hs]
      exact h
def pIn (n : Nat) : List Nat → Bool
  | [] => false
  | a :: r => Nat.beq a n || pIn n r
/-- does one stop here (what is only forgotten is forgotten first) -/
def pStop (stops : List Nat) : pI → Bool
  | (_, .nop, _) => false
  | (pc, _) => pIn pc stops
/-- the code from a pc on, behind what is forgotten there -/
def pCut (code : List pI) (pc : Nat) : List pI := code.dropWhile (fun e => !pStop [pc] e)
/-- plain instructions one behind another, till one is reached that isn't plain or at which one stops -/
noncomputable def pBlk {ρ : Type} (code : List pI) (stops : List Nat) (K : pSt → Option ρ) : Nat → pSt → Option ρ
  | 0, σ => K σ
  | n + 1, (is, ls, st, S) => match is with
    | [] => K (is, ls, st, S)
    | e :: r => match pKind e with
      | 0 => match pStop stops e with
        | true => K (is, ls, st, S)
        | false => pStepK G ls st S (fun o => pBlk code stops K n (pNext code r o.1, o.2.1, o.2.2.1, o.2.2.2)) e
      | _ => K (is, ls, st, S)
theorem R_blk {code : List pI} {d k : Nat} (hc : (P k).2.2.2 = code) (stops : List Nat) : ∀ (n : Nat) (σ : pSt), Res P G d k σ = pBlk G code stops (Res P G d k) n σ
  | 0, σ => rfl
  | n + 1, (is, ls, st, S) => by
    unfold pBlk
    split
    · rfl
    · rename_i e r
      split
      · rename_i hk
        split
        · rfl
        · rw [R_step P G hk, hc]
          congr 1
          funext o
          exact R_blk hc stops n _
      · rfl
/-- a first step, where the run stands at a place at which one stops -/
noncomputable def pReg {ρ : Type} (code : List pI) (stops : List Nat) (K : pSt → Option ρ) (n : Nat) (is : List pI) (ls st : List Value) (S : pS) : Option ρ := match is with
    | [] => K (is, ls, st, S)
    | e :: r => match pKind e with
      | 0 => pStepK G ls st S (fun o => pBlk G code stops K n (pNext code r o.1, o.2.1, o.2.2.1, o.2.2.2)) e
      | _ => K (is, ls, st, S)
theorem R_reg {code : List pI} {d k : Nat} (hc : (P k).2.2.2 = code) (stops : List Nat) (n : Nat) {is : List pI} {ls st : List Value} {S : pS} : Res P G d k (is, ls, st, S) = pReg G code stops (Res P G d k) n is ls st S := by
  unfold pReg
  split
  · rfl
  · rename_i e r
    split
    · rename_i hk
      rw [R_step P G hk, hc]
      congr 1
      funext o
      exact R_blk P G hc stops n _
    · rfl
theorem R_ret {d k : Nat} {e : pI} {is : List pI} {ls : List Value} {x : Int32} {S : pS} (hk : pKind e = 1) : Res P G d k (e :: is, ls, [.int x], S) = if pBool e.2.2.1 x = true then some (x, S) else none := by
  by_cases hb : pBool e.2.2.1 x = true
  · rw [if_pos hb]
    exact (Res_iff P G).mpr ⟨1, by rw [exf_cons, hk]; exact if_pos hb⟩
  · rw [if_neg hb]
    refine Res_none P G (fun n r h => ?_)
    cases n with
    | zero => rw [exf_zero] at h; cases h
    | succ n => rw [exf_cons, hk] at h; change (if _ then _ else _) = _ at h; rw [if_neg hb] at h; cases h
theorem R_retI {d k : Nat} {e : pI} {is : List pI} {ls : List Value} {x : Int32} {S : pS} (hk : pKind e = 1) (ha : pBool e.2.2.1 x = true) : Res P G d k (e :: is, ls, [.int x], S) = some (x, S) := by
  rw [R_ret P G hk, if_pos ha]
theorem R_retV {d k : Nat} {e : pI} {is : List pI} {ls : List Value} {S : pS} (hk : pKind e = 2) : Res P G d k (e :: is, ls, [], S) = some (0, S) :=
  (Res_iff P G).mpr ⟨1, by rw [exf_cons, hk]; rfl⟩
/-- how deep the calls of a method go: a table in which each callee's number is less than its caller's -/
def Ranked (rk : Nat → Nat) : Prop := ∀ (k : Nat), rk k < 1000 → ∀ (e : pI), e ∈ (P k).2.2.2 → pKind e = 3 → rk e.2.2.1 < rk k
theorem pJmp_sub {is : List pI} {pc : Nat} : ∀ e ∈ pJmp is pc, e ∈ is := fun e h => (List.dropWhile_sublist _).subset h
theorem exf_deep {rk : Nat → Nat} (hr : Ranked P rk) : ∀ (n d d' k : Nat) (is : List pI) (ls st : List Value) (S : pS), rk k < 1000 → rk k ≤ d → rk k ≤ d' → (∀ e ∈ is, e ∈ (P k).2.2.2) → exf P G n d k is ls st S = exf P G n d' k is ls st S := by
  intro n
  induction n with
  | zero => intros; rw [exf_zero, exf_zero]
  | succ n ih =>
    intro d d' k is ls st S hkk h h' hs
    cases is with
    | nil => rw [exf_nil, exf_nil]
    | cons e is =>
      rw [exf_cons, exf_cons]
      split
      · split
        · rfl
        · rename_i j ls' st' S' hst
          refine ih d d' k _ ls' st' S' hkk h h' ?_
          cases j with
          | none => exact fun e' he' => hs e' (List.mem_cons_of_mem _ he')
          | some t => exact pJmp_sub
      · rfl
      · rfl
      · rename_i hk
        have hlt := hr k hkk e (hs e List.mem_cons_self) hk
        have e1 : ∀ S, exf P G n (d - 1) e.2.2.1 (P e.2.2.1).2.2.2 (pLs (P e.2.2.1) (pArgs (P e.2.2.1).1 st)) [] S = exf P G n (d' - 1) e.2.2.1 (P e.2.2.1).2.2.2 (pLs (P e.2.2.1) (pArgs (P e.2.2.1).1 st)) [] S := fun S => ih _ _ _ _ _ _ S (by omega) (by omega) (by omega) (fun _ h => h)
        have hd : (0 < d) = (0 < d') := by apply propext; omega
        simp only [hd, e1]
        split
        · split
          · rfl
          · exact ih d d' k _ _ _ _ hkk h h' (fun e' he' => hs e' (List.mem_cons_of_mem _ he'))
        · rfl
      · rfl
theorem Res_deep {rk : Nat → Nat} (hr : Ranked P rk) {d d' k : Nat} {ls st : List Value} {S : pS} (hkk : rk k < 1000) (h : rk k ≤ d) (h' : rk k ≤ d') : Res P G d k ((P k).2.2.2, ls, st, S) = Res P G d' k ((P k).2.2.2, ls, st, S) := by
  refine Res_ext P G (fun r => ?_)
  simp only [exf_deep P G hr _ d d' k _ ls st S hkk h h' (fun _ h => h)]
/-- a call from outside: as deep as its number says -/
noncomputable def CallF (rk : Nat → Nat) (a : Nat) (As : List Value) (S : pS) : Option (Int32 × pS) := Res P G (rk a) a ((P a).2.2.2, pLs (P a) As, [], S)
theorem R_call0 {d k : Nat} {e : pI} {is : List pI} {ls st : List Value} {S : pS} (hk : pKind e = 3) (hg : 0 < d ∧ (P e.2.2.1).1 ≤ st.length ∧ st.length ≤ (P e.2.2.1).1 + 8 ∧ pRcv G (P e.2.2.1).2.2.1 (pArgs (P e.2.2.1).1 st) = true) :
    Res P G d k (e :: is, ls, st, S) = (Res P G (d - 1) e.2.2.1 ((P e.2.2.1).2.2.2, pLs (P e.2.2.1) (pArgs (P e.2.2.1).1 st), [], S)).bind (fun q => Res P G d k (is, ls, pPush e.2.2.2.1 q.1 (st.drop (P e.2.2.1).1), q.2)) := by
  apply Option.ext
  intro r
  rw [Res_iff, Option.bind_eq_some_iff]
  constructor
  · rintro ⟨n, h⟩
    cases n with
    | zero => rw [exf_zero] at h; cases h
    | succ n =>
      rw [exf_cons, hk] at h
      change (if _ then _ else _) = _ at h
      rw [if_pos hg] at h
      split at h
      · cases h
      · rename_i x S1 hc
        exact ⟨(x, S1), (Res_iff P G).mpr ⟨n, hc⟩, (Res_iff P G).mpr ⟨n, h⟩⟩
  · rintro ⟨⟨x, S1⟩, h1, h2⟩
    obtain ⟨n, h1⟩ := (Res_iff P G).mp h1
    obtain ⟨m, h2⟩ := (Res_iff P G).mp h2
    refine ⟨max n m + 1, ?_⟩
    rw [exf_cons, hk]
    change (if _ then _ else _) = _
    rw [if_pos hg, exf_le P G (Nat.le_max_left n m) h1]
    exact exf_le P G (Nat.le_max_right n m) h2
/-- a call, with the callee's row of the table, its arguments and what stays below -/
theorem R_cx {rk : Nat → Nat} (hr : Ranked P rk) {d k pc a b w : Nat} {ins : Instr} {c : Int32} {is : List pI} {ls st : List Value} {S : pS} {m : pM} (hm : P a = m) {As rest : List Value} (hk : pKind (pc, ins, a, b, c, w) = 3) (hd : (decide (rk a < d) && decide (rk a < 1000)) = true) (hAs : pArgs m.1 st = As) (hre : st.drop m.1 = rest) (hg : (decide (m.1 ≤ st.length) && (decide (st.length ≤ m.1 + 8) && pRcv G m.2.2.1 As)) = true) :
    Res P G d k ((pc, ins, a, b, c, w) :: is, ls, st, S) = (CallF P G rk a As S).bind (fun q => Res P G d k (is, ls, pPush b q.1 rest, q.2)) := by
  subst hm hAs hre
  simp only [Bool.and_eq_true, decide_eq_true_eq] at hg hd
  rw [R_call0 P G hk ⟨by omega, hg.1, hg.2.1, hg.2.2⟩]
  congr 1
  exact Res_deep P G hr hd.2 (by show rk a ≤ d - 1; omega) (Nat.le_refl _)
/-- the same, where it isn't known whether the object is of the right kind -/
theorem R_cxg {rk : Nat → Nat} (hr : Ranked P rk) {d k pc a b w : Nat} {ins : Instr} {c : Int32} {is : List pI} {ls st : List Value} {S : pS} {m : pM} (hm : P a = m) {As rest : List Value} (hk : pKind (pc, ins, a, b, c, w) = 3) (hd : (decide (rk a < d) && decide (rk a < 1000)) = true) (hAs : pArgs m.1 st = As) (hre : st.drop m.1 = rest) (hg : (decide (m.1 ≤ st.length) && decide (st.length ≤ m.1 + 8)) = true) :
    Res P G d k ((pc, ins, a, b, c, w) :: is, ls, st, S) = if pRcv G m.2.2.1 As = true then (CallF P G rk a As S).bind (fun q => Res P G d k (is, ls, pPush b q.1 rest, q.2)) else none := by
  by_cases hp : pRcv G m.2.2.1 As = true
  · rw [if_pos hp]
    simp only [Bool.and_eq_true] at hg
    exact R_cx P G hr hm hk hd hAs hre (by simp only [Bool.and_eq_true]; exact ⟨hg.1, hg.2, hp⟩)
  · rw [if_neg hp]
    subst hm hAs hre
    refine Res_none P G (fun n r h => ?_)
    cases n with
    | zero => rw [exf_zero] at h; cases h
    | succ n =>
      rw [exf_cons, hk] at h
      change (if _ then _ else _) = _ at h
      rw [if_neg (fun q => hp q.2.2.2)] at h
      cases h
/-- the same where methods call one another in a ring: as deep as it is said -/
theorem R_cd {d k pc a b w : Nat} {ins : Instr} {c : Int32} {is : List pI} {ls st : List Value} {S : pS} {m : pM} (hm : P a = m) {As rest : List Value} (hk : pKind (pc, ins, a, b, c, w) = 3) (hAs : pArgs m.1 st = As) (hre : st.drop m.1 = rest) (hg : (decide (m.1 ≤ st.length) && (decide (st.length ≤ m.1 + 8) && pRcv G m.2.2.1 As)) = true) :
    Res P G (d + 1) k ((pc, ins, a, b, c, w) :: is, ls, st, S) = (Res P G d a (m.2.2.2, pLs m As, [], S)).bind (fun q => Res P G (d + 1) k (is, ls, pPush b q.1 rest, q.2)) := by
  subst hm hAs hre
  simp only [Bool.and_eq_true, decide_eq_true_eq] at hg
  rw [R_call0 P G hk ⟨by omega, hg.1, hg.2.1, hg.2.2⟩]
  rfl
end RES
theorem dk_ok {x d : Nat} (h : x ≤ d) (h2 : decide (x < 1000) = true) : (decide (x < d + 1) && decide (x < 1000)) = true := by
  rw [h2, Bool.and_true, decide_eq_true_eq]
  omega
abbrev rF (S : pS) (o a : Nat) : Int32 := S.1 o a
abbrev rA (S : pS) (o : Nat) (i : Int32) : Int32 := S.2.1 o i.toNatClampNeg
def wF (S : pS) (o a : Nat) (v : Int32) : pS := (sA S.1 o a v, S.2.1, S.2.2)
def wA (S : pS) (o : Nat) (i v : Int32) : pS := (S.1, sA S.2.1 o i.toNatClampNeg v, S.2.2)
def wR (S : pS) (o : Nat) (i : Int32) (j : Nat) : pS := (S.1, S.2.1, sR S.2.2 o i.toNatClampNeg (some j))
def wC (S : pS) (o0 : Nat) (sp : Int32) (o1 : Nat) (dp n : Int32) : pS := (S.1, sW S.2.1 o1 (va_cpy (S.2.1 o0) (S.2.1 o1) sp.toNatClampNeg dp.toNatClampNeg n.toNatClampNeg), S.2.2)
def cpyOk (sp dp n : Int32) (n0 n1 : Nat) : Prop := 0 ≤ sp ∧ 0 ≤ dp ∧ 0 ≤ n ∧ sp.toNatClampNeg + n.toNatClampNeg ≤ n0 ∧ dp.toNatClampNeg + n.toNatClampNeg ≤ n1
theorem ite_cong {α : Type} {c : Prop} {ic : Decidable c} {x y x' y' : α} (h1 : x = x') (h2 : y = y') : @ite α c ic x y = @ite α c ic x' y' := by rw [h1, h2]
theorem bind_cong {α β : Type} {x : Option α} {f g : α → Option β} (h : ∀ q, f q = g q) : x.bind f = x.bind g := by rw [funext h]
