/-! A small machine of plain numbers, beside the machine itself: cells are shapes (fixed) and numbers (functions). -/
/-- a cell's shape: an object (its number in 'classes', of each field none: a number, some r: a reference), a row of numbers, a row of references -/
abbrev pSh : Type := (Nat × List (Option (Option Nat))) ⊕ (Nat ⊕ Nat)
/-- numbers: of fields, of rows, of rows of references -/
abbrev pS : Type := (Nat → Nat → Int32) × (Nat → Nat → Int32) × (Nat → Nat → Option Nat)
/-- an instruction: its pc, itself, two numbers and a constant that were looked up, the place of its link -/
abbrev pI : Type := Nat × Instr × Nat × Nat × Int32 × Nat
/-- a method: how many arguments (its object too), how many places, whose object (number + 1; 0: none asked), its code -/
abbrev pM : Type := Nat × Nat × Nat × List pI
def sA (A : Nat → Nat → Int32) (i j : Nat) (v : Int32) : Nat → Nat → Int32 := fun a => if a = i then upd (A i) j v else A a
def sR (A : Nat → Nat → Option Nat) (i j : Nat) (v : Option Nat) : Nat → Nat → Option Nat := fun a => if a = i then va_up (A i) j v else A a
def sW (A : Nat → Nat → Int32) (i : Nat) (f : Nat → Int32) : Nat → Nat → Int32 := fun a => if a = i then f else A a
def inb (i : Int32) (n : Nat) : Bool := decide (0 ≤ i) && decide (i.toNatClampNeg < n)
theorem inb_in {i : Int32} {n : Nat} (h : inb i n = true) : vp_in i n := by
  unfold inb at h
  simp only [Bool.and_eq_true, decide_eq_true_eq] at h
  intro q
  rcases q with q | q
  · exact absurd h.1 (Int32.not_le.mpr q)
  · omega
abbrev pO : Type := Option Nat × List Value × List Value × pS
def pPairs (lo : Int) : List Int → List (Int × Int)
  | [] => []
  | o :: r => (lo, o) :: pPairs (lo + 1) r
def pSw (pc : Nat) (ls st : List Value) (S : pS) (x : Int32) (d : Int) : List (Int × Int) → Option pO
  | [] => some (some ((pc : Int) + d).toNat, ls, st, S)
  | (v, o) :: r => if x = Int32.ofInt v then some (some ((pc : Int) + o).toNat, ls, st, S) else pSw pc ls st S x d r
/-- the texts that are constants: their signs -/
def pTx : Nat → List Int32
  | 0 => [104, 111, 108, 100, 115, 32, 100, 117, 115, 116, 32, 32, 119, 111, 114, 116, 104, 32, 119, 104, 101, 110, 32, 32, 111, 114, 32, 32, 32, 32, 97, 110, 100, 32, 32, 32, 110, 111, 116, 32, 32, 32, 112, 101, 114, 115, 111, 110, 102, 105, 114, 109, 32, 32, 116, 114, 97, 100, 101, 32, 121, 101, 97, 114, 32, 32, 98, 101, 110, 116, 32, 32, 119, 111, 114, 110, 32, 32, 114, 117, 110, 103, 32, 32, 97, 103, 101, 32, 32, 32, 110, 111, 119, 32, 32, 32, 98, 121, 32, 32, 32, 32, 102, 114, 111, 109, 32, 32, 116, 111, 32, 32, 32, 32, 105, 110, 32, 32, 32, 32, 116, 104, 114, 111, 119, 32, 114, 105, 110, 103, 32, 32, 98, 101, 110, 100, 32, 32, 102, 105, 110, 100, 32, 32]
  | _ => [59, 43, 45, 42, 47, 40, 41, 60, 61, 62]
/-- is cell j an object of this kind -/
def pObj (G : List pSh) (j b : Nat) : Bool := match G[j]? with
  | some (.inl (ci, _)) => decide (ci = b)
  | _ => false
/-- one instruction that neither calls, returns, nor makes a cell: where it jumps (a pc; none: on), and what is then -/
def pStep (G : List pSh) (ls st : List Value) (S : pS) : pI → Option pO
  | (_, .nop, a, _, _, _) => some (none, ls.set a .null, st, S)
  | (_, .iconst _, _, _, c, _) => some (none, ls, .int c :: st, S)
  | (_, .bipush _, _, _, c, _) => some (none, ls, .int c :: st, S)
  | (_, .sipush _, _, _, c, _) => some (none, ls, .int c :: st, S)
  | (_, .ldc _, a, b, c, _) => if b = 0 then some (none, ls, .int c :: st, S) else some (none, ls, .float (UInt32.ofNat a) :: st, S)
  | (_, .ldc_w _, _, _, c, _) => some (none, ls, .int c :: st, S)
  | (_, .iload_n _, a, _, _, _) => match ls[a]? with
    | some (.int x) => some (none, ls, .int x :: st, S)
    | _ => none
  | (_, .iload _, a, _, _, _) => match ls[a]? with
    | some (.int x) => some (none, ls, .int x :: st, S)
    | _ => none
  | (_, .aload_n _, a, _, _, _) => match ls[a]? with
    | some (.ref x) => some (none, ls, .ref x :: st, S)
    | some (.float x) => some (none, ls, .float x :: st, S)
    | some (.double x) => some (none, ls, .double x :: st, S)
    | _ => none
  | (_, .istore_n _, a, _, _, _) => match st with
    | .int x :: st => some (none, ls.set a (.int x), st, S)
    | _ => none
  | (_, .istore _, a, _, _, _) => match st with
    | .int x :: st => some (none, ls.set a (.int x), st, S)
    | _ => none
  | (_, .astore_n _, a, _, _, _) => match st with
    | .ref x :: st => some (none, ls.set a (.ref x), st, S)
    | _ => none
  | (_, .iinc _ _, a, _, c, _) => match ls[a]? with
    | some (.int x) => some (none, ls.set a (.int (x + c)), st, S)
    | _ => none
  | (_, .iadd, _, _, _, _) => match st with
    | .int y :: .int x :: st => some (none, ls, .int (x + y) :: st, S)
    | _ => none
  | (_, .isub, _, _, _, _) => match st with
    | .int y :: .int x :: st => some (none, ls, .int (x - y) :: st, S)
    | _ => none
  | (_, .imul, _, _, _, _) => match st with
    | .int y :: .int x :: st => some (none, ls, .int (x * y) :: st, S)
    | _ => none
  | (_, .idiv, _, _, _, _) => match st with
    | .int y :: .int x :: st => if y = 0 then none else some (none, ls, .int (x / y) :: st, S)
    | _ => none
  | (_, .irem, _, _, _, _) => match st with
    | .int y :: .int x :: st => if y = 0 then none else some (none, ls, .int (x - x / y * y) :: st, S)
    | _ => none
  | (_, .iand, _, _, _, _) => match st with
    | .int y :: .int x :: st => some (none, ls, .int (x &&& y) :: st, S)
    | _ => none
  | (_, .ior, _, _, _, _) => match st with
    | .int y :: .int x :: st => some (none, ls, .int (x ||| y) :: st, S)
    | _ => none
  | (_, .ixor, _, _, _, _) => match st with
    | .int y :: .int x :: st => some (none, ls, .int (x ^^^ y) :: st, S)
    | _ => none
  | (_, .ishl, _, _, _, _) => match st with
    | .int y :: .int x :: st => some (none, ls, .int (x <<< (y &&& 31)) :: st, S)
    | _ => none
  | (_, .ishr, _, _, _, _) => match st with
    | .int y :: .int x :: st => some (none, ls, .int (x >>> (y &&& 31)) :: st, S)
    | _ => none
  | (_, .iushr, _, _, _, _) => match st with
    | .int y :: .int x :: st => some (none, ls, .int ((x.toUInt32 >>> (y.toUInt32 &&& Int32.toUInt32 31)).toInt32) :: st, S)
    | _ => none
  | (_, .i2c, _, _, _, _) => match st with
    | .int x :: st => some (none, ls, .int ((x.toUInt32 % 65536).toInt32) :: st, S)
    | _ => none
  | (_, .dup, _, _, _, _) => match st with
    | v :: st => some (none, ls, v :: v :: st, S)
    | _ => none
  | (_, .dup2, _, _, _, _) => match st with
    | v :: w :: st => some (none, ls, v :: w :: v :: w :: st, S)
    | _ => none
  | (_, .pop, _, _, _, _) => match st with
    | _ :: st => some (none, ls, st, S)
    | _ => none
  | (_, .goto _, a, _, _, _) => some (some a, ls, st, S)
  | (_, .ifCond .eq _, a, _, _, _) => match st with
    | .int x :: st => if x = 0 then some (some a, ls, st, S) else some (none, ls, st, S)
    | _ => none
  | (_, .ifCond .ne _, a, _, _, _) => match st with
    | .int x :: st => if x = 0 then some (none, ls, st, S) else some (some a, ls, st, S)
    | _ => none
  | (_, .ifCond .lt _, a, _, _, _) => match st with
    | .int x :: st => if x < 0 then some (some a, ls, st, S) else some (none, ls, st, S)
    | _ => none
  | (_, .ifCond .ge _, a, _, _, _) => match st with
    | .int x :: st => if x < 0 then some (none, ls, st, S) else some (some a, ls, st, S)
    | _ => none
  | (_, .ifCond .gt _, a, _, _, _) => match st with
    | .int x :: st => if x ≤ 0 then some (none, ls, st, S) else some (some a, ls, st, S)
    | _ => none
  | (_, .ifCond .le _, a, _, _, _) => match st with
    | .int x :: st => if x ≤ 0 then some (some a, ls, st, S) else some (none, ls, st, S)
    | _ => none
  | (_, .if_icmp .eq _, a, _, _, _) => match st with
    | .int y :: .int x :: st => if x = y then some (some a, ls, st, S) else some (none, ls, st, S)
    | _ => none
  | (_, .if_icmp .ne _, a, _, _, _) => match st with
    | .int y :: .int x :: st => if x = y then some (none, ls, st, S) else some (some a, ls, st, S)
    | _ => none
  | (_, .if_icmp .lt _, a, _, _, _) => match st with
    | .int y :: .int x :: st => if x < y then some (some a, ls, st, S) else some (none, ls, st, S)
    | _ => none
  | (_, .if_icmp .ge _, a, _, _, _) => match st with
    | .int y :: .int x :: st => if x < y then some (none, ls, st, S) else some (some a, ls, st, S)
    | _ => none
  | (_, .if_icmp .gt _, a, _, _, _) => match st with
    | .int y :: .int x :: st => if x ≤ y then some (none, ls, st, S) else some (some a, ls, st, S)
    | _ => none
  | (_, .if_icmp .le _, a, _, _, _) => match st with
    | .int y :: .int x :: st => if x ≤ y then some (some a, ls, st, S) else some (none, ls, st, S)
    | _ => none
  | (pc, .tableswitch d lo _ offs, _, _, _, _) => match st with
    | .int x :: st => pSw pc ls st S x d (pPairs lo offs.toList)
    | _ => none
  | (pc, .lookupswitch d ps, _, _, _, _) => match st with
    | .int x :: st => pSw pc ls st S x d ps.toList
    | _ => none
  | (_, .getfield _, a, b, _, _) => match st with
    | .ref o :: st => match G[o]? with
      | some (.inl (ci, fl)) => if ci = b then (match fl[a]? with
        | some none => some (none, ls, .int (S.1 o a) :: st, S)
        | some (some (some j)) => some (none, ls, .ref j :: st, S)
        | _ => none) else none
      | _ => none
    | .float w :: st => if b = 100 then (if w.toNat < 2 then (if a = 0 then some (none, ls, .double (UInt64.ofNat w.toNat) :: st, S) else some (none, ls, .int 0 :: st, S)) else none) else none
    | _ => none
  | (_, .getstatic _, a, _, _, _) => if a = 0 then some (none, ls, .int 1 :: st, S) else some (none, ls, .retAddr 0 :: st, S)
  | (_, .baload, _, _, _, _) => match st with
    | .int i :: .double w :: st => if w.toNat < 2 then (if inb i (pTx w.toNat).length then some (none, ls, .int ((pTx w.toNat).getD i.toNatClampNeg 0) :: st, S) else none) else none
    | _ => none
  | (_, .i2b, _, _, _, _) => match st with
    | .int x :: st => some (none, ls, .int x.toInt8.toInt32 :: st, S)
    | _ => none
  | (_, .putfield _, a, b, c, _) => match st with
    | .int v :: .ref o :: st => match G[o]? with
      | some (.inl (ci, fl)) => if ci = b then (match fl[a]? with
        | some none => if c = 0 ∨ v = 0 ∨ v = 1 then some (none, ls, st, (sA S.1 o a v, S.2.1, S.2.2)) else none
        | _ => none) else none
      | _ => none
    | _ => none
  | (_, .iaload, _, _, _, _) => match st with
    | .int i :: .ref o :: st => match G[o]? with
      | some (.inr (.inl n)) => if inb i n then some (none, ls, .int (S.2.1 o i.toNatClampNeg) :: st, S) else none
      | _ => none
    | _ => none
  | (_, .iastore, _, _, _, _) => match st with
    | .int v :: .int i :: .ref o :: st => match G[o]? with
      | some (.inr (.inl n)) => if inb i n then some (none, ls, st, (S.1, sA S.2.1 o i.toNatClampNeg v, S.2.2)) else none
      | _ => none
    | _ => none
  | (_, .arraylength, _, _, _, _) => match st with
    | .ref o :: st => match G[o]? with
      | some (.inr (.inl n)) => some (none, ls, .int (nI n) :: st, S)
      | some (.inr (.inr n)) => some (none, ls, .int (nI n) :: st, S)
      | _ => none
    | .double w :: st => if w.toNat < 2 then some (none, ls, .int (nI (pTx w.toNat).length) :: st, S) else none
    | _ => none
  | (_, .aaload, _, _, _, _) => match st with
    | .int i :: .ref o :: st => match G[o]? with
      | some (.inr (.inr n)) => if inb i n then (match S.2.2 o i.toNatClampNeg with
        | some j => some (none, ls, .ref j :: st, S)
        | none => none) else none
      | _ => none
    | _ => none
  | (_, .aastore, _, b, _, _) => match st with
    | .ref j :: .int i :: .ref o :: st => match G[o]? with
      | some (.inr (.inr n)) => if pObj G j b then (if inb i n then some (none, ls, st, (S.1, S.2.1, sR S.2.2 o i.toNatClampNeg (some j))) else none) else none
      | _ => none
    | _ => none
  | (_, .invokespecial _, a, _, _, _) => if a = 9000 then (match st with
    | .ref _ :: st => if st.length ≤ 8 then some (none, ls, st, S) else none
    | _ => none) else none
  | (_, .invokestatic _, a, _, _, _) => if a = 9001 then (match st with
    | .int n :: .int dp :: .ref o1 :: .int sp :: .ref o0 :: st => match G[o0]?, G[o1]? with
      | some (.inr (.inl n0)), some (.inr (.inl n1)) =>
        if 0 ≤ sp ∧ 0 ≤ dp ∧ 0 ≤ n ∧ sp.toNatClampNeg + n.toNatClampNeg ≤ n0 ∧ dp.toNatClampNeg + n.toNatClampNeg ≤ n1 ∧ st.length ≤ 8 then
          some (none, ls, st, (S.1, sW S.2.1 o1 (va_cpy (S.2.1 o0) (S.2.1 o1) sp.toNatClampNeg dp.toNatClampNeg n.toNatClampNeg), S.2.2)) else none
      | _, _ => none
    | _ => none) else if a = 9004 then (match st with
    | .int y :: .int x :: st => if st.length ≤ 8 then some (none, ls, .int (if x < y then y else x) :: st, S) else none
    | _ => none) else if a = 9005 then (match st with
    | .int y :: .int x :: st => if st.length ≤ 8 then some (none, ls, .int (if y < x then y else x) :: st, S) else none
    | _ => none) else none
  | _ => none
/-- of what kind an instruction is: 0 a plain one, 1 a return of a number, 2 of nothing, 3 a call, 4 one that makes a cell or puts a reference -/
def pKind : pI → Nat
  | (_, .ireturn, _) => 1
  | (_, .return_, _) => 2
  | (_, .invokevirtual _, _) => 3
  | (_, .invokestatic _, a, _) => if a < 9000 then 3 else 0
  | (_, .invokespecial _, a, _) => if a < 9000 then 3 else 0
  | (_, .new _, _) => 4
  | (_, .newarray _, _) => 4
  | (_, .anewarray _, _) => 4
  | (_, .putfield _, _, _, c, _) => if c = 2 then 4 else 0
  | _ => 0
/-- the code from a pc on -/
def pJmp (code : List pI) (pc : Nat) : List pI := code.dropWhile (fun e => e.1 != pc)
def pNext (code is : List pI) : Option Nat → List pI
  | none => is
  | some t => pJmp code t
/-- is the object that is called of the right kind -/
def pRcv (G : List pSh) (r : Nat) (As : List Value) : Bool := if r = 0 then true else match As with
  | .ref o :: _ => match G[o]? with
    | some (.inl (ci, _)) => decide (ci + 1 = r)
    | _ => false
  | .float w :: _ => decide (r = 1000) && decide (w.toNat < 2)
  | _ => false
def pArgs (n : Nat) (st : List Value) : List Value := (st.take n).reverse
def pLs (m : pM) (As : List Value) : List Value := As ++ List.replicate (m.2.1 - m.1) .null
def pPush (b : Nat) (x : Int32) (st : List Value) : List Value := if b = 1 then .int x :: st else st
def pBool (a : Nat) (x : Int32) : Bool := match a with
  | 0 => true
  | 1 => x == 0 || x == 1
  | 2 => decide (narrow .char (.int x) = .int x)
  | _ => decide (narrow .byte (.int x) = .int x)
/-- a run without a new cell: d how deep calls may go, n how many steps at most -/
def exf (P : Nat → pM) (G : List pSh) : Nat → Nat → Nat → List pI → List Value → List Value → pS → Option (Int32 × pS)
  | 0, _, _, _, _, _, _ => none
  | _ + 1, _, _, [], _, _, _ => none
  | n + 1, d, k, e :: is, ls, st, S =>
    match pKind e with
    | 0 => match pStep G ls st S e with
      | none => none
      | some (j, ls', st', S') => exf P G n d k (pNext (P k).2.2.2 is j) ls' st' S'
    | 1 => match st with
      | [.int x] => if pBool e.2.2.1 x then some (x, S) else none
      | _ => none
    | 2 => match st with
      | [] => some (0, S)
      | _ => none
    | 3 => if 0 < d ∧ (P e.2.2.1).1 ≤ st.length ∧ st.length ≤ (P e.2.2.1).1 + 8 ∧ pRcv G (P e.2.2.1).2.2.1 (pArgs (P e.2.2.1).1 st) = true then
        (match exf P G n (d - 1) e.2.2.1 (P e.2.2.1).2.2.2 (pLs (P e.2.2.1) (pArgs (P e.2.2.1).1 st)) [] S with
          | none => none
          | some (x, S') => exf P G n d k is ls (pPush e.2.2.2.1 x (st.drop (P e.2.2.1).1)) S')
        else none
    | _ => none
theorem exf_cons (P : Nat → pM) (G : List pSh) (n d k : Nat) (e : pI) (is : List pI) (ls st : List Value) (S : pS) : exf P G (n + 1) d k (e :: is) ls st S =
    (match pKind e with
    | 0 => (match pStep G ls st S e with
      | none => none
      | some (j, ls', st', S') => exf P G n d k (pNext (P k).2.2.2 is j) ls' st' S')
    | 1 => (match st with
      | [.int x] => if pBool e.2.2.1 x then some (x, S) else none
      | _ => none)
    | 2 => (match st with
      | [] => some (0, S)
      | _ => none)
    | 3 => if 0 < d ∧ (P e.2.2.1).1 ≤ st.length ∧ st.length ≤ (P e.2.2.1).1 + 8 ∧ pRcv G (P e.2.2.1).2.2.1 (pArgs (P e.2.2.1).1 st) = true then
        (match exf P G n (d - 1) e.2.2.1 (P e.2.2.1).2.2.2 (pLs (P e.2.2.1) (pArgs (P e.2.2.1).1 st)) [] S with
          | none => none
          | some (x, S') => exf P G n d k is ls (pPush e.2.2.2.1 x (st.drop (P e.2.2.1).1)) S')
        else none
    | _ => none) := by
  conv => lhs; unfold exf
theorem exf_zero (P : Nat → pM) (G : List pSh) (d k : Nat) (is : List pI) (ls st : List Value) (S : pS) : exf P G 0 d k is ls st S = none := by
  conv => lhs; unfold exf
theorem exf_nil (P : Nat → pM) (G : List pSh) (n d k : Nat) (ls st : List Value) (S : pS) : exf P G n d k [] ls st S = none := by
  cases n with
  | zero => exact exf_zero ..
  | succ n => conv => lhs; unfold exf
