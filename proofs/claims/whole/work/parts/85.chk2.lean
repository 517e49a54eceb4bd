def oHas (x : Cond) : Bool := OLK.any (fun q => decide (q.2.2.1 = x))
theorem oHas_in {x : Cond} (h : oHas x = true) : x ∈ GW := by
  obtain ⟨q, hq, he⟩ := List.any_eq_true.mp h
  rw [← of_decide_eq_true he]
  exact olk_in hq
def fHas (own i b a w : Nat) : Bool := match FLK[w]? with
  | some q => decide (q.1 = own ∧ q.2.1 = i ∧ q.2.2.1 = b ∧ q.2.2.2.1 = a)
  | none => false
theorem fHas_in {own i b a w : Nat} (h : fHas own i b a w = true) : ∃ (C : String) (T : u_T) (N : Nat), cls[b]? = some (C, T, N) ∧ a < N ∧ (∀ w ∈ u_ws C T N, w ∈ GW) ∧ Cond.fieldLink (cnm.getD own "") i (T a).1 (T a).2.1 (T a).2.2.1 ∈ GW := by
  unfold fHas at h
  split at h
  · rename_i q hq
    obtain ⟨rfl, rfl, rfl, rfl⟩ := of_decide_eq_true h
    have h1 := List.all_eq_true.mp flk_all q (List.mem_of_getElem? hq)
    unfold flkOk at h1
    split at h1
    · rename_i C T N hc
      simp only [Bool.and_eq_true, decide_eq_true_eq] at h1
      exact ⟨C, T, N, hc, h1.1, lay_in hc, GW_of h1.2 rfl⟩
    · cases h1
  · cases h
def mHas (own i a nest w : Nat) : Bool := match MLK[w]? with
  | some q => decide (q.1 = own ∧ q.2.1 = i ∧ q.2.2.1 = a ∧ q.2.2.2.1 = nest)
  | none => false
theorem mHas0 {own i a w : Nat} (h : mHas own i a 0 w = true) : Cond.methodLink (cnm.getD own "") i (IN a).1 ∈ GW := by
  unfold mHas at h
  split at h
  · rename_i q hq
    obtain ⟨rfl, rfl, rfl, hn⟩ := of_decide_eq_true h
    have h1 := List.all_eq_true.mp mlk_all q (List.mem_of_getElem? hq)
    unfold mlkOk at h1
    rw [if_pos hn] at h1
    exact GW_of (of_decide_eq_true h1) rfl
  · cases h
theorem mHas1 {own i a w : Nat} (h : mHas own i a 1 w = true) : (cnm.getD own "", i, (IN a).1, "CardDrawer") ∈ pNL := by
  unfold mHas at h
  split at h
  · rename_i q hq
    obtain ⟨rfl, rfl, rfl, hn⟩ := of_decide_eq_true h
    have h1 := List.all_eq_true.mp mlk_all q (List.mem_of_getElem? hq)
    unfold mlkOk at h1
    rw [if_neg (by rw [hn]; decide)] at h1
    exact of_decide_eq_true h1
  · cases h
/-- a plain instruction's row, by reckoning -/
def bE (own : Nat) (bytes : ByteArray) (nL : Nat) (ini : Bool) (nx : Option Nat) : pI → Bool
  | (pc, .nop, _, _, _, _) => decide (nx = some pc)
  | (pc, .iconst i, _, _, c, _) => decide (decode bytes pc = .ok (.iconst i, 1) ∧ Int32.ofInt i = c ∧ nx = some (pc + 1))
  | (pc, .bipush i, _, _, c, _) => decide (decode bytes pc = .ok (.bipush i, 2) ∧ (Int8.ofInt i).toInt32 = c ∧ nx = some (pc + 2))
  | (pc, .sipush i, _, _, c, _) => decide (decode bytes pc = .ok (.sipush i, 3) ∧ (Int16.ofInt i).toInt32 = c ∧ nx = some (pc + 3))
  | (pc, .ldc i, a, b, c, _) => decide (decode bytes pc = .ok (.ldc i, 2) ∧ nx = some (pc + 2)) && ((decide (b = 0) && oHas (.constant (cnm.getD own "") i c)) || decide (b = 1 ∧ own = 9 ∧ ((a = 0 ∧ i = 67) ∨ (a = 1 ∧ i = 56))))
  | (pc, .ldc_w i, _, _, c, _) => decide (decode bytes pc = .ok (.ldc_w i, 3) ∧ nx = some (pc + 3)) && oHas (.constant (cnm.getD own "") i c)
  | (pc, .iload_n k, a, _, _, _) => decide (decode bytes pc = .ok (.iload_n k, 1) ∧ nx = some (pc + 1) ∧ (k : Nat) = a)
  | (pc, .iload k, a, _, _, _) => decide (decode bytes pc = .ok (.iload k, 2) ∧ nx = some (pc + 2) ∧ k = a)
  | (pc, .aload_n k, a, _, _, _) => decide (decode bytes pc = .ok (.aload_n k, 1) ∧ nx = some (pc + 1) ∧ (k : Nat) = a)
  | (pc, .istore_n k, a, _, _, _) => decide (decode bytes pc = .ok (.istore_n k, 1) ∧ nx = some (pc + 1) ∧ (k : Nat) = a ∧ a < nL)
  | (pc, .istore k, a, _, _, _) => decide (decode bytes pc = .ok (.istore k, 2) ∧ nx = some (pc + 2) ∧ k = a ∧ a < nL)
  | (pc, .astore_n k, a, _, _, _) => decide (decode bytes pc = .ok (.astore_n k, 1) ∧ nx = some (pc + 1) ∧ (k : Nat) = a ∧ a < nL)
  | (pc, .iinc k n, a, _, c, _) => decide (decode bytes pc = .ok (.iinc k n, 3) ∧ nx = some (pc + 3) ∧ k = a ∧ a < nL ∧ Int32.ofInt n = c)
  | (pc, .iadd, _, _, _, _) => decide (decode bytes pc = .ok (.iadd, 1) ∧ nx = some (pc + 1))
  | (pc, .isub, _, _, _, _) => decide (decode bytes pc = .ok (.isub, 1) ∧ nx = some (pc + 1))
  | (pc, .imul, _, _, _, _) => decide (decode bytes pc = .ok (.imul, 1) ∧ nx = some (pc + 1))
  | (pc, .iand, _, _, _, _) => decide (decode bytes pc = .ok (.iand, 1) ∧ nx = some (pc + 1))
  | (pc, .ior, _, _, _, _) => decide (decode bytes pc = .ok (.ior, 1) ∧ nx = some (pc + 1))
  | (pc, .ixor, _, _, _, _) => decide (decode bytes pc = .ok (.ixor, 1) ∧ nx = some (pc + 1))
  | (pc, .ishl, _, _, _, _) => decide (decode bytes pc = .ok (.ishl, 1) ∧ nx = some (pc + 1))
  | (pc, .ishr, _, _, _, _) => decide (decode bytes pc = .ok (.ishr, 1) ∧ nx = some (pc + 1))
  | (pc, .idiv, _, _, _, _) => decide (decode bytes pc = .ok (.idiv, 1) ∧ nx = some (pc + 1))
  | (pc, .irem, _, _, _, _) => decide (decode bytes pc = .ok (.irem, 1) ∧ nx = some (pc + 1))
  | (pc, .iushr, _, _, _, _) => decide (decode bytes pc = .ok (.iushr, 1) ∧ nx = some (pc + 1))
  | (pc, .i2c, _, _, _, _) => decide (decode bytes pc = .ok (.i2c, 1) ∧ nx = some (pc + 1))
  | (pc, .i2b, _, _, _, _) => decide (decode bytes pc = .ok (.i2b, 1) ∧ nx = some (pc + 1))
  | (pc, .dup, _, _, _, _) => decide (decode bytes pc = .ok (.dup, 1) ∧ nx = some (pc + 1))
  | (pc, .dup2, _, _, _, _) => decide (decode bytes pc = .ok (.dup2, 1) ∧ nx = some (pc + 1))
  | (pc, .pop, _, _, _, _) => decide (decode bytes pc = .ok (.pop, 1) ∧ nx = some (pc + 1))
  | (pc, .iaload, _, _, _, _) => decide (decode bytes pc = .ok (.iaload, 1) ∧ nx = some (pc + 1))
  | (pc, .iastore, _, _, _, _) => decide (decode bytes pc = .ok (.iastore, 1) ∧ nx = some (pc + 1))
  | (pc, .arraylength, _, _, _, _) => decide (decode bytes pc = .ok (.arraylength, 1) ∧ nx = some (pc + 1))
  | (pc, .aaload, _, _, _, _) => decide (decode bytes pc = .ok (.aaload, 1) ∧ nx = some (pc + 1))
  | (pc, .baload, _, _, _, _) => decide (decode bytes pc = .ok (.baload, 1) ∧ nx = some (pc + 1))
  | (pc, .aastore, _, b, _, _) => decide (decode bytes pc = .ok (.aastore, 1) ∧ nx = some (pc + 1) ∧ b = 3)
  | (pc, .goto off, a, _, _, _) => decide (decode bytes pc = .ok (.goto off, 3) ∧ (pc : Int) + off = (a : Int))
  | (pc, .ifCond co off, a, _, _, _) => decide (decode bytes pc = .ok (.ifCond co off, 3) ∧ nx = some (pc + 3) ∧ (pc : Int) + off = (a : Int))
  | (pc, .if_icmp co off, a, _, _, _) => decide (decode bytes pc = .ok (.if_icmp co off, 3) ∧ nx = some (pc + 3) ∧ (pc : Int) + off = (a : Int))
  | (pc, .tableswitch d lo hi offs, _, _, _, w) => decide (decode bytes pc = .ok (.tableswitch d lo hi offs, w)) && decide (0 ≤ (pc : Int) + d ∧ (∀ o ∈ offs.toList, 0 ≤ (pc : Int) + o) ∧ hi = lo + offs.toList.length - 1 ∧ -2147483648 ≤ lo ∧ hi ≤ 2147483647)
  | (pc, .lookupswitch d ps, _, _, _, w) => decide (decode bytes pc = .ok (.lookupswitch d ps, w)) && decide ((ps.toList.zip (ps.toList.drop 1)).all (fun (a, next) => a.1 < next.1) = true ∧ 0 ≤ (pc : Int) + d ∧ ∀ q ∈ ps.toList, 0 ≤ (pc : Int) + q.2 ∧ -2147483648 ≤ q.1 ∧ q.1 ≤ 2147483647)
  | (_, .athrow, _, _, _, _) => true
  | (pc, .getstatic i, a, _, _, _) => decide (decode bytes pc = .ok (.getstatic i, 3) ∧ nx = some (pc + 3)) && ((decide (a = 0) && oHas (.fieldLink (cnm.getD own "") i "java/lang/String" "COMPACT_STRINGS" "Z")) || (decide (a = 1) && oHas (.fieldLink (cnm.getD own "") i "jdk/internal/util/Preconditions" "SIOOBE_FORMATTER" "Ljava/util/function/BiFunction;")))
  | (pc, .getfield i, a, b, _, w) => decide (decode bytes pc = .ok (.getfield i, 3) ∧ nx = some (pc + 3)) && ((decide (b = 100) && ((decide (a = 0) && oHas (.fieldLink (cnm.getD own "") i "java/lang/String" "value" "[B")) || (decide (a = 1) && oHas (.fieldLink (cnm.getD own "") i "java/lang/String" "coder" "B")))) || (decide (b < 100) && fHas own i b a w))
  | (pc, .putfield i, a, b, c, w) => decide (decode bytes pc = .ok (.putfield i, 3) ∧ nx = some (pc + 3)) && (fHas own i b a w && (match cls[b]?, yCs[b]? with
    | some (_, T, _), some y => ((decide (c = 0 ∧ y a = .int) || decide (c = 1 ∧ y a = .boolean)) || (decide (c = 2) && (match y a with
      | .object _ => true
      | .array _ => true
      | _ => false))) && (decide ((T a).2.2.2 = false) || decide ((T a).2.2.2 = true ∧ ini = true ∧ (T a).1 = cnm.getD own ""))
    | _, _ => false))
  | (pc, .invokespecial i, a, _, _, _) => decide (a = 9000 ∧ decode bytes pc = .ok (.invokespecial i, 3) ∧ nx = some (pc + 3)) && oHas (.methodLink (cnm.getD own "") i Lib.objectInit)
  | (pc, .invokestatic i, a, _, _, _) => decide (decode bytes pc = .ok (.invokestatic i, 3) ∧ nx = some (pc + 3)) && ((decide (a = 9001) && oHas (.methodLink (cnm.getD own "") i arraycopyName)) || (decide (a = 9004) && oHas (.methodLink (cnm.getD own "") i Lib.Math.max.name)) || (decide (a = 9005) && oHas (.methodLink (cnm.getD own "") i Lib.Math.min.name)))
  | _ => false
theorem o_words : Cond.instanceMethod Lib.objectInit ∈ GW ∧ Cond.code Lib.objectInit ⟨#[0xb1]⟩ 1 none ∈ GW ∧ Cond.native arraycopyName ∈ GW ∧ Cond.static arraycopyName ∈ GW ∧ Cond.initialized "java/lang/System" ∈ GW ∧ Cond.static Lib.Math.max.name ∈ GW ∧ Cond.static Lib.Math.min.name ∈ GW ∧ Cond.initialized "java/lang/Math" ∈ GW ∧ Cond.code Lib.Math.max.name Lib.Math.max.code 2 (some .int) ∈ GW ∧ Cond.code Lib.Math.min.name Lib.Math.min.code 2 (some .int) ∈ GW :=
  ⟨oHas_in (by decide +kernel), oHas_in (by decide +kernel), oHas_in (by decide +kernel), oHas_in (by decide +kernel), oHas_in (by decide +kernel), oHas_in (by decide +kernel), oHas_in (by decide +kernel), oHas_in (by decide +kernel), oHas_in (by decide +kernel), oHas_in (by decide +kernel)⟩
set_option maxHeartbeats 2000000 in
theorem bE_ok {tys : List (ClassId × FieldType)} {cD : ClassId} (ht : tys[1]? = some (cD, .object "CardDrawer$Drawer")) {own : Nat} {bytes : ByteArray} {nL : Nat} {ini : Bool} {nx : Option Nat} {e : pI} (h : bE own bytes nL ini nx e = true) : EOk cls tys cD GW (cnm.getD own "") bytes nL ini nx e := by
  obtain ⟨pc, ins, a, b, c, w⟩ := e
  cases ins with
  | ldc i =>
    simp only [bE, Bool.and_eq_true, Bool.or_eq_true, decide_eq_true_eq] at h
    obtain ⟨⟨h1, h2⟩, ⟨h3, h4⟩ | ⟨h3, rfl, h5⟩⟩ := h
    · exact ⟨h1, h2, Or.inl ⟨h3, oHas_in h4⟩⟩
    · exact ⟨h1, h2, Or.inr ⟨h3, rfl, h5⟩⟩
  | ldc_w i =>
    simp only [bE, Bool.and_eq_true, decide_eq_true_eq] at h
    exact ⟨h.1.1, h.1.2, oHas_in h.2⟩
  | aastore =>
    simp only [bE, decide_eq_true_eq] at h
    obtain ⟨h1, h2, h3⟩ := h
    subst h3
    exact ⟨h1, h2, _, rfl, ht⟩
  | tableswitch d lo hi offs =>
    simp only [bE, Bool.and_eq_true, decide_eq_true_eq] at h
    exact ⟨⟨w, h.1⟩, h.2⟩
  | lookupswitch d ps =>
    simp only [bE, Bool.and_eq_true] at h
    have h2 := of_decide_eq_true h.2
    exact ⟨⟨w, of_decide_eq_true h.1⟩, h2.1, h2.2.1, h2.2.2⟩
  | athrow => exact trivial
  | getstatic i =>
    simp only [bE, Bool.and_eq_true, Bool.or_eq_true, decide_eq_true_eq] at h
    obtain ⟨⟨h1, h2⟩, ⟨h3, h4⟩ | ⟨h3, h4⟩⟩ := h
    · exact ⟨h1, h2, Or.inl ⟨h3, oHas_in h4⟩⟩
    · exact ⟨h1, h2, Or.inr ⟨h3, oHas_in h4⟩⟩
  | getfield i =>
    simp only [bE, Bool.and_eq_true, Bool.or_eq_true, decide_eq_true_eq] at h
    obtain ⟨⟨h1, h2⟩, ⟨h3, ⟨h4, h5⟩ | ⟨h4, h5⟩⟩ | ⟨h3, h4⟩⟩ := h
    · exact ⟨h1, h2, Or.inl ⟨h3, Or.inl ⟨h4, oHas_in h5⟩⟩⟩
    · exact ⟨h1, h2, Or.inl ⟨h3, Or.inr ⟨h4, oHas_in h5⟩⟩⟩
    · exact ⟨h1, h2, Or.inr ⟨h3, fHas_in h4⟩⟩
  | putfield i =>
    simp only [bE, Bool.and_eq_true, decide_eq_true_eq] at h
    obtain ⟨⟨h1, h2⟩, h3, h4⟩ := h
    obtain ⟨C, T, N, hc, hN, hin, hlk⟩ := fHas_in h3
    obtain ⟨y, hy, hy1, hy2⟩ := ty_of hc
    rw [hc, hy] at h4
    simp only [Bool.and_eq_true, Bool.or_eq_true, decide_eq_true_eq] at h4
    refine ⟨h1, h2, C, T, N, y, hc, hN, hin, hlk, hy1, hy2, ?_, h4.2⟩
    rcases h4.1 with (h5 | h5) | ⟨h5, h6⟩
    · exact Or.inl h5
    · exact Or.inr (Or.inl h5)
    · refine Or.inr (Or.inr ⟨h5, ?_⟩)
      split at h6
      · rename_i n hn; exact Or.inl ⟨n, hn⟩
      · rename_i n hn; exact Or.inr ⟨n, hn⟩
      · cases h6
  | invokespecial i =>
    simp only [bE, Bool.and_eq_true, decide_eq_true_eq] at h
    obtain ⟨⟨h1, h2, h3⟩, h4⟩ := h
    exact ⟨h1, h2, h3, oHas_in h4, o_words.1, o_words.2.1⟩
  | invokestatic i =>
    simp only [bE, Bool.and_eq_true, Bool.or_eq_true, decide_eq_true_eq] at h
    obtain ⟨w1, w2, w3, w4, w5, w6, w7, w8, w9, w10⟩ := o_words
    obtain ⟨⟨h1, h2⟩, (⟨h3, h4⟩ | ⟨h3, h4⟩) | ⟨h3, h4⟩⟩ := h
    · exact ⟨h1, h2, Or.inl ⟨h3, oHas_in h4, w3, w4, w5⟩⟩
    · exact ⟨h1, h2, Or.inr (Or.inl ⟨h3, oHas_in h4, w6, w8, w9⟩)⟩
    · exact ⟨h1, h2, Or.inr (Or.inr ⟨h3, oHas_in h4, w7, w8, w10⟩)⟩
  | _ => first | (simp only [bE, decide_eq_true_eq] at h; exact h) | (simp [bE] at h; done)
def bRt (b : Nat) (r : Option FieldType) : Bool := match r with
  | none => decide (b = 0)
  | some _ => decide (b = 1)
theorem bRt_ok {b : Nat} {r : Option FieldType} (h : bRt b r = true) : rtOk b r := by
  cases r with
  | none => exact Or.inr ⟨of_decide_eq_true h, rfl⟩
  | some ty => exact Or.inl ⟨of_decide_eq_true h, ty, rfl⟩
def bC (own : Nat) (bytes : ByteArray) (nx : Option Nat) : pI → Bool
  | (pc, .invokevirtual i, a, b, _, w) => decide (decode bytes pc = .ok (.invokevirtual i, 3) ∧ nx = some (pc + 3)) && (bRt b (IN a).2.2.2.1 && (decide ((IN a).2.2.2.2 = 0) && mHas own i a 0 w))
  | (pc, .invokestatic i, a, b, _, w) => decide (decode bytes pc = .ok (.invokestatic i, 3) ∧ nx = some (pc + 3)) && (bRt b (IN a).2.2.2.1 && (decide ((IN a).2.2.2.2 = 1) && (mHas own i a 0 w || mHas own i a 1 w)))
  | _ => false
theorem bC_ok {own : Nat} {bytes : ByteArray} {nx : Option Nat} {e : pI} (h : bC own bytes nx e = true) : COk GW IN (cnm.getD own "") bytes nx e := by
  obtain ⟨pc, ins, a, b, c, w⟩ := e
  cases ins with
  | invokevirtual i =>
    simp only [bC, Bool.and_eq_true, decide_eq_true_eq] at h
    exact ⟨h.1.1, h.1.2, bRt_ok h.2.1, h.2.2.1, mHas0 h.2.2.2⟩
  | invokestatic i =>
    simp only [bC, Bool.and_eq_true, Bool.or_eq_true, decide_eq_true_eq] at h
    refine ⟨h.1.1, h.1.2, bRt_ok h.2.1, h.2.2.1, ?_⟩
    rcases h.2.2.2 with h | h
    · exact Or.inl (mHas0 h)
    · exact Or.inr ⟨_, mHas1 h⟩
  | _ => simp [bC] at h
def bRr (bytes : ByteArray) (ret : Option FieldType) : pI → Bool
  | (pc, .ireturn, a, _, _, _) => decide (decode bytes pc = .ok (.ireturn, 1) ∧ ((a = 0 ∧ ret = some .int) ∨ (a = 1 ∧ ret = some .boolean) ∨ (a = 2 ∧ ret = some .char) ∨ (a = 3 ∧ ret = some .byte)))
  | (pc, .return_, _, _, _, _) => decide (decode bytes pc = .ok (.return_, 1) ∧ ret = none)
  | _ => false
theorem bRr_ok {bytes : ByteArray} {ret : Option FieldType} {e : pI} (h : bRr bytes ret e = true) : ROk bytes ret e := by
  obtain ⟨pc, ins, a, b, c, w⟩ := e
  cases ins with
  | ireturn => simp only [bRr, decide_eq_true_eq] at h; exact h
  | return_ => simp only [bRr, decide_eq_true_eq] at h; exact h
  | _ => simp [bRr] at h
/-- a row of a method; what makes a cell or calls a constructor is looked at elsewhere -/
def bA (k : Nat) (nx : Option Nat) (e : pI) : Bool := match pKind e with
  | 0 => bE (IRo k).1 (IN k).2.1 (IN k).2.2.1 (decide ((IN k).1.name = "<init>")) nx e
  | 1 => bRr (IN k).2.1 (IN k).2.2.2.1 e
  | 2 => bRr (IN k).2.1 (IN k).2.2.2.1 e
  | 3 => bC (IRo k).1 (IN k).2.1 nx e
  | _ => false
theorem bA_ok {tys : List (ClassId × FieldType)} {cD : ClassId} (ht : tys[1]? = some (cD, .object "CardDrawer$Drawer")) {k : Nat} {nx : Option Nat} {e : pI} (h : bA k nx e = true) : AOk IN GW cls tys cD k nx e := by
  unfold bA at h
  refine ⟨fun hk => ?_, fun hk => ?_, fun hk => ?_⟩
  · rw [hk] at h; exact bE_ok ht h
  · rcases hk with hk | hk <;> (rw [hk] at h; exact bRr_ok h)
  · rw [hk] at h; exact bC_ok h
def bL (k : Nat) : List pI → Bool
  | [] => true
  | e :: is => bA k (is.head?.map (·.1)) e && bL k is
theorem bL_ok {tys : List (ClassId × FieldType)} {cD : ClassId} (ht : tys[1]? = some (cD, .object "CardDrawer$Drawer")) {k : Nat} : ∀ {is : List pI}, bL k is = true → LOk IN GW cls tys cD k is
  | [], _ => trivial
  | e :: is, h => by
    simp only [bL, Bool.and_eq_true] at h
    exact ⟨bA_ok ht h.1, bL_ok ht h.2⟩
/-- a method's words -/
def bM (k : Nat) : Bool :=
  decide (tbw (IRo k).2.2.2.2.2.2.2.1 = some (.code (IN k).1 (IN k).2.1 (IN k).2.2.1 (IN k).2.2.2.1)) && (decide (tbw (IRo k).2.2.2.2.2.2.2.2.2.2 = some (.initialized (IN k).1.cls)) && (plainName (IN k).1.cls && (decide ((IN k).1.cls ≠ "java/lang/invoke/MethodHandle" ∧ (IN k).1.cls ≠ "java/lang/invoke/VarHandle") &&
  (decide ((IN k).2.2.1 ≤ 300 ∧ (PT k).2.1 = (IN k).2.2.1 ∧ (PT k).1 ≤ (PT k).2.1 ∧ (PT k).2.2.2.head?.map (·.1) = some 0) &&
  (match (IN k).2.2.2.2 with
  | 0 => decide ((parseMethodDescriptor (IN k).1.desc).map (fun d => d.parameters.length + 1) = some (PT k).1) && (decide (tbw (IRo k).2.2.2.2.2.2.2.2.1 = some (.instanceMethod (IN k).1)) && (decide (tbw (IRo k).2.2.2.2.2.2.2.2.2.1 = some (.selects (IN k).1.cls (IN k).1 (IN k).1)) && ((decide ((PT k).2.2.1 = (IRo k).1 + 1) && decide ((IRo k).1 < 13)) || decide ((PT k).2.2.1 = 1000 ∧ (IN k).1.cls = "java/lang/String"))))
  | 1 => decide ((parseMethodDescriptor (IN k).1.desc).map (fun d => d.parameters.length) = some (PT k).1) && decide (tbw (IRo k).2.2.2.2.2.2.2.2.1 = some (.static (IN k).1))
  | _ => decide ((IN k).2.2.2.2 = 2 ∧ (parseMethodDescriptor (IN k).1.desc).map (fun d => d.parameters.length + 1) = some (PT k).1 ∧ (IN k).1.name = "<init>") && decide (tbw (IRo k).2.2.2.2.2.2.2.2.1 = some (.instanceMethod (IN k).1)))))))
theorem cls_at {o : Nat} (h : o < 13) : ∃ T N, cls[o]? = some (cnm.getD o "", T, N) := by
  have : o = 0 ∨ o = 1 ∨ o = 2 ∨ o = 3 ∨ o = 4 ∨ o = 5 ∨ o = 6 ∨ o = 7 ∨ o = 8 ∨ o = 9 ∨ o = 10 ∨ o = 11 ∨ o = 12 := by omega
  rcases this with rfl | rfl | rfl | rfl | rfl | rfl | rfl | rfl | rfl | rfl | rfl | rfl | rfl <;> exact ⟨_, _, rfl⟩
theorem bM_ok {tys : List (ClassId × FieldType)} {cD : ClassId} {k : Nat} (h : bM k = true) (hL : LOk IN GW cls tys cD k (PT k).2.2.2) : MOk PT IN GW cls tys cD k := by
  simp only [bM, Bool.and_eq_true, decide_eq_true_eq] at h
  obtain ⟨h1, h2, h3, h4, ⟨h5, h6, h7, h8⟩, h9⟩ := h
  refine ⟨GW_of h1 rfl, GW_of h2 rfl, h3, h4, h5, h6, h7, h8, hL, ?_⟩
  split at h9
  · rename_i hk
    simp only [Bool.and_eq_true, Bool.or_eq_true, decide_eq_true_eq] at h9
    obtain ⟨g1, g2, g3, g4⟩ := h9
    refine Or.inl ⟨hk, g1, GW_of g2 rfl, GW_of g3 rfl, ?_⟩
    rcases g4 with ⟨g4, g5⟩ | g4
    · obtain ⟨T, N, hc⟩ := cls_at g5
      exact Or.inl ⟨(IRo k).1, T, N, g4, by omega, hc⟩
    · exact Or.inr g4
  · rename_i hk
    simp only [Bool.and_eq_true, decide_eq_true_eq] at h9
    exact Or.inr (Or.inl ⟨hk, h9.1, GW_of h9.2 rfl⟩)
  · simp only [Bool.and_eq_true, decide_eq_true_eq] at h9
    obtain ⟨⟨g1, g2, g3⟩, g4⟩ := h9
    exact Or.inr (Or.inr ⟨g1, g2, GW_of g4 rfl, g3⟩)
