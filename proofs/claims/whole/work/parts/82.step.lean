/-- what a plain instruction's row asks for: its bytes, what was looked up, where it goes on -/
def EOk (cl : List vw_C) (tys : List (ClassId × FieldType)) (cD : ClassId) (GW : List Cond) (own : String) (bytes : ByteArray) (nL : Nat) (ini : Bool) (nx : Option Nat) : pI → Prop
  | (pc, .nop, _, _, _, _) => nx = some pc
  | (pc, .iconst i, _, _, c, _) => decode bytes pc = .ok (.iconst i, 1) ∧ Int32.ofInt i = c ∧ nx = some (pc + 1)
  | (pc, .bipush i, _, _, c, _) => decode bytes pc = .ok (.bipush i, 2) ∧ (Int8.ofInt i).toInt32 = c ∧ nx = some (pc + 2)
  | (pc, .sipush i, _, _, c, _) => decode bytes pc = .ok (.sipush i, 3) ∧ (Int16.ofInt i).toInt32 = c ∧ nx = some (pc + 3)
  | (pc, .ldc i, a, b, c, _) => decode bytes pc = .ok (.ldc i, 2) ∧ nx = some (pc + 2) ∧ ((b = 0 ∧ Cond.constant own i c ∈ GW) ∨ (b = 1 ∧ own = "CardDrawer$Tape" ∧ ((a = 0 ∧ i = 67) ∨ (a = 1 ∧ i = 56))))
  | (pc, .ldc_w i, _, _, c, _) => decode bytes pc = .ok (.ldc_w i, 3) ∧ nx = some (pc + 3) ∧ Cond.constant own i c ∈ GW
  | (pc, .iload_n k, a, _, _, _) => decode bytes pc = .ok (.iload_n k, 1) ∧ nx = some (pc + 1) ∧ (k : Nat) = a
  | (pc, .iload k, a, _, _, _) => decode bytes pc = .ok (.iload k, 2) ∧ nx = some (pc + 2) ∧ k = a
  | (pc, .aload_n k, a, _, _, _) => decode bytes pc = .ok (.aload_n k, 1) ∧ nx = some (pc + 1) ∧ (k : Nat) = a
  | (pc, .istore_n k, a, _, _, _) => decode bytes pc = .ok (.istore_n k, 1) ∧ nx = some (pc + 1) ∧ (k : Nat) = a ∧ a < nL
  | (pc, .istore k, a, _, _, _) => decode bytes pc = .ok (.istore k, 2) ∧ nx = some (pc + 2) ∧ k = a ∧ a < nL
  | (pc, .astore_n k, a, _, _, _) => decode bytes pc = .ok (.astore_n k, 1) ∧ nx = some (pc + 1) ∧ (k : Nat) = a ∧ a < nL
  | (pc, .iinc k n, a, _, c, _) => decode bytes pc = .ok (.iinc k n, 3) ∧ nx = some (pc + 3) ∧ k = a ∧ a < nL ∧ Int32.ofInt n = c
  | (pc, .iadd, _, _, _, _) => decode bytes pc = .ok (.iadd, 1) ∧ nx = some (pc + 1)
  | (pc, .isub, _, _, _, _) => decode bytes pc = .ok (.isub, 1) ∧ nx = some (pc + 1)
  | (pc, .imul, _, _, _, _) => decode bytes pc = .ok (.imul, 1) ∧ nx = some (pc + 1)
  | (pc, .iand, _, _, _, _) => decode bytes pc = .ok (.iand, 1) ∧ nx = some (pc + 1)
  | (pc, .ior, _, _, _, _) => decode bytes pc = .ok (.ior, 1) ∧ nx = some (pc + 1)
  | (pc, .ixor, _, _, _, _) => decode bytes pc = .ok (.ixor, 1) ∧ nx = some (pc + 1)
  | (pc, .ishl, _, _, _, _) => decode bytes pc = .ok (.ishl, 1) ∧ nx = some (pc + 1)
  | (pc, .ishr, _, _, _, _) => decode bytes pc = .ok (.ishr, 1) ∧ nx = some (pc + 1)
  | (pc, .idiv, _, _, _, _) => decode bytes pc = .ok (.idiv, 1) ∧ nx = some (pc + 1)
  | (pc, .irem, _, _, _, _) => decode bytes pc = .ok (.irem, 1) ∧ nx = some (pc + 1)
  | (pc, .iushr, _, _, _, _) => decode bytes pc = .ok (.iushr, 1) ∧ nx = some (pc + 1)
  | (pc, .i2c, _, _, _, _) => decode bytes pc = .ok (.i2c, 1) ∧ nx = some (pc + 1)
  | (pc, .dup, _, _, _, _) => decode bytes pc = .ok (.dup, 1) ∧ nx = some (pc + 1)
  | (pc, .dup2, _, _, _, _) => decode bytes pc = .ok (.dup2, 1) ∧ nx = some (pc + 1)
  | (pc, .pop, _, _, _, _) => decode bytes pc = .ok (.pop, 1) ∧ nx = some (pc + 1)
  | (pc, .iaload, _, _, _, _) => decode bytes pc = .ok (.iaload, 1) ∧ nx = some (pc + 1)
  | (pc, .iastore, _, _, _, _) => decode bytes pc = .ok (.iastore, 1) ∧ nx = some (pc + 1)
  | (pc, .arraylength, _, _, _, _) => decode bytes pc = .ok (.arraylength, 1) ∧ nx = some (pc + 1)
  | (pc, .aaload, _, _, _, _) => decode bytes pc = .ok (.aaload, 1) ∧ nx = some (pc + 1)
  | (pc, .baload, _, _, _, _) => decode bytes pc = .ok (.baload, 1) ∧ nx = some (pc + 1)
  | (pc, .i2b, _, _, _, _) => decode bytes pc = .ok (.i2b, 1) ∧ nx = some (pc + 1)
  | (pc, .aastore, _, b, _, _) => decode bytes pc = .ok (.aastore, 1) ∧ nx = some (pc + 1) ∧ ∃ r, cl[b]? = some r ∧ tys[1]? = some (cD, .object r.1)
  | (pc, .goto off, a, _, _, _) => decode bytes pc = .ok (.goto off, 3) ∧ (pc : Int) + off = (a : Int)
  | (pc, .ifCond co off, a, _, _, _) => decode bytes pc = .ok (.ifCond co off, 3) ∧ nx = some (pc + 3) ∧ (pc : Int) + off = (a : Int)
  | (pc, .if_icmp co off, a, _, _, _) => decode bytes pc = .ok (.if_icmp co off, 3) ∧ nx = some (pc + 3) ∧ (pc : Int) + off = (a : Int)
  | (pc, .tableswitch d lo hi offs, _, _, _, _) => (∃ len, decode bytes pc = .ok (.tableswitch d lo hi offs, len)) ∧ 0 ≤ (pc : Int) + d ∧ (∀ o ∈ offs.toList, 0 ≤ (pc : Int) + o) ∧ hi = lo + offs.toList.length - 1 ∧ -2147483648 ≤ lo ∧ hi ≤ 2147483647
  | (pc, .lookupswitch d ps, _, _, _, _) => (∃ len, decode bytes pc = .ok (.lookupswitch d ps, len)) ∧ (ps.toList.zip (ps.toList.drop 1)).all (fun (a, next) => a.1 < next.1) = true ∧ 0 ≤ (pc : Int) + d ∧ ∀ q ∈ ps.toList, 0 ≤ (pc : Int) + q.2 ∧ -2147483648 ≤ q.1 ∧ q.1 ≤ 2147483647
  | (_, .athrow, _, _, _, _) => True
  | (pc, .getstatic i, a, _, _, _) => decode bytes pc = .ok (.getstatic i, 3) ∧ nx = some (pc + 3) ∧ ((a = 0 ∧ Cond.fieldLink own i "java/lang/String" "COMPACT_STRINGS" "Z" ∈ GW) ∨ (a = 1 ∧ Cond.fieldLink own i "jdk/internal/util/Preconditions" "SIOOBE_FORMATTER" "Ljava/util/function/BiFunction;" ∈ GW))
  | (pc, .getfield i, a, b, _, _) => decode bytes pc = .ok (.getfield i, 3) ∧ nx = some (pc + 3) ∧ ((b = 100 ∧ ((a = 0 ∧ Cond.fieldLink own i "java/lang/String" "value" "[B" ∈ GW) ∨ (a = 1 ∧ Cond.fieldLink own i "java/lang/String" "coder" "B" ∈ GW))) ∨ (b < 100 ∧ ∃ (C : String) (T : u_T) (N : Nat), cl[b]? = some (C, T, N) ∧ a < N ∧ (∀ w ∈ u_ws C T N, w ∈ GW) ∧ Cond.fieldLink own i (T a).1 (T a).2.1 (T a).2.2.1 ∈ GW))
  | (pc, .putfield i, a, b, c, _) => decode bytes pc = .ok (.putfield i, 3) ∧ nx = some (pc + 3) ∧ ∃ (C : String) (T : u_T) (N : Nat) (ty : Nat → FieldType), cl[b]? = some (C, T, N) ∧ a < N ∧ (∀ w ∈ u_ws C T N, w ∈ GW) ∧ Cond.fieldLink own i (T a).1 (T a).2.1 (T a).2.2.1 ∈ GW ∧ (∀ k, k < N → parseFieldDescriptor (T k).2.2.1 = some (ty k)) ∧ (∀ x, x < N → ∀ y, y < N → x ≠ y → (T x).2.1 ≠ (T y).2.1) ∧ ((c = 0 ∧ ty a = .int) ∨ (c = 1 ∧ ty a = .boolean) ∨ (c = 2 ∧ ((∃ n, ty a = .object n) ∨ ∃ t, ty a = .array t))) ∧ ((T a).2.2.2 = false ∨ ((T a).2.2.2 = true ∧ ini = true ∧ (T a).1 = own))
  | (pc, .invokespecial i, a, _, _, _) => a = 9000 ∧ decode bytes pc = .ok (.invokespecial i, 3) ∧ nx = some (pc + 3) ∧ Cond.methodLink own i Lib.objectInit ∈ GW ∧ Cond.instanceMethod Lib.objectInit ∈ GW ∧ Cond.code Lib.objectInit ⟨#[0xb1]⟩ 1 none ∈ GW
  | (pc, .invokestatic i, a, _, _, _) => decode bytes pc = .ok (.invokestatic i, 3) ∧ nx = some (pc + 3) ∧ ((a = 9001 ∧ Cond.methodLink own i arraycopyName ∈ GW ∧ Cond.native arraycopyName ∈ GW ∧ Cond.static arraycopyName ∈ GW ∧ Cond.initialized "java/lang/System" ∈ GW) ∨
      (a = 9004 ∧ Cond.methodLink own i Lib.Math.max.name ∈ GW ∧ Cond.static Lib.Math.max.name ∈ GW ∧ Cond.initialized "java/lang/Math" ∈ GW ∧ Cond.code Lib.Math.max.name Lib.Math.max.code 2 (some .int) ∈ GW) ∨
      (a = 9005 ∧ Cond.methodLink own i Lib.Math.min.name ∈ GW ∧ Cond.static Lib.Math.min.name ∈ GW ∧ Cond.initialized "java/lang/Math" ∈ GW ∧ Cond.code Lib.Math.min.name Lib.Math.min.code 2 (some .int) ∈ GW))
  | _ => False
def pLen : List Nat := [144, 10]
def pByt : List (List Int32) := [pTx 0, pTx 1]
/-- links to private members of nest mates -/
def pNL : List (String × Nat × MethodName × String) := [("CardDrawer", 9, ⟨"CardDrawer$Drawer", "<init>", "()V"⟩, "CardDrawer"), ("CardDrawer$Told", 11, ⟨"CardDrawer$Law", "<init>", "()V"⟩, "CardDrawer"), ("CardDrawer$History", 19, ⟨"CardDrawer$Drawer", "<init>", "()V"⟩, "CardDrawer"), ("CardDrawer", 56, ⟨"CardDrawer$Tape", "<init>", "()V"⟩, "CardDrawer"), ("CardDrawer$Reader", 11, ⟨"CardDrawer$Law", "<init>", "()V"⟩, "CardDrawer"), ("CardDrawer$Drawer", 47, ⟨"CardDrawer", "within", "(II)Z"⟩, "CardDrawer"), ("CardDrawer$Drawer", 43, ⟨"CardDrawer", "holdsBit", "(II)Z"⟩, "CardDrawer"), ("CardDrawer$Keeper", 45, ⟨"CardDrawer", "holdsBit", "(II)Z"⟩, "CardDrawer"), ("CardDrawer$Rows", 22, ⟨"CardDrawer", "within", "(II)Z"⟩, "CardDrawer"), ("CardDrawer$Reader", 47, ⟨"CardDrawer", "within", "(II)Z"⟩, "CardDrawer"), ("CardDrawer$Told", 66, ⟨"CardDrawer", "within", "(II)Z"⟩, "CardDrawer"), ("CardDrawer$Circle", 32, ⟨"CardDrawer", "within", "(II)Z"⟩, "CardDrawer"), ("CardDrawer$Circle", 36, ⟨"CardDrawer", "holdsBit", "(II)Z"⟩, "CardDrawer"), ("CardDrawer$Chooser", 98, ⟨"CardDrawer", "holdsBit", "(II)Z"⟩, "CardDrawer")]
/-- what a state holds of the constant texts, of two statics, of the nest mates' links -/
def pX (tk : pTk) (A : Nat → Prop) (U : State) : Prop :=
  vk_S 2 pLen pByt tk.1 tk.2.1 A U U.heap ∧ vk_R "CardDrawer$Tape" 67 "holds dust  worth when  or    and   not   personfirm  trade year  bent  worn  rung  age   now   by    from  to    in    throw ring  bend  find  " (tk.1 0) U ∧ vk_R "CardDrawer$Tape" 56 ";+-*/()<=>" (tk.1 1) U ∧
  va_Z "java/lang/String" "COMPACT_STRINGS" "Z" (.int 1) A U U.heap ∧ va_Z "jdk/internal/util/Preconditions" "SIOOBE_FORMATTER" "Ljava/util/function/BiFunction;" (va_rf tk.2.2) A U U.heap ∧ (∀ q ∈ pNL, va_Nw (.methodLinkNest q.1 q.2.1 q.2.2.1 q.2.2.2) U) ∧ va_AO "CardDrawer$Drawer" U
theorem pX.call {tk : pTk} {A A' : Nat → Prop} {s U : State} (h : pX tk A s) (hW : s.WarmedH U.vm) (hq : ∀ q, q < s.heap.size → ¬ A q → U.heap[q]? = s.heap[q]?) (hA : ∀ q, A' q → A q) : pX tk A' U :=
  ⟨((h.1.moved hW.alike).kept hq).narrow hA, h.2.1.warm hW, h.2.2.1.warm hW, ((h.2.2.2.1.moved hW.alike).kept hq).narrow hA, ((h.2.2.2.2.1.moved hW.alike).kept hq).narrow hA, fun q hq => (h.2.2.2.2.2.1 q hq).warmM hW, h.2.2.2.2.2.2.moved hW.alike⟩
theorem pX.blind {tk : pTk} {A : Nat → Prop} {U : State} {g : JFrame} {mk : MethodId} {a : Array Value} (h : pX tk A U) : pX tk A (U.calling g mk a) :=
  ⟨vk_S.moved (u := U) (U := U.calling g mk a) (Vm.Alike.refl U.vm) h.1, vk_R.same (u := U) (U := U.calling g mk a) rfl h.2.1, vk_R.same (u := U) (U := U.calling g mk a) rfl h.2.2.1, va_Z.moved (u := U) (U := U.calling g mk a) (Vm.Alike.refl U.vm) h.2.2.2.1, va_Z.moved (u := U) (U := U.calling g mk a) (Vm.Alike.refl U.vm) h.2.2.2.2.1, fun q hq => va_Nw.same (u := U) (U := U.calling g mk a) rfl rfl (h.2.2.2.2.2.1 q hq), va_AO.moved (u := U) (U := U.calling g mk a) (Vm.Alike.refl U.vm) h.2.2.2.2.2.2⟩
theorem inb_lt {i : Int32} {n : Nat} (h : inb i n = true) : i.toNatClampNeg < n := by
  unfold inb at h
  simp only [Bool.and_eq_true, decide_eq_true_eq] at h
  exact h.2
theorem pTx_len {w : Nat} (h : w < 2) : pLen.getD w 0 = (pTx w).length ∧ pByt.getD w [] = pTx w := by
  have : w = 0 ∨ w = 1 := by omega
  rcases this with rfl | rfl
  · exact ⟨by decide +kernel, rfl⟩
  · exact ⟨by decide +kernel, rfl⟩
def pTo (nx : Option Nat) (pc : Nat) : Option Nat → Prop
  | none => nx = some pc
  | some t => pc = t
theorem pV_sum (ad : Nat → Nat) (tk : pTk) (st : List Value) : ((st.map (pV ad tk)).map fun v => v.category).sum = st.length := by
  induction st with
  | nil => rfl
  | cons v st ih => simp only [List.map_cons, List.sum_cons, pV_cat, ih, List.length_cons]; omega
theorem pPairs_get : ∀ (offs : List Int) (lo : Int) (i : Nat) (q : Int × Int), (pPairs lo offs)[i]? = some q → q.1 = lo + i ∧ offs[i]? = some q.2
  | [], lo, i, q, h => by simp [pPairs] at h
  | o :: r, lo, 0, q, h => by simp [pPairs] at h; subst h; simp
  | o :: r, lo, i + 1, q, h => by
    have h' : (pPairs (lo + 1) r)[i]? = some q := by simpa [pPairs] using h
    obtain ⟨h1, h2⟩ := pPairs_get r (lo + 1) i q h'
    refine ⟨?_, by simpa using h2⟩
    rw [h1]
    push_cast
    omega
theorem pPairs_in : ∀ (offs : List Int) (lo : Int) (i : Nat), i < offs.length → ∃ o, offs[i]? = some o ∧ (pPairs lo offs)[i]? = some (lo + i, o)
  | [], lo, i, h => absurd h (Nat.not_lt_zero i)
  | o :: r, lo, 0, _ => ⟨o, rfl, by simp [pPairs]⟩
  | o :: r, lo, i + 1, h => by
    obtain ⟨o', h1, h2⟩ := pPairs_in r (lo + 1) i (by simpa using h)
    refine ⟨o', by simpa using h1, ?_⟩
    show (pPairs (lo + 1) r)[i]? = _
    rw [h2]
    congr 2
    push_cast
    omega
theorem i32_ofInt {x : Int32} {v : Int} (h1 : -2147483648 ≤ v) (h2 : v ≤ 2147483647) : x = Int32.ofInt v ↔ x.toInt = v := by
  constructor
  · intro h
    rw [h, Int32.toInt_ofInt_of_le h1 (by omega)]
  · intro h
    rw [← h, Int32.ofInt_toInt]
theorem lk_off : ∀ (ps : List (Int × Int)) (d v : Int), Op.lookupswitch.offset ps d v = ((ps.find? (fun q => q.1 == v)).map (·.2)).getD d
  | [], d, v => by simp [Op.lookupswitch.offset]
  | (a, o) :: r, d, v => by
    by_cases h : a = v
    · simp [Op.lookupswitch.offset, h]
    · simp [Op.lookupswitch.offset, h]
      exact lk_off r d v
set_option maxHeartbeats 4000000 in
theorem pw_step {p : Program} {l : Launch} {e : Env} {R : Room} {s : State} {m : MethodId} {args : Array Value} {below : List Frame} {meth : Method} {c : Code} {cells slots : Nat} {Q : State → Prop} {D : va_G} {cl : List vw_C} {tys : List (ClassId × FieldType)} {cI cD : ClassId} {ad : Nat → Nat} {tk : pTk} {A : Nat → Prop} {GW : List Cond} {own : String} {bytes : ByteArray} {nL : Nat} {ini : Bool}
    (hx : p.tables.exec = Jvm.exec) (hb : c.code = bytes) (hml : c.maxLocals = nL) (hts : ∀ w ∈ GW, w.before args s = true) (hown : s.vm.findClass own = some m.cls) (hini : ini = true → meth.name = "<init>") (hK : va_K D cl tys s) (hX : pX tk A s) (hcl9 : cl.length < 99) (ht0 : tys[0]? = some (cI, .int)) {CD : String} (ht1 : tys[1]? = some (cD, .object CD)) (hRf : 1 ≤ R.frames) (hRl : 2000 ≤ R.locals) (hRc : cells ≤ R.cells ∧ slots ≤ R.slots)
    {en : pI} {nx : Option Nat} (hk : pKind en = 0) (hE : EOk cl tys cD GW own bytes nL ini nx en) {G : List pSh} {S S' : pS} {ls ls' st st' : List Value} {j : Option Nat} (hs : pStep G ls st S en = some (j, ls', st', S'))
    {H : Heap} {locs : List Loc} {lsA : Array Slot} (hl : pHas ad tk lsA nL ls) (hP : va_P D cl (pWld cI cD ad G S) H) (hD : va_D A (pWld cI cD ad G S)) (hS : va_S A s.heap H locs)
    (kk : ∀ (H1 : Heap) (locs1 : List Loc) (lsA1 : Array Slot) (pc1 : Nat), pTo nx pc1 j → pHas ad tk lsA1 nL ls' → va_P D cl (pWld cI cD ad G S') H1 → va_D A (pWld cI cD ad G S') → va_S A s.heap H1 locs1 → W p l e R s m args below meth c H1 locs1 cells slots Q (F0 m pc1 lsA1 (st'.map (pV ad tk)))) :
    W p l e R s m args below meth c H locs cells slots Q (F0 m en.1 lsA (st.map (pV ad tk))) := by
  obtain ⟨pc, ins, a, b, cc, w⟩ := en
  show W p l e R s m args below meth c H locs cells slots Q (F0 m pc lsA (st.map (pV ad tk)))
  cases ins with
  | nop =>
    simp only [pStep] at hs
    cases hs
    exact kk H locs lsA pc hE hl.kill hP hD hS
  | iconst i =>
    obtain ⟨hd, hc, hn⟩ := hE
    simp only [pStep] at hs
    cases hs
    exact lv_iconst hx hb hd hc (kk H locs lsA _ hn hl hP hD hS)
  | bipush i =>
    obtain ⟨hd, hc, hn⟩ := hE
    simp only [pStep] at hs
    cases hs
    exact lv_bipush hx hb hd hc (kk H locs lsA _ hn hl hP hD hS)
  | sipush i =>
    obtain ⟨hd, hc, hn⟩ := hE
    simp only [pStep] at hs
    cases hs
    exact lv_sipush hx hb hd hc (kk H locs lsA _ hn hl hP hD hS)
  | ldc i =>
    obtain ⟨hd, hn, ⟨h0, hc⟩ | ⟨h0, ho, hc⟩⟩ := hE
    · subst h0
      simp only [pStep, if_true] at hs
      cases hs
      exact lv_ldc hx hb hown (hts _ hc) hd (kk H locs lsA _ hn hl hP hD hS)
    · subst h0
      simp only [pStep, show ¬ (1 : Nat) = 0 by decide, if_false] at hs
      cases hs
      subst ho
      rcases hc with ⟨rfl, rfl⟩ | ⟨rfl, rfl⟩
      · exact va_ldcS hx hb hown hX.2.1 hd (kk H locs lsA _ hn hl hP hD hS)
      · exact va_ldcS hx hb hown hX.2.2.1 hd (kk H locs lsA _ hn hl hP hD hS)
  | ldc_w i =>
    obtain ⟨hd, hn, hc⟩ := hE
    simp only [pStep] at hs
    cases hs
    exact lv_ldcw hx hb hown (hts _ hc) hd (kk H locs lsA _ hn hl hP hD hS)
  | iload_n k =>
    obtain ⟨hd, hn, ha⟩ := hE
    subst ha
    simp only [pStep] at hs
    split at hs
    · rename_i x hq
      cases hs
      exact lv_iload_n hx hb hd rfl (hl.2.2 _ _ hq (by simp)) (kk H locs lsA _ hn hl hP hD hS)
    · cases hs
  | iload k =>
    obtain ⟨hd, hn, ha⟩ := hE
    subst ha
    simp only [pStep] at hs
    split at hs
    · rename_i x hq
      cases hs
      exact lv_iload hx hb hd (hl.2.2 _ _ hq (by simp)) (kk H locs lsA _ hn hl hP hD hS)
    · cases hs
  | aload_n k =>
    obtain ⟨hd, hn, ha⟩ := hE
    subst ha
    simp only [pStep] at hs
    split at hs
    · rename_i x hq
      cases hs
      exact lv_aload_n hx hb hd rfl (hl.2.2 _ _ hq (by simp)) (kk H locs lsA _ hn hl hP hD hS)
    · rename_i x hq
      cases hs
      exact lv_aload_n hx hb hd rfl (hl.2.2 _ _ hq (by simp)) (kk H locs lsA _ hn hl hP hD hS)
    · rename_i x hq
      cases hs
      exact lv_aload_n hx hb hd rfl (hl.2.2 _ _ hq (by simp)) (kk H locs lsA _ hn hl hP hD hS)
    · cases hs
  | athrow => simp only [pStep] at hs; cases hs
  | getstatic i =>
    obtain ⟨hd, hn, ⟨h0, hc⟩ | ⟨h0, hc⟩⟩ := hE
    · subst h0
      simp only [pStep, if_true] at hs
      cases hs
      exact va_gets hx hb hX.2.2.2.1 hS hown (hts _ hc) (fun _ h => h) hd (kk H locs lsA _ hn hl hP hD hS)
    · subst h0
      simp only [pStep, show ¬ (1 : Nat) = 0 by decide, if_false] at hs
      cases hs
      exact va_gets hx hb hX.2.2.2.2.1 hS hown (hts _ hc) (fun _ h => h) hd (kk H locs lsA _ hn hl hP hD hS)
  | baload =>
    obtain ⟨hd, hn⟩ := hE
    simp only [pStep] at hs
    split at hs
    · rename_i i w st0
      split at hs
      · rename_i hw
        split at hs
        · rename_i hi
          cases hs
          have hT := (hX.1.1 w.toNat hw).2.2.2
          have hlen := pTx_len hw
          rw [hlen.1, hlen.2] at hT
          exact va_tb hx hb hT hS (inb_in hi) rfl hd (kk H locs lsA _ hn hl hP hD hS)
        · cases hs
      · cases hs
    · cases hs
  | istore_n k =>
    obtain ⟨hd, hn, ha, hlt⟩ := hE
    subst ha
    simp only [pStep] at hs
    split at hs
    · cases hs
      exact lv_istore_n hx hb hd rfl hl.lv hlt rfl (fun lsA1 h1 => kk H locs lsA1 _ hn (pHas.store h1) hP hD hS)
    · cases hs
  | istore k =>
    obtain ⟨hd, hn, ha, hlt⟩ := hE
    subst ha
    simp only [pStep] at hs
    split at hs
    · cases hs
      exact lv_istore hx hb hd hl.lv hlt rfl (fun lsA1 h1 => kk H locs lsA1 _ hn (pHas.store h1) hP hD hS)
    · cases hs
  | astore_n k =>
    obtain ⟨hd, hn, ha, hlt⟩ := hE
    subst ha
    simp only [pStep] at hs
    split at hs
    · cases hs
      exact lv_astore_n hx hb hd rfl hl.lv hlt rfl (fun lsA1 h1 => kk H locs lsA1 _ hn (pHas.store h1) hP hD hS)
    · cases hs
  | iinc k n =>
    obtain ⟨hd, hn, ha, hlt, hc⟩ := hE
    subst ha
    simp only [pStep] at hs
    split at hs
    · rename_i x hq
      cases hs
      obtain ⟨q, hq2⟩ := List.getElem?_of_mem (pLv_mem (ad := ad) (tk := tk) (q := (k, Value.int x)) |>.mpr ⟨.int x, hq, by simp, rfl⟩)
      exact lv_iinc hx hb hd hl.lv (k := q) hq2 (by rw [hc]) hlt rfl (fun lsA1 h1 => kk H locs lsA1 _ hn (pHas.store h1) hP hD hS)
    · cases hs
  | iadd =>
    obtain ⟨hd, hn⟩ := hE
    simp only [pStep] at hs
    split at hs
    · cases hs
      exact lv_iadd hx hb hd (kk H locs lsA _ hn hl hP hD hS)
    · cases hs
  | isub =>
    obtain ⟨hd, hn⟩ := hE
    simp only [pStep] at hs
    split at hs
    · cases hs
      exact lv_isub hx hb hd (kk H locs lsA _ hn hl hP hD hS)
    · cases hs
  | imul =>
    obtain ⟨hd, hn⟩ := hE
    simp only [pStep] at hs
    split at hs
    · cases hs
      exact lv_imul hx hb hd (kk H locs lsA _ hn hl hP hD hS)
    · cases hs
  | iand =>
    obtain ⟨hd, hn⟩ := hE
    simp only [pStep] at hs
    split at hs
    · cases hs
      exact lv_iand hx hb hd (kk H locs lsA _ hn hl hP hD hS)
    · cases hs
  | ior =>
    obtain ⟨hd, hn⟩ := hE
    simp only [pStep] at hs
    split at hs
    · cases hs
      exact lv_ior hx hb hd (kk H locs lsA _ hn hl hP hD hS)
    · cases hs
  | ixor =>
    obtain ⟨hd, hn⟩ := hE
    simp only [pStep] at hs
    split at hs
    · cases hs
      exact lv_ixor hx hb hd (kk H locs lsA _ hn hl hP hD hS)
    · cases hs
  | ishl =>
    obtain ⟨hd, hn⟩ := hE
    simp only [pStep] at hs
    split at hs
    · cases hs
      exact lv_ishl hx hb hd (kk H locs lsA _ hn hl hP hD hS)
    · cases hs
  | ishr =>
    obtain ⟨hd, hn⟩ := hE
    simp only [pStep] at hs
    split at hs
    · cases hs
      exact lv_ishr hx hb hd (kk H locs lsA _ hn hl hP hD hS)
    · cases hs
  | idiv =>
    obtain ⟨hd, hn⟩ := hE
    simp only [pStep] at hs
    split at hs
    · split at hs
      · cases hs
      · rename_i h0
        cases hs
        exact lv_idiv hx hb hd h0 (kk H locs lsA _ hn hl hP hD hS)
    · cases hs
  | irem =>
    obtain ⟨hd, hn⟩ := hE
    simp only [pStep] at hs
    split at hs
    · split at hs
      · cases hs
      · rename_i h0
        cases hs
        exact lv_irem hx hb hd h0 (kk H locs lsA _ hn hl hP hD hS)
    · cases hs
  | iushr =>
    obtain ⟨hd, hn⟩ := hE
    simp only [pStep] at hs
    split at hs
    · cases hs
      exact lv_iushr hx hb hd rfl (kk H locs lsA _ hn hl hP hD hS)
    · cases hs
  | i2c =>
    obtain ⟨hd, hn⟩ := hE
    simp only [pStep] at hs
    split at hs
    · cases hs
      exact lv_i2c hx hb hd rfl (kk H locs lsA _ hn hl hP hD hS)
    · cases hs
  | i2b =>
    obtain ⟨hd, hn⟩ := hE
    simp only [pStep] at hs
    split at hs
    · cases hs
      exact lv_i2b hx hb hd rfl (kk H locs lsA _ hn hl hP hD hS)
    · cases hs
  | dup =>
    obtain ⟨hd, hn⟩ := hE
    simp only [pStep] at hs
    split at hs
    · cases hs
      exact lv_dup hx hb hd (pV_cat _ _ _) (kk H locs lsA _ hn hl hP hD hS)
    · cases hs
  | dup2 =>
    obtain ⟨hd, hn⟩ := hE
    simp only [pStep] at hs
    split at hs
    · cases hs
      exact lv_dup2_11 hx hb hd (pV_cat _ _ _) (pV_cat _ _ _) (kk H locs lsA _ hn hl hP hD hS)
    · cases hs
  | pop =>
    obtain ⟨hd, hn⟩ := hE
    simp only [pStep] at hs
    split at hs
    · cases hs
      exact lv_pop hx hb hd (pV_cat _ _ _) (kk H locs lsA _ hn hl hP hD hS)
    · cases hs
  | goto off =>
    obtain ⟨hd, ht⟩ := hE
    simp only [pStep] at hs
    cases hs
    exact lv_goto hx hb hd ht (kk H locs lsA _ rfl hl hP hD hS)
  | ifCond co off =>
    obtain ⟨hd, hn, ht⟩ := hE
    cases co
    · simp only [pStep] at hs
      split at hs
      · rename_i hst
        refine lv_if_eq hx hb hd ht (fun hc => ?_) (fun hc => ?_)
        · have hc := hc
          simp only [hc, if_true, if_false] at hs
          cases hs
          exact kk H locs lsA _ rfl hl hP hD hS
        · have hc := hc
          simp only [hc, if_true, if_false] at hs
          cases hs
          exact kk H locs lsA _ hn hl hP hD hS
      · cases hs
    · simp only [pStep] at hs
      split at hs
      · rename_i hst
        refine lv_if_ne hx hb hd ht (fun hc => ?_) (fun hc => ?_)
        · have hc := hc
          simp only [hc, if_true, if_false] at hs
          cases hs
          exact kk H locs lsA _ rfl hl hP hD hS
        · have hc := hc
          simp only [hc, if_true, if_false] at hs
          cases hs
          exact kk H locs lsA _ hn hl hP hD hS
      · cases hs
    · simp only [pStep] at hs
      split at hs
      · rename_i hst
        refine lv_if_lt hx hb hd ht (fun hc => ?_) (fun hc => ?_)
        · have hc := hc
          simp only [hc, if_true, if_false] at hs
          cases hs
          exact kk H locs lsA _ rfl hl hP hD hS
        · have hc := hc
          simp only [hc, if_true, if_false] at hs
          cases hs
          exact kk H locs lsA _ hn hl hP hD hS
      · cases hs
    · simp only [pStep] at hs
      split at hs
      · rename_i hst
        refine lv_if_ge hx hb hd ht (fun hc => ?_) (fun hc => ?_)
        · have hc := (Int32.not_lt.mpr hc)
          simp only [hc, if_true, if_false] at hs
          cases hs
          exact kk H locs lsA _ rfl hl hP hD hS
        · have hc := (Int32.not_le.mp hc)
          simp only [hc, if_true, if_false] at hs
          cases hs
          exact kk H locs lsA _ hn hl hP hD hS
      · cases hs
    · simp only [pStep] at hs
      split at hs
      · rename_i hst
        refine lv_if_gt hx hb hd ht (fun hc => ?_) (fun hc => ?_)
        · have hc := (Int32.not_le.mpr hc)
          simp only [hc, if_true, if_false] at hs
          cases hs
          exact kk H locs lsA _ rfl hl hP hD hS
        · have hc := (Int32.not_lt.mp hc)
          simp only [hc, if_true, if_false] at hs
          cases hs
          exact kk H locs lsA _ hn hl hP hD hS
      · cases hs
    · simp only [pStep] at hs
      split at hs
      · rename_i hst
        refine lv_if_le hx hb hd ht (fun hc => ?_) (fun hc => ?_)
        · have hc := hc
          simp only [hc, if_true, if_false] at hs
          cases hs
          exact kk H locs lsA _ rfl hl hP hD hS
        · have hc := hc
          simp only [hc, if_true, if_false] at hs
          cases hs
          exact kk H locs lsA _ hn hl hP hD hS
      · cases hs
  | if_icmp co off =>
    obtain ⟨hd, hn, ht⟩ := hE
    cases co
    · simp only [pStep] at hs
      split at hs
      · rename_i hst
        refine lv_icmp_eq hx hb hd ht (fun hc => ?_) (fun hc => ?_)
        · have hc := hc
          simp only [hc, if_true, if_false] at hs
          cases hs
          exact kk H locs lsA _ rfl hl hP hD hS
        · have hc := hc
          simp only [hc, if_true, if_false] at hs
          cases hs
          exact kk H locs lsA _ hn hl hP hD hS
      · cases hs
    · simp only [pStep] at hs
      split at hs
      · rename_i hst
        refine lv_icmp_ne hx hb hd ht (fun hc => ?_) (fun hc => ?_)
        · have hc := hc
          simp only [hc, if_true, if_false] at hs
          cases hs
          exact kk H locs lsA _ rfl hl hP hD hS
        · have hc := hc
          simp only [hc, if_true, if_false] at hs
          cases hs
          exact kk H locs lsA _ hn hl hP hD hS
      · cases hs
    · simp only [pStep] at hs
      split at hs
      · rename_i hst
        refine lv_icmp_lt hx hb hd ht (fun hc => ?_) (fun hc => ?_)
        · have hc := hc
          simp only [hc, if_true, if_false] at hs
          cases hs
          exact kk H locs lsA _ rfl hl hP hD hS
        · have hc := hc
          simp only [hc, if_true, if_false] at hs
          cases hs
          exact kk H locs lsA _ hn hl hP hD hS
      · cases hs
    · simp only [pStep] at hs
      split at hs
      · rename_i hst
        refine lv_icmp_ge hx hb hd ht (fun hc => ?_) (fun hc => ?_)
        · have hc := (Int32.not_lt.mpr hc)
          simp only [hc, if_true, if_false] at hs
          cases hs
          exact kk H locs lsA _ rfl hl hP hD hS
        · have hc := (Int32.not_le.mp hc)
          simp only [hc, if_true, if_false] at hs
          cases hs
          exact kk H locs lsA _ hn hl hP hD hS
      · cases hs
    · simp only [pStep] at hs
      split at hs
      · rename_i hst
        refine lv_icmp_gt hx hb hd ht (fun hc => ?_) (fun hc => ?_)
        · have hc := (Int32.not_le.mpr hc)
          simp only [hc, if_true, if_false] at hs
          cases hs
          exact kk H locs lsA _ rfl hl hP hD hS
        · have hc := (Int32.not_lt.mp hc)
          simp only [hc, if_true, if_false] at hs
          cases hs
          exact kk H locs lsA _ hn hl hP hD hS
      · cases hs
    · simp only [pStep] at hs
      split at hs
      · rename_i hst
        refine lv_icmp_le hx hb hd ht (fun hc => ?_) (fun hc => ?_)
        · have hc := hc
          simp only [hc, if_true, if_false] at hs
          cases hs
          exact kk H locs lsA _ rfl hl hP hD hS
        · have hc := hc
          simp only [hc, if_true, if_false] at hs
          cases hs
          exact kk H locs lsA _ hn hl hP hD hS
      · cases hs
  | tableswitch d lo hi offs =>
    obtain ⟨⟨len, hd⟩, h0, h1, h2, h3, h4⟩ := hE
    simp only [pStep] at hs
    split at hs
    · rename_i x st0
      obtain ⟨off, hz, hq⟩ := pSw_spec hs
      cases hz
      have hlen : ∀ i : Nat, i < offs.toList.length → (-2147483648 ≤ lo + (i : Int) ∧ lo + (i : Int) ≤ 2147483647) := fun i hi => by omega
      rcases hq with ⟨hq, rfl⟩ | ⟨i, q, hq1, hq2, rfl, -⟩
      · refine lv_tableOut hx hb hd ?_ (Int.toNat_of_nonneg h0).symm (kk H locs lsA _ rfl hl hP hD hS)
        by_cases hlo : x.toInt < lo
        · exact Or.inl hlo
        · refine Or.inr (Int.not_le.mp fun hhi => ?_)
          obtain ⟨o, ho1, ho2⟩ := pPairs_in offs.toList lo (x.toInt - lo).toNat (by omega)
          refine hq _ (List.mem_of_getElem? ho2) ((i32_ofInt (hlen _ (by omega)).1 (hlen _ (by omega)).2).mpr ?_)
          show x.toInt = lo + ((x.toInt - lo).toNat : Int)
          omega
      · obtain ⟨e1, e2⟩ := pPairs_get _ _ _ _ hq1
        have hi : i < offs.toList.length := (List.getElem?_eq_some_iff.mp e2).1
        rw [e1] at hq2
        have hx2 : x.toInt = lo + i := (i32_ofInt (hlen i hi).1 (hlen i hi).2).mp hq2
        refine lv_tableIn hx hb hd (by omega) (by omega) (off := q.2) ?_ (Int.toNat_of_nonneg (h1 _ (List.mem_of_getElem? e2))).symm (kk H locs lsA _ rfl hl hP hD hS)
        rw [show (x.toInt - lo).toNat = i by omega, ← Array.getElem?_toList]
        exact e2
    · cases hs
  | lookupswitch d ps =>
    obtain ⟨⟨len, hd⟩, hsort, h0, h1⟩ := hE
    simp only [pStep] at hs
    split at hs
    · rename_i x st0
      obtain ⟨off, hz, hq⟩ := pSw_spec hs
      cases hz
      have key : Op.lookupswitch.offset ps.toList d x.toInt = off ∧ 0 ≤ (pc : Int) + off := by
        rw [lk_off]
        rcases hq with ⟨hq, rfl⟩ | ⟨i, q, hq1, hq2, rfl, hq3⟩
        · refine ⟨?_, h0⟩
          rw [List.find?_eq_none.mpr]
          · rfl
          · intro q hqm hqe
            have hqe : q.1 = x.toInt := by simpa using hqe
            exact hq q hqm ((i32_ofInt (h1 q hqm).2.1 (h1 q hqm).2.2).mpr hqe.symm)
        · have hqm := List.mem_of_getElem? hq1
          refine ⟨?_, (h1 q hqm).1⟩
          have hqx : x.toInt = q.1 := (i32_ofInt (h1 q hqm).2.1 (h1 q hqm).2.2).mp hq2
          have : ps.toList.find? (fun z => z.1 == x.toInt) = some q := by
            obtain ⟨hi, hge⟩ := List.getElem?_eq_some_iff.mp hq1
            rw [List.find?_eq_some_iff_getElem]
            refine ⟨by simp [hqx], i, hi, hge, fun j hj => ?_⟩
            have hjm : ps.toList[j]? = some ps.toList[j] := List.getElem?_eq_getElem (by omega)
            have hjn := hq3 j hj _ hjm
            have hjM := List.mem_of_getElem? hjm
            have : ¬ (ps.toList[j]).1 = x.toInt := fun hz => hjn ((i32_ofInt (h1 _ hjM).2.1 (h1 _ hjM).2.2).mpr hz.symm)
            simpa using this
          rw [this]
          rfl
      exact lv_lookup hx hb hd hsort key.1 (Int.toNat_of_nonneg key.2).symm (kk H locs lsA _ rfl hl hP hD hS)
    · cases hs
  | getfield i =>
    obtain ⟨hd, hn, hE⟩ := hE
    simp only [pStep] at hs
    split at hs
    · rename_i o st0
      split at hs
      · rename_i ci fl hg
        split at hs
        · rename_i hci
          subst hci
          obtain ⟨C, T, N, hc, hN, hin, hlk⟩ : ∃ (C : String) (T : u_T) (N : Nat), cl[ci]? = some (C, T, N) ∧ a < N ∧ (∀ w ∈ u_ws C T N, w ∈ GW) ∧ Cond.fieldLink own i (T a).1 (T a).2.1 (T a).2.2.1 ∈ GW := by
            rcases hE with ⟨h100, -⟩ | ⟨-, h⟩
            · obtain ⟨r, hr, -⟩ := hP o _ (pWld_at hg)
              exact absurd (List.getElem?_eq_some_iff.mp hr).1 (by omega)
            · exact h
          split at hs
          · rename_i hf
            cases hs
            exact va_get hx hb hts hin hown hK hP o (pWld_at hg) hc a hN (hts _ hlk) (fun _ h => h) (v := .int (S.1 o a)) (by simp [List.getElem?_mapIdx, hf, pFld]) hd (kk H locs lsA _ hn hl hP hD hS)
          · rename_i j0 hf
            cases hs
            exact va_get hx hb hts hin hown hK hP o (pWld_at hg) hc a hN (hts _ hlk) (fun _ h => h) (v := .ref (ad j0)) (by simp [List.getElem?_mapIdx, hf, pFld]) hd (kk H locs lsA _ hn hl hP hD hS)
          · cases hs
        · cases hs
      · cases hs
    · rename_i w st0
      split at hs
      · rename_i h100
        split at hs
        · rename_i hw
          have hE2 := (show (a = 0 ∧ Cond.fieldLink own i "java/lang/String" "value" "[B" ∈ GW) ∨ (a = 1 ∧ Cond.fieldLink own i "java/lang/String" "coder" "B" ∈ GW) from by
            rcases hE with ⟨-, h⟩ | ⟨h, -⟩
            · exact h
            · omega)
          rcases hE2 with ⟨rfl, hlk⟩ | ⟨rfl, hlk⟩
          · simp only [if_true] at hs
            cases hs
            have hz : pV ad tk (.double (UInt64.ofNat w.toNat)) = .ref (tk.2.1 w.toNat) := by
              show Value.ref (tk.2.1 (UInt64.ofNat w.toNat).toNat) = _
              rw [UInt64.toNat_ofNat_of_lt' (Nat.lt_of_lt_of_le hw (by decide))]
            refine vk_getf hx hb (hX.1.1 w.toNat hw).2.2.1 hS hown (hts _ hlk) (fun _ h => h) hd ?_
            rw [← hz]
            exact kk H locs lsA _ hn hl hP hD hS
          · simp only [show ¬ (1 : Nat) = 0 by decide, if_false] at hs
            cases hs
            exact vk_getf hx hb (hX.1.1 w.toNat hw).2.1 hS hown (hts _ hlk) (fun _ h => h) hd (kk H locs lsA _ hn hl hP hD hS)
        · cases hs
      · cases hs
    · cases hs
  | putfield i =>
    obtain ⟨hd, hn, C, T, N, ty, hc, hN, hin, hlk, hty, hnm, ht, hfin⟩ := hE
    have hc2 : ¬ cc = 2 := fun h => by subst h; simp [pKind] at hk
    simp only [pStep] at hs
    split at hs
    · rename_i v o st0
      split at hs
      · rename_i ci fl hg
        split at hs
        · rename_i hci
          subst hci
          split at hs
          · rename_i hf
            split at hs
            · rename_i hv
              cases hs
              have hfl : a < fl.length := (List.getElem?_eq_some_iff.mp hf).1
              have hnf : narrow (ty a) (.int v) = .int v ∧ fits (ty a) (.int v) = true := by
                rcases ht with ⟨-, h⟩ | ⟨h1, h⟩ | ⟨h, -⟩
                · rw [h]; exact ⟨rfl, rfl⟩
                · rw [h]
                  have hv2 : v = 0 ∨ v = 1 := by
                    rcases hv with h3 | h3
                    · rw [h1] at h3; exact absurd h3 (by decide)
                    · exact h3
                  rcases hv2 with rfl | rfl <;> exact ⟨by decide, by decide⟩
                · exact absurd h hc2
              have hcell : pCell cI cD ad (sA S.1 o a v, S.2.1, S.2.2) o (.inl (ci, fl)) = .inr (ci, (fl.mapIdx (pFld ad (S.1 o))).set a (.int v)) := by
                simp only [pCell, sA, if_true]
                rw [pFld_set hf]
              have hset := pWld_set (cI := cI) (cD := cD) (ad := ad) (S := S) (S' := (sA S.1 o a v, S.2.1, S.2.2)) hg hcell (fun j sh' hj _ => by
                rcases sh' with ⟨ci', fl'⟩ | n | n
                · simp [pCell, sA, hj]
                · rfl
                · rfl)
              rcases hfin with hfin | ⟨hfin, hi1, hown2⟩
              · refine va_put hx hb hts hin ty hty hnm hown hK hP hD hS o (pWld_at hg) hc a hN (hts _ hlk) (fun _ h => h) hfin (hty a hN) hnf.1 hnf.2 (by simpa using hfl) hd (fun H1 locs1 q1 q2 q3 => ?_)
                have q1 := q1
                simp only [pV] at q1 q2
                rw [hset] at q1 q2
                exact kk H1 locs1 lsA _ hn hl q1 q2 q3
              · refine va_putF hx hb hts hin ty hty hnm hown hK hP hD hS o (pWld_at hg) hc a hN (hts _ hlk) (fun _ h => h) hfin (hini hi1) hown2 (hty a hN) hnf.1 hnf.2 (by simpa using hfl) hd (fun H1 locs1 q1 q2 q3 => ?_)
                simp only [pV] at q1 q2
                rw [hset] at q1 q2
                exact kk H1 locs1 lsA _ hn hl q1 q2 q3
            · cases hs
          · cases hs
        · cases hs
      · cases hs
    · cases hs
  | iaload =>
    obtain ⟨hd, hn⟩ := hE
    simp only [pStep] at hs
    split at hs
    · rename_i i o st0
      split at hs
      · rename_i n hg
        split at hs
        · rename_i hi
          cases hs
          exact va_iald hx hb hK hP o 0 (pWld_at hg) ht0 (inb_in hi) hd (kk H locs lsA _ hn hl hP hD hS)
        · cases hs
      · cases hs
    · cases hs
  | iastore =>
    obtain ⟨hd, hn⟩ := hE
    simp only [pStep] at hs
    split at hs
    · rename_i v i o st0
      split at hs
      · rename_i n hg
        split at hs
        · rename_i hi
          cases hs
          have hset := pWld_set (cI := cI) (cD := cD) (ad := ad) (S := S) (S' := (S.1, sA S.2.1 o i.toNatClampNeg v, S.2.2)) (x := .inl (cI, n, .inl (upd (S.2.1 o) i.toNatClampNeg v))) hg (by simp [pCell, sA]) (fun j sh' hj _ => by
            rcases sh' with ⟨ci', fl'⟩ | n | n
            · rfl
            · simp [pCell, sA, hj]
            · rfl)
          refine va_iast hx hb hK hP hD hS o 0 (pWld_at hg) ht0 (inb_in hi) hd (fun H1 locs1 q1 q2 q3 => ?_)
          rw [hset] at q1 q2
          exact kk H1 locs1 lsA _ hn hl q1 q2 q3
        · cases hs
      · cases hs
    · cases hs
  | arraylength =>
    obtain ⟨hd, hn⟩ := hE
    simp only [pStep] at hs
    split at hs
    · rename_i o st0
      split at hs
      · rename_i n hg
        cases hs
        exact va_alen hx hb hK hP o 0 (pWld_at hg) ht0 rfl hd (kk H locs lsA _ hn hl hP hD hS)
      · rename_i n hg
        cases hs
        exact va_alen hx hb hK hP o 1 (pWld_at hg) ht1 rfl hd (kk H locs lsA _ hn hl hP hD hS)
      · cases hs
    · rename_i w st0
      split at hs
      · rename_i hw
        cases hs
        have hT := (hX.1.1 w.toNat hw).2.2.2
        have hlen := (pTx_len hw).1
        exact va_tlen hx hb hT hS (by rw [hlen]; rfl) hd (kk H locs lsA _ hn hl hP hD hS)
      · cases hs
    · cases hs
  | aaload =>
    obtain ⟨hd, hn⟩ := hE
    simp only [pStep] at hs
    split at hs
    · rename_i i o st0
      split at hs
      · rename_i n hg
        split at hs
        · rename_i hi
          split at hs
          · rename_i j0 hj0
            cases hs
            refine va_aldq hx hb hK hP o 1 (pWld_at hg) ht1 (inb_in hi) hd ?_
            rw [if_pos (inb_lt hi), hj0]
            exact kk H locs lsA _ hn hl hP hD hS
          · cases hs
        · cases hs
      · cases hs
    · cases hs
  | aastore =>
    obtain ⟨hd, hn, r, hr, ht1'⟩ := hE
    simp only [pStep] at hs
    split at hs
    · rename_i j0 i o st0
      split at hs
      · rename_i n hg
        split at hs
        · rename_i hob
          split at hs
          · rename_i hi
            cases hs
            obtain ⟨fl, hgj⟩ : ∃ fl, G[j0]? = some (.inl (b, fl)) := by
              unfold pObj at hob
              split at hob
              · rename_i ci fl hgj
                have hci : ci = b := by simpa using hob
                subst hci
                exact ⟨fl, hgj⟩
              · cases hob
            have hset := pWld_set (cI := cI) (cD := cD) (ad := ad) (S := S) (S' := (S.1, S.2.1, sR S.2.2 o i.toNatClampNeg (some j0))) (x := .inl (cD, n, .inr (.inr (.inr (.inr (va_up (fun k => if k < n then (S.2.2 o k).map ad else none) i.toNatClampNeg (some (ad j0)))))))) hg (by
              simp only [pCell, sR, if_true]
              congr 7
              funext k
              by_cases hk2 : k = i.toNatClampNeg
              · have hlt := inb_lt hi
                simp [va_up, hk2, hlt]
              · simp [va_up, hk2]) (fun j sh' hj _ => by
              rcases sh' with ⟨ci', fl'⟩ | n | n
              · rfl
              · rfl
              · simp [pCell, sR, hj])
            refine va_astq hx hb hK hP hD hS o 1 j0 b (pWld_at hg) ht1' (pWld_at hgj) hr (inb_in hi) hd (fun H1 locs1 q1 q2 q3 => ?_)
            rw [hset] at q1 q2
            exact kk H1 locs1 lsA _ hn hl q1 q2 q3
          · cases hs
        · cases hs
      · cases hs
    · cases hs
  | invokespecial i =>
    obtain ⟨ha, hd, hn, h1, h2, h3⟩ := hE
    subst ha
    simp only [pStep, if_true] at hs
    split at hs
    · rename_i o st0
      split at hs
      · rename_i hlen
        cases hs
        refine W.objInit hx hb hown (hts _ h1) (hts _ h2) (hts _ h3) rfl (by rw [hml]; exact hl.1) (a := ad o) (rest := st'.map (pV ad tk)) rfl hd hRf ?_ (kk H locs lsA _ hn hl hP hD hS)
        rw [pV_sum]
        show 2 * 0 + _ + 12 ≤ _
        omega
      · cases hs
    · cases hs
  | invokestatic i =>
    obtain ⟨hd, hn, h1⟩ := hE
    rcases h1 with ⟨rfl, h1, h2, h3, h4⟩ | ⟨rfl, h1, h2, h3, h4⟩ | ⟨rfl, h1, h2, h3, h4⟩
    · simp only [pStep, if_true] at hs
      split at hs
      · rename_i n dp o1 sp o0 st0
        split at hs
        · rename_i n0 n1 hg0 hg1
          split at hs
          · rename_i hcnd
            obtain ⟨c1, c2, c3, c4, c5, c6⟩ := hcnd
            cases hs
            have hset := pWld_set (cI := cI) (cD := cD) (ad := ad) (S := S) (S' := (S.1, sW S.2.1 o1 (va_cpy (S.2.1 o0) (S.2.1 o1) sp.toNatClampNeg dp.toNatClampNeg n.toNatClampNeg), S.2.2)) (x := .inl (cI, n1, .inl (va_cpy (S.2.1 o0) (S.2.1 o1) sp.toNatClampNeg dp.toNatClampNeg n.toNatClampNeg))) hg1 (by simp [pCell, sW]) (fun j sh' hj _ => by
              rcases sh' with ⟨ci', fl'⟩ | n | n
              · rfl
              · simp [pCell, sW, hj]
              · rfl)
            refine va_copyi hx hb (by rw [hml]; exact hl.1.symm) hown (hts _ h1) (hts _ h2) (hts _ h3) (hts _ h4) hK hP hD hS o0 o1 0 0 (pWld_at hg0) (pWld_at hg1) ht0 ht0 rfl (Int32.not_lt.mpr c1) (Int32.not_lt.mpr c2) (Int32.not_lt.mpr c3) c4 c5 (fun _ _ => rfl) hRf ?_ hd (fun H1 locs1 q1 q2 q3 => ?_)
            · rw [pV_sum]
              show _ + (5 + 2 + 11) ≤ _
              omega
            · rw [hset] at q1 q2
              exact kk H1 locs1 lsA _ hn hl q1 q2 q3
          · cases hs
        · cases hs
      · cases hs
    · simp only [pStep, if_true, show ¬ (9004 : Nat) = 9001 by decide, if_false] at hs
      split at hs
      · split at hs
        · rename_i hlen
          cases hs
          refine va_mmax hx hb (by rw [hml]; exact hl.1.symm) hown (hts _ h1) (hts _ h2) (hts _ h3) (hts _ h4) hRf ?_ hRc.1 hRc.2 hd (kk H locs lsA _ hn hl hP hD hS)
          rw [pV_sum]
          omega
        · cases hs
      · cases hs
    · simp only [pStep, if_true, show ¬ (9005 : Nat) = 9001 by decide, show ¬ (9005 : Nat) = 9004 by decide, if_false] at hs
      split at hs
      · split at hs
        · rename_i hlen
          cases hs
          refine va_mmin hx hb (by rw [hml]; exact hl.1.symm) hown (hts _ h1) (hts _ h2) (hts _ h3) (hts _ h4) hRf ?_ hRc.1 hRc.2 hd (kk H locs lsA _ hn hl hP hD hS)
          rw [pV_sum]
          omega
        · cases hs
      · cases hs
  | _ => exact hE.elim
