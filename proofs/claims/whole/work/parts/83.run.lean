/-! What the small machine runs without a new cell, the machine itself runs: methods by contract. -/
/-- a method's name, bytes, places, what it returns, and how it is called: 0 on an object, 1 static, 2 a constructor -/
abbrev pN : Type := MethodName × ByteArray × Nat × Option FieldType × Nat
def pRm (d mc ms : Nat) : Room := { frames := d + 10, cells := mc, slots := ms, locals := 400 * d + 3000 }
def pWs (GW : List Cond) (I : Nat → pN) (a : Nat) : List Cond := Cond.code (I a).1 (I a).2.1 (I a).2.2.1 (I a).2.2.2.1 :: GW
def rtOk (b : Nat) (r : Option FieldType) : Prop := (b = 1 ∧ ∃ ty, r = some ty) ∨ (b = 0 ∧ r = none)
/-- a call's row -/
def COk (GW : List Cond) (I : Nat → pN) (own : String) (bytes : ByteArray) (nx : Option Nat) : pI → Prop
  | (pc, .invokevirtual i, a, b, _, _) => decode bytes pc = .ok (.invokevirtual i, 3) ∧ nx = some (pc + 3) ∧ rtOk b (I a).2.2.2.1 ∧ (I a).2.2.2.2 = 0 ∧ Cond.methodLink own i (I a).1 ∈ GW
  | (pc, .invokestatic i, a, b, _, _) => decode bytes pc = .ok (.invokestatic i, 3) ∧ nx = some (pc + 3) ∧ rtOk b (I a).2.2.2.1 ∧ (I a).2.2.2.2 = 1 ∧ (Cond.methodLink own i (I a).1 ∈ GW ∨ ∃ host, (own, i, (I a).1, host) ∈ pNL)
  | _ => False
/-- a return's row -/
def ROk (bytes : ByteArray) (ret : Option FieldType) : pI → Prop
  | (pc, .ireturn, a, _, _, _) => decode bytes pc = .ok (.ireturn, 1) ∧ ((a = 0 ∧ ret = some .int) ∨ (a = 1 ∧ ret = some .boolean) ∨ (a = 2 ∧ ret = some .char) ∨ (a = 3 ∧ ret = some .byte))
  | (pc, .return_, _, _, _, _) => decode bytes pc = .ok (.return_, 1) ∧ ret = none
  | _ => False
section RUN
variable {P : Nat → pM} {I : Nat → pN} {G : List pSh} {GW : List Cond} {D : va_G} {cl : List vw_C} {tys : List (ClassId × FieldType)} {cI cD : ClassId} {ad : Nat → Nat} {tk : pTk}
/-- a row of method k -/
def AOk (I : Nat → pN) (GW : List Cond) (cl : List vw_C) (tys : List (ClassId × FieldType)) (cD : ClassId) (k : Nat) (nx : Option Nat) (e : pI) : Prop :=
  (pKind e = 0 → EOk cl tys cD GW (I k).1.cls (I k).2.1 (I k).2.2.1 (decide ((I k).1.name = "<init>")) nx e) ∧ ((pKind e = 1 ∨ pKind e = 2) → ROk (I k).2.1 (I k).2.2.2.1 e) ∧ (pKind e = 3 → COk GW I (I k).1.cls (I k).2.1 nx e)
def LOk (I : Nat → pN) (GW : List Cond) (cl : List vw_C) (tys : List (ClassId × FieldType)) (cD : ClassId) (k : Nat) : List pI → Prop
  | [] => True
  | e :: is => AOk I GW cl tys cD k (is.head?.map (·.1)) e ∧ LOk I GW cl tys cD k is
theorem LOk.drop {k pc : Nat} {is : List pI} (h : LOk I GW cl tys cD k is) : LOk I GW cl tys cD k (pJmp is pc) := by
  induction is with
  | nil => exact h
  | cons e is ih =>
    unfold pJmp
    rw [List.dropWhile_cons]
    split
    · exact ih h.2
    · exact h
theorem pJmp_head {is : List pI} {pc : Nat} {e : pI} {r : List pI} (h : pJmp is pc = e :: r) : e.1 = pc := by
  induction is with
  | nil => simp [pJmp] at h
  | cons e' is ih =>
    unfold pJmp at h
    rw [List.dropWhile_cons] at h
    split at h
    · exact ih h
    · rename_i hn
      cases h
      simpa using hn
/-- what is asked of a method: its words, its rows -/
def MOk (P : Nat → pM) (I : Nat → pN) (GW : List Cond) (cl : List vw_C) (tys : List (ClassId × FieldType)) (cD : ClassId) (a : Nat) : Prop :=
  Cond.code (I a).1 (I a).2.1 (I a).2.2.1 (I a).2.2.2.1 ∈ GW ∧ Cond.initialized (I a).1.cls ∈ GW ∧ plainName (I a).1.cls = true ∧ ((I a).1.cls ≠ "java/lang/invoke/MethodHandle" ∧ (I a).1.cls ≠ "java/lang/invoke/VarHandle") ∧
  (I a).2.2.1 ≤ 300 ∧ (P a).2.1 = (I a).2.2.1 ∧ (P a).1 ≤ (P a).2.1 ∧ (P a).2.2.2.head?.map (·.1) = some 0 ∧ LOk I GW cl tys cD a (P a).2.2.2 ∧
  (((I a).2.2.2.2 = 0 ∧ (parseMethodDescriptor (I a).1.desc).map (fun d => d.parameters.length + 1) = some (P a).1 ∧ Cond.instanceMethod (I a).1 ∈ GW ∧ Cond.selects (I a).1.cls (I a).1 (I a).1 ∈ GW ∧ ((∃ ci T N, (P a).2.2.1 = ci + 1 ∧ ci < 999 ∧ cl[ci]? = some ((I a).1.cls, T, N)) ∨ ((P a).2.2.1 = 1000 ∧ (I a).1.cls = "java/lang/String"))) ∨
   ((I a).2.2.2.2 = 1 ∧ (parseMethodDescriptor (I a).1.desc).map (fun d => d.parameters.length) = some (P a).1 ∧ Cond.static (I a).1 ∈ GW) ∨
   ((I a).2.2.2.2 = 2 ∧ (parseMethodDescriptor (I a).1.desc).map (fun d => d.parameters.length + 1) = some (P a).1 ∧ Cond.instanceMethod (I a).1 ∈ GW ∧ (I a).1.name = "<init>"))
def pPre (D : va_G) (cl : List vw_C) (tys : List (ClassId × FieldType)) (cI cD : ClassId) (ad : Nat → Nat) (tk : pTk) (G : List pSh) (S : pS) (sz : Nat) (U : State) : Prop :=
  U.heap.size = sz ∧ va_P D cl (pWld cI cD ad G S) U.heap ∧ va_K D cl tys U ∧ va_D (fun _ => True) (pWld cI cD ad G S) ∧ pX tk (va_A (pWld cI cD ad G S) sz) U
def pBw (D : va_G) (cl : List vw_C) (tys : List (ClassId × FieldType)) (cI cD : ClassId) (ad : Nat → Nat) (G : List pSh) (S : pS) (A : Nat → Prop) (t : State) : Prop :=
  va_P D cl (pWld cI cD ad G S) t.heap ∧ va_K D cl tys t ∧ va_D A (pWld cI cD ad G S)
def pQ (x : Int32) (Bw : State → Prop) (A : Nat → Prop) : Option FieldType → Array Value → State → Outcome → State → Prop
  | none => va_Qv (fun _ : Unit => True) (fun _ => Bw) A
  | some _ => va_Qi (fun r (_ : Unit) => r = x) (fun _ => Bw) A
/-- the frame of a method -/
def FrOk (I : Nat → pN) (GW : List Cond) (D : va_G) (cl : List vw_C) (tys : List (ClassId × FieldType)) (tk : pTk) (k : Nat) (p : Program) (s : State) (m : MethodId) (args : Array Value) (meth : Method) (c : Code) (A : Nat → Prop) : Prop :=
  p.tables.exec = Jvm.exec ∧ c.code = (I k).2.1 ∧ c.maxLocals = (I k).2.2.1 ∧ (∀ w ∈ GW, w.before args s = true) ∧ s.vm.findClass (I k).1.cls = some m.cls ∧ meth.sig.returnType = (I k).2.2.2.1 ∧ meth.locks = false ∧ ((I k).1.name = "<init>" → meth.name = "<init>") ∧ va_K D cl tys s ∧ pX tk A s ∧ (∀ q, s.heap.size ≤ q → A q)
theorem lva_mem {vs : List Value} (hc : ∀ v ∈ vs, v.category = 1) : ∀ {o i : Nat} {v : Value}, vs[i]? = some v → (o + i, v) ∈ lv_args o vs := by
  induction vs with
  | nil => intro o i v h; simp at h
  | cons w vs ih =>
    intro o i v h
    rw [lv_args]
    cases i with
    | zero => simp at h; subst h; exact List.mem_cons_self
    | succ i =>
      have hw : ¬ w.category = 2 := by rw [hc w List.mem_cons_self]; decide
      rw [if_neg hw]
      have := ih (fun v hv => hc v (List.mem_cons_of_mem _ hv)) (o := o + 1) (i := i) (v := v) (by simpa using h)
      exact List.mem_cons_of_mem _ (by rw [show o + (i + 1) = o + 1 + i by omega]; exact this)
theorem lg_len {vs : List Value} (hc : ∀ v ∈ vs, v.category = 1) : (lg_sl vs).length = vs.length := by
  induction vs with
  | nil => rfl
  | cons w vs ih =>
    have hw : ¬ w.category = 2 := by rw [hc w List.mem_cons_self]; decide
    have := ih (fun v hv => hc v (List.mem_cons_of_mem _ hv))
    simp only [lg_sl, List.flatMap_cons, if_neg hw, List.length_append, List.length_cons, List.length_nil] at this ⊢
    omega
theorem pHas.entry {As : List Value} {nL n : Nat} (h : As.length ≤ nL) : pHas ad tk ((lg_sl (As.map (pV ad tk)) ++ List.replicate (nL - (lg_sl (As.map (pV ad tk))).length) Slot.unset).toArray) nL (As ++ List.replicate n .null) := by
  have hc : ∀ v ∈ As.map (pV ad tk), v.category = 1 := by
    intro v hv
    obtain ⟨w, -, rfl⟩ := List.mem_map.mp hv
    exact pV_cat _ _ _
  have hle : (lg_sl (As.map (pV ad tk))).length ≤ nL := by rw [lg_len hc, List.length_map]; exact h
  have hl := lv_entry (As.map (pV ad tk)) (n := nL) hle
  refine ⟨hl.1, hl.2.1, fun i v hi hv => ?_⟩
  have hlt : i < As.length := by
    rcases Nat.lt_or_ge i As.length with q | q
    · exact q
    · rw [List.getElem?_append_right q, List.getElem?_replicate] at hi
      split at hi
      · cases hi; exact absurd rfl hv
      · cases hi
  rw [List.getElem?_append_left hlt] at hi
  have := hl.2.2 (0 + i, pV ad tk v) (lva_mem hc (by rw [List.getElem?_map, hi]; rfl))
  simpa using this
/-- what a method's run says, as its contract -/
theorem met_of {l : Launch} {d a : Nat} {x : Int32} {S S' : pS} {As : List Value} {sz : Nat} (hM : MOk P I GW cl tys cD a) (hAs : As.length = (P a).1)
    (hW : ∀ {p : Program} {e : Env} {s : State} {m : MethodId} {args : Array Value} {below : List Frame} {meth : Method} {c : Code} {A : Nat → Prop} {lsA : Array Slot}, FrOk I GW D cl tys tk a p s m args meth c A → pHas ad tk lsA (I a).2.2.1 (pLs (P a) As) → va_P D cl (pWld cI cD ad G S) s.heap → va_D A (pWld cI cD ad G S) → W p l e (pRm d 0 0) s m args below meth c s.heap [] 0 0 (MQ below (pQ x (pBw D cl tys cI cD ad G S' A) A (I a).2.2.2.1) args s 0 0 A) (F0 m 0 lsA [])) :
    Met l (I a).1 (pWs GW I a) (pRm d 0 0) (va_Pc (As.map (pV ad tk)) (pPre D cl tys cI cD ad tk G S sz)) (pQ x (pBw D cl tys cI cD ad G S' (va_A (pWld cI cD ad G S) sz)) (va_A (pWld cI cD ad G S) sz) (I a).2.2.2.1) 0 0 (va_A (pWld cI cD ad G S) sz) := by
  obtain ⟨hcode, hini, hpl, hne, h300, hpl2, hargs, h0, hL, hkind⟩ := hM
  refine Met.ofW (cc := (I a).2.1) (maxL := (I a).2.2.1) (ret := (I a).2.2.2.1) hpl rfl ?_
  intro p e s m args below meth c s₁ B hml hv
  obtain ⟨rfl, rfl, hP, hK, hD, hX⟩ := hv
  have hts : ∀ w ∈ pWs GW I a, w.before (As.map (pV ad tk)).toArray s = true := atoms_spec (ws := pWs GW I a) B.pre
  have hown : s.vm.findClass (I a).1.cls = some m.cls := findClass_of_methodNamed B.named
  have hin : meth.name = (I a).1.name := (name_of_methodNamed B.named B.method).1
  rw [lg_entry_eq]
  exact hW ⟨B.exec, B.bytes, hml, fun w h => hts w (List.mem_cons_of_mem _ h), hown, B.returns, B.notSynchronized, fun h => hin.trans h, hK, hX, fun q h => Or.inr h⟩ (pHas.entry (by omega)) hP hD.self
set_option maxHeartbeats 4000000 in
/-- THE RUN: what exf answers, the machine does -/
theorem exf_W {l : Launch} (hG : ∀ w ∈ GW, goodWord w = true) (hcl9 : cl.length < 99) (ht0 : tys[0]? = some (cI, .int)) {CD : String} (ht1 : tys[1]? = some (cD, .object CD)) (hM : ∀ a, (P a).2.2.2 ≠ [] → ((I a).2.2.2.2 = 0 ∨ (I a).2.2.2.2 = 1) → MOk P I GW cl tys cD a) :
    ∀ (n d k : Nat) (is : List pI) (ls st : List Value) (S S' : pS) (x : Int32), exf P G n d k is ls st S = some (x, S') → LOk I GW cl tys cD k is → LOk I GW cl tys cD k (P k).2.2.2 →
    ∀ {p : Program} {e : Env} {s : State} {m : MethodId} {args : Array Value} {below : List Frame} {meth : Method} {c : Code} {A : Nat → Prop} {H : Heap} {locs : List Loc} {lsA : Array Slot} {pc : Nat}, FrOk I GW D cl tys tk k p s m args meth c A → is.head?.map (·.1) = some pc → pHas ad tk lsA (I k).2.2.1 ls → va_P D cl (pWld cI cD ad G S) H → va_D A (pWld cI cD ad G S) → va_S A s.heap H locs →
      W p l e (pRm d 0 0) s m args below meth c H locs 0 0 (MQ below (pQ x (pBw D cl tys cI cD ad G S' A) A (I k).2.2.2.1) args s 0 0 A) (F0 m pc lsA (st.map (pV ad tk))) := by
  intro n
  induction n with
  | zero => intro d k is ls st S S' x h; rw [exf_zero] at h; cases h
  | succ n ih =>
    intro d k is ls st S S' x h hL hLk p e s m args below meth c A H locs lsA pc hF hpc hl hP hD hS
    cases is with
    | nil => rw [exf_nil] at h; cases h
    | cons en is =>
      have hpc : pc = en.1 := by simpa using hpc.symm
      subst hpc
      obtain ⟨hA1, hL⟩ := hL
      obtain ⟨hE0, hE1, hE3⟩ := hA1
      obtain ⟨hx, hb, hml, hts, hown, hr, hlocks, hin, hK, hX, hA⟩ := id hF
      rw [exf_cons] at h
      split at h
      · -- a plain instruction
        rename_i hk
        split at h
        · cases h
        · rename_i j ls' st' S1 hs
          refine pw_step hx hb hml hts hown (fun q => hin (by simpa using q)) hK hX hcl9 ht0 ht1 (by show 1 ≤ d + 10; omega) (by show 2000 ≤ 400 * d + 3000; omega) ⟨Nat.zero_le _, Nat.zero_le _⟩ hk (hE0 hk) hs hl hP hD hS ?_
          intro H1 locs1 lsA1 pc1 hto hl1 hP1 hD1 hS1
          cases hn : pNext (P k).2.2.2 is j with
          | nil => rw [hn, exf_nil] at h; cases h
          | cons e2 is2 =>
            refine ih d k _ ls' st' S1 S' x h ?_ hLk hF ?_ hl1 hP1 hD1 hS1
            · cases j with
              | none => exact hL
              | some t => exact LOk.drop hLk
            · rw [hn]
              cases j with
              | none =>
                have hn : is = e2 :: is2 := hn
                have hto : is.head?.map (·.1) = some pc1 := hto
                rw [hn] at hto
                exact hto
              | some t =>
                have hto : pc1 = t := hto
                rw [hto, ← pJmp_head (hn : pJmp _ t = e2 :: is2)]
                rfl
      · -- a number is returned
        rename_i hk
        have hE := hE1 (Or.inl hk)
        split at h
        · rename_i x0
          split at h
          · rename_i hbx
            cases h
            obtain ⟨pc, ins, a, b, cc, w⟩ := en
            cases ins with
            | ireturn =>
              obtain ⟨hd, hret⟩ := hE
              have hnar : ∃ ty, (I k).2.2.2.1 = some ty ∧ narrow ty (.int x) = .int x := by
                rcases hret with ⟨-, h2⟩ | ⟨h1, h2⟩ | ⟨h1, h2⟩ | ⟨h1, h2⟩
                rotate_left 2
                · refine ⟨_, h2, ?_⟩
                  have hbx : pBool a x = true := hbx
                  rw [h1] at hbx
                  exact of_decide_eq_true hbx
                · refine ⟨_, h2, ?_⟩
                  have hbx : pBool a x = true := hbx
                  rw [h1] at hbx
                  exact of_decide_eq_true hbx
                · exact ⟨_, h2, rfl⟩
                · refine ⟨_, h2, ?_⟩
                  have hbx : pBool a x = true := hbx
                  rw [h1] at hbx
                  have : x = 0 ∨ x = 1 := by simpa [pBool] using hbx
                  rcases this with rfl | rfl <;> decide
              obtain ⟨ty, hty, hnar⟩ := hnar
              refine W.zret hx hb (hr.trans hty) hnar (fun t ht hW => ?_) hS.2.2 hd hlocks
              rw [hty]
              exact ⟨⟨x, (), rfl, rfl, by rw [ht]; exact hP, va_K.moved hW.alike hK, hD⟩, hS.F ht⟩
            | return_ => cases hk
            | _ => exact hE.elim
          · cases h
        · cases h
      · -- nothing is returned
        rename_i hk
        have hE := hE1 (Or.inr hk)
        split at h
        · cases h
          obtain ⟨pc, ins, a, b, cc, w⟩ := en
          cases ins with
          | return_ =>
            obtain ⟨hd, hret⟩ := hE
            refine W.vret hx hb (hr.trans hret) (fun t ht hW => ?_) hS.2.2 hd hlocks
            rw [hret]
            exact ⟨⟨(), rfl, trivial, by rw [ht]; exact hP, va_K.moved hW.alike hK, hD⟩, hS.F ht⟩
          | ireturn => cases hk
          | _ => exact hE.elim
        · cases h
      · -- a call
        rename_i hk
        have hE := hE3 hk
        split at h
        · rename_i hg
          obtain ⟨hd0, hge, hle, hrc⟩ := hg
          split at h
          · cases h
          · rename_i x1 S1 hcall
            obtain ⟨d, rfl⟩ : ∃ d', d = d' + 1 := ⟨d - 1, by omega⟩
            simp only [Nat.add_sub_cancel] at hcall
            have hnil : (P en.2.2.1).2.2.2 ≠ [] := fun q => by rw [q, exf_nil] at hcall; cases hcall
            have hkd : (I en.2.2.1).2.2.2.2 = 0 ∨ (I en.2.2.1).2.2.2.2 = 1 := by
              obtain ⟨pc, ins, a, b, cc, w⟩ := en
              cases ins with
              | invokevirtual i => exact Or.inl hE.2.2.2.1
              | invokestatic i => exact Or.inr hE.2.2.2.1
              | _ => exact hE.elim
            have hMa := hM en.2.2.1 hnil hkd
            obtain ⟨hcode, hiniw, hpl, hne, h300, hpl2, hargs, h0, hLa, hkind⟩ := id hMa
            have hAl : (pArgs (P en.2.2.1).1 st).length = (P en.2.2.1).1 := by simp [pArgs]; omega
            have hmet : Met l (I en.2.2.1).1 (pWs GW I en.2.2.1) (pRm d 0 0) (va_Pc ((pArgs (P en.2.2.1).1 st).map (pV ad tk)) (pPre D cl tys cI cD ad tk G S H.size)) (pQ x1 (pBw D cl tys cI cD ad G S1 (va_A (pWld cI cD ad G S) H.size)) (va_A (pWld cI cD ad G S) H.size) (I en.2.2.1).2.2.2.1) 0 0 (va_A (pWld cI cD ad G S) H.size) :=
              met_of hMa hAl (fun hF2 hl2 hP2 hD2 => ih d en.2.2.1 _ _ [] S S1 x1 hcall hLa hLa hF2 h0 hl2 hP2 hD2 va_S.rf)
            have hAA : ∀ q, va_A (pWld cI cD ad G S) H.size q → A q := by
              rintro q (⟨k2, e2, h2⟩ | h2)
              · exact hD.2 k2 (q, e2) h2
              · exact hA q (Nat.le_trans hS.1 h2)
            have hblind : FrameBlind (va_Pc ((pArgs (P en.2.2.1).1 st).map (pV ad tk)) (pPre D cl tys cI cD ad tk G S H.size)) := by
              rintro a U g mk ⟨q0, q1, q2, q3, q4, q5⟩
              exact ⟨q0, q1, q2, va_K.moved (u := U) (U := U.calling g mk a) (Vm.Alike.refl U.vm) q3, q4, q5.blind⟩
            have hpre : ∀ U : State, U.heap = H → s.WarmedH U.vm → pPre D cl tys cI cD ad tk G S H.size U := by
              intro U hU hW
              refine ⟨by rw [hU], by rw [hU]; exact hP, va_K.moved hW.alike hK, hD.weaken (fun _ _ _ _ => trivial), hX.call hW ?_ hAA⟩
              rw [hU]
              exact hS.2.1
            have hgood : GoodIn GW (pWs GW I en.2.2.1) := by
              intro w hw
              rcases List.mem_cons.mp hw with rfl | hw
              · exact ⟨hcode, good_of_word (hG _ hcode)⟩
              · exact ⟨hw, good_of_word (hG _ hw)⟩
            have hroom : (pRm d 0 0).frames + 1 ≤ (pRm (d + 1) 0 0).frames ∧ 8 + ((I en.2.2.1).2.2.1 + 11) + (pRm d 0 0).locals ≤ (pRm (d + 1) 0 0).locals := by
              constructor
              · show d + 10 + 1 ≤ d + 1 + 10; omega
              · show 8 + ((I en.2.2.1).2.2.1 + 11) + (400 * d + 3000) ≤ 400 * (d + 1) + 3000; omega
            have hrest : (((st.drop (P en.2.2.1).1).map (pV ad tk)).map fun v => v.category).sum ≤ 8 := by
              rw [pV_sum, List.length_drop]; omega
            have hstk : st.map (pV ad tk) = ((pArgs (P en.2.2.1).1 st).map (pV ad tk)).reverse ++ (st.drop (P en.2.2.1).1).map (pV ad tk) := by
              rw [← List.map_reverse, pArgs, List.reverse_reverse, ← List.map_append, List.take_append_drop]
            -- what comes behind the call
            have hgo : ∀ (t : State) (H1 : Heap) (locs1 : List Loc), t.heap = H1 → pBw D cl tys cI cD ad G S1 (va_A (pWld cI cD ad G S) H.size) t → va_S A s.heap H1 locs1 → ∀ pc1, is.head?.map (·.1) = some pc1 →
                W p l e (pRm (d + 1) 0 0) s m args below meth c H1 locs1 0 0 (MQ below (pQ x (pBw D cl tys cI cD ad G S' A) A (I k).2.2.2.1) args s 0 0 A) (F0 m pc1 lsA ((pPush en.2.2.2.1 x1 (st.drop (P en.2.2.1).1)).map (pV ad tk))) := by
              intro t H1 locs1 ht hB hS1 pc1 hpc1
              obtain ⟨b1, b2, b3⟩ := hB
              rw [ht] at b1
              exact ih (d + 1) k is ls _ S1 S' x h hL hLk hF hpc1 hl b1 (b3.weaken (fun _ q _ h2 => hAA _ h2)) hS1
            have hlim : (0 : Nat) + 0 ≤ (pRm (d + 1) 0 0).cells ∧ (0 : Nat) + 0 ≤ (pRm (d + 1) 0 0).slots := ⟨Nat.le_refl _, Nat.le_refl _⟩
            generalize hAs : pArgs (P en.2.2.1).1 st = As at hAl hmet hblind hrc hstk
            obtain ⟨pc, ins, a, b, cc, w⟩ := en
            -- the three ways back
            have hret : ∀ g, rtOk b (I a).2.2.2.1 → is.head?.map (·.1) = some (pc + 3) → va_Run p l e (pRm (d + 1) 0 0) s m args below meth c H locs 0 0 0 0 (F0 m pc lsA g) ((st.drop (P a).1).map (pV ad tk)) (pQ x1 (pBw D cl tys cI cD ad G S1 (va_A (pWld cI cD ad G S) H.size)) (va_A (pWld cI cD ad G S) H.size) (I a).2.2.2.1 (As.map (pV ad tk)).toArray) (va_A (pWld cI cD ad G S) H.size) →
                W p l e (pRm (d + 1) 0 0) s m args below meth c H locs 0 0 (MQ below (pQ x (pBw D cl tys cI cD ad G S' A) A (I k).2.2.2.1) args s 0 0 A) (F0 m pc lsA g) := by
              intro g hrt hnx hrun
              rcases hrt with ⟨hb1, ty, hty⟩ | ⟨hb0, hty⟩
              · rw [hty] at hrun
                refine va_calli (a := (As.map (pV ad tk)).toArray) hrun hS (fun q _ h2 => hAA q h2) hAA (fun r u t H1 locs1 ht hvm hp1 hB1 hz1 hk1 hS1 => ?_)
                have hp1 : r = x1 := hp1
                subst hp1
                have := hgo t H1 locs1 ht hB1 hS1 _ hnx
                rw [show pPush (pc, ins, a, b, cc, w).2.2.2.1 r (st.drop (P a).1) = .int r :: st.drop (P a).1 from by show pPush b _ _ = _; rw [hb1]; rfl] at this
                exact this
              · rw [hty] at hrun
                refine va_callv (a := (As.map (pV ad tk)).toArray) hrun hS (fun q _ h2 => hAA q h2) hAA (fun u t H1 locs1 ht hvm hp1 hB1 hz1 hk1 hS1 => ?_)
                have := hgo t H1 locs1 ht hB1 hS1 _ hnx
                rw [show pPush (pc, ins, a, b, cc, w).2.2.2.1 x1 (st.drop (P a).1) = st.drop (P a).1 from by show pPush b _ _ = _; rw [hb0]; rfl] at this
                exact this
            have hmh : ∀ n', (parseMethodDescriptor (I a).1.desc).map (fun d => d.parameters.length + 1) = some n' → (parseMethodDescriptor (I a).1.desc).map (fun d => d.parameters.length) = some (n' - 1) := by
              intro n' hn'
              cases hq : parseMethodDescriptor (I a).1.desc with
              | none => rw [hq] at hn'; cases hn'
              | some sg => rw [hq] at hn'; cases hn'; rfl
            cases ins with
            | invokevirtual i =>
              obtain ⟨hd, hnx, hrt, hk0, hlk⟩ := hE
              rcases hkind with ⟨-, hdesc, hinst, hsel, hrcv⟩ | ⟨hk1, -⟩ | ⟨hk2, -⟩
              · have hrc : pRcv G (P a).2.2.1 As = true := hrc
                have key : ∃ v As', As = v :: As' ∧ ∃ b0, pV ad tk v = .ref b0 ∧ ∃ cell : Cell, H[b0]? = some cell ∧ cell.vm.isStatics = false ∧ s.vm.findClass (I a).1.cls = some cell.cls := by
                  rcases hrcv with ⟨ci, T, N, hci, hc9, hcl⟩ | ⟨hci, hcls⟩
                  · rw [hci] at hrc
                    unfold pRcv at hrc
                    rw [if_neg (Nat.succ_ne_zero ci)] at hrc
                    split at hrc
                    · rename_i o As' hrc0
                      split at hrc
                      · rename_i ci' fl hg
                        have hcc : ci' = ci := by simpa using hrc
                        subst hcc
                        exact ⟨.ref o, As', rfl, ad o, rfl, va_recv hK hP hcl (pWld_at hg)⟩
                      · cases hrc
                    · have : ci + 1 = 1000 := by
                        simp only [Bool.and_eq_true, decide_eq_true_eq] at hrc
                        exact hrc.1
                      omega
                    · cases hrc
                  · rw [hci] at hrc
                    unfold pRcv at hrc
                    rw [if_neg (by decide)] at hrc
                    split at hrc
                    · rename_i o As' hrc0
                      split at hrc
                      · rename_i ci' fl hg
                        have hcc : ci' + 1 = 1000 := by simpa using hrc
                        obtain ⟨r, hr, -⟩ := hP o _ (pWld_at hg)
                        have hlt := (List.getElem?_eq_some_iff.mp hr).1
                        have := hcl9
                        omega
                      · cases hrc
                    · rename_i w As' hrc0
                      have hw : w.toNat < 2 := by
                        simp only [Bool.and_eq_true, decide_eq_true_eq] at hrc
                        exact hrc.2
                      rw [hcls]
                      exact ⟨.float w, As', rfl, tk.1 w.toNat, rfl, vk_recv hX.1 hw hS⟩
                    · cases hrc
                obtain ⟨v, As', rfl, b0, hv0, hrecv⟩ := key
                refine hret _ hrt hnx ?_
                have e1 : (v :: As').map (pV ad tk) = .ref b0 :: As'.map (pV ad tk) := by rw [List.map_cons, hv0]
                rw [e1] at hmet hblind hstk ⊢
                refine va_runV (As := As'.map (pV ad tk)) (b := b0) (C := (I a).1.cls) (n := (P a).1 - 1) ⟨hx, hb, hml, hown, hts⟩ hmet ⟨callB_of _ hts hgood rfl rfl rfl (hts _ hiniw) (hts _ hlk) ⟨hne.1, hne.2, hmh _ hdesc⟩ hroom, hts _ hinst, hts _ hsel⟩ ⟨hblind, hrecv, fun U hU hW => ⟨rfl, hpre U hU hW⟩⟩ rfl ?_ hl.1 ?_ (lv_room hrest) hd hlim
                · simp only [List.length_map]
                  simp only [List.length_cons] at hAl
                  show As'.length = (P a).1 - 1
                  have hAl : As'.length + 1 = (P a).1 := hAl
                  omega
                · show st.map (pV ad tk) = _
                  rw [hstk]
                  simp
              · exact absurd (hk0.symm.trans hk1) (by decide)
              · exact absurd (hk0.symm.trans hk2) (by decide)
            | invokestatic i =>
              obtain ⟨hd, hnx, hrt, hk0, hlk⟩ := hE
              rcases hkind with ⟨hk1, -⟩ | ⟨-, hdesc, hstat⟩ | ⟨hk2, -⟩
              · exact absurd (hk1.symm.trans hk0) (by decide)
              · refine hret _ hrt hnx ?_
                rcases hlk with hlk | ⟨host, hlk⟩
                · exact va_runS (As := As.map (pV ad tk)) (n := (P a).1) ⟨hx, hb, hml, hown, hts⟩ hmet ⟨callB_of _ hts hgood rfl rfl rfl (hts _ hiniw) (hts _ hlk) ⟨hne.1, hne.2, hdesc⟩ hroom, hts _ hstat⟩ ⟨hblind, fun U hU hW => ⟨rfl, hpre U hU hW⟩⟩ rfl (by rw [List.length_map]; exact hAl) hl.1 hstk (lv_room hrest) hd hlim
                · exact va_runSN (As := As.map (pV ad tk)) (n := (P a).1) ⟨hx, hb, hml, hown, hts⟩ hmet ⟨va_cnB _ hts hgood rfl rfl rfl (hX.2.2.2.2.2.1 _ hlk) (hts _ hiniw) ⟨hne.1, hne.2, hdesc⟩ hroom, hts _ hstat, trivial⟩ ⟨hblind, fun U hU hW => ⟨rfl, hpre U hU hW⟩⟩ rfl (by rw [List.length_map]; exact hAl) hl.1 hstk (lv_room hrest) hd hlim
              · exact absurd (hk0.symm.trans hk2) (by decide)
            | _ => exact hE.elim
        · cases h
      · cases h
end RUN
