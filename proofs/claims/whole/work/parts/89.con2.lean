theorem pWld_push {cI cD : ClassId} {ad : Nat → Nat} {G : List pSh} {S S' : pS} {sh : pSh} {x : va_E} {q : Nat} (hwf : wfG G S = true) (hS : ∀ i, i < G.length → S'.1 i = S.1 i ∧ S'.2.1 i = S.2.1 i ∧ S'.2.2 i = S.2.2 i) (hx : pCell cI cD (fun i => if i = G.length then q else ad i) S' G.length sh = x) :
    pWld cI cD ad G S ++ [(q, x)] = pWld cI cD (fun i => if i = G.length then q else ad i) (G ++ [sh]) S' := by
  have h1 : pWld cI cD ad G S = pWld cI cD (fun i => if i = G.length then q else ad i) G S := (pWld_ad (fun i hi => if_neg (Nat.ne_of_lt hi)) hwf).symm
  rw [h1]
  apply List.ext_getElem?
  intro j
  by_cases hj : j < G.length
  · rw [List.getElem?_append_left (by simp [pWld]; exact hj)]
    unfold pWld
    rw [List.getElem?_mapIdx, List.getElem?_mapIdx, List.getElem?_append_left hj]
    cases hg : G[j]? with
    | none => rfl
    | some s =>
      simp only [Option.map_some]
      obtain ⟨a1, a2, a3⟩ := hS j hj
      rcases s with ⟨c, fl⟩ | n | n
      · simp [pCell, a1]
      · simp [pCell, a2]
      · simp [pCell, a3]
  · rw [List.getElem?_append_right (by simp [pWld]; omega)]
    have hl : (pWld cI cD (fun i => if i = G.length then q else ad i) G S).length = G.length := by simp [pWld]
    rw [hl]
    unfold pWld
    rw [List.getElem?_mapIdx, List.getElem?_append_right (by omega)]
    by_cases hj2 : j = G.length
    · subst hj2
      simp only [Nat.sub_self]
      rw [← hx]
      simp
    · obtain ⟨z, hz⟩ : ∃ z, j - G.length = z + 1 := ⟨j - G.length - 1, by omega⟩
      rw [hz]
      rfl
theorem pWld_setG {cI cD : ClassId} {ad : Nat → Nat} {G : List pSh} {S : pS} {o ci a j : Nat} {fl : List (Option (Option Nat))} {y : Option Nat} (h : G[o]? = some (.inl (ci, fl))) (hf : fl[a]? = some (some y)) :
    (pWld cI cD ad G S).set o (ad o, .inr (ci, (fl.mapIdx (pFld ad (S.1 o))).set a (.ref (ad j)))) = pWld cI cD ad (G.set o (.inl (ci, fl.set a (some (some j))))) S := by
  apply List.ext_getElem?
  intro i
  unfold pWld
  rw [List.getElem?_set, List.getElem?_mapIdx, List.getElem?_mapIdx, List.getElem?_set, List.length_mapIdx]
  have hl : o < G.length := (List.getElem?_eq_some_iff.mp h).1
  by_cases hi : o = i
  · subst hi
    simp only [if_true, hl, Option.map_some, pCell]
    congr 4
    apply List.ext_getElem?
    intro k
    rw [List.getElem?_set, List.getElem?_mapIdx, List.getElem?_mapIdx, List.getElem?_set, List.length_mapIdx]
    have hk : a < fl.length := (List.getElem?_eq_some_iff.mp hf).1
    by_cases hk2 : a = k
    · subst hk2
      simp only [if_true, hk, Option.map_some, pFld]
    · simp only [hk2, if_false]
  · simp only [hi, if_false]
/-- no cell is referred to -/
def nrf : Option (Option Nat) → Bool
  | some (some _) => false
  | _ => true
theorem nrf_ad {ad ad' : Nat → Nat} {f : Nat → Int32} {fl : List (Option (Option Nat))} (h : fl.all nrf = true) : fl.mapIdx (pFld ad f) = fl.mapIdx (pFld ad' f) := by
  apply List.ext_getElem?
  intro k
  rw [List.getElem?_mapIdx, List.getElem?_mapIdx]
  cases hk : fl[k]? with
  | none => rfl
  | some o =>
    have h1 := List.all_eq_true.mp h o (List.mem_of_getElem? hk)
    rcases o with _ | _ | j
    · rfl
    · rfl
    · cases h1
/-- what a row asks that makes a cell or calls a constructor -/
def MkOk (pr : Nat → List (Option (Option Nat))) (cl : List vw_C) (GW : List Cond) (I : Nat → pN) (own : String) (bytes : ByteArray) (nx : Option Nat) : pI → Prop
  | (pc, .new i, _, b, _, _) => decode bytes pc = .ok (.new i, 3) ∧ nx = some (pc + 3) ∧ ∃ (C : String) (T : u_T) (N : Nat) (ty : Nat → FieldType), cl[b]? = some (C, T, N) ∧ (∀ w ∈ u_ws C T N, w ∈ GW) ∧ (∀ k, k < N → parseFieldDescriptor (T k).2.2.1 = some (ty k)) ∧ Cond.classLink own i C ∈ GW ∧ Cond.instantiable C N ∈ GW ∧ Cond.initialized C ∈ GW ∧ (pr b).length = N ∧ (∀ (ad : Nat → Nat) (j : Nat), j < N → defaultValue (ty j) = vp_V ((pr b).mapIdx (pFld ad (fun _ => 0))) j) ∧ (pr b).all nrf = true
  | (pc, .newarray t, _, _, _, _) => t = .int ∧ decode bytes pc = .ok (.newarray .int, 2) ∧ nx = some (pc + 2) ∧ Cond.arrayClass .int ∈ GW
  | (pc, .anewarray i, _, _, _, _) => decode bytes pc = .ok (.anewarray i, 3) ∧ nx = some (pc + 3) ∧ Cond.classLink own i "CardDrawer$Drawer" ∈ GW
  | (pc, .invokespecial i, a, _, _, _) => decode bytes pc = .ok (.invokespecial i, 3) ∧ nx = some (pc + 3) ∧ (I a).2.2.2.1 = none ∧ (I a).2.2.2.2 = 2 ∧ (Cond.methodLink own i (I a).1 ∈ GW ∨ ∃ host, (own, i, (I a).1, host) ∈ pNL)
  | _ => False
section CON
variable {P : Nat → pM} {pr : Nat → List (Option (Option Nat))} {I : Nat → pN} {GW : List Cond} {D : va_G} {cl : List vw_C} {tys : List (ClassId × FieldType)} {cI cD : ClassId} {tk : pTk}
def AOk2 (pr : Nat → List (Option (Option Nat))) (I : Nat → pN) (GW : List Cond) (cl : List vw_C) (tys : List (ClassId × FieldType)) (cD : ClassId) (k : Nat) (nx : Option Nat) (e : pI) : Prop :=
  (pKind e = 0 → EOk cl tys cD GW (I k).1.cls (I k).2.1 (I k).2.2.1 (decide ((I k).1.name = "<init>")) nx e) ∧ (pKind e = 2 → ROk (I k).2.1 (I k).2.2.2.1 e) ∧ (pKind e = 3 → MkOk pr cl GW I (I k).1.cls (I k).2.1 nx e) ∧
  (pKind e = 4 → MkOk pr cl GW I (I k).1.cls (I k).2.1 nx e ∨ EOk cl tys cD GW (I k).1.cls (I k).2.1 (I k).2.2.1 (decide ((I k).1.name = "<init>")) nx e)
def LOk2 (pr : Nat → List (Option (Option Nat))) (I : Nat → pN) (GW : List Cond) (cl : List vw_C) (tys : List (ClassId × FieldType)) (cD : ClassId) (k : Nat) : List pI → Prop
  | [] => True
  | e :: is => AOk2 pr I GW cl tys cD k (is.head?.map (·.1)) e ∧ LOk2 pr I GW cl tys cD k is
theorem LOk2.drop {k pc : Nat} {is : List pI} (h : LOk2 pr I GW cl tys cD k is) : LOk2 pr I GW cl tys cD k (pJmp is pc) := by
  induction is with
  | nil => exact h
  | cons e is ih =>
    unfold pJmp
    rw [List.dropWhile_cons]
    split
    · exact ih h.2
    · exact h
/-- what is asked of a constructor -/
def MOk2 (P : Nat → pM) (pr : Nat → List (Option (Option Nat))) (I : Nat → pN) (GW : List Cond) (cl : List vw_C) (tys : List (ClassId × FieldType)) (cD : ClassId) (a : Nat) : Prop :=
  Cond.code (I a).1 (I a).2.1 (I a).2.2.1 (I a).2.2.2.1 ∈ GW ∧ Cond.initialized (I a).1.cls ∈ GW ∧ plainName (I a).1.cls = true ∧ ((I a).1.cls ≠ "java/lang/invoke/MethodHandle" ∧ (I a).1.cls ≠ "java/lang/invoke/VarHandle") ∧
  (I a).2.2.1 ≤ 300 ∧ (P a).2.1 = (I a).2.2.1 ∧ (P a).1 ≤ (P a).2.1 ∧ (P a).2.2.2.head?.map (·.1) = some 0 ∧ LOk2 pr I GW cl tys cD a (P a).2.2.2 ∧
  (I a).2.2.2.2 = 2 ∧ (I a).2.2.2.1 = none ∧ (parseMethodDescriptor (I a).1.desc).map (fun d => d.parameters.length + 1) = some (P a).1 ∧ 1 ≤ (P a).1 ∧ Cond.instanceMethod (I a).1 ∈ GW ∧ (I a).1.name = "<init>"
def pQc (D : va_G) (cl : List vw_C) (tys : List (ClassId × FieldType)) (cI cD : ClassId) (n0 : Nat) (ad0 : Nat → Nat) (G : List pSh) (S : pS) (A : Nat → Prop) : Array Value → State → Outcome → State → Prop :=
  va_Qv (fun ad' : Nat → Nat => ∀ i, i < n0 → ad' i = ad0 i) (fun ad' => pBw D cl tys cI cD ad' G S A) A
theorem met_con {l : Launch} {d a mc ms : Nat} {ad : Nat → Nat} {G G' : List pSh} {S S' : pS} {As : List Value} {sz : Nat} (hM : MOk2 P pr I GW cl tys cD a) (hAs : As.length = (P a).1)
    (hW : ∀ {p : Program} {e : Env} {s : State} {m : MethodId} {args : Array Value} {below : List Frame} {meth : Method} {c : Code} {A : Nat → Prop} {lsA : Array Slot}, FrOk I GW D cl tys tk a p s m args meth c A → pHas ad tk lsA (I a).2.2.1 (pLs (P a) As) → va_P D cl (pWld cI cD ad G S) s.heap → va_D A (pWld cI cD ad G S) → W p l e (pRm d mc ms) s m args below meth c s.heap [] 0 0 (MQ below (pQc D cl tys cI cD G.length ad G' S' A) args s mc ms A) (F0 m 0 lsA [])) :
    Met l (I a).1 (pWs GW I a) (pRm d mc ms) (va_Pc (As.map (pV ad tk)) (pPre D cl tys cI cD ad tk G S sz)) (pQc D cl tys cI cD G.length ad G' S' (va_A (pWld cI cD ad G S) sz)) mc ms (va_A (pWld cI cD ad G S) sz) := by
  obtain ⟨hcode, hini, hpl, hne, h300, hpl2, hargs, h0, hL, -⟩ := hM
  refine Met.ofW (cc := (I a).2.1) (maxL := (I a).2.2.1) (ret := (I a).2.2.2.1) hpl rfl ?_
  intro p e s m args below meth c s₁ B hml hv
  obtain ⟨rfl, rfl, hP, hK, hD, hX⟩ := hv
  have hts : ∀ w ∈ pWs GW I a, w.before (As.map (pV ad tk)).toArray s = true := atoms_spec (ws := pWs GW I a) B.pre
  have hown : s.vm.findClass (I a).1.cls = some m.cls := findClass_of_methodNamed B.named
  have hin : meth.name = (I a).1.name := (name_of_methodNamed B.named B.method).1
  rw [lg_entry_eq]
  exact hW ⟨B.exec, B.bytes, hml, fun w h => hts w (List.mem_cons_of_mem _ h), hown, B.returns, B.notSynchronized, fun h => hin.trans h, hK, hX, fun q h => Or.inr h⟩ (pHas.entry (by omega)) hP hD.self
set_option maxHeartbeats 4000000 in
/-- THE RUN of a constructor -/
theorem exec_W {l : Launch} (hG : ∀ w ∈ GW, goodWord w = true) (hcl9 : cl.length < 99) (ht0 : tys[0]? = some (cI, .int)) (ht1 : tys[1]? = some (cD, .object "CardDrawer$Drawer")) (hM : ∀ a, (P a).2.2.2 ≠ [] → (∃ (n d : Nat) (ls : List Value) (G : List pSh) (S : pS) (r : List pSh × pS), exec P pr n d a (P a).2.2.2 ls [] G S = some r ∧ (I a).2.2.2.2 = 2) → MOk2 P pr I GW cl tys cD a) :
    ∀ (n d k : Nat) (is : List pI) (ls st : List Value) (G G' : List pSh) (S S' : pS), exec P pr n d k is ls st G S = some (G', S') → LOk2 pr I GW cl tys cD k is → LOk2 pr I GW cl tys cD k (P k).2.2.2 →
    ∀ {p : Program} {e : Env} {s : State} {m : MethodId} {args : Array Value} {below : List Frame} {meth : Method} {c : Code} {A : Nat → Prop} {H : Heap} {locs : List Loc} {lsA : Array Slot} {pc n0 mc ms cells slots : Nat} {ad ad0 : Nat → Nat}, FrOk I GW D cl tys tk k p s m args meth c A → (I k).2.2.2.1 = none → is.head?.map (·.1) = some pc → pHas ad tk lsA (I k).2.2.1 ls → va_P D cl (pWld cI cD ad G S) H → va_D A (pWld cI cD ad G S) → va_S A s.heap H locs →
      (∀ i, i < n0 → ad i = ad0 i) → n0 ≤ G.length → cells + (G'.length - G.length) ≤ mc → slots + (slG G' - slG G) ≤ ms →
      W p l e (pRm d mc ms) s m args below meth c H locs cells slots (MQ below (pQc D cl tys cI cD n0 ad0 G' S' A) args s mc ms A) (F0 m pc lsA (st.map (pV ad tk))) := by
  intro n
  induction n with
  | zero => intro d k is ls st G G' S S' h; rw [exec_zero] at h; cases h
  | succ n ih =>
    intro d k is ls st G G' S S' h hL hLk p e s m args below meth c A H locs lsA pc n0 mc ms cells slots ad ad0 hF hrn hpc hl hP hD hS had hn0 hmc hms
    cases is with
    | nil => rw [exec_nil] at h; cases h
    | cons en is =>
      have hpc : pc = en.1 := by simpa using hpc.symm
      subst hpc
      obtain ⟨hA1, hL⟩ := hL
      obtain ⟨hE0, hE2, hE3, hE4⟩ := hA1
      obtain ⟨hx, hb, hml, hts, hown, hr, hlocks, hin, hK, hX, hA⟩ := id hF
      rw [exec_cons] at h
      split at h
      · -- a plain instruction
        rename_i hk
        split at h
        · cases h
        · rename_i j ls' st' S1 hs
          refine pw_step hx hb hml hts hown (fun q => hin (by simpa using q)) hK hX hcl9 ht0 ht1 (by show 1 ≤ d + 10; omega) (by show 2000 ≤ 400 * d + 3000; omega) ⟨by show cells ≤ mc; omega, by show slots ≤ ms; omega⟩ hk (hE0 hk) hs hl hP hD hS ?_
          intro H1 locs1 lsA1 pc1 hto hl1 hP1 hD1 hS1
          cases hn : pNext (P k).2.2.2 is j with
          | nil => rw [hn, exec_nil] at h; cases h
          | cons e2 is2 =>
            refine ih d k _ ls' st' G G' S1 S' h ?_ hLk hF hrn ?_ hl1 hP1 hD1 hS1 had hn0 hmc hms
            · cases j with
              | none => exact hL
              | some t => exact LOk2.drop hLk
            · rw [hn]
              cases j with
              | none =>
                have hn : is = e2 :: is2 := hn
                have hto : is.head?.map (·.1) = some pc1 := hto
                rw [hn] at hto
                exact hto
              | some t =>
                have hto : pc1 = t := hto
                rw [hto, ← pJmp_head (hn : pJmp _ t = e2 :: is2)]
                rfl
      · -- the end
        rename_i hk
        have hE := hE2 hk
        split at h
        · cases h
          obtain ⟨pc, ins, a, b, cc, w⟩ := en
          cases ins with
          | return_ =>
            obtain ⟨hd, hret⟩ := hE
            refine W.widen (k := mc) (n := ms) (by omega) (by omega) ?_
            refine W.vret hx hb (hr.trans hret) (fun t ht hW => ?_) hS.2.2 hd hlocks
            exact ⟨⟨ad, rfl, had, by rw [ht]; exact hP, va_K.moved hW.alike hK, hD⟩, hS.F ht⟩
          | ireturn => cases hk
          | _ => exact hE.elim
        · cases h
      · -- a constructor is called
        rename_i hk
        have hE := hE3 hk
        split at h
        · rename_i hg
          obtain ⟨hd0, hge, hle, hwf, hwl, hws, hhd⟩ := hg
          split at h
          · cases h
          · rename_i G1 S1 hcall
            obtain ⟨d, rfl⟩ : ∃ d', d = d' + 1 := ⟨d - 1, by omega⟩
            simp only [Nat.add_sub_cancel] at hcall
            obtain ⟨pc, ins, a, b, cc, w⟩ := en
            cases ins with
            | invokespecial i =>
              obtain ⟨hd, hnx, hrn2, hk2, hlk⟩ := hE
              have hcall : exec P pr n d a (P a).2.2.2 (pLs (P a) (pArgs (P a).1 st)) [] G S = some (G1, S1) := hcall
              have h : exec P pr n (d + 1) k is ls (st.drop (P a).1) G1 S1 = some (G', S') := h
              have hge : (P a).1 ≤ st.length := hge
              have hle : st.length ≤ (P a).1 + 8 := hle
              have hnil : (P a).2.2.2 ≠ [] := fun q => by rw [q, exec_nil] at hcall; cases hcall
              have hMa := hM a hnil ⟨n, d, _, G, S, _, hcall, hk2⟩
              obtain ⟨hcode, hiniw, hpl, hne, h300, hpl2, hargs, h0, hLa, -, -, hdesc, h1a, hinst, hnm⟩ := id hMa
              have m1 := exec_mono P pr _ _ _ _ _ _ _ _ _ _ hcall
              have m2 := exec_mono P pr _ _ _ _ _ _ _ _ _ _ h
              have hAl : (pArgs (P a).1 st).length = (P a).1 := by simp [pArgs]; omega
              have hmet := met_con (l := l) (d := d) (mc := G1.length - G.length) (ms := slG G1 - slG G) (G' := G1) (S' := S1) (sz := H.size) (D := D) (cI := cI) (ad := ad) (tk := tk) hMa hAl (fun hF2 hl2 hP2 hD2 => ih d a _ _ [] G G1 S S1 hcall hLa hLa hF2 hrn2 h0 hl2 hP2 hD2 va_S.rf (fun _ _ => rfl) (Nat.le_refl _) (by omega) (by omega))
              have hAA : ∀ q, va_A (pWld cI cD ad G S) H.size q → A q := by
                rintro q (⟨k2, e2, h2⟩ | h2)
                · exact hD.2 k2 (q, e2) h2
                · exact hA q (Nat.le_trans hS.1 h2)
              have hblind : FrameBlind (va_Pc ((pArgs (P a).1 st).map (pV ad tk)) (pPre D cl tys cI cD ad tk G S H.size)) := by
                rintro a U g mk ⟨q0, q1, q2, q3, q4, q5⟩
                exact ⟨q0, q1, q2, va_K.moved (u := U) (U := U.calling g mk a) (Vm.Alike.refl U.vm) q3, q4, q5.blind⟩
              have hpre : ∀ U : State, U.heap = H → s.WarmedH U.vm → pPre D cl tys cI cD ad tk G S H.size U := by
                intro U hU hW
                refine ⟨by rw [hU], by rw [hU]; exact hP, va_K.moved hW.alike hK, hD.weaken (fun _ _ _ _ => trivial), hX.call hW ?_ hAA⟩
                rw [hU]
                exact hS.2.1
              have hgood : GoodIn GW (pWs GW I a) := by
                intro w hw
                rcases List.mem_cons.mp hw with rfl | hw
                · exact ⟨hcode, good_of_word (hG _ hcode)⟩
                · exact ⟨hw, good_of_word (hG _ hw)⟩
              have hroom : (pRm d (G1.length - G.length) (slG G1 - slG G)).frames + 1 ≤ (pRm (d + 1) mc ms).frames ∧ 8 + ((I a).2.2.1 + 11) + (pRm d (G1.length - G.length) (slG G1 - slG G)).locals ≤ (pRm (d + 1) mc ms).locals := by
                constructor
                · show d + 10 + 1 ≤ d + 1 + 10; omega
                · show 8 + ((I a).2.2.1 + 11) + (400 * d + 3000) ≤ 400 * (d + 1) + 3000; omega
              have hrest : (((st.drop (P a).1).map (pV ad tk)).map fun v => v.category).sum ≤ 8 := by
                rw [pV_sum, List.length_drop]; omega
              have hstk : st.map (pV ad tk) = ((pArgs (P a).1 st).map (pV ad tk)).reverse ++ (st.drop (P a).1).map (pV ad tk) := by
                rw [← List.map_reverse, pArgs, List.reverse_reverse, ← List.map_append, List.take_append_drop]
              have hlim : cells + (G1.length - G.length) ≤ (pRm (d + 1) mc ms).cells ∧ slots + (slG G1 - slG G) ≤ (pRm (d + 1) mc ms).slots := ⟨by show cells + (G1.length - G.length) ≤ mc; omega, by show slots + (slG G1 - slG G) ≤ ms; omega⟩
              have hmh : (parseMethodDescriptor (I a).1.desc).map (fun d => d.parameters.length) = some ((P a).1 - 1) := by
                cases hq : parseMethodDescriptor (I a).1.desc with
                | none => rw [hq] at hdesc; cases hdesc
                | some sg =>
                  rw [hq] at hdesc
                  simp only [Option.map_some, Option.some.injEq] at hdesc ⊢
                  omega
              have hwst : (st.drop (P a).1).all (wfV G.length) = true := List.all_eq_true.mpr (fun v hv => List.all_eq_true.mp hws v (List.mem_of_mem_drop hv))
              have hret : ∀ g, va_Run p l e (pRm (d + 1) mc ms) s m args below meth c H locs cells slots (G1.length - G.length) (slG G1 - slG G) (F0 m pc lsA g) ((st.drop (P a).1).map (pV ad tk)) (pQc D cl tys cI cD G.length ad G1 S1 (va_A (pWld cI cD ad G S) H.size) ((pArgs (P a).1 st).map (pV ad tk)).toArray) (va_A (pWld cI cD ad G S) H.size) →
                  W p l e (pRm (d + 1) mc ms) s m args below meth c H locs cells slots (MQ below (pQc D cl tys cI cD n0 ad0 G' S' A) args s mc ms A) (F0 m pc lsA g) := by
                intro g hrun
                refine va_callv (a := ((pArgs (P a).1 st).map (pV ad tk)).toArray) hrun hS (fun q _ h2 => hAA q h2) hAA (fun ad1 t H1 locs1 ht hvm hp1 hB1 hz1 hk1 hS1 => ?_)
                obtain ⟨b1, b2, b3⟩ := hB1
                rw [ht] at b1
                rw [← pVs_ad (tk := tk) hp1 hwst]
                exact ih (d + 1) k is ls _ G1 G' S1 S' h hL hLk hF hrn hnx (pHas_ad hp1 hwl hl) b1 (b3.weaken (fun _ q _ h2 => hAA _ h2)) hS1 (fun i hi => by rw [hp1 i (by omega), had i hi]) (by omega) (by omega) (by omega)
              refine hret _ ?_
              have hhd : pHd (pArgs (P a).1 st) = true := hhd
              generalize hAs : pArgs (P a).1 st = As at hAl hmet hblind hstk hhd
              cases As with
              | nil => simp at hAl; omega
              | cons v As' =>
                have hv : ∃ b0, pV ad tk v = .ref b0 := by
                  cases v with
                  | ref o => exact ⟨ad o, rfl⟩
                  | _ => cases hhd
                obtain ⟨b0, hv⟩ := hv
                have e1 : (v :: As').map (pV ad tk) = .ref b0 :: As'.map (pV ad tk) := by rw [List.map_cons, hv]
                rw [e1] at hmet hblind hstk ⊢
                have hnn : (As'.map (pV ad tk)).length = (P a).1 - 1 := by
                  simp only [List.length_map]
                  simp only [List.length_cons] at hAl
                  omega
                have hst2 : (F0 m pc lsA (st.map (pV ad tk))).stack = (As'.map (pV ad tk)).reverse ++ .ref b0 :: (st.drop (P a).1).map (pV ad tk) := by
                  show st.map (pV ad tk) = _
                  rw [hstk]
                  simp
                rcases hlk with hlk | ⟨host, hlk⟩
                · have hcb := callB_of (R := pRm (d + 1) mc ms) (bytes := (I a).2.1) (maxL := (I a).2.2.1) (ret := none) ((P a).1 - 1) hts hgood (by rw [pWs, hrn2]) rfl rfl (hts _ hiniw) (hts _ hlk) ⟨hne.1, hne.2, hmh⟩ hroom
                  exact va_runI (As := As'.map (pV ad tk)) (b := b0) (n := (P a).1 - 1) ⟨hx, hb, hml, hown, hts⟩ hmet ⟨hcb, hnm, hts _ hinst⟩ ⟨hblind, fun U hU hW => ⟨rfl, hpre U hU hW⟩⟩ rfl hnn hl.1 hst2 (lv_room hrest) hd hlim
                · have hcb := va_cnB (R := pRm (d + 1) mc ms) (bytes := (I a).2.1) (maxL := (I a).2.2.1) (ret := none) ((P a).1 - 1) hts hgood (by rw [pWs, hrn2]) rfl rfl (hX.2.2.2.2.2.1 _ hlk) (hts _ hiniw) ⟨hne.1, hne.2, hmh⟩ hroom
                  exact va_runIN (As := As'.map (pV ad tk)) (b := b0) (n := (P a).1 - 1) ⟨hx, hb, hml, hown, hts⟩ hmet ⟨hcb, hnm, hts _ hinst⟩ ⟨hblind, fun U hU hW => ⟨rfl, hpre U hU hW⟩⟩ rfl hnn hl.1 hst2 (lv_room hrest) hd hlim
            | new i => cases hk
            | newarray i => cases hk
            | anewarray i => cases hk
            | _ => exact hE.elim
        · cases h
      · -- a cell is made, or a reference put
        rename_i hk
        have hE := hE4 hk
        split at h
        · rename_i hg
          obtain ⟨hwf, hwl, hws⟩ := hg
          split at h
          · cases h
          · rename_i st1 G1 S1 hmk
            have m2 := exec_mono P pr _ _ _ _ _ _ _ _ _ _ h
            have hnx0 : is ≠ [] := fun q => by rw [q, exec_nil] at h; cases h
            obtain ⟨pc, ins, a, b, cc, w⟩ := en
            have hadn : ∀ (q : Nat) (i : Nat), i < G.length → (fun i => if i = G.length then q else ad i) i = ad i := fun q i hi => if_neg (Nat.ne_of_lt hi)
            cases ins with
            | new i =>
              rcases hE with hE | hE
              · obtain ⟨hd, hnx, C, T, N, ty, hc, hin2, hty, hcl, hinst, hini, hlen, hfs, hnrf⟩ := hE
                simp only [pMk] at hmk
                cases hmk
                have hsl : slG (G ++ [Sum.inl (b, pr b)]) = slG G + N := by rw [slG_app]; simp [slG, hlen]
                have hle : (G ++ [Sum.inl (b, pr b)]).length = G.length + 1 := by simp
                refine va_new hx hb hts hin2 ty hty hown (hts _ hcl) (hts _ hinst) (hts _ hini) hK hP hD hS hA hc (fs := (pr b).mapIdx (pFld ad (fun _ => 0))) (hfs ad) (by show cells + 1 ≤ mc; omega) (by show slots + N ≤ ms; omega) hd (fun q H1 q1 q2 q3 => ?_)
                have hcell : pCell cI cD (fun i => if i = G.length then q else ad i) (fun o => if o = G.length then (fun _ => 0) else S.1 o, S.2.1, S.2.2) G.length (.inl (b, pr b)) = .inr (b, (pr b).mapIdx (pFld ad (fun _ => 0))) := by
                  simp only [pCell, if_true]
                  rw [nrf_ad (ad' := ad) hnrf]
                rw [pWld_push (S' := (fun o => if o = G.length then (fun _ => 0) else S.1 o, S.2.1, S.2.2)) hwf (fun i hi => ⟨if_neg (Nat.ne_of_lt hi), rfl, rfl⟩) hcell] at q1 q2
                have hst : (Value.ref q :: st.map (pV ad tk)) = (Value.ref G.length :: st).map (pV (fun i => if i = G.length then q else ad i) tk) := by
                  rw [List.map_cons, pVs_ad (hadn q) hws]
                  simp [pV]
                rw [hst]
                exact ih d k is ls _ _ G' _ S' h hL hLk hF hrn hnx (pHas_ad (hadn q) hwl hl) q1 q2 q3 (fun i hi => (hadn q i (by omega)).trans (had i hi)) (by omega) (by omega) (by omega)
              · exact hE.elim
            | newarray t =>
              rcases hE with hE | hE
              · obtain ⟨rfl, hd, hnx, harr⟩ := hE
                simp only [pMk] at hmk
                split at hmk
                · rename_i nn st0
                  split at hmk
                  · rename_i hnn
                    cases hmk
                    have hsl : slG (G ++ [Sum.inr (Sum.inl nn.toNatClampNeg)]) = slG G + nn.toNatClampNeg := by rw [slG_app]; simp [slG]
                    have hle : (G ++ [Sum.inr (Sum.inl nn.toNatClampNeg)] : List pSh).length = G.length + 1 := by simp
                    have hws0 : st0.all (wfV G.length) = true := by simp only [List.all_cons, Bool.and_eq_true] at hws; exact hws.2
                    refine va_newa (atype := .int) (ty := .int) hx hb (hts _ harr) rfl hK hP hD hS hA (a0 := (nn.toNatClampNeg, .inl (fun _ => 0))) (fun cA => rfl) (Int32.not_lt.mpr hnn.1) rfl (by show nn.toNatClampNeg * 4 ≤ 536870912; omega) (by show cells + 1 ≤ mc; omega) (by show slots + nn.toNatClampNeg ≤ ms; omega) hd (fun q cA H1 qK q1 q2 q3 => ?_)
                    have hcA : cA = cI := by
                      have e1 := (qK.2 tys.length (cA, .int) (by simp)).2
                      have e2 := (hK.2 0 _ ht0).2
                      exact Option.some.inj (e1.symm.trans e2)
                    subst hcA
                    have hcell : pCell cA cD (fun i => if i = G.length then q else ad i) (S.1, fun o => if o = G.length then (fun _ => 0) else S.2.1 o, S.2.2) G.length (.inr (.inl nn.toNatClampNeg)) = .inl (cA, nn.toNatClampNeg, .inl (fun _ => 0)) := by
                      simp [pCell]
                    rw [pWld_push (S' := (S.1, fun o => if o = G.length then (fun _ => 0) else S.2.1 o, S.2.2)) hwf (fun i hi => ⟨rfl, if_neg (Nat.ne_of_lt hi), rfl⟩) hcell] at q1 q2
                    have hst : (Value.ref q :: st0.map (pV ad tk)) = (Value.ref G.length :: st0).map (pV (fun i => if i = G.length then q else ad i) tk) := by
                      rw [List.map_cons, pVs_ad (hadn q) hws0]
                      simp [pV]
                    rw [hst]
                    exact ih d k is ls _ _ G' _ S' h hL hLk hF hrn hnx (pHas_ad (hadn q) hwl hl) q1 q2 q3 (fun i hi => (hadn q i (by omega)).trans (had i hi)) (by omega) (by omega) (by omega)
                  · cases hmk
                · cases hmk
              · exact hE.elim
            | anewarray i =>
              rcases hE with hE | hE
              · obtain ⟨hd, hnx, hcl⟩ := hE
                simp only [pMk] at hmk
                split at hmk
                · rename_i nn st0
                  split at hmk
                  · rename_i hnn
                    cases hmk
                    have hsl : slG (G ++ [Sum.inr (Sum.inr nn.toNatClampNeg)]) = slG G + nn.toNatClampNeg := by rw [slG_app]; simp [slG]
                    have hle : (G ++ [Sum.inr (Sum.inr nn.toNatClampNeg)] : List pSh).length = G.length + 1 := by simp
                    have hws0 : st0.all (wfV G.length) = true := by simp only [List.all_cons, Bool.and_eq_true] at hws; exact hws.2
                    refine va_newq hx hb hown (hts _ hcl) hX.2.2.2.2.2.2 hK hP hD hS hA (Int32.not_lt.mpr hnn.1) rfl (by omega) (by show cells + 1 ≤ mc; omega) (by show slots + nn.toNatClampNeg ≤ ms; omega) hd (fun q cA H1 qK q1 q2 q3 => ?_)
                    have hcA : cA = cD := by
                      obtain ⟨_, _, _, _, _, e1⟩ := (qK.2 tys.length (cA, .object "CardDrawer$Drawer") (by simp)).2
                      obtain ⟨_, _, _, _, _, e2⟩ := (hK.2 1 _ ht1).2
                      exact Option.some.inj (e1.symm.trans e2)
                    subst hcA
                    have hcell : pCell cI cA (fun i => if i = G.length then q else ad i) (S.1, S.2.1, fun o => if o = G.length then (fun _ => none) else S.2.2 o) G.length (.inr (.inr nn.toNatClampNeg)) = .inl (cA, nn.toNatClampNeg, .inr (.inr (.inr (.inr (fun _ => none))))) := by
                      simp [pCell]
                    rw [pWld_push (S' := (S.1, S.2.1, fun o => if o = G.length then (fun _ => none) else S.2.2 o)) hwf (fun i hi => ⟨rfl, rfl, if_neg (Nat.ne_of_lt hi)⟩) hcell] at q1 q2
                    have hst : (Value.ref q :: st0.map (pV ad tk)) = (Value.ref G.length :: st0).map (pV (fun i => if i = G.length then q else ad i) tk) := by
                      rw [List.map_cons, pVs_ad (hadn q) hws0]
                      simp [pV]
                    rw [hst]
                    exact ih d k is ls _ _ G' _ S' h hL hLk hF hrn hnx (pHas_ad (hadn q) hwl hl) q1 q2 q3 (fun i hi => (hadn q i (by omega)).trans (had i hi)) (by omega) (by omega) (by omega)
                  · cases hmk
                · cases hmk
              · exact hE.elim
            | putfield i =>
              rcases hE with hE | hE
              · exact hE.elim
              · obtain ⟨hd, hnx, C, T, N, ty, hc, hN, hin2, hlk, hty, hnm, ht, hfin⟩ := hE
                simp only [pMk] at hmk
                split at hmk
                · rename_i j o st0
                  split at hmk
                  · rename_i ci fl hg
                    split at hmk
                    · rename_i hci
                      subst hci
                      split at hmk
                      · rename_i y hf
                        cases hmk
                        have hfl : a < fl.length := (List.getElem?_eq_some_iff.mp hf).1
                        have hc2 : cc = 2 := by
                          by_cases hc2 : cc = 2
                          · exact hc2
                          · simp [pKind, hc2] at hk
                        have hnf : narrow (ty a) (.ref (ad j)) = .ref (ad j) ∧ fits (ty a) (.ref (ad j)) = true := by
                          rcases ht with ⟨h1, -⟩ | ⟨h1, -⟩ | ⟨-, ⟨nn, h1⟩ | ⟨nn, h1⟩⟩
                          · rw [hc2] at h1; exact absurd h1 (by decide)
                          · rw [hc2] at h1; exact absurd h1 (by decide)
                          · rw [h1]; exact ⟨rfl, rfl⟩
                          · rw [h1]; exact ⟨rfl, rfl⟩
                        have hset := pWld_setG (cI := cI) (cD := cD) (ad := ad) (S := S) (j := j) hg hf
                        have hsl := slG_set (a := a) (x := some (some j)) hg
                        have hle : (G.set o (.inl (ci, fl.set a (some (some j))))).length = G.length := List.length_set ..
                        rcases hfin with hfin | ⟨hfin, hi1, hown2⟩
                        · refine va_put hx hb hts hin2 ty hty hnm hown hK hP hD hS o (pWld_at hg) hc a hN (hts _ hlk) (fun _ h => h) hfin (hty a hN) (v := .ref (ad j)) hnf.1 hnf.2 (by simpa using hfl) hd (fun H1 locs1 q1 q2 q3 => ?_)
                          rw [hset] at q1 q2
                          exact ih d k is ls _ _ G' _ S' h hL hLk hF hrn hnx hl q1 q2 q3 had (by omega) (by omega) (by omega)
                        · refine va_putF hx hb hts hin2 ty hty hnm hown hK hP hD hS o (pWld_at hg) hc a hN (hts _ hlk) (fun _ h => h) hfin (hin (by simpa using hi1)) hown2 (hty a hN) (v := .ref (ad j)) hnf.1 hnf.2 (by simpa using hfl) hd (fun H1 locs1 q1 q2 q3 => ?_)
                          rw [hset] at q1 q2
                          exact ih d k is ls _ _ G' _ S' h hL hLk hF hrn hnx hl q1 q2 q3 had (by omega) (by omega) (by omega)
                      · cases hmk
                    · cases hmk
                  · cases hmk
                · cases hmk
            | _ => simp [pMk] at hmk
        · cases h
      · cases h
end CON
