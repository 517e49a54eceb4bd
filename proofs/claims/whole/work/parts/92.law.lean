/-! The law's own calls: the class's cells and the reference's side by side. -/
theorem pWld_len {cI cD : ClassId} {ad : Nat → Nat} {G : List pSh} {S : pS} : (pWld cI cD ad G S).length = G.length := by simp [pWld]
theorem pWld_adr {cI cD : ClassId} {ad : Nat → Nat} {G : List pSh} {S : pS} {k : Nat} {q : Nat × va_E} (h : (pWld cI cD ad G S)[k]? = some q) : k < G.length ∧ q.1 = ad k := by
  have hl : k < G.length := by
    have := (List.getElem?_eq_some_iff.mp h).1
    rwa [pWld_len] at this
  unfold pWld at h
  rw [List.getElem?_mapIdx, List.getElem?_eq_getElem hl] at h
  cases h
  exact ⟨hl, rfl⟩
theorem pWld_has {cI cD : ClassId} {ad : Nat → Nat} {G : List pSh} {S : pS} {k : Nat} (h : k < G.length) : ∃ e, (pWld cI cD ad G S)[k]? = some (ad k, e) := by
  unfold pWld
  rw [List.getElem?_mapIdx, List.getElem?_eq_getElem h]
  exact ⟨_, rfl⟩
/-- apartness is a matter of addresses alone -/
theorem va_D_ad {cI cD : ClassId} {ad : Nat → Nat} {G : List pSh} {S : pS} {A : Nat → Prop} (h1 : ∀ i j, i < G.length → j < G.length → ad i = ad j → i = j) (h2 : ∀ i, i < G.length → A (ad i)) : va_D A (pWld cI cD ad G S) := by
  refine ⟨fun i j p q hi hj he => ?_, fun k q hk => ?_⟩
  · obtain ⟨a1, a2⟩ := pWld_adr hi
    obtain ⟨b1, b2⟩ := pWld_adr hj
    exact h1 i j a1 b1 (by rw [← a2, ← b2]; exact he)
  · obtain ⟨a1, a2⟩ := pWld_adr hk
    rw [a2]
    exact h2 k a1
theorem va_D_of {cI cD : ClassId} {ad : Nat → Nat} {G : List pSh} {S : pS} {A : Nat → Prop} (h : va_D A (pWld cI cD ad G S)) : (∀ i j, i < G.length → j < G.length → ad i = ad j → i = j) ∧ ∀ i, i < G.length → A (ad i) := by
  refine ⟨fun i j hi hj he => ?_, fun i hi => ?_⟩
  · obtain ⟨e1, h1⟩ := pWld_has (cI := cI) (cD := cD) (ad := ad) (S := S) hi
    obtain ⟨e2, h2⟩ := pWld_has (cI := cI) (cD := cD) (ad := ad) (S := S) hj
    exact h.1 i j _ _ h1 h2 he
  · obtain ⟨e1, h1⟩ := pWld_has (cI := cI) (cD := cD) (ad := ad) (S := S) hi
    exact h.2 i _ h1
/-- what isn't the callee's stays -/
theorem va_P_stay {D : va_G} {cl : List vw_C} {cI cD : ClassId} {ad ad2 : Nat → Nat} {G G2 : List pSh} {S S2 : pS} {H H1 : Heap} (hP2 : va_P D cl (pWld cI cD ad2 G2 S2) H) (hne : ∀ i j, i < G.length → j < G2.length → ad i ≠ ad2 j) (hk : ∀ q : Nat, q < H.size → ¬ va_A (pWld cI cD ad G S) H.size q → H1[q]? = H[q]?) : va_P D cl (pWld cI cD ad2 G2 S2) H1 := by
  intro k q hq
  have h0 := hP2 k q hq
  have hlt := h0.lt
  refine h0.kept (hk q.1 hlt ?_)
  rintro (⟨k2, e2, h2⟩ | h2)
  · obtain ⟨a1, a2⟩ := pWld_adr h2
    obtain ⟨b1, b2⟩ := pWld_adr hq
    exact hne k2 k a1 b1 (a2.symm.trans b2)
  · omega
set_option maxHeartbeats 2000000 in
/-- a call of the law's: of a method of one of the two objects, with numbers -/
theorem law_call {p : Program} {l : Launch} {e : Env} {s : State} {m : MethodId} {args : Array Value} {below : List Frame} {meth : Method} {c : Code} {Q : State → Prop} {D : va_G} {tys : List (ClassId × FieldType)} {cI cD : ClassId} {ad ad2 : Nat → Nat} {tk : pTk} {cells slots nL : Nat}
    (hx : p.tables.exec = Jvm.exec) (hb : c.code = code) (hml : c.maxLocals = nL) (hown : s.vm.findClass "CardDrawerLaw" = some m.cls) (hts : ∀ w ∈ GW, w.before args s = true) (hK : va_K D cls tys s) (hX : pX tk (fun q => s.heap.size ≤ q) s) (ht0 : tys[0]? = some (cI, .int)) (ht1 : tys[1]? = some (cD, .object "CardDrawer$Drawer"))
    {G G2 : List pSh} {S S' S2 : pS} {x : Int32} {k d : Nat} (hn : (PT k).2.2.2 ≠ []) (hk0 : (IN k).2.2.2.2 = 0) {ci : Nat} {fl : List (Option (Option Nat))} (hg0 : G[0]? = some (.inl (ci, fl))) (hci : cls[ci]? = some ((IN k).1.cls, (cls.getD ci ("", fun _ => ("", "", "", false), 0)).2.1, (cls.getD ci ("", fun _ => ("", "", "", false), 0)).2.2)) {ty : FieldType} (hty : (IN k).2.2.2.1 = some ty) {As : List Int32} (hAs : As.length + 1 = (PT k).1) (h : Res PT G d k ((PT k).2.2.2, pLs (PT k) (.ref 0 :: As.map .int), [], S) = some (x, S')) (hd : d ≤ 150)
    {i : Nat} (hlk : Cond.methodLink "CardDrawerLaw" i (IN k).1 ∈ GW) (hnd : ∀ i j, i < G.length → j < G.length → ad i = ad j → i = j) (hA1 : ∀ i, i < G.length → s.heap.size ≤ ad i) (hne : ∀ i j, i < G.length → j < G2.length → ad i ≠ ad2 j) (hlim : cells ≤ 600000 ∧ slots ≤ 7302250)
    {H : Heap} {locs : List Loc} {lsA : Array Slot} (hls : lsA.size = nL) {pc : Nat} {rest : List Value} (hrest : (rest.map fun v => v.category).sum ≤ 8) (hP : va_P D cls (pWld cI cD ad G S) H) (hP2 : va_P D cls (pWld cI cD ad2 G2 S2) H) (hS : va_S (fun q => s.heap.size ≤ q) s.heap H locs) (hdg : decode code pc = .ok (.invokevirtual i, 3))
    (kk : ∀ (H1 : Heap) (locs1 : List Loc), va_P D cls (pWld cI cD ad G S') H1 → va_P D cls (pWld cI cD ad2 G2 S2) H1 → va_S (fun q => s.heap.size ≤ q) s.heap H1 locs1 → W p l e room_1 s m args below meth c H1 locs1 cells slots Q (F0 m (pc + 3) lsA (.int x :: rest))) :
    W p l e room_1 s m args below meth c H locs cells slots Q (F0 m pc lsA ((As.map Value.int).reverse ++ .ref (ad 0) :: rest)) := by
  have hM := hMrun ht1 k hn (Or.inl hk0)
  obtain ⟨hcode, hiniw, hpl, hnm, h300, hpl2, hargs, h0, hLa, hkind⟩ := id hM
  rcases hkind with ⟨-, hdesc, hinst, hsel, -⟩ | ⟨hk1, -⟩ | ⟨hk2, -⟩
  · have hmet := met_call (l := l) (D := D) (ad := ad) (tk := tk) (sz := H.size) ht0 ht1 hn (Or.inl hk0) (As := .ref 0 :: As.map .int) (by simpa using hAs) h
    have hAA : ∀ q, va_A (pWld cI cD ad G S) H.size q → s.heap.size ≤ q := by
      rintro q (⟨k2, e2, h2⟩ | h2)
      · obtain ⟨a1, a2⟩ := pWld_adr h2
        have a2 : q = ad k2 := a2
        rw [a2]
        exact hA1 k2 a1
      · exact Nat.le_trans hS.1 h2
    have e1 : (Value.ref 0 :: As.map Value.int).map (pV ad tk) = .ref (ad 0) :: As.map Value.int := by
      rw [List.map_cons, List.map_map]
      rfl
    rw [e1] at hmet
    have hgood : GoodIn GW (pWs GW IN k) := by
      intro w hw
      rcases List.mem_cons.mp hw with rfl | hw
      · exact ⟨hcode, good_of_word (GW_good _ hcode)⟩
      · exact ⟨hw, good_of_word (GW_good _ hw)⟩
    have hdesc2 : (parseMethodDescriptor (IN k).1.desc).map (fun d => d.parameters.length) = some As.length := by
      cases hq : parseMethodDescriptor (IN k).1.desc with
      | none => rw [hq] at hdesc; cases hdesc
      | some sg =>
        rw [hq] at hdesc
        simp only [Option.map_some, Option.some.injEq] at hdesc ⊢
        omega
    have hroom : (pRm d 0 0).frames + 1 ≤ room_1.frames ∧ 8 + ((IN k).2.2.1 + 11) + (pRm d 0 0).locals ≤ room_1.locals := by
      constructor
      · show d + 10 + 1 ≤ 2048; omega
      · show 8 + ((IN k).2.2.1 + 11) + (400 * d + 3000) ≤ 84000; omega
    have hrun := va_runV (As := As.map Value.int) (b := ad 0) (C := (IN k).1.cls) (n := As.length) (rest := rest) (R := room_1) (l := l) (e := e) (below := below) (meth := meth) (H := H) (locs := locs) (cells := cells) (slots := slots) (g := F0 m pc lsA ((As.map Value.int).reverse ++ .ref (ad 0) :: rest)) ⟨hx, hb, hml, hown, hts⟩ hmet ⟨callB_of _ hts hgood rfl rfl rfl (hts _ hiniw) (hts _ hlk) ⟨hnm.1, hnm.2, hdesc2⟩ hroom, hts _ hinst, hts _ hsel⟩
      ⟨by
        rintro a U g mk ⟨q0, q1, q2, q3, q4, q5⟩
        exact ⟨q0, q1, q2, va_K.moved (u := U) (U := U.calling g mk a) (Vm.Alike.refl U.vm) q3, q4, q5.blind⟩, va_recv hK hP hci (pWld_at hg0), fun U hU hW => ⟨rfl, by rw [hU], by rw [hU]; exact hP, va_K.moved hW.alike hK, va_D_ad hnd (fun _ _ => trivial), hX.call hW (by rw [hU]; exact hS.2.1) hAA⟩⟩ rfl (by simp) hls rfl (lv_room hrest) hdg ⟨by show cells + 0 ≤ 600000; omega, by show slots + 0 ≤ 7302250; omega⟩
    rw [hty] at hrun
    refine va_calli (a := (.ref (ad 0) :: As.map Value.int).toArray) hrun hS (fun q _ h2 => hAA q h2) hAA (fun r u t H1 locs1 htt hvm hp1 hB1 hz1 hk1 hS1 => ?_)
    have hp1 : r = x := hp1
    subst hp1
    obtain ⟨b1, b2, b3⟩ := hB1
    rw [htt] at b1
    exact kk H1 locs1 b1 (va_P_stay hP2 hne hk1) hS1
  · exact absurd (hk0.symm.trans hk1) (by decide)
  · exact absurd (hk0.symm.trans hk2) (by decide)
