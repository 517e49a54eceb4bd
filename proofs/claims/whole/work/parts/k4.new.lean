/-! The law's own new objects. -/
set_option maxHeartbeats 2000000 in
theorem law_new {p : Program} {l : Launch} {e : Env} {s : State} {m : MethodId} {args : Array Value} {below : List Frame} {meth : Method} {c : Code} {Q : State → Prop} {D : va_G} {tys : List (ClassId × FieldType)} {cI cD : ClassId} {tk : pTk} {nL : Nat}
    (hx : p.tables.exec = Jvm.exec) (hb : c.code = code) (hml : c.maxLocals = nL) (hown : s.vm.findClass "CardDrawerLaw" = some m.cls) (hts : ∀ w ∈ GW, w.before args s = true) (hK : va_K D cls tys s) (hX : pX tk (fun q => s.heap.size ≤ q) s) (ht0 : tys[0]? = some (cI, .int)) (ht1 : tys[1]? = some (cD, .object "CardDrawer$Drawer"))
    {ci k n d index i : Nat} {G : List pSh} {S : pS} (hci : ci < 13) (hk : pIn k inis = true) (hPT : (PT k).1 = 1) (hrun : exec PT prT n d k (PT k).2.2.2 (pLs (PT k) [.ref 0]) [] [.inl (ci, prT ci)] S00 = some (G, S)) (hd : d ≤ 150) (hcl : Cond.classLink "CardDrawerLaw" index (cnm.getD ci "") ∈ GW) (hlk : Cond.methodLink "CardDrawerLaw" i (IN k).1 ∈ GW)
    {ad2 : Nat → Nat} {G2 : List pSh} {S2 : pS} {H : Heap} {locs : List Loc} {lsA : Array Slot} (hls : lsA.size = nL) {pc cells slots cells' slots' : Nat} (hP2 : va_P D cls (pWld cI cD ad2 G2 S2) H) (hD2 : va_D (fun q => s.heap.size ≤ q) (pWld cI cD ad2 G2 S2)) (hS : va_S (fun q => s.heap.size ≤ q) s.heap H locs)
    (hc1 : cells + 1 + (G.length - 1) ≤ cells') (hc2 : slots + (prT ci).length + (slG G - slG [.inl (ci, prT ci)]) ≤ slots') (hlim : cells' ≤ 600000 ∧ slots' ≤ 7302250) (d0 : decode code pc = .ok (.new index, 3)) (d1 : decode code (pc + 3) = .ok (.dup, 1)) (d2 : decode code (pc + 4) = .ok (.invokespecial i, 3))
    (kk : ∀ (ad : Nat → Nat) (H1 : Heap) (locs1 : List Loc), va_P D cls (pWld cI cD ad G S) H1 → (∀ i j, i < G.length → j < G.length → ad i = ad j → i = j) → (∀ i, i < G.length → s.heap.size ≤ ad i) → va_P D cls (pWld cI cD ad2 G2 S2) H1 → (∀ i j, i < G2.length → j < G.length → ad2 i ≠ ad j) → va_S (fun q => s.heap.size ≤ q) s.heap H1 locs1 → W p l e room_1 s m args below meth c H1 locs1 cells' slots' Q (F0 m (pc + 7) lsA [.ref (ad 0)])) :
    W p l e room_1 s m args below meth c H locs cells slots Q (F0 m pc lsA []) := by
  obtain ⟨C, T, N, ty, g1, g2, g3, g4, g5, g6, g7, g8, g9⟩ := nw_of hci
  subst g4
  refine va_new (ci := ci) (fs := (prT ci).mapIdx (pFld (fun _ => 0) (fun _ => 0))) hx hb hts g2 ty g3 hown (hts _ hcl) (hts _ g5) (hts _ g6) hK hP2 hD2 hS (fun _ h => h) g1 (g8 _) (by show cells + 1 ≤ 600000; omega) (by show slots + N ≤ 7302250; omega) d0 (fun q H1 hP1 hD1 hS1 => ?_)
  refine lv_dup hx hb d1 rfl ?_
  have hlen : (pWld cI cD ad2 G2 S2).length = G2.length := pWld_len
  have hlast : (pWld cI cD ad2 G2 S2 ++ [(q, Sum.inr (ci, (prT ci).mapIdx (pFld (fun _ => 0) (fun _ => 0))))])[G2.length]? = some (q, Sum.inr (ci, (prT ci).mapIdx (pFld (fun _ => 0) (fun _ => 0)))) := by
    rw [List.getElem?_append_right (by omega), hlen, Nat.sub_self]
    rfl
  have hw0 : pWld cI cD (fun _ => q) [.inl (ci, prT ci)] S00 = [(q, Sum.inr (ci, (prT ci).mapIdx (pFld (fun _ => 0) (fun _ => 0))))] := by
    rw [← nrf_ad (ad := fun _ => q) g9]
    rfl
  have hPo : va_P D cls (pWld cI cD (fun _ => q) [.inl (ci, prT ci)] S00) H1 := by
    rw [hw0]
    intro k x hkx
    have hz : k < 1 := (List.getElem?_eq_some_iff.mp hkx).1
    rw [show k = 0 by omega] at hkx
    cases hkx
    exact hP1 _ _ hlast
  have hP2' : va_P D cls (pWld cI cD ad2 G2 S2) H1 := fun k x hkx => hP1 k x (by rw [List.getElem?_append_left (List.getElem?_eq_some_iff.mp hkx).1]; exact hkx)
  have hq : s.heap.size ≤ q := hD1.2 _ _ hlast
  have hneq : ∀ j, j < G2.length → ad2 j ≠ q := by
    intro j hj he
    obtain ⟨x, hx2⟩ := pWld_has (cI := cI) (cD := cD) (ad := ad2) (S := S2) hj
    have := hD1.1 j G2.length _ _ (by rw [List.getElem?_append_left (by omega)]; exact hx2) hlast he
    omega
  have hlt2 : ∀ j, j < G2.length → ad2 j < H1.size := by
    intro j hj
    obtain ⟨x, hx2⟩ := pWld_has (cI := cI) (cD := cD) (ad := ad2) (S := S2) hj
    exact (hP2' j _ hx2).lt
  have hmet := met_ini (l := l) (D := D) (ad := fun _ => q) (tk := tk) (sz := H1.size) ht0 ht1 hk (As := [.ref 0]) (by rw [hPT]; rfl) hrun
  have hM := hMok2 (tys := tys) ht1 hk
  obtain ⟨hcode, hiniw, hpl, hnm, h300, hpl2, hargs, h0, hLa, hk2, hret, hdesc, h1', hinst, hname⟩ := hM
  have hAA : ∀ x, va_A (pWld cI cD (fun _ => q) [.inl (ci, prT ci)] S00) H1.size x → s.heap.size ≤ x := by
    rintro x (⟨k2, e2, h2⟩ | h2)
    · obtain ⟨a1, a2⟩ := pWld_adr h2
      have a2 : x = q := a2
      rw [a2]
      exact hq
    · exact Nat.le_trans hS1.1 h2
  have hgood : GoodIn GW (pWs GW IN k) := by
    intro w hw
    rcases List.mem_cons.mp hw with rfl | hw
    · exact ⟨hcode, good_of_word (GW_good _ hcode)⟩
    · exact ⟨hw, good_of_word (GW_good _ hw)⟩
  have hmh : (parseMethodDescriptor (IN k).1.desc).map (fun d => d.parameters.length) = some 0 := by
    rw [hPT] at hdesc
    cases hq : parseMethodDescriptor (IN k).1.desc with
    | none => rw [hq] at hdesc; cases hdesc
    | some sg =>
      rw [hq] at hdesc
      simp only [Option.map_some, Option.some.injEq] at hdesc ⊢
      omega
  have hroom : (pRm d (G.length - ([Sum.inl (ci, prT ci)] : List pSh).length) (slG G - slG [.inl (ci, prT ci)])).frames + 1 ≤ room_1.frames ∧ 8 + ((IN k).2.2.1 + 11) + (pRm d (G.length - ([Sum.inl (ci, prT ci)] : List pSh).length) (slG G - slG [.inl (ci, prT ci)])).locals ≤ room_1.locals := by
    constructor
    · show d + 10 + 1 ≤ 2048; omega
    · show 8 + ((IN k).2.2.1 + 11) + (400 * d + 3000) ≤ 84000; omega
  have hcb := callB_of (R := room_1) (bytes := (IN k).2.1) (maxL := (IN k).2.2.1) (ret := none) 0 hts hgood (by rw [pWs, hret]) rfl rfl (hts _ hiniw) (hts _ hlk) ⟨hnm.1, hnm.2, hmh⟩ hroom
  have hr2 := va_runI (As := []) (b := q) (n := 0) (rest := [.ref q]) (R := room_1) (l := l) (e := e) (below := below) (meth := meth) (H := H1) (locs := locs) (cells := cells + 1) (slots := slots + N) (g := F0 m (pc + 4) lsA [.ref q, .ref q]) ⟨hx, hb, hml, hown, hts⟩ hmet ⟨hcb, hname, hts _ hinst⟩ ⟨by
        rintro a U g mk ⟨q0, q1, q2, q3, q4, q5⟩
        exact ⟨q0, q1, q2, va_K.moved (u := U) (U := U.calling g mk a) (Vm.Alike.refl U.vm) q3, q4, q5.blind⟩, fun U hU hW => ⟨rfl, by rw [hU], by rw [hU]; exact hPo, va_K.moved hW.alike hK, va_D_ad (fun i j h1 h2 _ => by simp at h1 h2; omega) (fun _ _ => trivial), hX.call hW (by rw [hU]; exact hS1.2.1) hAA⟩⟩ rfl rfl hls rfl (lv_room (Nat.le_of_ble_eq_true rfl)) d2 ⟨by show cells + 1 + (G.length - 1) ≤ 600000; omega, by show slots + N + (slG G - slG [.inl (ci, prT ci)]) ≤ 7302250; omega⟩
  refine va_callv (a := [Value.ref q].toArray) hr2 hS1 (fun q _ h2 => hAA q h2) hAA (fun ad1 t H2 locs2 ht hvm hp1 hB1 hz1 hk1 hS2 => ?_)
  obtain ⟨b1, b2, b3⟩ := hB1
  rw [ht] at b1
  obtain ⟨v1, v2⟩ := va_D_of b3
  have hst : va_P D cls (pWld cI cD ad2 G2 S2) H2 := va_P_stay hP2' (fun i j h1 h2 he => hneq j h2 he.symm) hk1
  refine W.widen (k := cells') (n := slots') (by show cells + 1 + (G.length - 1) ≤ cells'; omega) (by show slots + N + (slG G - slG [.inl (ci, prT ci)]) ≤ slots'; omega) ?_
  have e0 : ad1 0 = q := hp1 0 (by show 0 < 1; omega)
  have kk := kk ad1 H2 locs2 b1 v1 (fun i hi => hAA _ (v2 i hi)) hst (fun i j h1 h2 he => by
    rcases v2 j h2 with ⟨k2, e2, h2⟩ | h2
    · obtain ⟨a1, a2⟩ := pWld_adr h2
      have a2 : ad1 j = q := a2
      exact hneq i h1 (he.trans a2)
    · have := hlt2 i h1
      omega) hS2
  rw [e0] at kk
  exact kk
