/-! The walk of the law (the first rows began as kit/laws/SKELETON.whole). -/
def N_law : String := "CardDrawerLaw"
def lw_P (b : Addr) (xs : List Int32) (args : Array Value) (s : State) : Prop := args = #[.ref b] ∧ s.IntsAt b xs ∧ xs.length ≤ 3072 ∧ (Jvm.Cond.and given_1 narrow_1).before args s = true
def lw_Q (_ : Array Value) (s : State) (o : Outcome) (t : State) : Prop := o = .returned (some (.int 1)) ∧ Framed s o t [] 600000 7302250
def lw_Z (below : List Frame) (a : Array Value) (s : State) : State → Prop := fun t => ∃ o, t.status = .running ∧ Ended t below o ∧ lw_Q a s o t
/-- the law's own end, with 1 on the stack, nothing written that was there before, its room as the claim has it -/
theorem lw_ret {p : Program} {l : Launch} {e : Env} {s : State} {m : MethodId} {below : List Frame} {meth : Method} {c : Code} {b : Nat} (hx : p.tables.exec = Jvm.exec) (hb : c.code = code) (hr : meth.sig.returnType = ret) (hlocks : meth.locks = false) {pc : Nat} {H : Heap} {ls : Array Slot} (hdg : decode code pc = .ok (.ireturn, 1)) : W p l e room_1 s m #[Value.ref b] below meth c H [] 600000 7302250 (lw_Z below #[Value.ref b] s) (F0 m pc ls [.int 1]) := by
  intro T hT X
  obtain ⟨fs, hret, hrun, hended, hW, hframe⟩ := X.leave (v := some (.int 1)) (hlocks := hlocks) (fun h => by rw [hr] at h; cases h)
  have hmeth' : T.vm.method? m = some meth := X.method'
  refine ⟨T.setFrames fs, ?_, .returned (some (.int 1)), hrun, hended, rfl, ⟨_, rfl⟩, hW, hframe⟩
  jvm_step X.here [X.here.top, hx, hb, hdg, hmeth', hr, ret, narrow_b1]
  (try refine ⟨rfl, ?_⟩); (try refine ⟨rfl, ?_⟩)
  first | (intro acts; rw [hret _ acts rfl rfl rfl]) | rw [hret _ _ rfl rfl rfl]
  exact Steps.refl _
/-- what holds at the law's entry: the machine, the code, the tables' words (any of lw_tbl by 'hts w (by decide +kernel)'), the script of L ints xs at the cell b, what the Statement gives of the start (any of its parts by flat_of_before) -/
def lw_At (p : Program) (s : State) (m : MethodId) (meth : Method) (c : Code) (b L : Nat) (xs : Nat → Int32) : Prop :=
  p.tables.exec = Jvm.exec ∧ c.code = code ∧ meth.sig.returnType = ret ∧ c.maxLocals = 4 ∧ s.vm.findClass N_law = some m.cls ∧ (∀ w ∈ lw_tbl, w.before #[Value.ref b] s = true) ∧ va_X b L xs s s.heap ∧ b < s.heap.size ∧ meth.locks = false ∧ (Jvm.Cond.and given_1 narrow_1).before #[Value.ref b] s = true
theorem arg_W {p : Program} {l : Launch} {e : Env} {s : State} {m : MethodId} {args : Array Value} {below : List Frame} {meth : Method} {c : Code} {Q : State → Prop} {b L i q1 q2 : Nat} {xs : Nat → Int32} (hx : p.tables.exec = Jvm.exec) (hb : c.code = code) (hX : va_X b L xs s s.heap) (hbl : b < s.heap.size) {H : Heap} {locs : List Loc} {cells slots : Nat} (hS : va_S (fun q => s.heap.size ≤ q) s.heap H locs) {ls : Array Slot} (hl : lv_has ls 4 [(0, .ref b), (1, .ref q1), (2, .ref q2), (3, .int (nI i))]) (hL : L ≤ 3072) (hi : i + 6 ≤ L) {k pc : Nat} {rest : List Value} {bo : Bool} (hc : ckArg pc k bo = true)
    (kk : W p l e room_1 s m args below meth c H locs cells slots Q (F0 m (pc + aLen bo) ls (.int (vA bo (xs (i + k))) :: rest))) : W p l e room_1 s m args below meth c H locs cells slots Q (F0 m pc ls rest) := by
  simp only [ckArg, Bool.and_eq_true, decide_eq_true_eq] at hc
  obtain ⟨⟨d0, d1, d2, d3, d4, hv, hk⟩, hb2⟩ := hc
  refine lv_aload_n hx hb d0 rfl (lv_at hl 0 rfl) ?_
  refine lv_iload_n hx hb d1 rfl (lv_at hl 3 rfl) ?_
  refine lv_iconst (v := nI k) hx hb d2 hv ?_
  refine lv_iadd hx hb d3 ?_
  rw [nI_add]
  refine va_sld hx hb hX hbl (Nat.not_le.mpr hbl) hS (vp_in_nI (n := i + k) (by omega) (by omega)) d4 ?_
  rw [nI_clamp (by omega)]
  cases bo with
  | false => exact kk
  | true =>
    have hb2 : decode code (pc + 5) = .ok (.ifCond .eq 7, 3) ∧ decode code (pc + 8) = .ok (.iconst 1, 1) ∧ decode code (pc + 9) = .ok (.goto 4, 3) ∧ decode code (pc + 12) = .ok (.iconst 0, 1) := by
      rcases Bool.or_eq_true_iff.mp hb2 with h | h
      · cases h
      · exact of_decide_eq_true h
    obtain ⟨e0, e1, e2, e3⟩ := hb2
    refine lv_if_eq (tgt := pc + 12) hx hb e0 (by omega) (fun hz => ?_) (fun hz => ?_)
    · refine lv_iconst (v := 0) hx hb e3 (by decide) ?_
      rw [show vA true (xs (i + k)) = 0 from if_pos hz] at kk
      exact kk
    · refine lv_iconst (v := 1) hx hb e1 (by decide) ?_
      refine lv_goto (tgt := pc + 13) hx hb e2 (by omega) ?_
      rw [show vA true (xs (i + k)) = 1 from if_neg hz] at kk
      exact kk
theorem args_W {p : Program} {l : Launch} {e : Env} {s : State} {m : MethodId} {args : Array Value} {below : List Frame} {meth : Method} {c : Code} {Q : State → Prop} {b L i q1 q2 : Nat} {xs : Nat → Int32} (hx : p.tables.exec = Jvm.exec) (hb : c.code = code) (hX : va_X b L xs s s.heap) (hbl : b < s.heap.size) {H : Heap} {locs : List Loc} {cells slots : Nat} (hS : va_S (fun q => s.heap.size ≤ q) s.heap H locs) {ls : Array Slot} (hl : lv_has ls 4 [(0, .ref b), (1, .ref q1), (2, .ref q2), (3, .int (nI i))]) (hL : L ≤ 3072) (hi : i + 6 ≤ L) :
    ∀ (as : List (Nat × Bool)) (pc : Nat) (rest : List Value), ckArgs pc as = true → W p l e room_1 s m args below meth c H locs cells slots Q (F0 m (aEnd pc as) ls (((as.map (fun q => vA q.2 (xs (i + q.1)))).map Value.int).reverse ++ rest)) → W p l e room_1 s m args below meth c H locs cells slots Q (F0 m pc ls rest) := by
  intro as
  induction as with
  | nil => intro pc rest _ kk; exact kk
  | cons a as ih =>
    obtain ⟨k, bo⟩ := a
    intro pc rest hc kk
    rw [ckArgs] at hc
    obtain ⟨h1, h2⟩ := Bool.and_eq_true_iff.mp hc
    refine arg_W hx hb hX hbl hS hl hL hi h1 ?_
    refine ih (pc + aLen bo) _ h2 ?_
    rw [List.map_cons, List.map_cons, List.reverse_cons, List.append_assoc] at kk
    exact kk
theorem cls_of {k ci i w n : Nat} (hci : ci < 13) (h : ckM k ci i w n = true) : (IN k).2.2.2.2 = 0 ∧ n + 1 = (PT k).1 ∧ Cond.methodLink "CardDrawerLaw" i (IN k).1 ∈ GW ∧ (∃ ty, (IN k).2.2.2.1 = some ty) ∧ (PT k).2.2.2 ≠ [] ∧ cls[ci]? = some ((IN k).1.cls, (cls.getD ci ("", fun _ => ("", "", "", false), 0)).2.1, (cls.getD ci ("", fun _ => ("", "", "", false), 0)).2.2) := by
  simp only [ckM, Bool.and_eq_true, decide_eq_true_eq] at h
  obtain ⟨⟨h1, h2, h3, h4⟩, h5, h6⟩ := h
  obtain ⟨T, N, hc⟩ := cls_at hci
  refine ⟨h1, h3, GW_of h4 rfl, Option.isSome_iff_exists.mp h5, (fun q => by rw [q] at h6; cases h6), ?_⟩
  have hg : cls.getD ci ("", fun _ => ("", "", "", false), 0) = (cnm.getD ci "", T, N) := by
    rw [List.getD_eq_getElem?_getD, hc]
    rfl
  rw [h2, hg]
  exact hc
set_option maxHeartbeats 2000000 in
/-- one turn of the law's loop: both sides are called, and answer alike -/
theorem case_W {p : Program} {l : Launch} {e : Env} {s : State} {m : MethodId} {args : Array Value} {below : List Frame} {meth : Method} {c : Code} {Q : State → Prop} {D : va_G} {tys : List (ClassId × FieldType)} {cI cD : ClassId} {adX adR : Nat → Nat} {tk : pTk} {b L i : Nat} {xs : Nat → Int32}
    (hx : p.tables.exec = Jvm.exec) (hb : c.code = code) (hml : c.maxLocals = 4) (hown : s.vm.findClass "CardDrawerLaw" = some m.cls) (hts : ∀ w ∈ GW, w.before args s = true) (hK : va_K D cls tys s) (hX : pX tk (fun q => s.heap.size ≤ q) s) (ht0 : tys[0]? = some (cI, .int)) (ht1 : tys[1]? = some (cD, .object "CardDrawer$Drawer")) (hXs : va_X b L xs s s.heap) (hbl : b < s.heap.size) (hL : L ≤ 3072)
    (hndX : ∀ i j, i < GX.length → j < GX.length → adX i = adX j → i = j) (hAX : ∀ i, i < GX.length → s.heap.size ≤ adX i) (hndR : ∀ i j, i < GR.length → j < GR.length → adR i = adR j → i = j) (hAR : ∀ i, i < GR.length → s.heap.size ≤ adR i) (hne : ∀ i j, i < GX.length → j < GR.length → adX i ≠ adR j)
    {j : Nat} (hj : j < 36) {X R : pS} (hI : INV X R) (hi : i + 6 ≤ L) {H : Heap} {locs : List Loc} {ls : Array Slot} (hl : lv_has ls 4 [(0, .ref b), (1, .ref (adX 0)), (2, .ref (adR 0)), (3, .int (nI i))]) (hPX : va_P D cls (pWld cI cD adX GX X) H) (hPR : va_P D cls (pWld cI cD adR GR R) H) (hS : va_S (fun q => s.heap.size ≤ q) s.heap H locs)
    (kk : ∀ (H1 : Heap) (locs1 : List Loc) (X' R' : pS), INV X' R' → va_P D cls (pWld cI cD adX GX X') H1 → va_P D cls (pWld cI cD adR GR R') H1 → va_S (fun q => s.heap.size ≤ q) s.heap H1 locs1 → W p l e room_1 s m args below meth c H1 locs1 600000 7302250 Q (F0 m 1268 ls [])) :
    W p l e room_1 s m args below meth c H locs 600000 7302250 Q (F0 m (rPc j) ls []) := by
  have hck := rw_ok j hj
  simp only [ckRow, ckCase, Bool.and_eq_true, decide_eq_true_eq] at hck
  obtain ⟨⟨d0, a1, d1, d2, a2, d3, d4⟩, mX, mR, hdX, hdR, -⟩ := hck
  obtain ⟨x1, x2, x3, ⟨tyX, x4⟩, x5, x6⟩ := cls_of (by omega) mX
  obtain ⟨r1, r2, r3, ⟨tyR, r4⟩, r5, r6⟩ := cls_of (by omega) mR
  obtain ⟨r, X', R', f1, f2, hI'⟩ := pq_all (fun k => xs (i + k)) hI j hj
  refine lv_aload_n hx hb d0 rfl (lv_at hl 1 rfl) ?_
  refine args_W hx hb hXs hbl hS hl hL hi (rAs j) (rPc j + 1) _ a1 ?_
  refine law_call (ad := adX) (ad2 := adR) (G := GX) (G2 := GR) (S2 := R) hx hb hml hown hts hK hX ht0 ht1 x5 x1 (show GX[0]? = some _ from rfl) x6 x4 (by rw [List.length_map]; exact x2) f1 hdX x3 hndX hAX hne ⟨Nat.le_refl _, Nat.le_refl _⟩ hl.1 (by decide) hPX hPR hS d1 (fun H1 locs1 p1 p2 s1 => ?_)
  refine lv_aload_n hx hb d2 rfl (lv_at hl 2 rfl) ?_
  refine args_W hx hb hXs hbl s1 hl hL hi (rAs j) (aEnd (rPc j + 1) (rAs j) + 4) _ a2 ?_
  refine law_call (ad := adR) (ad2 := adX) (G := GR) (G2 := GX) (S2 := X') hx hb hml hown hts hK hX ht0 ht1 r5 r1 (show GR[0]? = some _ from rfl) r6 r4 (by rw [List.length_map]; exact r2) f2 hdR r3 hndR hAR (fun i j h1 h2 q => hne j i h2 h1 q.symm) ⟨Nat.le_refl _, Nat.le_refl _⟩ hl.1 (Nat.le_of_ble_eq_true rfl) p2 p1 s1 d3 (fun H2 locs2 u1 u2 s2 => ?_)
  refine lv_icmp_eq (tgt := 1268) hx hb d4 (by omega) (fun _ => ?_) (fun q => absurd rfl q)
  exact kk H2 locs2 X' R' hI' u2 u1 s2
