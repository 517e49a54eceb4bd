/-! What the law's start gives: texts, statics, links. -/
theorem tb_in {w : Nat} {x : Cond} (h : tbw w = some x) : x ∈ lw_tbl := tbq_in (w / 1000) (List.mem_of_getElem? h)
def nlP : List Nat := [1032, 1088, 1220, 1234, 2024, 2208, 2230, 3021, 3113, 3164, 4145, 5001, 5006, 5123]
theorem nl_all : (pNL.zip nlP).all (fun q => decide (tbw q.2 = some (.methodLinkNest q.1.1 q.1.2.1 q.1.2.2.1 q.1.2.2.2))) = true := by decide +kernel
theorem nl_in : ∀ q ∈ pNL, Cond.methodLinkNest q.1 q.2.1 q.2.2.1 q.2.2.2 ∈ lw_tbl := by
  intro q hq
  obtain ⟨i, hi⟩ := List.getElem?_of_mem hq
  have hl : i < pNL.length := (List.getElem?_eq_some_iff.mp hi).1
  have hl2 : i < nlP.length := hl
  obtain ⟨w, hw⟩ : ∃ w, nlP[i]? = some w := ⟨_, List.getElem?_eq_getElem hl2⟩
  have hz : (pNL.zip nlP)[i]? = some (q, w) := List.getElem?_zip_eq_some.mpr ⟨hi, hw⟩
  exact tb_in (of_decide_eq_true (List.all_eq_true.mp nl_all _ (List.mem_of_getElem? hz)))
def tmS (i : Nat) : Jvm.Term := if i = 0 then .string "CardDrawer$Tape" 67 else .string "CardDrawer$Tape" 56
def flN : List Cond := flatC (Jvm.Cond.and given_1 narrow_1)
theorem flN_a : (List.range 2).all (fun i => decide (Cond.exactly (tmS i) "java/lang/String" ∈ flN) && decide (Cond.eq (.field (tmS i) "java/lang/String" "coder" "B") (.int 0) ∈ flN) && decide (Cond.arrayOf (.field (tmS i) "java/lang/String" "value" "[B") .byte ∈ flN) && decide (Cond.eq (.length (.field (tmS i) "java/lang/String" "value" "[B")) (.int (Int32.ofNat (pLen.getD i 0))) ∈ flN)) = true := by decide +kernel
def flE (i : Nat) (j : Nat) : Cond := Cond.eq (.elem (.field (tmS i) "java/lang/String" "value" "[B") (.int (Int32.ofNat j))) (.int ((pByt.getD i []).getD j 0))
theorem flN_b0 : (flN.drop 13).take 144 = (List.range 144).map (flE 0) := by decide +kernel
theorem flN_b1 : (flN.drop 161).take 10 = (List.range 10).map (flE 1) := by decide +kernel
theorem flN_b {i j : Nat} (hi : i < 2) (hj : j < pLen.getD i 0) : flE i j ∈ flN := by
  have h2 : i = 0 ∨ i = 1 := by omega
  rcases h2 with rfl | rfl
  · have : flE 0 j ∈ (flN.drop 13).take 144 := by rw [flN_b0]; exact List.mem_map.mpr ⟨j, List.mem_range.mpr hj, rfl⟩
    exact List.mem_of_mem_drop (List.mem_of_mem_take this)
  · have : flE 1 j ∈ (flN.drop 161).take 10 := by rw [flN_b1]; exact List.mem_map.mpr ⟨j, List.mem_range.mpr hj, rfl⟩
    exact List.mem_of_mem_drop (List.mem_of_mem_take this)
theorem flN_c : Cond.not (Cond.eq (tmS 0) (tmS 1)) ∈ flN ∨ Cond.not (Cond.eq (tmS 1) (tmS 0)) ∈ flN := by decide +kernel
theorem flN_d : Cond.eq (.static "java/lang/String" "COMPACT_STRINGS" "Z") (.int 1) ∈ flN ∧ Cond.isRef (.static "jdk/internal/util/Preconditions" "SIOOBE_FORMATTER" "Ljava/util/function/BiFunction;") ∈ flN := by decide +kernel
/-- the texts, the statics, the links at the law's start -/
theorem st_X {s : State} {args : Array Value} (hts : ∀ w ∈ lw_tbl, w.before args s = true) (hgv : (Jvm.Cond.and given_1 narrow_1).before args s = true) (hnl : ∀ q ∈ pNL, Cond.methodLinkNest q.1 q.2.1 q.2.2.1 q.2.2.2 ∈ lw_tbl) (hao : Cond.arrayOver (.object "CardDrawer$Drawer") ∈ lw_tbl) (hl1 : Cond.laysStatic "java/lang/String" "COMPACT_STRINGS" "Z" ∈ lw_tbl) (hl2 : Cond.laysStatic "jdk/internal/util/Preconditions" "SIOOBE_FORMATTER" "Ljava/util/function/BiFunction;" ∈ lw_tbl) (hi1 : Cond.initialized "java/lang/String" ∈ lw_tbl) (hi2 : Cond.initialized "jdk/internal/util/Preconditions" ∈ lw_tbl)
    (hr0 : Cond.stringRef "CardDrawer$Tape" 67 "holds dust  worth when  or    and   not   personfirm  trade year  bent  worn  rung  age   now   by    from  to    in    throw ring  bend  find  " ∈ lw_tbl) (hr1 : Cond.stringRef "CardDrawer$Tape" 56 ";+-*/()<=>" ∈ lw_tbl) : ∃ tk : pTk, pX tk (fun q => s.heap.size ≤ q) s := by
  have hs := flat_of_before _ hgv
  have hA : ∀ a : Nat, a < s.heap.size → ¬ (fun q => s.heap.size ≤ q) a := fun a h => Nat.not_le.mpr h
  have ha : ∀ i : Nat, i < 2 → _ := fun i hi => List.all_eq_true.mp flN_a i (List.mem_range.mpr hi)
  simp only [Bool.and_eq_true, decide_eq_true_eq] at ha
  obtain ⟨adK, adV, hS, hK⟩ := vk_Sof (args := args) (s := s) (N := 2) (tm := tmS) (len := pLen) (byt := pByt) (A := fun q => s.heap.size ≤ q) (by decide) (fun i hi => hs _ (ha i hi).1.1.1) (fun i hi => hs _ (ha i hi).1.1.2) (fun i hi => hs _ (ha i hi).1.2) (fun i hi => hs _ (ha i hi).2)
    (fun i hi j hj => hs _ (flN_b hi hj))
    (fun i j hi hj hne => by
      have : (i = 0 ∧ j = 1) ∨ (i = 1 ∧ j = 0) := by omega
      rcases this with ⟨rfl, rfl⟩ | ⟨rfl, rfl⟩
      · exact flN_c.imp (fun h => hs _ h) (fun h => hs _ h)
      · exact flN_c.symm.imp (fun h => hs _ h) (fun h => hs _ h)) hA
  rcases va_Zqof (A := fun q => s.heap.size ≤ q) (hts _ hl2) (hts _ hi2) (hs _ flN_d.2) hA with hz | ⟨t, hz⟩
  · exact ⟨(adK, adV, none), hS, vk_R.of (hts _ hr0) (hK 0 (by decide)), vk_R.of (hts _ hr1) (hK 1 (by decide)), va_Zof (hts _ hl1) (hts _ hi1) (va_eqi (hs _ flN_d.1)) hA, hz, fun q hq => va_Nw.of rfl (hts _ (hnl q hq)), va_AO.of (hts _ hao)⟩
  · exact ⟨(adK, adV, some t), hS, vk_R.of (hts _ hr0) (hK 0 (by decide)), vk_R.of (hts _ hr1) (hK 1 (by decide)), va_Zof (hts _ hl1) (hts _ hi1) (va_eqi (hs _ flN_d.1)) hA, hz, fun q hq => va_Nw.of rfl (hts _ (hnl q hq)), va_AO.of (hts _ hao)⟩
theorem st_X0 {s : State} {args : Array Value} (hts : ∀ w ∈ lw_tbl, w.before args s = true) (hgv : (Jvm.Cond.and given_1 narrow_1).before args s = true) : ∃ tk : pTk, pX tk (fun q => s.heap.size ≤ q) s :=
  st_X hts hgv nl_in (tb_in (w := 1219) (by decide +kernel)) (tb_in (w := 3194) (by decide +kernel)) (tb_in (w := 3202) (by decide +kernel)) (tb_in (w := 1016) (by decide +kernel)) (tb_in (w := 1018) (by decide +kernel)) (tb_in (w := 3184) (by decide +kernel)) (tb_in (w := 4000) (by decide +kernel))
