/-! The constructors: checked, and run. -/
def prL : List (List (Option (Option Nat))) := [[some none, some none, some none, none, none], [some none, some none, some none, some none, none, none, none], [some none, some none, some none, some none], [some none, none, none, none, none, none, none, none], [some none, some none, none], [some none, some none, some none, none, none], [some none, some none, some none, some none, some none, some none, some none, none, none], [some none, some none, some none, none, none, none, none, none, none], [none, some none, none], [some none, some none, some none, none, none], [some none, some none, some none, some none, some none, some none, some none, some none, none, none], [some none, some none, some none, some none, some none, some none, some none, some none, some none, some none, some none, some none, some none, some none, some none, none], [none, some none, some none, none, some none, none, none, some none, some none, some none, some none, some none, none, none, none, none, none, some none, some none, some none, some none, some none, some none, some none, some none, none, none, none, some none, none, none, none, none, none, none, some none, none, some none, some none, none, some none, some none, some none, none, some none, some none, some none, some none, some none, none, some none, some none, none, some none, some none, some none, none, none, none, some none]]
def prT (b : Nat) : List (Option (Option Nat)) := prL.getD b []
def nwP : List (Nat × Nat) := [(2113, 1012), (2082, 1011), (2061, 1010), (1031, 1002), (1213, 1007), (1191, 1006), (1087, 1004), (2018, 1009), (1123, 1005), (1233, 1008), (1081, 1003), (1023, 1001), (5228, 1013)]
/-- links to classes: whose, which, class, place -/
def CLK : List (Nat × Nat × Nat × Nat) := [(11, 7, 3, 1030), (11, 16, 10, 1080), (10, 9, 6, 1086), (10, 28, 8, 1122), (11, 23, 8, 1188), (11, 32, 5, 1190), (11, 47, 4, 1212), (4, 9, 3, 1218), (11, 54, 9, 1232), (11, 61, 7, 2017), (7, 9, 6, 2023), (7, 18, 8, 2025), (11, 70, 2, 2060), (11, 79, 1, 2081), (11, 86, 0, 2112)]
theorem clk_all : CLK.all (fun q => decide (tbw q.2.2.2 = some (.classLink (cnm.getD q.1 "") q.2.1 (cnm.getD q.2.2.1 "")))) = true := by decide +kernel
def cHas (own i b : Nat) : Bool := CLK.any (fun q => decide (q.1 = own ∧ q.2.1 = i ∧ q.2.2.1 = b))
theorem cHas_in {own i b : Nat} (h : cHas own i b = true) : Cond.classLink (cnm.getD own "") i (cnm.getD b "") ∈ GW := by
  obtain ⟨q, hq, he⟩ := List.any_eq_true.mp h
  obtain ⟨rfl, rfl, rfl⟩ := of_decide_eq_true he
  exact GW_of (of_decide_eq_true (List.all_eq_true.mp clk_all q hq)) rfl
def nwOk (b : Nat) : Bool := match cls[b]?, yCs[b]?, nwP[b]? with
  | some (C, _, N), some y, some q => decide (tbw q.1 = some (.instantiable C N)) && (decide (tbw q.2 = some (.initialized C)) && (decide ((prT b).length = N) && ((prT b).all nrf && (List.range N).all (fun j => decide (defaultValue (y j) = vp_V ((prT b).mapIdx (pFld id (fun _ => 0))) j)))))
  | _, _, _ => false
theorem nw_all : (List.range 13).all nwOk = true := by decide +kernel
theorem nw_of {b : Nat} (hb : b < 13) : ∃ (C : String) (T : u_T) (N : Nat) (ty : Nat → FieldType), cls[b]? = some (C, T, N) ∧ (∀ w ∈ u_ws C T N, w ∈ GW) ∧ (∀ k, k < N → parseFieldDescriptor (T k).2.2.1 = some (ty k)) ∧ C = cnm.getD b "" ∧ Cond.instantiable C N ∈ GW ∧ Cond.initialized C ∈ GW ∧ (prT b).length = N ∧ (∀ (ad : Nat → Nat) (j : Nat), j < N → defaultValue (ty j) = vp_V ((prT b).mapIdx (pFld ad (fun _ => 0))) j) ∧ (prT b).all nrf = true := by
  obtain ⟨T, N, hc⟩ := cls_at hb
  obtain ⟨y, hy, hy1, -⟩ := ty_of hc
  have h1 := List.all_eq_true.mp nw_all b (List.mem_range.mpr hb)
  unfold nwOk at h1
  rw [hc, hy] at h1
  split at h1
  · rename_i C' T' N' y' q e1 e2 e3
    cases e1
    cases e2
    simp only [Bool.and_eq_true, decide_eq_true_eq] at h1
    obtain ⟨g1, g2, g3, g4, g5⟩ := h1
    refine ⟨_, T, N, y, hc, lay_in hc, hy1, rfl, GW_of g1 rfl, GW_of g2 rfl, g3, fun ad j hj => ?_, g4⟩
    rw [nrf_ad (ad' := id) g4]
    exact of_decide_eq_true (List.all_eq_true.mp g5 j (List.mem_range.mpr hj))
  · cases h1
theorem ac_in : Cond.arrayClass .int ∈ GW := GW_of (w := 1079) (by decide +kernel) rfl
def bMk (own : Nat) (bytes : ByteArray) (nx : Option Nat) : pI → Bool
  | (pc, .new i, _, b, _, _) => decide (decode bytes pc = .ok (.new i, 3) ∧ nx = some (pc + 3) ∧ b < 13) && cHas own i b
  | (pc, .newarray t, _, _, _, _) => decide (t = .int ∧ decode bytes pc = .ok (.newarray .int, 2) ∧ nx = some (pc + 2))
  | (pc, .anewarray i, _, _, _, _) => decide (decode bytes pc = .ok (.anewarray i, 3) ∧ nx = some (pc + 3)) && cHas own i 3
  | (pc, .invokespecial i, a, _, _, w) => decide (decode bytes pc = .ok (.invokespecial i, 3) ∧ nx = some (pc + 3) ∧ (IN a).2.2.2.1 = none ∧ (IN a).2.2.2.2 = 2) && (mHas own i a 0 w || mHas own i a 1 w)
  | _ => false
theorem bMk_ok {own : Nat} {bytes : ByteArray} {nx : Option Nat} {e : pI} (h : bMk own bytes nx e = true) : MkOk prT cls GW IN (cnm.getD own "") bytes nx e := by
  obtain ⟨pc, ins, a, b, c, w⟩ := e
  cases ins with
  | new i =>
    simp only [bMk, Bool.and_eq_true, decide_eq_true_eq] at h
    obtain ⟨⟨h1, h2, h3⟩, h4⟩ := h
    obtain ⟨C, T, N, ty, g1, g2, g3, g4, g5, g6, g7, g8, g9⟩ := nw_of h3
    exact ⟨h1, h2, C, T, N, ty, g1, g2, g3, by rw [g4]; exact cHas_in h4, g5, g6, g7, g8, g9⟩
  | newarray t =>
    simp only [bMk, decide_eq_true_eq] at h
    exact ⟨h.1, h.2.1, h.2.2, ac_in⟩
  | anewarray i =>
    simp only [bMk, Bool.and_eq_true, decide_eq_true_eq] at h
    exact ⟨h.1.1, h.1.2, cHas_in h.2⟩
  | invokespecial i =>
    simp only [bMk, Bool.and_eq_true, Bool.or_eq_true, decide_eq_true_eq] at h
    obtain ⟨⟨h1, h2, h3, h4⟩, h5⟩ := h
    refine ⟨h1, h2, h3, h4, ?_⟩
    rcases h5 with h5 | h5
    · exact Or.inl (mHas0 h5)
    · exact Or.inr ⟨_, mHas1 h5⟩
  | _ => simp [bMk] at h
def bA2 (k : Nat) (nx : Option Nat) (e : pI) : Bool := match pKind e with
  | 0 => bE (IRo k).1 (IN k).2.1 (IN k).2.2.1 (decide ((IN k).1.name = "<init>")) nx e
  | 2 => bRr (IN k).2.1 (IN k).2.2.2.1 e
  | 3 => bMk (IRo k).1 (IN k).2.1 nx e
  | 4 => bMk (IRo k).1 (IN k).2.1 nx e || bE (IRo k).1 (IN k).2.1 (IN k).2.2.1 (decide ((IN k).1.name = "<init>")) nx e
  | _ => false
theorem bA2_ok {tys : List (ClassId × FieldType)} {cD : ClassId} (ht : tys[1]? = some (cD, .object "CardDrawer$Drawer")) {k : Nat} {nx : Option Nat} {e : pI} (h : bA2 k nx e = true) : AOk2 prT IN GW cls tys cD k nx e := by
  unfold bA2 at h
  refine ⟨fun hk => ?_, fun hk => ?_, fun hk => ?_, fun hk => ?_⟩
  · rw [hk] at h; exact bE_ok ht h
  · rw [hk] at h; exact bRr_ok h
  · rw [hk] at h; exact bMk_ok h
  · rw [hk] at h
    rcases Bool.or_eq_true_iff.mp h with h | h
    · exact Or.inl (bMk_ok h)
    · exact Or.inr (bE_ok ht h)
def bL2 (k : Nat) : List pI → Bool
  | [] => true
  | e :: is => bA2 k (is.head?.map (·.1)) e && bL2 k is
theorem bL2_ok {tys : List (ClassId × FieldType)} {cD : ClassId} (ht : tys[1]? = some (cD, .object "CardDrawer$Drawer")) {k : Nat} : ∀ {is : List pI}, bL2 k is = true → LOk2 prT IN GW cls tys cD k is
  | [], _ => trivial
  | e :: is, h => by
    simp only [bL2, Bool.and_eq_true] at h
    exact ⟨bA2_ok ht h.1, bL2_ok ht h.2⟩
theorem bN_0 : bL2 0 cd0 = true := by decide +kernel
theorem bM_0 : bM 0 = true := by decide +kernel
theorem bN_19 : bL2 19 cd19 = true := by decide +kernel
theorem bM_19 : bM 19 = true := by decide +kernel
theorem bN_33 : bL2 33 cd33 = true := by decide +kernel
theorem bM_33 : bM 33 = true := by decide +kernel
theorem bN_36 : bL2 36 cd36 = true := by decide +kernel
theorem bM_36 : bM 36 = true := by decide +kernel
theorem bN_48 : bL2 48 cd48 = true := by decide +kernel
theorem bM_48 : bM 48 = true := by decide +kernel
theorem bN_53 : bL2 53 cd53 = true := by decide +kernel
theorem bM_53 : bM 53 = true := by decide +kernel
theorem bN_67 : bL2 67 cd67 = true := by decide +kernel
theorem bM_67 : bM 67 = true := by decide +kernel
theorem bN_77 : bL2 77 cd77 = true := by decide +kernel
theorem bM_77 : bM 77 = true := by decide +kernel
theorem bN_94 : bL2 94 cd94 = true := by decide +kernel
theorem bM_94 : bM 94 = true := by decide +kernel
theorem bN_99 : bL2 99 cd99 = true := by decide +kernel
theorem bM_99 : bM 99 = true := by decide +kernel
theorem bN_111 : bL2 111 cd111 = true := by decide +kernel
theorem bM_111 : bM 111 = true := by decide +kernel
theorem bN_119 : bL2 119 cd119 = true := by decide +kernel
theorem bM_119 : bM 119 = true := by decide +kernel
def bLr (k : Nat) (nx : Option Nat) : List pI → Bool
  | [] => true
  | [e] => bA2 k nx e
  | e :: e2 :: r => bA2 k (some e2.1) e && bLr k nx (e2 :: r)
theorem bLr_app {k : Nat} : ∀ (l r : List pI), bLr k (r.head?.map (·.1)) l = true → bL2 k r = true → bL2 k (l ++ r) = true
  | [], r, _, h => h
  | [e], r, h, h2 => by
    simp only [List.cons_append, List.nil_append, bL2, Bool.and_eq_true]
    exact ⟨h, h2⟩
  | e :: e2 :: l, r, h, h2 => by
    simp only [bLr, Bool.and_eq_true] at h
    have := bLr_app (e2 :: l) r h.2 h2
    simp only [List.cons_append, bL2, Bool.and_eq_true] at this ⊢
    exact ⟨h.1, this⟩
theorem bN_160_0 : bLr 160 ((cd160.drop 60).head?.map (·.1)) ((cd160.drop 0).take 60) = true := by decide +kernel
theorem bN_160_1 : bLr 160 ((cd160.drop 120).head?.map (·.1)) ((cd160.drop 60).take 60) = true := by decide +kernel
theorem bN_160_2 : bLr 160 ((cd160.drop 180).head?.map (·.1)) ((cd160.drop 120).take 60) = true := by decide +kernel
theorem bN_160_3 : bLr 160 ((cd160.drop 240).head?.map (·.1)) ((cd160.drop 180).take 60) = true := by decide +kernel
theorem bN_160_4 : bLr 160 ((cd160.drop 300).head?.map (·.1)) ((cd160.drop 240).take 60) = true := by decide +kernel
theorem bN_160_5 : bLr 160 ((cd160.drop 360).head?.map (·.1)) ((cd160.drop 300).take 60) = true := by decide +kernel
theorem bN_160_6 : bLr 160 ((cd160.drop 420).head?.map (·.1)) ((cd160.drop 360).take 60) = true := by decide +kernel
theorem bN_160_7 : bLr 160 ((cd160.drop 480).head?.map (·.1)) ((cd160.drop 420).take 60) = true := by decide +kernel
theorem bN_160_8 : bLr 160 ((cd160.drop 540).head?.map (·.1)) ((cd160.drop 480).take 60) = true := by decide +kernel
theorem bN_160_9 : bLr 160 ((cd160.drop 600).head?.map (·.1)) ((cd160.drop 540).take 60) = true := by decide +kernel
theorem bN_160_10 : bLr 160 ((cd160.drop 660).head?.map (·.1)) ((cd160.drop 600).take 60) = true := by decide +kernel
theorem bNd_160_11 : bL2 160 (cd160.drop 660) = true := by decide +kernel
theorem bNd_160_10 : bL2 160 (cd160.drop 600) = true := by
  have h := bLr_app ((cd160.drop 600).take 60) (cd160.drop 660) bN_160_10 bNd_160_11
  rwa [show cd160.drop 660 = (cd160.drop 600).drop 60 from by rw [List.drop_drop], List.take_append_drop] at h
theorem bNd_160_9 : bL2 160 (cd160.drop 540) = true := by
  have h := bLr_app ((cd160.drop 540).take 60) (cd160.drop 600) bN_160_9 bNd_160_10
  rwa [show cd160.drop 600 = (cd160.drop 540).drop 60 from by rw [List.drop_drop], List.take_append_drop] at h
theorem bNd_160_8 : bL2 160 (cd160.drop 480) = true := by
  have h := bLr_app ((cd160.drop 480).take 60) (cd160.drop 540) bN_160_8 bNd_160_9
  rwa [show cd160.drop 540 = (cd160.drop 480).drop 60 from by rw [List.drop_drop], List.take_append_drop] at h
theorem bNd_160_7 : bL2 160 (cd160.drop 420) = true := by
  have h := bLr_app ((cd160.drop 420).take 60) (cd160.drop 480) bN_160_7 bNd_160_8
  rwa [show cd160.drop 480 = (cd160.drop 420).drop 60 from by rw [List.drop_drop], List.take_append_drop] at h
theorem bNd_160_6 : bL2 160 (cd160.drop 360) = true := by
  have h := bLr_app ((cd160.drop 360).take 60) (cd160.drop 420) bN_160_6 bNd_160_7
  rwa [show cd160.drop 420 = (cd160.drop 360).drop 60 from by rw [List.drop_drop], List.take_append_drop] at h
theorem bNd_160_5 : bL2 160 (cd160.drop 300) = true := by
  have h := bLr_app ((cd160.drop 300).take 60) (cd160.drop 360) bN_160_5 bNd_160_6
  rwa [show cd160.drop 360 = (cd160.drop 300).drop 60 from by rw [List.drop_drop], List.take_append_drop] at h
theorem bNd_160_4 : bL2 160 (cd160.drop 240) = true := by
  have h := bLr_app ((cd160.drop 240).take 60) (cd160.drop 300) bN_160_4 bNd_160_5
  rwa [show cd160.drop 300 = (cd160.drop 240).drop 60 from by rw [List.drop_drop], List.take_append_drop] at h
theorem bNd_160_3 : bL2 160 (cd160.drop 180) = true := by
  have h := bLr_app ((cd160.drop 180).take 60) (cd160.drop 240) bN_160_3 bNd_160_4
  rwa [show cd160.drop 240 = (cd160.drop 180).drop 60 from by rw [List.drop_drop], List.take_append_drop] at h
theorem bNd_160_2 : bL2 160 (cd160.drop 120) = true := by
  have h := bLr_app ((cd160.drop 120).take 60) (cd160.drop 180) bN_160_2 bNd_160_3
  rwa [show cd160.drop 180 = (cd160.drop 120).drop 60 from by rw [List.drop_drop], List.take_append_drop] at h
theorem bNd_160_1 : bL2 160 (cd160.drop 60) = true := by
  have h := bLr_app ((cd160.drop 60).take 60) (cd160.drop 120) bN_160_1 bNd_160_2
  rwa [show cd160.drop 120 = (cd160.drop 60).drop 60 from by rw [List.drop_drop], List.take_append_drop] at h
theorem bNd_160_0 : bL2 160 (cd160.drop 0) = true := by
  have h := bLr_app ((cd160.drop 0).take 60) (cd160.drop 60) bN_160_0 bNd_160_1
  rwa [show cd160.drop 60 = (cd160.drop 0).drop 60 from by rw [List.drop_drop], List.take_append_drop] at h
theorem bN_160 : bL2 160 cd160 = true := bNd_160_0
def bMr (k : Nat) : Bool := decide (tbw (IRo k).2.2.2.2.2.2.2.2.2.2 = some (.initialized (IN k).1.cls)) && (plainName (IN k).1.cls && (decide ((IN k).1.cls ≠ "java/lang/invoke/MethodHandle" ∧ (IN k).1.cls ≠ "java/lang/invoke/VarHandle") &&
  (decide ((IN k).2.2.1 ≤ 300 ∧ (PT k).2.1 = (IN k).2.2.1 ∧ (PT k).1 ≤ (PT k).2.1 ∧ (PT k).2.2.2.head?.map (·.1) = some 0) &&
  (decide ((IN k).2.2.2.2 = 2 ∧ (parseMethodDescriptor (IN k).1.desc).map (fun d => d.parameters.length + 1) = some (PT k).1 ∧ (IN k).1.name = "<init>") && decide (tbw (IRo k).2.2.2.2.2.2.2.2.1 = some (.instanceMethod (IN k).1))))))
theorem bM3_ok {tys : List (ClassId × FieldType)} {cD : ClassId} {k : Nat} (h0 : tbw (IRo k).2.2.2.2.2.2.2.1 = some (.code (IN k).1 (IN k).2.1 (IN k).2.2.1 (IN k).2.2.2.1)) (h : bMr k = true) (hk : (IN k).2.2.2.2 = 2) (hr : (IN k).2.2.2.1 = none) (h1 : 1 ≤ (PT k).1) (hL : LOk2 prT IN GW cls tys cD k (PT k).2.2.2) : MOk2 PT prT IN GW cls tys cD k := by
  simp only [bMr, Bool.and_eq_true, decide_eq_true_eq] at h
  obtain ⟨h2, h3, h4, ⟨h5, h6, h7, h8⟩, ⟨g1, g2, g3⟩, g4⟩ := h
  exact ⟨GW_of h0 rfl, GW_of h2 rfl, h3, h4, h5, h6, h7, h8, hL, hk, hr, g2, h1, GW_of g4 rfl, g3⟩
theorem bM2_ok {tys : List (ClassId × FieldType)} {cD : ClassId} {k : Nat} (h : bM k = true) (hk : (IN k).2.2.2.2 = 2) (hr : (IN k).2.2.2.1 = none) (h1 : 1 ≤ (PT k).1) (hL : LOk2 prT IN GW cls tys cD k (PT k).2.2.2) : MOk2 PT prT IN GW cls tys cD k := by
  simp only [bM, Bool.and_eq_true, decide_eq_true_eq] at h
  obtain ⟨h1', h2, h3, h4, ⟨h5, h6, h7, h8⟩, h9⟩ := h
  rw [hk] at h9
  simp only [Bool.and_eq_true, decide_eq_true_eq] at h9
  obtain ⟨⟨g1, g2, g3⟩, g4⟩ := h9
  exact ⟨GW_of h1' rfl, GW_of h2 rfl, h3, h4, h5, h6, h7, h8, hL, hk, hr, g2, h1, GW_of g4 rfl, g3⟩
/-- EVERY CONSTRUCTOR -/
theorem hMok2 {tys : List (ClassId × FieldType)} {cD : ClassId} (ht : tys[1]? = some (cD, .object "CardDrawer$Drawer")) {k : Nat} (hi : pIn k inis = true) : MOk2 PT prT IN GW cls tys cD k := by
  have : k = 0 ∨ k = 19 ∨ k = 33 ∨ k = 36 ∨ k = 48 ∨ k = 53 ∨ k = 67 ∨ k = 77 ∨ k = 94 ∨ k = 99 ∨ k = 111 ∨ k = 119 ∨ k = 160 := by
    simp [pIn, inis, Bool.or_eq_true, Nat.beq_eq_true_eq] at hi
    omega
  rcases this with rfl | rfl | rfl | rfl | rfl | rfl | rfl | rfl | rfl | rfl | rfl | rfl | rfl
  · exact bM2_ok bM_0 rfl rfl (by decide) (bL2_ok ht bN_0)
  · exact bM2_ok bM_19 rfl rfl (by decide) (bL2_ok ht bN_19)
  · exact bM2_ok bM_33 rfl rfl (by decide) (bL2_ok ht bN_33)
  · exact bM2_ok bM_36 rfl rfl (by decide) (bL2_ok ht bN_36)
  · exact bM2_ok bM_48 rfl rfl (by decide) (bL2_ok ht bN_48)
  · exact bM2_ok bM_53 rfl rfl (by decide) (bL2_ok ht bN_53)
  · exact bM2_ok bM_67 rfl rfl (by decide) (bL2_ok ht bN_67)
  · exact bM2_ok bM_77 rfl rfl (by decide) (bL2_ok ht bN_77)
  · exact bM2_ok bM_94 rfl rfl (by decide) (bL2_ok ht bN_94)
  · exact bM2_ok bM_99 rfl rfl (by decide) (bL2_ok ht bN_99)
  · exact bM2_ok bM_111 rfl rfl (by decide) (bL2_ok ht bN_111)
  · exact bM2_ok bM_119 rfl rfl (by decide) (bL2_ok ht bN_119)
  · exact bM3_ok rfl (by decide +kernel) rfl rfl (by decide) (bL2_ok ht bN_160)
theorem ini_kind : (List.range 301).all (fun k => !decide ((IN k).2.2.2.2 = 2) || pIn k inis) = true := by decide +kernel
theorem hMcon {tys : List (ClassId × FieldType)} {cD : ClassId} (ht : tys[1]? = some (cD, .object "CardDrawer$Drawer")) (a : Nat) (hn : (PT a).2.2.2 ≠ []) (hk : (IN a).2.2.2.2 = 2) : MOk2 PT prT IN GW cls tys cD a := by
  by_cases ha : a < 301
  · have := List.all_eq_true.mp ini_kind a (List.mem_range.mpr ha)
    simp only [hk, decide_true, Bool.not_true, Bool.false_or] at this
    exact hMok2 ht this
  · exact absurd (PT_out (by omega)) hn
def S00 : pS := (fun _ _ => 0, fun _ _ => 0, fun _ _ => none)
def runX : Option (List pSh × pS) := exec PT prT 6000 20 119 cd119 (pLs (PT 119) [.ref 0]) [] [.inl (11, prT 11)] S00
theorem runX_G : runX.map (·.1) = some GX := by decide +kernel
def SX0 : pS := (runX.getD ([], S00)).2
theorem runX_eq : runX = some (GX, SX0) := by
  have h := runX_G
  unfold SX0
  cases hr : runX with
  | none => rw [hr] at h; cases h
  | some r =>
    rw [hr] at h
    simp only [Option.map_some, Option.some.injEq] at h
    simp only [Option.getD_some]
    rw [← h]
def runR : Option (List pSh × pS) := exec PT prT 6000 20 160 cd160 (pLs (PT 160) [.ref 0]) [] [.inl (12, prT 12)] S00
theorem runR_G : runR.map (·.1) = some GR := by decide +kernel
def SR0 : pS := (runR.getD ([], S00)).2
theorem runR_eq : runR = some (GR, SR0) := by
  have h := runR_G
  unfold SR0
  cases hr : runR with
  | none => rw [hr] at h; cases h
  | some r =>
    rw [hr] at h
    simp only [Option.map_some, Option.some.injEq] at h
    simp only [Option.getD_some]
    rw [← h]
