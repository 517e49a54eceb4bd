/-! A method's answer, as a contract. -/
theorem hMrun {tys : List (ClassId × FieldType)} {cD : ClassId} (ht : tys[1]? = some (cD, .object "CardDrawer$Drawer")) (a : Nat) (hn : (PT a).2.2.2 ≠ []) (hk : (IN a).2.2.2.2 = 0 ∨ (IN a).2.2.2.2 = 1) : MOk PT IN GW cls tys cD a := by
  by_cases ha : a < 301
  · refine hMok ht ha ?_
    cases hp : pIn a inis with
    | false => rfl
    | true =>
      have := (hMok2 ht hp).2.2.2.2.2.2.2.2.2.1
      rw [this] at hk
      rcases hk with h | h <;> exact absurd h (by decide)
  · exact absurd (PT_out (by omega)) hn
theorem cls9 : cls.length < 99 := by decide
/-- the contract of a method whose run answers -/
theorem met_call {l : Launch} {D : va_G} {tys : List (ClassId × FieldType)} {cI cD : ClassId} {ad : Nat → Nat} {tk : pTk} (ht0 : tys[0]? = some (cI, .int)) (ht1 : tys[1]? = some (cD, .object "CardDrawer$Drawer")) {G : List pSh} {k d sz : Nat} {As : List Value} {S S' : pS} {x : Int32} (hn : (PT k).2.2.2 ≠ []) (hk : (IN k).2.2.2.2 = 0 ∨ (IN k).2.2.2.2 = 1) (hAs : As.length = (PT k).1) (h : Res PT G d k ((PT k).2.2.2, pLs (PT k) As, [], S) = some (x, S')) :
    Met l (IN k).1 (pWs GW IN k) (pRm d 0 0) (va_Pc (As.map (pV ad tk)) (pPre D cls tys cI cD ad tk G S sz)) (pQ x (pBw D cls tys cI cD ad G S' (va_A (pWld cI cD ad G S) sz)) (va_A (pWld cI cD ad G S) sz) (IN k).2.2.2.1) 0 0 (va_A (pWld cI cD ad G S) sz) := by
  obtain ⟨n, hn2⟩ := (Res_iff PT G).mp h
  have hM := hMrun ht1 k hn hk
  exact met_of hM hAs (fun hF hl hP hD => exf_W GW_good cls9 ht0 ht1 (hMrun ht1) n d k _ _ [] S S' x hn2 hM.2.2.2.2.2.2.2.2.1 hM.2.2.2.2.2.2.2.2.1 hF hM.2.2.2.2.2.2.2.1 hl hP hD va_S.rf)
/-- the contract of a constructor -/
theorem met_ini {l : Launch} {D : va_G} {tys : List (ClassId × FieldType)} {cI cD : ClassId} {ad : Nat → Nat} {tk : pTk} (ht0 : tys[0]? = some (cI, .int)) (ht1 : tys[1]? = some (cD, .object "CardDrawer$Drawer")) {G G' : List pSh} {k n d sz : Nat} {As : List Value} {S S' : pS} (hi : pIn k inis = true) (hAs : As.length = (PT k).1) (h : exec PT prT n d k (PT k).2.2.2 (pLs (PT k) As) [] G S = some (G', S')) :
    Met l (IN k).1 (pWs GW IN k) (pRm d (G'.length - G.length) (slG G' - slG G)) (va_Pc (As.map (pV ad tk)) (pPre D cls tys cI cD ad tk G S sz)) (pQc D cls tys cI cD G.length ad G' S' (va_A (pWld cI cD ad G S) sz)) (G'.length - G.length) (slG G' - slG G) (va_A (pWld cI cD ad G S) sz) := by
  have hM := hMok2 ht1 hi
  exact met_con hM hAs (fun hF hl hP hD => exec_W GW_good cls9 ht0 ht1 (fun a hn ⟨_, _, _, _, _, _, _, hk⟩ => hMcon ht1 a hn hk) n d k _ _ [] G G' S S' h hM.2.2.2.2.2.2.2.2.1 hM.2.2.2.2.2.2.2.2.1 hF hM.2.2.2.2.2.2.2.2.2.2.1 hM.2.2.2.2.2.2.2.1 hl hP hD va_S.rf (fun _ _ => rfl) (Nat.le_refl _) (by omega) (by omega))
