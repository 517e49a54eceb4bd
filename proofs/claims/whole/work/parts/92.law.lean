/-! The law's own calls: the class's cells and the reference's side by side. -/
theorem pWld_len {cI cD : ClassId} {ad : Nat → Nat} {G : List pSh} {S : pS} : (pWld cI cD ad G S).length = G.length := by simp [pWld]
theorem pWld_adr {cI cD : ClassId} {ad : Nat → Nat} {G : List pSh} {S : pS} {k : Nat} {q : Nat × va_E} (h : (pWld cI cD ad G S)[k]? = some q) : k < G.length ∧ q.1 = ad k := by
  have hl : k < G.length := by
    have := (List.getElem?_eq_some_iff.mp h).1
    rwa [pWld_len] at this
  unfold pWld at h
  rw [List.getElem?_mapIdx, List.getElem?_eq_getElem hl] at h
  cases h
  exact ⟨hl, rfl⟩
theorem pWld_has {cI cD : ClassId} {ad : Nat → Nat} {G : List pSh} {S : pS} {k : Nat} (h : k < G.length) : ∃ e, (pWld cI cD ad G S)[k]? = some (ad k, e) := by
  unfold pWld
  rw [List.getElem?_mapIdx, List.getElem?_eq_getElem h]
  exact ⟨_, rfl⟩
/-- apartness is a matter of addresses alone -/
theorem va_D_ad {cI cD : ClassId} {ad : Nat → Nat} {G : List pSh} {S : pS} {A : Nat → Prop} (h1 : ∀ i j, i < G.length → j < G.length → ad i = ad j → i = j) (h2 : ∀ i, i < G.length → A (ad i)) : va_D A (pWld cI cD ad G S) := by
  refine ⟨fun i j p q hi hj he => ?_, fun k q hk => ?_⟩
  · obtain ⟨a1, a2⟩ := pWld_adr hi
    obtain ⟨b1, b2⟩ := pWld_adr hj
    exact h1 i j a1 b1 (by rw [← a2, ← b2]; exact he)
  · obtain ⟨a1, a2⟩ := pWld_adr hk
    rw [a2]
    exact h2 k a1
theorem va_D_of {cI cD : ClassId} {ad : Nat → Nat} {G : List pSh} {S : pS} {A : Nat → Prop} (h : va_D A (pWld cI cD ad G S)) : (∀ i j, i < G.length → j < G.length → ad i = ad j → i = j) ∧ ∀ i, i < G.length → A (ad i) := by
  refine ⟨fun i j hi hj he => ?_, fun i hi => ?_⟩
  · obtain ⟨e1, h1⟩ := pWld_has (cI := cI) (cD := cD) (ad := ad) (S := S) hi
    obtain ⟨e2, h2⟩ := pWld_has (cI := cI) (cD := cD) (ad := ad) (S := S) hj
    exact h.1 i j _ _ h1 h2 he
  · obtain ⟨e1, h1⟩ := pWld_has (cI := cI) (cD := cD) (ad := ad) (S := S) hi
    exact h.2 i _ h1
/-- what isn't the callee's stays -/
theorem va_P_stay {D : va_G} {cl : List vw_C} {cI cD : ClassId} {ad ad2 : Nat → Nat} {G G2 : List pSh} {S S2 : pS} {H H1 : Heap} (hP2 : va_P D cl (pWld cI cD ad2 G2 S2) H) (hne : ∀ i j, i < G.length → j < G2.length → ad i ≠ ad2 j) (hk : ∀ q : Nat, q < H.size → ¬ va_A (pWld cI cD ad G S) H.size q → H1[q]? = H[q]?) : va_P D cl (pWld cI cD ad2 G2 S2) H1 := by
  intro k q hq
  have h0 := hP2 k q hq
  have hlt := h0.lt
  refine h0.kept (hk q.1 hlt ?_)
  rintro (⟨k2, e2, h2⟩ | h2)
  · obtain ⟨a1, a2⟩ := pWld_adr h2
    obtain ⟨b1, b2⟩ := pWld_adr hq
    exact hne k2 k a1 b1 (a2.symm.trans b2)
  · omega
