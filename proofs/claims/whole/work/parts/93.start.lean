/-! What the law's start gives. -/
/-- the classes -/
theorem st_D {s : State} {args : Array Value} (hts : ∀ w ∈ GW, w.before args s = true) : ∃ D : va_G, ∀ (c : Nat) (q : vw_C), cls[c]? = some q → u_Kn s q.1 q.2.1 q.2.2 (D.1 c) (D.2 c) := by
  have h : ∀ c : Nat, ∃ z : ClassId × (Nat → Nat), ∀ q : vw_C, cls[c]? = some q → u_Kn s q.1 q.2.1 q.2.2 z.1 z.2 := by
    intro c
    by_cases hc : c < 13
    · obtain ⟨C, T, N, ty, g1, g2, g3, g4, g5, g6, g7, g8, g9⟩ := nw_of hc
      obtain ⟨cC, iS, hk⟩ := u_known (C := C) (T := T) (N := N) (n := N) hts g2 (hts _ g5)
      refine ⟨(cC, iS), fun q hq => ?_⟩
      rw [g1] at hq
      cases hq
      exact hk
    · refine ⟨(0, fun _ => 0), fun q hq => ?_⟩
      exact absurd (List.getElem?_eq_some_iff.mp hq).1 hc
  obtain ⟨f, hf⟩ := Classical.axiomOfChoice h
  exact ⟨(fun c => (f c).1, fun c => (f c).2), fun c q hq => hf c q hq⟩
/-- the two array classes -/
theorem st_K {s : State} {args : Array Value} (hts : ∀ w ∈ GW, w.before args s = true) (hao : (Cond.arrayOver (.object "CardDrawer$Drawer")).before args s = true) : ∃ (D : va_G) (cI cD : ClassId), va_K D cls [(cI, .int), (cD, .object "CardDrawer$Drawer")] s := by
  obtain ⟨D, hD⟩ := st_D hts
  obtain ⟨cI, kI, compI, i1, i2, i3⟩ := Cond.arrayClass_spec (hts _ ac_in)
  obtain ⟨comp, cD, kD, h1, h2, h3, h4, h5⟩ := Cond.arrayOver_spec hao
  refine ⟨D, cI, cD, hD, fun k q hk => ?_⟩
  match k, hk with
  | 0, hk =>
    cases hk
    exact ⟨fun n z => ⟨fun k h => (by cases h), kI, i2, compI, i3⟩, i1⟩
  | 1, hk =>
    cases hk
    exact ⟨fun n z => ⟨fun k h => (by cases h), kD, h3, comp, h4⟩, kD, comp, h3, h4, h1, h5⟩
  | k + 2, hk => simp at hk
