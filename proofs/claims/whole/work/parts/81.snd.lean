/-! What the small machine does, the machine itself does: plain instructions. -/
/-- where the constant texts lie, their rows of bytes, and what a static that is never asked holds -/
abbrev pTk : Type := (Nat → Nat) × (Nat → Nat) × Option Nat
/-- a value of the small machine, as the machine has it: ad the address of each cell, tk of each constant text -/
def pV (ad : Nat → Nat) (tk : pTk) : Value → Value
  | .int x => .int x
  | .ref i => .ref (ad i)
  | .float w => .ref (tk.1 w.toNat)
  | .double w => .ref (tk.2.1 w.toNat)
  | .retAddr _ => va_rf tk.2.2
  | _ => .null
theorem pV_cat (ad : Nat → Nat) (tk : pTk) (v : Value) : (pV ad tk v).category = 1 := by
  cases v <;> first | rfl | (show (va_rf tk.2.2).category = 1; cases tk.2.2 <;> rfl)
def pFld (ad : Nat → Nat) (f : Nat → Int32) (k : Nat) : Option (Option Nat) → Value
  | none => .int (f k)
  | some none => .null
  | some (some j) => .ref (ad j)
def pCell (cI cD : ClassId) (ad : Nat → Nat) (S : pS) (i : Nat) : pSh → va_E
  | .inl (ci, fl) => .inr (ci, fl.mapIdx (pFld ad (S.1 i)))
  | .inr (.inl n) => .inl (cI, n, .inl (S.2.1 i))
  | .inr (.inr n) => .inl (cD, n, .inr (.inr (.inr (.inr (fun k => if k < n then (S.2.2 i k).map ad else none)))))
def pWld (cI cD : ClassId) (ad : Nat → Nat) (G : List pSh) (S : pS) : va_W := G.mapIdx (fun i sh => (ad i, pCell cI cD ad S i sh))
theorem pWld_at {cI cD : ClassId} {ad : Nat → Nat} {G : List pSh} {S : pS} {i : Nat} {sh : pSh} (h : G[i]? = some sh) : (pWld cI cD ad G S)[i]? = some (ad i, pCell cI cD ad S i sh) := by
  unfold pWld
  rw [List.getElem?_mapIdx, h]
  rfl
theorem pWld_set {cI cD : ClassId} {ad : Nat → Nat} {G : List pSh} {S S' : pS} {i : Nat} {sh : pSh} {x : va_E} (h : G[i]? = some sh) (hx : pCell cI cD ad S' i sh = x) (ho : ∀ j sh', j ≠ i → G[j]? = some sh' → pCell cI cD ad S' j sh' = pCell cI cD ad S j sh') : (pWld cI cD ad G S).set i (ad i, x) = pWld cI cD ad G S' := by
  apply List.ext_getElem?
  intro j
  unfold pWld
  rw [List.getElem?_set, List.getElem?_mapIdx, List.getElem?_mapIdx]
  by_cases hj : i = j
  · subst hj
    have hl : i < G.length := (List.getElem?_eq_some_iff.mp h).1
    simp only [if_true, List.length_mapIdx, hl, h, Option.map_some, hx]
  · simp only [hj, if_false]
    cases hg : G[j]? with
    | none => rfl
    | some sh' => simp [ho j sh' (fun q => hj q.symm) hg]
/-- the machine's places hold what the small machine's do (a null there says nothing) -/
def pHas (ad : Nat → Nat) (tk : pTk) (lsA : Array Slot) (nL : Nat) (ls : List Value) : Prop := lsA.size = nL ∧ lv_wf lsA ∧ ∀ (i : Nat) (v : Value), ls[i]? = some v → v ≠ .null → lsA[i]? = some (.val (pV ad tk v))
def pLv (ad : Nat → Nat) (tk : pTk) (ls : List Value) : List (Nat × Value) := (ls.mapIdx (fun i v => (i, v))).filterMap (fun q => if q.2 = .null then none else some (q.1, pV ad tk q.2))
theorem pLv_mem {ad : Nat → Nat} {tk : pTk} {ls : List Value} {q : Nat × Value} : q ∈ pLv ad tk ls ↔ ∃ v, ls[q.1]? = some v ∧ v ≠ .null ∧ q.2 = pV ad tk v := by
  unfold pLv
  rw [List.mem_filterMap]
  constructor
  · rintro ⟨⟨i, v⟩, h1, h2⟩
    obtain ⟨j, hj⟩ := List.getElem?_of_mem h1
    rw [List.getElem?_mapIdx] at hj
    cases hv : ls[j]? with
    | none => simp [hv] at hj
    | some w =>
      simp only [hv, Option.map_some, Option.some.injEq, Prod.mk.injEq] at hj
      obtain ⟨rfl, rfl⟩ := hj
      dsimp only at h2
      by_cases hn : w = .null
      · simp [hn] at h2
      · rw [if_neg hn] at h2
        cases h2
        exact ⟨w, hv, hn, rfl⟩
  · rintro ⟨v, h1, h2, h3⟩
    refine ⟨(q.1, v), List.mem_of_getElem? (i := q.1) (by rw [List.getElem?_mapIdx, h1]; rfl), ?_⟩
    rw [if_neg h2, ← h3]
theorem pHas.lv {ad : Nat → Nat} {tk : pTk} {lsA : Array Slot} {nL : Nat} {ls : List Value} (h : pHas ad tk lsA nL ls) : lv_has lsA nL (pLv ad tk ls) := by
  refine ⟨h.1, h.2.1, fun q hq => ?_⟩
  obtain ⟨v, h1, h2, h3⟩ := pLv_mem.mp hq
  rw [h3]
  exact h.2.2 _ v h1 h2
theorem pHas.store {ad : Nat → Nat} {tk : pTk} {lsA : Array Slot} {nL i : Nat} {ls : List Value} {v : Value} (h : lv_has lsA nL ((i, pV ad tk v) :: (pLv ad tk ls).filter (fun q => !(q.1 == i) && !(q.1 + 1 == i && q.2.category == 2)))) : pHas ad tk lsA nL (ls.set i v) := by
  refine ⟨h.1, h.2.1, fun j w hj hw => ?_⟩
  rw [List.getElem?_set] at hj
  by_cases hij : i = j
  · subst hij
    by_cases hl : i < ls.length
    · simp only [if_true, hl] at hj
      cases hj
      exact h.2.2 (i, _) List.mem_cons_self
    · simp [hl] at hj
  · simp only [hij, if_false] at hj
    refine h.2.2 (j, pV ad tk w) (List.mem_cons_of_mem _ (List.mem_filter.mpr ⟨pLv_mem.mpr ⟨w, hj, hw, rfl⟩, ?_⟩))
    have h1 : (j == i) = false := by simpa using fun q => hij q.symm
    simp [h1, pV_cat]
theorem pHas.kill {ad : Nat → Nat} {tk : pTk} {lsA : Array Slot} {nL i : Nat} {ls : List Value} (h : pHas ad tk lsA nL ls) : pHas ad tk lsA nL (ls.set i .null) := by
  refine ⟨h.1, h.2.1, fun j w hj hw => ?_⟩
  rw [List.getElem?_set] at hj
  by_cases hij : i = j
  · subst hij
    by_cases hl : i < ls.length
    · simp only [if_true, hl] at hj
      cases hj
      exact absurd rfl hw
    · simp [hl] at hj
  · simp only [hij, if_false] at hj
    exact h.2.2 j w hj hw
theorem pFld_set {ad : Nat → Nat} {f : Nat → Int32} {fl : List (Option (Option Nat))} {a : Nat} {v : Int32} (h : fl[a]? = some none) : (fl.mapIdx (pFld ad f)).set a (.int v) = fl.mapIdx (pFld ad (upd f a v)) := by
  apply List.ext_getElem?
  intro j
  rw [List.getElem?_set, List.getElem?_mapIdx, List.getElem?_mapIdx, List.length_mapIdx]
  by_cases hj : a = j
  · subst hj
    have hl : a < fl.length := (List.getElem?_eq_some_iff.mp h).1
    simp only [if_true, hl, h, Option.map_some, pFld, upd]
  · simp only [hj, if_false]
    cases hg : fl[j]? with
    | none => rfl
    | some o =>
      have hj' : j ≠ a := fun q => hj q.symm
      cases o with
      | none => simp [pFld, upd, hj']
      | some o => cases o <;> simp [pFld]
theorem pSw_spec {pc : Nat} {ls st : List Value} {S : pS} {x : Int32} {d : Int} {r : List (Int × Int)} {z : pO} (h : pSw pc ls st S x d r = some z) : ∃ off, z = (some ((pc : Int) + off).toNat, ls, st, S) ∧ (((∀ q ∈ r, x ≠ Int32.ofInt q.1) ∧ off = d) ∨ ∃ i : Nat, ∃ q, r[i]? = some q ∧ x = Int32.ofInt q.1 ∧ off = q.2 ∧ ∀ j, j < i → ∀ q', r[j]? = some q' → x ≠ Int32.ofInt q'.1) := by
  induction r with
  | nil =>
    rw [pSw] at h
    cases h
    exact ⟨d, rfl, Or.inl ⟨fun q hq => absurd hq List.not_mem_nil, rfl⟩⟩
  | cons q r ih =>
    obtain ⟨v, o⟩ := q
    rw [pSw] at h
    by_cases hx : x = Int32.ofInt v
    · rw [if_pos hx] at h
      cases h
      exact ⟨o, rfl, Or.inr ⟨0, (v, o), rfl, hx, rfl, fun j hj => absurd hj (Nat.not_lt_zero j)⟩⟩
    · rw [if_neg hx] at h
      obtain ⟨off, h1, h2⟩ := ih h
      refine ⟨off, h1, ?_⟩
      rcases h2 with ⟨h2, h3⟩ | ⟨i, q, h2, h3, h4, h5⟩
      · refine Or.inl ⟨fun q hq => ?_, h3⟩
        rcases List.mem_cons.mp hq with rfl | hq
        · exact hx
        · exact h2 q hq
      · refine Or.inr ⟨i + 1, q, h2, h3, h4, fun j hj q' hq' => ?_⟩
        cases j with
        | zero => cases hq'; exact hx
        | succ j => exact h5 j (by omega) q' hq'
