/-! Constructors: runs that make cells. -/
/-- a new cell, or a reference put into a field: the stack, the shapes and the numbers then -/
def pMk (pr : Nat → List (Option (Option Nat))) (G : List pSh) (st : List Value) (S : pS) : pI → Option (List Value × List pSh × pS)
  | (_, .new _, _, b, _, _) => some (.ref G.length :: st, G ++ [.inl (b, pr b)], (fun o => if o = G.length then (fun _ => 0) else S.1 o, S.2.1, S.2.2))
  | (_, .newarray _, _, _, _, _) => match st with
    | .int n :: st => if 0 ≤ n ∧ n.toNatClampNeg ≤ 65536 then some (.ref G.length :: st, G ++ [.inr (.inl n.toNatClampNeg)], (S.1, fun o => if o = G.length then (fun _ => 0) else S.2.1 o, S.2.2)) else none
    | _ => none
  | (_, .anewarray _, _, _, _, _) => match st with
    | .int n :: st => if 0 ≤ n ∧ n.toNatClampNeg ≤ 65536 then some (.ref G.length :: st, G ++ [.inr (.inr n.toNatClampNeg)], (S.1, S.2.1, fun o => if o = G.length then (fun _ => none) else S.2.2 o)) else none
    | _ => none
  | (_, .putfield _, a, b, _, _) => match st with
    | .ref j :: .ref o :: st => match G[o]? with
      | some (.inl (ci, fl)) => if ci = b then (match fl[a]? with
        | some (some _) => some (st, G.set o (.inl (ci, fl.set a (some (some j)))), S)
        | _ => none) else none
      | _ => none
    | _ => none
  | _ => none
/-- every reference that is held is one of a cell that there is -/
def wfV (n : Nat) : Value → Bool
  | .ref j => decide (j < n)
  | _ => true
def wfSh (n : Nat) (f : Nat → Option Nat) : pSh → Bool
  | .inl (_, fl) => fl.all (fun o => match o with
    | some (some j) => decide (j < n)
    | _ => true)
  | .inr (.inl _) => true
  | .inr (.inr m) => (List.range m).all (fun k => match f k with
    | some j => decide (j < n)
    | none => true)
def wfG (G : List pSh) (S : pS) : Bool := (List.range G.length).all (fun i => match G[i]? with
  | some sh => wfSh G.length (S.2.2 i) sh
  | none => true)
/-- how many slots cells of these shapes have -/
def slG : List pSh → Nat
  | [] => 0
  | .inl (_, fl) :: r => fl.length + slG r
  | .inr (.inl n) :: r => n + slG r
  | .inr (.inr n) :: r => n + slG r
theorem slG_app (G G' : List pSh) : slG (G ++ G') = slG G + slG G' := by
  induction G with
  | nil => simp [slG]
  | cons sh G ih =>
    rcases sh with ⟨c, fl⟩ | n | n <;> simp only [List.cons_append, slG, ih] <;> omega
theorem slG_set {G : List pSh} {o ci a : Nat} {fl : List (Option (Option Nat))} {x : Option (Option Nat)} (h : G[o]? = some (.inl (ci, fl))) : slG (G.set o (.inl (ci, fl.set a x))) = slG G := by
  induction G generalizing o with
  | nil => simp at h
  | cons sh G ih =>
    cases o with
    | zero =>
      simp at h
      subst h
      simp [slG]
    | succ o =>
      have := ih (o := o) (by simpa using h)
      rcases sh with ⟨c, fl⟩ | n | n <;> simp only [List.set_cons_succ, slG, this]
/-- is the first argument a cell -/
def pHd : List Value → Bool
  | .ref _ :: _ => true
  | _ => false
/-- a run that may make cells; calls are of constructors alone -/
def exec (P : Nat → pM) (pr : Nat → List (Option (Option Nat))) : Nat → Nat → Nat → List pI → List Value → List Value → List pSh → pS → Option (List pSh × pS)
  | 0, _, _, _, _, _, _, _ => none
  | _ + 1, _, _, [], _, _, _, _ => none
  | n + 1, d, k, e :: is, ls, st, G, S =>
    match pKind e with
    | 0 => match pStep G ls st S e with
      | none => none
      | some (j, ls', st', S') => exec P pr n d k (pNext (P k).2.2.2 is j) ls' st' G S'
    | 2 => match st with
      | [] => some (G, S)
      | _ => none
    | 3 => if 0 < d ∧ (P e.2.2.1).1 ≤ st.length ∧ st.length ≤ (P e.2.2.1).1 + 8 ∧ wfG G S = true ∧ ls.all (wfV G.length) = true ∧ st.all (wfV G.length) = true ∧ pHd (pArgs (P e.2.2.1).1 st) = true then
        (match exec P pr n (d - 1) e.2.2.1 (P e.2.2.1).2.2.2 (pLs (P e.2.2.1) (pArgs (P e.2.2.1).1 st)) [] G S with
          | none => none
          | some (G', S') => exec P pr n d k is ls (st.drop (P e.2.2.1).1) G' S')
        else none
    | 4 => if wfG G S = true ∧ ls.all (wfV G.length) = true ∧ st.all (wfV G.length) = true then
        (match pMk pr G st S e with
          | none => none
          | some (st', G', S') => exec P pr n d k is ls st' G' S')
        else none
    | _ => none
theorem exec_cons (P : Nat → pM) (pr : Nat → List (Option (Option Nat))) (n d k : Nat) (e : pI) (is : List pI) (ls st : List Value) (G : List pSh) (S : pS) : exec P pr (n + 1) d k (e :: is) ls st G S =
    (match pKind e with
    | 0 => (match pStep G ls st S e with
      | none => none
      | some (j, ls', st', S') => exec P pr n d k (pNext (P k).2.2.2 is j) ls' st' G S')
    | 2 => (match st with
      | [] => some (G, S)
      | _ => none)
    | 3 => if 0 < d ∧ (P e.2.2.1).1 ≤ st.length ∧ st.length ≤ (P e.2.2.1).1 + 8 ∧ wfG G S = true ∧ ls.all (wfV G.length) = true ∧ st.all (wfV G.length) = true ∧ pHd (pArgs (P e.2.2.1).1 st) = true then
        (match exec P pr n (d - 1) e.2.2.1 (P e.2.2.1).2.2.2 (pLs (P e.2.2.1) (pArgs (P e.2.2.1).1 st)) [] G S with
          | none => none
          | some (G', S') => exec P pr n d k is ls (st.drop (P e.2.2.1).1) G' S')
        else none
    | 4 => if wfG G S = true ∧ ls.all (wfV G.length) = true ∧ st.all (wfV G.length) = true then
        (match pMk pr G st S e with
          | none => none
          | some (st', G', S') => exec P pr n d k is ls st' G' S')
        else none
    | _ => none) := by
  conv => lhs; unfold exec
theorem exec_zero (P : Nat → pM) (pr : Nat → List (Option (Option Nat))) (d k : Nat) (is : List pI) (ls st : List Value) (G : List pSh) (S : pS) : exec P pr 0 d k is ls st G S = none := by
  conv => lhs; unfold exec
theorem exec_nil (P : Nat → pM) (pr : Nat → List (Option (Option Nat))) (n d k : Nat) (ls st : List Value) (G : List pSh) (S : pS) : exec P pr n d k [] ls st G S = none := by
  cases n with
  | zero => exact exec_zero ..
  | succ n => conv => lhs; unfold exec
theorem pMk_mono {pr : Nat → List (Option (Option Nat))} {G G' : List pSh} {st st' : List Value} {S S' : pS} {e : pI} (h : pMk pr G st S e = some (st', G', S')) : G.length ≤ G'.length ∧ slG G ≤ slG G' := by
  obtain ⟨pc, ins, a, b, c, w⟩ := e
  cases ins with
  | new i => simp only [pMk] at h; cases h; simp [slG_app]
  | newarray i =>
    simp only [pMk] at h
    split at h
    · split at h
      · cases h; simp [slG_app]
      · cases h
    · cases h
  | anewarray i =>
    simp only [pMk] at h
    split at h
    · split at h
      · cases h; simp [slG_app]
      · cases h
    · cases h
  | putfield i =>
    simp only [pMk] at h
    split at h
    · split at h
      · rename_i hg
        split at h
        · split at h
          · cases h
            rw [slG_set hg, List.length_set]
            exact ⟨Nat.le_refl _, Nat.le_refl _⟩
          · cases h
        · cases h
      · cases h
    · cases h
  | _ => simp [pMk] at h
theorem exec_mono (P : Nat → pM) (pr : Nat → List (Option (Option Nat))) : ∀ (n d k : Nat) (is : List pI) (ls st : List Value) (G G' : List pSh) (S S' : pS), exec P pr n d k is ls st G S = some (G', S') → G.length ≤ G'.length ∧ slG G ≤ slG G' := by
  intro n
  induction n with
  | zero => intro d k is ls st G G' S S' h; rw [exec_zero] at h; cases h
  | succ n ih =>
    intro d k is ls st G G' S S' h
    cases is with
    | nil => rw [exec_nil] at h; cases h
    | cons e is =>
      rw [exec_cons] at h
      split at h
      · split at h
        · cases h
        · exact ih _ _ _ _ _ _ _ _ _ h
      · split at h
        · cases h; exact ⟨Nat.le_refl _, Nat.le_refl _⟩
        · cases h
      · split at h
        · split at h
          · cases h
          · rename_i G1 S1 hc
            have h1 := ih _ _ _ _ _ _ _ _ _ hc
            have h2 := ih _ _ _ _ _ _ _ _ _ h
            omega
        · cases h
      · split at h
        · split at h
          · cases h
          · rename_i st1 G1 S1 hm
            have h1 := pMk_mono hm
            have h2 := ih _ _ _ _ _ _ _ _ _ h
            omega
        · cases h
      · cases h
/-- other addresses for cells that there aren't yet change nothing -/
theorem pV_ad {ad ad' : Nat → Nat} {tk : pTk} {n : Nat} (ha : ∀ i, i < n → ad' i = ad i) {v : Value} (h : wfV n v = true) : pV ad' tk v = pV ad tk v := by
  cases v with
  | ref j => show Value.ref (ad' j) = Value.ref (ad j); rw [ha j (of_decide_eq_true h)]
  | _ => rfl
theorem pVs_ad {ad ad' : Nat → Nat} {tk : pTk} {n : Nat} (ha : ∀ i, i < n → ad' i = ad i) {st : List Value} (h : st.all (wfV n) = true) : st.map (pV ad' tk) = st.map (pV ad tk) :=
  List.map_congr_left (fun v hv => pV_ad ha (List.all_eq_true.mp h v hv))
theorem pHas_ad {ad ad' : Nat → Nat} {tk : pTk} {n nL : Nat} {lsA : Array Slot} (ha : ∀ i, i < n → ad' i = ad i) {ls : List Value} (h : ls.all (wfV n) = true) (hl : pHas ad tk lsA nL ls) : pHas ad' tk lsA nL ls :=
  ⟨hl.1, hl.2.1, fun i v hi hv => by rw [pV_ad ha (List.all_eq_true.mp h v (List.mem_of_getElem? hi))]; exact hl.2.2 i v hi hv⟩
theorem pCell_ad {cI cD : ClassId} {ad ad' : Nat → Nat} {n : Nat} (ha : ∀ i, i < n → ad' i = ad i) {S : pS} {i : Nat} {sh : pSh} (h : wfSh n (S.2.2 i) sh = true) : pCell cI cD ad' S i sh = pCell cI cD ad S i sh := by
  rcases sh with ⟨ci, fl⟩ | m | m
  · simp only [pCell]
    congr 2
    apply List.ext_getElem?
    intro k
    rw [List.getElem?_mapIdx, List.getElem?_mapIdx]
    cases hk : fl[k]? with
    | none => rfl
    | some o =>
      have h1 := List.all_eq_true.mp h o (List.mem_of_getElem? hk)
      rcases o with _ | _ | j
      · rfl
      · rfl
      · simp only [Option.map_some, pFld]
        rw [ha j (of_decide_eq_true h1)]
  · rfl
  · simp only [pCell]
    congr 7
    funext k
    by_cases hk : k < m
    · simp only [hk, if_true]
      have h1 := List.all_eq_true.mp h k (List.mem_range.mpr hk)
      cases hj : S.2.2 i k with
      | none => rfl
      | some j =>
        rw [hj] at h1
        simp only [Option.map_some]
        rw [ha j (of_decide_eq_true h1)]
    · simp only [hk, if_false]
theorem pWld_ad {cI cD : ClassId} {ad ad' : Nat → Nat} {G : List pSh} {S : pS} (ha : ∀ i, i < G.length → ad' i = ad i) (h : wfG G S = true) : pWld cI cD ad' G S = pWld cI cD ad G S := by
  apply List.ext_getElem?
  intro i
  unfold pWld
  rw [List.getElem?_mapIdx, List.getElem?_mapIdx]
  cases hi : G[i]? with
  | none => rfl
  | some sh =>
    have hl : i < G.length := (List.getElem?_eq_some_iff.mp hi).1
    have h1 := List.all_eq_true.mp h i (List.mem_range.mpr hl)
    simp only [hi] at h1
    simp only [Option.map_some]
    rw [ha i hl, pCell_ad ha h1]
