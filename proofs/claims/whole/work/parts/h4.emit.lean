/-! Reading a law: the codes. -/
abbrev GB : List (Nat × Nat) := [(0, 12), (0, 13), (0, 14), (0, 15), (0, 16), (0, 25), (0, 26), (0, 27), (0, 29), (0, 30), (0, 31), (0, 32), (0, 33)]
abbrev VB : List Nat := [11, 12, 13, 14, 15, 16, 17, 18, 19, 20, 21]
/-- what the reference leaves while it reads -/
def Sm (R R' : pS) : Prop := (∀ i a, (i, a) ∉ GB → R'.1 i a = R.1 i a) ∧ (∀ i, i ∉ VB → R'.2.1 i = R.2.1 i) ∧ R'.2.2 = R.2.2 ∧ (∀ i, i < 32 → R'.2.1 11 i = R.2.1 11 i ∧ R'.2.1 12 i = R.2.1 12 i ∧ R'.2.1 13 i = R.2.1 13 i ∧ R'.2.1 14 i = R.2.1 14 i) ∧ (∀ i, i < 800 → R'.2.1 15 i = R.2.1 15 i ∧ R'.2.1 16 i = R.2.1 16 i) ∧ (∀ i, i < 12 → R'.2.1 18 i = R.2.1 18 i) ∧ (∀ i, i < 8 → R'.2.1 19 i = R.2.1 19 i ∧ R'.2.1 20 i = R.2.1 20 i) ∧ ∀ i, i < 48 → R'.2.1 21 i = R.2.1 21 i
theorem Sm.rf {R : pS} : Sm R R := ⟨fun _ _ _ => rfl, fun _ _ => rfl, rfl, fun _ _ => ⟨rfl, rfl, rfl, rfl⟩, fun _ _ => ⟨rfl, rfl⟩, fun _ _ => rfl, fun _ _ => ⟨rfl, rfl⟩, fun _ _ => rfl⟩
theorem Sm.tr {R S T : pS} (h : Sm R S) (g : Sm S T) : Sm R T := by
  obtain ⟨h1, h2, h3, h4, h5, h6, h7, h8⟩ := h
  obtain ⟨g1, g2, g3, g4, g5, g6, g7, g8⟩ := g
  refine ⟨fun i a q => (g1 i a q).trans (h1 i a q), fun i q => (g2 i q).trans (h2 i q), g3.trans h3, fun i q => ?_, fun i q => ⟨(g5 i q).1.trans (h5 i q).1, (g5 i q).2.trans (h5 i q).2⟩, fun i q => (g6 i q).trans (h6 i q), fun i q => ⟨(g7 i q).1.trans (h7 i q).1, (g7 i q).2.trans (h7 i q).2⟩, fun i q => (g8 i q).trans (h8 i q)⟩
  exact ⟨(g4 i q).1.trans (h4 i q).1, (g4 i q).2.1.trans (h4 i q).2.1, (g4 i q).2.2.1.trans (h4 i q).2.2.1, (g4 i q).2.2.2.trans (h4 i q).2.2.2⟩
theorem Sm.of {F : List (Nat × Nat)} {W : List Nat} {R R' : pS} (h : Off F W R R') (h1 : ∀ x ∈ F, x ∈ GB) (h2 : ∀ x ∈ W, x = 17) : Sm R R' := by
  have w : ∀ i, i ≠ 17 → R'.2.1 i = R.2.1 i := fun i hi => h.2.1 i (fun z => hi (h2 i z))
  refine ⟨fun i a q => h.1 i a (fun z => q (h1 _ z)), fun i q => w i (fun z => q (by rw [z]; decide)), h.2.2, fun i _ => ?_, fun i _ => ?_, fun i _ => ?_, fun i _ => ?_, fun i _ => ?_⟩
  · rw [w 11 (by decide), w 12 (by decide), w 13 (by decide), w 14 (by decide)]; exact ⟨rfl, rfl, rfl, rfl⟩
  · rw [w 15 (by decide), w 16 (by decide)]; exact ⟨rfl, rfl⟩
  · rw [w 18 (by decide)]
  · rw [w 19 (by decide), w 20 (by decide)]; exact ⟨rfl, rfl⟩
  · rw [w 21 (by decide)]
/-- n codes, the same on both sides -/
def Em (n : Nat) (L : tL) (X R : pS) : Prop := X.1 51 7 = nI n ∧ R.1 0 26 = nI n ∧ ∀ i, i < n → X.2.1 52 i = nI (tok (L 5 i) (L 6 i)) ∧ R.2.1 15 (800 + i) = nI (L 5 i) ∧ R.2.1 16 (800 + i) = nI (L 6 i)
theorem Em_off {n : Nat} {L : tL} {X X' R R' : pS} {F G : List (Nat × Nat)} {W V : List Nat} (h : Em n L X R) (hx : Off F W X X') (hr : Off G V R R') (h1 : (51, 7) ∉ F) (h2 : 52 ∉ W) (h3 : (0, 26) ∉ G) (h4 : 15 ∉ V) (h5 : 16 ∉ V) : Em n L X' R' := by
  unfold Em at *
  rw [hx.1 _ _ h1, hx.2.1 _ h2, hr.1 _ _ h3, hr.2.1 _ h4, hr.2.1 _ h5]
  exact h
def adL (L : tL) (n op a : Nat) : tL := fun r i => if i = n then (if r = 5 then op else if r = 6 then a else L r i) else L r i
/-- the first n codes, and the lines, are as they were -/
def Gr (n : Nat) (L L' : tL) : Prop := (∀ r i, i < n → L' r i = L r i) ∧ ∀ r i, r ≠ 5 → r ≠ 6 → L' r i = L r i
theorem Gr.rf {n : Nat} {L : tL} : Gr n L L := ⟨fun _ _ _ => rfl, fun _ _ _ _ => rfl⟩
theorem Gr.tr {n m : Nat} {L L' L'' : tL} (h : Gr n L L') (g : Gr m L' L'') (hm : n ≤ m) : Gr n L L'' := ⟨fun r i q => (g.1 r i (by omega)).trans (h.1 r i q), fun r i a c => (g.2 r i a c).trans (h.2 r i a c)⟩
theorem Gr.ad {n op a : Nat} {L : tL} : Gr n L (adL L n op a) := by
  refine ⟨fun r i q => ?_, fun r i h1 h2 => ?_⟩
  · unfold adL; rw [if_neg (by omega)]
  · unfold adL
    by_cases z : i = n
    · rw [if_pos z, if_neg h1, if_neg h2]
    · rw [if_neg z]
theorem adL_5 {L : tL} {n op a : Nat} : adL L n op a 5 n = op := by unfold adL; rw [if_pos rfl, if_pos rfl]
theorem adL_6 {L : tL} {n op a : Nat} : adL L n op a 6 n = a := by unfold adL; rw [if_pos rfl, if_neg (by decide), if_pos rfl]
theorem emt {n op a : Nat} {L : tL} {X R : pS} (h : Em n L X R) (hn : n < 400) : ∃ X' R', La_add_51 (nI (tok op a)) X = some (0, X') ∧ R_emits (nI op) (nI a) R = some (0, R') ∧ Em (n + 1) (adL L n op a) X' R' ∧ Off [(51, 7)] [52] X X' ∧ Off [(0, 26)] [15, 16] R R' ∧ Sm R R' := by
  obtain ⟨h1, h2, h3⟩ := h
  obtain ⟨R', hR'⟩ : ∃ R', R' = wF (wA (wA R 15 (nI (800 + n)) (nI op)) 16 (nI (800 + n)) (nI a)) 0 26 (nI (n + 1)) := ⟨_, rfl⟩
  have e15 : R'.2.1 15 = upd (R.2.1 15) (800 + n) (nI op) := by rw [hR', wF_2, wA_21 (by omega), sA_ne (by decide), wA_21 (by omega), sA_eq]
  have e16 : R'.2.1 16 = upd (R.2.1 16) (800 + n) (nI a) := by rw [hR', wF_2, wA_21 (by omega), sA_eq, wA_21 (by omega), sA_ne (by decide)]
  have o1 : Off [(0, 26)] [15, 16] R R' := by rw [hR']; exact ((Off.rf.wA (by decide)).wA (by decide)).wF (by decide)
  refine ⟨wF (wA X 52 (nI n) (nI (tok op a))) 51 7 (nI (n + 1)), R', ?_, ?_, ⟨?_, ?_, fun i hi => ?_⟩, (Off.rf.wA (by decide)).wF (by decide), o1, ?_⟩
  · rw [La_add_51_eq, show rF X 51 7 = nI n from h1, if_pos (show nI n < (400 : Int32) from nlt_t (n := 400) hn (by omega)), if_pos (inb_n hn (by omega)), show nI n + (1 : Int32) = nI (n + 1) from nI_1 n]
  · rw [R_emits_eq, show rF R 0 26 = nI n from h2, show (800 : Int32) + nI n = nI (800 + n) from nI_add 800 n, if_pos (inb_n (by omega) (by omega)), if_pos (inb_n (by omega) (by omega)), show nI n + (1 : Int32) = nI (n + 1) from nI_1 n, hR']
  · rw [wF_1, sA_eq, upd_eq]
  · rw [hR', wF_1, sA_eq, upd_eq]
  · rw [wF_2, wA_21 (by omega), sA_eq, e15, e16]
    by_cases z : i = n
    · rw [z, upd_eq, upd_eq, upd_eq, adL_5, adL_6]; exact ⟨rfl, rfl, rfl⟩
    · rw [upd_ne z, upd_ne (by omega), upd_ne (by omega), (Gr.ad (n := n)).1 5 i (by omega), (Gr.ad (n := n)).1 6 i (by omega)]
      exact h3 i (by omega)
  · have w : ∀ i, i ∉ [15, 16] → R'.2.1 i = R.2.1 i := o1.2.1
    refine ⟨fun i x q => o1.1 i x (fun z => q (by simp at z; rw [z.1, z.2]; decide)), fun i q => w i (fun z => q (by simp at z; rcases z with z | z <;> (rw [z]; decide))), o1.2.2, fun i _ => ?_, fun i hi => ?_, fun i _ => ?_, fun i _ => ?_, fun i _ => ?_⟩
    · rw [w 11 (by decide), w 12 (by decide), w 13 (by decide), w 14 (by decide)]; exact ⟨rfl, rfl, rfl, rfl⟩
    · rw [e15, e16, upd_ne (by omega), upd_ne (by omega)]; exact ⟨rfl, rfl⟩
    · rw [w 18 (by decide)]
    · rw [w 19 (by decide), w 20 (by decide)]; exact ⟨rfl, rfl⟩
    · rw [w 21 (by decide)]
theorem ok_ext {L L' : tL} : ∀ {m k : Nat} {ty : List Nat}, (∀ i, k ≤ i → i < k + m → L' 5 i = L 5 i ∧ L' 6 i = L 6 i) → okRun L' k m ty = okRun L k m ty
  | 0, _, _, _ => rfl
  | m + 1, k, ty, h => by
    rw [okRun, okRun, (h k (by omega) (by omega)).1, (h k (by omega) (by omega)).2]
    cases okStep (L 5 k) (L 6 k) ty
    · rfl
    · exact ok_ext (fun i h1 h2 => h i (by omega) (by omega))
theorem ok_app {L : tL} : ∀ {m k m2 : Nat} {ty t1 : List Nat}, okRun L k m ty = some t1 → okRun L k (m + m2) ty = okRun L (k + m) m2 t1
  | 0, k, m2, ty, t1, h => by
    have : ty = t1 := by rw [okRun] at h; exact Option.some.inj h
    rw [this, Nat.zero_add, Nat.add_zero]
  | m + 1, k, m2, ty, t1, h => by
    rw [show m + 1 + m2 = (m + m2) + 1 from by omega, okRun]
    rw [okRun] at h
    cases e : okStep (L 5 k) (L 6 k) ty with
    | none => rw [e] at h; cases h
    | some t =>
      rw [e] at h
      rw [show k + (m + 1) = (k + 1) + m from by omega]
      exact ok_app h
/-- one code more -/
theorem ok_ad {L : tL} {n0 n op a : Nat} {ty t1 t2 : List Nat} (hn : n0 ≤ n) (h : okRun L n0 (n - n0) ty = some t1) (h2 : okStep op a t1 = some t2) : okRun (adL L n op a) n0 (n + 1 - n0) ty = some t2 := by
  have h' : okRun (adL L n op a) n0 (n - n0) ty = some t1 := by
    rw [ok_ext (L := L) (fun i h1 h3 => ⟨(Gr.ad (n := n)).1 5 i (by omega), (Gr.ad (n := n)).1 6 i (by omega)⟩)]
    exact h
  rw [show n + 1 - n0 = (n - n0) + 1 from by omega, ok_app h', show n0 + (n - n0) = n from by omega, okRun, adL_5, adL_6, h2]
  rfl
