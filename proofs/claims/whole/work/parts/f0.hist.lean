/-! Drawers are copied; what can be undone. -/
/-- drawer b copied onto drawer a -/
def cpS (a b : Nat) (S : pS) : pS := wF (wF (wF (wF (wF (wF (wF (wC S (b + 1) (0 : Int32) (a + 1) (0 : Int32) (98 : Int32)) a 1 (rF S b 1)) a 2 (rF S b 2)) a 3 (rF S b 3)) a 4 (rF S b 4)) a 5 (rF S b 5)) a 6 (rF S b 6)) a 7 (rF S b 7)
set_option maxRecDepth 20000 in
theorem cp_34_1 (S : pS) : CallF PT GX rkT 37 [.ref 34, .ref 1] S = some (0, (wF (wF (wF (wF (wF (wF (wF (wC S 2 (0 : Int32) 35 (0 : Int32) (98 : Int32)) 34 1 (rF S 1 1)) 34 2 (rF S 1 2)) 34 3 (rF S 1 3)) 34 4 (rF S 1 4)) 34 5 (rF S 1 5)) 34 6 (rF S 1 6)) 34 7 (rF S 1 7))) := by
  show Res PT GX (rkT 37) 37 (cd37, [.ref 34, .ref 1], [], S) = _
  refine (R_blk PT GX (k := 37) (code := cd37) rfl [] 400 _).trans ?_
  refine brT ⟨by decide, by decide, by decide, by decide, by decide, Nat.le_of_ble_eq_true rfl⟩ ?_
  refine brT (Or.inl rfl) ?_
  refine brT (Or.inl rfl) ?_
  refine brT (Or.inl rfl) ?_
  refine brT (Or.inl rfl) ?_
  refine brT (Or.inl rfl) ?_
  refine brT (Or.inl rfl) ?_
  refine brT (Or.inl rfl) ?_
  exact R_retV PT GX rfl
set_option maxRecDepth 20000 in
theorem cp_36_1 (S : pS) : CallF PT GX rkT 37 [.ref 36, .ref 1] S = some (0, (wF (wF (wF (wF (wF (wF (wF (wC S 2 (0 : Int32) 37 (0 : Int32) (98 : Int32)) 36 1 (rF S 1 1)) 36 2 (rF S 1 2)) 36 3 (rF S 1 3)) 36 4 (rF S 1 4)) 36 5 (rF S 1 5)) 36 6 (rF S 1 6)) 36 7 (rF S 1 7))) := by
  show Res PT GX (rkT 37) 37 (cd37, [.ref 36, .ref 1], [], S) = _
  refine (R_blk PT GX (k := 37) (code := cd37) rfl [] 400 _).trans ?_
  refine brT ⟨by decide, by decide, by decide, by decide, by decide, Nat.le_of_ble_eq_true rfl⟩ ?_
  refine brT (Or.inl rfl) ?_
  refine brT (Or.inl rfl) ?_
  refine brT (Or.inl rfl) ?_
  refine brT (Or.inl rfl) ?_
  refine brT (Or.inl rfl) ?_
  refine brT (Or.inl rfl) ?_
  refine brT (Or.inl rfl) ?_
  exact R_retV PT GX rfl
set_option maxRecDepth 20000 in
theorem cp_38_1 (S : pS) : CallF PT GX rkT 37 [.ref 38, .ref 1] S = some (0, (wF (wF (wF (wF (wF (wF (wF (wC S 2 (0 : Int32) 39 (0 : Int32) (98 : Int32)) 38 1 (rF S 1 1)) 38 2 (rF S 1 2)) 38 3 (rF S 1 3)) 38 4 (rF S 1 4)) 38 5 (rF S 1 5)) 38 6 (rF S 1 6)) 38 7 (rF S 1 7))) := by
  show Res PT GX (rkT 37) 37 (cd37, [.ref 38, .ref 1], [], S) = _
  refine (R_blk PT GX (k := 37) (code := cd37) rfl [] 400 _).trans ?_
  refine brT ⟨by decide, by decide, by decide, by decide, by decide, Nat.le_of_ble_eq_true rfl⟩ ?_
  refine brT (Or.inl rfl) ?_
  refine brT (Or.inl rfl) ?_
  refine brT (Or.inl rfl) ?_
  refine brT (Or.inl rfl) ?_
  refine brT (Or.inl rfl) ?_
  refine brT (Or.inl rfl) ?_
  refine brT (Or.inl rfl) ?_
  exact R_retV PT GX rfl
set_option maxRecDepth 20000 in
theorem cp_40_1 (S : pS) : CallF PT GX rkT 37 [.ref 40, .ref 1] S = some (0, (wF (wF (wF (wF (wF (wF (wF (wC S 2 (0 : Int32) 41 (0 : Int32) (98 : Int32)) 40 1 (rF S 1 1)) 40 2 (rF S 1 2)) 40 3 (rF S 1 3)) 40 4 (rF S 1 4)) 40 5 (rF S 1 5)) 40 6 (rF S 1 6)) 40 7 (rF S 1 7))) := by
  show Res PT GX (rkT 37) 37 (cd37, [.ref 40, .ref 1], [], S) = _
  refine (R_blk PT GX (k := 37) (code := cd37) rfl [] 400 _).trans ?_
  refine brT ⟨by decide, by decide, by decide, by decide, by decide, Nat.le_of_ble_eq_true rfl⟩ ?_
  refine brT (Or.inl rfl) ?_
  refine brT (Or.inl rfl) ?_
  refine brT (Or.inl rfl) ?_
  refine brT (Or.inl rfl) ?_
  refine brT (Or.inl rfl) ?_
  refine brT (Or.inl rfl) ?_
  refine brT (Or.inl rfl) ?_
  exact R_retV PT GX rfl
set_option maxRecDepth 20000 in
theorem cp_42_1 (S : pS) : CallF PT GX rkT 37 [.ref 42, .ref 1] S = some (0, (wF (wF (wF (wF (wF (wF (wF (wC S 2 (0 : Int32) 43 (0 : Int32) (98 : Int32)) 42 1 (rF S 1 1)) 42 2 (rF S 1 2)) 42 3 (rF S 1 3)) 42 4 (rF S 1 4)) 42 5 (rF S 1 5)) 42 6 (rF S 1 6)) 42 7 (rF S 1 7))) := by
  show Res PT GX (rkT 37) 37 (cd37, [.ref 42, .ref 1], [], S) = _
  refine (R_blk PT GX (k := 37) (code := cd37) rfl [] 400 _).trans ?_
  refine brT ⟨by decide, by decide, by decide, by decide, by decide, Nat.le_of_ble_eq_true rfl⟩ ?_
  refine brT (Or.inl rfl) ?_
  refine brT (Or.inl rfl) ?_
  refine brT (Or.inl rfl) ?_
  refine brT (Or.inl rfl) ?_
  refine brT (Or.inl rfl) ?_
  refine brT (Or.inl rfl) ?_
  refine brT (Or.inl rfl) ?_
  exact R_retV PT GX rfl
set_option maxRecDepth 20000 in
theorem cp_44_1 (S : pS) : CallF PT GX rkT 37 [.ref 44, .ref 1] S = some (0, (wF (wF (wF (wF (wF (wF (wF (wC S 2 (0 : Int32) 45 (0 : Int32) (98 : Int32)) 44 1 (rF S 1 1)) 44 2 (rF S 1 2)) 44 3 (rF S 1 3)) 44 4 (rF S 1 4)) 44 5 (rF S 1 5)) 44 6 (rF S 1 6)) 44 7 (rF S 1 7))) := by
  show Res PT GX (rkT 37) 37 (cd37, [.ref 44, .ref 1], [], S) = _
  refine (R_blk PT GX (k := 37) (code := cd37) rfl [] 400 _).trans ?_
  refine brT ⟨by decide, by decide, by decide, by decide, by decide, Nat.le_of_ble_eq_true rfl⟩ ?_
  refine brT (Or.inl rfl) ?_
  refine brT (Or.inl rfl) ?_
  refine brT (Or.inl rfl) ?_
  refine brT (Or.inl rfl) ?_
  refine brT (Or.inl rfl) ?_
  refine brT (Or.inl rfl) ?_
  refine brT (Or.inl rfl) ?_
  exact R_retV PT GX rfl
set_option maxRecDepth 20000 in
theorem cp_1_34 (S : pS) : CallF PT GX rkT 37 [.ref 1, .ref 34] S = some (0, (wF (wF (wF (wF (wF (wF (wF (wC S 35 (0 : Int32) 2 (0 : Int32) (98 : Int32)) 1 1 (rF S 34 1)) 1 2 (rF S 34 2)) 1 3 (rF S 34 3)) 1 4 (rF S 34 4)) 1 5 (rF S 34 5)) 1 6 (rF S 34 6)) 1 7 (rF S 34 7))) := by
  show Res PT GX (rkT 37) 37 (cd37, [.ref 1, .ref 34], [], S) = _
  refine (R_blk PT GX (k := 37) (code := cd37) rfl [] 400 _).trans ?_
  refine brT ⟨by decide, by decide, by decide, by decide, by decide, Nat.le_of_ble_eq_true rfl⟩ ?_
  refine brT (Or.inl rfl) ?_
  refine brT (Or.inl rfl) ?_
  refine brT (Or.inl rfl) ?_
  refine brT (Or.inl rfl) ?_
  refine brT (Or.inl rfl) ?_
  refine brT (Or.inl rfl) ?_
  refine brT (Or.inl rfl) ?_
  exact R_retV PT GX rfl
set_option maxRecDepth 20000 in
theorem cp_1_36 (S : pS) : CallF PT GX rkT 37 [.ref 1, .ref 36] S = some (0, (wF (wF (wF (wF (wF (wF (wF (wC S 37 (0 : Int32) 2 (0 : Int32) (98 : Int32)) 1 1 (rF S 36 1)) 1 2 (rF S 36 2)) 1 3 (rF S 36 3)) 1 4 (rF S 36 4)) 1 5 (rF S 36 5)) 1 6 (rF S 36 6)) 1 7 (rF S 36 7))) := by
  show Res PT GX (rkT 37) 37 (cd37, [.ref 1, .ref 36], [], S) = _
  refine (R_blk PT GX (k := 37) (code := cd37) rfl [] 400 _).trans ?_
  refine brT ⟨by decide, by decide, by decide, by decide, by decide, Nat.le_of_ble_eq_true rfl⟩ ?_
  refine brT (Or.inl rfl) ?_
  refine brT (Or.inl rfl) ?_
  refine brT (Or.inl rfl) ?_
  refine brT (Or.inl rfl) ?_
  refine brT (Or.inl rfl) ?_
  refine brT (Or.inl rfl) ?_
  refine brT (Or.inl rfl) ?_
  exact R_retV PT GX rfl
set_option maxRecDepth 20000 in
theorem cp_1_38 (S : pS) : CallF PT GX rkT 37 [.ref 1, .ref 38] S = some (0, (wF (wF (wF (wF (wF (wF (wF (wC S 39 (0 : Int32) 2 (0 : Int32) (98 : Int32)) 1 1 (rF S 38 1)) 1 2 (rF S 38 2)) 1 3 (rF S 38 3)) 1 4 (rF S 38 4)) 1 5 (rF S 38 5)) 1 6 (rF S 38 6)) 1 7 (rF S 38 7))) := by
  show Res PT GX (rkT 37) 37 (cd37, [.ref 1, .ref 38], [], S) = _
  refine (R_blk PT GX (k := 37) (code := cd37) rfl [] 400 _).trans ?_
  refine brT ⟨by decide, by decide, by decide, by decide, by decide, Nat.le_of_ble_eq_true rfl⟩ ?_
  refine brT (Or.inl rfl) ?_
  refine brT (Or.inl rfl) ?_
  refine brT (Or.inl rfl) ?_
  refine brT (Or.inl rfl) ?_
  refine brT (Or.inl rfl) ?_
  refine brT (Or.inl rfl) ?_
  refine brT (Or.inl rfl) ?_
  exact R_retV PT GX rfl
set_option maxRecDepth 20000 in
theorem cp_1_40 (S : pS) : CallF PT GX rkT 37 [.ref 1, .ref 40] S = some (0, (wF (wF (wF (wF (wF (wF (wF (wC S 41 (0 : Int32) 2 (0 : Int32) (98 : Int32)) 1 1 (rF S 40 1)) 1 2 (rF S 40 2)) 1 3 (rF S 40 3)) 1 4 (rF S 40 4)) 1 5 (rF S 40 5)) 1 6 (rF S 40 6)) 1 7 (rF S 40 7))) := by
  show Res PT GX (rkT 37) 37 (cd37, [.ref 1, .ref 40], [], S) = _
  refine (R_blk PT GX (k := 37) (code := cd37) rfl [] 400 _).trans ?_
  refine brT ⟨by decide, by decide, by decide, by decide, by decide, Nat.le_of_ble_eq_true rfl⟩ ?_
  refine brT (Or.inl rfl) ?_
  refine brT (Or.inl rfl) ?_
  refine brT (Or.inl rfl) ?_
  refine brT (Or.inl rfl) ?_
  refine brT (Or.inl rfl) ?_
  refine brT (Or.inl rfl) ?_
  refine brT (Or.inl rfl) ?_
  exact R_retV PT GX rfl
set_option maxRecDepth 20000 in
theorem cp_1_42 (S : pS) : CallF PT GX rkT 37 [.ref 1, .ref 42] S = some (0, (wF (wF (wF (wF (wF (wF (wF (wC S 43 (0 : Int32) 2 (0 : Int32) (98 : Int32)) 1 1 (rF S 42 1)) 1 2 (rF S 42 2)) 1 3 (rF S 42 3)) 1 4 (rF S 42 4)) 1 5 (rF S 42 5)) 1 6 (rF S 42 6)) 1 7 (rF S 42 7))) := by
  show Res PT GX (rkT 37) 37 (cd37, [.ref 1, .ref 42], [], S) = _
  refine (R_blk PT GX (k := 37) (code := cd37) rfl [] 400 _).trans ?_
  refine brT ⟨by decide, by decide, by decide, by decide, by decide, Nat.le_of_ble_eq_true rfl⟩ ?_
  refine brT (Or.inl rfl) ?_
  refine brT (Or.inl rfl) ?_
  refine brT (Or.inl rfl) ?_
  refine brT (Or.inl rfl) ?_
  refine brT (Or.inl rfl) ?_
  refine brT (Or.inl rfl) ?_
  refine brT (Or.inl rfl) ?_
  exact R_retV PT GX rfl
set_option maxRecDepth 20000 in
theorem cp_1_44 (S : pS) : CallF PT GX rkT 37 [.ref 1, .ref 44] S = some (0, (wF (wF (wF (wF (wF (wF (wF (wC S 45 (0 : Int32) 2 (0 : Int32) (98 : Int32)) 1 1 (rF S 44 1)) 1 2 (rF S 44 2)) 1 3 (rF S 44 3)) 1 4 (rF S 44 4)) 1 5 (rF S 44 5)) 1 6 (rF S 44 6)) 1 7 (rF S 44 7))) := by
  show Res PT GX (rkT 37) 37 (cd37, [.ref 1, .ref 44], [], S) = _
  refine (R_blk PT GX (k := 37) (code := cd37) rfl [] 400 _).trans ?_
  refine brT ⟨by decide, by decide, by decide, by decide, by decide, Nat.le_of_ble_eq_true rfl⟩ ?_
  refine brT (Or.inl rfl) ?_
  refine brT (Or.inl rfl) ?_
  refine brT (Or.inl rfl) ?_
  refine brT (Or.inl rfl) ?_
  refine brT (Or.inl rfl) ?_
  refine brT (Or.inl rfl) ?_
  refine brT (Or.inl rfl) ?_
  exact R_retV PT GX rfl
theorem cp_to {j : Nat} (h : hj j) (S : pS) : CallF PT GX rkT 37 [.ref j, .ref 1] S = some (0, cpS j 1 S) ∧ pRcv GX 4 [.ref j, .ref 1] = true := by
  rcases h with rfl | rfl | rfl | rfl | rfl | rfl
  · exact ⟨cp_34_1 S, rfl⟩
  · exact ⟨cp_36_1 S, rfl⟩
  · exact ⟨cp_38_1 S, rfl⟩
  · exact ⟨cp_40_1 S, rfl⟩
  · exact ⟨cp_42_1 S, rfl⟩
  · exact ⟨cp_44_1 S, rfl⟩
theorem cp_from {j : Nat} (h : hj j) (S : pS) : CallF PT GX rkT 37 [.ref 1, .ref j] S = some (0, cpS 1 j S) ∧ pRcv GX 4 [.ref 1, .ref j] = true := by
  rcases h with rfl | rfl | rfl | rfl | rfl | rfl
  · exact ⟨cp_1_34 S, rfl⟩
  · exact ⟨cp_1_36 S, rfl⟩
  · exact ⟨cp_1_38 S, rfl⟩
  · exact ⟨cp_1_40 S, rfl⟩
  · exact ⟨cp_1_42 S, rfl⟩
  · exact ⟨cp_1_44 S, rfl⟩
theorem hj_obj {j : Nat} (h : hj j) : pObj GX j 3 = true := by
  rcases h with rfl | rfl | rfl | rfl | rfl | rfl <;> rfl
theorem cp_1f {a b : Nat} (S : pS) (i x : Nat) : (cpS a b S).1 i x = if i = a ∧ 1 ≤ x ∧ x < 8 then S.1 b x else S.1 i x := by
  unfold cpS
  simp only [wF_1, wC_1, sA_row]
  by_cases e : i = a
  · subst e
    simp only [if_true, upd_at, true_and]
    by_cases h7 : x = 7
    · subst h7; simp
    by_cases h6 : x = 6
    · subst h6; simp
    by_cases h5 : x = 5
    · subst h5; simp
    by_cases h4 : x = 4
    · subst h4; simp
    by_cases h3 : x = 3
    · subst h3; simp
    by_cases h2 : x = 2
    · subst h2; simp
    by_cases h1 : x = 1
    · subst h1; simp
    rw [if_neg h7, if_neg h6, if_neg h5, if_neg h4, if_neg h3, if_neg h2, if_neg h1, if_neg (by omega)]
  · rw [if_neg e, if_neg e, if_neg e, if_neg e, if_neg e, if_neg e, if_neg e, if_neg (fun z => e z.1)]
theorem cp_2 {a b : Nat} (S : pS) (i : Nat) : (cpS a b S).2.1 i = if i = a + 1 then va_cpy (S.2.1 (b + 1)) (S.2.1 (a + 1)) 0 0 98 else S.2.1 i := by
  unfold cpS
  simp only [wF_2]
  exact wC_21 (S := S) (o0 := b + 1) (o1 := a + 1) (sp := 0) (dp := 0) (n := 98) (by omega) (by omega) (by omega) i
theorem cp_3 {a b : Nat} (S : pS) : (cpS a b S).2.2 = S.2.2 := rfl
theorem XD_cp {a b : Nat} {D : tD} {S : pS} (h : XD b D S) : XD a D (cpS a b S) := by
  refine ⟨fun r c hr hc => ?_, fun i h1 h2 => ?_⟩
  · rw [cp_2, if_pos rfl, sb_cpy0 (by omega)]
    exact h.1 r c hr hc
  · rw [cp_1f, if_pos ⟨rfl, h1, h2⟩]
    exact h.2 i h1 h2
theorem XD_cp2 {a b o : Nat} {D : tD} {S : pS} (h : XD o D S) (h1 : o ≠ a) : XD o D (cpS a b S) := by
  refine ⟨fun r c hr hc => ?_, fun i g1 g2 => ?_⟩
  · rw [cp_2, if_neg (by omega)]
    exact h.1 r c hr hc
  · rw [cp_1f, if_neg (fun z => h1 z.1)]
    exact h.2 i g1 g2
theorem RD_cong {n : Nat} {N N' P F T : Nat → Int32} {D : tD} (h : RD n N P F T D) (hn : n ≤ 14) (hN : ∀ k, k < 76 → N' k = N k) : RD n N' P F T D := by
  obtain ⟨h1, h2, h3, h4, h5, h6, h7⟩ := h
  refine ⟨fun c hc => ?_, fun c hc => ?_, ?_, ?_, ?_, ?_, ?_⟩
  · rw [hN _ (by omega), hN _ (by omega), hN _ (by omega), hN _ (by omega)]; exact h1 c hc
  · rw [hN _ (by omega)]; exact h2 c hc
  · rw [hN _ (by omega)]; exact h3
  · rw [hN _ (by omega)]; exact h4
  · rw [hN _ (by omega)]; exact h5
  · rw [hN _ (by omega)]; exact h6
  · rw [hN _ (by omega)]; exact h7
theorem wR_22 {S : pS} {o k j : Nat} (hk : k < 2147483648) (a : Nat) : (wR S o (nI k) j).2.2 a = if a = o then va_up (S.2.2 o) k (some j) else S.2.2 a := by
  show sR S.2.2 o (nI k).toNatClampNeg (some j) a = _
  rw [nI_clamp (by omega)]
  rfl
theorem wR_1 (S : pS) (o : Nat) (i : Int32) (j : Nat) : (wR S o i j).1 = S.1 := rfl
theorem wR_21 (S : pS) (o : Nat) (i : Int32) (j : Nat) : (wR S o i j).2.1 = S.2.1 := rfl
theorem up_at {α : Type} (f : Nat → α) (k : Nat) (x : α) (j : Nat) : va_up f k x j = if j = k then x else f j := rfl
