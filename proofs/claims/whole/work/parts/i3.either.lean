/-! Reading a law: conditions joined by and, or; out of single conditions. -/
def FOut (X R : pS) (f g : Option (Int32 × pS)) : Prop := ∃ X' R', f = some (0, X') ∧ g = some (-1, R') ∧ Fl X' R' ∧ Off FU WU X X' ∧ Off GC VC R R' ∧ Sm R R'
theorem FOut_tr {X R X1 R1 : pS} {f g : Option (Int32 × pS)} (h : FOut X1 R1 f g) (ox : Off FSu WU X X1) (orr : Off GC VC R R1) (sm : Sm R R1) : FOut X R f g := by
  obtain ⟨X', R', a1, a2, a3, a4, a5, a6⟩ := h
  exact ⟨X', R', a1, a2, a3, (oFU ox).tr a4, orr.tr a5, sm.tr a6⟩
def CondP (b : Nat → Nat) (len M f : Nat) : Prop := ∀ (k dp j lp n c d : Nat) (L : tL) (W ty : List Nat) (X R : pS), M - k < f → dp ≤ 8 → 100 + 2 * (8 - dp) ≤ d → Cx b len M k X → Cr b len k R → Em n L X R → R.1 0 27 = nI dp → j ≤ dp → lp ≤ dp → Wt (List.replicate j 9 ++ W) R → (∀ w, W.head? = some w → w ≠ 9 ∧ w < 100) → j + W.length ≤ 3 * dp + 2 → ty.length ≤ 2 * dp + 2 → n + c + j ≤ k → (∃ k' n' L' X' Y R', Re_condition_50 (d + 1) (nI dp) X = some (1, X') ∧ Nts j X' Y ∧ R_readAny_c9 (nI lp) 1 R = R_readAny_c9 (nI lp) 0 R' ∧ Cx b len M k' Y ∧ Cr b len k' R' ∧ Em n' L' Y R' ∧ k ≤ k' ∧ n ≤ n' ∧ n' + c ≤ k' ∧ R'.1 0 27 = nI (dp - j) ∧ Wt W R' ∧ okRun L' n (n' - n) ty = some (1 :: ty) ∧ Gr n L L' ∧ Off FSu WU X X' ∧ Off FSu WU X Y ∧ Off GC VC R R' ∧ Sm R R') ∨ FOut X R (Re_condition_50 (d + 1) (nI dp) X) (R_readAny_c9 (nI lp) 1 R)
/-- what the reference does when no and, no or follows -/
noncomputable def FINr (l1 : Int32) (S : pS) : Option (Int32 × pS) := if l1 = 0 then (some ((0 : Int32), S)) else ((R_isSign (41 : Int32) S).bind (fun q5 => if q5.1 = 0 then ((R_errs (1 : Int32) q5.2).bind (fun q6 => some (q6.1, q6.2))) else ((R_settles (9 : Int32) (wF (wF q5.2 0 29 ((rF q5.2 0 29) - (1 : Int32))) 0 27 ((rF q5.2 0 27) - (1 : Int32)))).bind (fun q7 => (R_reads q7.2).bind (fun q8 => R_readAny_c9 (l1 - (1 : Int32)) 0 q8.2)))))
def EOut (b : Nat → Nat) (len M k dp lp n n0 c : Nat) (L : tL) (W ty : List Nat) (X R : pS) (f g : Option (Int32 × pS)) : Prop := (∃ k' n' L' X' R', f = some (1, X') ∧ g = FINr (nI lp) R' ∧ Cx b len M k' X' ∧ Cr b len k' R' ∧ Em n' L' X' R' ∧ k ≤ k' ∧ n ≤ n' ∧ n' + c ≤ k' ∧ R'.1 0 27 = nI dp ∧ Wt W R' ∧ okRun L' n0 (n' - n0) ty = some (1 :: ty) ∧ Gr n L L' ∧ Off FSu WU X X' ∧ Off GC VC R R' ∧ Sm R R') ∨ FOut X R f g
theorem EOut_tr {b : Nat → Nat} {len M k dp lp n n0 c k1 n1 : Nat} {L L1 : tL} {W ty : List Nat} {X R X1 R1 : pS} {f g : Option (Int32 × pS)} (h : EOut b len M k1 dp lp n1 n0 c L1 W ty X1 R1 f g) (hk : k ≤ k1) (hn : n ≤ n1) (hg : Gr n L L1) (ox : Off FSu WU X X1) (orr : Off GC VC R R1) (sm : Sm R R1) : EOut b len M k dp lp n n0 c L W ty X R f g := by
  rcases h with ⟨k', n', L', X', R', a1, a2, a3, a4, a5, a6, a7, a8, a9, a10, a11, a12, a13, a14, a15⟩ | h
  · exact Or.inl ⟨k', n', L', X', R', a1, a2, a3, a4, a5, by omega, by omega, a8, a9, a10, a11, hg.tr a12 hn, ox.tr a13, orr.tr a14, sm.tr a15⟩
  · exact Or.inr (FOut_tr h ox orr sm)
/-- the kinds on the way: a an and is owed, o an or -/
def stE (a o : Bool) (ty : List Nat) : List Nat := 1 :: (flg a 1 ++ (flg o 1 ++ ty))
/-- the class, before it adds the and that is owed -/
noncomputable def LX (D : Nat) (dp l3 : Nat) (a o : Bool) (X : pS) : Option (Int32 × pS) := if a then (La_add_51 (305 : Int32) X).bind (fun q => Re_either_50_c14 D (nI dp) (b2i o) (nI l3) q.2) else Re_either_50_c14 D (nI dp) (b2i o) (nI l3) X
theorem LX_of {D dp l3 : Nat} {a o : Bool} {X Y : pS} (h : FAdd a 10 X Y) : LX D dp l3 a o X = Re_either_50_c14 D (nI dp) (b2i o) (nI l3) Y := by
  cases a
  · have h : Y = X := h
    rw [h]; rfl
  · have h : La_add_51 (305 : Int32) X = some (0, Y) := h
    show (La_add_51 (305 : Int32) X).bind _ = _
    rw [h, ob]
