/-! Reading a law: a sum, whole. -/
theorem sum_s {b : Nat → Nat} {len M k n c : Nat} {L : tL} {ty : List Nat} {X R : pS} (hM : tkn b len M = 0) (hty : ty.length ≤ 29) (hx : Cx b len M k X) (hr : Cr b len k R) (he : Em n L X R) (hc : n + c ≤ k) : SOut b len M k n n c L ty X R (Re_sum_50 X) (R_readSum R) := by
  have hlt := knd_lt hr.2.2.2
  have cR : R_readSum R = (R_readUnit R).bind (fun q => if q.1 = (-1 : Int32) then some (-1, q.2) else PC 0 q.2) := by
    rw [R_readSum_eq, R_readProduct_eq]
    cases R_readUnit R with
    | none => rfl
    | some q =>
      simp only [Option.bind_some]
      by_cases z : q.1 = (-1 : Int32)
      · rw [if_pos z, if_pos z]
        simp only [Option.bind_some, if_true]
      · rw [if_neg z, if_neg z]
        unfold PC
        refine bind_cong (fun q5 => ?_)
        by_cases z2 : q5.1 = (-1 : Int32)
        · rw [if_pos z2, if_pos z2]
        · rw [if_neg z2, if_neg z2]
          unfold aftP
          rw [if_pos rfl]
  by_cases hu : isU (tkn b len k)
  · have hk : k < M := k_lt hM hx (by unfold isU at hu; omega)
    obtain ⟨X1, R1, b1, b2, b3, b4, b5, b6, b7, b8⟩ := c80 hM hx hr he (by omega) hu
    obtain ⟨t, u1, u2, u3⟩ := u_ok hu hlt (ty := ty) (by omega)
    have ok0 : okRun L n (n - n) ty = some ty := by rw [Nat.sub_self]; rfl
    have := sumL (n0 := n) (c := c) (ty := ty) hM hty (M + 1) 0 (k + 1) (n + 1) 0 _ X1 R1 (t :: ty) (by omega) (Or.inl rfl) b3 b4 b5 (by omega) (by show n + 1 + c + 0 ≤ k + 1; omega) (by omega) (ok_ad (Nat.le_refl n) ok0 u1) (by unfold skd; rw [if_pos rfl]; exact ⟨t, rfl, u2⟩)
    rw [cR, b2, ob, if_neg (show ¬ (0 : Int32) = -1 by decide), Re_sum_50_eq, (unX hx hlt).1 hu, b1, ob, if_neg (show ¬ (1 : Int32) = 0 by decide)]
    exact SOut_tr this (by omega) (by omega) Gr.ad b6 b7 b8
  · refine SOut_fl 1 hx hr Off.rf Off.rf Sm.rf ?_ ?_
    · rw [Re_sum_50_eq, (unX hx hlt).2.1 hu, ob, if_pos rfl]
    · rw [cR, unRf hr hu, ob, if_pos rfl]
/-- as SOut, but what is told is a truth -/
def TOut (b : Nat → Nat) (len M k n n0 c : Nat) (L : tL) (ty : List Nat) (X R : pS) (f g : Option (Int32 × pS)) : Prop := (∃ k' n' L' X' R', f = some (1, X') ∧ g = some (0, R') ∧ Cx b len M k' X' ∧ Cr b len k' R' ∧ Em n' L' X' R' ∧ k ≤ k' ∧ n ≤ n' ∧ n' + c ≤ k' ∧ okRun L' n0 (n' - n0) ty = some (1 :: ty) ∧ Gr n L L' ∧ Off FSu WU X X' ∧ Off GU VU R R' ∧ Sm R R') ∨ (∃ X' R', f = some (0, X') ∧ g = some (-1, R') ∧ Fl X' R' ∧ Off FU WU X X' ∧ Off GU VU R R' ∧ Sm R R')
/-- the class compares -/
noncomputable def cmpX (X : pS) : Option (Int32 × pS) := (Re_sum_50 X).bind (fun q1 => if q1.1 = 0 then (some ((0 : Int32), q1.2)) else (if (rF q1.2 50 7) = (60 : Int32) then (Re_advance_50 q1.2).bind (fun q9 => (Re_sum_50 q9.2).bind (fun q10 => if q10.1 = 0 then (some ((0 : Int32), q10.2)) else ((La_add_51 (rF q1.2 50 7) q10.2).bind (fun q11 => some ((1 : Int32), q11.2))))) else (if (rF q1.2 50 7) = (61 : Int32) then (Re_advance_50 q1.2).bind (fun q9 => (Re_sum_50 q9.2).bind (fun q10 => if q10.1 = 0 then (some ((0 : Int32), q10.2)) else ((La_add_51 (rF q1.2 50 7) q10.2).bind (fun q11 => some ((1 : Int32), q11.2))))) else (if (rF q1.2 50 7) = (62 : Int32) then (Re_advance_50 q1.2).bind (fun q9 => (Re_sum_50 q9.2).bind (fun q10 => if q10.1 = 0 then (some ((0 : Int32), q10.2)) else ((La_add_51 (rF q1.2 50 7) q10.2).bind (fun q11 => some ((1 : Int32), q11.2))))) else ((Re_fails_50 (1 : Int32) q1.2).bind (fun q2 => if pBool 1 q2.1 = true then some (q2.1, q2.2) else none))))))
theorem cond_cmp {b : Nat → Nat} {len M k d : Nat} (hd : 100 ≤ d) {X : pS} (hx : Cx b len M k X) (hl : tkn b len k < 11000) (h1 : tkn b len k ≠ 306) (h2 : tkn b len k ≠ 40) (a1 : Int32) : Re_condition_50 (d + 1) a1 X = cmpX X := by
  have e7 : rF X 50 7 = nI (tkn b len k) := hx.2.2.2.1
  rw [Re_condition_50_eq d hd, e7, if_neg (show ¬ nI (tkn b len k) = (306 : Int32) by rw [show (306 : Int32) = nI 306 from rfl, nI_eqE (by omega) (by omega)]; exact h1), if_neg (show ¬ nI (tkn b len k) = (40 : Int32) by rw [show (40 : Int32) = nI 40 from rfl, nI_eqE (by omega) (by omega)]; exact h2)]
  unfold cmpX
  refine bind_cong (fun q => ?_)
  simp only [Re_condition_50_c127_eq d hd]
