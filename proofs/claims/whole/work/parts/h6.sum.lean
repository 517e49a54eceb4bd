/-! Reading a law: sums. -/
theorem unRf {b : Nat → Nat} {len k : Nat} {R : pS} (hr : Cr b len k R) (hu : ¬ isU (tkn b len k)) : R_readUnit R = some (-1, wF (wF R 0 30 1) 0 31 (nI (stt b len k))) := by
  unfold isU at hu
  have n3 : ¬ rF R 0 15 = (3 : Int32) := fun z => by have := (knd_n hr.2.2.2).1.mp z; omega
  have c24 : R_readUnit_c24 0 R = some (-1, wF (wF R 0 30 1) 0 31 (nI (stt b len k))) := by
    rw [R_readUnit_c24_eq, if_pos rfl, if_neg n3, ers hr, ob]
  rw [R_readUnit_eq]
  by_cases q : rF R 0 15 = (2 : Int32)
  · rw [if_pos q]
    rcases hr.2.2.2 with ⟨a, e⟩ | ⟨a, e⟩ | ⟨a, a2, e, d⟩ | ⟨a, a2, e, d⟩ | ⟨a, e, d⟩
    · exact absurd (e.symm.trans q) (by decide)
    · exact absurd (e.symm.trans q) (by decide)
    · rw [show rF R 0 16 = _ from d, R_canAsk_eq, show R_isIn (nI (tkn b len k - 300)) (7 : Int32) (15 : Int32) R = _ from inN (lo := 7) (hi := 15) (by omega) (by omega) (by omega), ob]
      have : (decide (7 ≤ tkn b len k - 300) && decide (tkn b len k - 300 ≤ 15)) = false := by
        by_cases z : 7 ≤ tkn b len k - 300
        · rw [decide_eq_false (show ¬ tkn b len k - 300 ≤ 15 by omega), Bool.and_false]
        · rw [decide_eq_false z, Bool.false_and]
      rw [this]
      rw [if_pos (show pBool 1 (b2i false) = true from rfl), ob, if_pos (show b2i false = 0 from rfl)]
      exact c24
    · exact absurd (e.symm.trans q) (by decide)
    · exact absurd (e.symm.trans q) (by decide)
  · rw [if_neg q]; exact c24
/-- p: the sign that waits: 0 none, 2 plus, 3 minus -/
def pend (p : Nat) : Int32 := if p = 0 then 1 else nI (tok p 0)
noncomputable def aftP (p : Nat) (S : pS) : Option (Int32 × pS) := if p = 0 then R_readSum_c10 S else (R_emits (nI p) 0 S).bind (fun q => R_readSum_c10 q.2)
noncomputable def PC (p : Nat) (S : pS) : Option (Int32 × pS) := (R_readProduct_c10 S).bind (fun q => if q.1 = (-1 : Int32) then some (-1, q.2) else aftP p q.2)
/-- the kinds: without and with a waiting sign -/
def skd (p : Nat) (ty st : List Nat) : Prop := if p = 0 then ∃ t, st = t :: ty ∧ t ≠ 1 else ∃ t u, st = t :: u :: ty ∧ t ≠ 1 ∧ u ≠ 1
def pcn (p : Nat) : Nat := if p = 0 then 0 else 1
def pOk (p : Nat) : Prop := p = 0 ∨ p = 2 ∨ p = 3
theorem pendE {b : Nat → Nat} {len M k n n0 c p : Nat} {L : tL} {X R : pS} {ty st : List Nat} (hp : pOk p) (hx : Cx b len M k X) (hr : Cr b len k R) (he : Em n L X R) (hn0 : n0 ≤ n) (hc : n + c + pcn p ≤ k) (ho : okRun L n0 (n - n0) ty = some st) (hs : skd p ty st) : ∃ X' R' n' L' t, Re_addIfSign_50 (pend p) X = some (0, X') ∧ aftP p R = R_readSum_c10 R' ∧ Cx b len M k X' ∧ Cr b len k R' ∧ Em n' L' X' R' ∧ n ≤ n' ∧ n' + c ≤ k ∧ okRun L' n0 (n' - n0) ty = some (t :: ty) ∧ t ≠ 1 ∧ Gr n L L' ∧ Off FSu WU X X' ∧ Off GU VU R R' ∧ Sm R R' := by
  by_cases q : p = 0
  · subst q
    unfold skd at hs
    rw [if_pos rfl] at hs
    obtain ⟨t, rfl, ht⟩ := hs
    unfold pcn at hc
    rw [if_pos rfl] at hc
    exact ⟨X, R, n, L, t, by rw [Re_addIfSign_50_eq]; rfl, rfl, hx, hr, he, Nat.le_refl n, by omega, ho, ht, Gr.rf, Off.rf, Off.rf, Sm.rf⟩
  · unfold skd at hs
    rw [if_neg q] at hs
    obtain ⟨t, u, rfl, ht, hu⟩ := hs
    unfold pcn at hc
    rw [if_neg q] at hc
    have h1 := hx.1
    have h2 := hx.2.1
    obtain ⟨X1, R1, a1, a2, a3, a4, a5, a6⟩ := emt (op := p) (a := 0) he (show n < 400 by omega)
    have hpd : pend p = nI (tok p 0) := by unfold pend; rw [if_neg q]
    have hp1 : ¬ nI (tok p 0) = (1 : Int32) := by
      unfold pOk at hp
      rcases hp with z | z | z
      · exact absurd z q
      · rw [z]; decide
      · rw [z]; decide
    have hst : okStep p 0 (t :: u :: ty) = some (0 :: ty) := by
      unfold pOk at hp
      unfold okStep
      rw [if_neg q, if_neg (by omega), if_neg (by omega)]
      simp only []
      rw [if_pos (show p < 5 by omega), if_pos ⟨ht, hu⟩]
    refine ⟨X1, R1, n + 1, _, 0, ?_, ?_, Cx_off hx a4 (by decide) (by decide) (by decide) (by decide), Cr_off hr a5 (by decide) (by decide) (by decide), a3, by omega, by omega, ok_ad hn0 ho hst, by decide, Gr.ad, a4.mono (by decide) (by decide), a5.mono (by decide) (by decide), a6⟩
    · rw [Re_addIfSign_50_eq, hpd, if_neg hp1, a1, ob]
    · unfold aftP
      rw [if_neg q, show R_emits (nI p) 0 R = _ from a2, ob]
