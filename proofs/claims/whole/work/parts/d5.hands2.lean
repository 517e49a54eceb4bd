/-! Hands, on. -/
theorem mask_ne {x : Int32} (h : x ≠ 0) : ∃ i, i < 32 ∧ bt x i = true := by
  apply Classical.byContradiction
  intro q
  apply h
  apply b_ext
  intro i hi
  rw [b_0]
  cases hb : bt x i
  · rfl
  · exact absurd ⟨i, hi, hb⟩ q
/-- the least bit -/
theorem mask_lo {x : Int32} (h : x ≠ 0) : ∃ p, p < 32 ∧ bt x p = true ∧ ∀ j, j < p → bt x j = false := by
  obtain ⟨i, hi, hb⟩ := mask_ne h
  cases hf : fst? (bt x) 32 0 with
  | none =>
    have := fst_none.mp hf i (by omega) (by omega)
    rw [hb] at this
    cases this
  | some p =>
    obtain ⟨⟨g1, g2⟩, g3, g4⟩ := fst_some hf
    exact ⟨p, by omega, g3, fun j hj => g4 j (by omega) hj⟩
section
variable {n : Nat} {D : tD} {B : tB} {L T : tL} {X R : pS}
/-- who is nearest -/
def Nst (T : tL) (Ow : Int32) (i st : Nat) : Option Nat → Prop
  | none => st = 12 ∧ ∀ p, p < i → bt Ow p = true → dist T 0 p = none
  | some q => q < i ∧ st < 12 ∧ bt Ow q = true ∧ dist T 0 q = some st ∧ ∀ p d, p < i → bt Ow p = true → dist T 0 p = some d → st ≤ d ∧ (d = st → q ≤ p)
theorem seek_l {Ow : Int32} {S0 : pS} (hfar : ∀ p, p < 12 → S0.2.1 66 p = o2i (dist T 0 p)) : ∀ k i st (wh : Option Nat) (S : pS), i + k = 12 → Nst T Ow i st wh → S.1 64 4 = nI st → S.1 64 5 = o2i wh → Off [(64, 4), (64, 5)] [] S0 S → ∃ st' wh' S', Ci_seek_64_c40 Ow (nI i) S = Ci_seek_64_c40 Ow (nI 12) S' ∧ Nst T Ow 12 st' wh' ∧ S'.1 64 4 = nI st' ∧ S'.1 64 5 = o2i wh' ∧ Off [(64, 4), (64, 5)] [] S0 S' := by
  intro k
  induction k with
  | zero =>
    intro i st wh S hi h1 h2 h3 h4
    have : i = 12 := by omega
    subst this
    exact ⟨st, wh, S, rfl, h1, h2, h3, h4⟩
  | succ k ih =>
    intro i st wh S hi h1 h2 h3 h4
    have hf : S.2.1 66 i = o2i (dist T 0 i) := by rw [h4.2.1 66 (by simp)]; exact hfar i (by omega)
    have hst : st ≤ 12 := by
      cases wh with
      | none => rw [h1.1]; exact Nat.le_refl _
      | some q => have := h1.2.1; omega
    have dl : ∀ d, dist T 0 i = some d → d < 12 := fun d e => (dist_some.mp e).1
    have keep : (∀ d, bt Ow i = true → dist T 0 i = some d → (wh ≠ none ∧ st ≤ d)) → Nst T Ow (i + 1) st wh := by
      intro hh
      cases wh with
      | none =>
        refine ⟨h1.1, fun p hp hb => ?_⟩
        by_cases e : p = i
        · subst e
          cases hd : dist T 0 p with
          | none => rfl
          | some d => exact absurd rfl (hh d hb hd).1
        · exact h1.2 p (by omega) hb
      | some q =>
        obtain ⟨a1, a2, a3, a4, a5⟩ := h1
        refine ⟨by omega, a2, a3, a4, fun p d hp hb hd => ?_⟩
        by_cases e : p = i
        · subst e
          exact ⟨(hh d hb hd).2, fun _ => by omega⟩
        · exact a5 p d (by omega) hb hd
    rw [Ci_seek_64_c40_eq, if_pos (show nI i < (12 : Int32) from nlt_t (n := 12) (by omega) (by omega)), holds_s _ (by omega), ob, nI_1]
    simp only
    cases hb : bt Ow i
    · rw [b2i_f, if_pos rfl]
      exact ih (i + 1) st wh S (by omega) (keep (fun d z _ => by rw [hb] at z; cases z)) h2 h3 h4
    · rw [b2i_t, if_neg (by decide), if_pos (inb_n (by omega) (by omega)), rA_n (by omega), hf]
      cases hd : dist T 0 i with
      | none =>
        rw [if_pos (show o2i none = (-1 : Int32) from rfl)]
        exact ih (i + 1) st wh S (by omega) (keep (fun d _ z => by rw [hd] at z; cases z)) h2 h3 h4
      | some d =>
        have hd12 := dl d hd
        rw [show o2i (some d) = nI d from rfl, if_neg (nI_ne_m1 (by omega)), if_pos (inb_n (by omega) (by omega)), show rF S 64 4 = nI st from h2]
        by_cases q : d < st
        · rw [if_pos (nlt_t q (by omega)), if_pos (inb_n (by omega) (by omega))]
          refine ih (i + 1) d (some i) _ (by omega) ⟨by omega, hd12, hb, hd, fun p d' hp hbp hdp => ?_⟩ (by rw [wF_1, sA_eq, upd_ne (by decide), wF_1, sA_eq, upd_eq]) (by rw [wF_1, sA_eq, upd_eq]; rfl) ((h4.wF (by decide)).wF (by decide))
          by_cases e : p = i
          · subst e
            rw [hd] at hdp
            cases hdp
            exact ⟨Nat.le_refl _, fun _ => Nat.le_refl _⟩
          · cases wh with
            | none =>
              rw [h1.2 p (by omega) hbp] at hdp
              cases hdp
            | some q0 =>
              have := (h1.2.2.2.2 p d' (by omega) hbp hdp).1
              exact ⟨by omega, fun z => by omega⟩
        · rw [if_neg (nlt_f q (by omega) (by omega))]
          refine ih (i + 1) st wh S (by omega) (keep (fun d' _ z => ?_)) h2 h3 h4
          rw [hd] at z
          cases z
          refine ⟨fun z => ?_, by omega⟩
          subst z
          have := h1.1
          omega
/-- the reference's way: till somebody is reached -/
theorem R_reach (hT : WT n T) {Ow what : Int32} {S0 : pS} (hR : RTm T S0) : ∀ j k (S : pS), k + j = 12 → (∀ i, i ≤ k → S.2.1 28 i = rc T 0 i) → Off [] [28] S0 S → (∃ S', R_hands_c43 what Ow (nI k) S = some (-1, S') ∧ (∀ i, k ≤ i → i ≤ 12 → rc T 0 i &&& Ow = 0) ∧ Off [] [28] S0 S') ∨ (∃ m S', k ≤ m ∧ m ≤ 12 ∧ rc T 0 m &&& Ow ≠ 0 ∧ (∀ i, k ≤ i → i < m → rc T 0 i &&& Ow = 0) ∧ R_hands_c43 what Ow (nI k) S = R_hands_c43 what Ow (nI m) S' ∧ (∀ i, i ≤ m → S'.2.1 28 i = rc T 0 i) ∧ Off [] [28] S0 S') := by
  intro j
  induction j with
  | zero =>
    intro k S hk h1 h2
    have : k = 12 := by omega
    subst this
    by_cases e : rc T 0 12 &&& Ow = 0
    · refine Or.inl ⟨S, ?_, fun i a b => by rw [show i = 12 from by omega]; exact e, h2⟩
      rw [R_hands_c43_eq, if_pos (inb_n (by omega) (by omega)), rA_n (by omega), h1 12 (by omega), if_pos e, if_pos (show nI 12 = (12 : Int32) from rfl)]
    · exact Or.inr ⟨12, S, by omega, by omega, e, fun i a b => by omega, rfl, h1, h2⟩
  | succ j ih =>
    intro k S hk h1 h2
    by_cases e : rc T 0 k &&& Ow = 0
    · have hR' : RTm T S := RTm_off hR h2 (by simp) (by decide)
      have step : R_hands_c43 what Ow (nI k) S = R_hands_c43 what Ow (nI (k + 1)) (wA S 28 (nI (k + 1)) (rc T 0 (k + 1))) := by
        rw [R_hands_c43_eq, if_pos (inb_n (by omega) (by omega)), rA_n (by omega), h1 k (by omega), if_pos e, if_neg (show ¬ nI k = (12 : Int32) from fun z => by have := (nI_eq (b := 12) (by omega) (by omega)).mp z; omega), if_pos (inb_n (by omega) (by omega)), if_pos (inb_n (by omega) (by omega)), ball_s hT hR', ob, nI_1, if_pos (inb_n (by omega) (by omega)), rc_s]
      have inv : ∀ i, i ≤ k + 1 → (wA S 28 (nI (k + 1)) (rc T 0 (k + 1))).2.1 28 i = rc T 0 i := by
        intro i hi
        rw [wA_21 (by omega), sA_eq, upd_at]
        by_cases q : i = k + 1
        · rw [if_pos q, q]
        · rw [if_neg q]; exact h1 i (by omega)
      rcases ih (k + 1) _ (by omega) inv (h2.wA (by decide)) with ⟨S', a1, a2, a3⟩ | ⟨m, S', a0, a1, a2, a3, a4, a5, a6⟩
      · refine Or.inl ⟨S', by rw [step, a1], fun i p q => ?_, a3⟩
        by_cases z : i = k
        · rw [z]; exact e
        · exact a2 i (by omega) q
      · refine Or.inr ⟨m, S', by omega, a1, a2, fun i p q => ?_, by rw [step, a4], a5, a6⟩
        by_cases z : i = k
        · rw [z]; exact e
        · exact a3 i (by omega) q
    · exact Or.inr ⟨k, S, by omega, by omega, e, fun i a b => by omega, rfl, h1, h2⟩
/-- the set of those on a way -/
def onM (T : tL) (wh : Nat) : Nat → Nat → Int32 → Int32
  | 0, _, x => x
  | j + 1, k, x => onM T wh j (k - 1) ((bs T x &&& rc T 0 k) &&& (rc T 0 (k - 1) ^^^ (-1)))
theorem R_way (hT : WT n T) {m : Nat} (hm : m ≤ 12) {wh : Nat} {S : pS} (hR : RTm T S) (hr : ∀ i, i ≤ m → S.2.1 28 i = rc T 0 i) : ∀ j (x : Int32), j < m → R_hands_c143 (nI m) x (nI j) S = (if nI m = 0 then (some ((0 : Int32), S)) else ((R_lowest (onM T wh j j x) S).bind (fun q6 => some (q6.1, q6.2)))) := by
  intro j
  induction j with
  | zero =>
    intro x hj
    rw [R_hands_c143_eq, if_pos (show nI 0 ≤ 0 by decide)]
    rfl
  | succ j ih =>
    intro x hj
    rw [R_hands_c143_eq, if_neg (show ¬ nI (j + 1) ≤ 0 from nI_nle (by omega) (by omega)), ball_s hT hR, ob, if_pos (inb_n (by omega) (by omega)), rA_n (by omega), hr (j + 1) (by omega), show (-1 : Int32) = -1 from rfl]
    rw [show nI (j + 1) - (1 : Int32) = nI j from nI_pred j, if_pos (inb_n (by omega) (by omega)), rA_n (by omega), hr j (by omega), show nI (j + 1) + (-1 : Int32) = nI j from pk_m1 j, ih _ (by omega)]
    rfl
/-- those on a way of length m from 0 to wh, k steps from 0 -/
theorem on_bt {m wh : Nat} (hwh : wh < 12) (h1 : bl T 0 m wh = true) (h2 : ∀ i, i < m → bl T 0 i wh = false) : ∀ j k (x : Int32), j ≤ k → k + 1 ≤ m → (∀ p, bt x p = true ↔ (bl T 0 (k + 1) p = true ∧ bl T 0 k p = false ∧ bl T wh (m - (k + 1)) p = true)) → ∀ p, bt (onM T wh j k x) p = true ↔ (bl T 0 (k - j + 1) p = true ∧ bl T 0 (k - j) p = false ∧ bl T wh (m - (k - j + 1)) p = true) := by
  intro j
  induction j with
  | zero =>
    intro k x _ hk hx p
    exact hx p
  | succ j ih =>
    intro k x hj hk hx p
    rw [onM]
    have := ih (k - 1) ((bs T x &&& rc T 0 k) &&& (rc T 0 (k - 1) ^^^ (-1))) (by omega) (by omega) (fun q => ?_) p
    · rw [show k - (j + 1) = k - 1 - j from by omega]
      exact this
    · rw [show k - 1 + 1 = k from by omega]
      constructor
      · intro h
        rw [b_and, b_and, Bool.and_eq_true, Bool.and_eq_true] at h
        obtain ⟨⟨g1, g2⟩, g3⟩ := h
        have hq : q < 12 := ((bs_bt T x q).mp g1).1
        rw [b_not _ (by omega)] at g3
        have g3 : bl T 0 (k - 1) q = false := by
          unfold bl
          cases hz : bt (rc T 0 (k - 1)) q
          · rfl
          · rw [hz] at g3; cases g3
        obtain ⟨-, z, z1, z2, z3⟩ := (bs_bt T x q).mp g1
        obtain ⟨y1, y2, y3⟩ := (hx z).mp z2
        refine ⟨g2, g3, ?_⟩
        have := bl_s.mpr (Or.inr ⟨hq, z, z1, y3, z3⟩)
        rw [show m - (k + 1) + 1 = m - k from by omega] at this
        exact this
      · rintro ⟨g1, g2, g3⟩
        have hq : q < 12 := bl_lt (by omega) g1
        have nb1 : bl T wh (m - (k + 1)) q = false := by
          cases hz : bl T wh (m - (k + 1)) q
          · rfl
          · have := bl_tri (by omega) hq g1 _ wh (bl_sym hwh _ q hz)
            rw [h2 _ (by omega)] at this
            cases this
        rw [show m - k = m - (k + 1) + 1 from by omega] at g3
        rcases bl_s.mp g3 with y | ⟨-, z, z1, z2, z3⟩
        · rw [nb1] at y; cases y
        · rw [b_and, b_and, b_not _ (by omega), Bool.and_eq_true, Bool.and_eq_true, bs_bt]
          refine ⟨⟨⟨hq, z, z1, (hx z).mpr ⟨?_, ?_, z2⟩, z3⟩, g1⟩, by unfold bl at g2; rw [g2]; rfl⟩
          · exact bl_s.mpr (Or.inr ⟨z1, q, hq, g1, by rw [adj_c]; exact z3⟩)
          · cases hz : bl T 0 k z
            · rfl
            · have := bl_tri (by omega) z1 hz _ wh (bl_sym hwh _ z z2)
              rw [h2 _ (by omega)] at this
              cases this
end
