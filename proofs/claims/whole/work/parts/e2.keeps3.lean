/-! Keeps: the answer. -/
section
variable {n : Nat} {D : tD} {B : tB} {L T : tL} {X R : pS}
theorem XA_68 {S : pS} (hX : XA D B L T X) (ho : Off [] [68] X S) : XA D B L T S := XA_off hX (ho.mono (by simp) (by simp))
theorem kept_nI (hD : WD n D) : ∃ a, a < 16384 ∧ D 7 2 = nI a ∧ ∀ i, i < 32 → a.testBit i = bt (D 7 2) i := by
  obtain ⟨a, h1, h2⟩ := low_nI (n := 14) (by omega) (low_up hD.2.2.1 hD.1)
  exact ⟨a, h1, h2, fun i hi => by rw [h2, bt_nI _ hi]⟩
theorem chooseX (hD : WD n D) (hT : WT n T) (hX : XA D B L T X) {a k : Nat} (ha : a < 16384) (hka : D 7 2 = nI a) (hk : k ≤ 14) : ∃ f S X', Opt D T n a k 16384 f S ∧ Ch_choose_67 (nI k) X = some (0, X') ∧ X'.1 67 3 = nI f ∧ X'.1 67 4 = nI S ∧ Off FX WX X X' := by
  obtain ⟨h10, -⟩ := hT.2.2.2.2.2.1
  have hp := le1024 h10
  have hp0 : 0 < 2 ^ (T 0 4) := Nat.two_pow_pos _
  have hn := hD.1
  have hab : ∀ i, i < 32 → a.testBit i = bt (D 7 2) i := fun i hi => by rw [hka, bt_nI _ hi]
  have alt : ∀ i, a.testBit i = true → i < n := fun i hi => by
    apply Classical.byContradiction
    intro z
    rcases Nat.lt_or_ge i 32 with q | q
    · rw [hab i q, hD.2.2.1 i (by omega)] at hi; cases hi
    · rw [hiN (k := 14) ha (by omega)] at hi; cases hi
  have e0 : (if (1 : Int32) <<< (rF X 19 2 &&& 31) < (1024 : Int32) then (1 : Int32) <<< (rF X 19 2 &&& 31) else (1024 : Int32)) = nI (2 ^ (T 0 4)) := by
    rw [show rF X 19 2 = nI (T 0 4) from hX.2.2.2.2.2.2.2.2.2.1.1]
    exact (by decide +kernel : ∀ m, m ≤ 10 → (if (1 : Int32) <<< (nI m &&& 31) < (1024 : Int32) then (1 : Int32) <<< (nI m &&& 31) else (1024 : Int32)) = nI (2 ^ m)) (T 0 4) h10
  -- the table is emptied
  have z : ∀ j i (S : pS), i + j = 2 ^ (T 0 4) → (∀ M, M < i → S.2.1 68 M = -1) → Off [] [68] X S → ∃ S', Ch_choose_67_c23 (nI k) (nI (2 ^ (T 0 4))) (nI i) S = Ch_choose_67_c50 (nI k) (nI (2 ^ (T 0 4))) 0 (wA S' 68 0 0) ∧ (∀ M, M < 2 ^ (T 0 4) → S'.2.1 68 M = -1) ∧ Off [] [68] X S' := by
    intro j
    induction j with
    | zero =>
      intro i S hi h1 h2
      refine ⟨S, ?_, fun M hM => h1 M (by omega), h2⟩
      rw [Ch_choose_67_c23_eq, if_neg (nlt_f (by omega) (by omega) (by omega))]
    | succ j ih =>
      intro i S hi h1 h2
      rw [Ch_choose_67_c23_eq, if_pos (nlt_t (by omega) (by omega)), if_pos (inb_n (by omega) (by omega)), nI_1]
      refine ih (i + 1) _ (by omega) (fun M hM => ?_) (h2.wA (by decide))
      rw [wA_21 (by omega), sA_eq, upd_at]
      by_cases e : M = i
      · rw [if_pos e]
      · rw [if_neg e]; exact h1 M (by omega)
  -- card by card
  have cards : ∀ j c (A : Nat → Option Nat) (S : pS), c + j = n → C68 T A S → Tbl D T n a c A → Off [] [68] X S → ∃ A' S', Ch_choose_67_c50 (nI k) (nI (2 ^ (T 0 4))) (nI c) S = Ch_choose_67_c96 (nI k) (nI (2 ^ (T 0 4))) 0 (wF (wF S' 67 3 0) 67 4 0) ∧ C68 T A' S' ∧ Tbl D T n a n A' ∧ Off [] [68] X S' := by
    intro j
    induction j with
    | zero =>
      intro c A S hc h1 h2 h3
      have : c = n := by omega
      subst this
      refine ⟨A, S, ?_, h1, h2, h3⟩
      rw [Ch_choose_67_c50_eq, show rF S 1 1 = nI c from cards_1 hD (XA_68 hX h3).1, if_neg (nlt_f (by omega) (by omega) (by omega))]
    | succ j ih =>
      intro c A S hc h1 h2 h3
      have hXS := XA_68 hX h3
      have up : (a.testBit c = false ∨ FM D T n (2 ^ c) 0) → Tbl D T n a (c + 1) A := by
        intro hh
        refine ⟨fun M S' hM hs => ?_, fun M S' hkb hS hFM => ?_⟩
        · obtain ⟨g1, g2, g3⟩ := h2.1 M S' hM hs
          exact ⟨g1, fun i hi => ⟨(g2 i hi).1, by have := (g2 i hi).2; omega⟩, g3⟩
        · cases hz : S'.testBit c
          · refine h2.2 M S' (fun i hi => ⟨(hkb i hi).1, ?_⟩) hS hFM
            have := (hkb i hi).2
            have : i ≠ c := fun e => by rw [e, hz] at hi; cases hi
            omega
          · rcases hh with hh | hh
            · have := (hkb c hz).1
              rw [hh] at this
              cases this
            · obtain ⟨S2, e', hz'⟩ := sub_bitN hz
              obtain ⟨o1, o2⟩ := ones_bitN (by omega : c < 14) hz'
              have hS2 : S2 ≤ S' := by rw [e']; exact Nat.le_add_right _ _
              have hkb' : kb a c S2 := fun i hi => by
                have hi2 : S'.testBit i = true := by rw [e', o2, hi]; rfl
                have := hkb i hi2
                have : i ≠ c := fun e => by rw [e, hz'] at hi; cases hi
                exact ⟨(hkb i hi2).1, by omega⟩
              obtain ⟨M2, hM2⟩ := FM_ex D T n S2
              have hF2 := FM_add (by omega) hz' hM2 hh
              rw [← e', Nat.or_zero] at hF2
              rw [FM_one hFM hF2]
              obtain ⟨S1, g1, g2⟩ := h2.2 M2 S2 hkb' (by omega) hM2
              refine ⟨S1, g1, ?_⟩
              rw [e']
              unfold les at *
              omega
      rw [Ch_choose_67_c50_eq, show rF S 1 1 = nI n from cards_1 hD hXS.1, if_pos (nlt_t (by omega) (by omega)), kept_1 hXS.1 (by omega), ob, nI_1, ← hab c (by omega)]
      simp only
      cases hac : a.testBit c
      · rw [b2i_f, if_pos rfl]
        exact ih (c + 1) A S (by omega) h1 (up (Or.inl hac)) h3
      · rw [b2i_t, if_neg (by decide), Ch_tryCard_67_eq]
        obtain ⟨q, q1, q2⟩ := qf_s hD hT hXS (by omega : c < n)
        have ql := FM_lt q1
        rw [q2, ob]
        simp only
        by_cases hq0 : q = 0
        · subst hq0
          rw [if_pos (show nI 0 = (0 : Int32) from rfl), ob]
          exact ih (c + 1) A S (by omega) h1 (up (Or.inr q1)) h3
        · rw [if_neg (nI_z hq0 (by omega))]
          obtain ⟨A', S', r1, r2, r3, r4⟩ := try_s hT hn (by omega) hac q1 h2 h1
          rw [r1, ob]
          exact ih (c + 1) A' S' (by omega) r2 r3 (h3.tr r4)
  -- the best of all
  have best : ∀ j M0 (A : Nat → Option Nat) f S0 (S : pS), M0 + j = 2 ^ (T 0 4) → C68 T A S → Tbl D T n a n A → S.1 67 3 = nI f → S.1 67 4 = nI S0 → f ≤ 10 → (S0 < 16384 ∧ sOf S0 a ∧ onesN S0 14 ≤ k ∧ ∃ M, FM D T n S0 M ∧ f = onesN M (T 0 4)) → (∀ M S', M < M0 → A M = some S' → onesN S' 14 ≤ k → ¬ bet (onesN M (T 0 4)) (onesN S' 14) S' f (onesN S0 14) S0) → ∃ f' S1 S', Ch_choose_67_c96 (nI k) (nI (2 ^ (T 0 4))) (nI M0) S = some (0, S') ∧ S'.1 67 3 = nI f' ∧ S'.1 67 4 = nI S1 ∧ Off [(67, 3), (67, 4)] [] S S' ∧ (S1 < 16384 ∧ sOf S1 a ∧ onesN S1 14 ≤ k ∧ ∃ M, FM D T n S1 M ∧ f' = onesN M (T 0 4)) ∧ (∀ M S', M < 2 ^ (T 0 4) → A M = some S' → onesN S' 14 ≤ k → ¬ bet (onesN M (T 0 4)) (onesN S' 14) S' f' (onesN S1 14) S1) := by
    intro j
    induction j with
    | zero =>
      intro M0 A f S0 S hM h1 h2 h3 h4 hf h5 h6
      refine ⟨f, S0, S, ?_, h3, h4, Off.rf, h5, fun M S' hM' => h6 M S' (by omega)⟩
      rw [Ch_choose_67_c96_eq, if_neg (nlt_f (by omega) (by omega) (by omega))]
    | succ j ih =>
      intro M0 A f S0 S hM h1 h2 h3 h4 hf h5 h6
      have hM0 : M0 < 2 ^ (T 0 4) := by omega
      have keep := fun (hh : ∀ S', A M0 = some S' → onesN S' 14 ≤ k → ¬ bet (onesN M0 (T 0 4)) (onesN S' 14) S' f (onesN S0 14) S0) => ih (M0 + 1) A f S0 S (by omega) h1 h2 h3 h4 hf h5 (fun M S' hM' hs hk' => by
        by_cases e : M = M0
        · subst e; exact hh S' hs hk'
        · exact h6 M S' (by omega) hs hk')
      rw [Ch_choose_67_c96_eq, if_pos (nlt_t hM0 (by omega)), if_pos (inb_n (by omega) (by omega)), rA_n (by omega), h1 M0 hM0, nI_1]
      cases hA : A M0 with
      | none =>
        rw [if_pos (show o2i none = (-1 : Int32) from rfl)]
        exact keep (fun S' hs => by rw [hA] at hs; cases hs)
      | some s =>
        obtain ⟨s1, s2, s3⟩ := h2.1 M0 s hM0 hA
        have os := onesN_le s 14
        have oS := onesN_le S0 14
        have oM := onesN_le M0 (T 0 4)
        have oM14 : onesN M0 14 = onesN M0 (T 0 4) := by
          have := onesN_hi (s := M0) (m := T 0 4) hM0 (14 - T 0 4)
          rw [show T 0 4 + (14 - T 0 4) = 14 from by omega] at this
          exact this
        rw [show o2i (some s) = nI s from rfl, if_neg (nI_ne_m1 (by omega)), bcn s1, ob]
        simp only
        by_cases hk' : onesN s 14 ≤ k
        · rw [if_pos (nI_le hk' (by omega)), bcn (by omega), ob, oM14]
          simp only
          have take : bet (onesN M0 (T 0 4)) (onesN s 14) s f (onesN S0 14) S0 → ∃ f' S1 S', Ch_choose_67_c96 (nI k) (nI (2 ^ (T 0 4))) (nI (M0 + 1)) (wF (wF S 67 3 (nI (onesN M0 (T 0 4)))) 67 4 (nI s)) = some (0, S') ∧ S'.1 67 3 = nI f' ∧ S'.1 67 4 = nI S1 ∧ Off [(67, 3), (67, 4)] [] S S' ∧ (S1 < 16384 ∧ sOf S1 a ∧ onesN S1 14 ≤ k ∧ ∃ M, FM D T n S1 M ∧ f' = onesN M (T 0 4)) ∧ (∀ M S', M < 2 ^ (T 0 4) → A M = some S' → onesN S' 14 ≤ k → ¬ bet (onesN M (T 0 4)) (onesN S' 14) S' f' (onesN S1 14) S1) := by
            intro hb
            obtain ⟨f', S1, S', r1, r2, r3, r4, r5, r6⟩ := ih (M0 + 1) A (onesN M0 (T 0 4)) s (wF (wF S 67 3 (nI (onesN M0 (T 0 4)))) 67 4 (nI s)) (by omega) h1 h2 (by rw [wF_1, sA_eq, upd_ne (by decide), wF_1, sA_eq, upd_eq]) (by rw [wF_1, sA_eq, upd_eq]) (by omega) ⟨s1, fun i hi => (s2 i hi).1, hk', M0, s3, rfl⟩ (fun M S' hM' hs hk2 => by
              by_cases e : M = M0
              · subst e
                rw [hA] at hs
                cases hs
                unfold bet
                omega
              · have := h6 M S' (by omega) hs hk2
                unfold bet at *
                omega)
            exact ⟨f', S1, S', r1, r2, r3, ((Off.rf.wF (by decide)).wF (by decide)).tr r4, r5, r6⟩
          have leave : ¬ bet (onesN M0 (T 0 4)) (onesN s 14) s f (onesN S0 14) S0 → _ := fun hb => keep (fun S' hs _ => by rw [hA] at hs; cases hs; exact hb)
          rw [Ch_takeIfBetter_67_eq, show rF S 67 3 = nI f from h3, show rF S 67 4 = nI S0 from h4]
          by_cases z1 : onesN M0 (T 0 4) ≤ f
          · rw [if_pos (nI_le z1 (by omega))]
            by_cases z2 : onesN M0 (T 0 4) = f
            · rw [if_pos (by rw [z2])]
              obtain ⟨b, b1, b2⟩ := isless_s (s := s) (s' := S0) s1 h5.1 (S := S)
              rw [b1, ob]
              simp only
              cases b
              · rw [b2i_f, if_pos rfl, ob]
                refine leave (fun z => ?_)
                have : ¬ les s S0 := fun y => by have := b2.mpr y; cases this
                unfold les at this
                unfold bet at z
                omega
              · rw [b2i_t, if_neg (by decide), Ch_takeIfBetter_67_c27_eq, ob]
                refine take ?_
                have := b2.mp rfl
                unfold les at this
                unfold bet
                omega
            · rw [if_neg (neq_f z2 (by omega) (by omega)), ob]
              exact leave (by unfold bet; omega)
          · rw [if_neg (by rw [nI_leE (by omega) (by omega)]; omega), Ch_takeIfBetter_67_c27_eq, ob]
            exact take (by unfold bet; omega)
        · rw [if_neg (by rw [nI_leE (by omega) (by omega)]; omega)]
          exact keep (fun S' hs hk2 => by rw [hA] at hs; cases hs; omega)
  obtain ⟨S1, a1, a2, a3⟩ := z (2 ^ (T 0 4)) 0 X (by omega) (fun M hM => by omega) Off.rf
  have t0 : Tbl D T n a 0 (upO (fun _ => none) 0 (some 0)) := by
    refine ⟨fun M S' hM hs => ?_, fun M S' hkb hS hFM => ?_⟩
    · rw [upO_at] at hs
      by_cases e : M = 0
      · rw [if_pos e] at hs
        cases hs
        rw [e]
        exact ⟨by omega, fun i hi => by rw [Nat.zero_testBit] at hi; exact absurd hi Bool.false_ne_true, FM_0⟩
      · rw [if_neg e] at hs; cases hs
    · have : S' = 0 := Nat.eq_of_testBit_eq (fun i => by
        rw [Nat.zero_testBit]
        cases hz : S'.testBit i
        · rfl
        · have := (hkb i hz).2; omega)
      subst this
      rw [← FM_one FM_0 hFM]
      exact ⟨0, rfl, by unfold les; omega⟩
  have c0 : C68 T (upO (fun _ => none) 0 (some 0)) (wA S1 68 0 0) := by
    intro M hM
    show (wA S1 68 (nI 0) 0).2.1 68 M = _
    rw [wA_21 (by omega), sA_eq, upd_at, upO_at]
    by_cases e : M = 0
    · rw [if_pos e, if_pos e]; rfl
    · rw [if_neg e, if_neg e, a2 M hM]; rfl
  obtain ⟨A', S2, b1, b2, b3, b4⟩ := cards n 0 _ (wA S1 68 0 0) (by omega) c0 t0 (a3.wA (by decide))
  obtain ⟨f, S0, S3, d1, d2, d3, d4, d5, d6⟩ := best (2 ^ (T 0 4)) 0 A' 0 0 (wF (wF S2 67 3 0) 67 4 0) (by omega) b2 b3 (by rw [wF_1, sA_eq, upd_ne (by decide), wF_1, sA_eq, upd_eq]; rfl) (by rw [wF_1, sA_eq, upd_eq]; rfl) (by omega) ⟨by omega, sOf_0, by rw [onesN_z]; omega, 0, FM_0, (onesN_z _).symm⟩ (fun M S' hM => by omega)
  refine ⟨f, S0, S3, ⟨d5, fun S' M' h1 h2 h3 h4 => ?_⟩, ?_, d2, d3, ?_⟩
  · obtain ⟨Sx, g1, g2⟩ := b3.2 M' S' (fun i hi => ⟨h2 i hi, alt i (h2 i hi)⟩) h1 h4
    have := d6 M' Sx (FM_lt h4) g1 (by unfold les at g2; omega)
    unfold les at g2
    unfold bet at *
    omega
  · rw [Ch_choose_67_eq, e0, show Ch_choose_67_c23 (nI k) (nI (2 ^ (T 0 4))) (0 : Int32) X = _ from a1, show Ch_choose_67_c50 (nI k) (nI (2 ^ (T 0 4))) (0 : Int32) (wA S1 68 0 0) = _ from b1]
    exact d1
  · exact (((b4.mono (by simp) (by simp)).wF (by decide)).wF (by decide)).tr (d4.mono (by simp) (by simp))
end
theorem q_keeps {X R : pS} (k w : Int32) (h : INV X R) : Gd (C_keeps k w) (R_keeps k w) X R := by
  obtain ⟨-, -, -, -, n, D, B, L, T, hw, hX, hR, -⟩ := id h
  have hR0 := RA_off hR told0
  have hD := hw.1
  have hT := hw.2.2.2
  have w2 : C_within w (2 : Int32) X = _ := within_s w 2 (S := X)
  have i1 : R_isIn k (0 : Int32) (14 : Int32) (wF R 0 0 0) = _ := isIn_s k 15 (by omega)
  have i2 : R_isIn w (0 : Int32) (1 : Int32) (wF R 0 0 0) = _ := isIn_s w 2 (by omega)
  have ck : C_keeps k w X = if inr k 15 then ((C_within w (2 : Int32) X).bind (fun q1 => if q1.1 = 0 then (some ((-1 : Int32), q1.2)) else ((Ch_choose_67 k q1.2).bind (fun q2 => if w = 0 then (some ((rF q2.2 67 3), q2.2)) else (some ((rF q2.2 67 4), q2.2)))))) else some (-1, X) := by
    rw [C_keeps_eq]
    cases e : inr k 15
    · rw [if_neg Bool.false_ne_true]
      unfold inr at e
      by_cases q : k < 0
      · rw [if_pos q]
      · rw [decide_eq_false q, Bool.not_false, Bool.true_and, decide_eq_false_iff_not] at e
        rw [if_neg q, if_neg (fun z => e ?_)]
        rw [fa_le] at z
        rw [fa_lt, show (nI 15).toInt = 15 from rfl]
        have : (14 : Int32).toInt = 14 := rfl
        omega
    · obtain ⟨j, hj, rfl⟩ := inr_t (by omega) e
      rw [if_pos rfl, if_neg (nI_pos (by omega)), if_pos (show nI j ≤ (14 : Int32) from (nI_leI (b := 14) (by omega) (by omega)).mpr (by omega))]
  cases e : inr k 15
  · rw [e] at i1
    exact Gd_of h (v := -1) (by rw [ck, e, if_neg Bool.false_ne_true]) Off.rf (by rw [R_keeps_eq, i1, ob]; rfl) told0
  · rw [e] at i1
    obtain ⟨k', hk', rfl⟩ := inr_t (by omega) e
    cases e2 : inr w 2
    · rw [e2] at w2 i2
      refine Gd_of h (v := -1) (by rw [ck, e, if_pos rfl, w2]; rfl) Off.rf ?_ told0
      rw [R_keeps_eq, i1, ob]; simp only [b2t, if_false, i2, ob, b2f, if_true]
    · rw [e2] at w2 i2
      obtain ⟨a, ha, hka, -⟩ := kept_nI hD
      obtain ⟨f, S, X', o1, c1, c2, c3, c4⟩ := chooseX hD hT hX ha hka (by omega : k' ≤ 14)
      obtain ⟨f', S', o2, -, r1⟩ := keepsR hD hT hR0 ha (by omega : k' ≤ 14) (w := w)
      obtain ⟨ef, eS⟩ := Opt_one o1 o2
      have cx : C_keeps (nI k') w X = (if w = 0 then some (nI f, X') else some (nI S, X')) := by
        rw [ck, e, if_pos rfl, w2, ob]
        simp only [b2t, if_false, c1, ob]
        rw [show rF X' 67 3 = nI f from c2, show rF X' 67 4 = nI S from c3]
      have rx : R_keeps (nI k') w R = (if w = 0 then some (nI f, wF R 0 0 0) else some (nI S, wF R 0 0 0)) := by
        rw [R_keeps_eq, i1, ob]
        simp only [b2t, if_false, i2, ob, kset hD hR0.1]
        rw [hka, ef, eS]
        exact r1
      by_cases q : w = 0
      · exact Gd_of h (by rw [cx, if_pos q]) c4 (by rw [rx, if_pos q]) told0
      · exact Gd_of h (by rw [cx, if_neg q]) c4 (by rw [rx, if_neg q]) told0
