/-! Hands: the answer. -/
theorem dist_ex {T : tL} {p k : Nat} (hk : k ≤ 12) (h : bl T 0 k p = true) : ∃ d, d ≤ k ∧ dist T 0 p = some d := by
  have h11 : ∃ k', k' ≤ k ∧ k' < 12 ∧ bl T 0 k' p = true := by
    by_cases e : k = 12
    · subst e
      refine ⟨11, by omega, by omega, ?_⟩
      unfold bl at h ⊢
      rw [← rc_11 T (by omega)]
      exact h
    · exact ⟨k, Nat.le_refl _, by omega, h⟩
  obtain ⟨k', a1, a2, a3⟩ := h11
  cases hd : dist T 0 p with
  | none =>
    have := fst_none.mp hd k' (by omega) (by omega)
    rw [a3] at this
    cases this
  | some d =>
    obtain ⟨b1, b2, b3⟩ := dist_some.mp hd
    refine ⟨d, ?_, rfl⟩
    apply Classical.byContradiction
    intro q
    have := b3 k' (by omega)
    rw [a3] at this
    cases this
theorem q_hands {X R : pS} (t w : Int32) (h : INV X R) : Gd (C_hands t w) (R_hands t w) X R := by
  obtain ⟨-, -, -, -, n, D, B, L, T, hw, hX, hR, -⟩ := id h
  have hR0 := RA_off hR told0
  have hD := hw.1
  have hT := hw.2.2.2
  have w1 : C_within t (6 : Int32) X = _ := within_s t 6 (S := X)
  have w2 : C_within w (3 : Int32) X = _ := within_s w 3 (S := X)
  have i1 : R_isIn t (0 : Int32) (5 : Int32) (wF R 0 0 0) = _ := isIn_s t 6 (by omega)
  have i2 : R_isIn w (0 : Int32) (2 : Int32) (wF R 0 0 0) = _ := isIn_s w 3 (by omega)
  cases e : inr t 6
  · rw [e] at w1 i1
    exact Gd_of h (v := -1) (by rw [C_hands_eq, w1, ob]; rfl) Off.rf (by rw [R_hands_eq, i1, ob]; rfl) told0
  · rw [e] at w1 i1
    cases e2 : inr w 3
    · rw [e2] at w2 i2
      refine Gd_of h (v := -1) ?_ Off.rf ?_ told0
      · rw [C_hands_eq, w1, ob]; simp only [b2t, if_false, w2, ob, b2f, if_true]
      · rw [R_hands_eq, i1, ob]; simp only [b2t, if_false, i2, ob, b2f, if_true]
    · rw [e2] at w2 i2
      obtain ⟨w', hw', rfl⟩ := inr_t (by omega) e2
      obtain ⟨Ow, hOw⟩ : ∃ Ow, Ow = pm D n (kwQ D 2 t) := ⟨_, rfl⟩
      have lOw : lowm Ow 12 := by rw [hOw]; exact pm_low hD _
      -- the class
      obtain ⟨X1, l1, l2, l3⟩ := learn_s hT hX.2.2.2
      obtain ⟨X2, m1, m2, m3⟩ := meas_s (T := T) (u := 0) l2 (by omega)
      have hX2 : XD 1 D X2 := XD_off (XD_off hX.1 l3 (fun _ _ _ => by simp) (by decide)) m3 (fun _ _ _ => by simp) (by decide)
      have hL2 : Lrn T X2 := fun p hp => by rw [m3.2.1 65 (by decide)]; exact l2 p hp
      have far3 : ∀ p, p < 12 → (wF (wF X2 64 5 (-1)) 64 4 12).2.1 66 p = o2i (dist T 0 p) := m2
      obtain ⟨st, wh, X4, s1, s2, s3, s4, s5⟩ := seek_l (Ow := Ow) far3 12 0 12 none (wF (wF X2 64 5 (-1)) 64 4 12) rfl ⟨rfl, fun p hp => by omega⟩ (by rw [wF_1, sA_eq, upd_eq]; rfl) (by rw [wF_1, sA_eq, upd_ne (by decide), wF_1, sA_eq, upd_eq]; rfl) Off.rf
      have oX4 : Off FX WX X X4 := ((((l3.mono (by simp) (by simp)).tr (m3.mono (by simp) (by simp))).wF (by decide)).wF (by decide)).tr (s5.mono (by simp) (by simp))
      have sk : Ci_seek_64 t X = Ci_seek_64_c40 Ow (nI 12) X4 := by
        rw [Ci_seek_64_eq, l1, ob]
        simp only
        rw [show Ci_measure_64 (0 : Int32) X1 = _ from m1, ob]
        simp only
        rw [show Dr_keptWith_1 (2 : Int32) t X2 = _ from keptW_1 (r := 2) hD hX2 (by omega), ob]
        simp only
        rw [peopK hD hX2, ob, ← hOw]
        exact s1
      have cx : C_hands t (nI w') X = (Ci_seek_64_c40 Ow (nI 12) X4).bind (fun q3 => if q3.1 = 0 then (some ((-1 : Int32), q3.2)) else (if nI w' = 0 then (some ((rF q3.2 64 4), q3.2)) else (if nI w' = (1 : Int32) then (some ((rF q3.2 64 5), q3.2)) else (some ((rF q3.2 64 6), q3.2))))) := by
        rw [C_hands_eq, w1, ob]
        simp only [b2t, if_false, w2, ob]
        rw [sk]
      -- the reference
      have hRT : RTm T (wA (wF R 0 0 0) 28 (nI 0) 1) := RTm_off hR0.2.2.2 (Off.rf.wA (W := [28]) (F := []) (by decide)) (by simp) (by decide)
      have r0 : ∀ i, i ≤ 0 → (wA (wF R 0 0 0) 28 (nI 0) 1).2.1 28 i = rc T 0 i := by
        intro i hi
        rw [show i = 0 from by omega, wA_21 (by omega), sA_eq, upd_eq]
        rfl
      have rx : R_hands t (nI w') R = R_hands_c43 (nI w') Ow (nI 0) (wA (wF R 0 0 0) 28 (nI 0) 1) := by
        rw [R_hands_eq, i1, ob]
        simp only [b2t, if_false, i2, ob]
        rw [own_s hD hR0.1, ob, ← hOw]
        rfl
      have oR : ∀ S', Off [] [28] (wA (wF R 0 0 0) 28 (nI 0) 1) S' → Off FR WRs R S' := fun S' ho => (told0.wA (by decide)).tr (ho.mono (by simp) (by simp))
      have c40 := Ci_seek_64_c40_eq Ow (nI 12) X4
      rw [if_neg (show ¬ nI 12 < (12 : Int32) by decide), show rF X4 64 5 = o2i wh from s4] at c40
      rcases R_reach hT (Ow := Ow) (what := nI w') hRT 12 0 _ rfl r0 Off.rf with ⟨R', a1, a2, a3⟩ | ⟨m, R', a0, a1, a2, a3, a4, a5, a6⟩
      · cases wh with
        | none =>
          refine Gd_of h (v := -1) (X' := X4) ?_ oX4 (by rw [rx, a1]) (oR R' a3)
          rw [cx, c40, if_pos (show o2i none = (-1 : Int32) from rfl), ob]
          rfl
        | some q =>
          obtain ⟨b1, b2, b3, b4, b5⟩ := s2
          have hz := a2 st (by omega) (by omega)
          have := congrArg (fun x => bt x q) hz
          simp only [b_and, b_0, b3, Bool.and_true] at this
          rw [show bt (rc T 0 st) q = true from (dist_some.mp b4).2.1] at this
          cases this
      · obtain ⟨p0, c1, c2, c3⟩ := mask_lo a2
        rw [b_and, Bool.and_eq_true] at c2
        have hp0 : p0 < 12 := bl_lt (T := T) (u := 0) (by omega) c2.1
        obtain ⟨d0, e1, e3⟩ := dist_ex a1 c2.1
        cases wh with
        | none =>
          have := s2.2 p0 hp0 c2.2
          rw [e3] at this
          cases this
        | some q =>
          obtain ⟨b1, b2, b3, b4, b5⟩ := s2
          have hq := (dist_some.mp b4)
          have hmst : m = st := by
            have z1 := (b5 p0 d0 hp0 c2.2 e3).1
            have z2 : m ≤ st := by
              apply Classical.byContradiction
              intro z
              have := congrArg (fun x => bt x q) (a3 st (by omega) (by omega))
              simp only [b_and, b_0, b3, Bool.and_true] at this
              rw [show bt (rc T 0 st) q = true from hq.2.1] at this
              cases this
            omega
          subst hmst
          have hqp : q = p0 := by
            have z1 := (b5 p0 d0 hp0 c2.2 e3)
            have z2 : d0 = m := by omega
            have z3 := z1.2 z2
            apply Classical.byContradiction
            intro z
            have := c3 q (by omega)
            rw [b_and, b3, show bt (rc T 0 m) q = true from hq.2.1] at this
            cases this
          subst hqp
          have lo : ∀ S', R_lowest (rc T 0 m &&& Ow) S' = some (nI q, S') := fun S' => lowest_s c1 (by rw [b_and, c2.1, c2.2]; rfl) c3
          have re := R_hands_c43_eq (nI w') Ow (nI m) R'
          rw [if_pos (inb_n (by omega) (by omega)), rA_n (by omega), a5 m (by omega), if_neg a2] at re
          -- what the class holds then
          have fin : ∃ X5, Ci_seek_64_c40 Ow (nI 12) X4 = some (1, X5) ∧ X5.1 64 4 = nI m ∧ X5.1 64 5 = nI q ∧ Off FX WX X X5 ∧ (m = 0 → X5.1 64 6 = 0) ∧ (0 < m → ∃ f, f < 12 ∧ X5.1 64 6 = nI f ∧ R_hands_c143 (nI m) (bit q) (nI (m - 1)) R' = some (nI f, R')) := by
            by_cases m0 : m = 0
            · have q0 : q = 0 := (bl_0 (T := T) (u := 0) (by omega)).mp (by rw [m0] at hq; exact hq.2.1)
              refine ⟨wF X4 64 6 0, ?_, ?_, ?_, oX4.wF (by decide), fun _ => by rw [wF_1, sA_eq, upd_eq], fun z => by omega⟩
              · rw [c40, q0, if_neg (by decide), if_pos (show o2i (some 0) = 0 from rfl)]
              · rw [wF_1, sA_eq, upd_ne (by decide)]; exact s3
              · rw [wF_1, sA_eq, upd_ne (by decide)]; exact s4
            · have q0 : q ≠ 0 := fun z => by
                have := hq.2.2 0 (by omega)
                rw [(bl_0 (T := T) (u := 0) (by omega)).mpr z] at this
                cases this
              have hL4 : Lrn T X4 := fun p hp => by
                rw [s5.2.1 65 (by simp)]
                exact hL2 p hp
              obtain ⟨X5, u1, u2, u3⟩ := meas_s (T := T) (u := q) hL4 (by omega)
              have o5 : Off FX WX X X5 := oX4.tr (u3.mono (by simp) (by simp))
              have g4 : X5.1 64 4 = nI m := by rw [u3.1 _ _ (by simp)]; exact s3
              have g5 : X5.1 64 5 = nI q := by rw [u3.1 _ _ (by simp)]; exact s4
              have hxs : ∀ p, bt (bit q) p = true ↔ (bl T 0 (m - 1 + 1) p = true ∧ bl T 0 (m - 1) p = false ∧ bl T q (m - (m - 1 + 1)) p = true) := by
                intro p
                rw [bt_bit (by omega), decide_eq_true_eq, show m - (m - 1 + 1) = 0 from by omega, bl_0 (by omega), show m - 1 + 1 = m from by omega]
                constructor
                · intro z; subst z; exact ⟨hq.2.1, hq.2.2 _ (by omega), rfl⟩
                · intro z; exact z.2.2
              have ont := on_bt (T := T) (m := m) (wh := q) (by omega) hq.2.1 hq.2.2 (m - 1) (m - 1) (bit q) (Nat.le_refl _) (by omega) hxs
              rw [show m - 1 - (m - 1) = 0 from by omega] at ont
              have onc : ∀ p, p < 12 → (bt (onM T q (m - 1) (m - 1) (bit q)) p = true ↔ (bt (nb T 0) p = true ∧ dist T q p = some (m - 1))) := by
                intro p hp
                rw [ont p, nb_bt, decide_eq_true hp, Bool.true_and, dist_some]
                constructor
                · rintro ⟨z1, z2, z3⟩
                  refine ⟨?_, by omega, z3, fun j hj => ?_⟩
                  · rcases bl_s.mp z1 with y | ⟨-, y, y1, y2, y3⟩
                    · rw [z2] at y; cases y
                    · rw [(bl_0 (by omega)).mp y2] at y3; exact y3
                  · cases hz : bl T q j p
                    · rfl
                    · have := bl_tri (T := T) (u := 0) (by omega) hp z1 j q (bl_sym (by omega) j p hz)
                      rw [hq.2.2 _ (by omega)] at this
                      cases this
                · rintro ⟨z1, z2, z3, z4⟩
                  refine ⟨bl_1 (by omega) hp z1, ?_, z3⟩
                  cases hz : bl T 0 0 p
                  · rfl
                  · have p00 := (bl_0 (T := T) (u := 0) (by omega)).mp hz
                    rw [p00] at z3
                    have := bl_sym (T := T) (u := q) (by omega) (m - 1) 0 z3
                    rw [hq.2.2 _ (by omega)] at this
                    cases this
              have one : onM T q (m - 1) (m - 1) (bit q) ≠ 0 := by
                have hc := hq.2.1
                rw [show m = 1 + (m - 1) from by omega] at hc
                obtain ⟨p, y1, y2, y3⟩ := bl_cut (T := T) (u := 0) (by omega) (m - 1) q hc
                have y4 := bl_sym (T := T) y1 _ q y3
                intro z
                have y5 : bl T 0 0 p = false := by
                  cases hz : bl T 0 0 p
                  · rfl
                  · have p00 := (bl_0 (T := T) (u := 0) (by omega)).mp hz
                    rw [p00] at y3
                    rw [hq.2.2 _ (by omega)] at y3
                    exact absurd y3 Bool.false_ne_true
                have : bt (onM T q (m - 1) (m - 1) (bit q)) p = true := (ont p).mpr ⟨y2, y5, y4⟩
                rw [z, b_0] at this
                cases this
              obtain ⟨f, f1, f2, f3⟩ := mask_lo one
              have hf12 : f < 12 := bl_lt (T := T) (u := 0) (by omega) ((ont f).mp f2).1
              have lp10 : ∀ k i, i + k = f → Ci_firstOnTheWay_64_c10 (nI i) X5 = some (nI f, X5) := by
                intro k
                have e65 : rA X5 65 (0 : Int32) = nb T 0 := by
                  show X5.2.1 65 0 = _
                  rw [u3.2.1 65 (by decide)]
                  exact hL4 0 (by omega)
                induction k with
                | zero =>
                  intro i hi
                  have : i = f := by omega
                  subst this
                  obtain ⟨y1, y2⟩ := (onc i hf12).mp f2
                  rw [Ci_firstOnTheWay_64_c10_eq, if_pos (show nI i < (12 : Int32) from nlt_t (n := 12) (by omega) (by omega)), e65, holds_s _ (by omega), ob, y1]
                  simp only [b2t, if_false]
                  rw [if_pos (inb_n (by omega) (by omega)), rA_n (by omega), u2 i hf12, y2, show rF X5 64 4 = nI m from g4, if_pos (show o2i (some (m - 1)) = nI m - 1 from (pk_sub (a := m) (b := 1) (by omega)).symm)]
                | succ k ih =>
                  intro i hi
                  have hno : ¬ (bt (nb T 0) i = true ∧ dist T q i = some (m - 1)) := fun z => by
                    have := (onc i (by omega)).mpr z
                    rw [f3 i (by omega)] at this
                    cases this
                  rw [Ci_firstOnTheWay_64_c10_eq, if_pos (show nI i < (12 : Int32) from nlt_t (n := 12) (by omega) (by omega)), e65, holds_s _ (by omega), ob, nI_1]
                  simp only
                  cases hb : bt (nb T 0) i
                  · rw [b2i_f, if_pos rfl]; exact ih (i + 1) (by omega)
                  · rw [b2i_t, if_neg (by decide), if_pos (inb_n (by omega) (by omega)), rA_n (by omega), u2 i (by omega), show rF X5 64 4 = nI m from g4, if_neg (fun z => hno ⟨hb, ?_⟩)]
                    · exact ih (i + 1) (by omega)
                    · rw [show nI m - (1 : Int32) = nI (m - 1) from pk_sub (a := m) (b := 1) (by omega)] at z
                      exact (o2i_eq (fun q' hq' => by have := (dist_some.mp hq').1; omega) (by omega)).mp z
              have fo : Ci_firstOnTheWay_64 X4 = some (nI f, X5) := by
                rw [Ci_firstOnTheWay_64_eq, show rF X4 64 5 = nI q from s4, u1, ob]
                exact lp10 f 0 (by omega)
              refine ⟨wF X5 64 6 (nI f), ?_, ?_, ?_, o5.wF (by decide), fun z => by omega, fun _ => ⟨f, hf12, by rw [wF_1, sA_eq, upd_eq], ?_⟩⟩
              · rw [c40, if_neg (show ¬ o2i (some q) = (-1 : Int32) from nI_ne_m1 (by omega)), if_neg (show ¬ o2i (some q) = 0 from nI_z q0 (by omega)), fo]
                rfl
              · rw [wF_1, sA_eq, upd_ne (by decide)]; exact g4
              · rw [wF_1, sA_eq, upd_ne (by decide)]; exact g5
              · have hRT' : RTm T R' := RTm_off hRT a6 (by simp) (by decide)
                rw [R_way hT (wh := q) a1 hRT' a5 (m - 1) (bit q) (by omega), if_neg (nI_z m0 (by omega)), lowest_s f1 f2 f3]
                rfl
          obtain ⟨X5, v1, v2, v3, v4, v5, v6⟩ := fin
          have cx5 : C_hands t (nI w') X = (if nI w' = 0 then (some (nI m, X5)) else (if nI w' = (1 : Int32) then (some (nI q, X5)) else (some (X5.1 64 6, X5)))) := by
            rw [cx, v1, ob]
            simp only
            rw [if_neg (show ¬ (1 : Int32) = 0 by decide), show rF X5 64 4 = nI m from v2, show rF X5 64 5 = nI q from v3]
          rw [lo, ob, if_pos (inb_n (by omega) (by omega))] at re
          simp only at re
          have hc : w' = 0 ∨ w' = 1 ∨ w' = 2 := by omega
          rcases hc with rfl | rfl | rfl
          · exact Gd_of h (v := nI m) (by rw [cx5, if_pos (show nI 0 = (0 : Int32) from rfl)]) v4 (by rw [rx, a4, re, if_pos (show nI 0 = (0 : Int32) from rfl)]) (oR R' a6)
          · exact Gd_of h (v := nI q) (by rw [cx5, if_neg (by decide), if_pos (show nI 1 = (1 : Int32) from rfl)]) v4 (by rw [rx, a4, re, if_neg (by decide), if_pos (show nI 1 = (1 : Int32) from rfl)]) (oR R' a6)
          · rw [if_neg (by decide), if_neg (by decide)] at cx5 re
            by_cases m0 : m = 0
            · refine Gd_of h (v := 0) (by rw [cx5, v5 m0]) v4 ?_ (oR R' a6)
              rw [rx, a4, re, m0, R_hands_c143_eq, if_pos (by decide), if_pos (show nI 0 = (0 : Int32) from rfl)]
            · obtain ⟨f, -, f2, f3⟩ := v6 (by omega)
              refine Gd_of h (v := nI f) (by rw [cx5, f2]) v4 ?_ (oR R' a6)
              rw [rx, a4, re, show nI m - (1 : Int32) = nI (m - 1) from pk_sub (a := m) (b := 1) (by omega)]
              exact f3
