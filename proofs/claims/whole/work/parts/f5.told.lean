/-! Undo; what is told; the tape. -/
theorem q_undo {X R : pS} (h : INV X R) : Gd C_undo R_undo X R := by
  obtain ⟨hcx, hcr, him, htp, n, D, B, L, T, hw, hX, hR, hH⟩ := id h
  have hn := hw.1.1
  obtain ⟨hp, k, Hd, Hb, a1, a2, a3, am, a4⟩ := id hH
  by_cases e : k = 0
  · subst e
    refine Gd_of h (v := 0) (X' := X) ?_ Off.rf ?_ told0
    · rw [C_undo_eq, Hi_goBack_31_1_23_eq, show rF X 31 2 = nI 0 from a2, if_pos (show nI 0 = (0 : Int32) from rfl), ob, if_pos (show pBool 1 0 = true from rfl)]
    · rw [R_undo_eq, show rF R 0 3 = nI 0 from a3, if_pos (show nI 0 = (0 : Int32) from rfl)]
  · obtain ⟨⟨j, b1, b2⟩, b3, b4, b5, b6, b7⟩ := a4 (k - 1) (by omega)
    obtain ⟨j', b8, b9⟩ := hp.1 (k - 1) (by omega)
    have : j' = j := by rw [b1] at b8; cases b8; rfl
    subst this
    have hjr := hj_r b9
    obtain ⟨g1, g2⟩ := cp_from b9 (wF X 31 2 (nI (k - 1)))
    have ek : nI k - (1 : Int32) = nI (k - 1) := pk_sub (a := k) (b := 1) (by omega)
    obtain ⟨X1, hX1⟩ : ∃ X1, X1 = cpS 1 j' (wF X 31 2 (nI (k - 1))) := ⟨_, rfl⟩
    have f1 : ∀ i x, X1.1 i x = if i = 1 ∧ 1 ≤ x ∧ x < 8 then (wF X 31 2 (nI (k - 1))).1 j' x else (wF X 31 2 (nI (k - 1))).1 i x := fun i x => by rw [hX1, cp_1f]
    have f31 : X1.1 31 2 = nI (k - 1) := by rw [f1, if_neg (by omega), wF_1, sA_eq, upd_eq]
    have f33 : X1.2.1 33 = X.2.1 33 := by rw [hX1, cp_2, if_neg (by decide)]; rfl
    have cx : C_undo X = some (1, wF X1 23 2 (nI (Hb (k - 1)))) := by
      rw [C_undo_eq, Hi_goBack_31_1_23_eq, show rF X 31 2 = nI k from a2, if_neg (nI_z e (by omega)), ek, if_pos (inb_n (by omega) (by omega)), nI_clamp (by omega), show (wF X 31 2 (nI (k - 1))).2.2 32 (k - 1) = some j' from b1, ob, if_pos g2, g1, ob, ← hX1]
      simp only
      rw [show rF X1 31 2 = nI (k - 1) from f31, if_pos (inb_n (by omega) (by omega)), ob, rA_n (by omega), f33, b3, if_pos (show pBool 1 1 = true from rfl)]
    -- the reference
    obtain ⟨R0, hR0⟩ : ∃ R0, R0 = wF (wF R 0 0 0) 0 3 (nI (k - 1)) := ⟨_, rfl⟩
    have o0 : Off [(0, 0), (0, 3)] [1] R R0 := by rw [hR0]; exact (Off.rf.wF (by decide)).wF (by decide)
    have go : ∀ m x (S : pS), x + m = 76 → (∀ i, i < x → S.2.1 1 i = R.2.1 2 (76 * (k - 1) + i)) → S.1 0 3 = nI (k - 1) → Off [(0, 0), (0, 3)] [1] R S → ∃ S', R_undo_c26 (nI x) S = some (1, S') ∧ (∀ i, i < 76 → S'.2.1 1 i = R.2.1 2 (76 * (k - 1) + i)) ∧ S'.1 0 3 = nI (k - 1) ∧ Off [(0, 0), (0, 3)] [1] R S' := by
      intro m
      induction m with
      | zero =>
        intro x S hx h1 h2 h3
        have : x = 76 := by omega
        subst this
        exact ⟨S, by rw [R_undo_c26_eq, if_neg (by decide)], h1, h2, h3⟩
      | succ m ih =>
        intro x S hx h1 h2 h3
        rw [R_undo_c26_eq, if_pos (show nI x < (76 : Int32) from nlt_t (n := 76) (by omega) (by omega)), show rF S 0 3 = nI (k - 1) from h2, show (76 : Int32) = nI 76 from rfl, pk_mul, nI_add, if_pos (inb_n (by omega) (by omega)), if_pos (inb_n (by omega) (by omega)), rA_n (by omega), h3.2.1 2 (by decide), nI_1]
        refine ih (x + 1) _ (by omega) (fun i hi => ?_) h2 (h3.wA (by decide))
        rw [wA_21 (by omega), sA_eq, upd_at]
        by_cases q : i = x
        · rw [if_pos q, q]
        · rw [if_neg q]; exact h1 i (by omega)
    obtain ⟨R', r1, r2, r3, r4⟩ := go 76 0 R0 rfl (fun i hi => by omega) (by rw [hR0, wF_1, sA_eq, upd_eq]) o0
    have rx : R_undo R = some (1, R') := by
      rw [R_undo_eq, show rF R 0 3 = nI k from a3, if_neg (nI_z e (by omega)), ek, ← hR0]
      exact r1
    have hne : j' ≠ 1 := by omega
    have keepF : ∀ i x, (i, x) ∉ [(31, 2), (23, 2), (1, 1), (1, 2), (1, 3), (1, 4), (1, 5), (1, 6), (1, 7)] → (wF X1 23 2 (nI (Hb (k - 1)))).1 i x = X.1 i x := by
      intro i x q
      have q1 : ¬ (i = 31 ∧ x = 2) := fun z => q (by rw [z.1, z.2]; decide)
      have q2 : ¬ (i = 23 ∧ x = 2) := fun z => q (by rw [z.1, z.2]; decide)
      have q3 : ¬ (i = 1 ∧ 1 ≤ x ∧ x < 8) := by
        rintro ⟨rfl, h1, h2⟩
        apply q
        have hx : x = 1 ∨ x = 2 ∨ x = 3 ∨ x = 4 ∨ x = 5 ∨ x = 6 ∨ x = 7 := by omega
        rcases hx with rfl | rfl | rfl | rfl | rfl | rfl | rfl <;> decide
      rw [wF_1, sA_row]
      by_cases z : i = 23
      · subst z
        rw [if_pos rfl, upd_ne (fun z => q2 ⟨rfl, z⟩), f1, if_neg q3, wF_1, sA_ne (by decide)]
      · rw [if_neg z, f1, if_neg q3, wF_1, sA_row]
        by_cases z2 : i = 31
        · subst z2
          rw [if_pos rfl, upd_ne (fun z => q1 ⟨rfl, z⟩)]
        · rw [if_neg z2]
    have keepW : ∀ i, i ≠ 2 → (wF X1 23 2 (nI (Hb (k - 1)))).2.1 i = X.2.1 i := by
      intro i q
      rw [wF_2, hX1, cp_2, if_neg (by omega)]; rfl
    refine ⟨1, _, R', cx, rx, ?_⟩
    refine INV_dr hcx hcr him htp ⟨fun i x q => keepF i x ((by decide : ∀ y ∈ KXF, y ∉ [(31, 2), (23, 2), (1, 1), (1, 2), (1, 3), (1, 4), (1, 5), (1, 6), (1, 7)]) _ q), fun i q => keepW i (fun z => by rw [z] at q; revert q; decide)⟩ (kpR_of r4 (by decide) (by decide)) (by rw [r4.1 0 5 (by decide)]; exact hcr.1) hX.2.2.1 hX.2.2.2 hR.2.2.1 hR.2.2.2 (n := n) (D := Hd (k - 1)) (B := (Hb (k - 1), B.2)) ⟨b5, by show Hb (k - 1) ≤ 150; have := hw.2.1; omega, hw.2.2⟩ ?_ ⟨?_, ?_⟩ ⟨?_, ?_⟩ ⟨?_, ?_⟩ ⟨?_, k - 1, Hd, Hb, by omega, ?_, r3, fun i i' q1 q2 => am i i' q1 (by omega), fun i hi => ?_⟩
    · have hx : XD 1 (Hd (k - 1)) X1 := by
        rw [hX1]
        refine XD_cp ⟨b2.1, fun i h1 h2 => ?_⟩
        rw [wF_1, sA_ne (by omega)]; exact b2.2 i h1 h2
      refine ⟨hx.1, fun i h1 h2 => ?_⟩
      rw [wF_1, sA_ne (by decide)]; exact hx.2 i h1 h2
    · rw [wF_1, sA_eq, upd_eq]
    · intro i hi
      rw [keepW 24 (by decide)]
      exact hX.2.1.2 i (by have hi : i < 4 * Hb (k - 1) := hi; omega)
    · rw [r4.2.1 4 (by decide), r4.2.1 5 (by decide), r4.2.1 6 (by decide)]
      exact RD_cong b6 hn (fun x hx => r2 x hx)
    · rw [r4.1 0 6 (by decide)]; exact hR.1.2
    · rw [r2 2 (by omega)]; exact b7
    · intro i hi
      rw [r4.2.1 7 (by decide)]
      exact hR.2.1.2 i (by have hi : i < 4 * Hb (k - 1) := hi; omega)
    · unfold Prm at *
      rw [show (wF X1 23 2 (nI (Hb (k - 1)))).2.2 = X.2.2 from by rw [hX1]; rfl]
      exact hp
    · rw [wF_1, sA_ne (by decide)]; exact f31
    · obtain ⟨⟨jj, c1, c2⟩, c3, c4, c5, c6, c7⟩ := a4 i (by omega)
      obtain ⟨jj', c8, c9⟩ := hp.1 i (by omega)
      have : jj' = jj := by rw [c1] at c8; cases c8; rfl
      subst this
      have hjr2 := hj_r c9
      refine ⟨⟨jj', by rw [hX1]; exact c1, ⟨fun r c hr hc => by rw [keepW _ (by omega)]; exact c2.1 r c hr hc, fun x h1 h2 => ?_⟩⟩, by rw [keepW 33 (by decide)]; exact c3, am i (k - 1) (by omega) (by omega), c5, ?_, ?_⟩
      · rw [keepF jj' x (by simp; omega)]; exact c2.2 x h1 h2
      · rw [r4.2.1 2 (by decide), r4.2.1 4 (by decide), r4.2.1 5 (by decide), r4.2.1 6 (by decide)]; exact c6
      · rw [r4.2.1 2 (by decide)]; exact c7
/-- a telling of the drawer: nothing can be undone then -/
theorem forgI {X R X1 R1 : pS} {n n' : Nat} {D D' : tD} {B : tB} {L T : tL} (hcx : ConX X) (hcr : ConR R) (him : Img X R) (htp : Tap X R) (hX : XA D B L T X) (hR : RA n D B L T R) (hH : Hst n B X R) (hw : Wf n' D' B L T) (ox : Off [(1, 1), (1, 2), (1, 3), (1, 4), (1, 5), (1, 6), (1, 7), (31, 2)] [2] X X1) (xd : XD 1 D' X1) (h31 : X1.1 31 2 = 0) (orr : Off [(0, 0), (0, 3), (0, 6)] [1, 4, 5, 6] R R1) (rd : RDm n' D' R1) (h03 : R1.1 0 3 = 0) (h2 : R1.2.1 1 2 = R.2.1 1 2) : INV X1 R1 := by
  refine INV_dr hcx hcr him htp (kpX_of ox (by decide) (by decide)) (kpR_of orr (by decide) (by decide)) (by rw [orr.1 0 5 (by decide)]; exact hcr.1) hX.2.2.1 hX.2.2.2 hR.2.2.1 hR.2.2.2 hw xd (XB_off hX.2.1 ox (by decide) (by decide)) rd ⟨by rw [h2]; exact hR.2.1.1, by rw [orr.2.1 7 (by decide)]; exact hR.2.1.2⟩ (Hst_0 ?_ h31 h03)
  have hp := hH.1
  unfold Prm at *
  rw [ox.2.2]
  exact hp
theorem q_state {X R : pS} (a : Int32) (h : INV X R) : Gd (C_state a) (R_state a) X R := by
  obtain ⟨hcx, hcr, him, htp, n, D, B, L, T, hw, hX, hR, hH⟩ := id h
  refine ⟨D 7 7, wF (wF X 1 7 a) 31 2 0, wF (wA (wF R 0 0 0) 1 (nI 1) a) 0 3 0, ?_, ?_, ?_⟩
  · rw [C_state_eq, Hi_forget_31_eq, ob, show rF X 1 7 = D 7 7 from hX.1.2 7 (by omega) (by omega)]
  · rw [R_state_eq, show rA R 1 (1 : Int32) = D 7 7 from hR.1.1.2.2.2.1]; rfl
  · refine forgI (n' := n) (D' := sA D 7 7 a) hcx hcr him htp hX hR hH ⟨WD_up hw.1 (by omega) (by omega), hw.2⟩ ((Off.rf.wF (by decide)).wF (by decide)) ⟨(XD_f hX.1).1, fun i h1 h2 => by rw [wF_1, sA_ne (by decide)]; exact (XD_f (v := a) (i := 7) hX.1).2 i h1 h2⟩ (by rw [wF_1, sA_eq, upd_eq]) (((Off.rf.wF (by decide)).wA (by decide)).wF (by decide)) ⟨?_, ?_⟩ (by rw [wF_1, sA_eq, upd_eq]) ?_
    · rw [wF_2, wA_21 (by omega), sA_eq, sA_ne (by decide), sA_ne (by decide), sA_ne (by decide)]
      exact RD_sc hR.1.1 (by omega)
    · rw [wF_1, sA_eq, upd_ne (by decide)]; exact hR.1.2
    · rw [wF_2, wA_21 (by omega), sA_eq, upd_ne (by decide)]; rfl
theorem q_set {X R : pS} (a b c : Int32) (h : INV X R) : Gd (C_set a b c) (R_set a b c) X R := by
  obtain ⟨hcx, hcr, him, htp, n, D, B, L, T, hw, hX, hR, hH⟩ := id h
  have hn := hw.1.1
  have hR0 := RA_off hR told0
  have w1 : C_within c (100 : Int32) X = _ := within_s c 100 (S := X)
  have w2 := has1_s b hw.1 hX.1
  have i1 : R_isIn a (0 : Int32) (2 : Int32) (wF R 0 0 0) = _ := isIn_s a 3 (by omega)
  have i2 : R_isIn c (0 : Int32) (99 : Int32) (wF R 0 0 0) = _ := isIn_s c 100 (by omega)
  have i3 := isCard_s b hR0.1
  have cs : C_set a b c X = C_set_c13 a b c (100 : Int32) c X := by
    rw [C_set_eq]
    by_cases q : a = 2
    · rw [if_pos q]
    · rw [if_neg q]
  have f0 : R_set a b c R = some (0, wF R 0 0 0) → C_set a b c X = some (0, X) → Gd (C_set a b c) (R_set a b c) X R := fun h1 h2 => Gd_of h h2 Off.rf h1 told0
  cases e1 : inr c 100
  · rw [e1] at w1 i2
    refine f0 ?_ ?_
    · rw [R_set_eq, i1, ob]
      cases inr a 3
      · rfl
      · simp only [b2t, if_false, i2, ob, b2f, if_true]
    · rw [cs, C_set_c13_eq, w1, ob]; rfl
  · rw [e1] at w1 i2
    cases e2 : inr a 3
    · rw [e2] at i1
      have nb : ∀ k, k < 3 → ¬ a = nI k := fun k hk q => by rw [q, inr_n hk (by omega)] at e2; cases e2
      refine f0 (by rw [R_set_eq, i1, ob]; rfl) ?_
      rw [cs, C_set_c13_eq, w1, ob]
      simp only [b2t, if_false]
      rw [if_neg (show ¬ a = (0 : Int32) from nb 0 (by omega)), if_neg (show ¬ a = (1 : Int32) from nb 1 (by omega)), if_neg (show ¬ a = (2 : Int32) from nb 2 (by omega))]
    · rw [e2] at i1
      obtain ⟨a', ha', rfl⟩ := inr_t (by omega) e2
      -- a row of a card
      have row : ∀ r bs', ((r = 3 ∧ bs' = 6) ∨ (r = 5 ∧ bs' = 20)) → ∀ x, x < n → INV (wF (wA X 2 (nI (r * 14 + x)) c) 31 2 0) (wF (wA (wF R 0 0 0) 1 (nI (bs' + x)) c) 0 3 0) := by
        intro r bs' hr x hx
        refine forgI (n' := n) (D' := sA D r x c) hcx hcr him htp hX hR hH ⟨WD_up hw.1 (by omega) (by omega), hw.2⟩ ((Off.rf.wA (by decide)).wF (by decide)) ⟨fun r' c' hr' hc' => by rw [wF_2]; exact (XD_row (o := 1) hX.1 (by omega) (by omega)).1 r' c' hr' hc', fun i h1 h2 => by rw [wF_1, sA_ne (by decide)]; exact (XD_row (o := 1) (r := r) (c := x) (v := c) hX.1 (by omega) (by omega)).2 i h1 h2⟩ (by rw [wF_1, sA_eq, upd_eq]) (((Off.rf.wF (by decide)).wA (by decide)).wF (by decide)) ⟨?_, ?_⟩ (by rw [wF_1, sA_eq, upd_eq]) ?_
        · rw [wF_2, wA_21 (by omega), sA_eq, sA_ne (by decide), sA_ne (by decide), sA_ne (by decide)]
          exact RD_row hR.1.1 (by omega) (by omega) hn
        · rw [wF_1, sA_eq, upd_ne (by decide)]; exact hR.1.2
        · rw [wF_2, wA_21 (by omega), sA_eq, upd_ne (by omega)]; rfl
      have hc3 : a' = 0 ∨ a' = 1 ∨ a' = 2 := by omega
      rcases hc3 with rfl | rfl | rfl
      · refine ⟨1, wF (wF X 1 3 c) 31 2 0, wF (wA (wF R 0 0 0) 1 (nI 0) c) 0 3 0, ?_, ?_, ?_⟩
        · rw [cs, C_set_c13_eq, w1, ob]
          simp only [b2t, if_false]
          rw [if_pos (show nI 0 = (0 : Int32) from rfl), C_set_c81_eq, Hi_forget_31_eq]; rfl
        · rw [R_set_eq, i1, ob]
          simp only [b2t, if_false, i2, ob]
          rw [if_pos (show nI 0 ≤ 0 by decide), R_set_c40_eq, if_pos (show nI 0 = (0 : Int32) from rfl), R_set_c51_eq, if_neg (by decide), R_set_c66_eq, if_neg (by decide), R_set_c81_eq]; rfl
        · refine forgI (n' := n) (D' := sA D 7 3 c) hcx hcr him htp hX hR hH ⟨WD_up hw.1 (by omega) (by omega), hw.2⟩ ((Off.rf.wF (by decide)).wF (by decide)) ⟨(XD_f hX.1).1, fun i h1 h2 => by rw [wF_1, sA_ne (by decide)]; exact (XD_f (v := c) (i := 3) hX.1).2 i h1 h2⟩ (by rw [wF_1, sA_eq, upd_eq]) (((Off.rf.wF (by decide)).wA (by decide)).wF (by decide)) ⟨?_, ?_⟩ (by rw [wF_1, sA_eq, upd_eq]) ?_
          · rw [wF_2, wA_21 (by omega), sA_eq, sA_ne (by decide), sA_ne (by decide), sA_ne (by decide)]
            exact RD_sc hR.1.1 (by omega)
          · rw [wF_1, sA_eq, upd_ne (by decide)]; exact hR.1.2
          · rw [wF_2, wA_21 (by omega), sA_eq, upd_ne (by decide)]; rfl
      · cases e3 : inr b n
        · rw [e3] at w2 i3
          refine f0 ?_ ?_
          · rw [R_set_eq, i1, ob]
            simp only [b2t, if_false, i2, ob]
            rw [if_neg (by decide), i3, ob]; rfl
          · rw [cs, C_set_c13_eq, w1, ob]
            simp only [b2t, if_false]
            rw [if_neg (by decide), if_pos (show nI 1 = (1 : Int32) from rfl), C_set_c46_eq, w2]; rfl
        · rw [e3] at w2 i3
          obtain ⟨x, hx, rfl⟩ := inr_t (by omega) e3
          refine ⟨1, _, _, ?_, ?_, row 3 6 (by omega) x hx⟩
          · rw [cs, C_set_c13_eq, w1, ob]
            simp only [b2t, if_false]
            rw [if_neg (by decide), if_pos (show nI 1 = (1 : Int32) from rfl), C_set_c46_eq, w2, ob]
            simp only [b2t, if_false]
            rw [if_pos (show nI 1 = (1 : Int32) from rfl), show Dr_write_1 (nI x) (3 : Int32) c X = _ from write_1 (r := 3) (by omega) (by omega), ob, C_set_c81_eq, Hi_forget_31_eq]; rfl
          · rw [R_set_eq, i1, ob]
            simp only [b2t, if_false, i2, ob]
            rw [if_neg (by decide), i3, ob]
            simp only [b2t, if_false]
            rw [R_set_c40_eq, if_neg (by decide), R_set_c51_eq, if_pos (show nI 1 = (1 : Int32) from rfl), show (6 : Int32) = nI 6 from rfl, nI_add, if_pos (inb_n (by omega) (by omega)), R_set_c66_eq, if_neg (by decide), R_set_c81_eq]
      · cases e3 : inr b n
        · rw [e3] at w2 i3
          refine f0 ?_ ?_
          · rw [R_set_eq, i1, ob]
            simp only [b2t, if_false, i2, ob]
            rw [if_neg (by decide), i3, ob]; rfl
          · rw [cs, C_set_c13_eq, w1, ob]
            simp only [b2t, if_false]
            rw [if_neg (by decide), if_neg (by decide), if_pos (show nI 2 = (2 : Int32) from rfl), C_set_c46_eq, w2]; rfl
        · rw [e3] at w2 i3
          obtain ⟨x, hx, rfl⟩ := inr_t (by omega) e3
          refine ⟨1, _, _, ?_, ?_, row 5 20 (by omega) x hx⟩
          · rw [cs, C_set_c13_eq, w1, ob]
            simp only [b2t, if_false]
            rw [if_neg (by decide), if_neg (by decide), if_pos (show nI 2 = (2 : Int32) from rfl), C_set_c46_eq, w2, ob]
            simp only [b2t, if_false]
            rw [if_neg (by decide), show Dr_write_1 (nI x) (5 : Int32) c X = _ from write_1 (r := 5) (by omega) (by omega), ob, C_set_c81_eq, Hi_forget_31_eq]; rfl
          · rw [R_set_eq, i1, ob]
            simp only [b2t, if_false, i2, ob]
            rw [if_neg (by decide), i3, ob]
            simp only [b2t, if_false]
            rw [R_set_c40_eq, if_neg (by decide), R_set_c51_eq, if_neg (by decide), R_set_c66_eq, if_pos (show nI 2 = (2 : Int32) from rfl), show (20 : Int32) = nI 20 from rfl, nI_add, if_pos (inb_n (by omega) (by omega)), R_set_c81_eq]
