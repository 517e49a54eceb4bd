/-! The tape. -/
theorem b_ushr (n : Nat) (hn : n < 32) (x : Int32) {i : Nat} (hi : i < 32) : bt (((x).toUInt32 >>> ((nI n).toUInt32 &&& Int32.toUInt32 31)).toInt32) i = bt x (n + i) := by
  unfold bt
  show ((x.toUInt32 >>> ((nI n).toUInt32 &&& Int32.toUInt32 31)).toBitVec).getLsbD i = _
  rw [UInt32.toBitVec_shiftRight]
  show (x.toBitVec >>> (((nI n).toUInt32 &&& Int32.toUInt32 31).toBitVec % 32).toNat).getLsbD i = _
  rw [s_u n hn, BitVec.getLsbD_ushiftRight]
theorem by_eq (x : Int32) {n : Nat} (hn : n ≤ 24) : (((x).toUInt32 >>> ((nI n).toUInt32 &&& Int32.toUInt32 31)).toInt32 &&& (255 : Int32)) = ((x >>> (nI n &&& 31)) &&& (255 : Int32)) := by
  apply b_ext
  intro i hi
  rw [b_and, b_and, b_ushr n (by omega) x hi, b_sshr n (by omega) x hi]
  rcases Nat.lt_or_ge i 8 with q | q
  · rw [if_pos (by omega)]
  · have : bt (255 : Int32) i = false := (low_of (k := 255) (n := 8) (by omega) (by decide)) i q
    rw [this, Bool.and_false, Bool.and_false]
theorem by_n (x : Int32) : ∃ b, b < 256 ∧ (x &&& (255 : Int32)) = nI b := low_nI (n := 8) (by omega) (low_and2 (low_of (k := 255) (n := 8) (by omega) (by decide)))
def Tq (len : Nat) (X R : pS) : Prop := ∃ (b : Nat → Nat), X.1 46 4 = nI len ∧ R.1 0 12 = nI len ∧ ∀ i, i < len → b i < 256 ∧ X.2.1 47 i = nI (b i) ∧ R.2.1 8 i = nI (b i)
abbrev FT : List (Nat × Nat) := [(46, 4)]
abbrev GT : List (Nat × Nat) := [(0, 0), (0, 12)]
theorem ap_1 {len : Nat} {X R : pS} (h : Tq len X R) (hl : len < 400) (y : Nat) (hy : y < 256) : Tq (len + 1) (wF (wA X 47 (nI len) (nI y)) 46 4 (nI (len + 1))) (wF (wA R 8 (nI len) (nI y)) 0 12 (nI (len + 1))) := by
  obtain ⟨b, h1, h2, h3⟩ := h
  refine ⟨fun i => if i = len then y else b i, by rw [wF_1, sA_eq, upd_eq], by rw [wF_1, sA_eq, upd_eq], fun i hi => ?_⟩
  rw [wF_2, wF_2, wA_21 (by omega), wA_21 (by omega), sA_eq, sA_eq]
  by_cases e : i = len
  · subst e
    rw [upd_eq, upd_eq]
    simp only [if_true]
    exact ⟨hy, trivial, trivial⟩
  · rw [upd_ne e, upd_ne e]
    simp only [e, if_false]
    exact h3 i (by omega)
theorem ap_lp (x : Int32) : ∀ k, k ≤ 4 → ∀ (len : Nat) (X R : pS), Tq len X R → len + k ≤ 400 → ∃ X' R', Ta_append_46_c3 x (nI (8 * k) - 8) X = some (0, X') ∧ R_types_c3 x (nI (8 * k) - 8) R = some (0, R') ∧ Tq (len + k) X' R' ∧ Off FT [47] X X' ∧ Off GT [8] R R' := by
  intro k
  induction k with
  | zero =>
    intro _ len X R h _
    refine ⟨X, R, ?_, ?_, h, Off.rf, Off.rf⟩
    · rw [Ta_append_46_c3_eq, if_pos (by decide)]
    · rw [R_types_c3_eq, if_pos (by decide)]
  | succ k ih =>
    intro hk len X R h hl
    have hs : nI (8 * (k + 1)) - (8 : Int32) = nI (8 * k) := by
      rw [show (8 : Int32) = nI 8 from rfl, nI_subE (by omega)]; congr 1
    have hm : nI (8 * k) + (-8 : Int32) = nI (8 * k) - 8 := by rw [Int32.sub_eq_add_neg]
    obtain ⟨y, hy, ey⟩ := by_n (x >>> (nI (8 * k) &&& 31))
    obtain ⟨X', R', a1, a2, a3, a4, a5⟩ := ih (by omega) (len + 1) _ _ (ap_1 h (by omega) y hy) (by omega)
    obtain ⟨b, h1, h2, h3⟩ := h
    refine ⟨X', R', ?_, ?_, by rw [show len + (k + 1) = len + 1 + k from by omega]; exact a3, ((Off.rf.wA (by decide)).wF (by decide)).tr a4, ((Off.rf.wA (by decide)).wF (by decide)).tr a5⟩
    · rw [Ta_append_46_c3_eq, hs, if_neg (nI_pos (by omega)), show Ta_hasRoom_46 (1 : Int32) X = some (1, X) by rw [Ta_hasRoom_46_eq, show rF X 46 4 = nI len from h1, nI_1, if_pos (by rw [show (400 : Int32) = nI 400 from rfl, nI_leE (by omega) (by omega)]; omega)], ob, if_neg (show ¬ (1 : Int32) = 0 by decide)]
      simp only
      rw [show rF X 46 4 = nI len from h1, if_pos (inb_n (by omega) (by omega)), by_eq x (by omega), ey, show nI len + (1 : Int32) = nI (len + 1) from nI_1 len, hm]
      exact a1
    · rw [R_types_c3_eq, hs, if_neg (nI_pos (by omega)), show rF R 0 12 = nI len from h2, if_pos (inb_n (by omega) (by omega)), ey, show nI len + (1 : Int32) = nI (len + 1) from nI_1 len, hm]
      exact a2
theorem ap (x : Int32) {len : Nat} {X R : pS} (h : Tq len X R) (hl : len + 4 ≤ 400) : ∃ X' R', Ta_append_46 x X = some (0, X') ∧ R_types x R = some (0, R') ∧ Tq (len + 4) X' R' ∧ Off FT [47] X X' ∧ Off GT [8] R R' := by
  obtain ⟨X', R', a1, a2, a3⟩ := ap_lp x 4 (by omega) len X R h hl
  exact ⟨X', R', by rw [Ta_append_46_eq]; exact a1, by rw [R_types_eq]; exact a2, a3⟩
/-- only the tape is changed -/
theorem tapI {X X' R R' : pS} {len : Nat} (h : INV X R) (hx : Off FT [47] X X') (hr : Off GT [8] R R') (hl : len ≤ 400) (ht : Tq len X' R') : INV X' R' := by
  obtain ⟨a, b, c, d, n, D, B, L, T, e1, e2, e3, e4⟩ := h
  refine ⟨ConX_off a hx (by decide), ConR_off b hr (by decide) (by decide), Img_off c hx hr (by decide) (fun o a h => by simp; omega) (fun o h1 h2 => by simp; omega) (by decide) (by decide), ⟨?_, ?_, ?_⟩, n, D, B, L, T, e1, ?_, ?_, Hst_off e4 hx hr (by decide) (fun o a h1 h2 => by simp; omega) (fun o h1 h2 => by simp; omega) (by decide) (by decide)⟩
  · obtain ⟨b, h1, h2, h3⟩ := ht
    exact ⟨len, b, hl, h1, h2, h3⟩
  · rw [hx.1 _ _ (by decide), hr.1 _ _ (by decide)]; exact d.2.1
  · rw [hx.1 _ _ (by decide), hr.1 _ _ (by decide)]; exact d.2.2
  · obtain ⟨a, b, c, d⟩ := e2
    exact ⟨XD_off a hx (fun i h1 h2 => by simp) (by decide), XB_off b hx (by decide) (by decide), XL_off c hx (by decide) (by decide) (by decide) (by decide) (by decide) (by decide) (by decide), XT_off d hx (by decide) (by decide) (by decide) (by decide) (by decide) (by decide) (by decide) (by decide) (by decide) (by decide) (by decide) (by decide) (by decide)⟩
  · obtain ⟨a, b, c, d⟩ := e3
    exact ⟨RDm_off a hr (by decide) (by decide) (by decide) (by decide) (by decide), RB_off b hr (by decide) (by decide), RLm_off c hr (fun i a b => by simp; omega), RTm_off d hr (by decide) (by decide)⟩
theorem Tq_of {X R : pS} (h : INV X R) : ∃ len, len ≤ 400 ∧ Tq len X R := by
  obtain ⟨_, _, _, ⟨⟨len, b, h1, h2⟩, _⟩, _⟩ := h
  exact ⟨len, h1, b, h2⟩
theorem q_end {X R : pS} (a : Int32) (h : INV X R) : Gd (C_end a) (R_end a) X R := by
  obtain ⟨len, hl, b, t1, t2, t3⟩ := Tq_of h
  have i1 : R_isIn a 0 (nI len) (wF R 0 0 0) = some (b2i (inr a (len + 1)), wF R 0 0 0) := by
    have := isIn_s a (len + 1) (by omega) (S := wF R 0 0 0)
    rw [nI_pred] at this
    exact this
  cases e : inr a (len + 1)
  · refine Gd_of h (v := 0) ?_ Off.rf ?_ told0
    · rw [C_end_eq, show rF X 46 4 = nI len from t1]
      by_cases q : a < 0
      · rw [if_pos q]
      · rw [if_neg q, if_neg]
        intro q2
        rcases i3 a (len + 1) (by omega) with z | z | ⟨j, hj, z⟩
        · exact q z
        · rw [fa_le, nI_toInt (by omega)] at z q2; omega
        · rw [z, inr_n hj (by omega)] at e; cases e
    · rw [R_end_eq, show rF R 0 12 = nI len from t2, i1, ob, e]; rfl
  · obtain ⟨j, hj, rfl⟩ := inr_t (by omega) e
    refine ⟨1, wF X 46 4 (nI j), wF (wF R 0 0 0) 0 12 (nI j), ?_, ?_, ?_⟩
    · rw [C_end_eq, show rF X 46 4 = nI len from t1, if_neg (nI_pos (by omega)), if_pos (by rw [nI_leE (by omega) (by omega)]; omega)]
    · rw [R_end_eq, show rF R 0 12 = nI len from t2, i1, ob, e]
      simp only [b2t, if_false]
    · exact tapI h (Off.rf.wF (by decide)) ((Off.rf.wF (by decide)).wF (by decide)) (show j ≤ 400 by omega) ⟨b, by rw [wF_1, sA_eq, upd_eq], by rw [wF_1, sA_eq, upd_eq], fun i hi => t3 i (by omega)⟩
theorem q_feed {X R : pS} (a b c d e : Int32) (h : INV X R) : Gd (C_feed a b c d e) (R_feed a b c d e) X R := by
  obtain ⟨len, hl, t⟩ := Tq_of h
  have t' := t
  obtain ⟨bb, t1, t2, t3⟩ := t'
  by_cases q : len ≤ 380
  · have t0 : Tq len X (wF R 0 0 0) := ⟨bb, t1, by rw [wF_1, sA_eq, upd_ne (by decide)]; exact t2, t3⟩
    obtain ⟨X1, R1, a1, b1, c1, d1, e1⟩ := ap a t0 (by omega)
    obtain ⟨X2, R2, a2, b2, c2, d2, e2⟩ := ap b c1 (by omega)
    obtain ⟨X3, R3, a3, b3, c3, d3, e3⟩ := ap c c2 (by omega)
    obtain ⟨X4, R4, a4, b4, c4, d4, e4⟩ := ap d c3 (by omega)
    obtain ⟨X5, R5, a5, b5, c5, d5, e5⟩ := ap e c4 (by omega)
    have c5' := c5
    obtain ⟨_, g1, g2, _⟩ := c5'
    refine ⟨nI (len + 4 + 4 + 4 + 4 + 4), X5, R5, ?_, ?_, tapI h ((((d1.tr d2).tr d3).tr d4).tr d5) ((((((Off.rf.wF (by decide)).tr e1).tr e2).tr e3).tr e4).tr e5) (by omega) c5⟩
    · rw [C_feed_eq, Ta_hasRoom_46_eq, show rF X 46 4 = nI len from t1, show nI len + (20 : Int32) = nI (len + 20) from nI_add len 20, if_pos (show nI (len + 20) ≤ (400 : Int32) by rw [show (400 : Int32) = nI 400 from rfl, nI_leE (by omega) (by omega)]; omega), ob, if_neg (show ¬ (1 : Int32) = 0 by decide), a1, ob, a2, ob, a3, ob, a4, ob, a5, ob, show rF X5 46 4 = _ from g1]
    · rw [R_feed_eq, show rF R 0 12 = nI len from t2, if_pos (show nI len ≤ (380 : Int32) by rw [show (380 : Int32) = nI 380 from rfl, nI_leE (by omega) (by omega)]; omega), b1, ob, b2, ob, b3, ob, b4, ob, b5, ob, show rF R5 0 12 = _ from g2]
  · refine Gd_of h (v := -1) ?_ Off.rf ?_ told0
    · rw [C_feed_eq, Ta_hasRoom_46_eq, show rF X 46 4 = nI len from t1, show nI len + (20 : Int32) = nI (len + 20) from nI_add len 20, if_neg (show ¬ nI (len + 20) ≤ (400 : Int32) by rw [show (400 : Int32) = nI 400 from rfl, nI_leE (by omega) (by omega)]; omega), ob, if_pos rfl]
    · rw [R_feed_eq, show rF R 0 12 = nI len from t2, if_neg (show ¬ nI len ≤ (380 : Int32) by rw [show (380 : Int32) = nI 380 from rfl, nI_leE (by omega) (by omega)]; omega)]
