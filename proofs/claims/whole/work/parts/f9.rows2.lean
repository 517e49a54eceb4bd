/-! Ahead, asked, noted: the calls. -/
theorem WT_c3 {n : Nat} {T : tL} (h : WT n T) : WT n (clrT 3 T) := ⟨h.1, h.2.1, h.2.2.1, h.2.2.2.1, ⟨Nat.zero_le _, fun i hi => absurd hi (Nat.not_lt_zero i)⟩, h.2.2.2.2.2.1, h.2.2.2.2.2.2⟩
theorem WT_c4 {n : Nat} {T : tL} (h : WT n T) : WT n (clrT 4 T) := ⟨h.1, h.2.1, h.2.2.1, h.2.2.2.1, h.2.2.2.2.1, ⟨Nat.zero_le _, fun i hi => absurd hi (Nat.not_lt_zero i)⟩, h.2.2.2.2.2.2⟩
theorem WT_c5 {n : Nat} {T : tL} (h : WT n T) : WT n (clrT 5 T) := ⟨h.1, h.2.1, h.2.2.1, h.2.2.2.1, h.2.2.2.2.1, h.2.2.2.2.2.1, ⟨Nat.zero_le _, fun i hi => absurd hi (Nat.not_lt_zero i)⟩⟩
theorem WT_a3 {n m x y z : Nat} {T : tL} (h : WT n T) (hm : T 0 3 = m) (hl : m < 12) (hx : x < n) (hy : y < n) : WT n (addT 3 m 7 x y z T) := by
  refine ⟨h.1, h.2.1, h.2.2.1, h.2.2.2.1, ⟨hl, fun i hi => ?_⟩, h.2.2.2.2.2.1, h.2.2.2.2.2.2⟩
  have hi' : i < m + 1 := hi
  show (if i = m then x else T 7 i) < n ∧ (if i = m then y else T 8 i) < n
  by_cases e : i = m
  · rw [if_pos e, if_pos e]; exact ⟨hx, hy⟩
  · rw [if_neg e, if_neg e]; exact h.2.2.2.2.1.2 i (by omega)
theorem WT_a4 {n m x y z : Nat} {T : tL} (h : WT n T) (hm : T 0 4 = m) (hl : m < 10) (hx : x < 3) (hy : y < 12) : WT n (addT 4 m 9 x y z T) := by
  refine ⟨h.1, h.2.1, h.2.2.1, h.2.2.2.1, h.2.2.2.2.1, ⟨hl, fun i hi => ?_⟩, h.2.2.2.2.2.2⟩
  have hi' : i < m + 1 := hi
  show (if i = m then x else T 9 i) < 3 ∧ (if i = m then y else T 10 i) < 12
  by_cases e : i = m
  · rw [if_pos e, if_pos e]; exact ⟨hx, hy⟩
  · rw [if_neg e, if_neg e]; exact h.2.2.2.2.2.1.2 i (by omega)
theorem WT_a5 {n m x y z : Nat} {T : tL} (h : WT n T) (hm : T 0 5 = m) (hl : m < 8) (hx : x < 4) (hy : y < 12) (hz : z ≤ 1) : WT n (addT 5 m 11 x y z T) := by
  refine ⟨h.1, h.2.1, h.2.2.1, h.2.2.2.1, h.2.2.2.2.1, h.2.2.2.2.2.1, ⟨hl, fun i hi => ?_⟩⟩
  have hi' : i < m + 1 := hi
  show (if i = m then x else T 11 i) < 4 ∧ (if i = m then y else T 12 i) < 12 ∧ (if i = m then z else T 13 i) ≤ 1
  by_cases e : i = m
  · rw [if_pos e, if_pos e, if_pos e]; exact ⟨hx, hy, hz⟩
  · rw [if_neg e, if_neg e, if_neg e]; exact h.2.2.2.2.2.2.2 i (by omega)
theorem q_ahead {X R : pS} (a b : Int32) (h : INV X R) : Gd (C_ahead a b) (R_ahead a b) X R := by
  obtain ⟨hcx, hcr, him, htp, n, D, B, L, T, hw, hX, hR, hH⟩ := id h
  have hn := hw.1.1
  have hR0 := RA_off hR told0
  by_cases e0 : a = (-1 : Int32)
  · refine ⟨0, wF X 17 2 0, wF (wF R 0 0 0) 0 43 0, ?_, ?_, tolI hcx hcr him htp hw hX hR hH (Off.rf.wF (by decide)) ((Off.rf.wF (by decide)).wF (by decide)) (WT_c3 hw.2.2.2) (clr_17 hX.2.2.2) (clrR_17 hR.2.2.2)⟩
    · rw [C_ahead_eq, if_pos e0, Ro_clear_17_eq, ob]
    · rw [R_ahead_eq, if_pos e0]
  have w1 := has1_s a hw.1 hX.1
  have w2 := has1_s b hw.1 hX.1
  have i1 := isCard_s a hR0.1
  have i2 := isCard_s b hR0.1
  have f0 : R_ahead a b R = some (-1, wF R 0 0 0) → C_ahead a b X = some (-1, X) → Gd (C_ahead a b) (R_ahead a b) X R := fun h1 h2 => Gd_of h h2 Off.rf h1 told0
  cases e1 : inr a n
  · rw [e1] at w1 i1
    exact f0 (by rw [R_ahead_eq, if_neg e0, i1, ob]; rfl) (by rw [C_ahead_eq, if_neg e0, w1, ob]; rfl)
  rw [e1] at w1 i1
  cases e2 : inr b n
  · rw [e2] at w2 i2
    refine f0 ?_ ?_
    · rw [R_ahead_eq, if_neg e0, i1, ob]
      simp only [b2t, if_false, i2, ob, b2f, if_true]
    · rw [C_ahead_eq, if_neg e0, w1, ob]
      simp only [b2t, if_false, w2, ob, b2f, if_true]
  rw [e2] at w2 i2
  obtain ⟨x, hx, rfl⟩ := inr_t (by omega) e1
  obtain ⟨y, hy, rfl⟩ := inr_t (by omega) e2
  obtain ⟨m, hm⟩ : ∃ m, m = T 0 3 := ⟨_, rfl⟩
  have hml : m ≤ 12 := by rw [hm]; exact hw.2.2.2.2.2.2.2.1.1
  have xm : X.1 17 2 = nI m := by rw [hm]; exact hX.2.2.2.2.2.2.2.2.1.1
  have rm : (wF R 0 0 0).1 0 43 = nI m := by rw [hm]; exact hR0.2.2.2.1.2.2.2.1
  have ad := add_17 (nI x) (nI y) (nI 0) xm hcx.2.2.2.2.2.1 hml
  have cE : C_ahead (nI x) (nI y) X = if nI x = nI y then some (-1, X) else Ro_add_17 (nI x) (nI y) (nI 0) 0 X := by
    rw [C_ahead_eq, if_neg e0, w1, ob]
    simp only [b2t, if_false, w2, ob]
    by_cases q : nI x = nI y
    · rw [if_pos q, if_pos q]
    · rw [if_neg q, if_neg q, show Ro_add_17 (nI x) (nI y) 0 0 X = _ from ad, ad]
      by_cases q2 : m < 12
      · rw [if_pos q2, ob]
      · rw [if_neg q2, ob]
  have rE : R_ahead (nI x) (nI y) R = if nI x = nI y then some (-1, wF R 0 0 0) else if m = 12 then some (-1, wF R 0 0 0) else some (nI (m + 1), wF (wA (wA (wF R 0 0 0) 24 (nI m) (nI x)) 25 (nI m) (nI y)) 0 43 (nI (m + 1))) := by
    rw [R_ahead_eq, if_neg e0, i1, ob]
    simp only [b2t, if_false, i2, ob]
    rw [show rF (wF R 0 0 0) 0 43 = nI m from rm]
    by_cases q : nI x = nI y
    · rw [if_pos q, if_pos q]
    · rw [if_neg q, if_neg q]
      by_cases q2 : m = 12
      · rw [if_pos q2, q2]; rfl
      · rw [if_neg q2, if_neg (show ¬ nI m = (12 : Int32) by rw [show (12 : Int32) = nI 12 from rfl, nI_eqE (by omega) (by omega)]; exact q2), if_pos (inb_n (by omega) (by omega)), if_pos (inb_n (by omega) (by omega)), show nI m + (1 : Int32) = nI (m + 1) from nI_add _ 1]
  by_cases q : nI x = nI y
  · exact f0 (by rw [rE, if_pos q]) (by rw [cE, if_pos q])
  · by_cases q2 : m = 12
    · exact f0 (by rw [rE, if_neg q, if_pos q2]) (by rw [cE, if_neg q, ad, if_neg (by omega)])
    · refine ⟨_, _, _, by rw [cE, if_neg q, ad, if_pos (show m < 12 by omega)], by rw [rE, if_neg q, if_neg q2], tolI hcx hcr him htp hw hX hR hH (((((Off.rf.wA (by decide)).wA (by decide)).wA (by decide)).wA (by decide)).wF (by decide)) ((((Off.rf.wF (by decide)).wA (by decide)).wA (by decide)).wF (by decide)) (WT_a3 (z := 0) hw.2.2.2 hm.symm (by omega) hx hy) (put_17 (z := 0) hX.2.2.2 hm.symm (by omega)) (putR_17 hR.2.2.2 hm.symm (by omega))⟩
theorem q_asks {X R : pS} (a b : Int32) (h : INV X R) : Gd (C_asks a b) (R_asks a b) X R := by
  obtain ⟨hcx, hcr, him, htp, n, D, B, L, T, hw, hX, hR, hH⟩ := id h
  have hn := hw.1.1
  have hR0 := RA_off hR told0
  by_cases e0 : a = (-1 : Int32)
  · refine ⟨0, wF X 19 2 0, wF (wF R 0 0 0) 0 49 0, ?_, ?_, tolI hcx hcr him htp hw hX hR hH (Off.rf.wF (by decide)) ((Off.rf.wF (by decide)).wF (by decide)) (WT_c4 hw.2.2.2) (clr_19 hX.2.2.2) (clrR_19 hR.2.2.2)⟩
    · rw [C_asks_eq, if_pos e0, Ro_clear_19_eq, ob]
    · rw [R_asks_eq, if_pos e0]
  have w1 : C_within a (3 : Int32) X = _ := within_s a 3 (S := X)
  have i1 : R_isIn a (0 : Int32) (2 : Int32) (wF R 0 0 0) = _ := isIn_s a 3 (by omega)
  have f0 : R_asks a b R = some (-1, wF R 0 0 0) → C_asks a b X = some (-1, X) → Gd (C_asks a b) (R_asks a b) X R := fun h1 h2 => Gd_of h h2 Off.rf h1 told0
  cases e1 : inr a 3
  · rw [e1] at w1 i1
    exact f0 (by rw [R_asks_eq, if_neg e0, i1, ob]; rfl) (by rw [C_asks_eq, if_neg e0, w1, ob]; rfl)
  rw [e1] at w1 i1
  obtain ⟨x, hx, rfl⟩ := inr_t (by omega) e1
  obtain ⟨K, hK1, hK2, ck, rk⟩ : ∃ K : Nat, K ≤ 12 ∧ 0 < K ∧ C_kinds (nI x) X = some (nI K, X) ∧ R_asks (nI x) b R = R_asks_c50 (nI x) b (nI K - 1) 0 b (wF R 0 0 0) := by
    have hc3 : x = 0 ∨ x = 1 ∨ x = 2 := by omega
    rcases hc3 with rfl | rfl | rfl
    · exact ⟨12, by omega, by omega, by rw [C_kinds_eq]; rfl, by rw [R_asks_eq, if_neg e0, i1, ob]; rfl⟩
    · exact ⟨8, by omega, by omega, by rw [C_kinds_eq]; rfl, by rw [R_asks_eq, if_neg e0, i1, ob]; rfl⟩
    · exact ⟨6, by omega, by omega, by rw [C_kinds_eq]; rfl, by rw [R_asks_eq, if_neg e0, i1, ob]; rfl⟩
  have w2 := within_s b K (S := X)
  have i2 := isIn_s b K (by omega) (S := wF R 0 0 0)
  cases e2 : inr b K
  · rw [e2] at w2 i2
    refine f0 ?_ ?_
    · rw [rk, R_asks_c50_eq, i2, ob]; rfl
    · rw [C_asks_eq, if_neg e0, w1, ob]
      simp only [b2t, if_false, ck, w2, ob, b2f, if_true]
  rw [e2] at w2 i2
  obtain ⟨y, hy, rfl⟩ := inr_t (by omega) e2
  obtain ⟨m, hm⟩ : ∃ m, m = T 0 4 := ⟨_, rfl⟩
  have hml : m ≤ 10 := by rw [hm]; exact hw.2.2.2.2.2.2.2.2.1.1
  have xm : X.1 19 2 = nI m := by rw [hm]; exact hX.2.2.2.2.2.2.2.2.2.1.1
  have rm : (wF R 0 0 0).1 0 49 = nI m := by rw [hm]; exact hR0.2.2.2.1.2.2.2.2.1
  have ad := add_19 (nI x) (nI y) (nI 0) xm hcx.2.2.2.2.2.2.1 hml
  have cE : C_asks (nI x) (nI y) X = Ro_add_19 (nI x) (nI y) (nI 0) 0 X := by
    rw [C_asks_eq, if_neg e0, w1, ob]
    simp only [b2t, if_false, ck, w2, ob]
    rw [show Ro_add_19 (nI x) (nI y) 0 0 X = _ from ad, ad]
    by_cases q2 : m < 10
    · rw [if_pos q2, ob]
    · rw [if_neg q2, ob]
  have rE : R_asks (nI x) (nI y) R = if m = 10 then some (-1, wF R 0 0 0) else some (nI (m + 1), wF (wA (wA (wF R 0 0 0) 29 (nI m) (nI x)) 30 (nI m) (nI y)) 0 49 (nI (m + 1))) := by
    rw [rk, R_asks_c50_eq, i2, ob]
    simp only [b2t, if_false]
    rw [show rF (wF R 0 0 0) 0 49 = nI m from rm]
    by_cases q2 : m = 10
    · rw [if_pos q2, q2]; rfl
    · rw [if_neg q2, if_neg (show ¬ nI m = (10 : Int32) by rw [show (10 : Int32) = nI 10 from rfl, nI_eqE (by omega) (by omega)]; exact q2), if_pos (inb_n (by omega) (by omega)), if_pos (inb_n (by omega) (by omega)), show nI m + (1 : Int32) = nI (m + 1) from nI_add _ 1]
  by_cases q2 : m = 10
  · exact f0 (by rw [rE, if_pos q2]) (by rw [cE, ad, if_neg (by omega)])
  · refine ⟨_, _, _, by rw [cE, ad, if_pos (show m < 10 by omega)], by rw [rE, if_neg q2], tolI hcx hcr him htp hw hX hR hH (((((Off.rf.wA (by decide)).wA (by decide)).wA (by decide)).wA (by decide)).wF (by decide)) ((((Off.rf.wF (by decide)).wA (by decide)).wA (by decide)).wF (by decide)) (WT_a4 (z := 0) hw.2.2.2 hm.symm (by omega) hx (show y < 12 by omega)) (put_19 (z := 0) hX.2.2.2 hm.symm (by omega)) (putR_19 hR.2.2.2 hm.symm (by omega))⟩
theorem q_note {X R : pS} (a b c : Int32) (h : INV X R) : Gd (C_note a b c) (R_note a b c) X R := by
  obtain ⟨hcx, hcr, him, htp, n, D, B, L, T, hw, hX, hR, hH⟩ := id h
  have hn := hw.1.1
  have hR0 := RA_off hR told0
  by_cases e0 : a = (-1 : Int32)
  · refine ⟨0, wF X 21 2 0, wF (wF R 0 0 0) 0 52 0, ?_, ?_, tolI hcx hcr him htp hw hX hR hH (Off.rf.wF (by decide)) ((Off.rf.wF (by decide)).wF (by decide)) (WT_c5 hw.2.2.2) (clr_21 hX.2.2.2) (clrR_21 hR.2.2.2)⟩
    · rw [C_note_eq, if_pos e0, Ro_clear_21_eq, ob]
    · rw [R_note_eq, if_pos e0]
  have w1 : C_within a (4 : Int32) X = _ := within_s a 4 (S := X)
  have i1 : R_isIn a (0 : Int32) (3 : Int32) (wF R 0 0 0) = _ := isIn_s a 4 (by omega)
  have f0 : R_note a b c R = some (-1, wF R 0 0 0) → C_note a b c X = some (-1, X) → Gd (C_note a b c) (R_note a b c) X R := fun h1 h2 => Gd_of h h2 Off.rf h1 told0
  cases e1 : inr a 4
  · rw [e1] at w1 i1
    exact f0 (by rw [R_note_eq, if_neg e0, i1, ob]; rfl) (by rw [C_note_eq, if_neg e0, w1, ob]; rfl)
  rw [e1] at w1 i1
  obtain ⟨x, hx, rfl⟩ := inr_t (by omega) e1
  obtain ⟨K, hK1, hK2, ck, rk⟩ : ∃ K : Nat, K ≤ 12 ∧ 0 < K ∧ C_noteKinds (nI x) X = some (nI K, X) ∧ R_note (nI x) b c R = R_note_c59 (nI x) b c (nI K - 1) 0 b (wF R 0 0 0) := by
    have hc3 : x = 0 ∨ x = 1 ∨ x = 2 ∨ x = 3 := by omega
    rcases hc3 with rfl | rfl | rfl | rfl
    · exact ⟨6, by omega, by omega, by rw [C_noteKinds_eq]; rfl, by rw [R_note_eq, if_neg e0, i1, ob]; rfl⟩
    · exact ⟨8, by omega, by omega, by rw [C_noteKinds_eq]; rfl, by rw [R_note_eq, if_neg e0, i1, ob]; rfl⟩
    · exact ⟨2, by omega, by omega, by rw [C_noteKinds_eq]; rfl, by rw [R_note_eq, if_neg e0, i1, ob]; rfl⟩
    · exact ⟨12, by omega, by omega, by rw [C_noteKinds_eq]; rfl, by rw [R_note_eq, if_neg e0, i1, ob]; rfl⟩
  have w2 := within_s b K (S := X)
  have i2 := isIn_s b K (by omega) (S := wF R 0 0 0)
  cases e2 : inr b K
  · rw [e2] at w2 i2
    refine f0 ?_ ?_
    · rw [rk, R_note_c59_eq, i2, ob]; rfl
    · rw [C_note_eq, if_neg e0, w1, ob]
      simp only [b2t, if_false, ck, w2, ob, b2f, if_true]
  rw [e2] at w2 i2
  obtain ⟨y, hy, rfl⟩ := inr_t (by omega) e2
  obtain ⟨m, hm⟩ : ∃ m, m = T 0 5 := ⟨_, rfl⟩
  have hml : m ≤ 8 := by rw [hm]; exact hw.2.2.2.2.2.2.2.2.2.1
  have xm : X.1 21 2 = nI m := by rw [hm]; exact hX.2.2.2.2.2.2.2.2.2.2.1
  have rm : (wF R 0 0 0).1 0 52 = nI m := by rw [hm]; exact hR0.2.2.2.1.2.2.2.2.2
  obtain ⟨z, hz, cz⟩ : ∃ z : Nat, z ≤ 1 ∧ (if c = 0 then z = 0 else z = 1) := by
    by_cases q : c = 0
    · exact ⟨0, by omega, by rw [if_pos q]⟩
    · exact ⟨1, by omega, by rw [if_neg q]⟩
  have ad := add_21 (nI x) (nI y) (nI z) xm hcx.2.2.2.2.2.2.2.1 hml
  have cE : C_note (nI x) (nI y) c X = Ro_add_21 (nI x) (nI y) (nI z) 0 X := by
    rw [C_note_eq, if_neg e0, w1, ob]
    simp only [b2t, if_false, ck, w2, ob]
    by_cases q : c = 0
    · rw [if_pos q] at cz
      rw [if_pos q, show (0 : Int32) = nI z from by rw [cz]; rfl]
      rw [show (nI z : Int32) = (0 : Int32) from by rw [cz]; rfl]
      rw [cz] at ad
      rw [show Ro_add_21 (nI x) (nI y) 0 0 X = _ from ad]
      by_cases q2 : m < 8
      · rw [if_pos q2, ob]
      · rw [if_neg q2, ob]
    · rw [if_neg q] at cz
      rw [if_neg q, cz]
      rw [cz] at ad
      rw [show Ro_add_21 (nI x) (nI y) 1 0 X = _ from ad, show Ro_add_21 (nI x) (nI y) (nI 1) 0 X = _ from ad]
      by_cases q2 : m < 8
      · rw [if_pos q2, ob]
      · rw [if_neg q2, ob]
  have rE : R_note (nI x) (nI y) c R = if m = 8 then some (-1, wF R 0 0 0) else some (nI (m + 1), wF (wA (wA (wA (wF R 0 0 0) 31 (nI m) (nI x)) 32 (nI m) (nI y)) 33 (nI m) (nI z)) 0 52 (nI (m + 1))) := by
    rw [rk, R_note_c59_eq, i2, ob]
    simp only [b2t, if_false]
    rw [show rF (wF R 0 0 0) 0 52 = nI m from rm]
    by_cases q2 : m = 8
    · rw [if_pos q2, q2]; rfl
    · rw [if_neg q2, if_neg (show ¬ nI m = (8 : Int32) by rw [show (8 : Int32) = nI 8 from rfl, nI_eqE (by omega) (by omega)]; exact q2), if_pos (inb_n (by omega) (by omega)), if_pos (inb_n (by omega) (by omega))]
      have r2 : rF (wA (wA (wF R 0 0 0) 31 (nI m) (nI x)) 32 (nI m) (nI y)) 0 52 = nI m := rm
      by_cases q : c = 0
      · rw [if_pos q] at cz
        rw [if_pos q, R_note_c113_eq, if_pos (inb_n (by omega) (by omega)), cz]
        rw [r2, show nI m + (1 : Int32) = nI (m + 1) from nI_add _ 1]
        rfl
      · rw [if_neg q] at cz
        rw [if_neg q, R_note_c113_eq, if_pos (inb_n (by omega) (by omega)), cz]
        rw [r2, show nI m + (1 : Int32) = nI (m + 1) from nI_add _ 1]
        rfl
  by_cases q2 : m = 8
  · exact f0 (by rw [rE, if_pos q2]) (by rw [cE, ad, if_neg (by omega)])
  · refine ⟨_, _, _, by rw [cE, ad, if_pos (show m < 8 by omega)], by rw [rE, if_neg q2], tolI hcx hcr him htp hw hX hR hH (((((Off.rf.wA (by decide)).wA (by decide)).wA (by decide)).wA (by decide)).wF (by decide)) (((((Off.rf.wF (by decide)).wA (by decide)).wA (by decide)).wA (by decide)).wF (by decide)) (WT_a5 hw.2.2.2 hm.symm (by omega) hx (by omega) hz) (put_21 hX.2.2.2 hm.symm (by omega)) (putR_21 hR.2.2.2 hm.symm (by omega))⟩
