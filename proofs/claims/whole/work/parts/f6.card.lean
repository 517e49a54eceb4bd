/-! A card; the tape; what is told in lines. -/
theorem WT_up {n n' : Nat} {T : tL} (h : WT n T) (hn : n ≤ n') : WT n' T := by
  obtain ⟨a, b, c, d, e, f, g⟩ := h
  refine ⟨a, b, c, ⟨d.1, fun i hi => ?_⟩, ⟨e.1, fun i hi => ?_⟩, f, g⟩
  · obtain ⟨d1, d2, d3, d4⟩ := d.2 i hi
    exact ⟨d1, d2, d3, fun z => by have := d4 z; omega⟩
  · obtain ⟨e1, e2⟩ := e.2 i hi
    exact ⟨by omega, by omega⟩
theorem q_card {X R : pS} (a b c d : Int32) (h : INV X R) : Gd (C_card a b c d) (R_card a b c d) X R := by
  obtain ⟨hcx, hcr, him, htp, n, D, B, L, T, hw, hX, hR, hH⟩ := id h
  have hn := hw.1.1
  have w1 : C_within a (12 : Int32) X = _ := within_s a 12 (S := X)
  have w2 : C_within b (8 : Int32) X = _ := within_s b 8 (S := X)
  have w3 : C_within c (6 : Int32) X = _ := within_s c 6 (S := X)
  have w4 : C_within d (100 : Int32) X = _ := within_s d 100 (S := X)
  have i2 : R_isIn b (0 : Int32) (7 : Int32) (wF R 0 0 0) = _ := isIn_s b 8 (by omega)
  have i3 : R_isIn c (0 : Int32) (5 : Int32) (wF R 0 0 0) = _ := isIn_s c 6 (by omega)
  have i4 : R_isIn d (0 : Int32) (99 : Int32) (wF R 0 0 0) = _ := isIn_s d 100 (by omega)
  cases e1 : inr a 12
  · rw [e1] at w1
    exact Gd_of h (v := -1) (by rw [C_card_eq, w1]; rfl) Off.rf (by rw [R_card_eq, isPerson_s, e1]; rfl) told0
  rw [e1] at w1
  cases e2 : inr b 8
  · rw [e2] at w2 i2
    refine Gd_of h (v := -1) ?_ Off.rf ?_ told0
    · rw [C_card_eq, w1, ob]; simp only [b2t, if_false, w2, ob, b2f, if_true]
    · rw [R_card_eq, isPerson_s, e1, ob]; simp only [b2t, if_false, i2, ob, b2f, if_true]
  rw [e2] at w2 i2
  cases e3 : inr c 6
  · rw [e3] at w3 i3
    refine Gd_of h (v := -1) ?_ Off.rf ?_ told0
    · rw [C_card_eq, w1, ob]; simp only [b2t, if_false, w2, ob, w3, b2f, if_true]
    · rw [R_card_eq, isPerson_s, e1, ob]; simp only [b2t, if_false, i2, ob, i3, b2f, if_true]
  rw [e3] at w3 i3
  cases e4 : inr d 100
  · rw [e4] at w4 i4
    refine Gd_of h (v := -1) ?_ Off.rf ?_ told0
    · rw [C_card_eq, w1, ob]; simp only [b2t, if_false, w2, ob, w3, w4, b2f, if_true]
    · rw [R_card_eq, isPerson_s, e1, ob]; simp only [b2t, if_false, i2, ob, i3, i4, b2f, if_true]
  rw [e4] at w4 i4
  have cx : C_card a b c d X = if nI n < (14 : Int32) then ((Hi_forget_31 X).bind (fun q5 => (Dr_put_1 a b c d q5.2).bind (fun q6 => some (q6.1, q6.2)))) else (some ((-1 : Int32), X)) := by
    rw [C_card_eq, w1, ob]
    simp only [b2t, if_false, w2, ob, w3, w4]
    rw [show rF X 1 1 = nI n from cards_1 hw.1 hX.1]
  by_cases e14 : n = 14
  · subst e14
    refine Gd_of h (v := -1) (by rw [cx, if_neg (by decide)]) Off.rf ?_ told0
    rw [R_card_eq, isPerson_s, e1, ob]
    simp only [b2t, if_false, i2, ob, i3, i4]
    rw [show rF (wF R 0 0 0) 0 6 = nI 14 from hR.1.2, if_pos (show nI 14 = (14 : Int32) from rfl)]
  · obtain ⟨p, hp, rfl⟩ := inr_t (by omega) e1
    obtain ⟨f, hf, rfl⟩ := inr_t (by omega) e2
    obtain ⟨t, ht, rfl⟩ := inr_t (by omega) e3
    have hlt : n < 14 := by omega
    obtain ⟨X0, hX0⟩ : ∃ X0, X0 = wF X 31 2 0 := ⟨_, rfl⟩
    have x0 : XD 1 D X0 := by
      rw [hX0]
      exact ⟨hX.1.1, fun i h1 h2 => by rw [wF_1, sA_ne (by decide)]; exact hX.1.2 i h1 h2⟩
    have x1 := XD_row (o := 1) (r := 0) (c := n) (v := nI p) x0 (by omega) hlt
    have x2 := XD_row (o := 1) (r := 1) (c := n) (v := nI f) x1 (by omega) hlt
    have x3 := XD_row (o := 1) (r := 2) (c := n) (v := nI t) x2 (by omega) hlt
    have x4 := XD_row (o := 1) (r := 3) (c := n) (v := d) x3 (by omega) hlt
    have x5 := XD_row (o := 1) (r := 4) (c := n) (v := 0) x4 (by omega) hlt
    have x6 := XD_row (o := 1) (r := 5) (c := n) (v := 0) x5 (by omega) hlt
    have x7 := XD_row (o := 1) (r := 6) (c := n) (v := 0) x6 (by omega) hlt
    have x8 := XD_f (o := 1) (i := 2) (v := D 7 2 ||| bit n) x7
    have x9 := XD_f (o := 1) (i := 1) (v := nI (n + 1)) x8
    have pw : ∀ r v (S : pS), r < 7 → Dr_write_1 (nI n) (nI r) v S = some (0, wA S 2 (nI (r * 14 + n)) v) := fun r v S hr => write_1 hr hlt
    have k2 : ∀ S : pS, S.1 1 2 = D 7 2 → rF S 1 2 = D 7 2 := fun S h => h
    have stp : ∀ (S : pS) (o k : Nat) (v : Int32) (i : Nat), k < 2147483648 → (wA S o (nI k) v).2.1 i = if i = o then upd (S.2.1 o) k v else S.2.1 i := fun S o k v i hk => by rw [wA_21 hk, sA_row]
    have m1 : (wF (wF (wA (wA (wA (wA (wA (wA (wA (wA (wF R 0 0 0) 4 (nI n) (nI p)) 5 (nI n) (nI f)) 6 (nI n) (nI t)) 1 (nI (6 + n)) d) 1 (nI (20 + n)) 0) 1 (nI (34 + n)) 0) 1 (nI (48 + n)) 0) 1 (nI (62 + n)) 0) 0 6 (nI (n + 1))) 0 3 0).2.1 1 = upd (upd (upd (upd (upd (R.2.1 1) (6 + n) d) (20 + n) 0) (34 + n) 0) (48 + n) 0) (62 + n) 0 := by
      rw [wF_2, wF_2, stp _ _ _ _ _ (by omega), if_pos rfl, stp _ _ _ _ _ (by omega), if_pos rfl, stp _ _ _ _ _ (by omega), if_pos rfl, stp _ _ _ _ _ (by omega), if_pos rfl, stp _ _ _ _ _ (by omega), if_pos rfl, stp _ _ _ _ _ (by omega), if_neg (by decide), stp _ _ _ _ _ (by omega), if_neg (by decide), stp _ _ _ _ _ (by omega), if_neg (by decide)]; rfl
    have m4 : (wF (wF (wA (wA (wA (wA (wA (wA (wA (wA (wF R 0 0 0) 4 (nI n) (nI p)) 5 (nI n) (nI f)) 6 (nI n) (nI t)) 1 (nI (6 + n)) d) 1 (nI (20 + n)) 0) 1 (nI (34 + n)) 0) 1 (nI (48 + n)) 0) 1 (nI (62 + n)) 0) 0 6 (nI (n + 1))) 0 3 0).2.1 4 = upd (R.2.1 4) n (nI p) := by
      rw [wF_2, wF_2, stp _ _ _ _ _ (by omega), if_neg (by decide), stp _ _ _ _ _ (by omega), if_neg (by decide), stp _ _ _ _ _ (by omega), if_neg (by decide), stp _ _ _ _ _ (by omega), if_neg (by decide), stp _ _ _ _ _ (by omega), if_neg (by decide), stp _ _ _ _ _ (by omega), if_neg (by decide), stp _ _ _ _ _ (by omega), if_neg (by decide), stp _ _ _ _ _ (by omega), if_pos rfl]; rfl
    have m5 : (wF (wF (wA (wA (wA (wA (wA (wA (wA (wA (wF R 0 0 0) 4 (nI n) (nI p)) 5 (nI n) (nI f)) 6 (nI n) (nI t)) 1 (nI (6 + n)) d) 1 (nI (20 + n)) 0) 1 (nI (34 + n)) 0) 1 (nI (48 + n)) 0) 1 (nI (62 + n)) 0) 0 6 (nI (n + 1))) 0 3 0).2.1 5 = upd (R.2.1 5) n (nI f) := by
      rw [wF_2, wF_2, stp _ _ _ _ _ (by omega), if_neg (by decide), stp _ _ _ _ _ (by omega), if_neg (by decide), stp _ _ _ _ _ (by omega), if_neg (by decide), stp _ _ _ _ _ (by omega), if_neg (by decide), stp _ _ _ _ _ (by omega), if_neg (by decide), stp _ _ _ _ _ (by omega), if_neg (by decide), stp _ _ _ _ _ (by omega), if_pos rfl, stp _ _ _ _ _ (by omega), if_neg (by decide)]; rfl
    have m6 : (wF (wF (wA (wA (wA (wA (wA (wA (wA (wA (wF R 0 0 0) 4 (nI n) (nI p)) 5 (nI n) (nI f)) 6 (nI n) (nI t)) 1 (nI (6 + n)) d) 1 (nI (20 + n)) 0) 1 (nI (34 + n)) 0) 1 (nI (48 + n)) 0) 1 (nI (62 + n)) 0) 0 6 (nI (n + 1))) 0 3 0).2.1 6 = upd (R.2.1 6) n (nI t) := by
      rw [wF_2, wF_2, stp _ _ _ _ _ (by omega), if_neg (by decide), stp _ _ _ _ _ (by omega), if_neg (by decide), stp _ _ _ _ _ (by omega), if_neg (by decide), stp _ _ _ _ _ (by omega), if_neg (by decide), stp _ _ _ _ _ (by omega), if_neg (by decide), stp _ _ _ _ _ (by omega), if_pos rfl, stp _ _ _ _ _ (by omega), if_neg (by decide), stp _ _ _ _ _ (by omega), if_neg (by decide)]; rfl
    refine ⟨nI n, _, wF (wF (wA (wA (wA (wA (wA (wA (wA (wA (wF R 0 0 0) 4 (nI n) (nI p)) 5 (nI n) (nI f)) 6 (nI n) (nI t)) 1 (nI (6 + n)) d) 1 (nI (20 + n)) 0) 1 (nI (34 + n)) 0) 1 (nI (48 + n)) 0) 1 (nI (62 + n)) 0) 0 6 (nI (n + 1))) 0 3 0, ?_, ?_, forgI (n' := n + 1) hcx hcr him htp hX hR hH ⟨⟨by omega, ?_, ?_, ?_⟩, hw.2.1, hw.2.2.1, WT_up hw.2.2.2 (by omega)⟩ ?_ x9 ?_ ?_ ⟨⟨?_, ?_, ?_⟩, ?_⟩ (by rw [wF_1, sA_eq, upd_eq]) ?_⟩
    · rw [cx, if_pos (show nI n < (14 : Int32) from nlt_t (n := 14) hlt (by omega)), Hi_forget_31_eq, ob, ← hX0, Dr_put_1_eq, show rF X0 1 1 = nI n from cards_1 hw.1 x0]
      rw [show Dr_write_1 (nI n) (0 : Int32) (nI p) X0 = _ from pw 0 _ _ (by omega), ob]
      simp only
      rw [show Dr_write_1 (nI n) (1 : Int32) (nI f) _ = _ from pw 1 _ _ (by omega), ob]
      simp only
      rw [show Dr_write_1 (nI n) (2 : Int32) (nI t) _ = _ from pw 2 _ _ (by omega), ob]
      simp only
      rw [show Dr_write_1 (nI n) (3 : Int32) d _ = _ from pw 3 _ _ (by omega), ob]
      simp only
      rw [show Dr_write_1 (nI n) (4 : Int32) (0 : Int32) _ = _ from pw 4 _ _ (by omega), ob]
      simp only
      rw [show Dr_write_1 (nI n) (5 : Int32) (0 : Int32) _ = _ from pw 5 _ _ (by omega), ob]
      simp only
      rw [show Dr_write_1 (nI n) (6 : Int32) (0 : Int32) _ = _ from pw 6 _ _ (by omega), ob, ob]
      simp only [rF, wA_1]
      rw [show X0.1 1 2 = D 7 2 from x0.2 2 (by omega) (by omega), show X0.1 1 1 = nI n from cards_1 hw.1 x0, nI_1]
      rfl
    · rw [R_card_eq, isPerson_s, e1, ob]
      simp only [b2t, if_false, i2, ob, i3, i4]
      rw [show rF (wF R 0 0 0) 0 6 = nI n from hR.1.2, if_neg (show ¬ nI n = (14 : Int32) from fun z => e14 ((nI_eq (b := 14) (by omega) (by omega)).mp z))]
      simp (disch := omega) only [show (6 : Int32) = nI 6 from rfl, show (20 : Int32) = nI 20 from rfl, show (34 : Int32) = nI 34 from rfl, show (48 : Int32) = nI 48 from rfl, show (62 : Int32) = nI 62 from rfl, nI_add, inb_n, if_true, nI_1]
      rw [show nI (n + 1) - (1 : Int32) = nI n from nI_pred n]
    · rw [sA_eq, upd_eq]
    · rw [sA_eq, upd_ne (by decide), sA_eq, upd_eq]
      exact low_or (low_up hw.1.2.2.1 (by omega)) (low_bit (by omega) (by omega))
    · intro c' hc'
      simp only [sA_row, (by decide : ¬ (0 : Nat) = 7), (by decide : ¬ (1 : Nat) = 7), (by decide : ¬ (2 : Nat) = 7), (by decide : ¬ (0 : Nat) = 6), (by decide : ¬ (1 : Nat) = 6), (by decide : ¬ (2 : Nat) = 6), (by decide : ¬ (0 : Nat) = 5), (by decide : ¬ (1 : Nat) = 5), (by decide : ¬ (2 : Nat) = 5), (by decide : ¬ (0 : Nat) = 4), (by decide : ¬ (1 : Nat) = 4), (by decide : ¬ (2 : Nat) = 4), (by decide : ¬ (0 : Nat) = 3), (by decide : ¬ (1 : Nat) = 3), (by decide : ¬ (2 : Nat) = 3), (by decide : ¬ (0 : Nat) = 2), (by decide : ¬ (1 : Nat) = 2), (by decide : ¬ (0 : Nat) = 1), (by decide : ¬ (1 : Nat) = 0), (by decide : ¬ (2 : Nat) = 0), (by decide : ¬ (2 : Nat) = 1), if_false, if_true, upd_at]
      by_cases e : c' = n
      · rw [if_pos e, if_pos e, if_pos e]
        exact ⟨⟨p, hp, rfl⟩, ⟨f, hf, rfl⟩, ⟨t, ht, rfl⟩⟩
      · rw [if_neg e, if_neg e, if_neg e]
        exact hw.1.2.2.2 c' (by omega)
    · rw [hX0]
      exact (((((((((Off.rf.wF (by decide)).wA (by decide)).wA (by decide)).wA (by decide)).wA (by decide)).wA (by decide)).wA (by decide)).wA (by decide)).wF (by decide)).wF (by decide)
    · simp only [wF_1, wA_1, hX0, sA_row, (by decide : ¬ (31 : Nat) = 1), if_false, if_true]
      rw [upd_eq]
    · exact ((((((((((Off.rf.wF (by decide)).wA (by decide)).wA (by decide)).wA (by decide)).wA (by decide)).wA (by decide)).wA (by decide)).wA (by decide)).wA (by decide)).wF (by decide)).wF (by decide)
    · intro c' hc'
      obtain ⟨g0, g1, g2, g3, g4, g5, g6⟩ := hR.1.1.1 c' hc'
      have y0 : (sA (sA (sA (sA (sA (sA (sA (sA (sA D 0 n (nI p)) 1 n (nI f)) 2 n (nI t)) 3 n d) 4 n 0) 5 n 0) 6 n 0) 7 2 (D 7 2 ||| bit n)) 7 1 (nI (n + 1))) 0 = upd (D 0) n (nI p) := by rw [sA_ne (by decide), sA_ne (by decide), sA_ne (by decide), sA_ne (by decide), sA_ne (by decide), sA_ne (by decide), sA_ne (by decide), sA_ne (by decide), sA_eq]
      have y1 : (sA (sA (sA (sA (sA (sA (sA (sA (sA D 0 n (nI p)) 1 n (nI f)) 2 n (nI t)) 3 n d) 4 n 0) 5 n 0) 6 n 0) 7 2 (D 7 2 ||| bit n)) 7 1 (nI (n + 1))) 1 = upd (D 1) n (nI f) := by rw [sA_ne (by decide), sA_ne (by decide), sA_ne (by decide), sA_ne (by decide), sA_ne (by decide), sA_ne (by decide), sA_ne (by decide), sA_eq, sA_ne (by decide)]
      have y2 : (sA (sA (sA (sA (sA (sA (sA (sA (sA D 0 n (nI p)) 1 n (nI f)) 2 n (nI t)) 3 n d) 4 n 0) 5 n 0) 6 n 0) 7 2 (D 7 2 ||| bit n)) 7 1 (nI (n + 1))) 2 = upd (D 2) n (nI t) := by rw [sA_ne (by decide), sA_ne (by decide), sA_ne (by decide), sA_ne (by decide), sA_ne (by decide), sA_ne (by decide), sA_eq, sA_ne (by decide), sA_ne (by decide)]
      have y3 : (sA (sA (sA (sA (sA (sA (sA (sA (sA D 0 n (nI p)) 1 n (nI f)) 2 n (nI t)) 3 n d) 4 n 0) 5 n 0) 6 n 0) 7 2 (D 7 2 ||| bit n)) 7 1 (nI (n + 1))) 3 = upd (D 3) n (d) := by rw [sA_ne (by decide), sA_ne (by decide), sA_ne (by decide), sA_ne (by decide), sA_ne (by decide), sA_eq, sA_ne (by decide), sA_ne (by decide), sA_ne (by decide)]
      have y4 : (sA (sA (sA (sA (sA (sA (sA (sA (sA D 0 n (nI p)) 1 n (nI f)) 2 n (nI t)) 3 n d) 4 n 0) 5 n 0) 6 n 0) 7 2 (D 7 2 ||| bit n)) 7 1 (nI (n + 1))) 4 = upd (D 4) n (0) := by rw [sA_ne (by decide), sA_ne (by decide), sA_ne (by decide), sA_ne (by decide), sA_eq, sA_ne (by decide), sA_ne (by decide), sA_ne (by decide), sA_ne (by decide)]
      have y5 : (sA (sA (sA (sA (sA (sA (sA (sA (sA D 0 n (nI p)) 1 n (nI f)) 2 n (nI t)) 3 n d) 4 n 0) 5 n 0) 6 n 0) 7 2 (D 7 2 ||| bit n)) 7 1 (nI (n + 1))) 5 = upd (D 5) n (0) := by rw [sA_ne (by decide), sA_ne (by decide), sA_ne (by decide), sA_eq, sA_ne (by decide), sA_ne (by decide), sA_ne (by decide), sA_ne (by decide), sA_ne (by decide)]
      have y6 : (sA (sA (sA (sA (sA (sA (sA (sA (sA D 0 n (nI p)) 1 n (nI f)) 2 n (nI t)) 3 n d) 4 n 0) 5 n 0) 6 n 0) 7 2 (D 7 2 ||| bit n)) 7 1 (nI (n + 1))) 6 = upd (D 6) n (0) := by rw [sA_ne (by decide), sA_ne (by decide), sA_eq, sA_ne (by decide), sA_ne (by decide), sA_ne (by decide), sA_ne (by decide), sA_ne (by decide), sA_ne (by decide)]
      rw [m1, m4, m5, m6, y0, y1, y2, y3, y4, y5, y6]
      simp only [upd_at]
      by_cases e : c' = n
      · subst e
        simp only [if_true]
        refine ⟨trivial, trivial, trivial, ?_, ?_, ?_, ?_⟩
        · rw [if_neg (by omega), if_neg (by omega), if_neg (by omega), if_neg (by omega)]
        · trivial
        · rw [if_neg (by omega), if_neg (by omega), if_neg (by omega)]
        · rw [if_neg (by omega), if_neg (by omega)]
      · simp only [if_neg e]
        refine ⟨g0, g1, g2, ?_, ?_, ?_, ?_⟩
        · rw [if_neg (by omega), if_neg (by omega), if_neg (by omega), if_neg (by omega), if_neg (by omega)]; exact g3
        · rw [if_neg (by omega), if_neg (by omega), if_neg (by omega), if_neg (by omega), if_neg (by omega)]; exact g4
        · rw [if_neg (by omega), if_neg (by omega), if_neg (by omega), if_neg (by omega), if_neg (by omega)]; exact g5
        · rw [if_neg (by omega), if_neg (by omega), if_neg (by omega), if_neg (by omega), if_neg (by omega)]; exact g6
    · intro c' hc'
      rw [show ∀ v, sA (sA (sA (sA (sA (sA (sA (sA (sA D 0 n (nI p)) 1 n (nI f)) 2 n (nI t)) 3 n d) 4 n 0) 5 n 0) 6 n 0) 7 2 (D 7 2 ||| bit n)) 7 1 v 7 2 = D 7 2 ||| bit n from fun v => by rw [sA_eq, upd_ne (by decide), sA_eq, upd_eq]]
      rw [m1]
      simp only [upd_at]
      rw [b_or, bt_bit (by omega)]
      by_cases e : c' = n
      · subst e
        rw [if_neg (by omega), if_pos rfl, decide_eq_true rfl, Bool.or_true]; rfl
      · rw [if_neg (by omega), if_neg (by omega), if_neg (by omega), if_neg (by omega), if_neg (by omega), decide_eq_false e, Bool.or_false]
        exact hR.1.1.2.1 c' (by omega)
    · have h7 : ∀ i, i ≠ 1 → i ≠ 2 → sA (sA (sA (sA (sA (sA (sA (sA (sA D 0 n (nI p)) 1 n (nI f)) 2 n (nI t)) 3 n d) 4 n 0) 5 n 0) 6 n 0) 7 2 (D 7 2 ||| bit n)) 7 1 (nI (n + 1)) 7 i = D 7 i := fun i h1 h2 => by
        rw [sA_eq, upd_ne h1, sA_eq, upd_ne h2, sA_ne (by decide), sA_ne (by decide), sA_ne (by decide), sA_ne (by decide), sA_ne (by decide), sA_ne (by decide), sA_ne (by decide)]
      rw [h7 3 (by decide) (by decide), h7 7 (by decide) (by decide), h7 4 (by decide) (by decide), h7 5 (by decide) (by decide), h7 6 (by decide) (by decide)]
      rw [m1]
      obtain ⟨g3, g4, g5, g6, g7⟩ := hR.1.1.2.2
      have st : ∀ k, k < 6 → ∀ (N : Nat → Int32), upd (upd (upd (upd (upd N (6 + n) d) (20 + n) 0) (34 + n) 0) (48 + n) 0) (62 + n) 0 k = N k := fun k hk N => by rw [upd_ne (by omega), upd_ne (by omega), upd_ne (by omega), upd_ne (by omega), upd_ne (by omega)]
      rw [st 0 (by omega), st 1 (by omega), st 3 (by omega), st 4 (by omega), st 5 (by omega)]
      exact ⟨g3, g4, g5, g6, g7⟩
    · rw [wF_1, sA_eq, upd_ne (by decide), wF_1, sA_eq, upd_eq]
    · rw [m1, upd_ne (by omega), upd_ne (by omega), upd_ne (by omega), upd_ne (by omega), upd_ne (by omega)]
