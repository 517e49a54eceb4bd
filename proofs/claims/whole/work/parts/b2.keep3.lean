/-! Years of the class: the keeper at cell 25. -/
/-- the plan of the class -/
def XPl (m : Nat) (A : Nat → Nat → Nat) (S : pS) : Prop := S.1 15 2 = nI m ∧ ∀ i, i < m → S.2.1 16 (4 * i) = nI (A i 0) ∧ S.2.1 16 (4 * i + 1) = nI (320 + A i 1) ∧ S.2.1 16 (4 * i + 2) = nI (A i 2)
theorem XPl_off {m : Nat} {A : Nat → Nat → Nat} {S S' : pS} {F : List (Nat × Nat)} {W : List Nat} (h : XPl m A S) (ho : Off F W S S') (h1 : (15, 2) ∉ F) (h2 : 16 ∉ W) : XPl m A S' := by
  unfold XPl at *
  rw [ho.1 _ _ h1, ho.2.1 16 h2]
  exact h
theorem plan_at {m i j : Nat} {S : pS} (hm : m ≤ 16) (h : S.1 15 2 = nI m) (hi : i < m) (hj : j < 4) : Ro_at_15 (nI i) (nI j) S = some (S.2.1 16 (4 * i + j), S) := by
  rw [Ro_at_15_eq, show rF S 15 2 = nI m from h, if_neg (show ¬ nI i < 0 from nI_pos (by omega)), if_pos (by rw [nI_ltE (by omega) (by omega)]; omega), C_within_eq, if_neg (show ¬ nI j < 0 from nI_pos (by omega)), show (4 : Int32) = nI 4 from rfl, if_pos (by rw [nI_ltE (by omega) (by omega)]; omega), ob]
  simp only
  rw [if_neg (show ¬ (1 : Int32) = 0 by decide)]
  simp (disch := omega) only [pk_mul, nI_add, inb_n, if_true, rA_n, Nat.mul_comm i 4]
theorem has_1 {n c : Nat} {D : tD} {S : pS} (hD : WD n D) (hX : XD 1 D S) (hc : c < 2147483648) : Dr_has_1 (nI c) S = some (b2i (decide (c < n)), S) := by
  have := hD.1
  rw [Dr_has_1_eq, show rF S 1 1 = nI n from cards_1 hD hX, if_neg (show ¬ nI c < 0 from nI_pos (by omega))]
  by_cases q : c < n
  · rw [if_pos (by rw [nI_ltE hc (by omega)]; exact q), decide_eq_true q]; rfl
  · rw [if_neg (by rw [nI_ltE hc (by omega)]; exact q), decide_eq_false q]; rfl
theorem deed_25 {n m i : Nat} {L : tL} {A : Nat → Nat → Nat} {P : tP} {S : pS} (hL : WL L) (hA : WPl m n A) (hi : i < m) (hD : WD n P.1) (h : XP_25 P S) (hXL : XL 4 L S) : ∃ S', Ke_carryOut_25 (nI (320 + A i 1)) (nI (A i 2)) S = some (0, S') ∧ XP_25 (dedP L false n (A i 1) (A i 2) P) S' ∧ Off FK_25 WK_25 S S' := by
  obtain ⟨w0, w1, w2, w3⟩ := hA.2 i hi
  have hn := hD.1
  rw [Ke_carryOut_25_eq]
  unfold dedP
  by_cases a0 : A i 1 = 0
  · rw [if_pos a0, a0, if_pos (show nI (320 + 0) = (320 : Int32) from rfl)]
    obtain ⟨S1, q1, q2, q3⟩ := thr_25 (v := A i 2) hL (by omega) hD h hXL
    rw [q1, ob]
    exact ⟨S1, rfl, q2, q3⟩
  rw [if_neg a0, if_neg (show ¬ nI (320 + A i 1) = (320 : Int32) from fun e => by have := (nI_eq (b := 320) (by omega) (by omega)).mp e; omega)]
  by_cases a1 : A i 1 = 1
  · rw [if_pos a1, a1, if_pos (show nI (320 + 1) = (321 : Int32) from rfl)]
    cases hb : bst L P.1 (perQ P.1 (nI (A i 2))) n 0 none with
    | none =>
      obtain ⟨S1, q1, q2, q3⟩ := ringN_25 hD hL h hXL hb
      rw [q1, ob]
      exact ⟨S1, rfl, q2, q3⟩
    | some c =>
      obtain ⟨S1, q1, q2, q3⟩ := ringS_25 hD hL h hXL hb
      rw [q1, ob]
      exact ⟨S1, rfl, q2, q3⟩
  rw [if_neg a1, if_neg (show ¬ nI (320 + A i 1) = (321 : Int32) from fun e => by have := (nI_eq (b := 321) (by omega) (by omega)).mp e; omega), has_1 hD h.1 (by omega), ob, decide_eq_true (w3 (by omega)), if_neg (show ¬ b2i true = 0 by decide)]
  have hv := w3 (by omega)
  by_cases a2 : A i 1 = 2
  · rw [if_pos a2, a2, if_pos (show nI (320 + 2) = (322 : Int32) from rfl)]
    obtain ⟨S1, q1, q2, q3⟩ := bend_25 (c := A i 2) (by omega) h
    simp only
    rw [q1, ob]
    exact ⟨S1, rfl, q2, q3⟩
  rw [if_neg a2, if_neg (show ¬ nI (320 + A i 1) = (322 : Int32) from fun e => by have := (nI_eq (b := 322) (by omega) (by omega)).mp e; omega)]
  simp only
  cases hk : bt (P.1 7 2) (A i 2)
  · obtain ⟨S1, q1, q2, q3⟩ := find_25 (c := A i 2) (by omega) hk h
    rw [q1, ob]
    exact ⟨S1, rfl, q2, q3⟩
  · rw [Ke_findCard_25_eq, kept_1 h.1 (by omega), hk, ob, if_neg (show ¬ b2i true = 0 by decide), ob]
    exact ⟨S, rfl, h, Off.rf⟩
theorem want2_25 {n : Nat} {t : Int32} {L : tL} {P : tP} {S : pS} (hL : WL L) (hD : WD n P.1) (h : XP_25 P S) (hXL : XL 4 L S) : ∃ S', Ke_wantTrade_25_c29 t S = some (0, S') ∧ XP_25 (wntP2 L false n t P).2 S' ∧ Off FK_25 WK_25 S S' := by
  have hn := hD.1
  obtain ⟨S1, q1, q2, q3, q4⟩ := likely_25 (set := kw P.1 2 t n) (q := wrtQ P.1 t) hD hL h hXL (fun c hc => by rw [kw_bt (by omega), decide_eq_true hc]; rfl)
  rw [Ke_wantTrade_25_c29_eq, show Dr_keptWith_1 (2 : Int32) t S = _ from keptW_1 (r := 2) hD h.1 (by omega), ob]
  simp only
  rw [q1, ob]
  unfold wntP2
  have ho1 := off_fk_25 q4
  simp only
  cases hb : bst L P.1 (wrtQ P.1 t) n 0 none with
  | none =>
    rw [if_pos (show o2i none = (-1 : Int32) from rfl), show rF S1 1 6 = P.1 7 6 from q3.1.2 6 (by omega) (by omega)]
    obtain ⟨S2, s1, s2, s3⟩ := ent_25 (a := 7) (b := t) (c := 0) (XP_f_25 (D := P.1) (B := P.2) (i := 6) (v := P.1 7 6 + 1) q3)
    have e : (sA P.1 7 6 (P.1 7 6 + 1), P.2).1 7 3 = P.1 7 3 := by
      show sA P.1 7 6 (P.1 7 6 + 1) 7 3 = _
      rw [sA_eq, upd_ne (by decide)]
    rw [e] at s2
    rw [s1, ob]
    exact ⟨S2, rfl, s2, (ho1.wF (by decide)).tr s3⟩
  | some c =>
    have hc := (bst_some (n := n) (by omega) (fun c e => by cases e) c hb).1
    rw [hb] at q2
    rw [show o2i (some c) = nI c from rfl, if_neg (nI_ne_m1 (by omega))]
    obtain ⟨S2, r1, r2, r3, r4⟩ := reach_25 (L := L) hn hc q3 q2
    rw [r1, ob]
    simp only
    cases ansW L false P.1 c
    · rw [b2i_f, if_pos rfl, show rF S2 25 4 = tell L P.1 c 0 from r3, show rF S2 1 5 = P.1 7 5 from (r2.1.2 5 (by omega) (by omega)).trans (rch_7 false P.1 c (i := 5) (by decide))]
      obtain ⟨S3, s1, s2, s3⟩ := ent_25 (a := 6) (b := nI c) (c := tell L P.1 c 0) (XP_f_25 (i := 5) (v := P.1 7 5 + 1) r2)
      have e : (sA (rchD false P.1 c) 7 5 (P.1 7 5 + 1), P.2).1 7 3 = P.1 7 3 := by
        show sA (rchD false P.1 c) 7 5 (P.1 7 5 + 1) 7 3 = _
        rw [sA_eq, upd_ne (by decide), rch_3]
      rw [e] at s2
      rw [s1, ob]
      exact ⟨S3, rfl, s2, ((ho1.tr r4).wF (by decide)).tr s3⟩
    · rw [b2i_t, if_neg (by decide), show rF S2 25 4 = tell L P.1 c 0 from r3, show rF S2 1 4 = P.1 7 4 from (r2.1.2 4 (by omega) (by omega)).trans (rch_7 false P.1 c (i := 4) (by decide))]
      obtain ⟨S3, s1, s2, s3⟩ := ent_25 (a := 5) (b := nI c) (c := tell L P.1 c 0) (XP_f_25 (i := 4) (v := P.1 7 4 + 1) r2)
      have e : (sA (rchD false P.1 c) 7 4 (P.1 7 4 + 1), P.2).1 7 3 = P.1 7 3 := by
        show sA (rchD false P.1 c) 7 4 (P.1 7 4 + 1) 7 3 = _
        rw [sA_eq, upd_ne (by decide), rch_3]
      rw [e] at s2
      rw [s1, ob]
      exact ⟨S3, rfl, s2, ((ho1.tr r4).wF (by decide)).tr s3⟩
theorem want_25 {n : Nat} {L : tL} {P : tP} {S : pS} (hL : WL L) (hD : WD n P.1) (h : XP_25 P S) (hXL : XL 4 L S) : ∃ S', Ke_wantTrade_25 S = some (0, S') ∧ XP_25 (wntP L false n P).2 S' ∧ Off FK_25 WK_25 S S' := by
  rw [Ke_wantTrade_25_eq]
  unfold wntP wntT wntD
  rw [if_pos (show rF S 25 3 = 0 from h.2.1), if_neg Bool.false_ne_true, if_neg Bool.false_ne_true, Dr_draw_1_eq, if_neg (by decide), if_neg (by decide), ob, show rF S 1 7 = P.1 7 7 from h.1.2 7 (by omega) (by omega)]
  have ho : Off FK_25 WK_25 S (wF S 1 7 (P.1 7 7 * 1664525 + 1013904223)) := Off.rf.wF (by decide)
  have hw : XP_25 (sA P.1 7 7 (drS P.1), P.2) (wF S 1 7 (P.1 7 7 * 1664525 + 1013904223)) := XP_f_25 (D := P.1) h
  obtain ⟨S', q1, q2, q3⟩ := want2_25 (t := drV (drS P.1) 6) hL (WD_up hD (by omega) (by omega)) hw (XL_fk_25 hXL ho)
  exact ⟨S', q1, q2, ho.tr q3⟩
theorem wear_25 {n c : Nat} {L : tL} {P : tP} {S : pS} (hL : WL L) (hc : c < n) (hD : WD n P.1) (h : XP_25 P S) (hXL : XL 4 L S) : ∃ S', Ke_wearCard_25 (nI c) S = some (0, S') ∧ XP_25 (werP L false c P) S' ∧ Off FK_25 WK_25 S S' := by
  have hn := hD.1
  have r5 : Dr_read_1 (nI c) (5 : Int32) S = some (P.1 5 c, S) := read_1 (n := 0) (r := 5) h.1 (by omega) (by omega)
  obtain ⟨S1, q1, q2⟩ := tell_1 (c := c) (w := 1) hD hL h.1 hXL (by omega) (by omega)
  have q1 : La_tell_4_1 (nI c) (1 : Int32) S = _ := q1
  have ho1 : Off [(25, 4)] [10, 11] S S1 := q2.mono (by simp) (by simp)
  have h1 := XP_off_25 h ho1
  have r5' : Dr_read_1 (nI c) (5 : Int32) S1 = some (P.1 5 c, S1) := read_1 (n := 0) (r := 5) h1.1 (by omega) (by omega)
  have w5 : Dr_write_1 (nI c) (5 : Int32) (mn99 (P.1 5 c + tell L P.1 c 1)) S1 = _ := write_1 (r := 5) (by omega) (by omega)
  have hw : XP_25 (sA P.1 5 c (mn99 (P.1 5 c + tell L P.1 c 1)), P.2) (wA S1 2 (nI (5 * 14 + c)) (mn99 (P.1 5 c + tell L P.1 c 1))) := XP_row_25 (D := P.1) h1 (by omega) (by omega)
  have r5'' : Dr_read_1 (nI c) (5 : Int32) (wA S1 2 (nI (5 * 14 + c)) (mn99 (P.1 5 c + tell L P.1 c 1))) = some (mn99 (P.1 5 c + tell L P.1 c 1), wA S1 2 (nI (5 * 14 + c)) (mn99 (P.1 5 c + tell L P.1 c 1))) := by
    have := read_1 (n := 0) (r := 5) (c := c) hw.1 (by omega) (by omega)
    simp only [sA_eq, upd_eq] at this
    exact this
  rw [Ke_wearCard_25_eq, r5, ob]
  simp only
  rw [q1, ob, Dr_wear_1_eq]
  simp only
  rw [r5', ob]
  simp only
  rw [show (if P.1 5 c + tell L P.1 c 1 < (99 : Int32) then P.1 5 c + tell L P.1 c 1 else (99 : Int32)) = mn99 (P.1 5 c + tell L P.1 c 1) from rfl, w5, ob, ob]
  simp only
  rw [r5'', ob]
  simp only
  unfold werP
  by_cases e : mn99 (P.1 5 c + tell L P.1 c 1) < 99
  · rw [if_pos e, if_pos e]
    exact ⟨_, rfl, hw, (off_fk_25 ho1).wA (by decide)⟩
  · rw [if_neg e, if_neg e, Dr_drop_1_eq, ob]
    have e2 : rF (wA S1 2 (nI (5 * 14 + c)) (mn99 (P.1 5 c + tell L P.1 c 1))) 1 2 = sA P.1 5 c (mn99 (P.1 5 c + tell L P.1 c 1)) 7 2 := hw.1.2 2 (by omega) (by omega)
    rw [e2]
    have hw2 : XP_25 (drp (sA P.1 5 c (mn99 (P.1 5 c + tell L P.1 c 1))) c, P.2) (wF (wA S1 2 (nI (5 * 14 + c)) (mn99 (P.1 5 c + tell L P.1 c 1))) 1 2 (sA P.1 5 c (mn99 (P.1 5 c + tell L P.1 c 1)) 7 2 &&& (((1 : Int32) <<< (nI c &&& 31)) ^^^ (-1 : Int32)))) := XP_f_25 hw
    obtain ⟨S2, s1, s2, s3⟩ := ent_25 (a := 8) (b := nI c) (c := P.1 5 c) hw2
    have e3 : (drp (sA P.1 5 c (mn99 (P.1 5 c + tell L P.1 c 1))) c, P.2).1 7 3 = P.1 7 3 := by
      show drp (sA P.1 5 c (mn99 (P.1 5 c + tell L P.1 c 1))) c 7 3 = _
      unfold drp
      rw [sA_eq, upd_ne (by decide), sA_ne (by decide)]
    rw [e3] at s2
    simp only
    rw [s1, ob]
    exact ⟨S2, rfl, s2, (((off_fk_25 ho1).wA (by decide)).wF (by decide)).tr s3⟩
theorem wearA_25 {n : Nat} {L : tL} (hL : WL L) : ∀ (k i : Nat) (P : tP) (S : pS), i + k = n → WD n P.1 → XP_25 P S → XL 4 L S → ∃ S', Ke_passYear_25_c78 (nI i) S = some (0, S') ∧ XP_25 (sA (werA L false k i P).1 7 3 ((werA L false k i P).1 7 3 + 1), (werA L false k i P).2) S' ∧ Off FK_25 WK_25 S S' := by
  intro k
  induction k with
  | zero =>
    intro i P S hi hD h hXL
    have hn := hD.1
    rw [Ke_passYear_25_c78_eq, show rF S 1 1 = nI n from cards_1 hD h.1, if_neg (by rw [nI_ltE (by omega) (by omega)]; omega), show rF S 1 3 = P.1 7 3 from h.1.2 3 (by omega) (by omega)]
    exact ⟨_, rfl, XP_f_25 (D := P.1) h, Off.rf.wF (by decide)⟩
  | succ k ih =>
    intro i P S hi hD h hXL
    have hn := hD.1
    rw [Ke_passYear_25_c78_eq, show rF S 1 1 = nI n from cards_1 hD h.1, if_pos (by rw [nI_ltE (by omega) (by omega)]; omega), kept_1 h.1 (by omega), ob]
    simp only [nI_1]
    rw [show werA L false (k + 1) i P = werA L false k (i + 1) (if bt (P.1 7 2) i then werP L false i P else P) from rfl]
    cases hk : bt (P.1 7 2) i
    · rw [b2i_f, if_pos rfl, if_neg Bool.false_ne_true]
      exact ih (i + 1) P S (by omega) hD h hXL
    · rw [b2i_t, if_neg (by decide), if_pos rfl]
      obtain ⟨S1, q1, q2, q3⟩ := wear_25 (c := i) hL (by omega) hD h hXL
      rw [q1, ob]
      obtain ⟨S2, r1, r2, r3⟩ := ih (i + 1) _ S1 (by omega) (WD_wer hD) q2 (XL_fk_25 hXL q3)
      exact ⟨S2, r1, r2, q3.tr r3⟩
theorem planA_25 {n m : Nat} {L : tL} {A : Nat → Nat → Nat} (hL : WL L) (hA : WPl m n A) : ∀ (k i : Nat) (P : tP) (S : pS), i + k = m → WD n P.1 → XP_25 P S → XL 4 L S → XPl m A S → ∃ S', Ke_passYear_25_c2 (nI i) S = some (0, S') ∧ XP_25 (sA (werA L false n 0 (wntP L false n (plnP L false n A k i P)).2).1 7 3 ((werA L false n 0 (wntP L false n (plnP L false n A k i P)).2).1 7 3 + 1), (werA L false n 0 (wntP L false n (plnP L false n A k i P)).2).2) S' ∧ Off FK_25 WK_25 S S' := by
  have hm := hA.1
  intro k
  induction k with
  | zero =>
    intro i P S hi hD h hXL hPl
    rw [Ke_passYear_25_c2_eq, show rF S 15 2 = nI m from hPl.1, if_neg (by rw [nI_ltE (by omega) (by omega)]; omega)]
    obtain ⟨S1, q1, q2, q3⟩ := want_25 hL hD h hXL
    rw [q1, ob]
    obtain ⟨S2, r1, r2, r3⟩ := wearA_25 hL n 0 _ S1 (by omega) (WD_wnt hD) q2 (XL_fk_25 hXL q3)
    exact ⟨S2, r1, r2, q3.tr r3⟩
  | succ k ih =>
    intro i P S hi hD h hXL hPl
    obtain ⟨w0, w1, w2, w3⟩ := hA.2 i (by omega)
    obtain ⟨p0, p1, p2⟩ := hPl.2 i (by omega)
    have a0 : Ro_at_15 (nI i) (0 : Int32) S = some (nI (A i 0), S) := by rw [← p0]; exact plan_at (j := 0) hm hPl.1 (by omega) (by omega)
    have a1 : Ro_at_15 (nI i) (1 : Int32) S = some (nI (320 + A i 1), S) := by rw [← p1]; exact plan_at (j := 1) hm hPl.1 (by omega) (by omega)
    have a2 : Ro_at_15 (nI i) (2 : Int32) S = some (nI (A i 2), S) := by rw [← p2]; exact plan_at (j := 2) hm hPl.1 (by omega) (by omega)
    rw [Ke_passYear_25_c2_eq, show rF S 15 2 = nI m from hPl.1, if_pos (by rw [nI_ltE (by omega) (by omega)]; omega), a0, ob]
    have e : plnP L false n A (k + 1) i P = plnP L false n A k (i + 1) (if nI (A i 0) = P.1 7 3 then dedP L false n (A i 1) (A i 2) P else P) := rfl
    rw [e]
    simp only [nI_1]
    rw [show rF S 1 3 = P.1 7 3 from h.1.2 3 (by omega) (by omega)]
    by_cases q : nI (A i 0) = P.1 7 3
    · rw [if_pos q, if_pos q, a1, ob]
      simp only
      rw [a2, ob]
      simp only
      obtain ⟨S1, q1, q2, q3⟩ := deed_25 (i := i) hL hA (by omega) hD h hXL
      rw [q1, ob]
      obtain ⟨S2, r1, r2, r3⟩ := ih (i + 1) _ S1 (by omega) (WD_ded hD w3) q2 (XL_fk_25 hXL q3) (XPl_off hPl q3 (by decide) (by decide))
      exact ⟨S2, r1, r2, q3.tr r3⟩
    · rw [if_neg q, if_neg q]
      exact ih (i + 1) P S (by omega) hD h hXL hPl
/-- a year of the class -/
theorem year_25 {n m : Nat} {L : tL} {A : Nat → Nat → Nat} {P : tP} {S : pS} (hL : WL L) (hA : WPl m n A) (hD : WD n P.1) (h : XP_25 P S) (hXL : XL 4 L S) (hPl : XPl m A S) : ∃ S', Ke_passYear_25 S = some (0, S') ∧ XP_25 (yerP L false n m A P).2 S' ∧ Off FK_25 WK_25 S S' := by
  rw [Ke_passYear_25_eq]
  exact planA_25 hL hA m 0 P S (by omega) hD h hXL hPl
/-! Years of the class: the keeper at cell 28. -/
theorem has_26 {n c : Nat} {D : tD} {S : pS} (hD : WD n D) (hX : XD 26 D S) (hc : c < 2147483648) : Dr_has_26 (nI c) S = some (b2i (decide (c < n)), S) := by
  have := hD.1
  rw [Dr_has_26_eq, show rF S 26 1 = nI n from cards_26 hD hX, if_neg (show ¬ nI c < 0 from nI_pos (by omega))]
  by_cases q : c < n
  · rw [if_pos (by rw [nI_ltE hc (by omega)]; exact q), decide_eq_true q]; rfl
  · rw [if_neg (by rw [nI_ltE hc (by omega)]; exact q), decide_eq_false q]; rfl
theorem deed_28 {n m i : Nat} {L : tL} {A : Nat → Nat → Nat} {P : tP} {S : pS} (hL : WL L) (hA : WPl m n A) (hi : i < m) (hD : WD n P.1) (h : XP_28 P S) (hXL : XL 4 L S) : ∃ S', Ke_carryOut_28 (nI (320 + A i 1)) (nI (A i 2)) S = some (0, S') ∧ XP_28 (dedP L true n (A i 1) (A i 2) P) S' ∧ Off FK_28 WK_28 S S' := by
  obtain ⟨w0, w1, w2, w3⟩ := hA.2 i hi
  have hn := hD.1
  rw [Ke_carryOut_28_eq]
  unfold dedP
  by_cases a0 : A i 1 = 0
  · rw [if_pos a0, a0, if_pos (show nI (320 + 0) = (320 : Int32) from rfl)]
    obtain ⟨S1, q1, q2, q3⟩ := thr_28 (v := A i 2) hL (by omega) hD h hXL
    rw [q1, ob]
    exact ⟨S1, rfl, q2, q3⟩
  rw [if_neg a0, if_neg (show ¬ nI (320 + A i 1) = (320 : Int32) from fun e => by have := (nI_eq (b := 320) (by omega) (by omega)).mp e; omega)]
  by_cases a1 : A i 1 = 1
  · rw [if_pos a1, a1, if_pos (show nI (320 + 1) = (321 : Int32) from rfl)]
    cases hb : bst L P.1 (perQ P.1 (nI (A i 2))) n 0 none with
    | none =>
      obtain ⟨S1, q1, q2, q3⟩ := ringN_28 hD hL h hXL hb
      rw [q1, ob]
      exact ⟨S1, rfl, q2, q3⟩
    | some c =>
      obtain ⟨S1, q1, q2, q3⟩ := ringS_28 hD hL h hXL hb
      rw [q1, ob]
      exact ⟨S1, rfl, q2, q3⟩
  rw [if_neg a1, if_neg (show ¬ nI (320 + A i 1) = (321 : Int32) from fun e => by have := (nI_eq (b := 321) (by omega) (by omega)).mp e; omega), has_26 hD h.1 (by omega), ob, decide_eq_true (w3 (by omega)), if_neg (show ¬ b2i true = 0 by decide)]
  have hv := w3 (by omega)
  by_cases a2 : A i 1 = 2
  · rw [if_pos a2, a2, if_pos (show nI (320 + 2) = (322 : Int32) from rfl)]
    obtain ⟨S1, q1, q2, q3⟩ := bend_28 (c := A i 2) (by omega) h
    simp only
    rw [q1, ob]
    exact ⟨S1, rfl, q2, q3⟩
  rw [if_neg a2, if_neg (show ¬ nI (320 + A i 1) = (322 : Int32) from fun e => by have := (nI_eq (b := 322) (by omega) (by omega)).mp e; omega)]
  simp only
  cases hk : bt (P.1 7 2) (A i 2)
  · obtain ⟨S1, q1, q2, q3⟩ := find_28 (c := A i 2) (by omega) hk h
    rw [q1, ob]
    exact ⟨S1, rfl, q2, q3⟩
  · rw [Ke_findCard_28_eq, kept_26 h.1 (by omega), hk, ob, if_neg (show ¬ b2i true = 0 by decide), ob]
    exact ⟨S, rfl, h, Off.rf⟩
theorem want2_28 {n : Nat} {t : Int32} {L : tL} {P : tP} {S : pS} (hL : WL L) (hD : WD n P.1) (h : XP_28 P S) (hXL : XL 4 L S) : ∃ S', Ke_wantTrade_28_c29 t S = some (0, S') ∧ XP_28 (wntP2 L true n t P).2 S' ∧ Off FK_28 WK_28 S S' := by
  have hn := hD.1
  obtain ⟨S1, q1, q2, q3, q4⟩ := likely_28 (set := kw P.1 2 t n) (q := wrtQ P.1 t) hD hL h hXL (fun c hc => by rw [kw_bt (by omega), decide_eq_true hc]; rfl)
  rw [Ke_wantTrade_28_c29_eq, show Dr_keptWith_26 (2 : Int32) t S = _ from keptW_26 (r := 2) hD h.1 (by omega), ob]
  simp only
  rw [q1, ob]
  unfold wntP2
  have ho1 := off_fk_28 q4
  simp only
  cases hb : bst L P.1 (wrtQ P.1 t) n 0 none with
  | none =>
    rw [if_pos (show o2i none = (-1 : Int32) from rfl), show rF S1 26 6 = P.1 7 6 from q3.1.2 6 (by omega) (by omega)]
    obtain ⟨S2, s1, s2, s3⟩ := ent_28 (a := 7) (b := t) (c := 0) (XP_f_28 (D := P.1) (B := P.2) (i := 6) (v := P.1 7 6 + 1) q3)
    have e : (sA P.1 7 6 (P.1 7 6 + 1), P.2).1 7 3 = P.1 7 3 := by
      show sA P.1 7 6 (P.1 7 6 + 1) 7 3 = _
      rw [sA_eq, upd_ne (by decide)]
    rw [e] at s2
    rw [s1, ob]
    exact ⟨S2, rfl, s2, (ho1.wF (by decide)).tr s3⟩
  | some c =>
    have hc := (bst_some (n := n) (by omega) (fun c e => by cases e) c hb).1
    rw [hb] at q2
    rw [show o2i (some c) = nI c from rfl, if_neg (nI_ne_m1 (by omega))]
    obtain ⟨S2, r1, r2, r3, r4⟩ := reach_28 (L := L) hn hc q3 q2
    rw [r1, ob]
    simp only
    cases ansW L true P.1 c
    · rw [b2i_f, if_pos rfl, show rF S2 28 4 = tell L P.1 c 0 from r3, show rF S2 26 5 = P.1 7 5 from (r2.1.2 5 (by omega) (by omega)).trans (rch_7 true P.1 c (i := 5) (by decide))]
      obtain ⟨S3, s1, s2, s3⟩ := ent_28 (a := 6) (b := nI c) (c := tell L P.1 c 0) (XP_f_28 (i := 5) (v := P.1 7 5 + 1) r2)
      have e : (sA (rchD true P.1 c) 7 5 (P.1 7 5 + 1), P.2).1 7 3 = P.1 7 3 := by
        show sA (rchD true P.1 c) 7 5 (P.1 7 5 + 1) 7 3 = _
        rw [sA_eq, upd_ne (by decide), rch_3]
      rw [e] at s2
      rw [s1, ob]
      exact ⟨S3, rfl, s2, ((ho1.tr r4).wF (by decide)).tr s3⟩
    · rw [b2i_t, if_neg (by decide), show rF S2 28 4 = tell L P.1 c 0 from r3, show rF S2 26 4 = P.1 7 4 from (r2.1.2 4 (by omega) (by omega)).trans (rch_7 true P.1 c (i := 4) (by decide))]
      obtain ⟨S3, s1, s2, s3⟩ := ent_28 (a := 5) (b := nI c) (c := tell L P.1 c 0) (XP_f_28 (i := 4) (v := P.1 7 4 + 1) r2)
      have e : (sA (rchD true P.1 c) 7 4 (P.1 7 4 + 1), P.2).1 7 3 = P.1 7 3 := by
        show sA (rchD true P.1 c) 7 4 (P.1 7 4 + 1) 7 3 = _
        rw [sA_eq, upd_ne (by decide), rch_3]
      rw [e] at s2
      rw [s1, ob]
      exact ⟨S3, rfl, s2, ((ho1.tr r4).wF (by decide)).tr s3⟩
theorem want_28 {n : Nat} {L : tL} {P : tP} {S : pS} (hL : WL L) (hD : WD n P.1) (h : XP_28 P S) (hXL : XL 4 L S) : ∃ S', Ke_wantTrade_28 S = some (0, S') ∧ XP_28 (wntP L true n P).2 S' ∧ Off FK_28 WK_28 S S' := by
  rw [Ke_wantTrade_28_eq]
  unfold wntP wntT wntD
  rw [show rF S 28 3 = 1 from h.2.1, if_neg (by decide), if_pos rfl, if_pos rfl, show rF S 26 3 = P.1 7 3 from h.1.2 3 (by omega) (by omega)]
  exact want2_28 hL hD h hXL
theorem wear_28 {n c : Nat} {L : tL} {P : tP} {S : pS} (hL : WL L) (hc : c < n) (hD : WD n P.1) (h : XP_28 P S) (hXL : XL 4 L S) : ∃ S', Ke_wearCard_28 (nI c) S = some (0, S') ∧ XP_28 (werP L true c P) S' ∧ Off FK_28 WK_28 S S' := by
  have hn := hD.1
  have r5 : Dr_read_26 (nI c) (5 : Int32) S = some (P.1 5 c, S) := read_26 (n := 0) (r := 5) h.1 (by omega) (by omega)
  obtain ⟨S1, q1, q2⟩ := tell_26 (c := c) (w := 1) hD hL h.1 hXL (by omega) (by omega)
  have q1 : La_tell_4_26 (nI c) (1 : Int32) S = _ := q1
  have ho1 : Off [(28, 4)] [10, 11] S S1 := q2.mono (by simp) (by simp)
  have h1 := XP_off_28 h ho1
  have r5' : Dr_read_26 (nI c) (5 : Int32) S1 = some (P.1 5 c, S1) := read_26 (n := 0) (r := 5) h1.1 (by omega) (by omega)
  have w5 : Dr_write_26 (nI c) (5 : Int32) (mn99 (P.1 5 c + tell L P.1 c 1)) S1 = _ := write_26 (r := 5) (by omega) (by omega)
  have hw : XP_28 (sA P.1 5 c (mn99 (P.1 5 c + tell L P.1 c 1)), P.2) (wA S1 27 (nI (5 * 14 + c)) (mn99 (P.1 5 c + tell L P.1 c 1))) := XP_row_28 (D := P.1) h1 (by omega) (by omega)
  have r5'' : Dr_read_26 (nI c) (5 : Int32) (wA S1 27 (nI (5 * 14 + c)) (mn99 (P.1 5 c + tell L P.1 c 1))) = some (mn99 (P.1 5 c + tell L P.1 c 1), wA S1 27 (nI (5 * 14 + c)) (mn99 (P.1 5 c + tell L P.1 c 1))) := by
    have := read_26 (n := 0) (r := 5) (c := c) hw.1 (by omega) (by omega)
    simp only [sA_eq, upd_eq] at this
    exact this
  rw [Ke_wearCard_28_eq, r5, ob]
  simp only
  rw [q1, ob, Dr_wear_26_eq]
  simp only
  rw [r5', ob]
  simp only
  rw [show (if P.1 5 c + tell L P.1 c 1 < (99 : Int32) then P.1 5 c + tell L P.1 c 1 else (99 : Int32)) = mn99 (P.1 5 c + tell L P.1 c 1) from rfl, w5, ob, ob]
  simp only
  rw [r5'', ob]
  simp only
  unfold werP
  by_cases e : mn99 (P.1 5 c + tell L P.1 c 1) < 99
  · rw [if_pos e, if_pos e]
    exact ⟨_, rfl, hw, (off_fk_28 ho1).wA (by decide)⟩
  · rw [if_neg e, if_neg e, Dr_drop_26_eq, ob]
    have e2 : rF (wA S1 27 (nI (5 * 14 + c)) (mn99 (P.1 5 c + tell L P.1 c 1))) 26 2 = sA P.1 5 c (mn99 (P.1 5 c + tell L P.1 c 1)) 7 2 := hw.1.2 2 (by omega) (by omega)
    rw [e2]
    have hw2 : XP_28 (drp (sA P.1 5 c (mn99 (P.1 5 c + tell L P.1 c 1))) c, P.2) (wF (wA S1 27 (nI (5 * 14 + c)) (mn99 (P.1 5 c + tell L P.1 c 1))) 26 2 (sA P.1 5 c (mn99 (P.1 5 c + tell L P.1 c 1)) 7 2 &&& (((1 : Int32) <<< (nI c &&& 31)) ^^^ (-1 : Int32)))) := XP_f_28 hw
    obtain ⟨S2, s1, s2, s3⟩ := ent_28 (a := 8) (b := nI c) (c := P.1 5 c) hw2
    have e3 : (drp (sA P.1 5 c (mn99 (P.1 5 c + tell L P.1 c 1))) c, P.2).1 7 3 = P.1 7 3 := by
      show drp (sA P.1 5 c (mn99 (P.1 5 c + tell L P.1 c 1))) c 7 3 = _
      unfold drp
      rw [sA_eq, upd_ne (by decide), sA_ne (by decide)]
    rw [e3] at s2
    simp only
    rw [s1, ob]
    exact ⟨S2, rfl, s2, (((off_fk_28 ho1).wA (by decide)).wF (by decide)).tr s3⟩
theorem wearA_28 {n : Nat} {L : tL} (hL : WL L) : ∀ (k i : Nat) (P : tP) (S : pS), i + k = n → WD n P.1 → XP_28 P S → XL 4 L S → ∃ S', Ke_passYear_28_c78 (nI i) S = some (0, S') ∧ XP_28 (sA (werA L true k i P).1 7 3 ((werA L true k i P).1 7 3 + 1), (werA L true k i P).2) S' ∧ Off FK_28 WK_28 S S' := by
  intro k
  induction k with
  | zero =>
    intro i P S hi hD h hXL
    have hn := hD.1
    rw [Ke_passYear_28_c78_eq, show rF S 26 1 = nI n from cards_26 hD h.1, if_neg (by rw [nI_ltE (by omega) (by omega)]; omega), show rF S 26 3 = P.1 7 3 from h.1.2 3 (by omega) (by omega)]
    exact ⟨_, rfl, XP_f_28 (D := P.1) h, Off.rf.wF (by decide)⟩
  | succ k ih =>
    intro i P S hi hD h hXL
    have hn := hD.1
    rw [Ke_passYear_28_c78_eq, show rF S 26 1 = nI n from cards_26 hD h.1, if_pos (by rw [nI_ltE (by omega) (by omega)]; omega), kept_26 h.1 (by omega), ob]
    simp only [nI_1]
    rw [show werA L true (k + 1) i P = werA L true k (i + 1) (if bt (P.1 7 2) i then werP L true i P else P) from rfl]
    cases hk : bt (P.1 7 2) i
    · rw [b2i_f, if_pos rfl, if_neg Bool.false_ne_true]
      exact ih (i + 1) P S (by omega) hD h hXL
    · rw [b2i_t, if_neg (by decide), if_pos rfl]
      obtain ⟨S1, q1, q2, q3⟩ := wear_28 (c := i) hL (by omega) hD h hXL
      rw [q1, ob]
      obtain ⟨S2, r1, r2, r3⟩ := ih (i + 1) _ S1 (by omega) (WD_wer hD) q2 (XL_fk_28 hXL q3)
      exact ⟨S2, r1, r2, q3.tr r3⟩
theorem planA_28 {n m : Nat} {L : tL} {A : Nat → Nat → Nat} (hL : WL L) (hA : WPl m n A) : ∀ (k i : Nat) (P : tP) (S : pS), i + k = m → WD n P.1 → XP_28 P S → XL 4 L S → XPl m A S → ∃ S', Ke_passYear_28_c2 (nI i) S = some (0, S') ∧ XP_28 (sA (werA L true n 0 (wntP L true n (plnP L true n A k i P)).2).1 7 3 ((werA L true n 0 (wntP L true n (plnP L true n A k i P)).2).1 7 3 + 1), (werA L true n 0 (wntP L true n (plnP L true n A k i P)).2).2) S' ∧ Off FK_28 WK_28 S S' := by
  have hm := hA.1
  intro k
  induction k with
  | zero =>
    intro i P S hi hD h hXL hPl
    rw [Ke_passYear_28_c2_eq, show rF S 15 2 = nI m from hPl.1, if_neg (by rw [nI_ltE (by omega) (by omega)]; omega)]
    obtain ⟨S1, q1, q2, q3⟩ := want_28 hL hD h hXL
    rw [q1, ob]
    obtain ⟨S2, r1, r2, r3⟩ := wearA_28 hL n 0 _ S1 (by omega) (WD_wnt hD) q2 (XL_fk_28 hXL q3)
    exact ⟨S2, r1, r2, q3.tr r3⟩
  | succ k ih =>
    intro i P S hi hD h hXL hPl
    obtain ⟨w0, w1, w2, w3⟩ := hA.2 i (by omega)
    obtain ⟨p0, p1, p2⟩ := hPl.2 i (by omega)
    have a0 : Ro_at_15 (nI i) (0 : Int32) S = some (nI (A i 0), S) := by rw [← p0]; exact plan_at (j := 0) hm hPl.1 (by omega) (by omega)
    have a1 : Ro_at_15 (nI i) (1 : Int32) S = some (nI (320 + A i 1), S) := by rw [← p1]; exact plan_at (j := 1) hm hPl.1 (by omega) (by omega)
    have a2 : Ro_at_15 (nI i) (2 : Int32) S = some (nI (A i 2), S) := by rw [← p2]; exact plan_at (j := 2) hm hPl.1 (by omega) (by omega)
    rw [Ke_passYear_28_c2_eq, show rF S 15 2 = nI m from hPl.1, if_pos (by rw [nI_ltE (by omega) (by omega)]; omega), a0, ob]
    have e : plnP L true n A (k + 1) i P = plnP L true n A k (i + 1) (if nI (A i 0) = P.1 7 3 then dedP L true n (A i 1) (A i 2) P else P) := rfl
    rw [e]
    simp only [nI_1]
    rw [show rF S 26 3 = P.1 7 3 from h.1.2 3 (by omega) (by omega)]
    by_cases q : nI (A i 0) = P.1 7 3
    · rw [if_pos q, if_pos q, a1, ob]
      simp only
      rw [a2, ob]
      simp only
      obtain ⟨S1, q1, q2, q3⟩ := deed_28 (i := i) hL hA (by omega) hD h hXL
      rw [q1, ob]
      obtain ⟨S2, r1, r2, r3⟩ := ih (i + 1) _ S1 (by omega) (WD_ded hD w3) q2 (XL_fk_28 hXL q3) (XPl_off hPl q3 (by decide) (by decide))
      exact ⟨S2, r1, r2, q3.tr r3⟩
    · rw [if_neg q, if_neg q]
      exact ih (i + 1) P S (by omega) hD h hXL hPl
theorem year_28 {n m : Nat} {L : tL} {A : Nat → Nat → Nat} {P : tP} {S : pS} (hL : WL L) (hA : WPl m n A) (hD : WD n P.1) (h : XP_28 P S) (hXL : XL 4 L S) (hPl : XPl m A S) : ∃ S', Ke_passYear_28 S = some (0, S') ∧ XP_28 (yerP L true n m A P).2 S' ∧ Off FK_28 WK_28 S S' := by
  rw [Ke_passYear_28_eq]
  exact planA_28 hL hA m 0 P S (by omega) hD h hXL hPl
