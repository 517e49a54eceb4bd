/-! Years of the reference. -/
theorem R_bendP {th : Bool} {n c : Nat} {P : tP} {S : pS} (hn : n ≤ 14) (hc : c < n) (h : RP th n P S) : ∃ S', R_bends (nI c) S = some (0, S') ∧ RP th n (bndP th P c) S' ∧ Off [] WR S S' := by
  have h4 := (h.1.1.1 c (by omega)).2.2.2.2.1
  have hw : RP th n (sA P.1 4 c (1 - P.1 4 c), P.2) (wA S 1 (nI (62 + c)) (1 - P.1 4 c)) := RP_w (D := P.1) h (by omega) (by omega) (RD_row h.1.1 (by omega) (by omega) hn)
  obtain ⟨S1, q1, q2, q3⟩ := R_noteP (a := 3) (b := nI c) (c := 1 - P.1 4 c) hw
  rw [R_bends_eq]
  simp (disch := omega) only [show (62 : Int32) = nI 62 from rfl, nI_add, inb_n, if_true, rA_n, h4, wA_21, sA_eq, upd_eq, q1, ob]
  refine ⟨S1, rfl, ?_, ((Off.rf.wA (by decide)).tr (q3.mono (by simp) (by simp)))⟩
  simp only [sA_ne (show (7 : Nat) ≠ 4 by decide)] at q2
  exact q2
theorem R_findP {th : Bool} {n c : Nat} {P : tP} {S : pS} (hn : n ≤ 14) (hc : c < n) (h : RP th n P S) : ∃ S', R_finds (nI c) S = some (0, S') ∧ RP th n (fndP th P c) S' ∧ Off [] WR S S' := by
  have hw : RP th n (sA P.1 7 2 (P.1 7 2 ||| bit c), P.2) (wA S 1 (nI (48 + c)) 0) := by
    refine RP_w (D := P.1) h (by omega) (by omega) (RD_kept h.1.1 (by omega) hn (fun c' h1 h2 => ?_) ?_)
    · rw [b_or, bt_bit (by omega), decide_eq_false h2, Bool.or_false]
    · rw [b_or, bt_bit (by omega), decide_eq_true rfl, Bool.or_true]
      rfl
  have hw2 : RP th n (sA (sA P.1 7 2 (P.1 7 2 ||| bit c)) 5 c 0, P.2) (wA (wA S 1 (nI (48 + c)) 0) 1 (nI (20 + c)) 0) := RP_w hw (by omega) (by omega) (RD_row hw.1.1 (by omega) (by omega) hn)
  obtain ⟨S1, q1, q2, q3⟩ := R_noteP (a := 4) (b := nI c) (c := 0) hw2
  rw [R_finds_eq]
  simp (disch := omega) only [show (48 : Int32) = nI 48 from rfl, show (20 : Int32) = nI 20 from rfl, nI_add, inb_n, if_true, q1, ob]
  refine ⟨S1, rfl, ?_, (((Off.rf.wA (by decide)).wA (by decide)).tr (q3.mono (by simp) (by simp)))⟩
  have e : sA (sA P.1 7 2 (P.1 7 2 ||| bit c)) 5 c 0 7 3 = P.1 7 3 := by rw [sA_ne (by decide), sA_eq, upd_ne (by decide)]
  simp only [e] at q2
  exact q2
/-- the plan of the reference -/
def RPl (m : Nat) (A : Nat → Nat → Nat) (S : pS) : Prop := S.1 0 39 = nI m ∧ ∀ i, i < m → S.2.1 21 (3 * i) = nI (A i 0) ∧ S.2.1 21 (3 * i + 1) = nI (A i 1) ∧ S.2.1 21 (3 * i + 2) = nI (A i 2)
def WPl (m n : Nat) (A : Nat → Nat → Nat) : Prop := m ≤ 16 ∧ ∀ i, i < m → A i 0 ≤ 99 ∧ A i 1 < 4 ∧ A i 2 ≤ 14 ∧ (2 ≤ A i 1 → A i 2 < n)
theorem RPl_wr {m : Nat} {A : Nat → Nat → Nat} {S S' : pS} (h : RPl m A S) (ho : Off [] WR S S') : RPl m A S' := by
  unfold RPl at *
  rw [ho.1 _ _ (by simp), ho.2.1 21 (by decide)]
  exact h
theorem R_throwP {th : Bool} {n v : Nat} {L : tL} {P : tP} {S : pS} (hn : n ≤ 14) (hL : WL L) (hv : v < 1000) (h : RP th n P S) (hRL : RLm L S) : ∃ S', R_throwsSome (nI v) S = some (nI (thsP L th n v 0 P).1, S') ∧ RP th n (thsP L th n v 0 P).2 S' ∧ Off [] WR S S' := by
  obtain ⟨S', h1, h2, h3⟩ := R_throws hn hL v 0 0 P S (by omega) h hRL
  rw [Nat.zero_add] at h1
  exact ⟨S', by rw [R_throwsSome_eq]; exact h1, h2, h3⟩
theorem R_deed {th : Bool} {n m i : Nat} {L : tL} {A : Nat → Nat → Nat} {P : tP} {S : pS} (hn : n ≤ 14) (hL : WL L) (hA : WPl m n A) (hi : i < m) (h : RP th n P S) (hRL : RLm L S) (hPl : RPl m A S) : ∃ S', R_doesDeed (nI (3 * i)) S = some (0, S') ∧ RP th n (dedP L th n (A i 1) (A i 2) P) S' ∧ Off [] WR S S' := by
  obtain ⟨hm, hA2⟩ := hA
  obtain ⟨w0, w1, w2, w3⟩ := hA2 i hi
  have hp : ∀ S1, Off [] WR S S1 → S1.2.1 21 (3 * i + 1) = nI (A i 1) ∧ S1.2.1 21 (3 * i + 2) = nI (A i 2) := fun S1 ho => ((RPl_wr hPl ho).2 i hi).2
  obtain ⟨p1, p2⟩ := hp S Off.rf
  have l26 : ∀ S1, Off [] WR S S1 → A i 1 ≠ 1 → R_doesDeed_c26 (nI (3 * i)) (nI (A i 2)) S1 = R_doesDeed_c54 (nI (3 * i)) (nI (A i 2)) S1 := by
    intro S1 ho hne
    have e1 := (hp S1 ho).1
    rw [R_doesDeed_c26_eq]
    simp (disch := omega) only [fa_lit, nI_add, inb_n, if_true, rA_n, e1, nI_eqE, hne, if_false]
  have l54 : ∀ S1, Off [] WR S S1 → A i 1 ≠ 2 → R_doesDeed_c54 (nI (3 * i)) (nI (A i 2)) S1 = R_doesDeed_c71 (nI (3 * i)) (nI (A i 2)) S1 := by
    intro S1 ho hne
    have e1 := (hp S1 ho).1
    rw [R_doesDeed_c54_eq]
    simp (disch := omega) only [fa_lit, nI_add, inb_n, if_true, rA_n, e1, nI_eqE, hne, if_false]
  have l71 : ∀ S1, Off [] WR S S1 → A i 1 ≠ 3 → R_doesDeed_c71 (nI (3 * i)) (nI (A i 2)) S1 = some (0, S1) := by
    intro S1 ho hne
    have e1 := (hp S1 ho).1
    rw [R_doesDeed_c71_eq]
    simp (disch := omega) only [fa_lit, nI_add, inb_n, if_true, rA_n, e1, nI_eqE, hne, if_false]
  rw [R_doesDeed_eq]
  unfold dedP
  simp (disch := omega) only [fa_lit, nI_add, inb_n, if_true, rA_n, p1, p2, nI_eqE]
  by_cases a0 : A i 1 = 0
  · rw [if_pos a0, if_pos a0]
    obtain ⟨S1, q1, q2, q3⟩ := R_throwP (v := A i 2) hn hL (by omega) h hRL
    rw [q1, ob]
    simp only
    rw [l26 S1 q3 (by omega), l54 S1 q3 (by omega), l71 S1 q3 (by omega)]
    exact ⟨S1, rfl, q2, q3⟩
  rw [if_neg a0, if_neg a0]
  by_cases a1 : A i 1 = 1
  · rw [R_doesDeed_c26_eq]
    obtain ⟨S1, q1, q2⟩ := R_best_p (p := A i 2) hn hL (by omega) h.1 hRL
    have ho1 : Off [] WR S S1 := q2.mono (by simp) (by simp)
    rw [nI_1, if_pos (inb_n (by omega) (by omega)), rA_n (by omega), p1, a1, if_pos (show nI 1 = (1 : Int32) from rfl), q1, ob, if_pos rfl]
    simp only
    cases hb : bst L P.1 (perQ P.1 (nI (A i 2))) n 0 none with
    | none =>
      rw [if_pos (show o2i none = (-1 : Int32) from rfl), l54 S1 ho1 (by omega), l71 S1 ho1 (by omega)]
      exact ⟨S1, rfl, RP_tl h q2, ho1⟩
    | some c =>
      have hc := (bst_some (n := n) (by omega) (fun c e => by cases e) c hb).1
      rw [if_neg (show ¬ o2i (some c) = (-1 : Int32) from nI_ne_m1 (by omega))]
      obtain ⟨S2, r1, r2, r3⟩ := R_ringP (p := A i 2) hn hL (by omega) (RP_tl h q2) (RLm_wr hRL ho1) hb
      rw [r1, ob]
      simp only
      rw [l54 S2 (ho1.tr r3) (by omega), l71 S2 (ho1.tr r3) (by omega)]
      exact ⟨S2, rfl, r2, ho1.tr r3⟩
  rw [if_neg a1, l26 S Off.rf a1]
  by_cases a2 : A i 1 = 2
  · rw [if_pos a2, R_doesDeed_c54_eq]
    obtain ⟨S1, q1, q2, q3⟩ := R_bendP (c := A i 2) hn (w3 (by omega)) h
    simp (disch := omega) only [fa_lit, nI_add, inb_n, if_true, rA_n, p1, nI_eqE, a2, q1, ob]
    rw [l71 S1 q3 (by omega)]
    exact ⟨S1, rfl, q2, q3⟩
  rw [if_neg a2, l54 S Off.rf a2, R_doesDeed_c71_eq]
  have a3 : A i 1 = 3 := by omega
  simp (disch := omega) only [fa_lit, nI_add, inb_n, if_true, rA_n, p1, nI_eqE, a3, R_kept h.1 hn (w3 (by omega)), ob, b2i_0]
  cases hk : bt (P.1 7 2) (A i 2)
  · obtain ⟨S1, q1, q2, q3⟩ := R_findP (c := A i 2) hn (w3 (by omega)) h
    rw [if_pos rfl, q1, ob]
    exact ⟨S1, rfl, q2, q3⟩
  · rw [if_neg (by decide)]
    exact ⟨S, rfl, h, Off.rf⟩
theorem R_drawP {th : Bool} {n : Nat} {P : tP} {S : pS} {m : Int32} (hm : m ≠ 0) (h : RP th n P S) : R_draw m S = some (drV (drS P.1) m, wA S 1 (nI 1) (drS P.1)) ∧ RP th n (sA P.1 7 7 (drS P.1), P.2) (wA S 1 (nI 1) (drS P.1)) := by
  refine ⟨?_, RP_w (D := P.1) (k := 1) h (by omega) (by omega) (RD_sc h.1.1 (by omega))⟩
  have e7 : rA S 1 (1 : Int32) = P.1 7 7 := h.1.1.2.2.2.1
  rw [R_draw_eq, if_neg hm, e7, drS_c]
  rfl
theorem R_served2 {th : Bool} {n : Nat} {L : tL} {P : tP} {S : pS} {t : Int32} (hn : n ≤ 14) (hL : WL L) (h : RP th n P S) (hRL : RLm L S) : ∃ S', R_isServed_c25 t S = some (b2i (wntP2 L th n t P).1, S') ∧ RP th n (wntP2 L th n t P).2 S' ∧ Off [] WR S S' := by
  obtain ⟨S1, q1, q2⟩ := R_best_t (t := t) hn hL h.1 hRL
  have h1 := RP_tl h q2
  have ho1 : Off [] WR S S1 := q2.mono (by simp) (by simp)
  rw [R_isServed_c25_eq, q1, ob]
  unfold wntP2
  simp only
  cases hb : bst L P.1 (wrtQ P.1 t) n 0 none with
  | none =>
    rw [if_pos (show o2i none = (-1 : Int32) from rfl)]
    have e6 : rA S1 1 (5 : Int32) = P.1 7 6 := h1.1.1.2.2.2.2.2.2
    rw [e6]
    have hw : RP th n (sA P.1 7 6 (P.1 7 6 + 1), P.2) (wA S1 1 (nI 5) (P.1 7 6 + 1)) := RP_w (D := P.1) (k := 5) h1 (by omega) (by omega) (RD_sc h1.1.1 (by omega))
    obtain ⟨S2, r1, r2, r3⟩ := R_noteP (a := 7) (b := t) (c := 0) hw
    have r1 : R_notes 7 t 0 (wA S1 1 (5 : Int32) (P.1 7 6 + 1)) = _ := r1
    rw [r1, ob]
    refine ⟨S2, rfl, ?_, (ho1.wA (by decide)).tr (r3.mono (by simp) (by simp))⟩
    have e : sA P.1 7 6 (P.1 7 6 + 1) 7 3 = P.1 7 3 := by rw [sA_eq, upd_ne (by decide)]
    simp only [e] at r2
    exact r2
  | some c =>
    have hc := (bst_some (n := n) (by omega) (fun c e => by cases e) c hb).1
    rw [show o2i (some c) = nI c from rfl, if_neg (nI_ne_m1 (by omega))]
    obtain ⟨S2, r1, r2⟩ := R_tell0 (c := c) hL h1.1 (RLm_wr hRL ho1) (by omega)
    rw [r1, ob]
    simp only
    obtain ⟨S3, s1, s2, s3⟩ := R_hold (L := L) hn hc (RP_tl h1 r2)
    rw [s1, ob]
    have ho3 : Off [] WR S S3 := (ho1.tr (r2.mono (by simp) (by simp))).tr (s3.mono (by simp) (by simp))
    simp only
    cases ansW L th P.1 c
    · have e5 : S3.2.1 1 4 = P.1 7 5 := by
        have := s2.1.1.2.2.2.2.2.1
        rw [this]
        exact rch_7 _ _ _ (by decide)
      rw [b2i_f, if_pos rfl, R_isServed_c86_eq]
      simp (disch := omega) only [show (4 : Int32) = nI 4 from rfl, inb_n, if_true, rA_n, e5, R_isServed_c116_eq]
      have hw : RP th n (sA (rchD th P.1 c) 7 5 (P.1 7 5 + 1), P.2) (wA S3 1 (nI 4) (P.1 7 5 + 1)) := RP_w (k := 4) s2 (by omega) (by omega) (RD_sc s2.1.1 (by omega))
      obtain ⟨S4, t1, t2, t3⟩ := R_noteP (a := 6) (b := nI c) (c := tell L P.1 c 0) hw
      rw [t1, ob, if_pos (show pBool 1 0 = true from rfl)]
      refine ⟨S4, rfl, ?_, (ho3.wA (by decide)).tr (t3.mono (by simp) (by simp))⟩
      have e : sA (rchD th P.1 c) 7 5 (P.1 7 5 + 1) 7 3 = P.1 7 3 := by rw [sA_eq, upd_ne (by decide), rch_3]
      simp only [e] at t2
      exact t2
    · have e5 : S3.2.1 1 3 = P.1 7 4 := by
        have := s2.1.1.2.2.2.2.1
        rw [this]
        exact rch_7 _ _ _ (by decide)
      rw [b2i_t, if_neg (by decide), R_isServed_c86_eq]
      simp (disch := omega) only [show (3 : Int32) = nI 3 from rfl, inb_n, if_true, rA_n, e5, R_isServed_c116_eq]
      rw [if_neg (show ¬ (1 : Int32) = 0 by decide)]
      have hw : RP th n (sA (rchD th P.1 c) 7 4 (P.1 7 4 + 1), P.2) (wA S3 1 (nI 3) (P.1 7 4 + 1)) := RP_w (k := 3) s2 (by omega) (by omega) (RD_sc s2.1.1 (by omega))
      obtain ⟨S4, t1, t2, t3⟩ := R_noteP (a := 5) (b := nI c) (c := tell L P.1 c 0) hw
      rw [t1, ob, if_pos (show pBool 1 1 = true from rfl)]
      refine ⟨S4, rfl, ?_, (ho3.wA (by decide)).tr (t3.mono (by simp) (by simp))⟩
      have e : sA (rchD th P.1 c) 7 4 (P.1 7 4 + 1) 7 3 = P.1 7 3 := by rw [sA_eq, upd_ne (by decide), rch_3]
      simp only [e] at t2
      exact t2
theorem R_served {th : Bool} {n : Nat} {L : tL} {P : tP} {S : pS} (hn : n ≤ 14) (hL : WL L) (h : RP th n P S) (hRL : RLm L S) : ∃ S', R_isServed S = some (b2i (wntP L th n P).1, S') ∧ RP th n (wntP L th n P).2 S' ∧ Off [] WR S S' := by
  rw [R_isServed_eq]
  unfold wntP wntT wntD
  cases th
  · rw [if_pos (show rF S 0 5 = 0 from h.2.1)]
    obtain ⟨d1, d2⟩ := R_drawP (m := 6) (by decide) h
    have ho : Off [] WR S (wA S 1 (nI 1) (drS P.1)) := Off.rf.wA (by decide)
    rw [d1, ob, if_neg Bool.false_ne_true, if_neg Bool.false_ne_true]
    obtain ⟨S', q1, q2, q3⟩ := R_served2 (t := drV (drS P.1) 6) hn hL d2 (RLm_wr hRL ho)
    exact ⟨S', q1, q2, ho.tr q3⟩
  · have e5 : ¬ rF S 0 5 = 0 := by
      rw [show rF S 0 5 = 1 from h.2.1]; decide
    rw [if_neg e5, if_pos rfl, if_pos rfl, show rA S 1 (0 : Int32) = P.1 7 3 from h.1.1.2.2.1]
    exact R_served2 hn hL h hRL
theorem R_wearP {th : Bool} {n c : Nat} {L : tL} {P : tP} {S : pS} (hn : n ≤ 14) (hc : c < n) (hL : WL L) (h : RP th n P S) (hRL : RLm L S) : ∃ S', R_wears (nI c) S = some (0, S') ∧ RP th n (werP L th c P) S' ∧ Off [] WR S S' := by
  obtain ⟨S1, q1, q2⟩ := R_tell1 (c := c) hL h.1 hRL (by omega)
  have h1 := RP_tl h q2
  have ho1 : Off [] WR S S1 := q2.mono (by simp) (by simp)
  have e5 : S.2.1 1 (20 + c) = P.1 5 c := (h.1.1.1 c (by omega)).2.2.2.2.2.1
  rw [R_wears_eq]
  have hw : RP th n (sA P.1 5 c (mn99 (P.1 5 c + tell L P.1 c 1)), P.2) (wA S1 1 (nI (20 + c)) (mn99 (P.1 5 c + tell L P.1 c 1))) := RP_w (D := P.1) h1 (by omega) (by omega) (RD_row h1.1.1 (by omega) (by omega) hn)
  simp (disch := omega) only [show (20 : Int32) = nI 20 from rfl, show (48 : Int32) = nI 48 from rfl, nI_add, inb_n, if_true, rA_n, e5, q1, ob, mn99_l, wA_21, sA_eq, upd_eq]
  unfold werP
  by_cases e : mn99 (P.1 5 c + tell L P.1 c 1) < 99
  · rw [if_pos e, if_pos e]
    exact ⟨_, rfl, hw, ho1.wA (by decide)⟩
  · rw [if_neg e, if_neg e]
    have hw2 : RP th n (drp (sA P.1 5 c (mn99 (P.1 5 c + tell L P.1 c 1))) c, P.2) (wA (wA S1 1 (nI (20 + c)) (mn99 (P.1 5 c + tell L P.1 c 1))) 1 (nI (48 + c)) 1) := by
      refine RP_w hw (by omega) (by omega) (RD_kept hw.1.1 (by omega) hn (fun c' h1 h2 => ?_) ?_)
      · rw [b_drp (by omega) (by omega), decide_eq_false h2, Bool.not_false, Bool.and_true]
      · rw [b_drp (by omega) (by omega), decide_eq_true rfl, Bool.not_true, Bool.and_false]
        rfl
    obtain ⟨S2, r1, r2, r3⟩ := R_noteP (a := 8) (b := nI c) (c := P.1 5 c) hw2
    rw [r1, ob]
    refine ⟨S2, rfl, ?_, ((ho1.wA (by decide)).wA (by decide)).tr (r3.mono (by simp) (by simp))⟩
    have e : drp (sA P.1 5 c (mn99 (P.1 5 c + tell L P.1 c 1))) c 7 3 = P.1 7 3 := by
      unfold drp
      rw [sA_eq, upd_ne (by decide), sA_ne (by decide)]
    simp only [e] at r2
    exact r2
theorem R_wearA {th : Bool} {n : Nat} {L : tL} {is : Bool} (hn : n ≤ 14) (hL : WL L) : ∀ (k i : Nat) (P : tP) (S : pS), i + k = n → RP th n P S → RLm L S → ∃ S', R_goesBy_c47 (b2i is) (nI i) S = some (b2i is, S') ∧ RP th n (sA (werA L th k i P).1 7 3 ((werA L th k i P).1 7 3 + 1), (werA L th k i P).2) S' ∧ Off [] WR S S' := by
  intro k
  induction k with
  | zero =>
    intro i P S hi h hRL
    rw [R_goesBy_c47_eq, show rF S 0 6 = nI n from h.1.2, if_neg (by rw [nI_ltE (by omega) (by omega)]; omega), show rA S 1 (0 : Int32) = P.1 7 3 from h.1.1.2.2.1]
    have hw : RP th n (sA P.1 7 3 (P.1 7 3 + 1), P.2) (wA S 1 (nI 0) (P.1 7 3 + 1)) := RP_w (D := P.1) (k := 0) h (by omega) (by omega) (RD_sc h.1.1 (by omega))
    cases is
    · rw [b2i_f, if_pos rfl]
      exact ⟨_, rfl, hw, Off.rf.wA (by decide)⟩
    · rw [b2i_t, if_neg (by decide)]
      exact ⟨_, rfl, hw, Off.rf.wA (by decide)⟩
  | succ k ih =>
    intro i P S hi h hRL
    rw [R_goesBy_c47_eq, show rF S 0 6 = nI n from h.1.2, if_pos (by rw [nI_ltE (by omega) (by omega)]; omega), R_kept h.1 hn (by omega), ob]
    simp only [nI_1]
    rw [show werA L th (k + 1) i P = werA L th k (i + 1) (if bt (P.1 7 2) i then werP L th i P else P) from rfl]
    cases hk : bt (P.1 7 2) i
    · rw [b2i_f, if_pos rfl, if_neg Bool.false_ne_true]
      exact ih (i + 1) P S (by omega) h hRL
    · rw [b2i_t, if_neg (by decide), if_pos rfl]
      obtain ⟨S1, q1, q2, q3⟩ := R_wearP (c := i) hn (by omega) hL h hRL
      rw [q1, ob]
      obtain ⟨S2, r1, r2, r3⟩ := ih (i + 1) _ S1 (by omega) q2 (RLm_wr hRL q3)
      exact ⟨S2, r1, r2, q3.tr r3⟩
theorem R_planP {th : Bool} {n m : Nat} {L : tL} {A : Nat → Nat → Nat} (hn : n ≤ 14) (hL : WL L) (hA : WPl m n A) : ∀ (k i : Nat) (P : tP) (S : pS), i + k = m → RP th n P S → RLm L S → RPl m A S → ∃ S', R_goesBy_c2 (nI i) S = some (b2i (wntP L th n (plnP L th n A k i P)).1, S') ∧ RP th n (sA (werA L th n 0 (wntP L th n (plnP L th n A k i P)).2).1 7 3 ((werA L th n 0 (wntP L th n (plnP L th n A k i P)).2).1 7 3 + 1), (werA L th n 0 (wntP L th n (plnP L th n A k i P)).2).2) S' ∧ Off [] WR S S' := by
  intro k
  have hm := hA.1
  induction k with
  | zero =>
    intro i P S hi h hRL hPl
    rw [R_goesBy_c2_eq, show rF S 0 39 = nI m from hPl.1, if_neg (by rw [nI_ltE (by omega) (by omega)]; omega)]
    obtain ⟨S1, q1, q2, q3⟩ := R_served hn hL h hRL
    rw [q1, ob]
    obtain ⟨S2, r1, r2, r3⟩ := R_wearA (is := (wntP L th n P).1) hn hL n 0 _ S1 (by omega) q2 (RLm_wr hRL q3)
    exact ⟨S2, r1, r2, q3.tr r3⟩
  | succ k ih =>
    intro i P S hi h hRL hPl
    have w0 := (hA.2 i (by omega)).1
    have p0 := (hPl.2 i (by omega)).1
    rw [R_goesBy_c2_eq, show rF S 0 39 = nI m from hPl.1, if_pos (by rw [nI_ltE (by omega) (by omega)]; omega), show rA S 1 (0 : Int32) = P.1 7 3 from h.1.1.2.2.1]
    simp (disch := omega) only [show (3 : Int32) = nI 3 from rfl, pk_mul, inb_n, if_true, rA_n, p0, nI_1]
    have e : plnP L th n A (k + 1) i P = plnP L th n A k (i + 1) (if nI (A i 0) = P.1 7 3 then dedP L th n (A i 1) (A i 2) P else P) := rfl
    rw [e]
    by_cases q : nI (A i 0) = P.1 7 3
    · rw [if_pos q, if_pos q]
      obtain ⟨S1, q1, q2, q3⟩ := R_deed (i := i) hn hL hA (by omega) h hRL hPl
      rw [q1, ob]
      obtain ⟨S2, r1, r2, r3⟩ := ih (i + 1) _ S1 (by omega) q2 (RLm_wr hRL q3) (RPl_wr hPl q3)
      exact ⟨S2, r1, r2, q3.tr r3⟩
    · rw [if_neg q, if_neg q]
      exact ih (i + 1) P S (by omega) h hRL hPl
/-- a year of the reference -/
theorem R_yearP {th : Bool} {n m : Nat} {L : tL} {A : Nat → Nat → Nat} {P : tP} {S : pS} (hn : n ≤ 14) (hL : WL L) (hA : WPl m n A) (h : RP th n P S) (hRL : RLm L S) (hPl : RPl m A S) : ∃ S', R_goesBy S = some (b2i (yerP L th n m A P).1, S') ∧ RP th n (yerP L th n m A P).2 S' ∧ Off [] WR S S' := by
  rw [R_goesBy_eq]
  exact R_planP hn hL hA m 0 P S (by omega) h hRL hPl
