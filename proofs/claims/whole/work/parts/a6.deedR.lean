/-! Deeds and years of the reference. -/
theorem RD_row {n : Nat} {N P F T : Nat → Int32} {D : tD} {r b c : Nat} {v : Int32} (h : RD n N P F T D) (hrb : (r = 3 ∧ b = 6) ∨ (r = 4 ∧ b = 62) ∨ (r = 5 ∧ b = 20) ∨ (r = 6 ∧ b = 34)) (hc : c < 14) (hn : n ≤ 14) : RD n (upd N (b + c) v) P F T (sA D r c v) := by
  obtain ⟨h1, h2, h3, h4, h5, h6, h7⟩ := h
  have h7r : ∀ i, sA D r c v 7 i = D 7 i := fun i => by rw [sA_ne (by omega)]
  refine ⟨fun c' hc' => ?_, fun c' hc' => ?_, ?_, ?_, ?_, ?_, ?_⟩
  · obtain ⟨a0, a1, a2, a3, a4, a5, a6⟩ := h1 c' hc'
    have key : ∀ (r' b' : Nat), ((r' = 3 ∧ b' = 6) ∨ (r' = 4 ∧ b' = 62) ∨ (r' = 5 ∧ b' = 20) ∨ (r' = 6 ∧ b' = 34)) → N (b' + c') = D r' c' → upd N (b + c) v (b' + c') = sA D r c v r' c' := by
      intro r' b' hrb' he
      rw [sA_row, upd_at]
      by_cases e : r' = r
      · have eb : b' = b := by omega
        rw [if_pos e, upd_at, eb]
        by_cases e2 : c' = c
        · rw [if_pos (by omega), if_pos e2]
        · rw [if_neg (by omega), if_neg e2, ← e, ← he, eb]
      · rw [if_neg e, if_neg (by omega), he]
    refine ⟨by rw [sA_ne (by omega)]; exact a0, by rw [sA_ne (by omega)]; exact a1, by rw [sA_ne (by omega)]; exact a2, key 3 6 (by omega) a3, key 4 62 (by omega) a4, key 5 20 (by omega) a5, key 6 34 (by omega) a6⟩
  · rw [h7r, upd_ne (by omega)]; exact h2 c' hc'
  · rw [h7r, upd_ne (by omega)]; exact h3
  · rw [h7r, upd_ne (by omega)]; exact h4
  · rw [h7r, upd_ne (by omega)]; exact h5
  · rw [h7r, upd_ne (by omega)]; exact h6
  · rw [h7r, upd_ne (by omega)]; exact h7
theorem RD_sc {n : Nat} {N P F T : Nat → Int32} {D : tD} {i k : Nat} {v : Int32} (h : RD n N P F T D) (hk : (i = 3 ∧ k = 0) ∨ (i = 7 ∧ k = 1) ∨ (i = 4 ∧ k = 3) ∨ (i = 5 ∧ k = 4) ∨ (i = 6 ∧ k = 5)) : RD n (upd N k v) P F T (sA D 7 i v) := by
  obtain ⟨h1, h2, h3, h4, h5, h6, h7⟩ := h
  have key : ∀ (i' k' : Nat), ((i' = 3 ∧ k' = 0) ∨ (i' = 7 ∧ k' = 1) ∨ (i' = 4 ∧ k' = 3) ∨ (i' = 5 ∧ k' = 4) ∨ (i' = 6 ∧ k' = 5)) → N k' = D 7 i' → upd N k v k' = sA D 7 i v 7 i' := by
    intro i' k' hk' he
    rw [sA_eq, upd_at, upd_at]
    by_cases e : i' = i
    · rw [if_pos (by omega), if_pos e]
    · rw [if_neg (by omega), if_neg e, he]
  refine ⟨fun c' hc' => ?_, fun c' hc' => ?_, key _ _ (by omega) h3, key _ _ (by omega) h4, key _ _ (by omega) h5, key _ _ (by omega) h6, key _ _ (by omega) h7⟩
  · obtain ⟨a0, a1, a2, a3, a4, a5, a6⟩ := h1 c' hc'
    rw [upd_ne (by omega), upd_ne (by omega), upd_ne (by omega), upd_ne (by omega), sA_ne (by omega), sA_ne (by omega), sA_ne (by omega), sA_ne (by omega), sA_ne (by omega), sA_ne (by omega), sA_ne (by omega)]
    exact ⟨a0, a1, a2, a3, a4, a5, a6⟩
  · rw [upd_ne (by omega), sA_eq, upd_ne (by omega)]; exact h2 c' hc'
theorem RD_kept {n : Nat} {N P F T : Nat → Int32} {D : tD} {c : Nat} {v w : Int32} (h : RD n N P F T D) (hc : c < 14) (hn : n ≤ 14) (hw : ∀ c', c' < n → c' ≠ c → bt w c' = bt (D 7 2) c') (hv : v = b2i (!bt w c)) : RD n (upd N (48 + c) v) P F T (sA D 7 2 w) := by
  obtain ⟨h1, h2, h3, h4, h5, h6, h7⟩ := h
  have h7r : ∀ i, i ≠ 2 → sA D 7 2 w 7 i = D 7 i := fun i hi => by rw [sA_eq, upd_ne hi]
  refine ⟨fun c' hc' => ?_, fun c' hc' => ?_, ?_, ?_, ?_, ?_, ?_⟩
  · obtain ⟨a0, a1, a2, a3, a4, a5, a6⟩ := h1 c' hc'
    rw [upd_ne (by omega), upd_ne (by omega), upd_ne (by omega), upd_ne (by omega), sA_ne (by omega), sA_ne (by omega), sA_ne (by omega), sA_ne (by omega), sA_ne (by omega), sA_ne (by omega), sA_ne (by omega)]
    exact ⟨a0, a1, a2, a3, a4, a5, a6⟩
  · rw [sA_eq, upd_eq, upd_at]
    by_cases e : c' = c
    · subst e
      rw [if_pos rfl, hv]
    · rw [if_neg (by omega), h2 c' hc', hw c' hc' e]
  · rw [h7r _ (by omega), upd_ne (by omega)]; exact h3
  · rw [h7r _ (by omega), upd_ne (by omega)]; exact h4
  · rw [h7r _ (by omega), upd_ne (by omega)]; exact h5
  · rw [h7r _ (by omega), upd_ne (by omega)]; exact h6
  · rw [h7r _ (by omega), upd_ne (by omega)]; exact h7
/-- a drawer and the book of the reference -/
def RP (th : Bool) (n : Nat) (P : tP) (S : pS) : Prop := RDm n P.1 S ∧ S.1 0 5 = b2i th ∧ P.2.1 ≤ 150 ∧ S.2.1 1 2 = nI P.2.1 ∧ ∀ i, i < 4 * P.2.1 → S.2.1 7 i = P.2.2 i
theorem RP_off {th : Bool} {n : Nat} {P : tP} {S S' : pS} {F : List (Nat × Nat)} {W : List Nat} (h : RP th n P S) (ho : Off F W S S') (h0 : (0, 6) ∉ F) (h05 : (0, 5) ∉ F) (h1 : 1 ∉ W) (h4 : 4 ∉ W) (h5 : 5 ∉ W) (h6 : 6 ∉ W) (h7 : 7 ∉ W) : RP th n P S' := by
  obtain ⟨a, b, c, d, e⟩ := h
  refine ⟨RDm_off a ho h0 h1 h4 h5 h6, by rw [ho.1 _ _ h05]; exact b, c, by rw [ho.2.1 1 h1]; exact d, by rw [ho.2.1 7 h7]; exact e⟩
theorem RP_w {th : Bool} {n : Nat} {D D' : tD} {B : tB} {S : pS} {k : Nat} {v : Int32} (h : RP th n (D, B) S) (hk : k < 76) (h2 : k ≠ 2) (hr : RD n (upd (S.2.1 1) k v) (S.2.1 4) (S.2.1 5) (S.2.1 6) D') : RP th n (D', B) (wA S 1 (nI k) v) := by
  obtain ⟨⟨a, a'⟩, b, c, d, e⟩ := h
  refine ⟨⟨?_, a'⟩, b, c, ?_, ?_⟩
  · rw [wA_21 (by omega), sA_eq, sA_ne (by decide), sA_ne (by decide), sA_ne (by decide)]
    exact hr
  · rw [wA_21 (by omega), sA_eq, upd_ne (Ne.symm h2)]
    exact d
  · rw [wA_21 (by omega), sA_ne (by decide)]
    exact e
theorem RP_wD {th : Bool} {n : Nat} {P : tP} {S : pS} (h : RP th n P S) : RD n (S.2.1 1) (S.2.1 4) (S.2.1 5) (S.2.1 6) P.1 := h.1.1
theorem R_kept {n : Nat} {D : tD} {S : pS} {c : Nat} (h : RDm n D S) (hn : n ≤ 14) (hc : c < n) : R_isKept (nI c) S = some (b2i (bt (D 7 2) c), S) := by
  rw [R_isKept_eq]
  have e := h.1.2.1 c hc
  simp (disch := omega) only [fa_lit, nI_add, inb_n, if_true, rA_n, e, b2i_0]
  cases bt (D 7 2) c <;> rfl
theorem R_noteP {th : Bool} {n : Nat} {P : tP} {S : pS} {a b c : Int32} (h : RP th n P S) : ∃ S', R_notes a b c S = some (0, S') ∧ RP th n (P.1, ent th (P.1 7 3) P.2 a b c) S' ∧ Off [] [1, 7] S S' := by
  obtain ⟨hD, h5, h150, h2, hB⟩ := h
  rw [R_notes_eq]
  unfold ent
  cases th
  · have e5 : rF S 0 5 = 0 := h5
    have e2 : rA S 1 (2 : Int32) = nI P.2.1 := h2
    rw [if_pos e5, if_neg Bool.false_ne_true, e2]
    by_cases q : P.2.1 = 150
    · have : nI P.2.1 = (150 : Int32) := by rw [q]; rfl
      rw [if_pos this, if_pos q]
      exact ⟨S, rfl, ⟨hD, h5, h150, h2, hB⟩, Off.rf⟩
    · have : ¬ nI P.2.1 = (150 : Int32) := fun e => q ((nI_eq (b := 150) (by omega) (by omega)).mp e)
      rw [if_neg this, if_neg q]
      have e0 : rA S 1 (0 : Int32) = P.1 7 3 := hD.1.2.2.1
      rw [e0]
      simp (disch := omega) only [fa_lit, pk_mul, nI_add, inb_n, if_true]
      refine ⟨_, rfl, ⟨⟨?_, hD.2⟩, h5, by show P.2.1 + 1 ≤ 150; omega, ?_, ?_⟩, ((((Off.rf.wA (by decide)).wA (by decide)).wA (by decide)).wA (by decide)).wA (by decide)⟩
      · simp (disch := omega) only [wA_21, sA_row, (by decide : ¬ (1 : Nat) = 7), (by decide : ¬ (4 : Nat) = 1), (by decide : ¬ (5 : Nat) = 1), (by decide : ¬ (6 : Nat) = 1), (by decide : ¬ (4 : Nat) = 7), (by decide : ¬ (5 : Nat) = 7), (by decide : ¬ (6 : Nat) = 7), if_false, if_true]
        obtain ⟨g1, g2, g3, g4, g5, g6, g7⟩ := hD.1
        refine ⟨fun c' hc' => ?_, fun c' hc' => ?_, ?_, ?_, ?_, ?_, ?_⟩
        · rw [upd_ne (by omega), upd_ne (by omega), upd_ne (by omega), upd_ne (by omega)]; exact g1 c' hc'
        · rw [upd_ne (by omega)]; exact g2 c' hc'
        · rw [upd_ne (by omega)]; exact g3
        · rw [upd_ne (by omega)]; exact g4
        · rw [upd_ne (by omega)]; exact g5
        · rw [upd_ne (by omega)]; exact g6
        · rw [upd_ne (by omega)]; exact g7
      · simp (disch := omega) only [wA_21, sA_row, if_true]
        rw [upd_eq]
      · intro i hi
        have hi : i < 4 * (P.2.1 + 1) := hi
        simp (disch := omega) only [wA_21, sA_row, (by decide : ¬ (7 : Nat) = 1), if_false, if_true]
        simp only [upd_at]
        by_cases i3 : i = 4 * P.2.1 + 3
        · rw [if_pos i3, if_pos i3]
        rw [if_neg i3, if_neg i3]
        by_cases i2 : i = 4 * P.2.1 + 2
        · rw [if_pos i2, if_pos i2]
        rw [if_neg i2, if_neg i2]
        by_cases i1 : i = 4 * P.2.1 + 1
        · rw [if_pos i1, if_pos i1]
        rw [if_neg i1, if_neg i1]
        by_cases i0 : i = 4 * P.2.1
        · rw [if_pos i0, if_pos i0]
        rw [if_neg i0, if_neg i0]
        exact hB i (by omega)
  · have e5 : ¬ rF S 0 5 = 0 := by
      rw [show rF S 0 5 = 1 from h5]; decide
    rw [if_neg e5, if_pos rfl]
    exact ⟨S, rfl, ⟨hD, h5, h150, h2, hB⟩, Off.rf⟩
theorem R_bst {n : Nat} {L : tL} {D : tD} {l1 l2 : Int32} {q : Nat → Bool} (hn : n ≤ 14) (hL : WL L) (hq : ∀ c, c < n → q c = (bt (D 7 2) c && (if l1 = -1 then decide (D 2 c = l2) else decide (D 0 c = l1)))) : ∀ (k i : Nat) (b : Option Nat) (S : pS), i + k = n → (∀ c, b = some c → c < n) → RDm n D S → RLm L S → ∃ S', R_bestCard_c5 l1 l2 (o2i b) (nI i) S = some (o2i (bst L D q k i b), S') ∧ Off [] [22, 23] S S' := by
  intro k
  induction k with
  | zero =>
    intro i b S hi hb hR hRL
    refine ⟨S, ?_, Off.rf⟩
    rw [R_bestCard_c5_eq, show rF S 0 6 = nI n from hR.2]
    have a : ¬ i < n := by omega
    simp (disch := omega) only [nI_ltE, a, if_false]
    rfl
  | succ k ih =>
    intro i b S hi hb hR hRL
    have hin : i < n := by omega
    obtain ⟨d0, d1, d2, -⟩ := hR.1.1 i (by omega)
    rw [R_bestCard_c5_eq, show rF S 0 6 = nI n from hR.2]
    simp (disch := omega) only [nI_ltE, hin, if_true, R_kept hR hn hin, ob, fa_lit, b2i_0, inb_n, rA_n, d0, d2]
    have go : ∀ (b' : Option Nat) (S1 : pS), Off [] [22, 23] S S1 → (∀ c, b' = some c → c < n) → bstS L D q i b = b' → ∃ S', R_bestCard_c5 l1 l2 (o2i b') (nI i + nI 1) S1 = some (o2i (bst L D q (k + 1) i b), S') ∧ Off [] [22, 23] S S' := by
      intro b' S1 ho hb' e
      obtain ⟨S', q1, q2⟩ := ih (i + 1) b' S1 (by omega) hb' (RDm_off hR ho (by simp) (by decide) (by decide) (by decide) (by decide)) (RLm_off hRL ho (fun i a b => by simp; omega))
      refine ⟨S', ?_, ho.tr q2⟩
      rw [nI_add, q1, ← e]
      rfl
    have hqi := hq i hin
    have yes : q i = true → ∃ S', R_bestCard_c56 l1 l2 (o2i b) (nI i) S = some (o2i (bst L D q (k + 1) i b), S') ∧ Off [] [22, 23] S S' := by
      intro hqt
      rw [R_bestCard_c56_eq]
      cases b with
      | none =>
        rw [if_pos (show o2i none = (-1 : Int32) from rfl)]
        exact go (some i) S Off.rf (fun c e => by cases e; exact hin) (bstS_0 hqt)
      | some b0 =>
        have hb0 := hb b0 rfl
        rw [show o2i (some b0) = nI b0 from rfl]
        have : ¬ nI b0 = (-1 : Int32) := by
          have := nI_m1 (k := b0) (by omega)
          exact fun e => by rw [← this]; exact e
        rw [if_neg this]
        obtain ⟨S1, q1, q2⟩ := R_tell0 (c := i) hL hR hRL (by omega)
        rw [q1, ob]
        obtain ⟨S2, r1, r2⟩ := R_tell0 (c := b0) hL (RDm_off hR q2 (by simp) (by decide) (by decide) (by decide) (by decide)) (RLm_off hRL q2 (fun i a b => by simp; omega)) (by omega)
        simp only
        rw [r1, ob]
        by_cases e : tell L D i 0 ≤ tell L D b0 0
        · rw [if_pos e]
          exact go (some b0) S2 (q2.tr r2) hb (by rw [bstS_1 hqt, if_pos e])
        · rw [if_neg e]
          exact go (some i) S2 (q2.tr r2) (fun c e => by cases e; exact hin) (by rw [bstS_1 hqt, if_neg e])
    have no : q i = false → ∃ S', R_bestCard_c5 l1 l2 (o2i b) (nI i + nI 1) S = some (o2i (bst L D q (k + 1) i b), S') ∧ Off [] [22, 23] S S' := fun hqf => go b S Off.rf hb (bstS_no hqf)
    by_cases a : bt (D 7 2) i = false
    · rw [if_pos a]
      exact no (by rw [hqi, a]; rfl)
    · rw [if_neg a]
      have a' : bt (D 7 2) i = true := by cases h : bt (D 7 2) i <;> simp_all
      by_cases b1 : l1 = -nI 1
      · rw [if_pos b1]
        have b1' : l1 = -1 := b1
        rw [a', if_pos b1', Bool.true_and] at hqi
        by_cases e : D 2 i = l2
        · rw [if_pos e]; exact yes (by rw [hqi]; exact decide_eq_true e)
        · rw [if_neg e]; exact no (by rw [hqi]; exact decide_eq_false e)
      · rw [if_neg b1]
        have b1' : ¬ l1 = -1 := b1
        rw [a', if_neg b1', Bool.true_and] at hqi
        by_cases e : D 0 i = l1
        · rw [if_pos e]; exact yes (by rw [hqi]; exact decide_eq_true e)
        · rw [if_neg e]; exact no (by rw [hqi]; exact decide_eq_false e)
theorem R_best_p {n p : Nat} {L : tL} {D : tD} {S : pS} (hn : n ≤ 14) (hL : WL L) (hp : p < 100) (hR : RDm n D S) (hRL : RLm L S) : ∃ S', R_bestCard (nI p) (-1) S = some (o2i (bst L D (perQ D (nI p)) n 0 none), S') ∧ Off [] [22, 23] S S' := by
  rw [R_bestCard_eq]
  refine R_bst hn hL (fun c hc => ?_) n 0 none S (by omega) (fun c e => by cases e) hR hRL
  have : ¬ nI p = (-1 : Int32) := by
    have := nI_m1 (k := p) (by omega)
    exact fun e => by rw [← this]; exact e
  rw [if_neg this]
  rfl
theorem R_best_t {n : Nat} {t : Int32} {L : tL} {D : tD} {S : pS} (hn : n ≤ 14) (hL : WL L) (hR : RDm n D S) (hRL : RLm L S) : ∃ S', R_bestCard (-1) t S = some (o2i (bst L D (wrtQ D t) n 0 none), S') ∧ Off [] [22, 23] S S' := by
  rw [R_bestCard_eq]
  exact R_bst hn hL (fun c hc => by rw [if_pos rfl]; rfl) n 0 none S (by omega) (fun c e => by cases e) hR hRL
