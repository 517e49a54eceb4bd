/-! The plain questions. -/
def inr (x : Int32) (m : Nat) : Bool := !decide (x < 0) && decide (x < nI m)
theorem inr_t {x : Int32} {m : Nat} (hm : m < 2147483648) (h : inr x m = true) : ∃ j, j < m ∧ x = nI j := by
  unfold inr at h
  rw [Bool.and_eq_true, Bool.not_eq_true', decide_eq_false_iff_not, decide_eq_true_eq] at h
  rcases i3 x m hm with q | q | q
  · exact absurd q h.1
  · exact absurd h.2 (i3_lt q)
  · exact q
theorem inr_n {j m : Nat} (hj : j < m) (hm : m < 2147483648) : inr (nI j) m = true := by
  unfold inr
  rw [decide_eq_false (nI_pos (by omega)), decide_eq_true (by rw [nI_ltE (by omega) hm]; exact hj)]
  rfl
theorem inr_x {j m : Nat} (hj : j < 2147483648) (hm : m < 2147483648) : inr (nI j) m = decide (j < m) := by
  unfold inr
  rw [decide_eq_false (nI_pos (by omega))]
  by_cases q : j < m
  · rw [decide_eq_true (by rw [nI_ltE hj hm]; exact q), decide_eq_true q]; rfl
  · rw [decide_eq_false (by rw [nI_ltE hj hm]; exact q), decide_eq_false q]; rfl
theorem within_s (x : Int32) (m : Nat) {S : pS} : C_within x (nI m) S = some (b2i (inr x m), S) := by
  rw [C_within_eq]
  unfold inr
  by_cases a : x < 0
  · rw [if_pos a, decide_eq_true a]; rfl
  · rw [if_neg a, decide_eq_false a]
    by_cases b : x < nI m
    · rw [if_pos b, decide_eq_true b]; rfl
    · rw [if_neg b, decide_eq_false b]; rfl
theorem isIn_s (x : Int32) (m : Nat) (hm : m < 2147483648) {S : pS} : R_isIn x 0 (nI m - 1) S = some (b2i (inr x m), S) := by
  rw [R_isIn_eq]
  unfold inr
  by_cases a : x < 0
  · rw [if_pos a, decide_eq_true a]; rfl
  · rw [if_neg a, decide_eq_false a]
    have key : x ≤ nI m - 1 ↔ x < nI m := by
      cases m with
      | zero =>
        rw [show nI 0 - 1 = (-1 : Int32) from rfl, fa_le, fa_lt, nI_toInt (by omega)]
        rw [fa_lt] at a
        have h1 : (-1 : Int32).toInt = -1 := rfl
        have h0 : (0 : Int32).toInt = 0 := rfl
        omega
      | succ m =>
        rw [nI_pred, fa_le, fa_lt, nI_toInt (by omega), nI_toInt (by omega)]
        omega
    by_cases b : x < nI m
    · rw [if_pos (key.mpr b), decide_eq_true b]; rfl
    · rw [if_neg (fun h => b (key.mp h)), decide_eq_false b]; rfl
theorem isPerson_s (x : Int32) {S : pS} : R_isPerson x S = some (b2i (inr x 12), S) := by
  rw [R_isPerson_eq]
  unfold inr
  by_cases a : x < 0
  · rw [if_pos a, decide_eq_true a]; rfl
  · rw [if_neg a, decide_eq_false a]
    by_cases b : x < nI 12
    · rw [if_pos (show x < (12 : Int32) from b), decide_eq_true b]; rfl
    · rw [if_neg (show ¬ x < (12 : Int32) from b), decide_eq_false b]; rfl
theorem isCard_s {n : Nat} {D : tD} (x : Int32) {S : pS} (h : RDm n D S) : R_isCard x S = some (b2i (inr x n), S) := by
  rw [R_isCard_eq, show rF S 0 6 = nI n from h.2]
  unfold inr
  by_cases a : x < 0
  · rw [if_pos a, decide_eq_true a]; rfl
  · rw [if_neg a, decide_eq_false a]
    by_cases b : x < nI n
    · rw [if_pos b, decide_eq_true b]; rfl
    · rw [if_neg b, decide_eq_false b]; rfl
theorem has1_s {n : Nat} {D : tD} (x : Int32) {S : pS} (hD : WD n D) (h : XD 1 D S) : Dr_has_1 x S = some (b2i (inr x n), S) := by
  rw [Dr_has_1_eq, show rF S 1 1 = nI n from cards_1 hD h]
  unfold inr
  by_cases a : x < 0
  · rw [if_pos a, decide_eq_true a]; rfl
  · rw [if_neg a, decide_eq_false a]
    by_cases b : x < nI n
    · rw [if_pos b, decide_eq_true b]; rfl
    · rw [if_neg b, decide_eq_false b]; rfl
theorem b2f : (b2i false = 0) = True := eq_true rfl
theorem b2t : (b2i true = 0) = False := eq_false (by decide)
/-- a call: both answer alike, and all holds then -/
def Gd (f g : pS → Option (Int32 × pS)) (X R : pS) : Prop := ∃ r X' R', f X = some (r, X') ∧ g R = some (r, R') ∧ INV X' R'
theorem Gd_of {f g : pS → Option (Int32 × pS)} {X R X' R' : pS} {v : Int32} (h : INV X R) (h1 : f X = some (v, X')) (o1 : Off FX WX X X') (h2 : g R = some (v, R')) (o2 : Off FR WRs R R') : Gd f g X R := ⟨v, X', R', h1, h2, INV_off h o1 o2⟩
theorem q_fault {X R : pS} (a : Int32) (h : INV X R) : Gd (C_fault a) (R_fault a) X R := by
  obtain ⟨-, -, -, ⟨-, t1, t2⟩, -⟩ := id h
  by_cases e0 : a = 0
  · exact Gd_of h (by rw [C_fault_eq, if_pos e0]) Off.rf (by rw [R_fault_eq, if_pos e0]; show some (R.1 0 32, _) = some (X.1 50 4, _); rw [t1]) told0
  · by_cases e1 : a = 1
    · exact Gd_of h (by rw [C_fault_eq, if_neg e0, if_pos e1]) Off.rf (by rw [R_fault_eq, if_neg e0, if_pos e1]; show some (R.1 0 33, _) = some (X.1 50 5, _); rw [t2]) told0
    · exact Gd_of h (by rw [C_fault_eq, if_neg e0, if_neg e1]) Off.rf (by rw [R_fault_eq, if_neg e0, if_neg e1]) told0
/-- who introduced a person, the years of a firm: what the class reads of its told rows -/
theorem intro_3 {p : Nat} {S : pS} (h : p < 12) : To_introducer_3 (nI p) S = some (S.2.1 12 p, S) := by
  rw [To_introducer_3_eq, show C_within (nI p) (12 : Int32) S = _ from wth (m := 12) h (by omega), ob, if_neg (show ¬ (1 : Int32) = 0 by decide), if_pos (inb_n h (by omega)), rA_n (by omega)]
theorem fstY_3 {p : Nat} {S : pS} (h : p < 8) : To_firstYear_3 (nI p) S = some (S.2.1 13 p, S) := by
  rw [To_firstYear_3_eq, show C_within (nI p) (8 : Int32) S = _ from wth (m := 8) h (by omega), ob, if_neg (show ¬ (1 : Int32) = 0 by decide), if_pos (inb_n h (by omega)), rA_n (by omega)]
theorem lstY_3 {p : Nat} {S : pS} (h : p < 8) : To_lastYear_3 (nI p) S = some (S.2.1 14 p, S) := by
  rw [To_lastYear_3_eq, show C_within (nI p) (8 : Int32) S = _ from wth (m := 8) h (by omega), ob, if_neg (show ¬ (1 : Int32) = 0 by decide), if_pos (inb_n h (by omega)), rA_n (by omega)]
theorem introX {x : Int32} {S : pS} (h : inr x 12 = false) : To_introducer_3 x S = some (-1, S) := by
  rw [To_introducer_3_eq, show C_within x (12 : Int32) S = _ from within_s x 12, ob, h]; rfl
theorem fstYX {x : Int32} {S : pS} (h : inr x 8 = false) : To_firstYear_3 x S = some (-1, S) := by
  rw [To_firstYear_3_eq, show C_within x (8 : Int32) S = _ from within_s x 8, ob, h]; rfl
theorem lstYX {x : Int32} {S : pS} (h : inr x 8 = false) : To_lastYear_3 x S = some (-1, S) := by
  rw [To_lastYear_3_eq, show C_within x (8 : Int32) S = _ from within_s x 8, ob, h]; rfl
theorem q_met {X R : pS} (a : Int32) (h : INV X R) : Gd (C_met a) (R_met a) X R := by
  obtain ⟨-, -, -, -, n, D, B, L, T, hw, hX, hR, -⟩ := id h
  have hR0 := RA_off hR told0
  cases e : inr a 12
  · refine Gd_of h (v := -1) (by rw [C_met_eq, introX e, ob]) Off.rf (by rw [R_met_eq, isPerson_s, e, ob]; rfl) told0
  · obtain ⟨j, hj, rfl⟩ := inr_t (by omega) e
    have x1 : X.2.1 12 j = nI (T 1 j) - 1 := hX.2.2.2.2.2.1 j hj
    have r1 : (wF R 0 0 0).2.1 18 j = nI (T 1 j) := hR0.2.2.2.2.1 j hj
    refine Gd_of h (v := nI (T 1 j) - 1) ?_ Off.rf ?_ told0
    · rw [C_met_eq, intro_3 hj, ob]
      simp only [x1]
    · rw [R_met_eq, isPerson_s, e, ob, R_introducer_eq]
      simp (disch := omega) only [b2t, if_false, inb_n, if_true, rA_n, r1, ob]
theorem q_called {X R : pS} (a b : Int32) (h : INV X R) : Gd (C_called a b) (R_called a b) X R := by
  obtain ⟨-, -, -, -, n, D, B, L, T, hw, hX, hR, -⟩ := id h
  have hR0 := RA_off hR told0
  have i1 : R_isIn a (0 : Int32) (7 : Int32) (wF R 0 0 0) = _ := isIn_s a 8 (by omega)
  cases e : inr a 8
  · rw [e] at i1
    refine Gd_of h (v := -1) ?_ Off.rf (by rw [R_called_eq, i1, ob]; rfl) told0
    rw [C_called_eq]
    by_cases b0 : b = 0
    · rw [if_pos b0, fstYX e, ob]
    · rw [if_neg b0]
      by_cases b1 : b = 1
      · rw [if_pos b1, lstYX e, ob]
      · rw [if_neg b1]
  · rw [e] at i1
    obtain ⟨j, hj, rfl⟩ := inr_t (by omega) e
    obtain ⟨x1, x2⟩ := hX.2.2.2.2.2.2.1 j hj
    have x1 : X.2.1 13 j = nI (T 2 j) := x1
    have x2 : X.2.1 14 j = nI (T 3 j) := x2
    obtain ⟨r1, r2⟩ := hR0.2.2.2.2.2.1 j hj
    by_cases b0 : b = 0
    · refine Gd_of h (v := nI (T 2 j)) ?_ Off.rf ?_ told0
      · rw [C_called_eq, if_pos b0, fstY_3 hj, ob]
        simp only [x1]
      · rw [R_called_eq, i1, ob]
        simp only [b2t, if_false]
        rw [if_pos b0, if_pos (inb_n (by omega) (by omega)), rA_n (by omega), r1]
    · by_cases b1 : b = 1
      · refine Gd_of h (v := nI (T 3 j)) ?_ Off.rf ?_ told0
        · rw [C_called_eq, if_neg b0, if_pos b1, lstY_3 hj, ob]
          simp only [x2]
        · rw [R_called_eq, i1, ob]
          simp only [b2t, if_false]
          rw [if_neg b0, if_pos b1, if_pos (inb_n (by omega) (by omega)), rA_n (by omega), r2, Int32.sub_add_cancel]
      · refine Gd_of h (v := -1) ?_ Off.rf ?_ told0
        · rw [C_called_eq, if_neg b0, if_neg b1]
        · rw [R_called_eq, i1, ob]
          simp only [b2t, if_false]
          rw [if_neg b0, if_neg b1]
theorem q_book {X R : pS} (a b : Int32) (h : INV X R) : Gd (C_book a b) (R_book a b) X R := by
  obtain ⟨-, -, -, -, n, D, B, L, T, hw, hX, hR, -⟩ := id h
  have hR0 := RA_off hR told0
  have h150 := hw.2.1
  have w2 : C_within b (4 : Int32) X = _ := within_s b 4 (S := X)
  have c1 : rF X 23 2 = nI B.1 := hX.2.1.1
  have c2 : rA R 1 (2 : Int32) = nI B.1 := hR.2.1.1
  have i1 := isIn_s a B.1 (by omega) (S := wF R 0 0 0)
  have i2 : R_isIn b (0 : Int32) (3 : Int32) (wF R 0 0 0) = _ := isIn_s b 4 (by omega)
  cases e : inr a B.1
  · rw [e] at i1
    refine Gd_of h (v := -1) ?_ Off.rf (by rw [R_book_eq, c2, i1, ob]; rfl) told0
    rw [C_book_eq, Ro_at_23_eq, c1]
    unfold inr at e
    by_cases q : a < 0
    · rw [if_pos q]; rfl
    · rw [decide_eq_false q, Bool.not_false, Bool.true_and, decide_eq_false_iff_not] at e
      rw [if_neg q, if_neg e]; rfl
  · rw [e] at i1
    obtain ⟨j, hj, rfl⟩ := inr_t (by omega) e
    have ho : ¬ nI j < 0 := nI_pos (by omega)
    have hlt : nI j < nI B.1 := by rw [nI_ltE (by omega) (by omega)]; exact hj
    cases e2 : inr b 4
    · rw [e2] at w2 i2
      refine Gd_of h (v := -1) ?_ Off.rf ?_ told0
      · rw [C_book_eq, Ro_at_23_eq, c1, if_neg ho, if_pos hlt, w2]; rfl
      · rw [R_book_eq, c2, i1, ob]
        simp only [b2t, if_false, i2, ob, b2f, if_true]
    · rw [e2] at w2 i2
      obtain ⟨k, hk, rfl⟩ := inr_t (by omega) e2
      have x1 : X.2.1 24 (j * 4 + k) = B.2 (4 * j + k) := by rw [Nat.mul_comm j 4]; exact hX.2.1.2 _ (by omega)
      have r1 : (wF R 0 0 0).2.1 7 (4 * j + k) = B.2 (4 * j + k) := hR0.2.1.2 _ (by omega)
      refine Gd_of h (v := B.2 (4 * j + k)) ?_ Off.rf ?_ told0
      · rw [C_book_eq, Ro_at_23_eq, c1, if_neg ho, if_pos hlt, w2]
        simp only [ob, b2t, if_false]
        simp (disch := omega) only [show (4 : Int32) = nI 4 from rfl, pk_mul, nI_add, inb_n, if_true, rA_n, x1, ob]
      · rw [R_book_eq, c2, i1, ob]
        simp only [b2t, if_false, i2, ob]
        simp (disch := omega) only [show (4 : Int32) = nI 4 from rfl, pk_mul, nI_add, inb_n, if_true, rA_n, r1]
theorem kset {n : Nat} {D : tD} {S : pS} (hD : WD n D) (h : RDm n D S) : R_keptSet S = some (D 7 2, S) := by
  have hn := hD.1
  have go : ∀ (k i : Nat) (m : Int32), i + k = n → R_keptSet_c4 m (nI i) S = some (orl (bt (D 7 2)) (fun c => c) k i m, S) := by
    intro k
    induction k with
    | zero =>
      intro i m hi
      rw [R_keptSet_c4_eq, show rF S 0 6 = nI n from h.2, if_neg (by rw [nI_ltE (by omega) (by omega)]; omega)]
      rfl
    | succ k ih =>
      intro i m hi
      rw [R_keptSet_c4_eq, show rF S 0 6 = nI n from h.2, if_pos (by rw [nI_ltE (by omega) (by omega)]; omega), R_kept h hn (by omega), ob, nI_1]
      have e : orl (bt (D 7 2)) (fun c => c) (k + 1) i m = orl (bt (D 7 2)) (fun c => c) k (i + 1) (if bt (D 7 2) i then m ||| bit i else m) := rfl
      rw [e]
      simp only
      cases bt (D 7 2) i
      · rw [b2i_f, if_pos rfl]
        exact ih (i + 1) m (by omega)
      · rw [b2i_t, if_neg (by decide)]
        exact ih (i + 1) _ (by omega)
  rw [R_keptSet_eq]
  have := go n 0 0 (by omega)
  rw [show R_keptSet_c4 0 0 S = _ from this]
  congr 2
  apply b_ext
  intro x hx
  rw [orl_bt (n := 0) n 0 0 (fun j h1 h2 _ => by omega), b_0, Bool.false_or, Bool.eq_iff_iff, List.any_eq_true]
  constructor
  · rintro ⟨c, h1, h2⟩
    rw [Bool.and_eq_true, decide_eq_true_eq] at h2
    obtain ⟨h2, rfl⟩ := h2
    exact h2
  · intro h1
    refine ⟨x, ?_, by rw [h1, decide_eq_true rfl]; rfl⟩
    rw [List.mem_range'_1]
    have : ¬ n ≤ x := fun q => by rw [hD.2.2.1 x q] at h1; cases h1
    omega
theorem R_hasS (x : Int32) {c : Nat} (hc : c < 32) {S : pS} : R_has x (nI c) S = some (b2i (bt x c), S) := by
  rw [R_has_eq, b_tst x hc]
  cases bt x c <;> rfl
theorem R_fact {n : Nat} {D : tD} {S : pS} {c r : Nat} (h : RDm n D S) (hr : r < 5) (hc : c < 14) : R_factOf (nI c) (nI r) S = some (D r c, S) := by
  obtain ⟨d0, d1, d2, d3, d4, -⟩ := h.1.1 c hc
  rw [R_factOf_eq]
  have hr' : r = 0 ∨ r = 1 ∨ r = 2 ∨ r = 3 ∨ r = 4 := by omega
  rcases hr' with rfl | rfl | rfl | rfl | rfl
  · rw [if_pos (show nI 0 = (0 : Int32) from rfl), if_pos (inb_n hc (by omega)), rA_n (by omega), d0]
  · rw [if_neg (by decide), if_pos (show nI 1 = (1 : Int32) from rfl), if_pos (inb_n hc (by omega)), rA_n (by omega), d1]
  · rw [if_neg (by decide), if_neg (by decide), if_pos (show nI 2 = (2 : Int32) from rfl), if_pos (inb_n hc (by omega)), rA_n (by omega), d2]
  · rw [if_neg (by decide), if_neg (by decide), if_neg (by decide), if_pos (show nI 3 = (3 : Int32) from rfl), show (6 : Int32) = nI 6 from rfl, nI_add, if_pos (inb_n (by omega) (by omega)), rA_n (by omega), d3]
  · rw [if_neg (by decide), if_neg (by decide), if_neg (by decide), if_neg (by decide), show (62 : Int32) = nI 62 from rfl, nI_add, if_pos (inb_n (by omega) (by omega)), rA_n (by omega), d4]
theorem q_look {X R : pS} (a : Int32) (h : INV X R) : Gd (C_look a) (R_look a) X R := by
  obtain ⟨-, -, -, -, n, D, B, L, T, hw, hX, hR, hH⟩ := id h
  obtain ⟨-, k, -, -, -, hx, hr, -⟩ := hH
  have hR0 := RA_off hR told0
  by_cases e0 : a = 0
  · exact Gd_of h (v := nI n) (by rw [C_look_eq, if_pos e0]; exact congrArg (fun v => some (v, X)) (show rF X 1 1 = nI n from (hX.1.2 1 (by omega) (by omega)).trans hw.1.2.1)) Off.rf (by rw [R_look_eq, if_pos e0]; exact congrArg (fun v => some (v, wF R 0 0 0)) (show R.1 0 6 = nI n from hR.1.2)) told0
  by_cases e1 : a = 1
  · exact Gd_of h (v := D 7 3) (by rw [C_look_eq, if_neg e0, if_pos e1]; exact congrArg (fun v => some (v, X)) (show rF X 1 3 = D 7 3 from hX.1.2 3 (by omega) (by omega))) Off.rf (by rw [R_look_eq, if_neg e0, if_pos e1]; exact congrArg (fun v => some (v, wF R 0 0 0)) (show R.2.1 1 0 = D 7 3 from hR.1.1.2.2.1)) told0
  by_cases e2 : a = 2
  · exact Gd_of h (v := D 7 4) (by rw [C_look_eq, if_neg e0, if_neg e1, if_pos e2]; exact congrArg (fun v => some (v, X)) (show rF X 1 4 = D 7 4 from hX.1.2 4 (by omega) (by omega))) Off.rf (by rw [R_look_eq, if_neg e0, if_neg e1, if_pos e2]; exact congrArg (fun v => some (v, wF R 0 0 0)) (show R.2.1 1 3 = D 7 4 from hR.1.1.2.2.2.2.1)) told0
  by_cases e3 : a = 3
  · exact Gd_of h (v := D 7 5) (by rw [C_look_eq, if_neg e0, if_neg e1, if_neg e2, if_pos e3]; exact congrArg (fun v => some (v, X)) (show rF X 1 5 = D 7 5 from hX.1.2 5 (by omega) (by omega))) Off.rf (by rw [R_look_eq, if_neg e0, if_neg e1, if_neg e2, if_pos e3]; exact congrArg (fun v => some (v, wF R 0 0 0)) (show R.2.1 1 4 = D 7 5 from hR.1.1.2.2.2.2.2.1)) told0
  by_cases e4 : a = 4
  · exact Gd_of h (v := D 7 6) (by rw [C_look_eq, if_neg e0, if_neg e1, if_neg e2, if_neg e3, if_pos e4]; exact congrArg (fun v => some (v, X)) (show rF X 1 6 = D 7 6 from hX.1.2 6 (by omega) (by omega))) Off.rf (by rw [R_look_eq, if_neg e0, if_neg e1, if_neg e2, if_neg e3, if_pos e4]; exact congrArg (fun v => some (v, wF R 0 0 0)) (show R.2.1 1 5 = D 7 6 from hR.1.1.2.2.2.2.2.2)) told0
  by_cases e5 : a = 5
  · exact Gd_of h (v := D 7 2) (by rw [C_look_eq, if_neg e0, if_neg e1, if_neg e2, if_neg e3, if_neg e4, if_pos e5]; exact congrArg (fun v => some (v, X)) (show rF X 1 2 = D 7 2 from hX.1.2 2 (by omega) (by omega))) Off.rf (by rw [R_look_eq, if_neg e0, if_neg e1, if_neg e2, if_neg e3, if_neg e4, if_pos e5, kset hw.1 hR0.1]; rfl) told0
  by_cases e6 : a = 6
  · exact Gd_of h (v := nI B.1) (by rw [C_look_eq, if_neg e0, if_neg e1, if_neg e2, if_neg e3, if_neg e4, if_neg e5, if_pos e6]; exact congrArg (fun v => some (v, X)) (show rF X 23 2 = nI B.1 from hX.2.1.1)) Off.rf (by rw [R_look_eq, if_neg e0, if_neg e1, if_neg e2, if_neg e3, if_neg e4, if_neg e5, if_pos e6]; exact congrArg (fun v => some (v, wF R 0 0 0)) (show R.2.1 1 2 = nI B.1 from hR.2.1.1)) told0
  by_cases e7 : a = 7
  · exact Gd_of h (v := D 7 7) (by rw [C_look_eq, if_neg e0, if_neg e1, if_neg e2, if_neg e3, if_neg e4, if_neg e5, if_neg e6, if_pos e7]; exact congrArg (fun v => some (v, X)) (show rF X 1 7 = D 7 7 from hX.1.2 7 (by omega) (by omega))) Off.rf (by rw [R_look_eq, if_neg e0, if_neg e1, if_neg e2, if_neg e3, if_neg e4, if_neg e5, if_neg e6, if_pos e7]; exact congrArg (fun v => some (v, wF R 0 0 0)) (show R.2.1 1 1 = D 7 7 from hR.1.1.2.2.2.1)) told0
  by_cases e8 : a = 8
  · exact Gd_of h (v := nI (L 0 0)) (by rw [C_look_eq, if_neg e0, if_neg e1, if_neg e2, if_neg e3, if_neg e4, if_neg e5, if_neg e6, if_neg e7, if_pos e8]; exact congrArg (fun v => some (v, X)) (show rF X 4 8 = nI (L 0 0) from hX.2.2.1.1)) Off.rf (by rw [R_look_eq, if_neg e0, if_neg e1, if_neg e2, if_neg e3, if_neg e4, if_neg e5, if_neg e6, if_neg e7, if_pos e8]; exact congrArg (fun v => some (v, wF R 0 0 0)) (show R.2.1 10 0 = nI (L 0 0) from hR.2.2.1.1)) told0
  by_cases e9 : a = 9
  · exact Gd_of h (v := nI (T 0 0)) (by rw [C_look_eq, if_neg e0, if_neg e1, if_neg e2, if_neg e3, if_neg e4, if_neg e5, if_neg e6, if_neg e7, if_neg e8, if_pos e9]; exact congrArg (fun v => some (v, X)) (show rF X 3 8 = nI (T 0 0) from hX.2.2.2.1)) Off.rf (by rw [R_look_eq, if_neg e0, if_neg e1, if_neg e2, if_neg e3, if_neg e4, if_neg e5, if_neg e6, if_neg e7, if_neg e8, if_pos e9]; exact congrArg (fun v => some (v, wF R 0 0 0)) (show R.1 0 34 = nI (T 0 0) from hR.2.2.2.1.1)) told0
  by_cases e10 : a = 10
  · exact Gd_of h (v := nI (T 0 1)) (by rw [C_look_eq, if_neg e0, if_neg e1, if_neg e2, if_neg e3, if_neg e4, if_neg e5, if_neg e6, if_neg e7, if_neg e8, if_neg e9, if_pos e10]; exact congrArg (fun v => some (v, X)) (show rF X 3 9 = nI (T 0 1) from hX.2.2.2.2.1)) Off.rf (by rw [R_look_eq, if_neg e0, if_neg e1, if_neg e2, if_neg e3, if_neg e4, if_neg e5, if_neg e6, if_neg e7, if_neg e8, if_neg e9, if_pos e10]; exact congrArg (fun v => some (v, wF R 0 0 0)) (show R.1 0 36 = nI (T 0 1) from hR.2.2.2.1.2.1)) told0
  by_cases e11 : a = 11
  · exact Gd_of h (v := nI (T 0 2)) (by rw [C_look_eq, if_neg e0, if_neg e1, if_neg e2, if_neg e3, if_neg e4, if_neg e5, if_neg e6, if_neg e7, if_neg e8, if_neg e9, if_neg e10, if_pos e11]; exact congrArg (fun v => some (v, X)) (show rF X 15 2 = nI (T 0 2) from hX.2.2.2.2.2.2.2.1.1)) Off.rf (by rw [R_look_eq, if_neg e0, if_neg e1, if_neg e2, if_neg e3, if_neg e4, if_neg e5, if_neg e6, if_neg e7, if_neg e8, if_neg e9, if_neg e10, if_pos e11]; exact congrArg (fun v => some (v, wF R 0 0 0)) (show R.1 0 39 = nI (T 0 2) from hR.2.2.2.1.2.2.1)) told0
  by_cases e12 : a = 12
  · exact Gd_of h (v := nI (T 0 3)) (by rw [C_look_eq, if_neg e0, if_neg e1, if_neg e2, if_neg e3, if_neg e4, if_neg e5, if_neg e6, if_neg e7, if_neg e8, if_neg e9, if_neg e10, if_neg e11, if_pos e12]; exact congrArg (fun v => some (v, X)) (show rF X 17 2 = nI (T 0 3) from hX.2.2.2.2.2.2.2.2.1.1)) Off.rf (by rw [R_look_eq, if_neg e0, if_neg e1, if_neg e2, if_neg e3, if_neg e4, if_neg e5, if_neg e6, if_neg e7, if_neg e8, if_neg e9, if_neg e10, if_neg e11, if_pos e12]; exact congrArg (fun v => some (v, wF R 0 0 0)) (show R.1 0 43 = nI (T 0 3) from hR.2.2.2.1.2.2.2.1)) told0
  by_cases e13 : a = 13
  · exact Gd_of h (v := nI (T 0 4)) (by rw [C_look_eq, if_neg e0, if_neg e1, if_neg e2, if_neg e3, if_neg e4, if_neg e5, if_neg e6, if_neg e7, if_neg e8, if_neg e9, if_neg e10, if_neg e11, if_neg e12, if_pos e13]; exact congrArg (fun v => some (v, X)) (show rF X 19 2 = nI (T 0 4) from hX.2.2.2.2.2.2.2.2.2.1.1)) Off.rf (by rw [R_look_eq, if_neg e0, if_neg e1, if_neg e2, if_neg e3, if_neg e4, if_neg e5, if_neg e6, if_neg e7, if_neg e8, if_neg e9, if_neg e10, if_neg e11, if_neg e12, if_pos e13]; exact congrArg (fun v => some (v, wF R 0 0 0)) (show R.1 0 49 = nI (T 0 4) from hR.2.2.2.1.2.2.2.2.1)) told0
  by_cases e14 : a = 14
  · exact Gd_of h (v := nI (T 0 5)) (by rw [C_look_eq, if_neg e0, if_neg e1, if_neg e2, if_neg e3, if_neg e4, if_neg e5, if_neg e6, if_neg e7, if_neg e8, if_neg e9, if_neg e10, if_neg e11, if_neg e12, if_neg e13, if_pos e14]; exact congrArg (fun v => some (v, X)) (show rF X 21 2 = nI (T 0 5) from hX.2.2.2.2.2.2.2.2.2.2.1)) Off.rf (by rw [R_look_eq, if_neg e0, if_neg e1, if_neg e2, if_neg e3, if_neg e4, if_neg e5, if_neg e6, if_neg e7, if_neg e8, if_neg e9, if_neg e10, if_neg e11, if_neg e12, if_neg e13, if_pos e14]; exact congrArg (fun v => some (v, wF R 0 0 0)) (show R.1 0 52 = nI (T 0 5) from hR.2.2.2.1.2.2.2.2.2)) told0
  by_cases e15 : a = 15
  · exact Gd_of h (v := nI k) (by rw [C_look_eq, if_neg e0, if_neg e1, if_neg e2, if_neg e3, if_neg e4, if_neg e5, if_neg e6, if_neg e7, if_neg e8, if_neg e9, if_neg e10, if_neg e11, if_neg e12, if_neg e13, if_neg e14, if_pos e15]; exact congrArg (fun v => some (v, X)) (show rF X 31 2 = nI k from hx)) Off.rf (by rw [R_look_eq, if_neg e0, if_neg e1, if_neg e2, if_neg e3, if_neg e4, if_neg e5, if_neg e6, if_neg e7, if_neg e8, if_neg e9, if_neg e10, if_neg e11, if_neg e12, if_neg e13, if_neg e14, if_pos e15]; exact congrArg (fun v => some (v, wF R 0 0 0)) (show R.1 0 3 = nI k from hr)) told0
  exact Gd_of h (v := -1) (by rw [C_look_eq, if_neg e0, if_neg e1, if_neg e2, if_neg e3, if_neg e4, if_neg e5, if_neg e6, if_neg e7, if_neg e8, if_neg e9, if_neg e10, if_neg e11, if_neg e12, if_neg e13, if_neg e14, if_neg e15]) Off.rf (by rw [R_look_eq, if_neg e0, if_neg e1, if_neg e2, if_neg e3, if_neg e4, if_neg e5, if_neg e6, if_neg e7, if_neg e8, if_neg e9, if_neg e10, if_neg e11, if_neg e12, if_neg e13, if_neg e14, if_neg e15]) told0
