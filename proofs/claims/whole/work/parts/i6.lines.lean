/-! Reading: a text line by line. -/
abbrev FTx : List (Nat × Nat) := [(50, 3), (50, 4), (50, 5), (50, 6), (50, 7), (50, 8), (51, 7), (51, 8), (59, 2), (46, 3)]
abbrev WTx : List Nat := [48, 49, 52, 53, 54, 55, 56, 60]
def FailP (X0 R0 X R : pS) : Prop := Fl X R ∧ Off FTx WTx X0 X ∧ Sm R0 R
/-- no fault is told -/
def NF (X R : pS) : Prop := X.1 50 4 = 0 ∧ X.1 50 5 = -1 ∧ R.1 0 32 = 0 ∧ R.1 0 33 = -1
theorem NF_off {X X' R R' : pS} {F G : List (Nat × Nat)} {W V : List Nat} (h : NF X R) (hx : Off F W X X') (hr : Off G V R R') (h1 : (50, 4) ∉ F) (h2 : (50, 5) ∉ F) (h3 : (0, 32) ∉ G) (h4 : (0, 33) ∉ G) : NF X' R' := by
  unfold NF at *
  rw [hx.1 _ _ h1, hx.1 _ _ h2, hr.1 _ _ h3, hr.1 _ _ h4]
  exact h
theorem FailP_w {X0 R0 X R : pS} {v : Int32} (h : FailP X0 R0 X R) : FailP X0 R0 (wF X 50 3 v) R := by
  obtain ⟨⟨a, c⟩, d, e⟩ := h
  refine ⟨⟨?_, ?_⟩, d.wF (by decide), e⟩
  · rw [wF_1, sA_eq, upd_ne (by decide)]; exact a
  · rw [wF_1, sA_eq, upd_ne (by decide)]; exact c
theorem FailP_of {b : Nat → Nat} {len M k : Nat} {X0 R0 X R : pS} (c : Int32) (hx : Cx b len M k X) (hr : Cr b len k R) (ox : Off FTx WTx X0 X) (sm : Sm R0 R) : FailP X0 R0 (wF (wF X 50 4 c) 50 5 (nI (stt b len k))) (wF (wF R 0 30 c) 0 31 (nI (stt b len k))) := by
  have o : Off RF0 [] R (wF (wF R 0 30 c) 0 31 (nI (stt b len k))) := (Off.rf.wF (by decide)).wF (by decide)
  exact ⟨Fl_of c hx hr, (ox.wF (by decide)).wF (by decide), sm.tr (Sm.of o (by decide) (by decide))⟩
theorem Sm_w {R : pS} {o i : Nat} {v : Int32} (h : ((o = 11 ∨ o = 12 ∨ o = 13 ∨ o = 14) ∧ 32 ≤ i) ∨ (o = 18 ∧ 12 ≤ i) ∨ ((o = 19 ∨ o = 20) ∧ 8 ≤ i) ∨ (o = 21 ∧ 48 ≤ i)) (hi : i < 2147483648) : Sm R (wA R o (nI i) v) := by
  have e : (wA R o (nI i) v).2.1 = sA R.2.1 o i v := wA_21 hi
  have g : ∀ c j, c ≠ o ∨ j ≠ i → (wA R o (nI i) v).2.1 c j = R.2.1 c j := by
    intro c j hcj
    rw [e]
    by_cases z : c = o
    · subst z
      rw [sA_eq, upd_ne (by omega)]
    · rw [sA_ne z]
  refine ⟨fun _ _ _ => rfl, fun c hc => ?_, rfl, fun j hj => ⟨g _ _ (by omega), g _ _ (by omega), g _ _ (by omega), g _ _ (by omega)⟩, fun j hj => ⟨g _ _ (by omega), g _ _ (by omega)⟩, fun j hj => g _ _ (by omega), fun j hj => ⟨g _ _ (by omega), g _ _ (by omega)⟩, fun j hj => g _ _ (by omega)⟩
  have z : c ≠ o := fun z => by
    subst z
    refine hc ?_
    rcases h with ⟨q, -⟩ | ⟨q, -⟩ | ⟨q, -⟩ | ⟨q, -⟩
    · rcases q with q | q | q | q <;> (rw [q]; decide)
    · rw [q]; decide
    · rcases q with q | q <;> (rw [q]; decide)
    · rw [q]; decide
  rw [e, sA_ne z]
theorem rd_loop {b : Nat → Nat} {len M d : Nat} {l1 l2 : Int32} (hd : 100 ≤ d) (lineX : pS → Option (Int32 × pS)) (loopR : Int32 → pS → Option (Int32 × pS)) (J : Nat → Nat → pS → pS → Prop) (F : pS → pS → Prop)
    (hD : ∀ (l4 : Int32) (S : pS), l4 ≤ (16 : Int32) → ¬ rF S 50 7 = 0 → Re_read_50_c70 (d + 1) l1 l2 1 l4 S = (lineX S).bind (fun q => Re_read_50_c146 (d + 1) l1 l2 q.1 l4 q.2))
    (hJ : ∀ l k X R, J l k X R → Cx b len M k X ∧ X.1 50 3 = nI l ∧ l ≤ 16 ∧ tkn b len k < 11000)
    (hF : ∀ X R v, F X R → F (wF X 50 3 v) R)
    (hE : ∀ l k X R, J l k X R → tkn b len k = 0 → loopR (nI l) R = some (nI l, R))
    (hS : ∀ l k X R, J l k X R → tkn b len k ≠ 0 → (∃ X' R', lineX X = some (0, X') ∧ loopR (nI l) R = some (-1, R') ∧ F X' R') ∨ (∃ k' X' R', k < k' ∧ l < 16 ∧ lineX X = some (1, X') ∧ X'.1 50 3 = nI l ∧ loopR (nI l) R = loopR (nI (l + 1)) R' ∧ J (l + 1) k' (wF X' 50 3 (nI (l + 1))) R')) :
    ∀ (m l k : Nat) (X R : pS), M - k ≤ m → J l k X R → (∃ X' R', Re_read_50_c70 (d + 1) l1 l2 1 (nI l) X = some (0, X') ∧ loopR (nI l) R = some (-1, R') ∧ F X' R') ∨ (∃ l' k' X' R', Re_read_50_c70 (d + 1) l1 l2 1 (nI l) X = some (1, X') ∧ loopR (nI l) R = some (nI l', R') ∧ J l' k' X' R' ∧ tkn b len k' = 0) := by
  have fin : ∀ l k X R, J l k X R → tkn b len k = 0 → (∃ l' k' X' R', Re_read_50_c70 (d + 1) l1 l2 1 (nI l) X = some (1, X') ∧ loopR (nI l) R = some (nI l', R') ∧ J l' k' X' R' ∧ tkn b len k' = 0) := by
    intro l k X R h h0
    obtain ⟨j1, j2, j3, j4⟩ := hJ l k X R h
    refine ⟨l, k, X, R, ?_, hE l k X R h h0, h, h0⟩
    rw [Re_read_50_c70_eq d hd, if_pos (show nI l ≤ (16 : Int32) from (n_le (c := 16) (by omega) (by omega)).mpr j3), if_neg (show ¬ (1 : Int32) = 0 by decide), if_pos (show rF X 50 7 = 0 by rw [show rF X 50 7 = nI (tkn b len k) from j1.2.2.2.1, h0]; rfl), if_pos (show pBool 1 1 = true from rfl)]
  have stp : ∀ l k X R, J l k X R → tkn b len k ≠ 0 → Re_read_50_c70 (d + 1) l1 l2 1 (nI l) X = (lineX X).bind (fun q => Re_read_50_c146 (d + 1) l1 l2 q.1 (nI l) q.2) := by
    intro l k X R h h0
    obtain ⟨j1, j2, j3, j4⟩ := hJ l k X R h
    refine hD _ _ ((n_le (c := 16) (by omega) (by omega)).mpr j3) ?_
    rw [show rF X 50 7 = nI (tkn b len k) from j1.2.2.2.1, show (0 : Int32) = nI 0 from rfl, nI_eqE (by omega) (by omega)]
    exact h0
  intro m
  induction m with
  | zero =>
    intro l k X R hm h
    obtain ⟨j1, j2, j3, j4⟩ := hJ l k X R h
    by_cases h0 : tkn b len k = 0
    · exact Or.inr (fin l k X R h h0)
    · rcases hS l k X R h h0 with ⟨X', R', s1, s2, s3⟩ | ⟨k', X', R', s0, s1, s2, s3, s4, s5⟩
      · refine Or.inl ⟨_, R', ?_, s2, hF _ _ (rF X' 50 3 + 1) s3⟩
        rw [stp l k X R h h0, s1, ob, Re_read_50_c146_eq d hd, Re_read_50_c70_eq d hd, if_pos (show (0 : Int32) = 0 from rfl), if_pos (show pBool 1 0 = true from rfl), ite_self]
      · have := (hJ _ _ _ _ s5).1.1
        have := j1.1
        omega
  | succ m ih =>
    intro l k X R hm h
    obtain ⟨j1, j2, j3, j4⟩ := hJ l k X R h
    by_cases h0 : tkn b len k = 0
    · exact Or.inr (fin l k X R h h0)
    · rcases hS l k X R h h0 with ⟨X', R', s1, s2, s3⟩ | ⟨k', X', R', s0, s1, s2, s3, s4, s5⟩
      · refine Or.inl ⟨_, R', ?_, s2, hF _ _ (rF X' 50 3 + 1) s3⟩
        rw [stp l k X R h h0, s1, ob, Re_read_50_c146_eq d hd, Re_read_50_c70_eq d hd, if_pos (show (0 : Int32) = 0 from rfl), if_pos (show pBool 1 0 = true from rfl), ite_self]
      · rw [stp l k X R h h0, s2, ob, Re_read_50_c146_eq d hd, show rF X' 50 3 = nI l from s3, show nI l + (1 : Int32) = nI (l + 1) from nI_1 l, s4]
        exact ih (l + 1) k' _ R' (by omega) s5
/-- the class opens a line -/
theorem opn {b : Nat → Nat} {len M k l lo hi : Nat} {X : pS} (hM : tkn b len M = 0) (hx : Cx b len M k X) (hlt : tkn b len k < 11000) (h3 : X.1 50 3 = nI l) (hl : l ≤ 16) (hlo : 1 ≤ lo) (hhi : hi < 11000) (hlh : lo < 11000) : (¬ (lo ≤ tkn b len k ∧ tkn b len k ≤ hi) ∧ Re_opens_50 (nI lo) (nI hi) X = some (0, wF (wF X 50 4 1) 50 5 (nI (stt b len k)))) ∨ (lo ≤ tkn b len k ∧ tkn b len k ≤ hi ∧ l = 16 ∧ Re_opens_50 (nI lo) (nI hi) X = some (0, wF (wF X 50 4 3) 50 5 (nI (stt b len k)))) ∨ (lo ≤ tkn b len k ∧ tkn b len k ≤ hi ∧ l < 16 ∧ ∃ X', Re_opens_50 (nI lo) (nI hi) X = some (1, X') ∧ Cx b len M (k + 1) X' ∧ Off [(50, 6), (50, 7)] [] X X') := by
  have e7 : rF X 50 7 = nI (tkn b len k) := hx.2.2.2.1
  by_cases q1 : tkn b len k < lo
  · refine Or.inl ⟨by omega, ?_⟩
    rw [Re_opens_50_eq, e7, if_pos (nlt_t q1 (by omega)), fls hx, ob, if_pos (show pBool 1 0 = true from rfl)]
  · by_cases q2 : tkn b len k ≤ hi
    · by_cases q3 : l = 16
      · refine Or.inr (Or.inl ⟨by omega, q2, q3, ?_⟩)
        rw [Re_opens_50_eq, e7, if_neg (nlt_f q1 (by omega) (by omega)), if_pos (by rw [nI_leE (by omega) (by omega)]; exact q2), show rF X 50 3 = nI 16 from by rw [← q3]; exact h3, if_neg (show ¬ nI 16 < (16 : Int32) by decide), fls hx, ob, if_pos (show pBool 1 0 = true from rfl)]
      · obtain ⟨X', x1, x2, x3⟩ := adv hx (k_lt hM hx (by omega))
        refine Or.inr (Or.inr ⟨by omega, q2, by omega, X', ?_, x2, x3⟩)
        rw [Re_opens_50_eq, e7, if_neg (nlt_f q1 (by omega) (by omega)), if_pos (by rw [nI_leE (by omega) (by omega)]; exact q2), show rF X 50 3 = nI l from h3, if_pos (show nI l < (16 : Int32) from nlt_t (n := 16) (by omega) (by omega)), x1, ob]
    · refine Or.inl ⟨by omega, ?_⟩
      rw [Re_opens_50_eq, e7, if_neg (nlt_f q1 (by omega) (by omega)), if_neg (by rw [nI_leE (by omega) (by omega)]; exact q2), fls hx, ob, if_pos (show pBool 1 0 = true from rfl)]
theorem isLW {b : Nat → Nat} {len k : Nat} {R : pS} (h : Cr b len k R) : R_isLineWord R = some (b2i (decide (300 ≤ tkn b len k ∧ tkn b len k ≤ 302)), R) := by
  rw [R_isLineWord_eq]
  rcases h.2.2.2 with ⟨a, e⟩ | ⟨a, e⟩ | ⟨a, a2, e, v⟩ | ⟨a, a2, e, v⟩ | ⟨a, e, v⟩
  · rw [show rF R 0 15 = _ from e, if_neg (by decide), decide_eq_false (by omega)]; rfl
  · rw [show rF R 0 15 = _ from e, if_neg (by decide), decide_eq_false (by omega)]; rfl
  · rw [show rF R 0 15 = _ from e, if_pos rfl, show rF R 0 16 = _ from v, R_isIn_eq, if_neg (show ¬ nI (tkn b len k - 300) < (0 : Int32) from nlt_f (n := 0) (by omega) (by omega) (by omega))]
    by_cases q : tkn b len k ≤ 302
    · rw [if_pos (show nI (tkn b len k - 300) ≤ (2 : Int32) from (n_le (c := 2) (by omega) (by omega)).mpr (by omega)), ob, decide_eq_true ⟨a, q⟩]; rfl
    · rw [if_neg (show ¬ nI (tkn b len k - 300) ≤ (2 : Int32) from fun z => q (by have := (n_le (c := 2) (by omega) (by omega)).mp z; omega)), ob, decide_eq_false (by omega)]; rfl
  · rw [show rF R 0 15 = _ from e, if_neg (by decide), decide_eq_false (by omega)]; rfl
  · have := sgn_b a
    rw [show rF R 0 15 = _ from e, if_neg (by decide), decide_eq_false (by omega)]; rfl
theorem when_s {b : Nat → Nat} {len M k n d : Nat} {L : tL} {X R : pS} (hM : tkn b len M = 0) (hd : 116 ≤ d) (hx : Cx b len M k X) (hr : Cr b len k R) (he : Em n L X R) (h27 : R.1 0 27 = nI 0) (hc : n ≤ k) (kX kR : pS → Option (Int32 × pS)) (f g : Option (Int32 × pS)) (hf : f = (if rF X 50 7 = (303 : Int32) then (Re_advance_50 X).bind (fun q3 => (Re_either_50 (d + 1 + 1) (0 : Int32) q3.2).bind (fun q4 => if q4.1 = 0 then (some ((0 : Int32), q4.2)) else kX q4.2)) else kX X)) (hg : g = (R_isWord (3 : Int32) R).bind (fun q6 => if q6.1 = 0 then kR q6.2 else (R_reads q6.2).bind (fun q7 => (R_readAny q7.2).bind (fun q8 => if q8.1 = (-1 : Int32) then (some ((-1 : Int32), q8.2)) else kR q8.2)))) : (∃ k' n' L' X' R', f = kX X' ∧ g = kR R' ∧ Cx b len M k' X' ∧ Cr b len k' R' ∧ Em n' L' X' R' ∧ k ≤ k' ∧ n ≤ n' ∧ n' ≤ k' ∧ R'.1 0 27 = nI 0 ∧ (n < n' → ∃ t, okRun L' n (n' - n) [] = some [t]) ∧ Gr n L L' ∧ Off FSu WU X X' ∧ Off GC VC R R' ∧ Sm R R') ∨ FOut X R f g := by
  have hlt := knd_lt hr.2.2.2
  have e7 : rF X 50 7 = nI (tkn b len k) := hx.2.2.2.1
  have d3 : R_isWord (3 : Int32) R = some (b2i (decide (tkn b len k = 303)), R) := isWd hr (w := 3) (by decide)
  by_cases q : tkn b len k = 303
  · obtain ⟨X1, x1, x2, x3⟩ := adv hx (k_lt hM hx (by omega))
    obtain ⟨R1, r1, r2, r3⟩ := rds hr
    have o2 : Off [(0, 29)] [] R1 (wF R1 0 29 0) := Off.rf.wF (by decide)
    have hr2 : Cr b len (k + 1) (wF R1 0 29 0) := Cr_off r2 o2 (by decide) (by decide) (by decide)
    have o12 : Off [(0, 29), (0, 13), (0, 14), (0, 15), (0, 16)] [] R (wF R1 0 29 0) := (r3.mono (by decide) (by decide)).tr (o2.mono (by decide) (by decide))
    have fX : f = (Re_either_50 (d + 1 + 1) (nI 0) X1).bind (fun q4 => if q4.1 = 0 then (some ((0 : Int32), q4.2)) else kX q4.2) := by
      rw [hf, e7, q, if_pos (show nI 303 = (303 : Int32) from rfl), x1, ob]; rfl
    have gR : g = (R_readAny_c9 (nI 0) 1 (wF R1 0 29 0)).bind (fun q8 => if q8.1 = (-1 : Int32) then (some ((-1 : Int32), q8.2)) else kR q8.2) := by
      rw [hg, d3, ob, decide_eq_true q, if_neg (show ¬ b2i true = 0 by decide)]
      simp only []
      rw [r1, ob, R_readAny_eq]; rfl
    rcases ei_s (k := k + 1) (dp := 0) (lp := 0) (c := 0) (d := d) (W := []) (ty := []) hM (cond_s hM (M + 1)) (by omega) (by omega) (by omega) (by omega) (by decide) (fun w h => by cases h) (by decide) x2 hr2 (Em_off he x3 o12 (by decide) (by decide) (by decide) (by decide) (by decide)) (by rw [o12.1 _ _ (by decide)]; exact h27) ⟨by rw [wF_1, sA_eq, upd_eq]; rfl, trivial⟩ (by omega) with ⟨k1, n1, L1, X3, R4, a1, a2, a3, a4, a5, a6, a7, a8, a9, a10, a11, a12, a13, a14, a15⟩ | ⟨X', R', f1, f2, f3, f4, f5, f6⟩
    · refine Or.inl ⟨k1, n1, L1, X3, R4, ?_, ?_, a3, a4, a5, by omega, a7, by omega, a9, fun _ => ⟨1, a11⟩, a12, (x3.mono (by decide) (by decide)).tr a13, (o12.mono (by decide) (by decide)).tr a14, (Sm.of o12 (by decide) (by decide)).tr a15⟩
      · rw [fX, a1, ob, if_neg (show ¬ (1 : Int32) = 0 by decide)]
      · rw [gR, a2]
        unfold FINr
        rw [if_pos (show nI 0 = 0 from rfl), ob, if_neg (show ¬ (0 : Int32) = -1 by decide)]
    · exact Or.inr ⟨X', R', by rw [fX, f1, ob, if_pos (show (0 : Int32) = 0 from rfl)], by rw [gR, f2, ob, if_pos rfl], f3, (x3.mono (by decide) (by decide)).tr f4, (o12.mono (by decide) (by decide)).tr f5, (Sm.of o12 (by decide) (by decide)).tr f6⟩
  · refine Or.inl ⟨k, n, L, X, R, ?_, ?_, hx, hr, he, by omega, by omega, hc, h27, fun z => by omega, Gr.rf, Off.rf, Off.rf, Sm.rf⟩
    · rw [hf, e7, if_neg (show ¬ nI (tkn b len k) = (303 : Int32) by rw [show (303 : Int32) = nI 303 from rfl, nI_eqE (by omega) (by omega)]; exact q)]
    · rw [hg, d3, ob, decide_eq_false q, if_pos (show b2i false = 0 from rfl)]
