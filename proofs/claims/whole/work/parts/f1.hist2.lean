/-! What can be undone: put aside, the oldest dropped; what stays beside a drawer. -/
abbrev KXF : List (Nat × Nat) := [(25, 3), (28, 3), (29, 0), (29, 2), (23, 0), (17, 0), (19, 0), (21, 0), (59, 0), (0, 15), (69, 1), (69, 2), (69, 3), (69, 4), (69, 5), (69, 6), (69, 7), (71, 8), (71, 9), (72, 7), (72, 8), (83, 2), (85, 2), (87, 2), (89, 2), (91, 2), (46, 4), (50, 4), (50, 5), (4, 8), (4, 7), (3, 8), (3, 9), (15, 2), (17, 2), (19, 2), (21, 2)]
abbrev KXW : List Nat := [70, 73, 74, 75, 76, 77, 80, 81, 82, 84, 86, 88, 90, 92, 47, 5, 6, 7, 8, 9, 12, 13, 14, 16, 18, 20, 22]
def kpX (X X' : pS) : Prop := (∀ i a, (i, a) ∈ KXF → X'.1 i a = X.1 i a) ∧ ∀ i ∈ KXW, X'.2.1 i = X.2.1 i
abbrev KRF : List (Nat × Nat) := [(0, 57), (0, 12), (0, 32), (0, 33), (0, 34), (0, 36), (0, 39), (0, 43), (0, 49), (0, 52)]
abbrev KRW : List Nat := [8, 9, 34, 10, 11, 12, 13, 14, 15, 16, 18, 19, 20, 21, 24, 25, 29, 30, 31, 32, 33]
def kpR (X X' : pS) : Prop := (∀ i a, (i, a) ∈ KRF → X'.1 i a = X.1 i a) ∧ ∀ i ∈ KRW, X'.2.1 i = X.2.1 i
theorem kpX_tr {X Y Z : pS} (h : kpX X Y) (h2 : kpX Y Z) : kpX X Z := ⟨fun i a q => (h2.1 i a q).trans (h.1 i a q), fun i q => (h2.2 i q).trans (h.2 i q)⟩
theorem kpR_tr {X Y Z : pS} (h : kpR X Y) (h2 : kpR Y Z) : kpR X Z := ⟨fun i a q => (h2.1 i a q).trans (h.1 i a q), fun i q => (h2.2 i q).trans (h.2 i q)⟩
theorem kpX_of {F : List (Nat × Nat)} {W : List Nat} {X X' : pS} (h : Off F W X X') (h1 : ∀ x ∈ KXF, x ∉ F) (h2 : ∀ i ∈ KXW, i ∉ W) : kpX X X' := ⟨fun i a q => h.1 i a (h1 _ q), fun i q => h.2.1 i (h2 i q)⟩
theorem kpR_of {F : List (Nat × Nat)} {W : List Nat} {X X' : pS} (h : Off F W X X') (h1 : ∀ x ∈ KRF, x ∉ F) (h2 : ∀ i ∈ KRW, i ∉ W) : kpR X X' := ⟨fun i a q => h.1 i a (h1 _ q), fun i q => h.2.1 i (h2 i q)⟩
theorem INV_dr {X R X' R' : pS} (hcx : ConX X) (hcr : ConR R) (him : Img X R) (htp : Tap X R) (kx : kpX X X') (kr : kpR R R') (h05 : R'.1 0 5 = 0) {L T : tL} (xl : XL 4 L X) (xt : XT 3 T X) (rl : RLm L R) (rt : RTm T R) {n : Nat} {D : tD} {B : tB} (hw : Wf n D B L T) (xd : XD 1 D X') (xb : XB 23 B X') (rd : RDm n D R') (rb : RB B R') (hh : Hst n B X' R') : INV X' R' := by
  have f := kx.1
  have w := kx.2
  have g := kr.1
  have v := kr.2
  have c1 : ConX X' := by
    unfold ConX at *
    rw [f 25 3 (by decide), f 28 3 (by decide), f 29 0 (by decide), f 29 2 (by decide), f 23 0 (by decide), f 17 0 (by decide), f 19 0 (by decide), f 21 0 (by decide), f 59 0 (by decide)]
    exact hcx
  have c2 : ConR R' := by
    refine ⟨h05, ?_⟩
    rw [v 9 (by decide)]
    exact hcr.2
  have c3 : Img X' R' := by
    unfold Img at *
    rw [f 0 15 (by decide), g 0 57 (by decide), v 34 (by decide)]
    rcases him with a | ⟨a, b, n, D, B, L, T, hw, d1, d2, d3, d4, d5⟩
    · exact Or.inl a
    · refine Or.inr ⟨a, b, n, D, B, L, T, hw, ?_, ?_, ?_, ?_, d5⟩
      · refine ⟨fun r c hr hc => by rw [show 69 + 1 = 70 from rfl, w 70 (by decide)]; exact d1.1 r c hr hc, fun i h1 h2 => ?_⟩
        have hi : i = 1 ∨ i = 2 ∨ i = 3 ∨ i = 4 ∨ i = 5 ∨ i = 6 ∨ i = 7 := by omega
        rw [f 69 i (by rcases hi with rfl | rfl | rfl | rfl | rfl | rfl | rfl <;> decide)]
        exact d1.2 i h1 h2
      · unfold XB at *
        rw [f 91 2 (by decide), show 91 + 1 = 92 from rfl, w 92 (by decide)]
        exact d2
      · unfold XL at *
        rw [f 72 8 (by decide), f 72 7 (by decide), show 72 + 1 = 73 from rfl, show 72 + 2 = 74 from rfl, show 72 + 3 = 75 from rfl, show 72 + 4 = 76 from rfl, show 72 + 5 = 77 from rfl, w 73 (by decide), w 74 (by decide), w 75 (by decide), w 76 (by decide), w 77 (by decide)]
        exact d3
      · unfold XT at *
        rw [f 71 8 (by decide), f 71 9 (by decide), show 71 + 9 = 80 from rfl, show 71 + 10 = 81 from rfl, show 71 + 11 = 82 from rfl, show 71 + 12 = 83 from rfl, show 71 + 13 = 84 from rfl, show 71 + 14 = 85 from rfl, show 71 + 15 = 86 from rfl, show 71 + 16 = 87 from rfl, show 71 + 17 = 88 from rfl, show 71 + 18 = 89 from rfl, show 71 + 19 = 90 from rfl, f 83 2 (by decide), f 85 2 (by decide), f 87 2 (by decide), f 89 2 (by decide), w 80 (by decide), w 81 (by decide), w 82 (by decide), w 84 (by decide), w 86 (by decide), w 88 (by decide), w 90 (by decide)]
        exact d4
  have c4 : Tap X' R' := by
    unfold Tap at *
    rw [f 46 4 (by decide), f 50 4 (by decide), f 50 5 (by decide), w 47 (by decide), g 0 12 (by decide), g 0 32 (by decide), g 0 33 (by decide), v 8 (by decide)]
    exact htp
  have c5 : XL 4 L X' := by
    unfold XL at *
    rw [f 4 8 (by decide), f 4 7 (by decide), show 4 + 1 = 5 from rfl, show 4 + 2 = 6 from rfl, show 4 + 3 = 7 from rfl, show 4 + 4 = 8 from rfl, show 4 + 5 = 9 from rfl, w 5 (by decide), w 6 (by decide), w 7 (by decide), w 8 (by decide), w 9 (by decide)]
    exact xl
  have c6 : XT 3 T X' := by
    unfold XT at *
    rw [f 3 8 (by decide), f 3 9 (by decide), show 3 + 9 = 12 from rfl, show 3 + 10 = 13 from rfl, show 3 + 11 = 14 from rfl, show 3 + 12 = 15 from rfl, show 3 + 13 = 16 from rfl, show 3 + 14 = 17 from rfl, show 3 + 15 = 18 from rfl, show 3 + 16 = 19 from rfl, show 3 + 17 = 20 from rfl, show 3 + 18 = 21 from rfl, show 3 + 19 = 22 from rfl, f 15 2 (by decide), f 17 2 (by decide), f 19 2 (by decide), f 21 2 (by decide), w 12 (by decide), w 13 (by decide), w 14 (by decide), w 16 (by decide), w 18 (by decide), w 20 (by decide), w 22 (by decide)]
    exact xt
  have c7 : RLm L R' := by
    unfold RLm at *
    rw [v 10 (by decide), v 11 (by decide), v 12 (by decide), v 13 (by decide), v 14 (by decide), v 15 (by decide), v 16 (by decide)]
    exact rl
  have c8 : RTm T R' := by
    unfold RTm at *
    rw [g 0 34 (by decide), g 0 36 (by decide), g 0 39 (by decide), g 0 43 (by decide), g 0 49 (by decide), g 0 52 (by decide), v 18 (by decide), v 19 (by decide), v 20 (by decide), v 21 (by decide), v 24 (by decide), v 25 (by decide), v 29 (by decide), v 30 (by decide), v 31 (by decide), v 32 (by decide), v 33 (by decide)]
    exact rt
  exact ⟨c1, c2, c3, c4, n, D, B, L, T, hw, ⟨xd, xb, c5, c6⟩, ⟨rd, rb, c7, c8⟩, hh⟩
/-- the body of Hst -/
def HstE (h : Nat) (Hd : Nat → tD) (Hb : Nat → Nat) (n : Nat) (B : tB) (X R : pS) : Prop := h ≤ 6 ∧ X.1 31 2 = nI h ∧ R.1 0 3 = nI h ∧ (∀ i j, i ≤ j → j < h → Hb i ≤ Hb j) ∧ ∀ i, i < h → (∃ j, X.2.2 32 i = some j ∧ XD j (Hd i) X) ∧ X.2.1 33 i = nI (Hb i) ∧ Hb i ≤ B.1 ∧ WD n (Hd i) ∧ RD n (fun k => R.2.1 2 (76 * i + k)) (R.2.1 4) (R.2.1 5) (R.2.1 6) (Hd i) ∧ R.2.1 2 (76 * i + 2) = nI (Hb i)
theorem Hst_mono {n : Nat} {B B' : tB} {X R : pS} (h : Hst n B X R) (hb : B.1 ≤ B'.1) : Hst n B' X R := by
  obtain ⟨hp, k, Hd, Hb, a1, a2, a3, am, a4⟩ := h
  refine ⟨hp, k, Hd, Hb, a1, a2, a3, am, fun i hi => ?_⟩
  obtain ⟨b1, b2, b3, b4⟩ := a4 i hi
  exact ⟨b1, b2, by omega, b4⟩
/-- nothing can be undone -/
theorem Hst_0 {n : Nat} {B : tB} {X R : pS} (hp : Prm X) (h1 : X.1 31 2 = 0) (h2 : R.1 0 3 = 0) : Hst n B X R := ⟨hp, 0, fun _ => fun _ _ => 0, fun _ => 0, by omega, h1, h2, fun i j _ hj => by omega, fun i hi => by omega⟩
abbrev FH : List (Nat × Nat) := [(31, 2), (34, 1), (34, 2), (34, 3), (34, 4), (34, 5), (34, 6), (34, 7), (36, 1), (36, 2), (36, 3), (36, 4), (36, 5), (36, 6), (36, 7), (38, 1), (38, 2), (38, 3), (38, 4), (38, 5), (38, 6), (38, 7), (40, 1), (40, 2), (40, 3), (40, 4), (40, 5), (40, 6), (40, 7), (42, 1), (42, 2), (42, 3), (42, 4), (42, 5), (42, 6), (42, 7), (44, 1), (44, 2), (44, 3), (44, 4), (44, 5), (44, 6), (44, 7)]
abbrev WH : List Nat := [33, 35, 37, 39, 41, 43, 45]
/-- but for the history -/
def offH (X X' : pS) : Prop := (∀ i a, (i, a) ∉ FH → X'.1 i a = X.1 i a) ∧ ∀ i, i ∉ WH → X'.2.1 i = X.2.1 i
theorem offH_tr {X Y Z : pS} (h : offH X Y) (h2 : offH Y Z) : offH X Z := ⟨fun i a q => (h2.1 i a q).trans (h.1 i a q), fun i q => (h2.2 i q).trans (h.2 i q)⟩
theorem offH_kp {X X' : pS} (h : offH X X') : kpX X X' := ⟨fun i a q => h.1 i a ((by decide : ∀ x ∈ KXF, x ∉ FH) _ q), fun i q => h.2 i ((by decide : ∀ i ∈ KXW, i ∉ WH) i q)⟩
theorem offH_D {X X' : pS} {D : tD} (h : offH X X') (hx : XD 1 D X) : XD 1 D X' := by
  refine ⟨fun r c hr hc => by rw [show 1 + 1 = 2 from rfl, h.2 2 (by decide)]; exact hx.1 r c hr hc, fun i h1 h2 => ?_⟩
  rw [h.1 1 i (by simp)]
  exact hx.2 i h1 h2
theorem offH_B {X X' : pS} {B : tB} (h : offH X X') (hx : XB 23 B X) : XB 23 B X' := by
  unfold XB at *
  rw [h.1 23 2 (by decide), show 23 + 1 = 24 from rfl, h.2 24 (by decide)]
  exact hx
theorem offH_cp {j : Nat} (hj : hj j) (X : pS) : offH X (cpS j 1 X) := by
  refine ⟨fun i a q => ?_, fun i q => ?_⟩
  · rw [cp_1f, if_neg]
    rintro ⟨rfl, h1, h2⟩
    apply q
    have ha : a = 1 ∨ a = 2 ∨ a = 3 ∨ a = 4 ∨ a = 5 ∨ a = 6 ∨ a = 7 := by omega
    rcases hj with rfl | rfl | rfl | rfl | rfl | rfl <;> rcases ha with rfl | rfl | rfl | rfl | rfl | rfl | rfl <;> decide
  · rw [cp_2, if_neg]
    intro e
    apply q
    rw [e]
    rcases hj with rfl | rfl | rfl | rfl | rfl | rfl <;> decide
/-- the class drops the oldest -/
theorem dropX {X : pS} (hp : Prm X) : ∃ X', Hi_dropOldest_31 X = some (0, X') ∧ Prm X' ∧ (∀ i, i < 5 → X'.2.2 32 i = X.2.2 32 (i + 1) ∧ X'.2.1 33 i = X.2.1 33 (i + 1)) ∧ X'.1 31 2 = nI 5 ∧ (∀ i a, (i, a) ≠ (31, 2) → X'.1 i a = X.1 i a) ∧ ∀ i, i ≠ 33 → X'.2.1 i = X.2.1 i := by
  have go : ∀ k l (S : pS) (j1 : Nat), l + k = 6 → 1 ≤ l → hj j1 → (∀ i, i < 6 → S.2.2 32 i = if i + 1 < l then X.2.2 32 (i + 1) else X.2.2 32 i) → (∀ i, i < 6 → S.2.1 33 i = if i + 1 < l then X.2.1 33 (i + 1) else X.2.1 33 i) → S.1 = X.1 → (∀ i, i ≠ 33 → S.2.1 i = X.2.1 i) → (∀ i, i ≠ 32 → S.2.2 i = X.2.2 i) → ∃ S', Hi_dropOldest_31_c9 j1 (nI l) S = some (0, wF (wR S' 32 (nI 5) j1) 31 2 5) ∧ (∀ i, i < 6 → S'.2.2 32 i = if i < 5 then X.2.2 32 (i + 1) else X.2.2 32 i) ∧ (∀ i, i < 5 → S'.2.1 33 i = X.2.1 33 (i + 1)) ∧ S'.1 = X.1 ∧ (∀ i, i ≠ 33 → S'.2.1 i = X.2.1 i) := by
    intro k
    induction k with
    | zero =>
      intro l S j1 hl h1 hj1 a1 a2 a3 a4 a5
      have : l = 6 := by omega
      subst this
      refine ⟨S, ?_, fun i hi => ?_, fun i hi => ?_, a3, a4⟩
      · rw [Hi_dropOldest_31_c9_eq, if_neg (by decide), if_pos (hj_obj hj1)]
        rfl
      · rw [a1 i hi]
        by_cases e : i < 5
        · rw [if_pos e, if_pos (by omega)]
        · rw [if_neg e, if_neg (by omega)]
      · rw [a2 i (by omega), if_pos (by omega)]
    | succ k ih =>
      intro l S j1 hl h1 hj1 a1 a2 a3 a4 a5
      obtain ⟨j2, b1, b2⟩ := hp.1 l (by omega)
      have c1 : S.2.2 32 l = some j2 := by rw [a1 l (by omega), if_neg (by omega)]; exact b1
      rw [Hi_dropOldest_31_c9_eq, if_pos (show nI l < (6 : Int32) from nlt_t (n := 6) (by omega) (by omega)), if_pos (inb_n (by omega) (by omega)), nI_clamp (by omega), c1, ob, if_pos (hj_obj b2), show nI l - (1 : Int32) = nI (l - 1) from pk_sub (a := l) (b := 1) (by omega), if_pos (inb_n (by omega) (by omega)), if_pos (inb_n (by omega) (by omega)), if_pos (inb_n (by omega) (by omega)), rA_n (by omega), nI_1]
      refine ih (l + 1) _ j1 (by omega) (by omega) hj1 (fun i hi => ?_) (fun i hi => ?_) a3 (fun i hi => ?_) (fun i hi => ?_)
      · rw [wA_22, wR_22 (by omega), if_pos rfl, up_at, a1 i hi]
        by_cases e : i = l - 1
        · rw [if_pos e, if_pos (by omega), show i + 1 = l from by omega, b1]
        · rw [if_neg e]
          by_cases e2 : i + 1 < l
          · rw [if_pos e2, if_pos (by omega)]
          · rw [if_neg e2, if_neg (by omega)]
      · rw [wA_21 (by omega), wR_21, sA_eq, upd_at, a2 i hi, a2 l (by omega), if_neg (show ¬ l + 1 < l by omega)]
        by_cases e : i = l - 1
        · rw [if_pos e, if_pos (by omega), show i + 1 = l from by omega]
        · rw [if_neg e]
          by_cases e2 : i + 1 < l
          · rw [if_pos e2, if_pos (by omega)]
          · rw [if_neg e2, if_neg (by omega)]
      · rw [wA_21 (by omega), wR_21, sA_ne hi]; exact a4 i hi
      · rw [wA_22, wR_22 (by omega), if_neg hi]; exact a5 i hi
  obtain ⟨j1, b1, b2⟩ := hp.1 0 (by omega)
  obtain ⟨S', c1, c2, c3, c4, c5⟩ := go 5 1 X j1 rfl (by omega) b2 (fun i hi => by rw [if_neg (by omega)]) (fun i hi => by rw [if_neg (by omega)]) rfl (fun i _ => rfl) (fun i _ => rfl)
  have r6 : ∀ i, i < 6 → (wF (wR S' 32 (nI 5) j1) 31 2 5).2.2 32 i = if i = 5 then X.2.2 32 0 else X.2.2 32 (i + 1) := by
    intro i hi
    rw [show (wF (wR S' 32 (nI 5) j1) 31 2 5).2.2 32 = (wR S' 32 (nI 5) j1).2.2 32 from rfl, wR_22 (by omega), if_pos rfl, up_at, c2 i hi]
    by_cases e : i = 5
    · rw [if_pos e, if_pos e, b1]
    · rw [if_neg e, if_neg e, if_pos (by omega)]
  refine ⟨_, by rw [Hi_dropOldest_31_eq, show (S'.1, (0 : Int32)).2.toNatClampNeg = 0 from rfl, b1, ob]; exact c1, ⟨fun i hi => ?_, fun i i' hi hi' he => ?_⟩, fun i hi => ⟨?_, ?_⟩, ?_, fun i a q => ?_, fun i q => ?_⟩
  · rw [r6 i hi]
    by_cases e : i = 5
    · rw [if_pos e]; exact ⟨j1, b1, b2⟩
    · rw [if_neg e]; exact hp.1 (i + 1) (by omega)
  · rw [r6 i hi, r6 i' hi'] at he
    by_cases e : i = 5 <;> by_cases e' : i' = 5
    · omega
    · rw [if_pos e, if_neg e'] at he
      have := hp.2 0 (i' + 1) (by omega) (by omega) he
      omega
    · rw [if_neg e, if_pos e'] at he
      have := hp.2 (i + 1) 0 (by omega) (by omega) he
      omega
    · rw [if_neg e, if_neg e'] at he
      have := hp.2 (i + 1) (i' + 1) (by omega) (by omega) he
      omega
  · rw [r6 i (by omega), if_neg (by omega)]
  · rw [wF_2, wR_21]; exact c3 i hi
  · rw [wF_1, sA_eq, upd_eq]; rfl
  · rw [wF_1, wR_1, c4, sA_row]
    by_cases e : i = 31
    · subst e
      rw [if_pos rfl, upd_ne (fun z => q (by rw [z]))]
    · rw [if_neg e]
  · rw [wF_2, wR_21]; exact c5 i q
