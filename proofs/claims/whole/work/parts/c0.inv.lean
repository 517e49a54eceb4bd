/-! What holds between the class and the reference, from call to call. -/
/-- what is told: row 0 how many lines (met, called, plan, ahead, asked, noted); 1 by whom (one more; 0 nobody); 2 from, 3 till; 4 .. 6 the plan; 7, 8 ahead; 9, 10 asked; 11 .. 13 noted -/
def XT (o : Nat) (T : tL) (S : pS) : Prop := S.1 o 8 = nI (T 0 0) ∧ S.1 o 9 = nI (T 0 1) ∧ (∀ p, p < 12 → S.2.1 (o + 9) p = nI (T 1 p) - 1) ∧ (∀ f, f < 8 → S.2.1 (o + 10) f = nI (T 2 f) ∧ S.2.1 (o + 11) f = nI (T 3 f)) ∧
  (S.1 (o + 12) 2 = nI (T 0 2) ∧ ∀ i, i < T 0 2 → S.2.1 (o + 13) (4 * i) = nI (T 4 i) ∧ S.2.1 (o + 13) (4 * i + 1) = nI (320 + T 5 i) ∧ S.2.1 (o + 13) (4 * i + 2) = nI (T 6 i)) ∧
  (S.1 (o + 14) 2 = nI (T 0 3) ∧ ∀ i, i < T 0 3 → S.2.1 (o + 15) (4 * i) = nI (T 7 i) ∧ S.2.1 (o + 15) (4 * i + 1) = nI (T 8 i)) ∧
  (S.1 (o + 16) 2 = nI (T 0 4) ∧ ∀ i, i < T 0 4 → S.2.1 (o + 17) (4 * i) = nI (T 9 i) ∧ S.2.1 (o + 17) (4 * i + 1) = nI (T 10 i)) ∧
  (S.1 (o + 18) 2 = nI (T 0 5) ∧ ∀ i, i < T 0 5 → S.2.1 (o + 19) (4 * i) = nI (T 11 i) ∧ S.2.1 (o + 19) (4 * i + 1) = nI (T 12 i) ∧ S.2.1 (o + 19) (4 * i + 2) = nI (T 13 i))
def RT (sm sc sd sa sk sn : Int32) (u cf ct de aa ab aw af nw nf ni : Nat → Int32) (T : tL) : Prop :=
  (sm = nI (T 0 0) ∧ sc = nI (T 0 1) ∧ sd = nI (T 0 2) ∧ sa = nI (T 0 3) ∧ sk = nI (T 0 4) ∧ sn = nI (T 0 5)) ∧ (∀ p, p < 12 → u p = nI (T 1 p)) ∧ (∀ f, f < 8 → cf f = nI (T 2 f) ∧ ct f = nI (T 3 f) - 99) ∧ (∀ i, i < T 0 2 → de (3 * i) = nI (T 4 i) ∧ de (3 * i + 1) = nI (T 5 i) ∧ de (3 * i + 2) = nI (T 6 i)) ∧ (∀ i, i < T 0 3 → aa i = nI (T 7 i) ∧ ab i = nI (T 8 i)) ∧ (∀ i, i < T 0 4 → aw i = nI (T 9 i) ∧ af i = nI (T 10 i)) ∧ (∀ i, i < T 0 5 → nw i = nI (T 11 i) ∧ nf i = nI (T 12 i) ∧ ni i = nI (T 13 i))
def RTm (T : tL) (S : pS) : Prop := RT (S.1 0 34) (S.1 0 36) (S.1 0 39) (S.1 0 43) (S.1 0 49) (S.1 0 52) (S.2.1 18) (S.2.1 19) (S.2.1 20) (S.2.1 21) (S.2.1 24) (S.2.1 25) (S.2.1 29) (S.2.1 30) (S.2.1 31) (S.2.1 32) (S.2.1 33) T
def plA (T : tL) : Nat → Nat → Nat := fun i j => T (4 + j) i
def WT (n : Nat) (T : tL) : Prop := (T 0 0 ≤ 16 ∧ T 0 1 ≤ 16) ∧ (∀ p, p < 12 → T 1 p ≤ 12) ∧ (∀ f, f < 8 → T 2 f ≤ 99 ∧ T 3 f ≤ 99) ∧ WPl (T 0 2) n (plA T) ∧ (T 0 3 ≤ 12 ∧ ∀ i, i < T 0 3 → T 7 i < n ∧ T 8 i < n) ∧ (T 0 4 ≤ 10 ∧ ∀ i, i < T 0 4 → T 9 i < 3 ∧ T 10 i < 12) ∧ (T 0 5 ≤ 8 ∧ ∀ i, i < T 0 5 → T 11 i < 4 ∧ T 12 i < 12 ∧ T 13 i ≤ 1)
def XB (o : Nat) (B : tB) (S : pS) : Prop := S.1 o 2 = nI B.1 ∧ ∀ i, i < 4 * B.1 → S.2.1 (o + 1) i = B.2 i
def RB (B : tB) (S : pS) : Prop := S.2.1 1 2 = nI B.1 ∧ ∀ i, i < 4 * B.1 → S.2.1 7 i = B.2 i
def RI (n : Nat) (D : tD) (B : tB) (L T : tL) (I : Nat → Int32) : Prop := RD n I (fun c => I (80 + 3 * c)) (fun c => I (81 + 3 * c)) (fun c => I (82 + 3 * c)) D ∧ I 76 = nI n ∧ (I 2 = nI B.1 ∧ ∀ i, i < 4 * B.1 → I (269 + i) = B.2 i) ∧ RL (fun _ => I 869) (fun l => I (870 + 4 * l)) (fun l => I (871 + 4 * l)) (fun l => I (872 + 4 * l)) (fun l => I (873 + 4 * l)) (fun k => I (934 + 2 * k)) (fun k => I (935 + 2 * k)) L ∧ RT (I 190) (I 191) (I 192) (I 77) (I 78) (I 79) (fun k => I (193 + k)) (fun k => I (205 + 2 * k)) (fun k => I (206 + 2 * k)) (fun k => I (221 + k)) (fun k => I (122 + 2 * k)) (fun k => I (123 + 2 * k)) (fun k => I (146 + 2 * k)) (fun k => I (147 + 2 * k)) (fun k => I (166 + 3 * k)) (fun k => I (167 + 3 * k)) (fun k => I (168 + 3 * k)) T
/-- fixed numbers of the class -/
def ConX (S : pS) : Prop := S.1 25 3 = 0 ∧ S.1 28 3 = 1 ∧ S.1 29 0 = 0 ∧ S.1 29 2 = 0 ∧ S.1 23 0 = nI 150 ∧ S.1 17 0 = nI 12 ∧ S.1 19 0 = nI 10 ∧ S.1 21 0 = nI 8 ∧ S.1 59 0 = nI 16
def wds : List Nat := [32, 104, 111, 108, 100, 115, 32, 100, 117, 115, 116, 32, 119, 111, 114, 116, 104, 32, 119, 104, 101, 110, 32, 111, 114, 32, 97, 110, 100, 32, 110, 111, 116, 32, 112, 101, 114, 115, 111, 110, 32, 102, 105, 114, 109, 32, 116, 114, 97, 100, 101, 32, 121, 101, 97, 114, 32, 98, 101, 110, 116, 32, 119, 111, 114, 110, 32, 114, 117, 110, 103, 32, 97, 103, 101, 32, 110, 111, 119, 32, 98, 121, 32, 102, 114, 111, 109, 32, 116, 111, 32, 105, 110, 32, 116, 104, 114, 111, 119, 32, 114, 105, 110, 103, 32, 98, 101, 110, 100, 32, 102, 105, 110, 100, 32]
def ConR (S : pS) : Prop := S.1 0 5 = 0 ∧ ∀ i, i < 115 → S.2.1 9 i = nI (wds.getD i 0)
/-- the tables of a moment -/
def Wf (n : Nat) (D : tD) (B : tB) (L T : tL) : Prop := WD n D ∧ B.1 ≤ 150 ∧ WL L ∧ WT n T
def XA (D : tD) (B : tB) (L T : tL) (S : pS) : Prop := XD 1 D S ∧ XB 23 B S ∧ XL 4 L S ∧ XT 3 T S
def RA (n : Nat) (D : tD) (B : tB) (L T : tL) (S : pS) : Prop := RDm n D S ∧ RB B S ∧ RLm L S ∧ RTm T S
def hj (j : Nat) : Prop := j = 34 ∨ j = 36 ∨ j = 38 ∨ j = 40 ∨ j = 42 ∨ j = 44
def Prm (X : pS) : Prop := (∀ i, i < 6 → ∃ j, X.2.2 32 i = some j ∧ hj j) ∧ ∀ i i', i < 6 → i' < 6 → X.2.2 32 i = X.2.2 32 i' → i = i'
/-- what can be undone -/
def Hst (n : Nat) (B : tB) (X R : pS) : Prop := Prm X ∧ ∃ (h : Nat) (Hd : Nat → tD) (Hb : Nat → Nat), h ≤ 6 ∧ X.1 31 2 = nI h ∧ R.1 0 3 = nI h ∧ (∀ i j, i ≤ j → j < h → Hb i ≤ Hb j) ∧ ∀ i, i < h → (∃ j, X.2.2 32 i = some j ∧ XD j (Hd i) X) ∧ X.2.1 33 i = nI (Hb i) ∧ Hb i ≤ B.1 ∧ WD n (Hd i) ∧ RD n (fun k => R.2.1 2 (76 * i + k)) (R.2.1 4) (R.2.1 5) (R.2.1 6) (Hd i) ∧ R.2.1 2 (76 * i + 2) = nI (Hb i)
def Img (X R : pS) : Prop := (X.1 0 15 = 0 ∧ R.1 0 57 = 0) ∨ (X.1 0 15 = 1 ∧ R.1 0 57 = 1 ∧ ∃ n D B L T, Wf n D B L T ∧ XD 69 D X ∧ XB 91 B X ∧ XL 72 L X ∧ XT 71 T X ∧ RI n D B L T (R.2.1 34))
/-- the tape -/
def Tap (X R : pS) : Prop := (∃ (len : Nat) (b : Nat → Nat), len ≤ 400 ∧ X.1 46 4 = nI len ∧ R.1 0 12 = nI len ∧ ∀ i, i < len → b i < 256 ∧ X.2.1 47 i = nI (b i) ∧ R.2.1 8 i = nI (b i)) ∧ X.1 50 4 = R.1 0 32 ∧ X.1 50 5 = R.1 0 33
def INV (X R : pS) : Prop := ConX X ∧ ConR R ∧ Img X R ∧ Tap X R ∧ ∃ n D B L T, Wf n D B L T ∧ XA D B L T X ∧ RA n D B L T R ∧ Hst n B X R
/-! frames -/
theorem XT_off {o : Nat} {T : tL} {S S' : pS} {F : List (Nat × Nat)} {W : List Nat} (h : XT o T S) (ho : Off F W S S') (h1 : (o, 8) ∉ F) (h2 : (o, 9) ∉ F) (h3 : (o + 12, 2) ∉ F) (h4 : (o + 14, 2) ∉ F) (h5 : (o + 16, 2) ∉ F) (h6 : (o + 18, 2) ∉ F) (g1 : o + 9 ∉ W) (g2 : o + 10 ∉ W) (g3 : o + 11 ∉ W) (g4 : o + 13 ∉ W) (g5 : o + 15 ∉ W) (g6 : o + 17 ∉ W) (g7 : o + 19 ∉ W) : XT o T S' := by
  unfold XT at *
  rw [ho.1 _ _ h1, ho.1 _ _ h2, ho.1 _ _ h3, ho.1 _ _ h4, ho.1 _ _ h5, ho.1 _ _ h6, ho.2.1 _ g1, ho.2.1 _ g2, ho.2.1 _ g3, ho.2.1 _ g4, ho.2.1 _ g5, ho.2.1 _ g6, ho.2.1 _ g7]
  exact h
theorem XB_off {o : Nat} {B : tB} {S S' : pS} {F : List (Nat × Nat)} {W : List Nat} (h : XB o B S) (ho : Off F W S S') (h1 : (o, 2) ∉ F) (h2 : o + 1 ∉ W) : XB o B S' := by
  unfold XB at *
  rw [ho.1 _ _ h1, ho.2.1 _ h2]
  exact h
theorem RTm_off {T : tL} {S S' : pS} {F : List (Nat × Nat)} {W : List Nat} (h : RTm T S) (ho : Off F W S S') (h1 : ∀ a ∈ [34, 36, 39, 43, 49, 52], (0, a) ∉ F) (h2 : ∀ a ∈ [18, 19, 20, 21, 24, 25, 29, 30, 31, 32, 33], a ∉ W) : RTm T S' := by
  unfold RTm at *
  rw [ho.1 0 34 (h1 _ (by simp)), ho.1 0 36 (h1 _ (by simp)), ho.1 0 39 (h1 _ (by simp)), ho.1 0 43 (h1 _ (by simp)), ho.1 0 49 (h1 _ (by simp)), ho.1 0 52 (h1 _ (by simp)), ho.2.1 18 (h2 _ (by simp)), ho.2.1 19 (h2 _ (by simp)), ho.2.1 20 (h2 _ (by simp)), ho.2.1 21 (h2 _ (by simp)), ho.2.1 24 (h2 _ (by simp)), ho.2.1 25 (h2 _ (by simp)), ho.2.1 29 (h2 _ (by simp)), ho.2.1 30 (h2 _ (by simp)), ho.2.1 31 (h2 _ (by simp)), ho.2.1 32 (h2 _ (by simp)), ho.2.1 33 (h2 _ (by simp))]
  exact h
/-- what a thought may write on: the class, the reference -/
abbrev FX : List (Nat × Nat) := [(25, 4), (28, 4), (26, 1), (26, 2), (26, 3), (26, 4), (26, 5), (26, 6), (26, 7), (64, 4), (64, 5), (64, 6), (67, 3), (67, 4)]
abbrev WX : List Nat := [10, 11, 27, 62, 63, 65, 66, 68]
abbrev FR : List (Nat × Nat) := [(0, 0)]
abbrev WRs : List Nat := [22, 23, 26, 27, 28]
theorem ConX_off {S S' : pS} {F : List (Nat × Nat)} {W : List Nat} (h : ConX S) (ho : Off F W S S') (h1 : ∀ x ∈ [(25, 3), (28, 3), (29, 0), (29, 2), (23, 0), (17, 0), (19, 0), (21, 0), (59, 0)], x ∉ F) : ConX S' := by
  unfold ConX at *
  rw [ho.1 25 3 (h1 _ (by simp)), ho.1 28 3 (h1 _ (by simp)), ho.1 29 0 (h1 _ (by simp)), ho.1 29 2 (h1 _ (by simp)), ho.1 23 0 (h1 _ (by simp)), ho.1 17 0 (h1 _ (by simp)), ho.1 19 0 (h1 _ (by simp)), ho.1 21 0 (h1 _ (by simp)), ho.1 59 0 (h1 _ (by simp))]
  exact h
theorem ConR_off {S S' : pS} {F : List (Nat × Nat)} {W : List Nat} (h : ConR S) (ho : Off F W S S') (h1 : (0, 5) ∉ F) (h2 : 9 ∉ W) : ConR S' := by
  unfold ConR at *
  rw [ho.1 0 5 h1, ho.2.1 9 h2]
  exact h
theorem Img_off {X X' R R' : pS} {F G : List (Nat × Nat)} {W V : List Nat} (h : Img X R) (hx : Off F W X X') (hr : Off G V R R') (h1 : (0, 15) ∉ F) (h2 : ∀ o a, (o = 69 ∨ (71 ≤ o ∧ o ≤ 92)) → (o, a) ∉ F) (h3 : ∀ o, 70 ≤ o → o ≤ 92 → o ∉ W) (h4 : (0, 57) ∉ G) (h5 : 34 ∉ V) : Img X' R' := by
  rcases h with ⟨a, b⟩ | ⟨a, b, n, D, B, L, T, hw, c1, c2, c3, c4, c5⟩
  · exact Or.inl ⟨by rw [hx.1 _ _ h1]; exact a, by rw [hr.1 _ _ h4]; exact b⟩
  · refine Or.inr ⟨by rw [hx.1 _ _ h1]; exact a, by rw [hr.1 _ _ h4]; exact b, n, D, B, L, T, hw, XD_off c1 hx (fun i _ _ => h2 _ _ (by omega)) (h3 _ (by omega) (by omega)), XB_off c2 hx (h2 _ _ (by omega)) (h3 _ (by omega) (by omega)), ?_, ?_, by rw [hr.2.1 34 h5]; exact c5⟩
    · exact XL_off c3 hx (h2 _ _ (by omega)) (h2 _ _ (by omega)) (h3 _ (by omega) (by omega)) (h3 _ (by omega) (by omega)) (h3 _ (by omega) (by omega)) (h3 _ (by omega) (by omega)) (h3 _ (by omega) (by omega))
    · exact XT_off c4 hx (h2 _ _ (by omega)) (h2 _ _ (by omega)) (h2 _ _ (by omega)) (h2 _ _ (by omega)) (h2 _ _ (by omega)) (h2 _ _ (by omega)) (h3 _ (by omega) (by omega)) (h3 _ (by omega) (by omega)) (h3 _ (by omega) (by omega)) (h3 _ (by omega) (by omega)) (h3 _ (by omega) (by omega)) (h3 _ (by omega) (by omega)) (h3 _ (by omega) (by omega))
theorem Tap_off {X X' R R' : pS} {F G : List (Nat × Nat)} {W V : List Nat} (h : Tap X R) (hx : Off F W X X') (hr : Off G V R R') (h1 : ∀ x ∈ [(46, 4), (50, 4), (50, 5)], x ∉ F) (h2 : 47 ∉ W) (h3 : ∀ a ∈ [12, 32, 33], (0, a) ∉ G) (h4 : 8 ∉ V) : Tap X' R' := by
  unfold Tap at *
  rw [hx.1 46 4 (h1 _ (by simp)), hx.1 50 4 (h1 _ (by simp)), hx.1 50 5 (h1 _ (by simp)), hx.2.1 47 h2, hr.1 0 12 (h3 _ (by simp)), hr.1 0 32 (h3 _ (by simp)), hr.1 0 33 (h3 _ (by simp)), hr.2.1 8 h4]
  exact h
theorem hj_r {j : Nat} (h : hj j) : 34 ≤ j ∧ j ≤ 44 := by
  unfold hj at h
  omega
theorem Hst_off {n : Nat} {B : tB} {X X' R R' : pS} {F G : List (Nat × Nat)} {W V : List Nat} (h : Hst n B X R) (hx : Off F W X X') (hr : Off G V R R') (h1 : (31, 2) ∉ F) (h2 : ∀ o a, 34 ≤ o → o ≤ 44 → (o, a) ∉ F) (h3 : ∀ o, 33 ≤ o → o ≤ 45 → o ∉ W) (h4 : (0, 3) ∉ G) (h5 : ∀ a ∈ [2, 4, 5, 6], a ∉ V) : Hst n B X' R' := by
  obtain ⟨hp, k, Hd, Hb, a1, a2, a3, am, a4⟩ := h
  have hp' : Prm X' := by
    unfold Prm at *
    rw [hx.2.2]
    exact hp
  refine ⟨hp', k, Hd, Hb, a1, by rw [hx.1 _ _ h1]; exact a2, by rw [hr.1 _ _ h4]; exact a3, am, fun i hi => ?_⟩
  obtain ⟨⟨j, b1, b2⟩, b3, b4, b5, b6, b7⟩ := a4 i hi
  obtain ⟨j', c1, c2⟩ := hp.1 i (by omega)
  have : j' = j := by rw [b1] at c1; cases c1; rfl
  subst this
  have := hj_r c2
  refine ⟨⟨j', by rw [hx.2.2]; exact b1, XD_off b2 hx (fun i _ _ => h2 _ _ (by omega) (by omega)) (h3 _ (by omega) (by omega))⟩, by rw [hx.2.1 33 (h3 _ (by omega) (by omega))]; exact b3, b4, b5, ?_, ?_⟩
  · rw [hr.2.1 2 (h5 _ (by simp)), hr.2.1 4 (h5 _ (by simp)), hr.2.1 5 (h5 _ (by simp)), hr.2.1 6 (h5 _ (by simp))]; exact b6
  · rw [hr.2.1 2 (h5 _ (by simp))]; exact b7
theorem RB_off {B : tB} {S S' : pS} {F : List (Nat × Nat)} {W : List Nat} (h : RB B S) (ho : Off F W S S') (h1 : 1 ∉ W) (h2 : 7 ∉ W) : RB B S' := by
  unfold RB at *
  rw [ho.2.1 1 h1, ho.2.1 7 h2]
  exact h
theorem XA_off {D : tD} {B : tB} {L T : tL} {S S' : pS} (h : XA D B L T S) (ho : Off FX WX S S') : XA D B L T S' := by
  obtain ⟨a, b, c, d⟩ := h
  refine ⟨XD_off a ho (fun i h1 h2 => by simp) (by decide), XB_off b ho (by decide) (by decide), XL_off c ho (by decide) (by decide) (by decide) (by decide) (by decide) (by decide) (by decide), XT_off d ho (by decide) (by decide) (by decide) (by decide) (by decide) (by decide) (by decide) (by decide) (by decide) (by decide) (by decide) (by decide) (by decide)⟩
theorem RA_off {n : Nat} {D : tD} {B : tB} {L T : tL} {S S' : pS} (h : RA n D B L T S) (ho : Off FR WRs S S') : RA n D B L T S' := by
  obtain ⟨a, b, c, d⟩ := h
  exact ⟨RDm_off a ho (by decide) (by decide) (by decide) (by decide) (by decide), RB_off b ho (by decide) (by decide), RLm_off c ho (fun i a b => by simp; omega), RTm_off d ho (by decide) (by decide)⟩
theorem INV_off {X X' R R' : pS} (h : INV X R) (hx : Off FX WX X X') (hr : Off FR WRs R R') : INV X' R' := by
  obtain ⟨a, b, c, d, n, D, B, L, T, e1, e2, e3, e4⟩ := h
  refine ⟨ConX_off a hx (by decide), ConR_off b hr (by decide) (by decide), Img_off c hx hr (by decide) (fun o a h => by simp; omega) (fun o h1 h2 => by simp; omega) (by decide) (by decide), Tap_off d hx hr (by decide) (by decide) (by decide) (by decide), n, D, B, L, T, e1, XA_off e2 hx, RA_off e3 hr, Hst_off e4 hx hr (by decide) (fun o a h1 h2 => by simp; omega) (fun o h1 h2 => by simp; omega) (by decide) (by decide)⟩
theorem XP_of {n : Nat} {D : tD} {B : tB} {L T : tL} {S : pS} (hc : ConX S) (hw : Wf n D B L T) (h : XA D B L T S) : XP_25 (D, B) S := ⟨h.1, hc.1, hc.2.2.2.2.1, hw.2.1, h.2.1.1, h.2.1.2⟩
theorem RP_of {n : Nat} {D : tD} {B : tB} {L T : tL} {S : pS} (hc : ConR S) (hw : Wf n D B L T) (h : RA n D B L T S) : RP false n (D, B) S := ⟨h.1, hc.1, hw.2.1, h.2.1.1, h.2.1.2⟩
theorem XPl_of {T : tL} {S : pS} (h : XT 3 T S) : XPl (T 0 2) (plA T) S := h.2.2.2.2.1
theorem RPl_of {T : tL} {S : pS} (h : RTm T S) : RPl (T 0 2) (plA T) S := ⟨h.1.2.2.1, h.2.2.2.1⟩
/-- the reference's first act -/
theorem told0 {S : pS} : Off FR WRs S (wF S 0 0 0) := Off.rf.wF (by decide)
