/-! The image: the call. -/
theorem RD_cg {n : Nat} {N P F T N' P' F' T' : Nat → Int32} {D : tD} (h : RD n N P F T D) (hn : n ≤ 14) (h1 : ∀ x, x < 76 → N' x = N x) (h2 : ∀ c, c < 14 → P' c = P c ∧ F' c = F c ∧ T' c = T c) : RD n N' P' F' T' D := by
  have h3 := RD_cong h hn h1
  refine ⟨fun c hc => ?_, h3.2⟩
  obtain ⟨a, b, d, e⟩ := h3.1 c hc
  obtain ⟨x, y, z⟩ := h2 c hc
  exact ⟨x.trans a, y.trans b, z.trans d, e⟩
theorem RL_cg {M W F H T O A M' W' F' H' T' O' A' : Nat → Int32} {L : tL} (h : RL M W F H T O A L) (h0 : L 0 0 ≤ 16) (h1 : L 0 1 ≤ 400) (g0 : M' 0 = M 0) (g1 : ∀ l, l < 16 → W' l = W l ∧ F' l = F l ∧ H' l = H l ∧ T' l = T l) (g2 : ∀ k, k < 400 → O' k = O k ∧ A' k = A k) : RL M' W' F' H' T' O' A' L := by
  refine ⟨g0.trans h.1, fun l hl => ?_, fun k hk => ?_⟩
  · obtain ⟨a, b, c, d⟩ := h.2.1 l hl
    obtain ⟨x, y, z, w⟩ := g1 l (by omega)
    exact ⟨x.trans a, y.trans b, z.trans c, w.trans d⟩
  · obtain ⟨a, b⟩ := h.2.2 k hk
    obtain ⟨x, y⟩ := g2 k (by omega)
    exact ⟨x.trans a, y.trans b⟩
theorem RT_cg {n : Nat} {sm sc sd sa sk sn sm' sc' sd' sa' sk' sn' : Int32} {u cf ct de aa ab aw af nw nf ni u' cf' ct' de' aa' ab' aw' af' nw' nf' ni' : Nat → Int32} {T : tL} (h : RT sm sc sd sa sk sn u cf ct de aa ab aw af nw nf ni T) (hw : WT n T) (g : sm' = sm ∧ sc' = sc ∧ sd' = sd ∧ sa' = sa ∧ sk' = sk ∧ sn' = sn) (g1 : ∀ p, p < 12 → u' p = u p) (g2 : ∀ f, f < 8 → cf' f = cf f ∧ ct' f = ct f) (g3 : ∀ i, i < 48 → de' i = de i) (g4 : ∀ i, i < 12 → aa' i = aa i ∧ ab' i = ab i) (g5 : ∀ i, i < 10 → aw' i = aw i ∧ af' i = af i) (g6 : ∀ i, i < 8 → nw' i = nw i ∧ nf' i = nf i ∧ ni' i = ni i) : RT sm' sc' sd' sa' sk' sn' u' cf' ct' de' aa' ab' aw' af' nw' nf' ni' T := by
  obtain ⟨⟨b0, b1, b2, b3, b4, b5⟩, a1, a2, a3, a4, a5, a6⟩ := h
  obtain ⟨c0, c1, c2, c3, c4, c5⟩ := g
  have m2 : T 0 2 ≤ 16 := hw.2.2.2.1.1
  have m3 := hw.2.2.2.2.1.1
  have m4 := hw.2.2.2.2.2.1.1
  have m5 := hw.2.2.2.2.2.2.1
  refine ⟨⟨c0.trans b0, c1.trans b1, c2.trans b2, c3.trans b3, c4.trans b4, c5.trans b5⟩, fun p hp => (g1 p hp).trans (a1 p hp), fun f hf => ⟨(g2 f hf).1.trans (a2 f hf).1, (g2 f hf).2.trans (a2 f hf).2⟩, fun i hi => ?_, fun i hi => ?_, fun i hi => ?_, fun i hi => ?_⟩
  · obtain ⟨x, y, z⟩ := a3 i hi
    exact ⟨(g3 _ (by omega)).trans x, (g3 _ (by omega)).trans y, (g3 _ (by omega)).trans z⟩
  · exact ⟨(g4 i (by omega)).1.trans (a4 i hi).1, (g4 i (by omega)).2.trans (a4 i hi).2⟩
  · exact ⟨(g5 i (by omega)).1.trans (a5 i hi).1, (g5 i (by omega)).2.trans (a5 i hi).2⟩
  · obtain ⟨x, y, z⟩ := a6 i hi
    obtain ⟨x', y', z'⟩ := g6 i (by omega)
    exact ⟨x'.trans x, y'.trans y, z'.trans z⟩
/-- each place holds what the image holds -/
def Eq34 (S : pS) (I : Nat → Int32) : Prop := (∀ i, i < 76 → S.2.1 1 i = I i) ∧ (S.1 0 6 = I 76 ∧ S.1 0 43 = I 77 ∧ S.1 0 49 = I 78 ∧ S.1 0 52 = I 79 ∧ S.1 0 34 = I 190 ∧ S.1 0 36 = I 191 ∧ S.1 0 39 = I 192) ∧ (∀ c, c < 14 → S.2.1 4 c = I (80 + 3 * c) ∧ S.2.1 5 c = I (81 + 3 * c) ∧ S.2.1 6 c = I (82 + 3 * c)) ∧ (∀ i, i < 12 → S.2.1 24 i = I (122 + 2 * i) ∧ S.2.1 25 i = I (123 + 2 * i)) ∧ (∀ i, i < 10 → S.2.1 29 i = I (146 + 2 * i) ∧ S.2.1 30 i = I (147 + 2 * i)) ∧ (∀ i, i < 8 → S.2.1 31 i = I (166 + 3 * i) ∧ S.2.1 32 i = I (167 + 3 * i) ∧ S.2.1 33 i = I (168 + 3 * i)) ∧ (∀ i, i < 12 → S.2.1 18 i = I (193 + i)) ∧ (∀ i, i < 8 → S.2.1 19 i = I (205 + 2 * i) ∧ S.2.1 20 i = I (206 + 2 * i)) ∧ (∀ i, i < 48 → S.2.1 21 i = I (221 + i)) ∧ (∀ i, i < 600 → S.2.1 7 i = I (269 + i)) ∧ S.2.1 10 0 = I 869 ∧ (∀ l, l < 16 → S.2.1 11 l = I (870 + 4 * l) ∧ S.2.1 12 l = I (871 + 4 * l) ∧ S.2.1 13 l = I (872 + 4 * l) ∧ S.2.1 14 l = I (873 + 4 * l)) ∧ ∀ k, k < 400 → S.2.1 15 k = I (934 + 2 * k) ∧ S.2.1 16 k = I (935 + 2 * k)
theorem Eq_Kq {md : Nat} {R0 S : pS} (h : Kq md R0 1734 S) : Eq34 S (S.2.1 34) := by
  obtain ⟨_, _, _, _, _, g⟩ := h
  have c : ∀ {j a i : Nat}, j < 1734 → pl j = (a, i) → a ≠ 0 → S.2.1 a i = S.2.1 34 j := fun {j a i} hj e ha => by
    have := g j hj
    rw [e] at this
    unfold gt at this
    rw [if_neg ha] at this
    exact this
  have f : ∀ {j i : Nat}, j < 1734 → pl j = (0, i) → S.1 0 i = S.2.1 34 j := fun {j i} hj e => by
    have := g j hj
    rw [e] at this
    exact this
  refine ⟨fun i hi => c (by omega) (by have := p0_0 i hi; rw [show 0 + 1 * i + 0 = i from by omega] at this; exact this) (by decide), ⟨f (by omega) rfl, f (by omega) rfl, f (by omega) rfl, f (by omega) rfl, f (by omega) rfl, f (by omega) rfl, f (by omega) rfl⟩, fun i hi => ⟨c (by omega) (p80_0 i hi) (by decide), c (by omega) (by rw [show 81 + 3 * i = 80 + 3 * i + 1 from by omega]; exact p80_1 i hi) (by decide), c (by omega) (by rw [show 82 + 3 * i = 80 + 3 * i + 2 from by omega]; exact p80_2 i hi) (by decide)⟩, fun i hi => ⟨c (by omega) (p122_0 i hi) (by decide), c (by omega) (by rw [show 123 + 2 * i = 122 + 2 * i + 1 from by omega]; exact p122_1 i hi) (by decide)⟩, fun i hi => ⟨c (by omega) (p146_0 i hi) (by decide), c (by omega) (by rw [show 147 + 2 * i = 146 + 2 * i + 1 from by omega]; exact p146_1 i hi) (by decide)⟩, fun i hi => ⟨c (by omega) (p166_0 i hi) (by decide), c (by omega) (by rw [show 167 + 3 * i = 166 + 3 * i + 1 from by omega]; exact p166_1 i hi) (by decide), c (by omega) (by rw [show 168 + 3 * i = 166 + 3 * i + 2 from by omega]; exact p166_2 i hi) (by decide)⟩, fun i hi => c (by omega) (by have := p193_0 i hi; rw [show 193 + 1 * i + 0 = 193 + i from by omega] at this; exact this) (by decide), fun i hi => ⟨c (by omega) (p205_0 i hi) (by decide), c (by omega) (by rw [show 206 + 2 * i = 205 + 2 * i + 1 from by omega]; exact p205_1 i hi) (by decide)⟩, fun i hi => c (by omega) (by have := p221_0 i hi; rw [show 221 + 1 * i + 0 = 221 + i from by omega] at this; exact this) (by decide), fun i hi => c (by omega) (by have := p269_0 i hi; rw [show 269 + 1 * i + 0 = 269 + i from by omega] at this; exact this) (by decide), c (by omega) rfl (by decide), fun i hi => ⟨c (by omega) (p870_0 i hi) (by decide), c (by omega) (by rw [show 871 + 4 * i = 870 + 4 * i + 1 from by omega]; exact p870_1 i hi) (by decide), c (by omega) (by rw [show 872 + 4 * i = 870 + 4 * i + 2 from by omega]; exact p870_2 i hi) (by decide), c (by omega) (by rw [show 873 + 4 * i = 870 + 4 * i + 3 from by omega]; exact p870_3 i hi) (by decide)⟩, fun i hi => ⟨c (by omega) (p934_0 i hi) (by decide), c (by omega) (by rw [show 935 + 2 * i = 934 + 2 * i + 1 from by omega]; exact p934_1 i hi) (by decide)⟩⟩
theorem RI_of {n : Nat} {D : tD} {B : tB} {L T : tL} {S : pS} {I : Nat → Int32} (hw : Wf n D B L T) (e : Eq34 S I) (h : RA n D B L T S) : RI n D B L T I := by
  obtain ⟨e1, ⟨f1, f2, f3, f4, f5, f6, f7⟩, e2, e3, e4, e5, e6, e7, e8, e9, e10, e11, e12⟩ := e
  obtain ⟨hB, hL⟩ := hw.2
  refine ⟨RD_cg h.1.1 hw.1.1 (fun x hx => (e1 x hx).symm) (fun c hc => ⟨(e2 c hc).1.symm, (e2 c hc).2.1.symm, (e2 c hc).2.2.symm⟩), f1.symm.trans h.1.2, ⟨(e1 2 (by omega)).symm.trans h.2.1.1, fun i hi => (e9 i (by omega)).symm.trans (h.2.1.2 i hi)⟩, RL_cg h.2.2.1 hL.1.1 hL.1.2.1 e10.symm (fun l hl => ⟨(e11 l hl).1.symm, (e11 l hl).2.1.symm, (e11 l hl).2.2.1.symm, (e11 l hl).2.2.2.symm⟩) (fun k hk => ⟨(e12 k hk).1.symm, (e12 k hk).2.symm⟩), RT_cg h.2.2.2 hL.2 ⟨f5.symm, f6.symm, f7.symm, f2.symm, f3.symm, f4.symm⟩ (fun p hp => (e6 p hp).symm) (fun f hf => ⟨(e7 f hf).1.symm, (e7 f hf).2.symm⟩) (fun i hi => (e8 i hi).symm) (fun i hi => ⟨(e3 i hi).1.symm, (e3 i hi).2.symm⟩) (fun i hi => ⟨(e4 i hi).1.symm, (e4 i hi).2.symm⟩) (fun i hi => ⟨(e5 i hi).1.symm, (e5 i hi).2.1.symm, (e5 i hi).2.2.symm⟩)⟩
theorem RA_of {n : Nat} {D : tD} {B : tB} {L T : tL} {S : pS} {I : Nat → Int32} (hw : Wf n D B L T) (e : Eq34 S I) (h : RI n D B L T I) : RA n D B L T S := by
  obtain ⟨e1, ⟨f1, f2, f3, f4, f5, f6, f7⟩, e2, e3, e4, e5, e6, e7, e8, e9, e10, e11, e12⟩ := e
  obtain ⟨hB, hL⟩ := hw.2
  obtain ⟨h1, h2, h3, h4, h5⟩ := h
  exact ⟨⟨RD_cg h1 hw.1.1 e1 e2, f1.trans h2⟩, ⟨(e1 2 (by omega)).trans h3.1, fun i hi => (e9 i (by omega)).trans (h3.2 i hi)⟩, RL_cg h4 hL.1.1 hL.1.2.1 e10 e11 e12, RT_cg h5 hL.2 ⟨f5, f6, f7, f2, f3, f4⟩ e6 e7 e8 e3 e4 e5⟩
