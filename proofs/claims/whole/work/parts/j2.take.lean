/-! Texts taken: what stays. -/
/-- all that holds but the tape -/
def INVt (n : Nat) (D : tD) (B : tB) (L T : tL) (X R : pS) : Prop := ConX X ∧ ConR R ∧ Img X R ∧ Wf n D B L T ∧ XA D B L T X ∧ RA n D B L T R ∧ Hst n B X R
theorem RLm_sm {L : tL} {R R' : pS} (hw : WL L) (h : RLm L R) (s : Sm R R') : RLm L R' := by
  obtain ⟨s1, s2, s3, s4, s5, s6, s7, s8⟩ := s
  obtain ⟨h1, h2, h3⟩ := h
  have w0 := hw.1
  have w1 := hw.2.1
  refine ⟨by rw [s2 10 (by decide)]; exact h1, fun l hl => ?_, fun k hk => ?_⟩
  · have := s4 l (by omega)
    rw [this.1, this.2.1, this.2.2.1, this.2.2.2]; exact h2 l hl
  · have := s5 k (by omega)
    rw [this.1, this.2]; exact h3 k hk
theorem RTm_sm {n : Nat} {T : tL} {R R' : pS} (hw : WT n T) (h : RTm T R) (s : Sm R R') : RTm T R' := by
  obtain ⟨s1, s2, s3, s4, s5, s6, s7, s8⟩ := s
  obtain ⟨⟨b0, b1, b2, b3, b4, b5⟩, a1, a2, a3, a4, a5, a6⟩ := h
  have w0 := hw.2.2.2.1.1
  refine ⟨⟨by rw [s1 0 34 (by decide)]; exact b0, by rw [s1 0 36 (by decide)]; exact b1, by rw [s1 0 39 (by decide)]; exact b2, by rw [s1 0 43 (by decide)]; exact b3, by rw [s1 0 49 (by decide)]; exact b4, by rw [s1 0 52 (by decide)]; exact b5⟩, fun p hp => by rw [s6 p hp]; exact a1 p hp, fun f hf => by rw [(s7 f hf).1, (s7 f hf).2]; exact a2 f hf, fun i hi => by rw [s8 _ (by omega), s8 _ (by omega), s8 _ (by omega)]; exact a3 i hi, ?_, ?_, ?_⟩
  · rw [s2 24 (by decide), s2 25 (by decide)]; exact a4
  · rw [s2 29 (by decide), s2 30 (by decide)]; exact a5
  · rw [s2 31 (by decide), s2 32 (by decide), s2 33 (by decide)]; exact a6
/-- the reference, while it reads, as one frame: the cells that matter are as they were -/
theorem INVt_rd {n : Nat} {D : tD} {B : tB} {L T : tL} {X X' R R' : pS} (h : INVt n D B L T X R) (ox : Off FTx WTx X X') (s : Sm R R') : INVt n D B L T X' R' := by
  obtain ⟨a, b, c, d, ⟨e1, e2, e3, e4⟩, ⟨g1, g2, g3, g4⟩, i⟩ := h
  have s' := s
  obtain ⟨s1, s2, s3, -⟩ := s
  have orr : Off GB VB R R' := ⟨s1, s2, s3⟩
  exact ⟨ConX_off a ox (by decide), ConR_off b orr (by decide) (by decide), Img_off c ox orr (by decide) (fun o a h => by simp; omega) (fun o h1 h2 => by simp; omega) (by decide) (by decide), d, ⟨XD_off e1 ox (fun i h1 h2 => by simp) (by decide), XB_off e2 ox (by decide) (by decide), XL_off e3 ox (by decide) (by decide) (by decide) (by decide) (by decide) (by decide) (by decide), XT_off e4 ox (by decide) (by decide) (by decide) (by decide) (by decide) (by decide) (by decide) (by decide) (by decide) (by decide) (by decide) (by decide) (by decide)⟩, ⟨RDm_off g1 orr (by decide) (by decide) (by decide) (by decide) (by decide), RB_off g2 orr (by decide) (by decide), RLm_sm d.2.2.1 g3 s', RTm_sm d.2.2.2 g4 s'⟩, Hst_off i ox orr (by decide) (fun o a h1 h2 => by simp; omega) (fun o h1 h2 => by simp; omega) (by decide) (by decide)⟩
/-- the tape is cleared: nothing else is touched -/
theorem INVt_cl {n : Nat} {D : tD} {B : tB} {L T : tL} {X R : pS} (h : INVt n D B L T X R) : INVt n D B L T (wF X 46 4 0) (wF R 0 12 0) := by
  obtain ⟨a, b, c, d, ⟨e1, e2, e3, e4⟩, ⟨g1, g2, g3, g4⟩, i⟩ := h
  have ox : Off [(46, 4)] [] X (wF X 46 4 0) := Off.rf.wF (by decide)
  have orr : Off [(0, 12)] [] R (wF R 0 12 0) := Off.rf.wF (by decide)
  exact ⟨ConX_off a ox (by decide), ConR_off b orr (by decide) (by decide), Img_off c ox orr (by decide) (fun o a h => by simp; omega) (fun o h1 h2 => by simp) (by decide) (by decide), d, ⟨XD_off e1 ox (fun i h1 h2 => by simp) (by decide), XB_off e2 ox (by decide) (by decide), XL_off e3 ox (by decide) (by decide) (by decide) (by decide) (by decide) (by decide) (by decide), XT_off e4 ox (by decide) (by decide) (by decide) (by decide) (by decide) (by decide) (by decide) (by decide) (by decide) (by decide) (by decide) (by decide) (by decide)⟩, ⟨RDm_off g1 orr (by decide) (by decide) (by decide) (by decide) (by decide), RB_off g2 orr (by decide) (by decide), RLm_off g3 orr (fun i a b => by simp), RTm_off g4 orr (by decide) (by decide)⟩, Hst_off i ox orr (by decide) (fun o a h1 h2 => by simp; omega) (fun o h1 h2 => by simp) (by decide) (by decide)⟩
/-- with an empty tape, and the same fault -/
theorem INV_t {n : Nat} {D : tD} {B : tB} {L T : tL} {X R : pS} (h : INVt n D B L T X R) (h1 : X.1 46 4 = 0) (h2 : R.1 0 12 = 0) (h3 : X.1 50 4 = R.1 0 32) (h4 : X.1 50 5 = R.1 0 33) : INV X R := by
  obtain ⟨a, b, c, d, e, g, i⟩ := h
  exact ⟨a, b, c, ⟨⟨0, fun _ => 0, by omega, h1, h2, fun i hi => by omega⟩, h3, h4⟩, n, D, B, L, T, d, e, g, i⟩
/-- both stop -/
theorem text_fl {n : Nat} {D : tD} {B : tB} {L T : tL} {X R X' R' : pS} (h : INVt n D B L T X R) (f : FailP X R X' R') : INV (wF X' 46 4 0) (wF (wF (wF R' 0 32 (rF R' 0 30)) 0 33 (rF R' 0 31)) 0 12 0) := by
  obtain ⟨⟨f1, f2⟩, f3, f4⟩ := f
  have o : Off [(0, 32), (0, 33)] [] R' (wF (wF R' 0 32 (rF R' 0 30)) 0 33 (rF R' 0 31)) := (Off.rf.wF (by decide)).wF (by decide)
  refine INV_t (INVt_cl (INVt_rd h f3 (f4.tr (Sm.of o (by decide) (by decide))))) ?_ ?_ ?_ ?_
  · rw [wF_1, sA_eq, upd_eq]
  · rw [wF_1, sA_eq, upd_eq]
  · rw [wF_1, sA_ne (by decide), wF_1, sA_eq, upd_ne (by decide), wF_1, sA_eq, upd_ne (by decide), wF_1, sA_eq, upd_eq]; exact f1
  · rw [wF_1, sA_ne (by decide), wF_1, sA_eq, upd_ne (by decide), wF_1, sA_eq, upd_eq]; exact f2
/-- the law is taken: the reference -/
theorem tk_c2 {l : Nat} {L : tL} (hl : l ≤ 16) : ∀ (m i : Nat) (S : pS), i + m = l → S.1 0 25 = 0 → LnR l L S → (∀ j, j < i → S.2.1 11 j = nI (L 1 j) ∧ S.2.1 12 j = nI (L 2 j) ∧ S.2.1 13 j = nI (L 3 j) ∧ S.2.1 14 j = nI (L 4 j)) → ∃ S', R_takesLaw_c2 (nI l) (nI i) S = R_takesLaw_c107 (nI l) 0 S' ∧ (∀ j, j < l → S'.2.1 11 j = nI (L 1 j) ∧ S'.2.1 12 j = nI (L 2 j) ∧ S'.2.1 13 j = nI (L 3 j) ∧ S'.2.1 14 j = nI (L 4 j)) ∧ Off [] [11, 12, 13, 14] S S' := by
  intro m
  induction m with
  | zero =>
    intro i S hi h25 hr h
    refine ⟨S, by rw [R_takesLaw_c2_eq, if_neg (nlt_f (by omega) (by omega) (by omega))], fun j hj => h j (by omega), Off.rf⟩
  | succ m ih =>
    intro i S hi h25 hr h
    obtain ⟨S', hS'⟩ : ∃ S', S' = wA (wA (wA (wA S 11 (nI i) (nI (L 1 i))) 12 (nI i) (nI (L 2 i))) 13 (nI i) (nI (L 3 i))) 14 (nI i) (nI (L 4 i)) := ⟨_, rfl⟩
    have o : Off [] [11, 12, 13, 14] S S' := by rw [hS']; exact (((Off.rf.wA (by decide)).wA (by decide)).wA (by decide)).wA (by decide)
    have e11 : S'.2.1 11 = upd (S.2.1 11) i (nI (L 1 i)) := by rw [hS', wA_21 (by omega), sA_ne (by decide), wA_21 (by omega), sA_ne (by decide), wA_21 (by omega), sA_ne (by decide), wA_21 (by omega), sA_eq]
    have e12 : S'.2.1 12 = upd (S.2.1 12) i (nI (L 2 i)) := by rw [hS', wA_21 (by omega), sA_ne (by decide), wA_21 (by omega), sA_ne (by decide), wA_21 (by omega), sA_eq, wA_21 (by omega), sA_ne (by decide)]
    have e13 : S'.2.1 13 = upd (S.2.1 13) i (nI (L 3 i)) := by rw [hS', wA_21 (by omega), sA_ne (by decide), wA_21 (by omega), sA_eq, wA_21 (by omega), sA_ne (by decide), wA_21 (by omega), sA_ne (by decide)]
    have e14 : S'.2.1 14 = upd (S.2.1 14) i (nI (L 4 i)) := by rw [hS', wA_21 (by omega), sA_eq, wA_21 (by omega), sA_ne (by decide), wA_21 (by omega), sA_ne (by decide), wA_21 (by omega), sA_ne (by decide)]
    obtain ⟨S2, g1, g2, g3⟩ := ih (i + 1) S' (by omega) (by rw [o.1 _ _ (by simp)]; exact h25) (fun j hj => by
      rw [e11, e12, e13, e14, upd_ne (by omega), upd_ne (by omega), upd_ne (by omega), upd_ne (by omega)]; exact hr j hj) (fun j hj => by
      rw [e11, e12, e13, e14]
      by_cases z : j = i
      · subst z
        rw [upd_eq, upd_eq, upd_eq, upd_eq]; exact ⟨rfl, rfl, rfl, rfl⟩
      · rw [upd_ne z, upd_ne z, upd_ne z, upd_ne z]; exact h j (by omega))
    refine ⟨S2, ?_, g2, o.tr g3⟩
    have hri := hr i (by omega)
    rw [R_takesLaw_c2_eq, if_pos (nlt_t (by omega) (by omega)), show (32 : Int32) + nI i = nI (32 + i) from nI_add 32 i, show rF S 0 25 = 0 from h25, show (16 : Int32) * 0 + nI i = nI i from by rw [Int32.mul_zero, Int32.zero_add], if_pos (inb_n (by omega) (by omega)), if_pos (inb_n (by omega) (by omega)), if_pos (inb_n (by omega) (by omega)), if_pos (inb_n (by omega) (by omega)), if_pos (inb_n (by omega) (by omega)), if_pos (inb_n (by omega) (by omega)), if_pos (inb_n (by omega) (by omega)), if_pos (inb_n (by omega) (by omega)), rA_n (by omega), rA_n (by omega), rA_n (by omega), rA_n (by omega), hri.1, hri.2.1, hri.2.2.1, hri.2.2.2, show nI i + (1 : Int32) = nI (i + 1) from nI_1 i, ← hS']
    exact g1
theorem tk_c107 {l n : Nat} {L : tL} (hn : n ≤ 400) : ∀ (m i : Nat) (S : pS), i + m = n → S.1 0 25 = 0 → S.1 0 26 = nI n → (∀ j, j < n → S.2.1 15 (800 + j) = nI (L 5 j) ∧ S.2.1 16 (800 + j) = nI (L 6 j)) → (∀ j, j < i → S.2.1 15 j = nI (L 5 j) ∧ S.2.1 16 j = nI (L 6 j)) → ∃ S', R_takesLaw_c107 (nI l) (nI i) S = some (0, wA S' 10 0 (nI l)) ∧ (∀ j, j < n → S'.2.1 15 j = nI (L 5 j) ∧ S'.2.1 16 j = nI (L 6 j)) ∧ Off [] [15, 16] S S' := by
  intro m
  induction m with
  | zero =>
    intro i S hi h25 h26 hr h
    refine ⟨S, ?_, fun j hj => h j (by omega), Off.rf⟩
    rw [R_takesLaw_c107_eq, show rF S 0 26 = nI n from h26, if_neg (nlt_f (by omega) (by omega) (by omega)), show rF S 0 25 = 0 from h25, if_pos (show inb (0 : Int32) 2 = true from rfl)]
  | succ m ih =>
    intro i S hi h25 h26 hr h
    obtain ⟨S', hS'⟩ : ∃ S', S' = wA (wA S 15 (nI i) (nI (L 5 i))) 16 (nI i) (nI (L 6 i)) := ⟨_, rfl⟩
    have o : Off [] [15, 16] S S' := by rw [hS']; exact (Off.rf.wA (by decide)).wA (by decide)
    have e15 : S'.2.1 15 = upd (S.2.1 15) i (nI (L 5 i)) := by rw [hS', wA_21 (by omega), sA_ne (by decide), wA_21 (by omega), sA_eq]
    have e16 : S'.2.1 16 = upd (S.2.1 16) i (nI (L 6 i)) := by rw [hS', wA_21 (by omega), sA_eq, wA_21 (by omega), sA_ne (by decide)]
    obtain ⟨S2, g1, g2, g3⟩ := ih (i + 1) S' (by omega) (by rw [o.1 _ _ (by simp)]; exact h25) (by rw [o.1 _ _ (by simp)]; exact h26) (fun j hj => by
      rw [e15, e16, upd_ne (by omega), upd_ne (by omega)]; exact hr j hj) (fun j hj => by
      rw [e15, e16]
      by_cases z : j = i
      · subst z
        rw [upd_eq, upd_eq]; exact ⟨rfl, rfl⟩
      · rw [upd_ne z, upd_ne z]; exact h j (by omega))
    refine ⟨S2, ?_, g2, o.tr g3⟩
    have hri := hr i (by omega)
    rw [R_takesLaw_c107_eq, show rF S 0 26 = nI n from h26, if_pos (nlt_t (by omega) (by omega)), show (800 : Int32) + nI i = nI (800 + i) from nI_add 800 i, show rF S 0 25 = 0 from h25, show (400 : Int32) * 0 + nI i = nI i from by rw [Int32.mul_zero, Int32.zero_add], if_pos (inb_n (by omega) (by omega)), if_pos (inb_n (by omega) (by omega)), if_pos (inb_n (by omega) (by omega)), if_pos (inb_n (by omega) (by omega)), rA_n (by omega), rA_n (by omega), hri.1, hri.2, show nI i + (1 : Int32) = nI (i + 1) from nI_1 i, ← hS']
    exact g1
/-- the law as it is taken -/
def nwL (L : tL) (l n : Nat) : tL := fun r i => if r = 0 then (if i = 0 then l else n) else L r i
theorem nwL_ok {L : tL} {l n : Nat} : ∀ k m ty, okRun (nwL L l n) k m ty = okRun L k m ty := fun k m ty => ok_ext (fun j _ _ => ⟨rfl, rfl⟩)
theorem tk_law {b : Nat → Nat} {len M n l k : Nat} {D : tD} {B : tB} {L T : tL} {X R X' R' : pS} (h : INVt n D B L T X R) (j : JL b len M X R l k X' R') : ∃ X2 R2 L2, To_take_3_50 0 (wF X' 46 4 0) = some (0, X2) ∧ R_takesLaw (nI l) (wF R' 0 12 0) = some (0, R2) ∧ INVt n D B L2 T X2 R2 ∧ Off [(4, 7), (4, 8)] [5, 6, 7, 8, 9] (wF X' 46 4 0) X2 ∧ Off [] [10, 11, 12, 13, 14, 15, 16] (wF R' 0 12 0) R2 := by
  obtain ⟨hx, hr, h3, hl, nf, cn, C, he, hc, h27, h25, lx, lr, lw, ox, sm⟩ := j
  have hkM := hx.1
  have hM4 := hx.2.1
  have hi := INVt_cl (INVt_rd h ox sm)
  have o1 : Off [(46, 4)] [] X' (wF X' 46 4 0) := Off.rf.wF (by decide)
  have p1 : Off [(0, 12)] [] R' (wF R' 0 12 0) := Off.rf.wF (by decide)
  have xl : XL 51 (nwL C l cn) (wF X' 46 4 0) := by
    refine ⟨by rw [o1.1 _ _ (by decide)]; exact lx.1, by rw [o1.1 _ _ (by decide)]; exact he.1, fun i hi => ?_, fun i hi => ?_⟩
    · exact lx.2 i hi
    · exact (he.2.2 i hi).1
  obtain ⟨X2, x1, x2, x3⟩ := la_4_51 xl hl (show cn ≤ 400 by omega)
  obtain ⟨S1, s1, s2, s3⟩ := tk_c2 (L := C) hl l 0 (wF R' 0 12 0) (by omega) (by rw [p1.1 _ _ (by decide)]; exact h25) lr (fun j hj => by omega)
  obtain ⟨S2, t1, t2, t3⟩ := tk_c107 (l := l) (L := C) (show cn ≤ 400 by omega) cn 0 S1 (by omega) (by rw [s3.1 _ _ (by simp), p1.1 _ _ (by decide)]; exact h25) (by rw [s3.1 _ _ (by simp), p1.1 _ _ (by decide)]; exact he.2.1) (fun j hj => by rw [s3.2.1 _ (by decide), s3.2.1 _ (by decide)]; exact (he.2.2 j hj).2) (fun j hj => by omega)
  have oR : Off [] [10, 11, 12, 13, 14, 15, 16] (wF R' 0 12 0) (wA S2 10 0 (nI l)) := ((s3.mono (by decide) (by decide)).tr (t3.mono (by decide) (by decide))).wA (by decide)
  have e10 : (wA S2 10 (nI 0) (nI l)).2.1 10 = upd (S2.2.1 10) 0 (nI l) := by rw [wA_21 (by omega), sA_eq]
  have o10 : Off [] [10] S2 (wA S2 10 0 (nI l)) := Off.rf.wA (by decide)
  have rl : RLm (nwL C l cn) (wA S2 10 0 (nI l)) := by
    refine ⟨?_, fun i hi => ?_, fun i hi => ?_⟩
    · show (wA S2 10 (nI 0) (nI l)).2.1 10 0 = _
      rw [e10, upd_eq]; rfl
    · rw [o10.2.1 11 (by decide), o10.2.1 12 (by decide), o10.2.1 13 (by decide), o10.2.1 14 (by decide), t3.2.1 11 (by decide), t3.2.1 12 (by decide), t3.2.1 13 (by decide), t3.2.1 14 (by decide)]
      exact s2 i hi
    · rw [o10.2.1 15 (by decide), o10.2.1 16 (by decide)]
      exact t2 i hi
  have wl : WL (nwL C l cn) := by
    refine ⟨hl, show cn ≤ 400 by omega, fun i hi => ?_⟩
    obtain ⟨a1, a2, a3, a4, a5, a6⟩ := lw i hi
    rw [nwL_ok, nwL_ok]
    exact ⟨a1, a2, a3, a4, a5, a6⟩
  obtain ⟨i1, i2, i3, ⟨d1, d2, d3, d4⟩, ⟨e1, e2, e3, e4⟩, ⟨g1, g2, g3, g4⟩, i7⟩ := hi
  refine ⟨X2, _, nwL C l cn, by rw [To_take_3_50_eq, if_pos (show (0 : Int32) = 0 from rfl), x1, ob], by rw [R_takesLaw_eq]; exact s1.trans t1, ⟨ConX_off i1 x3 (by decide), ConR_off i2 oR (by decide) (by decide), Img_off i3 x3 oR (by decide) (fun o a h => by simp; omega) (fun o h1 h2 => by simp; omega) (by decide) (by decide), ⟨d1, d2, wl, d4⟩, ⟨XD_off e1 x3 (fun i h1 h2 => by simp) (by decide), XB_off e2 x3 (by decide) (by decide), x2, XT_off e4 x3 (by decide) (by decide) (by decide) (by decide) (by decide) (by decide) (by decide) (by decide) (by decide) (by decide) (by decide) (by decide) (by decide)⟩, ⟨RDm_off g1 oR (by decide) (by decide) (by decide) (by decide) (by decide), RB_off g2 oR (by decide) (by decide), rl, RTm_off g4 oR (by decide) (by decide)⟩, Hst_off i7 x3 oR (by decide) (fun o a h1 h2 => by simp; omega) (fun o h1 h2 => by simp; omega) (by decide) (by decide)⟩, x3, oR⟩
