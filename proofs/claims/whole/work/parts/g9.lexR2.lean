/-! The reference reads a sign: whole. -/
theorem sk_b {b : Nat → Nat} {len i : Nat} (h : i < len) (hb : blk (b i) = true) : sk b len i = sk b len (i + 1) := by
  unfold sk
  rw [show len - i = (len - (i + 1)) + 1 from by omega, pst, if_pos ⟨h, hb⟩]
theorem sk_n {b : Nat → Nat} {len i : Nat} (hb : i < len → blk (b i) = false) : sk b len i = i := by
  unfold sk
  by_cases q : i < len
  · rw [show len - i = (len - (i + 1)) + 1 from by omega, pst, if_neg (by rw [hb q]; simp)]
  · rw [show len - i = 0 from by omega]; rfl
theorem ltr_32 {c : Nat} (h : ltr c = true) : c ≠ 32 := by
  intro z
  rw [z] at h
  revert h
  decide
/-- what is read at s, not a blank -/
theorem rdAt {b : Nat → Nat} {len s : Nat} {S : pS} (h : TR b len S) (h13 : S.1 0 13 = nI s) (hs : s < len) (hb : blk (b s) = false) : ∃ S', R_reads_c0 S = some (0, S') ∧ Off FG [] S S' ∧ S'.1 0 13 = nI (ten b len s) ∧ S'.1 0 14 = nI s ∧ Knd (tva b len s) (S'.1 0 15) (S'.1 0 16) := by
  have hc := (h.2.2.1 s hs).1
  have h4 := h.1
  have n32 : b s ≠ 32 := fun z => by rw [z] at hb; revert hb; decide
  have n10 : b s ≠ 10 := fun z => by rw [z] at hb; revert hb; decide
  obtain ⟨S1, hS1⟩ : ∃ S1, S1 = wF (wF S 0 14 (nI s)) 0 15 1 := ⟨_, rfl⟩
  have o1 : Off FG [] S S1 := by rw [hS1]; exact (Off.rf.wF (by decide)).wF (by decide)
  have T1 := TR_off h o1 (by decide) (by decide) (by decide)
  have v13 : S1.1 0 13 = nI s := by rw [hS1, wF_1, sA_eq, upd_ne (by decide), wF_1, sA_eq, upd_ne (by decide)]; exact h13
  obtain ⟨S2, hS2⟩ : ∃ S2, S2 = wF (wF S1 0 13 (nI (s + 1))) 0 16 (nI (b s)) := ⟨_, rfl⟩
  have o2 : Off FG [] S S2 := by rw [hS2]; exact (o1.wF (by decide)).wF (by decide)
  have T2 := TR_off h o2 (by decide) (by decide) (by decide)
  have u13 : S2.1 0 13 = nI (s + 1) := by rw [hS2, wF_1, sA_eq, upd_ne (by decide), wF_1, sA_eq, upd_eq]
  have u14 : S2.1 0 14 = nI s := by rw [hS2, wF_1, sA_eq, upd_ne (by decide), wF_1, sA_eq, upd_ne (by decide), hS1, wF_1, sA_eq, upd_ne (by decide), wF_1, sA_eq, upd_eq]
  have u15 : S2.1 0 15 = 1 := by rw [hS2, wF_1, sA_eq, upd_ne (by decide), wF_1, sA_eq, upd_ne (by decide), hS1, wF_1, sA_eq, upd_eq]
  have u16 : S2.1 0 16 = nI (b s) := by rw [hS2, wF_1, sA_eq, upd_eq]
  have st : R_reads_c0 S = if ltr (b s) = true then R_reads_c95 S2 else if dgt (b s) = true then R_reads_c171 (wF S2 0 16 (nI (b s) - (48 : Int32))) else if sgn (b s) = true then some (0, wF S2 0 15 4) else some (0, S2) := by
    rw [R_reads_c0_eq, show rF S 0 13 = nI s from h13, rawR h hs, ob]
    simp only []
    rw [if_neg (show ¬ nI (b s) = (32 : Int32) by rw [show (32 : Int32) = nI 32 from rfl, nI_eqE (by omega) (by omega)]; exact n32), show rF S 0 13 = nI s from h13, rawR h hs, ob]
    simp only []
    rw [if_neg (show ¬ nI (b s) = (10 : Int32) by rw [show (10 : Int32) = nI 10 from rfl, nI_eqE (by omega) (by omega)]; exact n10), show rF S 0 13 = nI s from h13, show (wF (wF S 0 14 (nI s)) 0 15 (1 : Int32)) = S1 from hS1.symm]
    rw [rawR T1 hs, ob]
    simp only []
    rw [if_neg (show ¬ nI (b s) = (-1 : Int32) from fun z => by rw [show (-1 : Int32) = -nI 1 from rfl, nI_m1 (by omega)] at z; exact z), show rF S1 0 13 = nI s from v13, show nI s + (1 : Int32) = nI (s + 1) from nI_1 s, show (wF (wF S1 0 13 (nI (s + 1))) 0 16 (nI (b s))) = S2 from hS2.symm]
    rw [ltrR hc, ob]
    cases q1 : ltr (b s)
    · simp only [b2f, if_true]
      rw [dgtR hc, ob]
      cases q2 : dgt (b s)
      · simp only [b2f, if_true]
        rw [sgnR hc, ob]
        cases q3 : sgn (b s) <;> rfl
      · rfl
    · rfl
  have hne : s ≠ len := by omega
  rw [st]
  unfold tva
  rw [if_neg hne]
  by_cases q1 : ltr (b s) = true
  · rw [if_pos q1, if_pos q1]
    have et : ten b len s = pst ltr b len (len - (s + 1)) (s + 1) := by
      unfold ten
      rw [if_neg hne, if_pos q1, show len - s = (len - (s + 1)) + 1 from by omega, pst, if_pos ⟨hs, q1⟩]
    obtain ⟨S3, a1, a2, a3⟩ := rd95 (len - (s + 1)) (s + 1) S2 (by omega) T2 u13
    rw [← et] at a1 a2
    have T3 := TR_off T2 a3 (by decide) (by decide) (by decide)
    have hts := ten_s (b := b) hs
    have hall : ∀ i, s ≤ i → i < ten b len s → b i ≠ 32 := by
      intro i i1 i2
      apply ltr_32
      have := (pst_s (P := ltr) (b := b) (len := len) (m := len - s) (i := s) (by omega)).2.2.1 i i1
      unfold ten at i2
      rw [if_neg hne, if_pos q1] at i2
      exact this i2
    have w := wordR T3.2.2.2 T3.2.2.1 h4 hts.1 hts.2 hall (wix_s b s (ten b len s))
    rw [a3.1 0 14 (by decide), u14, w, ob] at a1
    by_cases qx : wix b s (ten b len s) < 24
    · rw [if_pos qx]
      simp only [if_pos qx] at a1
      rw [if_neg (show ¬ nI (wix b s (ten b len s)) = (-1 : Int32) from fun z => by rw [show (-1 : Int32) = -nI 1 from rfl, nI_m1 (by omega)] at z; exact z)] at a1
      refine ⟨_, a1, ((o2.tr (a3.mono (by decide) (by decide))).wF (by decide)).wF (by decide), ?_, ?_, Or.inr (Or.inr (Or.inl ⟨by omega, by omega, ?_, ?_⟩))⟩
      · rw [wF_1, sA_eq, upd_ne (by decide), wF_1, sA_eq, upd_ne (by decide)]; exact a2
      · rw [wF_1, sA_eq, upd_ne (by decide), wF_1, sA_eq, upd_ne (by decide), a3.1 0 14 (by decide)]; exact u14
      · rw [wF_1, sA_eq, upd_eq]
      · rw [wF_1, sA_eq, upd_ne (by decide), wF_1, sA_eq, upd_eq, show 300 + wix b s (ten b len s) - 300 = wix b s (ten b len s) from by omega]
    · rw [if_neg qx]
      simp only [if_neg qx, if_true] at a1
      refine ⟨_, a1, (o2.tr (a3.mono (by decide) (by decide))).wF (by decide), ?_, ?_, Or.inr (Or.inl ⟨rfl, ?_⟩)⟩
      · rw [wF_1, sA_eq, upd_ne (by decide)]; exact a2
      · rw [wF_1, sA_eq, upd_ne (by decide), a3.1 0 14 (by decide)]; exact u14
      · rw [wF_1, sA_eq, upd_ne (by decide), a3.1 0 15 (by decide)]; exact u15
  · rw [if_neg q1, if_neg q1]
    by_cases q2 : dgt (b s) = true
    · rw [if_pos q2, if_pos q2]
      have et : ten b len s = pst dgt b len (len - (s + 1)) (s + 1) := by
        unfold ten
        rw [if_neg hne, if_neg q1, if_pos q2, show len - s = (len - (s + 1)) + 1 from by omega, pst, if_pos ⟨hs, q2⟩]
      have o3 : Off FG [] S (wF S2 0 16 (nI (b s) - (48 : Int32))) := o2.wF (by decide)
      have hq := q2
      unfold dgt at hq
      rw [Bool.and_eq_true, decide_eq_true_eq, decide_eq_true_eq] at hq
      obtain ⟨S3, a1, a2, a3, a4⟩ := rd171 (b := b) (s := s) (len - (s + 1)) (s + 1) (wF S2 0 16 (nI (b s) - (48 : Int32))) (by omega) (TR_off h o3 (by decide) (by decide) (by decide)) (by rw [wF_1, sA_eq, upd_ne (by decide)]; exact u13) (by rw [wF_1, sA_eq, upd_ne (by decide)]; exact u14) (by omega) (by rw [wF_1, sA_eq, upd_ne (by decide)]; exact u15) (fun i h1 h2 => by rw [show i = s by omega]; exact q2) (fun _ => by
        rw [wF_1, sA_eq, upd_eq, show s + 1 - s = 1 from by omega, show (48 : Int32) = nI 48 from rfl, nI_subE (by omega)]
        show nI (b s - 48) = nI (0 * 10 + b s - 48)
        rw [show 0 * 10 + b s - 48 = b s - 48 from by omega])
      rw [← et] at a2 a4
      have hts := ten_s (b := b) hs
      have hall : ∀ i, s ≤ i → i < s + (ten b len s - s) → dgt (b i) = true := by
        intro i i1 i2
        have := (pst_s (P := dgt) (b := b) (len := len) (m := len - s) (i := s) (by omega)).2.2.1 i i1
        apply this
        have e3 : ten b len s = pst dgt b len (len - s) s := by
          unfold ten
          rw [if_neg hne, if_neg q1, if_pos q2]
        omega
      refine ⟨S3, a1, o3.tr (a3.mono (by decide) (by decide)), a2, ?_, ?_⟩
      · rw [a3.1 0 14 (by decide), wF_1, sA_eq, upd_ne (by decide)]; exact u14
      · rcases a4 with ⟨c1, c2, c3⟩ | ⟨c1, c2⟩
        · rw [if_pos c1]
          have hlt := dvl_lt (b := b) (m := ten b len s - s) (i := s) (v := 0) hall
          have h3 : 10 ^ (ten b len s - s) ≤ 10 ^ 4 := Nat.pow_le_pow_right (by omega) c1
          exact Or.inr (Or.inr (Or.inr (Or.inl ⟨by omega, by omega, c2, by rw [c3, show 1000 + dvl b (ten b len s - s) s 0 - 1000 = dvl b (ten b len s - s) s 0 from by omega]⟩)))
        · rw [if_neg c1]
          exact Or.inr (Or.inl ⟨rfl, c2⟩)
    · rw [if_neg q2, if_neg q2]
      have et : ten b len s = s + 1 := by
        unfold ten
        rw [if_neg hne, if_neg q1, if_neg q2]
      rw [et]
      by_cases q3 : sgn (b s) = true
      · rw [if_pos q3, if_pos q3]
        refine ⟨_, rfl, o2.wF (by decide), ?_, ?_, Or.inr (Or.inr (Or.inr (Or.inr ⟨q3, ?_, ?_⟩)))⟩
        · rw [wF_1, sA_eq, upd_ne (by decide)]; exact u13
        · rw [wF_1, sA_eq, upd_ne (by decide)]; exact u14
        · rw [wF_1, sA_eq, upd_eq]
        · rw [wF_1, sA_eq, upd_ne (by decide)]; exact u16
      · rw [if_neg q3, if_neg q3]
        exact ⟨S2, rfl, o2, u13, u14, Or.inr (Or.inl ⟨rfl, u15⟩)⟩
theorem readsR {b : Nat → Nat} {len : Nat} : ∀ m i (S : pS), i + m = len → TR b len S → S.1 0 13 = nI i → ∃ S', R_reads_c0 S = some (0, S') ∧ Off FG [] S S' ∧ S'.1 0 13 = nI (ten b len (sk b len i)) ∧ S'.1 0 14 = nI (sk b len i) ∧ Knd (tva b len (sk b len i)) (S'.1 0 15) (S'.1 0 16) := by
  intro m
  induction m with
  | zero =>
    intro i S hi h h13
    have hil : i = len := by omega
    have es : sk b len i = len := by rw [sk_n (fun z => by omega)]; exact hil
    have et : ten b len len = len := by unfold ten; rw [if_pos rfl]
    have ev : tva b len len = 0 := by unfold tva; rw [if_pos rfl]
    have o1 : Off FG [] S (wF (wF S 0 14 (nI i)) 0 15 1) := (Off.rf.wF (by decide)).wF (by decide)
    refine ⟨wF (wF (wF S 0 14 (nI i)) 0 15 1) 0 15 0, ?_, o1.wF (by decide), ?_, ?_, ?_⟩
    · rw [R_reads_c0_eq, show rF S 0 13 = nI i from h13, rawE h hil, ob]
      simp only []
      rw [if_neg (show ¬ (-1 : Int32) = 32 by decide), show rF S 0 13 = nI i from h13, rawE h hil, ob]
      simp only []
      rw [if_neg (show ¬ (-1 : Int32) = 10 by decide), show rF S 0 13 = nI i from h13, rawE (TR_off h o1 (by decide) (by decide) (by decide)) hil, ob]
      rfl
    · rw [es, et, ← hil, wF_1, sA_eq, upd_ne (by decide), wF_1, sA_eq, upd_ne (by decide), wF_1, sA_eq, upd_ne (by decide)]; exact h13
    · rw [es, ← hil, wF_1, sA_eq, upd_ne (by decide), wF_1, sA_eq, upd_ne (by decide), wF_1, sA_eq, upd_eq]
    · rw [es, ev]
      exact Or.inl ⟨rfl, by rw [wF_1, sA_eq, upd_eq]⟩
  | succ m ih =>
    intro i S hi h h13
    have hil : i < len := by omega
    have hc := (h.2.2.1 i hil).1
    have h4 := h.1
    cases q : blk (b i)
    · rw [sk_n (fun _ => q)]
      exact rdAt h h13 hil q
    · have o1 : Off FG [] S (wF S 0 13 (nI (i + 1))) := Off.rf.wF (by decide)
      obtain ⟨S', a1, a2, a3⟩ := ih (i + 1) _ (by omega) (TR_off h o1 (by decide) (by decide) (by decide)) (by rw [wF_1, sA_eq, upd_eq])
      have e26 : R_reads_c26 S = R_reads_c0 (wF S 0 13 (nI (i + 1))) := by
        rw [R_reads_c26_eq, show rF S 0 13 = nI i from h13, show nI i + (1 : Int32) = nI (i + 1) from nI_1 i]
      refine ⟨S', ?_, o1.tr a2, by rw [sk_b hil q]; exact a3⟩
      rw [R_reads_c0_eq, show rF S 0 13 = nI i from h13, rawR h hil, ob]
      simp only []
      by_cases z : b i = 32
      · rw [z, if_pos (show nI 32 = (32 : Int32) from rfl), e26]; exact a1
      · have z2 : b i = 10 := by
          unfold blk at q
          rw [decide_eq_false z, Bool.false_or, decide_eq_true_eq] at q
          exact q
        rw [if_neg (show ¬ nI (b i) = (32 : Int32) by rw [show (32 : Int32) = nI 32 from rfl, nI_eqE (by omega) (by omega)]; exact z), show rF S 0 13 = nI i from h13, rawR h hil, ob]
        simp only []
        rw [z2, if_pos (show nI 10 = (10 : Int32) from rfl), e26]; exact a1
theorem reads_s {b : Nat → Nat} {len i : Nat} {S : pS} (hi : i ≤ len) (h : TR b len S) (h13 : S.1 0 13 = nI i) : ∃ S', R_reads S = some (0, S') ∧ Off FG [] S S' ∧ S'.1 0 13 = nI (ten b len (sk b len i)) ∧ S'.1 0 14 = nI (sk b len i) ∧ Knd (tva b len (sk b len i)) (S'.1 0 15) (S'.1 0 16) := by
  rw [R_reads_eq]
  exact readsR (len - i) i S (by omega) h h13
