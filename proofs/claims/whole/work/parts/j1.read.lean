/-! Reading: a whole text of each kind. -/
theorem rd_start {b : Nat → Nat} {len d : Nat} {a1 a2 : Int32} {X R0 : pS} (hd : 100 ≤ d) (hX : TX b len X) (hR : TR b len R0) (ha : inr a1 4 = true) : ∃ M Xs Rs, tkn b len M = 0 ∧ Re_read_50 (d + 1) a1 a2 X = Re_read_50_c70 (d + 1) a1 a2 1 (nI 0) Xs ∧ R_reads (wF (wF (wF (wF (wF (wF R0 0 32 (0 : Int32)) 0 33 (-1 : Int32)) 0 13 (0 : Int32)) 0 26 (0 : Int32)) 0 27 (0 : Int32)) 0 25 (0 : Int32)) = some (0, Rs) ∧ Cx b len M 0 Xs ∧ Cr b len 0 Rs ∧ Xs.1 50 3 = nI 0 ∧ Xs.1 51 7 = nI 0 ∧ Xs.1 51 8 = nI 0 ∧ Xs.1 59 2 = nI 0 ∧ Rs.1 0 26 = nI 0 ∧ Rs.1 0 27 = nI 0 ∧ Rs.1 0 25 = 0 ∧ NF Xs Rs ∧ Off FTx WTx X Xs ∧ Sm R0 Rs := by
  obtain ⟨X1, hX1⟩ : ∃ X1, X1 = wF (wF (wF (wF (wF (wF X 50 4 (0 : Int32)) 50 5 (-1 : Int32)) 50 3 (0 : Int32)) 51 7 (0 : Int32)) 51 8 (0 : Int32)) 59 2 (0 : Int32) := ⟨_, rfl⟩
  have o1 : Off [(50, 4), (50, 5), (50, 3), (51, 7), (51, 8), (59, 2)] [] X X1 := by
    rw [hX1]
    exact (((((Off.rf.wF (by decide)).wF (by decide)).wF (by decide)).wF (by decide)).wF (by decide)).wF (by decide)
  obtain ⟨X2, M, s1, s2, s3, s4, s5, s6⟩ := scan_s (TX_off hX o1 (by decide) (by decide))
  have w : C_within a1 (4 : Int32) X1 = some (b2i (inr a1 4), X1) := within_s a1 4 (S := X1)
  obtain ⟨Xs, hXs⟩ : ∃ Xs, Xs = wF (wF X2 50 6 (0 : Int32)) 50 7 (rA X2 48 (0 : Int32)) := ⟨_, rfl⟩
  have o2 : Off [(50, 6), (50, 7)] [] X2 Xs := by rw [hXs]; exact (Off.rf.wF (by decide)).wF (by decide)
  obtain ⟨Rp, hRp⟩ : ∃ Rp, Rp = wF (wF (wF (wF (wF (wF R0 0 32 (0 : Int32)) 0 33 (-1 : Int32)) 0 13 (0 : Int32)) 0 26 (0 : Int32)) 0 27 (0 : Int32)) 0 25 (0 : Int32) := ⟨_, rfl⟩
  have op : Off [(0, 32), (0, 33), (0, 13), (0, 26), (0, 27), (0, 25)] [] R0 Rp := by
    rw [hRp]
    exact (((((Off.rf.wF (by decide)).wF (by decide)).wF (by decide)).wF (by decide)).wF (by decide)).wF (by decide)
  have hTp : TR b len Rp := TR_off hR op (by decide) (by decide) (by decide)
  have p13 : Rp.1 0 13 = nI 0 := by rw [hRp, wF_1, sA_eq, upd_ne (by decide), wF_1, sA_eq, upd_ne (by decide), wF_1, sA_eq, upd_ne (by decide), wF_1, sA_eq, upd_eq]; rfl
  obtain ⟨Rs, r1, r2, r3, r4, r5⟩ := reads_s (Nat.zero_le len) hTp p13
  have hl := hX.1
  have hM : tkn b len M = 0 := by
    unfold tkn tva
    rw [s3, if_pos rfl]
  have c48 : rA X2 48 (0 : Int32) = nI (tkn b len 0) := by
    rw [show (0 : Int32) = nI 0 from rfl, rA_n (by omega)]
    exact (s4.2 0 (by omega)).1
  have f : ∀ i a, (i, a) ∉ FN → (i, a) ∉ [(50, 6), (50, 7)] → Xs.1 i a = X1.1 i a := fun i a h1 h2 => by rw [o2.1 _ _ h2, s5.1 _ _ h1]
  refine ⟨M, Xs, Rs, hM, ?_, by rw [← hRp]; exact r1, ⟨Nat.zero_le M, by omega, ?_, ?_, fun j hj => ?_⟩, ⟨TR_off hTp r2 (by decide) (by decide) (by decide), r3, r4, r5⟩, ?_, ?_, ?_, ?_, ?_, ?_, ?_, ⟨?_, ?_, ?_, ?_⟩, ((o1.mono (by decide) (by decide)).tr (s5.mono (by decide) (by decide))).tr (o2.mono (by decide) (by decide)), (Sm.of op (by decide) (by decide)).tr (Sm.of r2 (by decide) (by decide))⟩
  · rw [Re_read_50_eq d hd, La_clear_51_eq, ob]
    simp only []
    rw [Ro_clear_59_eq, ob]
    simp only []
    rw [← hX1, w, ob, ha, if_neg (show ¬ b2i true = 0 by decide)]
    simp only []
    rw [s1, ob, hXs]
    rfl
  · rw [hXs, wF_1, sA_eq, upd_ne (by decide), wF_1, sA_eq, upd_eq]; rfl
  · rw [hXs, wF_1, sA_eq, upd_eq, c48]
  · rw [o2.2.1 _ (by decide), o2.2.1 _ (by decide)]
    exact s4.2 j (by omega)
  · rw [f _ _ (by decide) (by decide), hX1, wF_1, sA_ne (by decide), wF_1, sA_ne (by decide), wF_1, sA_ne (by decide), wF_1, sA_eq, upd_eq]; rfl
  · rw [f _ _ (by decide) (by decide), hX1, wF_1, sA_ne (by decide), wF_1, sA_eq, upd_ne (by decide), wF_1, sA_eq, upd_eq]; rfl
  · rw [f _ _ (by decide) (by decide), hX1, wF_1, sA_ne (by decide), wF_1, sA_eq, upd_eq]; rfl
  · rw [f _ _ (by decide) (by decide), hX1, wF_1, sA_eq, upd_eq]; rfl
  · rw [r2.1 _ _ (by decide), hRp, wF_1, sA_eq, upd_ne (by decide), wF_1, sA_eq, upd_ne (by decide), wF_1, sA_eq, upd_eq]; rfl
  · rw [r2.1 _ _ (by decide), hRp, wF_1, sA_eq, upd_ne (by decide), wF_1, sA_eq, upd_eq]; rfl
  · rw [r2.1 _ _ (by decide), hRp, wF_1, sA_eq, upd_eq]
  · rw [f _ _ (by decide) (by decide), hX1, wF_1, sA_ne (by decide), wF_1, sA_ne (by decide), wF_1, sA_ne (by decide), wF_1, sA_eq, upd_ne (by decide), wF_1, sA_eq, upd_ne (by decide), wF_1, sA_eq, upd_eq]
  · rw [f _ _ (by decide) (by decide), hX1, wF_1, sA_ne (by decide), wF_1, sA_ne (by decide), wF_1, sA_ne (by decide), wF_1, sA_eq, upd_ne (by decide), wF_1, sA_eq, upd_eq]
  · rw [r2.1 _ _ (by decide), hRp, wF_1, sA_eq, upd_ne (by decide), wF_1, sA_eq, upd_ne (by decide), wF_1, sA_eq, upd_ne (by decide), wF_1, sA_eq, upd_ne (by decide), wF_1, sA_eq, upd_ne (by decide), wF_1, sA_eq, upd_eq]
  · rw [r2.1 _ _ (by decide), hRp, wF_1, sA_eq, upd_ne (by decide), wF_1, sA_eq, upd_ne (by decide), wF_1, sA_eq, upd_ne (by decide), wF_1, sA_eq, upd_ne (by decide), wF_1, sA_eq, upd_eq]
def ROut (J : Nat → Nat → pS → pS → Prop) (b : Nat → Nat) (len : Nat) (X0 R0 : pS) (f g : Option (Int32 × pS)) : Prop := (∃ X' R', f = some (0, X') ∧ g = some (-1, R') ∧ FailP X0 R0 X' R') ∨ (∃ l k X' R', f = some (1, X') ∧ g = some (nI l, R') ∧ J l k X' R')
theorem rd_law {b : Nat → Nat} {len M d : Nat} {a2 : Int32} {X0 R0 Xs Rs : pS} (hM : tkn b len M = 0) (hd : 116 ≤ d) (h : JL b len M X0 R0 0 0 Xs Rs) : ROut (JL b len M X0 R0) b len X0 R0 (Re_read_50_c70 (d + 1 + 1 + 1 + 1) 0 a2 1 (nI 0) Xs) (R_readLaw Rs) := by
  rw [R_readLaw_eq]
  rcases rd_loop (b := b) (len := len) (M := M) (l1 := 0) (l2 := a2) (d := d + 1 + 1 + 1) (by omega) (Re_lawLine_50 (d + 1 + 1 + 1)) R_readLaw_c2 (JL b len M X0 R0) (FailP X0 R0) (fun l4 S h4 h7 => by rw [Re_read_50_c70_eq (d + 1 + 1 + 1) (by omega), if_pos h4, if_neg (show ¬ (1 : Int32) = 0 by decide), if_neg h7, if_pos (show (0 : Int32) = 0 from rfl)]) (fun l k X R j => ⟨j.1, j.2.2.1, j.2.2.2.1, knd_lt j.2.1.2.2.2⟩) (fun X R v => FailP_w) (fun l k X R j h0 => by
      rw [R_readLaw_c2_eq, isLW j.2.1, ob, decide_eq_false (by omega), if_pos (show b2i false = 0 from rfl)]
      simp only []
      rw [if_pos (show rF R 0 15 = 0 from (knd_0 j.2.1.2.2.2).mpr h0)]) (fun l k X R j h0 => law_line hM hd j h0) M 0 0 Xs Rs (by omega) h with g | ⟨l', k', X', R', g1, g2, g3, g4⟩
  · exact Or.inl g
  · exact Or.inr ⟨l', k', X', R', g1, g2, g3⟩
/-- a loop whose lines begin with one word -/
theorem rd_word {b : Nat → Nat} {len M d w : Nat} {l1 a2 : Int32} {X0 R0 Xs Rs : pS} (hM : tkn b len M = 0) (hd : 100 ≤ d) (hw : w < 24) (J : Nat → Nat → pS → pS → Prop) (lineX : pS → Option (Int32 × pS)) (loopR : Int32 → pS → Option (Int32 × pS)) (lineR : Nat → pS → Option (Int32 × pS))
    (hJ : ∀ l k X R, J l k X R → Cx b len M k X ∧ Cr b len k R ∧ X.1 50 3 = nI l ∧ l ≤ 16 ∧ Off FTx WTx X0 X ∧ Sm R0 R)
    (hD : ∀ (l4 : Int32) (S : pS), l4 ≤ (16 : Int32) → ¬ rF S 50 7 = 0 → Re_read_50_c70 (d + 1) l1 a2 1 l4 S = (lineX S).bind (fun q => Re_read_50_c146 (d + 1) l1 a2 q.1 l4 q.2))
    (hLR : ∀ l S, l ≤ 16 → loopR (nI l) S = (R_isWord (nI w) S).bind (fun q1 => if q1.1 = 0 then (if (rF q1.2 0 15) = 0 then (some (nI l, q1.2)) else ((R_errs (1 : Int32) q1.2).bind (fun q2 => some (q2.1, q2.2)))) else (if nI l = (16 : Int32) then ((R_errs (3 : Int32) q1.2).bind (fun q3 => some (q3.1, q3.2))) else ((lineR l q1.2).bind (fun q4 => if q4.1 = (-1 : Int32) then (some ((-1 : Int32), q4.2)) else (loopR (nI l + (1 : Int32)) q4.2))))))
    (hO : ∀ X Y, Re_opens_50 (nI (300 + w)) (nI (300 + w)) X = some (0, Y) → lineX X = some (0, Y))
    (hL : ∀ l k X R X1, J l k X R → l < 16 → tkn b len k = 300 + w → Re_opens_50 (nI (300 + w)) (nI (300 + w)) X = some (1, X1) → Cx b len M (k + 1) X1 → Off [(50, 6), (50, 7)] [] X X1 → LOut b len M l k J X0 R0 (lineX X) (lineR l R))
    (h : J 0 0 Xs Rs) : ROut J b len X0 R0 (Re_read_50_c70 (d + 1) l1 a2 1 (nI 0) Xs) (loopR (nI 0) Rs) := by
  have st : ∀ l k X R, J l k X R → tkn b len k ≠ 0 → (∃ X' R', lineX X = some (0, X') ∧ loopR (nI l) R = some (-1, R') ∧ FailP X0 R0 X' R') ∨ (∃ k' X' R', k < k' ∧ l < 16 ∧ lineX X = some (1, X') ∧ X'.1 50 3 = nI l ∧ loopR (nI l) R = loopR (nI (l + 1)) R' ∧ J (l + 1) k' (wF X' 50 3 (nI (l + 1))) R') := by
    intro l k X R j h0
    obtain ⟨hx, hr, h3, hl, ox, sm⟩ := hJ l k X R j
    have hlt := knd_lt hr.2.2.2
    have iw := isWd hr hw
    rcases opn (lo := 300 + w) (hi := 300 + w) hM hx hlt h3 hl (by omega) (by omega) (by omega) with ⟨q, x1⟩ | ⟨q1, q2, q3, x1⟩ | ⟨q1, q2, q3, X1, x1, x2, x3⟩
    · refine Or.inl ⟨_, _, hO _ _ x1, ?_, FailP_of 1 hx hr ox sm⟩
      rw [hLR l R hl, iw, ob, decide_eq_false (by omega), if_pos (show b2i false = 0 from rfl)]
      simp only []
      rw [if_neg (show ¬ rF R 0 15 = 0 from fun z => h0 ((knd_0 hr.2.2.2).mp z)), ers hr, ob]
    · refine Or.inl ⟨_, _, hO _ _ x1, ?_, FailP_of 3 hx hr ox sm⟩
      rw [hLR l R hl, iw, ob, decide_eq_true (by omega), if_neg (show ¬ b2i true = 0 by decide), if_pos (show nI l = (16 : Int32) by rw [q3]; rfl), ers hr, ob]
    · have lr : loopR (nI l) R = (lineR l R).bind (fun q4 => if q4.1 = (-1 : Int32) then (some ((-1 : Int32), q4.2)) else (loopR (nI (l + 1)) q4.2)) := by
        rw [hLR l R hl, iw, ob, decide_eq_true (by omega), if_neg (show ¬ b2i true = 0 by decide), if_neg (show ¬ nI l = (16 : Int32) by rw [show (16 : Int32) = nI 16 from rfl, nI_eqE (by omega) (by omega)]; omega), show nI l + (1 : Int32) = nI (l + 1) from nI_1 l]
      rcases hL l k X R X1 j q3 (by omega) x1 x2 x3 with ⟨X', R', f1, f2, f3⟩ | ⟨k', X', R', g1, g2, g3, g4, g5⟩
      · exact Or.inl ⟨X', R', f1, by rw [lr, f2, ob, if_pos rfl], f3⟩
      · exact Or.inr ⟨k', X', R', g1, q3, g2, g3, by rw [lr, g4, ob, if_neg (show ¬ (0 : Int32) = -1 by decide)], g5⟩
  rcases rd_loop (b := b) (len := len) (M := M) (l1 := l1) (l2 := a2) (d := d) hd lineX loopR J (FailP X0 R0) hD (fun l k X R j => ⟨(hJ l k X R j).1, (hJ l k X R j).2.2.1, (hJ l k X R j).2.2.2.1, knd_lt (hJ l k X R j).2.1.2.2.2⟩) (fun X R v => FailP_w) (fun l k X R j h0 => by
      rw [hLR l R (hJ l k X R j).2.2.2.1, isWd (hJ l k X R j).2.1 hw, ob, decide_eq_false (by omega), if_pos (show b2i false = 0 from rfl)]
      simp only []
      rw [if_pos (show rF R 0 15 = 0 from (knd_0 (hJ l k X R j).2.1.2.2.2).mpr h0)]) st M 0 0 Xs Rs (by omega) h with g | ⟨l', k', X', R', g1, g2, g3, g4⟩
  · exact Or.inl g
  · exact Or.inr ⟨l', k', X', R', g1, g2, g3⟩
theorem JM_r {b : Nat → Nat} {len M l k : Nat} {X0 R0 X R : pS} (j : JM b len M X0 R0 l k X R) : Cx b len M k X ∧ Cr b len k R ∧ X.1 50 3 = nI l ∧ l ≤ 16 ∧ Off FTx WTx X0 X ∧ Sm R0 R := by
  obtain ⟨a1, a2, a3, a4, nf, A, a5, a6, a7, a8, a9⟩ := j
  exact ⟨a1, a2, a3, a4, a8, a9⟩
theorem JC_r {b : Nat → Nat} {len M l k : Nat} {X0 R0 X R : pS} (j : JC b len M X0 R0 l k X R) : Cx b len M k X ∧ Cr b len k R ∧ X.1 50 3 = nI l ∧ l ≤ 16 ∧ Off FTx WTx X0 X ∧ Sm R0 R := by
  obtain ⟨a1, a2, a3, a4, nf, A, a5, a6, a7, a8, a9⟩ := j
  exact ⟨a1, a2, a3, a4, a8, a9⟩
theorem JP_r {b : Nat → Nat} {len M nn l k : Nat} {X0 R0 X R : pS} (j : JP b len M nn X0 R0 l k X R) : Cx b len M k X ∧ Cr b len k R ∧ X.1 50 3 = nI l ∧ l ≤ 16 ∧ Off FTx WTx X0 X ∧ Sm R0 R := by
  obtain ⟨a1, a2, a3, a4, nf, A, a5, a6, a7, a8, a9⟩ := j
  exact ⟨a1, a2, a3, a4, a8, a9⟩
theorem rd_met {b : Nat → Nat} {len M d : Nat} {a2 : Int32} {X0 R0 Xs Rs : pS} (hM : tkn b len M = 0) (hd : 100 ≤ d) (h : JM b len M X0 R0 0 0 Xs Rs) : ROut (JM b len M X0 R0) b len X0 R0 (Re_read_50_c70 (d + 1) 1 a2 1 (nI 0) Xs) (R_readMet_c26 (nI 0) Rs) :=
  rd_word (w := 7) hM hd (by decide) (JM b len M X0 R0) Re_metLine_50 R_readMet_c26 (fun _ => R_readMetLine) (fun l k X R j => JM_r j) (fun l4 S h4 h7 => by rw [Re_read_50_c70_eq d hd, if_pos h4, if_neg (show ¬ (1 : Int32) = 0 by decide), if_neg h7, if_neg (show ¬ (1 : Int32) = 0 by decide), if_pos (show (1 : Int32) = 1 from rfl)]) (fun l S hl => by rw [R_readMet_c26_eq]; rfl) (fun X Y x1 => by
    have x1 : Re_opens_50 (307 : Int32) (307 : Int32) X = some (0, Y) := x1
    rw [Re_metLine_50_eq, x1, ob, if_pos (show (0 : Int32) = 0 from rfl)]) (fun l k X R X1 j h1 h2 x1 x2 x3 => met_line hM j h1 h2 x1 x2 x3) h
theorem rd_called {b : Nat → Nat} {len M d : Nat} {a2 : Int32} {X0 R0 Xs Rs : pS} (hM : tkn b len M = 0) (hd : 100 ≤ d) (h : JC b len M X0 R0 0 0 Xs Rs) : ROut (JC b len M X0 R0) b len X0 R0 (Re_read_50_c70 (d + 1) 2 a2 1 (nI 0) Xs) (R_readCalled_c36 (nI 0) Rs) :=
  rd_word (w := 8) hM hd (by decide) (JC b len M X0 R0) Re_calledLine_50 R_readCalled_c36 (fun _ => R_readCalledLine) (fun l k X R j => JC_r j) (fun l4 S h4 h7 => by rw [Re_read_50_c70_eq d hd, if_pos h4, if_neg (show ¬ (1 : Int32) = 0 by decide), if_neg h7, if_neg (show ¬ (2 : Int32) = 0 by decide), if_neg (show ¬ (2 : Int32) = 1 by decide), if_pos (show (2 : Int32) = 2 from rfl)]) (fun l S hl => by rw [R_readCalled_c36_eq]; rfl) (fun X Y x1 => by
    have x1 : Re_opens_50 (308 : Int32) (308 : Int32) X = some (0, Y) := x1
    rw [Re_calledLine_50_eq, x1, ob, if_pos (show (0 : Int32) = 0 from rfl)]) (fun l k X R X1 j h1 h2 x1 x2 x3 => called_line hM j h1 h2 x1 x2 x3) h
theorem rd_plan {b : Nat → Nat} {len M d nn : Nat} {X0 R0 Xs Rs : pS} (hM : tkn b len M = 0) (hd : 100 ≤ d) (h6 : R0.1 0 6 = nI nn) (hnn : nn ≤ 14) (h : JP b len M nn X0 R0 0 0 Xs Rs) : ROut (JP b len M nn X0 R0) b len X0 R0 (Re_read_50_c70 (d + 1) 3 (nI nn) 1 (nI 0) Xs) (R_readPlan_c2 (nI 0) Rs) :=
  rd_word (w := 19) hM hd (by decide) (JP b len M nn X0 R0) (Re_planLine_50 (nI nn)) R_readPlan_c2 (fun l => R_readDeed (nI (48 + 3 * l))) (fun l k X R j => JP_r j) (fun l4 S h4 h7 => by rw [Re_read_50_c70_eq d hd, if_pos h4, if_neg (show ¬ (1 : Int32) = 0 by decide), if_neg h7, if_neg (show ¬ (3 : Int32) = 0 by decide), if_neg (show ¬ (3 : Int32) = 1 by decide), if_neg (show ¬ (3 : Int32) = 2 by decide)]) (fun l S hl => by rw [R_readPlan_c2_eq, show (48 : Int32) + (3 : Int32) * nI l = nI (48 + 3 * l) from by rw [show (3 : Int32) = nI 3 from rfl, pk_mul, show (48 : Int32) = nI 48 from rfl, nI_add]]; rfl) (fun X Y x1 => by
    have x1 : Re_opens_50 (319 : Int32) (319 : Int32) X = some (0, Y) := x1
    rw [Re_planLine_50_eq, x1, ob, if_pos (show (0 : Int32) = 0 from rfl)]) (fun l k X R X1 j h1 h2 x1 x2 x3 => plan_line hM h6 hnn j h1 h2 x1 x2 x3) h
