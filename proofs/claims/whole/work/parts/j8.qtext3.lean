/-! The call text, joined. -/
theorem bind_id {α β : Type} (x : Option (α × β)) : x.bind (fun q => some (q.1, q.2)) = x := by cases x <;> rfl
theorem q_text {X R : pS} (d : Nat) (hd : 116 ≤ d) (a : Int32) (h : INV X R) : Gd (C_text (d + 1 + 1 + 1 + 1 + 1) a) (R_text a) X R := by
  obtain ⟨c1, c2, c3, ⟨⟨len, b, hl, t1, t2, t3⟩, t4, t5⟩, n, D, B, L, T, w, xa, ra, hs⟩ := h
  have o0 : Off FR WRs R (wF R 0 0 0) := told0
  have ox0 : Off FX WX X X := Off.rf
  have hIt : INVt n D B L T X (wF R 0 0 0) := ⟨c1, ConR_off c2 o0 (by decide) (by decide), Img_off c3 ox0 o0 (by decide) (fun o a h => by simp; omega) (fun o h1 h2 => by simp; omega) (by decide) (by decide), w, xa, RA_off ra o0, Hst_off hs ox0 o0 (by decide) (fun o a h1 h2 => by simp; omega) (fun o h1 h2 => by simp; omega) (by decide) (by decide)⟩
  have hX : TX b len X := ⟨hl, t1, fun i hi => ⟨(t3 i hi).1, (t3 i hi).2.1⟩⟩
  have hR : TR b len (wF R 0 0 0) := TR_off (S := R) ⟨hl, t2, fun i hi => ⟨(t3 i hi).1, (t3 i hi).2.2⟩, c2.2⟩ o0 (by decide) (by decide) (by decide)
  have h1 : rF X 1 1 = nI n := by
    show X.1 1 1 = _
    rw [xa.1.2 1 (by omega) (by omega)]; exact w.1.2.1
  have hn : n ≤ 14 := w.1.1
  have h6 : (wF R 0 0 0).1 0 6 = nI n := hIt.2.2.2.2.2.1.1.2
  cases ha : inr a 4
  · obtain ⟨X1, hX1⟩ : ∃ X1, X1 = wF (wF (wF (wF (wF (wF X 50 4 (0 : Int32)) 50 5 (-1 : Int32)) 50 3 (0 : Int32)) 51 7 (0 : Int32)) 51 8 (0 : Int32)) 59 2 (0 : Int32) := ⟨_, rfl⟩
    have o1 : Off FTx WTx X X1 := by
      rw [hX1]
      exact (((((Off.rf.wF (by decide)).wF (by decide)).wF (by decide)).wF (by decide)).wF (by decide)).wF (by decide)
    obtain ⟨R1, hR1⟩ : ∃ R1, R1 = wF (wF (wF (wF (wF (wF R 0 0 (0 : Int32)) 0 32 (0 : Int32)) 0 33 (-1 : Int32)) 0 13 (0 : Int32)) 0 26 (0 : Int32)) 0 27 (0 : Int32) := ⟨_, rfl⟩
    have o2 : Off [(0, 32), (0, 33), (0, 13), (0, 26), (0, 27)] [] (wF R 0 0 0) R1 := by
      rw [hR1]
      exact ((((Off.rf.wF (by decide)).wF (by decide)).wF (by decide)).wF (by decide)).wF (by decide)
    have i4 := isIn_s a 4 (by omega) (S := R1)
    rw [show nI 4 - 1 = (3 : Int32) from rfl, ha] at i4
    have wt : C_within a (4 : Int32) X1 = some (b2i (inr a 4), X1) := within_s a 4 (S := X1)
    refine ⟨-1, wF X1 46 4 0, wF R1 0 12 0, ?_, ?_, INV_t (INVt_cl (INVt_rd hIt o1 (Sm.of o2 (by decide) (by decide)))) ?_ ?_ ?_ ?_⟩
    · rw [C_text_eq _ (by omega), Re_read_50_eq _ (by omega), La_clear_51_eq, ob]
      simp only []
      rw [Ro_clear_59_eq, ob]
      simp only []
      rw [← hX1, wt, ob, ha, if_pos (show b2i false = 0 from rfl), ob, if_pos (show (0 : Int32) = 0 from rfl)]
    · rw [R_text_eq, ← hR1, i4, ob, if_pos (show b2i false = 0 from rfl), R_text_c69_eq, if_pos rfl]
    · rw [wF_1, sA_eq, upd_eq]
    · rw [wF_1, sA_eq, upd_eq]
    · rw [wF_1, sA_ne (by decide), wF_1, sA_eq, upd_ne (by decide), hX1, hR1]; rfl
    · rw [wF_1, sA_ne (by decide), wF_1, sA_eq, upd_ne (by decide), hX1, hR1]; rfl
  · obtain ⟨M, Xs, Rs, hM, s1, s2, cx, cr, x3, x7, x8, x59, r26, r27, r25, nf, ox, sm⟩ := rd_start (d := d + 1 + 1 + 1) (a1 := a) (a2 := nI n) (by omega) hX hR ha
    have h59 : Xs.1 59 0 = nI 16 := by rw [ox.1 _ _ (by decide)]; exact c1.2.2.2.2.2.2.2.2
    obtain ⟨j, hj, ea⟩ := inr_t (by omega) ha
    have hc : a = 0 ∨ a = 1 ∨ a = 2 ∨ a = 3 := by
      have : j = 0 ∨ j = 1 ∨ j = 2 ∨ j = 3 := by omega
      rcases this with rfl | rfl | rfl | rfl
      · exact Or.inl ea
      · exact Or.inr (Or.inl ea)
      · exact Or.inr (Or.inr (Or.inl ea))
      · exact Or.inr (Or.inr (Or.inr ea))
    clear ea
    rcases hc with rfl | rfl | rfl | rfl
    · refine txt_fin (Xs := Xs) (Rs := Rs) (J := JL b len M X (wF R 0 0 0)) (by omega) hIt h1 ha R_readLaw ?_ s1 (rd_law hM hd ⟨cx, cr, x3, by omega, nf, 0, fun _ _ => 0, ⟨x7, r26, fun i hi => by omega⟩, Nat.le_refl 0, r27, r25, ⟨x8, fun i hi => by omega⟩, fun i hi => by omega, fun i hi => by omega, ox, sm⟩) (fun l k X' R' j => ?_)
      · rw [R_readsText_eq, s2, ob, if_neg (show ¬ (0 : Int32) = 1 by decide), if_neg (show ¬ (0 : Int32) = 2 by decide), if_neg (show ¬ (0 : Int32) = 3 by decide)]
        exact bind_id _
      · obtain ⟨X2, R2, L2, u1, u2, u3, u4, u5⟩ := tk_law hIt j
        exact ⟨j.2.2.2.2.1, j.2.2.1, j.2.2.2.1, X2, X2, R2, n, D, B, L2, T, u1, (if_neg (show ¬ (0 : Int32) = 3 by decide)).symm, by rw [if_pos rfl]; exact u2, u3, u4.mono (by decide) (by decide), u5.mono (by decide) (by decide)⟩
    · obtain ⟨Rt, g1, g2, g3, g4⟩ := cl_met 12 0 Rs (by omega) (fun p hp => by omega)
      refine txt_fin (Xs := Xs) (Rs := Rt) (J := JM b len M X (wF R 0 0 0)) (by omega) hIt h1 ha (R_readMet_c26 (nI 0)) ?_ s1 (rd_met hM (by omega) ⟨cx, Cr_off cr g3 (by decide) (by decide) (by decide), x3, by omega, NF_off nf (Off.rf (F := []) (W := [])) g3 (by decide) (by decide) (by decide) (by decide), fun _ _ => 0, ⟨h59, x59, fun i hi => by omega⟩, fun i hi => by omega, fun p hp => by rw [g2 p hp]; rfl, ox, sm.tr g4⟩) (fun l k X' R' j => ?_)
      · rw [R_readsText_eq, s2, ob, if_pos (show (1 : Int32) = 1 from rfl), R_readMet_eq]
        exact (bind_id _).trans g1
      · obtain ⟨X2, R2, T2, u1, u2, u3, u4, u5⟩ := tk_met hIt j
        exact ⟨j.2.2.2.2.1, j.2.2.1, j.2.2.2.1, X2, X2, R2, n, D, B, L, T2, u1, (if_neg (show ¬ (1 : Int32) = 3 by decide)).symm, by rw [if_neg (show ¬ (1 : Int32) = 0 by decide)]; exact u2, u3, u4.mono (by decide) (by decide), u5.mono (by decide) (by decide)⟩
    · obtain ⟨Rt, g1, g2, g3, g4⟩ := cl_called 8 0 Rs (by omega) (fun p hp => by omega)
      refine txt_fin (Xs := Xs) (Rs := Rt) (J := JC b len M X (wF R 0 0 0)) (by omega) hIt h1 ha (R_readCalled_c36 (nI 0)) ?_ s1 (rd_called hM (by omega) ⟨cx, Cr_off cr g3 (by decide) (by decide) (by decide), x3, by omega, NF_off nf (Off.rf (F := []) (W := [])) g3 (by decide) (by decide) (by decide) (by decide), fun _ _ => 0, ⟨h59, x59, fun i hi => by omega⟩, fun i hi => by omega, fun p hp => by rw [(g2 p hp).1, (g2 p hp).2]; exact ⟨rfl, show (0 : Int32) = nI 99 - 99 by decide⟩, ox, sm.tr g4⟩) (fun l k X' R' j => ?_)
      · rw [R_readsText_eq, s2, ob, if_neg (show ¬ (2 : Int32) = 1 by decide), if_pos (show (2 : Int32) = 2 from rfl), R_readCalled_eq]
        exact (bind_id _).trans g1
      · obtain ⟨X2, R2, T2, u1, u2, u3, u4, u5⟩ := tk_called hIt j
        exact ⟨j.2.2.2.2.1, j.2.2.1, j.2.2.2.1, X2, X2, R2, n, D, B, L, T2, u1, (if_neg (show ¬ (2 : Int32) = 3 by decide)).symm, by rw [if_neg (show ¬ (2 : Int32) = 0 by decide)]; exact u2, u3, u4.mono (by decide) (by decide), u5.mono (by decide) (by decide)⟩
    · refine txt_fin (Xs := Xs) (Rs := Rs) (J := JP b len M n X (wF R 0 0 0)) (by omega) hIt h1 ha (R_readPlan_c2 (nI 0)) ?_ s1 (rd_plan hM (by omega) h6 hn ⟨cx, cr, x3, by omega, nf, fun _ _ => 0, ⟨h59, x59, fun i hi => by omega⟩, fun i hi => by omega, fun i hi => by omega, ox, sm⟩) (fun l k X' R' j => ?_)
      · rw [R_readsText_eq, s2, ob, if_neg (show ¬ (3 : Int32) = 1 by decide), if_neg (show ¬ (3 : Int32) = 2 by decide), if_pos (show (3 : Int32) = 3 from rfl), R_readPlan_eq]
        exact bind_id _
      · obtain ⟨X2, R2, T2, u1, u2, u3, u4, u5⟩ := tk_plan hIt j
        exact ⟨j.2.2.2.2.1, j.2.2.1, j.2.2.2.1, X2, _, R2, n, D, B, L, T2, u1, (if_pos (show (3 : Int32) = 3 from rfl)).symm, by rw [if_neg (show ¬ (3 : Int32) = 0 by decide)]; exact u2, u3, (u4.mono (by decide) (by decide)).wF (by decide), u5.mono (by decide) (by decide)⟩
