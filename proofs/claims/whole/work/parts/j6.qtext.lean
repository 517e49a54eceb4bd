/-! The call text. -/
theorem txt_ref {a : Int32} {R Rs : pS} (ha : inr a 4 = true) (rd : pS → Option (Int32 × pS)) (hrd : R_readsText a (wF (wF (wF (wF (wF (wF R 0 0 (0 : Int32)) 0 32 (0 : Int32)) 0 33 (-1 : Int32)) 0 13 (0 : Int32)) 0 26 (0 : Int32)) 0 27 (0 : Int32)) = rd Rs) : R_text a R = (rd Rs).bind (fun q2 => if q2.1 = (-1 : Int32) then (R_text_c69 a q2.1 (wF (wF q2.2 0 32 (rF q2.2 0 30)) 0 33 (rF q2.2 0 31))) else (R_text_c69 a q2.1 q2.2)) := by
  have i4 := isIn_s a 4 (by omega) (S := wF (wF (wF (wF (wF (wF R 0 0 (0 : Int32)) 0 32 (0 : Int32)) 0 33 (-1 : Int32)) 0 13 (0 : Int32)) 0 26 (0 : Int32)) 0 27 (0 : Int32))
  rw [show nI 4 - 1 = (3 : Int32) from rfl, ha] at i4
  rw [R_text_eq, i4, ob, if_neg (show ¬ b2i true = 0 by decide)]
  simp only []
  rw [hrd]
/-- both stop, or both take -/
theorem txt_fin {b : Nat → Nat} {len n d : Nat} {a : Int32} {D : tD} {B : tB} {L T : tL} {X R Xs Rs : pS} (J : Nat → Nat → pS → pS → Prop) (hd : 100 ≤ d) (h : INVt n D B L T X (wF R 0 0 0)) (h1 : rF X 1 1 = nI n) (ha : inr a 4 = true) (rd : pS → Option (Int32 × pS)) (hrd : R_readsText a (wF (wF (wF (wF (wF (wF R 0 0 (0 : Int32)) 0 32 (0 : Int32)) 0 33 (-1 : Int32)) 0 13 (0 : Int32)) 0 26 (0 : Int32)) 0 27 (0 : Int32)) = rd Rs) (hX : Re_read_50 d a (nI n) X = Re_read_50_c70 d a (nI n) 1 (nI 0) Xs) (ho : ROut J b len X (wF R 0 0 0) (Re_read_50_c70 d a (nI n) 1 (nI 0) Xs) (rd Rs))
    (hT : ∀ l k X' R', J l k X' R' → NF X' R' ∧ X'.1 50 3 = nI l ∧ l ≤ 16 ∧ ∃ X2 X3 R2 n2 D2 B2 L2 T2, To_take_3_50 a (wF X' 46 4 0) = some (0, X2) ∧ X3 = (if a = (3 : Int32) then wF X2 31 2 0 else X2) ∧ (if a = 0 then R_takesLaw (nI l) (wF R' 0 12 0) else R_takesOther a (nI l) (wF R' 0 12 0)) = some (0, R2) ∧ INVt n2 D2 B2 L2 T2 X3 R2 ∧ Off [(4, 7), (4, 8), (3, 8), (3, 9), (15, 2), (31, 2)] [5, 6, 7, 8, 9, 12, 13, 14, 16] (wF X' 46 4 0) X3 ∧ Off [(0, 34), (0, 36), (0, 39), (0, 3)] [10, 11, 12, 13, 14, 15, 16, 18, 19, 20, 21] (wF R' 0 12 0) R2) : Gd (C_text (d + 1) a) (R_text a) X R := by
  have tr := txt_ref ha rd hrd
  rcases ho with ⟨X', R', f1, f2, f3⟩ | ⟨l, k, X', R', g1, g2, j⟩
  · refine ⟨-1, _, _, ?_, ?_, text_fl h f3⟩
    · rw [C_text_eq d hd, h1, hX, f1, ob, if_pos (show (0 : Int32) = 0 from rfl)]
    · rw [tr, f2, ob, if_pos rfl, R_text_c69_eq, if_pos rfl]
  · obtain ⟨⟨n1, n2, n3, n4⟩, h3, hl, X2, X3, R2, m, D2, B2, L2, T2, t1, t2, t3, t4, t5, t6⟩ := hT l k X' R' j
    refine ⟨nI l, X3, R2, ?_, ?_, INV_t t4 ?_ ?_ ?_ ?_⟩
    · have e3 : rF X3 50 3 = nI l := by
        show X3.1 50 3 = _
        rw [t5.1 _ _ (by decide), wF_1, sA_ne (by decide)]; exact h3
      rw [C_text_eq d hd, h1, hX, g1, ob, if_neg (show ¬ (1 : Int32) = 0 by decide)]
      simp only []
      rw [t1, ob]
      by_cases z : a = (3 : Int32)
      · rw [if_pos z] at t2
        rw [if_pos z, Hi_forget_31_eq, ob]
        simp only []
        rw [← t2, e3]
      · rw [if_neg z] at t2
        rw [if_neg z]
        simp only []
        rw [← t2, e3]
    · rw [tr, g2, ob, if_neg (show ¬ nI l = -1 from nI_nm (by omega)), R_text_c69_eq, if_neg (show ¬ nI l = -1 from nI_nm (by omega))]
      by_cases z : a = 0
      · rw [if_pos z] at t3
        rw [if_pos z, t3, ob]
      · rw [if_neg z] at t3
        rw [if_neg z, t3, ob]
    · rw [t5.1 _ _ (by decide), wF_1, sA_eq, upd_eq]
    · rw [t6.1 _ _ (by decide), wF_1, sA_eq, upd_eq]
    · rw [t5.1 _ _ (by decide), t6.1 _ _ (by decide), wF_1, sA_ne (by decide), wF_1, sA_eq, upd_ne (by decide), n1, n3]
    · rw [t5.1 _ _ (by decide), t6.1 _ _ (by decide), wF_1, sA_ne (by decide), wF_1, sA_eq, upd_ne (by decide), n2, n4]
