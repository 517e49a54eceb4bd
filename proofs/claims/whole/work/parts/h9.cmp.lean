/-! Reading a law: a comparison. -/
theorem cmp_s {b : Nat → Nat} {len M k n c : Nat} {L : tL} {ty : List Nat} {X R : pS} (hM : tkn b len M = 0) (hty : ty.length ≤ 28) (hx : Cx b len M k X) (hr : Cr b len k R) (he : Em n L X R) (hc : n + c ≤ k) : TOut b len M k n n c L ty X R (cmpX X) (R_readCompared R) := by
  rcases sum_s (c := c) (ty := ty) hM (by omega) hx hr he hc with ⟨k1, n1, L1, X1, R1, t, a1, a2, a3, a4, a5, a6, a7, a8, a9, a10, a11, a12, a13, a14⟩ | ⟨X1, R1, a1, a2, a3, a4, a5, a6⟩
  · have hlt := knd_lt a4.2.2.2
    have hM4 := a3.2.1
    have e7 : rF X1 50 7 = nI (tkn b len k1) := a3.2.2.2.1
    have ne : ∀ v : Nat, v < 11000 → tkn b len k1 ≠ v → ¬ nI (tkn b len k1) = nI v := fun v hv z => by rw [nI_eqE (by omega) (by omega)]; exact z
    have s60 : R_isSign (60 : Int32) R1 = some (b2i (decide (tkn b len k1 = 60)), R1) := isSg a4 (c := 60) rfl
    have s61 : R_isSign (61 : Int32) R1 = some (b2i (decide (tkn b len k1 = 61)), R1) := isSg a4 (c := 61) rfl
    have s62 : R_isSign (62 : Int32) R1 = some (b2i (decide (tkn b len k1 = 62)), R1) := isSg a4 (c := 62) rfl
    by_cases j : tkn b len k1 = 60 ∨ tkn b len k1 = 61 ∨ tkn b len k1 = 62
    · have hk : k1 < M := k_lt hM a3 (by omega)
      obtain ⟨X2, x1, x2, x3⟩ := adv a3 hk
      obtain ⟨R2, r1, r2, r3⟩ := rds a4
      have em2 : Em n1 L1 X2 R2 := Em_off a5 x3 r3 (by decide) (by decide) (by decide) (by decide) (by decide)
      have ox2 : Off FSu WU X X2 := a12.tr (x3.mono (by decide) (by decide))
      have or2 : Off GU VU R R2 := a13.tr (r3.mono (by decide) (by decide))
      have sm2 : Sm R R2 := a14.tr (Sm.of r3 (by decide) (by decide))
      obtain ⟨op, hop, eop, v16⟩ : ∃ op, (op = 6 ∨ op = 7 ∨ op = 8) ∧ tok op 0 = tkn b len k1 ∧ R_readCompared_c43 R1 = R_readCompared_c73 (nI op) R1 := by
        have v := fun (q : Nat) (hq : sgn q = true) (z : tkn b len k1 = q) => ((knd_s a4.2.2.2 hq).mpr z).2
        rcases j with z | z | z
        · exact ⟨6, Or.inl rfl, by rw [z]; rfl, by rw [R_readCompared_c43_eq, show rF R1 0 16 = nI 60 from v 60 rfl z]; rfl⟩
        · exact ⟨7, Or.inr (Or.inl rfl), by rw [z]; rfl, by rw [R_readCompared_c43_eq, show rF R1 0 16 = nI 61 from v 61 rfl z]; rfl⟩
        · exact ⟨8, Or.inr (Or.inr rfl), by rw [z]; rfl, by rw [R_readCompared_c43_eq, show rF R1 0 16 = nI 62 from v 62 rfl z]; rfl⟩
      have cX : cmpX X = (Re_sum_50 X2).bind (fun q10 => if q10.1 = 0 then (some ((0 : Int32), q10.2)) else ((La_add_51 (nI (tkn b len k1)) q10.2).bind (fun q11 => some ((1 : Int32), q11.2)))) := by
        unfold cmpX
        rw [a1, ob, if_neg (show ¬ (1 : Int32) = 0 by decide)]
        simp only []
        rw [e7, x1, ob]
        rcases j with z | z | z
        · rw [if_pos (show nI (tkn b len k1) = (60 : Int32) by rw [z]; rfl)]
        · rw [if_neg (show ¬ nI (tkn b len k1) = (60 : Int32) from ne 60 (by omega) (by omega)), if_pos (show nI (tkn b len k1) = (61 : Int32) by rw [z]; rfl)]
        · rw [if_neg (show ¬ nI (tkn b len k1) = (60 : Int32) from ne 60 (by omega) (by omega)), if_neg (show ¬ nI (tkn b len k1) = (61 : Int32) from ne 61 (by omega) (by omega)), if_pos (show nI (tkn b len k1) = (62 : Int32) by rw [z]; rfl)]
      have cR : R_readCompared R = (R_readSum R2).bind (fun q7 => if q7.1 = (-1 : Int32) then (some ((-1 : Int32), q7.2)) else ((R_emits (nI op) (0 : Int32) q7.2).bind (fun q8 => some ((0 : Int32), q8.2)))) := by
        have e43 : R_readCompared_c43 R1 = (R_readSum R2).bind (fun q7 => if q7.1 = (-1 : Int32) then (some ((-1 : Int32), q7.2)) else ((R_emits (nI op) (0 : Int32) q7.2).bind (fun q8 => some ((0 : Int32), q8.2)))) := by
          rw [v16, R_readCompared_c73_eq, r1, ob]
        rw [R_readCompared_eq, a2, ob, if_neg (show ¬ (0 : Int32) = -1 by decide)]
        simp only []
        rw [s60, ob]
        rcases j with z | z | z
        · rw [decide_eq_true z, if_neg (show ¬ b2i true = 0 by decide)]; exact e43
        · rw [decide_eq_false (by omega), if_pos (show b2i false = 0 from rfl)]
          simp only []
          rw [s61, ob, decide_eq_true z, if_neg (show ¬ b2i true = 0 by decide)]; exact e43
        · rw [decide_eq_false (by omega), if_pos (show b2i false = 0 from rfl)]
          simp only []
          rw [s61, ob, decide_eq_false (by omega), if_pos (show b2i false = 0 from rfl)]
          simp only []
          rw [s62, ob, decide_eq_true z, if_neg (show ¬ b2i true = 0 by decide)]; exact e43
      rcases sum_s (c := c + 1) (ty := t :: ty) hM (by show ty.length + 1 ≤ 29; omega) x2 r2 em2 (by omega) with ⟨k3, n3, L3, X3, R3, t3, b1, b2, b3, b4, b5, b6, b7, b8, b9, b10, b11, b12, b13, b14⟩ | ⟨X3, R3, b1, b2, b3, b4, b5, b6⟩
      · have h3 := b3.1
        obtain ⟨X4, R4, d1, d2, d3, d4, d5, d6⟩ := emt (op := op) (a := 0) b5 (by omega)
        rw [eop] at d1
        have run1 : okRun L3 n (n1 - n) ty = some (t :: ty) := by
          rw [ok_ext (L := L1) (fun i h1 h2 => ⟨b11.1 5 i (by omega), b11.1 6 i (by omega)⟩)]; exact a9
        have run2 : okRun L3 n (n3 - n) ty = some (t3 :: t :: ty) := by
          rw [show n3 - n = (n1 - n) + (n3 - n1) from by omega, ok_app run1, show n + (n1 - n) = n1 from by omega]; exact b9
        have hst : okStep op 0 (t3 :: t :: ty) = some (1 :: ty) := by
          unfold okStep
          rcases hop with z | z | z <;> (subst z; rw [if_neg (by decide), if_neg (by decide), if_neg (by decide)]; simp only []; rw [if_neg (by decide), if_neg (by decide), if_pos (by decide), if_pos ⟨b10, a10⟩])
        refine Or.inl ⟨k3, n3 + 1, _, X4, R4, ?_, ?_, Cx_off b3 d4 (by decide) (by decide) (by decide) (by decide), Cr_off b4 d5 (by decide) (by decide) (by decide), d3, by omega, by omega, by omega, ok_ad (by omega) run2 hst, (a11.tr b11 a7).tr Gr.ad (by omega), (ox2.tr b12).tr (d4.mono (by decide) (by decide)), (or2.tr b13).tr (d5.mono (by decide) (by decide)), (sm2.tr b14).tr d6⟩
        · rw [cX, b1, ob, if_neg (show ¬ (1 : Int32) = 0 by decide), d1, ob]
        · rw [cR, b2, ob, if_neg (show ¬ (0 : Int32) = -1 by decide), show R_emits (nI op) (0 : Int32) R3 = _ from d2, ob]
      · exact Or.inr ⟨X3, R3, by rw [cX, b1, ob, if_pos rfl], by rw [cR, b2, ob, if_pos rfl], b3, (oFU ox2).tr b4, or2.tr b5, sm2.tr b6⟩
    · have o : Off RF0 [] R1 (wF (wF R1 0 30 1) 0 31 (nI (stt b len k1))) := (Off.rf.wF (by decide)).wF (by decide)
      refine Or.inr ⟨_, _, ?_, ?_, Fl_of 1 a3 a4, ((oFU a12).wF (by decide)).wF (by decide), a13.tr (o.mono (by decide) (by decide)), a14.tr (Sm.of o (by decide) (by decide))⟩
      · unfold cmpX
        rw [a1, ob, if_neg (show ¬ (1 : Int32) = 0 by decide)]
        simp only []
        rw [e7, if_neg (show ¬ nI (tkn b len k1) = (60 : Int32) from ne 60 (by omega) (by omega)), if_neg (show ¬ nI (tkn b len k1) = (61 : Int32) from ne 61 (by omega) (by omega)), if_neg (show ¬ nI (tkn b len k1) = (62 : Int32) from ne 62 (by omega) (by omega)), fls a3, ob, if_pos (show pBool 1 0 = true from rfl)]
      · rw [R_readCompared_eq, a2, ob, if_neg (show ¬ (0 : Int32) = -1 by decide)]
        simp only []
        rw [s60, ob, decide_eq_false (by omega), if_pos (show b2i false = 0 from rfl)]
        simp only []
        rw [s61, ob, decide_eq_false (by omega), if_pos (show b2i false = 0 from rfl)]
        simp only []
        rw [s62, ob, decide_eq_false (by omega), if_pos (show b2i false = 0 from rfl), ers a4, ob]
  · exact Or.inr ⟨X1, R1, by unfold cmpX; rw [a1, ob, if_pos rfl], by rw [R_readCompared_eq, a2, ob, if_pos rfl], a3, a4, a5, a6⟩
