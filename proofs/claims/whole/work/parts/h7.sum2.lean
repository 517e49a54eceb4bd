/-! Reading a law: sums, the loop. -/
def SOut (b : Nat → Nat) (len M k n n0 c : Nat) (L : tL) (ty : List Nat) (X R : pS) (f g : Option (Int32 × pS)) : Prop := (∃ k' n' L' X' R' t, f = some (1, X') ∧ g = some (0, R') ∧ Cx b len M k' X' ∧ Cr b len k' R' ∧ Em n' L' X' R' ∧ k ≤ k' ∧ n ≤ n' ∧ n' + c ≤ k' ∧ okRun L' n0 (n' - n0) ty = some (t :: ty) ∧ t ≠ 1 ∧ Gr n L L' ∧ Off FSu WU X X' ∧ Off GU VU R R' ∧ Sm R R') ∨ (∃ X' R', f = some (0, X') ∧ g = some (-1, R') ∧ Fl X' R' ∧ Off FU WU X X' ∧ Off GU VU R R' ∧ Sm R R')
theorem SOut_tr {b : Nat → Nat} {len M k n k1 n1 n0 c : Nat} {L L1 : tL} {ty : List Nat} {X R X1 R1 : pS} {f g : Option (Int32 × pS)} (h : SOut b len M k1 n1 n0 c L1 ty X1 R1 f g) (hk : k ≤ k1) (hn : n ≤ n1) (hg : Gr n L L1) (ox : Off FSu WU X X1) (orr : Off GU VU R R1) (sm : Sm R R1) : SOut b len M k n n0 c L ty X R f g := by
  rcases h with ⟨k', n', L', X', R', t, a1, a2, a3, a4, a5, a6, a7, a8, a9, a10, a11, a12, a13, a14⟩ | ⟨X', R', a1, a2, a3, a4, a5, a6⟩
  · exact Or.inl ⟨k', n', L', X', R', t, a1, a2, a3, a4, a5, by omega, by omega, a8, a9, a10, hg.tr a11 hn, ox.tr a12, orr.tr a13, sm.tr a14⟩
  · exact Or.inr ⟨X', R', a1, a2, a3, (oFU ox).tr a4, orr.tr a5, sm.tr a6⟩
theorem SOut_fl {b : Nat → Nat} {len M k n n0 c k1 : Nat} {L : tL} {ty : List Nat} {X R X1 R1 : pS} {f g : Option (Int32 × pS)} (e : Int32) (hx : Cx b len M k1 X1) (hr : Cr b len k1 R1) (ox : Off FSu WU X X1) (orr : Off GU VU R R1) (sm : Sm R R1) (hf : f = some (0, wF (wF X1 50 4 e) 50 5 (nI (stt b len k1)))) (hg : g = some (-1, wF (wF R1 0 30 e) 0 31 (nI (stt b len k1)))) : SOut b len M k n n0 c L ty X R f g := by
  have o : Off RF0 [] R1 (wF (wF R1 0 30 e) 0 31 (nI (stt b len k1))) := (Off.rf.wF (by decide)).wF (by decide)
  exact Or.inr ⟨_, _, hf, hg, Fl_of e hx hr, ((oFU ox).wF (by decide)).wF (by decide), orr.tr (o.mono (by decide) (by decide)), sm.tr (Sm.of o (by decide) (by decide))⟩
theorem sumL {b : Nat → Nat} {len M n0 c : Nat} {ty : List Nat} (hM : tkn b len M = 0) (hty : ty.length ≤ 29) : ∀ f p k n l L X R st, M - k < f → pOk p → Cx b len M k X → Cr b len k R → Em n L X R → n0 ≤ n → n + c + pcn p ≤ k → l ≤ k → okRun L n0 (n - n0) ty = some st → skd p ty st → SOut b len M k n n0 c L ty X R (Re_sum_50_c14 (pend p) (nI l) X) (PC p R) := by
  intro f
  induction f with
  | zero => intro p k n l L X R st h; omega
  | succ f ih =>
    intro p k n l L X R st hf hp hx hr he hn0 hc hl ho hs
    have hlt := knd_lt hr.2.2.2
    have hkM := hx.1
    have hM4 := hx.2.1
    have e7 : rF X 50 7 = nI (tkn b len k) := hx.2.2.2.1
    have ne : ∀ v : Nat, v < 11000 → tkn b len k ≠ v → ¬ nI (tkn b len k) = nI v := fun v hv z => by rw [nI_eqE (by omega) (by omega)]; exact z
    by_cases j1 : tkn b len k = 43 ∨ tkn b len k = 45
    · have hk : k < M := k_lt hM hx (by omega)
      obtain ⟨X1, R1, n1, L1, t, a1, a2, a3, a4, a5, a6, a7, a8, a9, a10, a11, a12, a13⟩ := pendE hp hx hr he hn0 hc ho hs
      obtain ⟨X2, x1, x2, x3⟩ := adv a3 hk
      obtain ⟨R2, r1, r2, r3⟩ := rds a4
      have em2 : Em n1 L1 X2 R2 := Em_off a5 x3 r3 (by decide) (by decide) (by decide) (by decide) (by decide)
      have ox2 : Off FSu WU X X2 := a11.tr (x3.mono (by decide) (by decide))
      have or2 : Off GU VU R R2 := a12.tr (r3.mono (by decide) (by decide))
      have sm2 : Sm R R2 := a13.tr (Sm.of r3 (by decide) (by decide))
      obtain ⟨p', hp', hp0, hpd⟩ : ∃ p', (p' = 2 ∨ p' = 3) ∧ (p' = 2 ↔ tkn b len k = 43) ∧ pend p' = nI (tkn b len k) := by
        rcases j1 with z | z
        · exact ⟨2, Or.inl rfl, ⟨fun _ => z, fun _ => rfl⟩, by rw [z]; rfl⟩
        · exact ⟨3, Or.inr rfl, ⟨fun y => by omega, fun y => by omega⟩, by rw [z]; rfl⟩
      have cX : Re_sum_50_c14 (pend p) (nI l) X = (Re_unit_50 0 X2).bind (fun q6 => if q6.1 = 0 then some (0, q6.2) else Re_sum_50_c14 (pend p') (nI (l + 1)) q6.2) := by
        rw [Re_sum_50_c14_eq, if_pos (show nI l < (400 : Int32) from nlt_t (n := 400) (by omega) (by omega)), e7, Re_isJoint_eq]
        have e53 : Re_sum_50_c53 (pend p) (nI l) (nI (tkn b len k)) (1 : Int32) X = (Re_unit_50 0 X2).bind (fun q6 => if q6.1 = 0 then some (0, q6.2) else Re_sum_50_c14 (pend p') (nI (l + 1)) q6.2) := by
          rw [Re_sum_50_c53_eq, if_neg (show ¬ (1 : Int32) = 0 by decide), a1, ob]
          simp only []
          rw [Re_sum_50_c67_eq, x1, ob]
          simp only []
          rw [if_neg (show ¬ nI (tkn b len k) = (47 : Int32) from ne 47 (by omega) (by omega)), Re_sum_50_c83_eq, hpd]
          refine bind_cong (fun q => ?_)
          by_cases z : q.1 = 0
          · rw [if_pos z, if_pos z]
          · rw [if_neg z, if_neg z, if_neg (show ¬ (1 : Int32) = 0 by decide), show nI l + (1 : Int32) = nI (l + 1) from nI_1 l]
        by_cases z : tkn b len k = 43
        · rw [if_pos (show nI (tkn b len k) = (43 : Int32) by rw [z]; rfl), ob, if_neg (show ¬ (1 : Int32) = 0 by decide)]
          simp only []
          rw [e7, if_pos (show nI (tkn b len k) = (43 : Int32) by rw [z]; rfl), e53]
        · rw [if_neg (show ¬ nI (tkn b len k) = (43 : Int32) from ne 43 (by omega) z), if_pos (show nI (tkn b len k) = (45 : Int32) by rw [show tkn b len k = 45 by omega]; rfl), ob, if_neg (show ¬ (1 : Int32) = 0 by decide)]
          simp only []
          rw [e7, if_neg (show ¬ nI (tkn b len k) = (43 : Int32) from ne 43 (by omega) z), if_pos (show nI (tkn b len k) = (45 : Int32) by rw [show tkn b len k = 45 by omega]; rfl), e53]
      have s42 : R_isSign (42 : Int32) R = some (0, R) := by rw [show R_isSign (42 : Int32) R = _ from isSg hr (c := 42) rfl, decide_eq_false (by omega)]; rfl
      have s47 : R_isSign (47 : Int32) R = some (0, R) := by rw [show R_isSign (47 : Int32) R = _ from isSg hr (c := 47) rfl, decide_eq_false (by omega)]; rfl
      have s43 : R_isSign (43 : Int32) R1 = some (b2i (decide (tkn b len k = 43)), R1) := isSg a4 (c := 43) rfl
      have s45 : R_isSign (45 : Int32) R1 = some (b2i (decide (tkn b len k = 45)), R1) := isSg a4 (c := 45) rfl
      have cR : PC p R = (R_readUnit R2).bind (fun q => if q.1 = (-1 : Int32) then some (-1, q.2) else PC p' q.2) := by
        unfold PC
        rw [R_readProduct_c10_eq, s42, ob, if_pos rfl]
        simp only []
        rw [s47, ob, if_pos rfl, ob, if_neg (show ¬ (0 : Int32) = -1 by decide)]
        simp only []
        rw [a2, R_readSum_c10_eq]
        have e42 : ∀ s : Int32, s = nI p' → R_readSum_c42 s R1 = (R_readUnit R2).bind (fun q => if q.1 = (-1 : Int32) then some (-1, q.2) else (R_readProduct_c10 q.2).bind (fun q => if q.1 = (-1 : Int32) then some (-1, q.2) else aftP p' q.2)) := by
          rintro s rfl
          rw [R_readSum_c42_eq, r1, ob]
          simp only []
          rw [R_readProduct_eq]
          cases R_readUnit R2 with
          | none => rfl
          | some q =>
            simp only [Option.bind_some]
            by_cases z : q.1 = (-1 : Int32)
            · rw [if_pos z, if_pos z]
              simp only [Option.bind_some, if_true]
            · rw [if_neg z, if_neg z]
              refine bind_cong (fun q5 => ?_)
              by_cases z2 : q5.1 = (-1 : Int32)
              · rw [if_pos z2, if_pos z2]
              · rw [if_neg z2, if_neg z2]
                unfold aftP
                rw [if_neg (by omega)]
        have e28 : R_readSum_c28 R1 = R_readSum_c42 (nI p') R1 := by
          rw [R_readSum_c28_eq]
          rcases j1 with z | z
          · rw [if_pos (show rF R1 0 16 = (43 : Int32) from ((knd_s a4.2.2.2 (c := 43) rfl).mpr z).2), hp0.mpr z]; rfl
          · rw [if_neg (show ¬ rF R1 0 16 = (43 : Int32) from fun y => by have := ((knd_s a4.2.2.2 (c := 45) rfl).mpr z).2; rw [show R1.1 0 16 = (43 : Int32) from y] at this; exact absurd this (by decide)), show p' = 3 by omega]; rfl
        rcases j1 with z | z
        · rw [s43, decide_eq_true z, ob, if_neg (show ¬ b2i true = 0 by decide), e28]; exact e42 _ rfl
        · rw [s43, decide_eq_false (by omega), ob, if_pos (show b2i false = 0 from rfl)]
          simp only []
          rw [s45, decide_eq_true z, ob, if_neg (show ¬ b2i true = 0 by decide), e28]; exact e42 _ rfl
      have hl2 := knd_lt r2.2.2.2
      by_cases hu : isU (tkn b len (k + 1))
      · obtain ⟨X3, R3, b1, b2, b3, b4, b5, b6, b7, b8⟩ := c80 hM x2 r2 em2 (by omega) hu
        obtain ⟨t2, u1, u2, u3⟩ := u_ok hu hl2 (ty := t :: ty) (by show ty.length + 1 < 32; omega)
        have hpc : pcn p' = 1 := by unfold pcn; rw [if_neg (by omega)]
        have := ih p' (k + 1 + 1) (n1 + 1) (l + 1) _ X3 R3 (t2 :: t :: ty) (by omega) (by unfold pOk; omega) b3 b4 b5 (by omega) (by omega) (by omega) (ok_ad (by omega) a8 u1) (by unfold skd; rw [if_neg (by omega)]; exact ⟨t2, t, rfl, u2, a9⟩)
        rw [cX, (unX x2 hl2).1 hu, b1, ob, if_neg (show ¬ (1 : Int32) = 0 by decide), cR, b2, ob, if_neg (show ¬ (0 : Int32) = -1 by decide)]
        exact SOut_tr this (by omega) (by omega) (a10.tr Gr.ad a6) (ox2.tr b6) (or2.tr b7) (sm2.tr b8)
      · refine SOut_fl 1 x2 r2 ox2 or2 sm2 ?_ ?_
        · rw [cX, (unX x2 hl2).2.1 hu, ob, if_pos rfl]
        · rw [cR, unRf r2 hu, ob, if_pos rfl]
    by_cases j2 : tkn b len k = 42 ∨ tkn b len k = 47
    · have hk : k < M := k_lt hM hx (by omega)
      obtain ⟨X1, x1, x2, x3⟩ := adv hx hk
      obtain ⟨R1, r1, r2, r3⟩ := rds hr
      have em1 : Em n L X1 R1 := Em_off he x3 r3 (by decide) (by decide) (by decide) (by decide) (by decide)
      have ox1 : Off FSu WU X X1 := x3.mono (by decide) (by decide)
      have or1 : Off GU VU R R1 := r3.mono (by decide) (by decide)
      have sm1 : Sm R R1 := Sm.of r3 (by decide) (by decide)
      have hl2 := knd_lt r2.2.2.2
      have s42 : R_isSign (42 : Int32) R = some (b2i (decide (tkn b len k = 42)), R) := isSg hr (c := 42) rfl
      have s47 : R_isSign (47 : Int32) R = some (b2i (decide (tkn b len k = 47)), R) := isSg hr (c := 47) rfl
      have cX : ∀ z : Int32, (z = if tkn b len k = 47 then 1 else 0) → Re_sum_50_c14 (pend p) (nI l) X = (Re_unit_50 z X1).bind (fun q6 => if q6.1 = 0 then some (0, q6.2) else (La_add_51 (nI (tkn b len k)) q6.2).bind (fun q7 => Re_sum_50_c14 (pend p) (nI (l + 1)) q7.2)) := by
        intro z hz
        have e53 : Re_sum_50_c53 (pend p) (nI l) (nI (tkn b len k)) (0 : Int32) X = (Re_unit_50 z X1).bind (fun q6 => if q6.1 = 0 then some (0, q6.2) else (La_add_51 (nI (tkn b len k)) q6.2).bind (fun q7 => Re_sum_50_c14 (pend p) (nI (l + 1)) q7.2)) := by
          have e83 : Re_sum_50_c83 (pend p) (nI l) (nI (tkn b len k)) (0 : Int32) z X1 = (Re_unit_50 z X1).bind (fun q6 => if q6.1 = 0 then some (0, q6.2) else (La_add_51 (nI (tkn b len k)) q6.2).bind (fun q7 => Re_sum_50_c14 (pend p) (nI (l + 1)) q7.2)) := by
            rw [Re_sum_50_c83_eq]
            refine bind_cong (fun q => ?_)
            by_cases y : q.1 = 0
            · rw [if_pos y, if_pos y]
            · rw [if_neg y, if_neg y, if_pos rfl, show nI l + (1 : Int32) = nI (l + 1) from nI_1 l]
          rw [Re_sum_50_c53_eq, if_pos rfl, Re_sum_50_c67_eq, x1, ob]
          simp only []
          by_cases y : tkn b len k = 47
          · rw [if_pos y] at hz
            rw [if_pos (show nI (tkn b len k) = (47 : Int32) by rw [y]; rfl), ← hz]; exact e83
          · rw [if_neg y] at hz
            subst hz
            rw [if_neg (show ¬ nI (tkn b len k) = (47 : Int32) from ne 47 (by omega) y)]
            exact e83
        have hj : Re_isJoint (nI (tkn b len k)) X = some (1, X) := by
          rw [Re_isJoint_eq, if_neg (show ¬ nI (tkn b len k) = (43 : Int32) from ne 43 (by omega) (by omega)), if_neg (show ¬ nI (tkn b len k) = (45 : Int32) from ne 45 (by omega) (by omega))]
          rcases j2 with y | y
          · rw [if_pos (show nI (tkn b len k) = (42 : Int32) by rw [y]; rfl)]
          · rw [if_neg (show ¬ nI (tkn b len k) = (42 : Int32) from ne 42 (by omega) (by omega)), if_pos (show nI (tkn b len k) = (47 : Int32) by rw [y]; rfl)]
        rw [Re_sum_50_c14_eq, if_pos (show nI l < (400 : Int32) from nlt_t (n := 400) (by omega) (by omega)), e7, hj, ob, if_neg (show ¬ (1 : Int32) = 0 by decide)]
        simp only []
        rw [e7, if_neg (show ¬ nI (tkn b len k) = (43 : Int32) from ne 43 (by omega) (by omega)), if_neg (show ¬ nI (tkn b len k) = (45 : Int32) from ne 45 (by omega) (by omega)), e53]
      have p28 : R_readProduct_c10 R = R_readProduct_c28 R := by
        rw [R_readProduct_c10_eq, s42, ob]
        rcases j2 with y | y
        · rw [decide_eq_true y, if_neg (show ¬ b2i true = 0 by decide)]
        · rw [decide_eq_false (by omega), if_pos (show b2i false = 0 from rfl)]
          simp only []
          rw [s47, ob, decide_eq_true y, if_neg (show ¬ b2i true = 0 by decide)]
      have good : ∀ op z : Nat, ((op = 4 ∧ tkn b len k = 42 ∧ z = 1) ∨ (op = 5 ∧ tkn b len k = 47 ∧ 1000 < tkn b len (k + 1) ∧ z = 0)) → isU (tkn b len (k + 1)) → Re_sum_50_c14 (pend p) (nI l) X = (Re_unit_50_c80 X1).bind (fun q6 => if q6.1 = 0 then some (0, q6.2) else (La_add_51 (nI (tkn b len k)) q6.2).bind (fun q7 => Re_sum_50_c14 (pend p) (nI (l + 1)) q7.2)) → R_readProduct_c28 R = R_readProduct_c74 (nI z) R1 → SOut b len M k n n0 c L ty X R (Re_sum_50_c14 (pend p) (nI l) X) (PC p R) := by
        intro op z hop hu h1 h2
        have hk1 : k + 1 < M := k_lt hM x2 (by unfold isU at hu; omega)
        obtain ⟨X2, R2, b1, b2, b3, b4, b5, b6, b7, b8⟩ := c80 hM x2 r2 em1 (by omega) hu
        obtain ⟨X3, R3, d1, d2, d3, d4, d5, d6⟩ := emt (op := op) (a := 0) b5 (by omega)
        have et : tok op 0 = tkn b len k := by rcases hop with ⟨y, y2, _⟩ | ⟨y, y2, _⟩ <;> (rw [y, y2]; rfl)
        rw [et] at d1
        have g2 : PC p R = PC p R3 := by
          unfold PC
          rw [p28, h2, R_readProduct_c74_eq, b2, ob, if_neg (show ¬ (0 : Int32) = -1 by decide)]
          simp only []
          rcases hop with ⟨y, y2, y3⟩ | ⟨y, y2, y4, y3⟩
          · rw [y3, if_neg (show ¬ nI 1 = 0 by decide), show R_emits (4 : Int32) (0 : Int32) R2 = some (0, R3) from by rw [y] at d2; exact d2, ob]
          · rw [y3, if_pos (show nI 0 = 0 from rfl), show R_emits (5 : Int32) (0 : Int32) R2 = some (0, R3) from by rw [y] at d2; exact d2, ob]
        have hsl : st.length < 32 := by
          unfold skd at hs
          by_cases y : p = 0
          · rw [if_pos y] at hs
            obtain ⟨t, rfl, _⟩ := hs
            show ty.length + 1 < 32; omega
          · rw [if_neg y] at hs
            obtain ⟨t, u, rfl, _⟩ := hs
            show ty.length + 1 + 1 < 32; omega
        obtain ⟨t2, u1, u2, u3⟩ := u_ok hu hl2 (ty := st) hsl
        have hst : ∃ st', okStep op 0 (t2 :: st) = some st' ∧ skd p ty st' := by
          have key : ∀ t r, t ≠ 1 → okStep op 0 (t2 :: t :: r) = some (0 :: r) := by
            intro t r ht
            unfold okStep
            rcases hop with ⟨y, y2, _⟩ | ⟨y, y2, y3, _⟩
            · rw [y, if_neg (by decide), if_neg (by decide), if_neg (by decide)]
              simp only []
              rw [if_pos (by decide), if_pos ⟨u2, ht⟩]
            · rw [y, if_neg (by decide), if_neg (by decide), if_neg (by decide)]
              simp only []
              rw [if_neg (by decide), if_pos trivial, if_pos ⟨u3 y3, ht⟩]
          unfold skd at hs ⊢
          by_cases y : p = 0
          · rw [if_pos y] at hs
            obtain ⟨t, rfl, ht⟩ := hs
            exact ⟨_, key t ty ht, by rw [if_pos y]; exact ⟨0, rfl, by decide⟩⟩
          · rw [if_neg y] at hs
            obtain ⟨t, u, rfl, ht, hu⟩ := hs
            exact ⟨_, key t (u :: ty) ht, by rw [if_neg y]; exact ⟨0, u, rfl, by decide, hu⟩⟩
        obtain ⟨st', w1, w2⟩ := hst
        have := ih p (k + 1 + 1) (n + 1 + 1) (l + 1) _ X3 R3 st' (by omega) hp (Cx_off b3 d4 (by decide) (by decide) (by decide) (by decide)) (Cr_off b4 d5 (by decide) (by decide) (by decide)) d3 (by omega) (by omega) (by omega) (ok_ad (by omega) (ok_ad hn0 ho u1) w1) w2
        rw [h1, b1, ob, if_neg (show ¬ (1 : Int32) = 0 by decide), d1, ob, g2]
        exact SOut_tr this (by omega) (by omega) (Gr.ad.tr Gr.ad (by omega)) ((ox1.tr b6).tr (d4.mono (by decide) (by decide))) ((or1.tr b7).tr (d5.mono (by decide) (by decide))) ((sm1.tr b8).tr d6)
      rcases j2 with y | y
      · have hz := cX 0 (by rw [if_neg (by omega)])
        have h28 : R_readProduct_c28 R = R_readProduct_c74 (nI 1) R1 := by
          rw [R_readProduct_c28_eq, s42, ob, decide_eq_true y]
          simp only []
          rw [r1, ob, if_neg (show ¬ b2i true = 0 by decide), R_readProduct_c57_eq, if_neg (show ¬ b2i true = 0 by decide)]
          rfl
        by_cases hu : isU (tkn b len (k + 1))
        · exact good 4 1 (Or.inl ⟨rfl, y, rfl⟩) hu (by rw [hz, (unX x2 hl2).1 hu]) h28
        · refine SOut_fl 1 x2 r2 ox1 or1 sm1 ?_ ?_
          · rw [hz, (unX x2 hl2).2.1 hu, ob, if_pos rfl]
          · unfold PC
            rw [p28, h28, R_readProduct_c74_eq, unRf r2 hu, ob, if_pos rfl, ob, if_pos rfl]
      · have hz := cX 1 (by rw [if_pos y])
        have h28 : R_readProduct_c28 R = if rF R1 0 15 = (3 : Int32) then R_readProduct_c57 (0 : Int32) R1 else ((R_errs (1 : Int32) R1).bind (fun q6 => some (q6.1, q6.2))) := by
          rw [R_readProduct_c28_eq, s42, ob, decide_eq_false (by omega)]
          simp only []
          rw [r1, ob, if_pos (show b2i false = 0 from rfl)]
          rfl
        have kn := knd_n r2.2.2.2
        by_cases q1 : 1000 ≤ tkn b len (k + 1)
        · rw [if_pos (show rF R1 0 15 = (3 : Int32) from kn.1.mpr q1), R_readProduct_c57_eq, if_pos rfl, show rF R1 0 16 = _ from kn.2 q1] at h28
          by_cases q2 : tkn b len (k + 1) = 1000
          · refine SOut_fl 2 x2 r2 ox1 or1 sm1 ?_ ?_
            · rw [hz, (unX x2 hl2).2.2.2.1 q2, ob, if_pos rfl]
            · unfold PC
              rw [p28, h28, if_pos (by rw [q2]; rfl), ers r2, ob, ob, if_pos rfl]
          · rw [if_neg (nI_z (by omega) (by omega))] at h28
            exact good 5 0 (Or.inr ⟨rfl, y, by omega, rfl⟩) (Or.inl q1) (by rw [hz, (unX x2 hl2).2.2.1 (by omega)]) h28
        · rw [if_neg (show ¬ rF R1 0 15 = (3 : Int32) from fun z => q1 (kn.1.mp z)), ers r2, ob] at h28
          refine SOut_fl 1 x2 r2 ox1 or1 sm1 ?_ ?_
          · rw [hz, (unX x2 hl2).2.2.2.2 (by omega), ob, if_pos rfl]
          · unfold PC
            rw [p28, h28, ob, if_pos rfl]
    · obtain ⟨X1, R1, n1, L1, t, a1, a2, a3, a4, a5, a6, a7, a8, a9, a10, a11, a12, a13⟩ := pendE hp hx hr he hn0 hc ho hs
      refine Or.inl ⟨k, n1, L1, X1, R1, t, ?_, ?_, a3, a4, a5, Nat.le_refl k, a6, a7, a8, a9, a10, a11, a12, a13⟩
      · have e110 : Re_sum_50_c110 (pend p) X = some (1, X1) := by rw [Re_sum_50_c110_eq, a1, ob]
        have hj : Re_isJoint (nI (tkn b len k)) X = some (0, X) := by
          rw [Re_isJoint_eq, if_neg (show ¬ nI (tkn b len k) = (43 : Int32) from ne 43 (by omega) (by omega)), if_neg (show ¬ nI (tkn b len k) = (45 : Int32) from ne 45 (by omega) (by omega)), if_neg (show ¬ nI (tkn b len k) = (42 : Int32) from ne 42 (by omega) (by omega)), if_neg (show ¬ nI (tkn b len k) = (47 : Int32) from ne 47 (by omega) (by omega))]
        rw [Re_sum_50_c14_eq]
        by_cases y : nI l < (400 : Int32)
        · rw [if_pos y, e7, hj, ob, if_pos rfl]; exact e110
        · rw [if_neg y]; exact e110
      · unfold PC
        rw [R_readProduct_c10_eq, show R_isSign (42 : Int32) R = _ from isSg hr (c := 42) rfl, ob, decide_eq_false (by omega), if_pos (show b2i false = 0 from rfl)]
        simp only []
        rw [show R_isSign (47 : Int32) R = _ from isSg hr (c := 47) rfl, ob, decide_eq_false (by omega), if_pos (show b2i false = 0 from rfl), ob, if_neg (show ¬ (0 : Int32) = -1 by decide)]
        simp only []
        rw [a2, R_readSum_c10_eq, show R_isSign (43 : Int32) R1 = _ from isSg a4 (c := 43) rfl, ob, decide_eq_false (by omega), if_pos (show b2i false = 0 from rfl)]
        simp only []
        rw [show R_isSign (45 : Int32) R1 = _ from isSg a4 (c := 45) rfl, ob, decide_eq_false (by omega), if_pos (show b2i false = 0 from rfl)]
