/-! Deeds and years, called. -/
theorem k74 {D : tD} {r c : Nat} {v : Int32} (h : 7 ≠ r) : sA D r c v 7 4 = D 7 4 := by rw [sA_ne h]
theorem k74' {D : tD} {i : Nat} {v : Int32} (h : 4 ≠ i) : sA D 7 i v 7 4 = D 7 4 := by rw [sA_eq, upd_ne h]
theorem ent_le (th : Bool) (y : Int32) (B : tB) (a b c : Int32) : B.1 ≤ (ent th y B a b c).1 := by
  unfold ent
  cases th
  · rw [if_neg Bool.false_ne_true]
    by_cases h : B.1 = 150
    · rw [if_pos h]; exact Nat.le_refl _
    · rw [if_neg h]; exact Nat.le_succ _
  · rw [if_pos rfl]; exact Nat.le_refl _
theorem le_ths {L : tL} {th : Bool} {n : Nat} : ∀ k m (P : tP), P.2.1 ≤ (thsP L th n k m P).2.2.1 ∧ (thsP L th n k m P).2.1 7 4 = P.1 7 4
  | 0, _, _ => ⟨Nat.le_refl _, rfl⟩
  | k + 1, m, P => by
    rw [thsP]
    cases lst L P.1 n 0 none with
    | none => exact ⟨Nat.le_refl _, rfl⟩
    | some c =>
      obtain ⟨a, b⟩ := le_ths (L := L) (th := th) (n := n) k (m + 1) (thrP L th P c)
      refine ⟨Nat.le_trans (ent_le _ _ _ _ _ _) a, b.trans ?_⟩
      show drp P.1 c 7 4 = _
      unfold drp
      rw [sA_eq, upd_ne (by decide)]
theorem le_rng {L : tL} {th : Bool} (P : tP) (c : Nat) : P.2.1 ≤ (rngP L th P c).2.1 ∧ (rngP L th P c).1 7 4 = P.1 7 4 := by
  refine ⟨ent_le _ _ _ _ _ _, ?_⟩
  unfold rngP
  simp only
  cases ansW L th P.1 c
  · rw [if_neg Bool.false_ne_true, sA_ne (by decide), rch_7 _ _ _ (by decide)]
  · rw [if_pos rfl, sA_ne (by decide), rch_7 _ _ _ (by decide)]
theorem le_ded {L : tL} {th : Bool} {n a v : Nat} (P : tP) : P.2.1 ≤ (dedP L th n a v P).2.1 ∧ (dedP L th n a v P).1 7 4 = P.1 7 4 := by
  unfold dedP
  by_cases a0 : a = 0
  · rw [if_pos a0]; exact le_ths v 0 P
  rw [if_neg a0]
  by_cases a1 : a = 1
  · rw [if_pos a1]
    cases bst L P.1 (perQ P.1 (nI v)) n 0 none with
    | none => exact ⟨Nat.le_refl _, rfl⟩
    | some c => exact le_rng P c
  rw [if_neg a1]
  by_cases a2 : a = 2
  · rw [if_pos a2]
    refine ⟨ent_le _ _ _ _ _ _, ?_⟩
    exact k74 (D := P.1) (r := 4) (c := v) (v := 1 - P.1 4 v) (by decide)
  rw [if_neg a2]
  cases bt (P.1 7 2) v
  · rw [if_neg Bool.false_ne_true]
    refine ⟨ent_le _ _ _ _ _ _, ?_⟩
    exact (k74 (D := sA P.1 7 2 (P.1 7 2 ||| bit v)) (r := 5) (c := v) (v := 0) (by decide)).trans (k74' (D := P.1) (i := 2) (v := P.1 7 2 ||| bit v) (by decide))
  · rw [if_pos rfl]; exact ⟨Nat.le_refl _, rfl⟩
theorem le_pln {L : tL} {th : Bool} {n : Nat} {A : Nat → Nat → Nat} : ∀ k i (P : tP), P.2.1 ≤ (plnP L th n A k i P).2.1 ∧ (plnP L th n A k i P).1 7 4 = P.1 7 4
  | 0, _, _ => ⟨Nat.le_refl _, rfl⟩
  | k + 1, i, P => by
    rw [show plnP L th n A (k + 1) i P = plnP L th n A k (i + 1) (if nI (A i 0) = P.1 7 3 then dedP L th n (A i 1) (A i 2) P else P) from rfl]
    obtain ⟨a, b⟩ := le_pln (L := L) (th := th) (n := n) (A := A) k (i + 1) (if nI (A i 0) = P.1 7 3 then dedP L th n (A i 1) (A i 2) P else P)
    by_cases e : nI (A i 0) = P.1 7 3
    · rw [if_pos e] at a b ⊢
      obtain ⟨c, d⟩ := le_ded (L := L) (th := th) (n := n) (a := A i 1) (v := A i 2) P
      exact ⟨Nat.le_trans c a, b.trans d⟩
    · rw [if_neg e] at a b ⊢
      exact ⟨a, b⟩
theorem le_wnt {L : tL} {th : Bool} {n : Nat} (P : tP) : P.2.1 ≤ (wntP L th n P).2.2.1 ∧ (wntP L th n P).2.1 7 4 = P.1 7 4 + b2i (wntP L th n P).1 := by
  have e : wntD th P.1 7 4 = P.1 7 4 := by
    unfold wntD
    cases th
    · rw [if_neg Bool.false_ne_true, sA_eq, upd_ne (by decide)]
    · rfl
  unfold wntP wntP2
  cases bst L (wntD th P.1) (wrtQ (wntD th P.1) (wntT th P.1)) n 0 none with
  | none =>
    refine ⟨ent_le _ _ _ _ _ _, ?_⟩
    rw [show b2i false = 0 from rfl, Int32.add_zero]
    exact (k74' (D := wntD th P.1) (i := 6) (v := wntD th P.1 7 6 + 1) (by decide)).trans e
  | some c =>
    simp only
    cases ansW L th (wntD th P.1) c
    · rw [if_neg Bool.false_ne_true]
      refine ⟨ent_le _ _ _ _ _ _, ?_⟩
      rw [show b2i false = 0 from rfl, Int32.add_zero]
      exact (k74' (D := rchD th (wntD th P.1) c) (i := 5) (v := wntD th P.1 7 5 + 1) (by decide)).trans ((rch_7 th (wntD th P.1) c (i := 4) (by decide)).trans e)
    · rw [if_pos rfl]
      refine ⟨ent_le _ _ _ _ _ _, ?_⟩
      show sA (rchD th (wntD th P.1) c) 7 4 (wntD th P.1 7 4 + 1) 7 4 = P.1 7 4 + 1
      rw [sA_eq, upd_eq, e]
theorem le_wer {L : tL} {th : Bool} {c : Nat} (P : tP) : P.2.1 ≤ (werP L th c P).2.1 ∧ (werP L th c P).1 7 4 = P.1 7 4 := by
  unfold werP
  by_cases e : mn99 (P.1 5 c + tell L P.1 c 1) < 99
  · rw [if_pos e]
    refine ⟨Nat.le_refl _, ?_⟩
    exact k74 (D := P.1) (r := 5) (c := c) (v := mn99 (P.1 5 c + tell L P.1 c 1)) (by decide)
  · rw [if_neg e]
    refine ⟨ent_le _ _ _ _ _ _, ?_⟩
    exact (k74' (D := sA P.1 5 c (mn99 (P.1 5 c + tell L P.1 c 1))) (i := 2) (v := (sA P.1 5 c (mn99 (P.1 5 c + tell L P.1 c 1))) 7 2 &&& (bit c ^^^ (-1))) (by decide)).trans (k74 (D := P.1) (r := 5) (c := c) (v := mn99 (P.1 5 c + tell L P.1 c 1)) (by decide))
theorem le_werA {L : tL} {th : Bool} : ∀ k i (P : tP), P.2.1 ≤ (werA L th k i P).2.1 ∧ (werA L th k i P).1 7 4 = P.1 7 4
  | 0, _, _ => ⟨Nat.le_refl _, rfl⟩
  | k + 1, i, P => by
    rw [show werA L th (k + 1) i P = werA L th k (i + 1) (if bt (P.1 7 2) i then werP L th i P else P) from rfl]
    obtain ⟨a, b⟩ := le_werA (L := L) (th := th) k (i + 1) (if bt (P.1 7 2) i then werP L th i P else P)
    cases hk : bt (P.1 7 2) i
    · rw [hk] at a b
      exact ⟨a, b⟩
    · rw [hk] at a b
      obtain ⟨c, d⟩ := le_wer (L := L) (th := th) (c := i) P
      exact ⟨Nat.le_trans c a, b.trans d⟩
theorem le_yer {L : tL} {th : Bool} {n m : Nat} {A : Nat → Nat → Nat} (P : tP) : P.2.1 ≤ (yerP L th n m A P).2.2.1 ∧ (yerP L th n m A P).2.1 7 4 = P.1 7 4 + b2i (yerP L th n m A P).1 := by
  obtain ⟨a1, a2⟩ := le_pln (L := L) (th := th) (n := n) (A := A) m 0 P
  obtain ⟨b1, b2⟩ := le_wnt (L := L) (th := th) (n := n) (plnP L th n A m 0 P)
  obtain ⟨c1, c2⟩ := le_werA (L := L) (th := th) n 0 (wntP L th n (plnP L th n A m 0 P)).2
  refine ⟨Nat.le_trans a1 (Nat.le_trans b1 c1), ?_⟩
  rw [a2] at b2
  exact (k74' (D := (werA L th n 0 (wntP L th n (plnP L th n A m 0 P)).2).1) (i := 3) (v := (werA L th n 0 (wntP L th n (plnP L th n A m 0 P)).2).1 7 3 + 1) (by decide)).trans (c2.trans b2)
/-- what a deed needs, and gives -/
theorem deedI {X R : pS} {n : Nat} {D : tD} {B : tB} {L T : tL} (hcx : ConX X) (hcr : ConR R) (him : Img X R) (htp : Tap X R) (hw : Wf n D B L T) (hX : XA D B L T X) (hR : RA n D B L T R) (hH : Hst n B X R) : ∃ X1 R1, Hi_remember_31_1 (rF X 23 2) X = some (0, X1) ∧ R_keepsAhead (wF R 0 0 0) = some (0, R1) ∧ XP_25 (D, B) X1 ∧ RP false n (D, B) R1 ∧ XL 4 L X1 ∧ RLm L R1 ∧ XPl (T 0 2) (plA T) X1 ∧ RPl (T 0 2) (plA T) R1 ∧ ∀ (P' : tP) (X2 R2 : pS), XP_25 P' X2 → Off FK_25 WK_25 X1 X2 → RP false n P' R2 → Off [] WR R1 R2 → WD n P'.1 → B.1 ≤ P'.2.1 → INV X2 R2 := by
  have hR0 := RA_off hR told0
  have hH0 : Hst n B X (wF R 0 0 0) := Hst_off hH (F := []) (W := []) Off.rf (told0) (by simp) (fun _ _ _ _ => by simp) (fun _ _ _ => by simp) (by decide) (by decide)
  obtain ⟨X1, R1, a1, a2, a3, a4, a5⟩ := push hw.1 hw.2.1 hX.1 hR0.1 hR0.2.1 hH0
  have kx := offH_kp a4
  have kr0 : kpR R (wF R 0 0 0) := kpR_of (told0 (S := R)) (by decide) (by decide)
  have kr := kpR_tr kr0 (kpR_of a5 (by decide) (by decide))
  have h05 : R1.1 0 5 = 0 := by
    rw [a5.1 0 5 (by decide)]
    exact hcr.1
  have xl : XL 4 L X1 := by
    unfold XL at *
    have hx := hX.2.2.1
    unfold XL at hx
    rw [kx.1 4 8 (by decide), kx.1 4 7 (by decide), kx.2 (4 + 1) (by decide), kx.2 (4 + 2) (by decide), kx.2 (4 + 3) (by decide), kx.2 (4 + 4) (by decide), kx.2 (4 + 5) (by decide)]
    exact hx
  have xpl : XPl (T 0 2) (plA T) X1 := by
    have hx := XPl_of hX.2.2.2
    unfold XPl at *
    rw [kx.1 15 2 (by decide), kx.2 16 (by decide)]
    exact hx
  have rl : RLm L R1 := RLm_off hR0.2.2.1 a5 (fun i p q => by simp; omega)
  have rpl : RPl (T 0 2) (plA T) R1 := by
    have hx := RPl_of hR0.2.2.2
    unfold RPl at *
    rw [a5.1 0 39 (by decide), a5.2.1 21 (by decide)]
    exact hx
  have xp : XP_25 (D, B) X1 := ⟨offH_D a4 hX.1, by rw [kx.1 25 3 (by decide)]; exact hcx.1, by rw [kx.1 23 0 (by decide)]; exact hcx.2.2.2.2.1, hw.2.1, (offH_B a4 hX.2.1).1, (offH_B a4 hX.2.1).2⟩
  have rp : RP false n (D, B) R1 := by
    have := RDm_off hR0.1 a5 (by decide) (by decide) (by decide) (by decide) (by decide)
    have hb := RB_off hR0.2.1 a5 (by decide) (by decide)
    exact ⟨this, h05, hw.2.1, hb.1, hb.2⟩
  refine ⟨X1, R1, by rw [show rF X 23 2 = nI B.1 from hX.2.1.1]; exact a1, a2, xp, rp, xl, rl, xpl, rpl, fun P' X2 R2 x2 ox r2 orr wd le => ?_⟩
  refine INV_dr hcx hcr him htp (kpX_tr kx (kpX_of ox (by decide) (by decide))) (kpR_tr kr (kpR_of orr (by decide) (by decide))) r2.2.1 hX.2.2.1 hX.2.2.2 hR.2.2.1 hR.2.2.2 (n := n) (D := P'.1) (B := P'.2) ⟨wd, x2.2.2.2.1, hw.2.2⟩ x2.1 ⟨x2.2.2.2.2.1, x2.2.2.2.2.2⟩ r2.1 ⟨r2.2.2.2.1, r2.2.2.2.2⟩ (Hst_mono (Hst_off a3 ox orr (by decide) (fun o a h1 h2 => by simp; omega) (fun o h1 h2 => by simp; omega) (by decide) (by decide)) le)
theorem kw_0 {n : Nat} {D : tD} {L : tL} {p : Nat} (hn : n ≤ 14) : (kw D 0 (nI p) n = 0) ↔ bst L D (perQ D (nI p)) n 0 none = none := by
  have key : ∀ k i, (bst L D (perQ D (nI p)) k i none = none ↔ ∀ c, i ≤ c → c < i + k → perQ D (nI p) c = false) := by
    intro k
    induction k with
    | zero => exact fun i => ⟨fun _ c h1 h2 => by omega, fun _ => rfl⟩
    | succ k ih =>
      intro i
      show bst L D (perQ D (nI p)) k (i + 1) (bstS L D (perQ D (nI p)) i none) = none ↔ _
      cases hq : perQ D (nI p) i
      · rw [bstS_no hq, ih (i + 1)]
        constructor
        · intro h c h1 h2
          by_cases e : c = i
          · rw [e]; exact hq
          · exact h c (by omega) (by omega)
        · exact fun h c h1 h2 => h c (by omega) (by omega)
      · rw [bstS_0 hq]
        constructor
        · intro h
          exfalso
          have : ∀ k i b, bst L D (perQ D (nI p)) k i (some b) ≠ none := by
            intro k
            induction k with
            | zero => exact fun i b h => by cases h
            | succ k ih2 =>
              intro i b
              show bst L D (perQ D (nI p)) k (i + 1) (bstS L D (perQ D (nI p)) i (some b)) ≠ none
              cases hq2 : perQ D (nI p) i
              · rw [bstS_no hq2]; exact ih2 _ _
              · rw [bstS_1 hq2]
                by_cases e : tell L D i 0 ≤ tell L D b 0
                · rw [if_pos e]; exact ih2 _ _
                · rw [if_neg e]; exact ih2 _ _
          exact this k (i + 1) i h
        · intro h
          have := h i (by omega) (by omega)
          rw [hq] at this
          cases this
  rw [key n 0]
  constructor
  · intro h c h1 h2
    have := congrArg (fun x => bt x c) h
    simp only [b_0] at this
    rw [kw_bt (by omega), decide_eq_true (by omega), Bool.true_and] at this
    exact this
  · intro h
    apply b_ext
    intro c _
    rw [kw_bt (by omega), b_0]
    by_cases e : c < n
    · rw [show kwQ D 0 (nI p) c = perQ D (nI p) c from rfl, h c (by omega) (by omega), Bool.and_false]
    · rw [decide_eq_false e, Bool.false_and]
theorem q_ring {X R : pS} (a : Int32) (h : INV X R) : Gd (C_ring a) (R_ring a) X R := by
  obtain ⟨hcx, hcr, him, htp, n, D, B, L, T, hw, hX, hR, hH⟩ := id h
  have hR0 := RA_off hR told0
  have hn := hw.1.1
  have w : C_within a (12 : Int32) X = _ := within_s a 12 (S := X)
  cases e : inr a 12
  · rw [e] at w
    exact Gd_of h (v := -1) (by rw [C_ring_eq, w, ob]; rfl) Off.rf (by rw [R_ring_eq, isPerson_s, e, ob]; rfl) told0
  · rw [e] at w
    obtain ⟨p, hp, rfl⟩ := inr_t (by omega) e
    obtain ⟨R1, q1, q2⟩ := R_best_p (p := p) hn hw.2.2.1 (by omega) hR0.1 hR0.2.2.1
    have kwx : Dr_keptWith_1 (0 : Int32) (nI p) X = some (kw D 0 (nI p) n, X) := keptW_1 (r := 0) hw.1 hX.1 (by omega)
    cases hb : bst L D (perQ D (nI p)) n 0 none with
    | none =>
      refine Gd_of h (v := -1) (X' := X) (R' := R1) ?_ Off.rf ?_ (told0.tr (q2.mono (by simp) (by simp)))
      · rw [C_ring_eq, w, ob]
        simp only [b2t, if_false, kwx, ob]
        rw [if_pos ((kw_0 hn).mpr hb)]
      · rw [R_ring_eq, isPerson_s, e, ob]
        simp only [b2t, if_false, q1, ob]
        rw [hb]
        rfl
    | some c =>
      have hc := (bst_some (n := n) (by omega) (fun c e => by cases e) c hb).1
      -- the state at which the reference puts aside
      have oR1 : Off FR WRs R R1 := told0.tr (q2.mono (by simp) (by simp))
      have hINV1 : INV X R1 := INV_off h Off.rf oR1
      have hR1 := RA_off hR oR1
      have hcr1 : ConR R1 := ConR_off hcr oR1 (by decide) (by decide)
      have him1 : Img X R1 := Img_off him (F := []) (W := []) Off.rf oR1 (by simp) (fun _ _ _ => by simp) (fun _ _ _ => by simp) (by decide) (by decide)
      have htp1 : Tap X R1 := Tap_off htp (F := []) (W := []) Off.rf oR1 (by simp) (by simp) (by decide) (by decide)
      have hH1 : Hst n B X R1 := Hst_off hH (F := []) (W := []) Off.rf oR1 (by simp) (fun _ _ _ _ => by simp) (fun _ _ _ => by simp) (by decide) (by decide)
      have e00 : wF R1 0 0 0 = R1 := by
        have : R1.1 0 0 = 0 := by
          rw [q2.1 0 0 (by simp), wF_1, sA_eq, upd_eq]
        refine Prod.ext (funext fun i => ?_) rfl
        rw [wF_1, sA_row]
        by_cases z : i = 0
        · subst z
          rw [if_pos rfl]
          funext k
          rw [upd_at]
          by_cases z2 : k = 0
          · rw [if_pos z2, z2, this]
          · rw [if_neg z2]
        · rw [if_neg z]
      obtain ⟨X2, R2, b1, b2, b3, b4, b5, b6, -, -, b9⟩ := deedI hcx hcr1 him1 htp1 hw hX hR1 hH1
      rw [e00] at b2
      obtain ⟨X3, c1, c2, c3⟩ := ringS_25 (p := p) hw.1 hw.2.2.1 b3 b5 hb
      obtain ⟨R3, d1, d2, d3⟩ := R_ringP (p := p) hn hw.2.2.1 (by omega) b4 b6 hb
      refine ⟨b2i (ansW L false D c), X3, R3, ?_, ?_, b9 _ X3 R3 c2 c3 d2 d3 (WD_rng hw.1) (le_rng (D, B) c).1⟩
      · rw [C_ring_eq, w, ob]
        simp only [b2t, if_false, kwx, ob]
        rw [if_neg (fun z => by rw [(kw_0 (L := L) hn).mp z] at hb; cases hb), b1, ob]
        simp only
        rw [c1]; rfl
      · rw [R_ring_eq, isPerson_s, e, ob]
        simp only [b2t, if_false, q1, ob]
        rw [hb, if_neg (show ¬ o2i (some c) = (-1 : Int32) from nI_ne_m1 (by omega)), b2, ob]
        simp only
        rw [d1]; rfl
theorem q_toss {X R : pS} (a : Int32) (h : INV X R) : Gd (C_toss a) (R_toss a) X R := by
  obtain ⟨hcx, hcr, him, htp, n, D, B, L, T, hw, hX, hR, hH⟩ := id h
  have hn := hw.1.1
  obtain ⟨X1, R1, b1, b2, b3, b4, b5, b6, -, -, b9⟩ := deedI hcx hcr him htp hw hX hR hH
  rw [show Gd (C_toss a) (R_toss a) X R = ∃ r X' R', C_toss a X = some (r, X') ∧ R_toss a R = some (r, R') ∧ INV X' R' from rfl, C_toss_eq, R_toss_eq, R_isIn_eq]
  by_cases z1 : a < 1
  · rw [if_pos z1, if_pos z1, ob]
    exact ⟨-1, X, wF R 0 0 0, rfl, rfl, INV_off h Off.rf told0⟩
  · rw [if_neg z1, if_neg z1]
    by_cases z2 : a ≤ 14
    · rw [if_pos z2, if_pos z2, ob]
      simp only
      rw [if_neg (show ¬ (1 : Int32) = 0 by decide)]
      have h0 : ¬ a < 0 := fun z => z1 (by
        rw [fa_lt] at z ⊢
        have h0 : (0 : Int32).toInt = 0 := rfl
        have h1 : (1 : Int32).toInt = 1 := rfl
        omega)
      obtain ⟨v, hv, rfl⟩ := nI_of2 (n := 14) (M := 14) rfl h0 z2
      obtain ⟨X3, c1, c2, c3⟩ := thr_25 (v := v) hw.2.2.1 (by omega) hw.1 b3 b5
      obtain ⟨R3, d1, d2, d3⟩ := R_throwP (v := v) hn hw.2.2.1 (by omega) b4 b6
      refine ⟨nI (thsP L false n v 0 (D, B)).1, X3, R3, ?_, ?_, b9 _ X3 R3 c2 c3 d2 d3 (WD_ths hw.1) (le_ths v 0 (D, B)).1⟩
      · rw [b1, ob]
        simp only
        rw [c1]; rfl
      · rw [b2, ob]
        simp only
        rw [d1]; rfl
    · rw [if_neg z2, if_neg z2, ob]
      exact ⟨-1, X, wF R 0 0 0, rfl, rfl, INV_off h Off.rf told0⟩
theorem q_does {X R : pS} (a f : Int32) (h : INV X R) : Gd (C_does a f) (R_does a f) X R := by
  obtain ⟨hcx, hcr, him, htp, n, D, B, L, T, hw, hX, hR, hH⟩ := id h
  have hn := hw.1.1
  have hR0 := RA_off hR told0
  have w1 := has1_s a hw.1 hX.1
  have i1 := isCard_s a hR0.1
  cases e : inr a n
  · rw [e] at w1 i1
    exact Gd_of h (v := 0) (by rw [C_does_eq, w1, ob]; rfl) Off.rf (by rw [R_does_eq, i1, ob]; rfl) told0
  · rw [e] at w1 i1
    obtain ⟨c, hc, rfl⟩ := inr_t (by omega) e
    obtain ⟨X1, R1, b1, b2, b3, b4, b5, b6, -, -, b9⟩ := deedI hcx hcr him htp hw hX hR hH
    by_cases q : f = 0
    · obtain ⟨X3, c1, c2, c3⟩ := bend_25 (c := c) (by omega) b3
      obtain ⟨R3, d1, d2, d3⟩ := R_bendP (c := c) hn hc b4
      refine ⟨1, X3, R3, ?_, ?_, b9 _ X3 R3 c2 c3 d2 d3 (WD_up hw.1 (by omega) (by omega)) (ent_le _ _ _ _ _ _)⟩
      · rw [C_does_eq, w1, ob]
        simp only [b2t, if_false]
        rw [if_pos q, C_does_c28_eq, b1, ob, if_pos q, c1]; rfl
      · rw [R_does_eq, i1, ob]
        simp only [b2t, if_false]
        rw [if_pos q, R_does_c27_eq, b2, ob, if_pos q, d1]; rfl
    · cases hk : bt (D 7 2) c
      · obtain ⟨X3, c1, c2, c3⟩ := find_25 (c := c) (by omega) hk b3
        obtain ⟨R3, d1, d2, d3⟩ := R_findP (c := c) hn hc b4
        refine ⟨1, X3, R3, ?_, ?_, b9 _ X3 R3 c2 c3 d2 d3 (WD_fnd (P := (D, B)) hw.1 hc) (ent_le _ _ _ _ _ _)⟩
        · rw [C_does_eq, w1, ob]
          simp only [b2t, if_false]
          rw [if_neg q, kept_1 hX.1 (by omega), hk, ob]
          simp only [b2f, if_true]
          rw [C_does_c28_eq, b1, ob, if_neg q, c1]; rfl
        · rw [R_does_eq, i1, ob]
          simp only [b2t, if_false]
          rw [if_neg q, R_kept hR0.1 hn hc, hk, ob]
          simp only [b2f, if_true]
          rw [R_does_c27_eq, b2, ob, if_neg q, d1]; rfl
      · refine Gd_of h (v := 0) ?_ Off.rf ?_ told0
        · rw [C_does_eq, w1, ob]
          simp only [b2t, if_false]
          rw [if_neg q, kept_1 hX.1 (by omega), hk, ob]
          simp only [b2t, if_false]
        · rw [R_does_eq, i1, ob]
          simp only [b2t, if_false]
          rw [if_neg q, R_kept hR0.1 hn hc, hk, ob]
          simp only [b2t, if_false]
