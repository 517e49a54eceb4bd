/-! Dated. -/
def updN (f : Nat → Nat) (k v : Nat) : Nat → Nat := fun c => if c = k then v else f c
theorem updN_at (f : Nat → Nat) (k v c : Nat) : updN f k v c = if c = k then v else f c := rfl
def edS (e1 e2 : Nat → Nat) (i : Nat) (f : Nat → Nat) : Nat → Nat := updN f (e2 i) (max (f (e2 i)) (f (e1 i)))
def rdF (e1 e2 : Nat → Nat) (m : Nat) (f : Nat → Nat) : Nat → Nat := lp (edS e1 e2) m 0 f
def itrA {α : Type} (g : α → α) : Nat → α → α
  | 0, x => x
  | k + 1, x => itrA g k (g x)
theorem itrA_i (f : Int32 → Int32) : ∀ k x, itrA f k x = itr f k x
  | 0, _ => rfl
  | k + 1, x => itrA_i f k (f x)
def erS (e1 e2 : Nat → Nat) (i : Nat) (x : Int32) : Int32 := if bt x (e1 i) then x ||| bit (e2 i) else x
def er (e1 e2 : Nat → Nat) (m : Nat) (x : Int32) : Int32 := lp (erS e1 e2) m 0 x
/-- those from v on -/
def msk (n v : Nat) (f : Nat → Nat) (x : Int32) : Prop := lowm x n ∧ ∀ c, c < n → bt x c = decide (v ≤ f c)
theorem msk_ex {n : Nat} (hn : n ≤ 32) (v : Nat) (f : Nat → Nat) : ∃ x, msk n v f x := ⟨orl (fun c => decide (v ≤ f c)) (fun c => c) n 0 0, fun i hi => by rw [orl_id hn, decide_eq_false (by omega), Bool.false_and], fun c hc => by rw [orl_id hn, decide_eq_true hc, Bool.true_and]⟩
theorem msk_s {n v : Nat} {e1 e2 : Nat → Nat} {i : Nat} {f : Nat → Nat} {x : Int32} (hn : n ≤ 32) (h1 : e1 i < n) (h2 : e2 i < n) (h : msk n v f x) : msk n v (edS e1 e2 i f) (erS e1 e2 i x) := by
  unfold edS erS
  have ha := h.2 (e1 i) h1
  have hb := h.2 (e2 i) h2
  refine ⟨?_, fun c hc => ?_⟩
  · cases bt x (e1 i)
    · exact h.1
    · exact low_or h.1 (low_bit h2 hn)
  · rw [updN_at]
    by_cases e : c = e2 i
    · rw [if_pos e, e]
      cases hz : bt x (e1 i)
      · rw [if_neg Bool.false_ne_true, hb]
        rw [hz] at ha
        have := of_decide_eq_false ha.symm
        exact decide_eq_decide.mpr (by omega)
      · rw [if_pos rfl, b_or, bt_bit (by omega), decide_eq_true rfl, Bool.or_true]
        rw [hz] at ha
        have := of_decide_eq_true ha.symm
        exact (decide_eq_true (by omega)).symm
    · rw [if_neg e]
      cases bt x (e1 i)
      · exact h.2 c hc
      · rw [if_pos rfl, b_or, bt_bit (by omega), decide_eq_false e, Bool.or_false]; exact h.2 c hc
theorem msk_lp {n v : Nat} {e1 e2 : Nat → Nat} {m : Nat} (hn : n ≤ 32) (he : ∀ i, i < m → e1 i < n ∧ e2 i < n) : ∀ k i f x, i + k ≤ m → msk n v f x → msk n v (lp (edS e1 e2) k i f) (lp (erS e1 e2) k i x)
  | 0, _, _, _, _, h => h
  | k + 1, i, f, x, hi, h => msk_lp hn he k (i + 1) _ _ (by omega) (msk_s hn (he i (by omega)).1 (he i (by omega)).2 h)
theorem msk_it {n v : Nat} {e1 e2 : Nat → Nat} {m : Nat} (hn : n ≤ 32) (he : ∀ i, i < m → e1 i < n ∧ e2 i < n) : ∀ k f x, msk n v f x → msk n v (itrA (rdF e1 e2 m) k f) (itr (er e1 e2 m) k x)
  | 0, _, _, h => h
  | k + 1, f, x, h => msk_it hn he k _ _ (msk_lp hn he m 0 f x (by omega) h)
theorem er_ok {n : Nat} {e1 e2 : Nat → Nat} {m : Nat} (hn : n ≤ 32) (he : ∀ i, i < m → e1 i < n ∧ e2 i < n) : ∀ k i x, i + k ≤ m → lowm x n → lowm (lp (erS e1 e2) k i x) n ∧ sub x (lp (erS e1 e2) k i x)
  | 0, _, _, _, h => ⟨h, sub_rf⟩
  | k + 1, i, x, hi, h => by
    have h1 : lowm (erS e1 e2 i x) n ∧ sub x (erS e1 e2 i x) := by
      unfold erS
      cases bt x (e1 i)
      · exact ⟨h, sub_rf⟩
      · exact ⟨low_or h (low_bit (he i (by omega)).2 hn), fun j hj => by rw [if_pos rfl, b_or, hj]; rfl⟩
    obtain ⟨a, b⟩ := er_ok hn he k (i + 1) _ (by omega) h1.1
    exact ⟨a, sub_tr h1.2 b⟩
theorem er_0 {e1 e2 : Nat → Nat} : ∀ k i, lp (erS e1 e2) k i 0 = 0
  | 0, _ => rfl
  | k + 1, i => by
    rw [lp, show erS e1 e2 i 0 = 0 from by unfold erS; rw [b_0]; rfl]
    exact er_0 k (i + 1)
theorem er_fix {n : Nat} {e1 e2 : Nat → Nat} {m k : Nat} {x : Int32} (hn : n ≤ 32) (he : ∀ i, i < m → e1 i < n ∧ e2 i < n) (hx : lowm x n) (hk : n ≤ k) : er e1 e2 m (itr (er e1 e2 m) k x) = itr (er e1 e2 m) k x := by
  obtain ⟨a, b⟩ := itr_fix (f := er e1 e2 m) (n := n) (fun x hx => er_ok hn he m 0 x (by omega) hx) k x hx
  rcases b with b | b
  · exact b
  · have := ones_le (itr (er e1 e2 m) k x) n
    have h0 : x = 0 := by
      apply low_ext hx low_0
      intro i hi
      rw [b_0]
      cases hz : bt x i
      · rfl
      · have : ones 0 n < ones x n := ones_sub_lt (fun j hj => by rw [b_0] at hj; cases hj) n i hi (b_0 i) hz
        omega
    subst h0
    have : itr (er e1 e2 m) k 0 = 0 := itr_stay (er_0 m 0) k
    rw [this]
    exact er_0 m 0
/-- more rounds change nothing -/
theorem rd_same {n : Nat} {e1 e2 : Nat → Nat} {m j k : Nat} (hn : n ≤ 32) (he : ∀ i, i < m → e1 i < n ∧ e2 i < n) (hj : n ≤ j) (hk : n ≤ k) (f : Nat → Nat) {c : Nat} (hc : c < n) : itrA (rdF e1 e2 m) j f c = itrA (rdF e1 e2 m) k f c := by
  have key : ∀ v, (v ≤ itrA (rdF e1 e2 m) j f c) ↔ (v ≤ itrA (rdF e1 e2 m) k f c) := by
    intro v
    obtain ⟨x, hx⟩ := msk_ex hn v f
    have a := (msk_it hn he j f x hx).2 c hc
    have b := (msk_it hn he k f x hx).2 c hc
    rw [itr_same (er_fix hn he hx.1 hj) (er_fix hn he hx.1 hk), b] at a
    exact decide_eq_decide.mp a.symm
  have h1 := (key _).mp (Nat.le_refl _)
  have h2 := (key _).mpr (Nat.le_refl _)
  omega
theorem itrA_r {α : Type} (g : α → α) : ∀ k x, itrA g (k + 1) x = g (itrA g k x)
  | 0, _ => rfl
  | k + 1, x => by rw [itrA, itrA_r g k (g x)]; rfl
/-- the bounds, in two rows -/
def Dt (n p q : Nat) (lo g : Nat → Nat) (S : pS) : Prop := ∀ c, c < n → S.2.1 p c = nI (lo c) ∧ S.2.1 q c = nI (99 - g c) ∧ lo c ≤ 99 ∧ g c ≤ 99
theorem Dt_step {n p q a b : Nat} {lo g : Nat → Nat} {S : pS} (hpq : p ≠ q) (ha : a < n) (hb : b < n) (hn : n ≤ 14) (h : Dt n p q lo g S) : Dt n p q (updN lo b (max (lo b) (lo a))) (updN g a (max (g a) (g b))) (wA (wA S p (nI b) (nI (max (lo b) (lo a)))) q (nI a) (nI (99 - max (g a) (g b)))) := by
  intro c hc
  obtain ⟨h1, h2, h3, h4⟩ := h c hc
  obtain ⟨-, -, a3, a4⟩ := h a ha
  obtain ⟨-, -, b3, b4⟩ := h b hb
  rw [wA_21 (by omega), sA_ne hpq, sA_eq, wA_21 (by omega), sA_eq, sA_ne (Ne.symm hpq), upd_at, upd_at, updN_at, updN_at]
  refine ⟨?_, ?_, ?_, ?_⟩
  · by_cases e : c = b
    · rw [if_pos e, if_pos e]
    · rw [if_neg e, if_neg e]; exact h1
  · by_cases e : c = a
    · rw [if_pos e, if_pos e]
    · rw [if_neg e, if_neg e]; exact h2
  · by_cases e : c = b
    · rw [if_pos e]; omega
    · rw [if_neg e]; exact h3
  · by_cases e : c = a
    · rw [if_pos e]; omega
    · rw [if_neg e]; exact h4
def fir (D : tD) (c : Nat) : Nat := (D 1 c).toNatClampNeg
theorem fir_s {n : Nat} {D : tD} (hD : WD n D) {c : Nat} (hc : c < n) : D 1 c = nI (fir D c) ∧ fir D c < 8 := by
  obtain ⟨-, ⟨p, hp, e⟩, -⟩ := hD.2.2.2 c hc
  unfold fir
  rw [e, nI_clamp (by omega)]
  exact ⟨rfl, hp⟩
section
variable {n : Nat} {D : tD} {B : tB} {L T : tL} {X R : pS}
theorem maxI {x y : Nat} (hx : x ≤ 99) (hy : y ≤ 99) : (if nI x < nI y then nI y else nI x) = nI (max x y) := by
  by_cases z : x < y
  · rw [if_pos (nlt_t z (by omega)), show max x y = y from by omega]
  · rw [if_neg (nlt_f z (by omega) (by omega)), show max x y = x from by omega]
theorem minI {x y : Nat} (hx : x ≤ 99) (hy : y ≤ 99) : (if nI (99 - y) < nI (99 - x) then nI (99 - y) else nI (99 - x)) = nI (99 - max x y) := by
  by_cases z : 99 - y < 99 - x
  · rw [if_pos (nlt_t z (by omega)), show max x y = y from by omega]
  · rw [if_neg (nlt_f z (by omega) (by omega)), show max x y = x from by omega]
def loI (T : tL) (D : tD) : Nat → Nat := fun c => T 2 (fir D c)
def giI (T : tL) (D : tD) : Nat → Nat := fun c => 99 - T 3 (fir D c)
/-- the class -/
theorem narrowX (hD : WD n D) (hT : WT n T) (hX : XA D B L T X) : ∃ X', Da_narrow_61 X = Da_narrow_61_c123 0 X' ∧ Dt n 62 63 (itrA (rdF (T 7) (T 8) (T 0 3)) 14 (loI T D)) (itrA (rdF (T 8) (T 7) (T 0 3)) 14 (giI T D)) X' ∧ Off [] [62, 63] X X' := by
  have hn := hD.1
  obtain ⟨h12, hq⟩ := hT.2.2.2.2.1
  have hxa : ∀ S, Off [] [62, 63] X S → XA D B L T S := fun S ho => XA_off hX (ho.mono (by simp) (by simp))
  have ini : ∀ k i (S : pS), i + k = n → Off [] [62, 63] X S → Dt i 62 63 (loI T D) (giI T D) S → ∃ S', Da_narrow_61_c2 (nI i) S = Da_narrow_61_c59 0 S' ∧ Dt n 62 63 (loI T D) (giI T D) S' ∧ Off [] [62, 63] X S' := by
    intro k
    induction k with
    | zero =>
      intro i S hi ho hd
      have : i = n := by omega
      subst this
      refine ⟨S, ?_, hd, ho⟩
      rw [Da_narrow_61_c2_eq, show rF S 1 1 = nI i from cards_1 hD (hxa S ho).1, if_neg (nlt_f (by omega) (by omega) (by omega))]
    | succ k ih =>
      intro i S hi ho hd
      have hs := hxa S ho
      obtain ⟨f1, f2⟩ := fir_s hD (by omega : i < n)
      obtain ⟨x1, x2⟩ := hs.2.2.2.2.2.2.1 (fir D i) f2
      have x1 : S.2.1 13 (fir D i) = _ := x1
      have x2 : S.2.1 14 (fir D i) = _ := x2
      obtain ⟨t2, t3⟩ := hT.2.2.1 (fir D i) f2
      rw [Da_narrow_61_c2_eq, show rF S 1 1 = nI n from cards_1 hD hs.1, if_pos (nlt_t (by omega) (by omega)), show Dr_read_1 (nI i) (1 : Int32) S = _ from read_1 (n := 0) (r := 1) hs.1 (by omega) (by omega), ob, f1]
      simp only
      rw [fstY_3 f2, ob, if_pos (inb_n (by omega) (by omega))]
      simp only
      rw [lstY_3 f2, ob, if_pos (inb_n (by omega) (by omega)), wA_21 (by omega), sA_ne (by decide), x1, x2, nI_1]
      refine ih (i + 1) _ (by omega) ((ho.wA (by decide)).wA (by decide)) (fun c hc => ?_)
      rw [wA_21 (by omega), sA_ne (by decide), sA_eq, wA_21 (by omega), sA_eq, sA_ne (by decide), upd_at, upd_at]
      by_cases e : c = i
      · rw [if_pos e, if_pos e, e]
        exact ⟨rfl, by unfold giI; rw [show 99 - (99 - T 3 (fir D i)) = T 3 (fir D i) from by omega], t2, by unfold giI; omega⟩
      · rw [if_neg e, if_neg e]; exact hd c (by omega)
  have edge : ∀ k i lo g (l1 : Int32) (S : pS), i + k = T 0 3 → Off [] [62, 63] X S → Dt n 62 63 lo g S → ∃ S', Da_narrow_61_c67 l1 (nI i) S = Da_narrow_61_c59 (l1 + 1) S' ∧ Dt n 62 63 (lp (edS (T 7) (T 8)) k i lo) (lp (edS (T 8) (T 7)) k i g) S' ∧ Off [] [62, 63] X S' := by
    intro k
    induction k with
    | zero =>
      intro i lo g l1 S hi ho hd
      refine ⟨S, ?_, hd, ho⟩
      rw [Da_narrow_61_c67_eq, show rF S 17 2 = nI (T 0 3) from (hxa S ho).2.2.2.2.2.2.2.2.1.1, if_neg (nlt_f (by omega) (by omega) (by omega))]
    | succ k ih =>
      intro i lo g l1 S hi ho hd
      have hs := hxa S ho
      have c17 : S.1 17 2 = nI (T 0 3) := hs.2.2.2.2.2.2.2.2.1.1
      obtain ⟨ha, hb⟩ := hq i (by omega)
      obtain ⟨x1, x2⟩ := hs.2.2.2.2.2.2.2.2.1.2 i (by omega)
      have t0 : Ro_at_17 (nI i) (0 : Int32) S = some (nI (T 7 i), S) := by rw [← x1]; exact at_17 (j := 0) h12 c17 (by omega) (by omega)
      have t1 : Ro_at_17 (nI i) (1 : Int32) S = some (nI (T 8 i), S) := by rw [← x2]; exact at_17 (j := 1) h12 c17 (by omega) (by omega)
      obtain ⟨a1, a2, a3, a4⟩ := hd (T 7 i) ha
      obtain ⟨b1, b2, b3, b4⟩ := hd (T 8 i) hb
      rw [Da_narrow_61_c67_eq, show rF S 17 2 = nI (T 0 3) from c17, if_pos (nlt_t (by omega) (by omega)), t0, ob]
      simp only
      rw [t1, ob]
      simp only
      rw [Da_order_61_eq, has1_s _ hD hs.1, inr_n ha (by omega), ob]
      simp only [b2t, if_false]
      rw [has1_s _ hD hs.1, inr_n hb (by omega), ob]
      simp only [b2t, if_false]
      rw [if_pos (inb_n (by omega) (by omega)), if_pos (inb_n (by omega) (by omega)), if_pos (inb_n (by omega) (by omega)), if_pos (inb_n (by omega) (by omega)), if_pos (inb_n (by omega) (by omega)), if_pos (inb_n (by omega) (by omega)), ob, rA_n (by omega), rA_n (by omega), rA_n (by omega), rA_n (by omega), a1, a2, b1, b2, maxI b3 a3, minI a4 b4, nI_1]
      exact ih (i + 1) _ _ l1 _ (by omega) ((ho.wA (by decide)).wA (by decide)) (Dt_step (by decide) ha hb hn hd)
  have rnd : ∀ k r lo g (S : pS), r + k = 14 → Off [] [62, 63] X S → Dt n 62 63 lo g S → ∃ S', Da_narrow_61_c59 (nI r) S = Da_narrow_61_c123 0 S' ∧ Dt n 62 63 (itrA (rdF (T 7) (T 8) (T 0 3)) k lo) (itrA (rdF (T 8) (T 7) (T 0 3)) k g) S' ∧ Off [] [62, 63] X S' := by
    intro k
    induction k with
    | zero =>
      intro r lo g S hr ho hd
      have : r = 14 := by omega
      subst this
      exact ⟨S, by rw [Da_narrow_61_c59_eq, if_neg (by decide)], hd, ho⟩
    | succ k ih =>
      intro r lo g S hr ho hd
      obtain ⟨S1, e1, e2, e3⟩ := edge (T 0 3) 0 lo g (nI r) S (by omega) ho hd
      obtain ⟨S2, f1, f2, f3⟩ := ih (r + 1) _ _ S1 (by omega) e3 e2
      refine ⟨S2, ?_, f2, f3⟩
      rw [Da_narrow_61_c59_eq, if_pos (show nI r < (14 : Int32) from nlt_t (n := 14) (by omega) (by omega)), show Da_narrow_61_c67 (nI r) (0 : Int32) S = _ from e1, nI_1]
      exact f1
  obtain ⟨S1, i1, i2, i3⟩ := ini n 0 X (by omega) Off.rf (fun c hc => by omega)
  obtain ⟨S2, r1, r2, r3⟩ := rnd 14 0 _ _ S1 rfl i3 i2
  refine ⟨S2, ?_, r2, r3⟩
  rw [Da_narrow_61_eq, show Da_narrow_61_c2 (0 : Int32) X = _ from i1]
  exact r1
/-- the reference -/
theorem narrowR (hD : WD n D) (hT : WT n T) (hR : RA n D B L T R) : ∃ R', R_canBeDated R = R_canBeDated_c161 0 R' ∧ Dt n 26 27 (itrA (rdF (T 7) (T 8) (T 0 3)) (n + 1) (loI T D)) (itrA (rdF (T 8) (T 7) (T 0 3)) (n + 1) (giI T D)) R' ∧ Off [] [26, 27] R R' := by
  have hn := hD.1
  obtain ⟨h12, hq⟩ := hT.2.2.2.2.1
  have hra : ∀ S, Off [] [26, 27] R S → RA n D B L T S := fun S ho => RA_off hR (ho.mono (by simp) (by simp))
  have ini : ∀ k i (S : pS), i + k = n → Off [] [26, 27] R S → Dt i 26 27 (loI T D) (giI T D) S → ∃ S', R_canBeDated_c2 (nI i) S = R_canBeDated_c55 0 S' ∧ Dt n 26 27 (loI T D) (giI T D) S' ∧ Off [] [26, 27] R S' := by
    intro k
    induction k with
    | zero =>
      intro i S hi ho hd
      have : i = n := by omega
      subst this
      refine ⟨S, ?_, hd, ho⟩
      rw [R_canBeDated_c2_eq, show rF S 0 6 = nI i from (hra S ho).1.2, if_neg (nlt_f (by omega) (by omega) (by omega))]
    | succ k ih =>
      intro i S hi ho hd
      have hs := hra S ho
      obtain ⟨f1, f2⟩ := fir_s hD (by omega : i < n)
      have d1 := (hs.1.1.1 i (by omega)).2.1
      obtain ⟨x1, x2⟩ := hs.2.2.2.2.2.1 (fir D i) f2
      obtain ⟨t2, t3⟩ := hT.2.2.1 (fir D i) f2
      rw [R_canBeDated_c2_eq, show rF S 0 6 = nI n from hs.1.2, if_pos (nlt_t (by omega) (by omega)), if_pos (inb_n (by omega) (by omega)), rA_n (by omega), d1, f1, if_pos (inb_n (by omega) (by omega)), if_pos (inb_n (by omega) (by omega)), if_pos (inb_n (by omega) (by omega)), if_pos (inb_n (by omega) (by omega)), if_pos (inb_n (by omega) (by omega)), rA_n (by omega), rA_n (by omega), x1, x2, nI_1, Int32.sub_add_cancel]
      refine ih (i + 1) _ (by omega) ((ho.wA (by decide)).wA (by decide)) (fun c hc => ?_)
      rw [wA_21 (by omega), sA_ne (by decide), sA_eq, wA_21 (by omega), sA_eq, sA_ne (by decide), upd_at, upd_at]
      by_cases e : c = i
      · rw [if_pos e, if_pos e, e]
        exact ⟨rfl, by unfold giI; rw [show 99 - (99 - T 3 (fir D i)) = T 3 (fir D i) from by omega], t2, by unfold giI; omega⟩
      · rw [if_neg e, if_neg e]; exact hd c (by omega)
  have edge : ∀ k i lo g (l1 : Int32) (S : pS), i + k = T 0 3 → Off [] [26, 27] R S → Dt n 26 27 lo g S → ∃ S', R_canBeDated_c65 l1 (nI i) S = R_canBeDated_c55 (l1 + 1) S' ∧ Dt n 26 27 (lp (edS (T 7) (T 8)) k i lo) (lp (edS (T 8) (T 7)) k i g) S' ∧ Off [] [26, 27] R S' := by
    intro k
    induction k with
    | zero =>
      intro i lo g l1 S hi ho hd
      refine ⟨S, ?_, hd, ho⟩
      rw [R_canBeDated_c65_eq, show rF S 0 43 = nI (T 0 3) from (hra S ho).2.2.2.1.2.2.2.1, if_neg (nlt_f (by omega) (by omega) (by omega))]
    | succ k ih =>
      intro i lo g l1 S hi ho hd
      have hs := hra S ho
      obtain ⟨ha, hb⟩ := hq i (by omega)
      obtain ⟨x1, x2⟩ := hs.2.2.2.2.2.2.2.1 i (by omega)
      obtain ⟨a1, a2, a3, a4⟩ := hd (T 7 i) ha
      obtain ⟨b1, b2, b3, b4⟩ := hd (T 8 i) hb
      have g1 : R_greater (nI (lo (T 8 i))) (nI (lo (T 7 i))) S = some (nI (max (lo (T 8 i)) (lo (T 7 i))), S) := by
        rw [R_greater_eq]
        by_cases z : nI (lo (T 8 i)) ≤ nI (lo (T 7 i))
        · rw [if_pos z]
          rw [nI_leE (by omega) (by omega)] at z
          rw [show max (lo (T 8 i)) (lo (T 7 i)) = lo (T 7 i) from by omega]
        · rw [if_neg z]
          rw [nI_leE (by omega) (by omega)] at z
          rw [show max (lo (T 8 i)) (lo (T 7 i)) = lo (T 8 i) from by omega]
      have g2 : ∀ S', R_lesser (nI (99 - g (T 7 i))) (nI (99 - g (T 8 i))) S' = some (nI (99 - max (g (T 7 i)) (g (T 8 i))), S') := by
        intro S'
        rw [R_lesser_eq]
        by_cases z : nI (99 - g (T 7 i)) < nI (99 - g (T 8 i))
        · rw [if_pos z]
          rw [nI_ltE (by omega) (by omega)] at z
          rw [show max (g (T 7 i)) (g (T 8 i)) = g (T 7 i) from by omega]
        · rw [if_neg z]
          rw [nI_ltE (by omega) (by omega)] at z
          rw [show max (g (T 7 i)) (g (T 8 i)) = g (T 8 i) from by omega]
      rw [R_canBeDated_c65_eq, show rF S 0 43 = nI (T 0 3) from hs.2.2.2.1.2.2.2.1, if_pos (nlt_t (by omega) (by omega))]
      simp (disch := omega) only [inb_n, if_true, rA_n, x1, x2, a1, a2, b1, b2, g1, ob, g2, nI_1]
      exact ih (i + 1) _ _ l1 _ (by omega) ((ho.wA (by decide)).wA (by decide)) (Dt_step (by decide) ha hb hn hd)
  have rnd : ∀ k r lo g (S : pS), r + k = n + 1 → Off [] [26, 27] R S → Dt n 26 27 lo g S → ∃ S', R_canBeDated_c55 (nI r) S = R_canBeDated_c161 0 S' ∧ Dt n 26 27 (itrA (rdF (T 7) (T 8) (T 0 3)) k lo) (itrA (rdF (T 8) (T 7) (T 0 3)) k g) S' ∧ Off [] [26, 27] R S' := by
    intro k
    induction k with
    | zero =>
      intro r lo g S hr ho hd
      refine ⟨S, ?_, hd, ho⟩
      rw [R_canBeDated_c55_eq, show rF S 0 6 = nI n from (hra S ho).1.2, if_neg (by rw [nI_leE (by omega) (by omega)]; omega)]
    | succ k ih =>
      intro r lo g S hr ho hd
      obtain ⟨S1, e1, e2, e3⟩ := edge (T 0 3) 0 lo g (nI r) S (by omega) ho hd
      obtain ⟨S2, f1, f2, f3⟩ := ih (r + 1) _ _ S1 (by omega) e3 e2
      refine ⟨S2, ?_, f2, f3⟩
      rw [R_canBeDated_c55_eq, show rF S 0 6 = nI n from (hra S ho).1.2, if_pos (nI_le (by omega) (by omega)), show R_canBeDated_c65 (nI r) (0 : Int32) S = _ from e1, nI_1]
      exact f1
  obtain ⟨S1, i1, i2, i3⟩ := ini n 0 R (by omega) Off.rf (fun c hc => by omega)
  obtain ⟨S2, r1, r2, r3⟩ := rnd (n + 1) 0 _ _ S1 (by omega) i3 i2
  refine ⟨S2, ?_, r2, r3⟩
  rw [R_canBeDated_eq, show R_canBeDated_c2 (0 : Int32) R = _ from i1]
  exact r1
end
theorem q_dated {X R : pS} (a w : Int32) (h : INV X R) : Gd (C_dated a w) (R_dated a w) X R := by
  obtain ⟨-, -, -, -, n, D, B, L, T, hw, hX, hR, -⟩ := id h
  have hR0 := RA_off hR told0
  have hD := hw.1
  have hT := hw.2.2.2
  have hn := hD.1
  have w1 := has1_s a hD hX.1
  have w2 : C_within w (2 : Int32) X = _ := within_s w 2 (S := X)
  have i1 := isCard_s a hR0.1
  have i2 : R_isIn w (0 : Int32) (1 : Int32) (wF R 0 0 0) = _ := isIn_s w 2 (by omega)
  cases e : inr a n
  · rw [e] at w1 i1
    exact Gd_of h (v := -1) (by rw [C_dated_eq, w1, ob]; rfl) Off.rf (by rw [R_dated_eq, i1, ob]; rfl) told0
  · rw [e] at w1 i1
    obtain ⟨c, hc, rfl⟩ := inr_t (by omega) e
    cases e2 : inr w 2
    · rw [e2] at w2 i2
      refine Gd_of h (v := -1) ?_ Off.rf ?_ told0
      · rw [C_dated_eq, w1, ob]; simp only [b2t, if_false, w2, ob, b2f, if_true]
      · rw [R_dated_eq, i1, ob]; simp only [b2t, if_false, i2, ob, b2f, if_true]
    · rw [e2] at w2 i2
      obtain ⟨X', x1, x2, x3⟩ := narrowX hD hT hX
      obtain ⟨R', r1, r2, r3⟩ := narrowR hD hT hR0
      obtain ⟨-, hq⟩ := hT.2.2.2.2.1
      have el : ∀ c, c < n → X'.2.1 62 c = R'.2.1 26 c := fun c hc => by
        rw [(x2 c hc).1, (r2 c hc).1, rd_same (by omega) (fun i hi => hq i hi) (by omega : n ≤ 14) (by omega : n ≤ n + 1) (loI T D) hc]
      have eg : ∀ c, c < n → X'.2.1 63 c = R'.2.1 27 c := fun c hc => by
        rw [(x2 c hc).2.1, (r2 c hc).2.1, rd_same (by omega) (fun i hi => ⟨(hq i hi).2, (hq i hi).1⟩) (by omega : n ≤ 14) (by omega : n ≤ n + 1) (giI T D) hc]
      have hX' : XD 1 D X' := XD_off hX.1 x3 (fun _ _ _ => by simp) (by decide)
      have hR' : RDm n D R' := RDm_off hR0.1 r3 (by simp) (by decide) (by decide) (by decide) (by decide)
      have fin : ∀ k i, i + k = n → ∃ v : Bool, Da_narrow_61_c123 (nI i) X' = some (b2i v, X') ∧ R_canBeDated_c161 (nI i) R' = some (b2i v, R') := by
        intro k
        induction k with
        | zero =>
          intro i hi
          refine ⟨true, ?_, ?_⟩
          · rw [Da_narrow_61_c123_eq, show rF X' 1 1 = nI n from cards_1 hD hX', if_neg (nlt_f (by omega) (by omega) (by omega))]; rfl
          · rw [R_canBeDated_c161_eq, show rF R' 0 6 = nI n from hR'.2, if_neg (nlt_f (by omega) (by omega) (by omega))]; rfl
        | succ k ih =>
          intro i hi
          rw [Da_narrow_61_c123_eq, show rF X' 1 1 = nI n from cards_1 hD hX', if_pos (nlt_t (by omega) (by omega)), if_pos (inb_n (by omega) (by omega)), if_pos (inb_n (by omega) (by omega)), R_canBeDated_c161_eq, show rF R' 0 6 = nI n from hR'.2, if_pos (nlt_t (by omega) (by omega)), if_pos (inb_n (by omega) (by omega)), if_pos (inb_n (by omega) (by omega)), rA_n (by omega), rA_n (by omega), rA_n (by omega), rA_n (by omega), el i (by omega), eg i (by omega), nI_1]
          by_cases q : R'.2.1 26 i ≤ R'.2.1 27 i
          · rw [if_pos q, if_pos q]; exact ih (i + 1) (by omega)
          · rw [if_neg q, if_neg q]; exact ⟨false, rfl, rfl⟩
      obtain ⟨v, v1, v2⟩ := fin n 0 (by omega)
      have cx : Da_narrow_61 X = some (b2i v, X') := x1.trans v1
      have rx : R_canBeDated (wF R 0 0 0) = some (b2i v, R') := r1.trans v2
      have oX : Off FX WX X X' := x3.mono (by simp) (by simp)
      have oR : Off FR WRs R R' := told0.tr (r3.mono (by simp) (by simp))
      cases v
      · refine Gd_of h (v := -1) (X' := X') (R' := R') ?_ oX ?_ oR
        · rw [C_dated_eq, w1, ob]; simp only [b2t, if_false, w2, ob, cx, b2f, if_true]
        · rw [R_dated_eq, i1, ob]; simp only [b2t, if_false, i2, ob, rx, b2f, if_true]
      · by_cases q : w = 0
        · refine Gd_of h (v := R'.2.1 26 c) (X' := X') (R' := R') ?_ oX ?_ oR
          · rw [C_dated_eq, w1, ob]; simp only [b2t, if_false, w2, ob, cx]
            rw [if_pos q, if_pos (inb_n (by omega) (by omega)), rA_n (by omega), el c hc]
          · rw [R_dated_eq, i1, ob]; simp only [b2t, if_false, i2, ob, rx]
            rw [if_pos q, if_pos (inb_n (by omega) (by omega)), rA_n (by omega)]
        · refine Gd_of h (v := R'.2.1 27 c) (X' := X') (R' := R') ?_ oX ?_ oR
          · rw [C_dated_eq, w1, ob]; simp only [b2t, if_false, w2, ob, cx]
            rw [if_neg q, if_pos (inb_n (by omega) (by omega)), rA_n (by omega), eg c hc]
          · rw [R_dated_eq, i1, ob]; simp only [b2t, if_false, i2, ob, rx]
            rw [if_neg q, if_pos (inb_n (by omega) (by omega)), rA_n (by omega)]
