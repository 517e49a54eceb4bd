/-! Tells. -/
theorem n_eq {x y : Nat} (h1 : x / 2 = y / 2) (h2 : x % 2 = y % 2) : x = y := by omega
theorem or_m2 (x y : Nat) : (x ||| y) % 2 = if x % 2 = 1 ∨ y % 2 = 1 then 1 else 0 := by
  have h := Nat.testBit_or x y 0
  rw [Nat.testBit_zero, Nat.testBit_zero, Nat.testBit_zero] at h
  have := Nat.mod_two_eq_zero_or_one (x ||| y)
  have := Nat.mod_two_eq_zero_or_one x
  have := Nat.mod_two_eq_zero_or_one y
  by_cases a : x % 2 = 1 <;> by_cases b : y % 2 = 1 <;> simp_all
theorem and_m2 (x y : Nat) : (x &&& y) % 2 = if x % 2 = 1 ∧ y % 2 = 1 then 1 else 0 := by
  have h := Nat.testBit_and x y 0
  rw [Nat.testBit_zero, Nat.testBit_zero, Nat.testBit_zero] at h
  have := Nat.mod_two_eq_zero_or_one (x &&& y)
  have := Nat.mod_two_eq_zero_or_one x
  have := Nat.mod_two_eq_zero_or_one y
  by_cases a : x % 2 = 1 <;> by_cases b : y % 2 = 1 <;> simp_all
theorem or_d2 (x y : Nat) : (x ||| y) / 2 = x / 2 ||| y / 2 := by
  apply Nat.eq_of_testBit_eq
  intro i
  rw [Nat.testBit_or, ← Nat.testBit_succ, ← Nat.testBit_succ, ← Nat.testBit_succ, Nat.testBit_or]
theorem and_d2 (x y : Nat) : (x &&& y) / 2 = x / 2 &&& y / 2 := by
  apply Nat.eq_of_testBit_eq
  intro i
  rw [Nat.testBit_and, ← Nat.testBit_succ, ← Nat.testBit_succ, ← Nat.testBit_succ, Nat.testBit_and]
theorem or_add : ∀ (x y : Nat), x &&& y = 0 → x ||| y = x + y := by
  intro x
  induction x using Nat.strongRecOn with
  | _ x ih =>
    intro y h
    by_cases hx : x = 0
    · subst hx; rw [Nat.zero_or, Nat.zero_add]
    · have h1 := ih (x / 2) (by omega) (y / 2) (by rw [← and_d2, h])
      have h2 := and_m2 x y
      rw [h] at h2
      have h3 := or_m2 x y
      have h4 := or_d2 x y
      by_cases a : x % 2 = 1
      · by_cases b : y % 2 = 1
        · rw [if_pos ⟨a, b⟩] at h2; omega
        · rw [if_pos (Or.inl a)] at h3; omega
      · by_cases b : y % 2 = 1
        · rw [if_pos (Or.inr b)] at h3; omega
        · rw [if_neg (by omega)] at h3; omega
/-- the next number that has all of m -/
theorem nxt_le : ∀ (x y m : Nat), x ||| m = x → y ||| m = y → x < y → (x + 1) ||| m ≤ y := by
  intro x
  induction x using Nat.strongRecOn with
  | _ x ih =>
    intro y m h1 h2 h3
    have a1 := or_m2 x m
    have a2 := or_d2 x m
    have b1 := or_m2 y m
    have b2 := or_d2 y m
    rw [h1] at a1 a2
    rw [h2] at b1 b2
    have c1 := or_m2 (x + 1) m
    have c2 := or_d2 (x + 1) m
    rcases Nat.mod_two_eq_zero_or_one x with e | e
    · have hm : m % 2 = 0 := by
        rcases Nat.mod_two_eq_zero_or_one m with z | z
        · exact z
        · rw [if_pos (Or.inr z)] at a1; omega
      rw [show (x + 1) / 2 = x / 2 from by omega, ← a2] at c2
      have := Nat.mod_two_eq_zero_or_one (x + 1 ||| m)
      omega
    · have := ih (x / 2) (by omega) (y / 2) (m / 2) a2.symm b2.symm (by omega)
      rw [show (x + 1) / 2 = x / 2 + 1 from by omega] at c2
      by_cases z : m % 2 = 1
      · rw [if_pos (Or.inr z)] at b1
        have := Nat.mod_two_eq_zero_or_one (x + 1 ||| m)
        omega
      · rw [if_neg (by omega)] at c1
        omega
theorem cmp_bt {a : Nat} (ha : a < 4096) (i : Nat) : (4095 - a).testBit i = (decide (i < 12) && !a.testBit i) := by
  have := Nat.testBit_two_pow_sub_succ (n := 12) (x := a) ha i
  rw [show 2 ^ 12 - (a + 1) = 4095 - a from by omega] at this
  exact this
/-- s is of a -/
def sOf (s a : Nat) : Prop := ∀ i, s.testBit i = true → a.testBit i = true
def nxt (a s : Nat) : Nat := (s + 4096 - a) &&& a
theorem hi12 {x i : Nat} (hx : x < 4096) (hi : 12 ≤ i) : x.testBit i = false := Nat.testBit_lt_two_pow (Nat.lt_of_lt_of_le hx (Nat.pow_le_pow_right (n := 2) (by decide) hi))
theorem sOf_le {s a : Nat} (h : sOf s a) : s ≤ a := by
  have : s &&& a = s := by
    apply Nat.eq_of_testBit_eq
    intro i
    rw [Nat.testBit_and]
    cases hs : s.testBit i
    · rfl
    · rw [h i hs]; rfl
  rw [← this]
  exact Nat.and_le_right
theorem dj {s a : Nat} (ha : a < 4096) (h : sOf s a) : s ||| (4095 - a) = s + (4095 - a) := by
  apply or_add
  apply Nat.eq_of_testBit_eq
  intro i
  rw [Nat.testBit_and, cmp_bt ha, Nat.zero_testBit]
  cases hs : s.testBit i
  · rfl
  · rw [h i hs]; simp
theorem or_self2 {x m : Nat} (h : ∀ i, m.testBit i = true → x.testBit i = true) : x ||| m = x := by
  apply Nat.eq_of_testBit_eq
  intro i
  rw [Nat.testBit_or]
  cases hm : m.testBit i
  · rw [Bool.or_false]
  · rw [h i hm]; rfl
theorem nxt_ok {a s : Nat} (ha : a < 4096) (hs : sOf s a) (hlt : s < a) : sOf (nxt a s) a ∧ s < nxt a s ∧ nxt a s ≤ a ∧ ∀ u, sOf u a → s < u → nxt a s ≤ u := by
  have hsub : sOf (nxt a s) a := fun i h => by unfold nxt at h; rw [Nat.testBit_and, Bool.and_eq_true] at h; exact h.2
  have e1 := dj ha hs
  have e2 := dj ha hsub
  have sup : ∀ u, sOf u a → (u + (4095 - a)) ||| (4095 - a) = u + (4095 - a) := by
    intro u hu
    rw [← dj ha hu]
    exact or_self2 (fun i h => by rw [Nat.testBit_or, h, Bool.or_true])
  have e3 : nxt a s ||| (4095 - a) = (s + (4095 - a) + 1) ||| (4095 - a) := by
    apply Nat.eq_of_testBit_eq
    intro i
    unfold nxt
    rw [Nat.testBit_or, Nat.testBit_or, Nat.testBit_and, cmp_bt ha, show s + 4096 - a = s + (4095 - a) + 1 from by omega]
    by_cases hi : i < 12
    · rw [decide_eq_true hi]
      cases a.testBit i <;> simp
    · rw [decide_eq_false hi, hi12 ha (by omega), hi12 (x := s + (4095 - a) + 1) (by omega) (by omega)]
      rfl
  refine ⟨hsub, ?_, sOf_le hsub, fun u hu hlt2 => ?_⟩
  · have : s + (4095 - a) + 1 ≤ (s + (4095 - a) + 1) ||| (4095 - a) := Nat.left_le_or
    omega
  · have := nxt_le (s + (4095 - a)) (u + (4095 - a)) (4095 - a) (sup s hs) (sup u hu) (by omega)
    omega
theorem nxt_i {a s : Nat} (ha : a < 4096) (hlt : s < a) : (nI s - nI a) &&& nI a = nI (nxt a s) := by
  have h1 : (nI s - nI a) &&& nI 4095 = nI (s + 4096 - a) := by
    rw [pk_and (nI s - nI a) 12 (m := nI 4095) (by decide)]
    congr 1
    have : (nI s - nI a).toBitVec.toNat = 4294967296 - a + s := by
      show (BitVec.ofNat 32 s - BitVec.ofNat 32 a).toNat = _
      rw [BitVec.toNat_sub, BitVec.toNat_ofNat, BitVec.toNat_ofNat]
      omega
    rw [this]
    omega
  have h2 : nI 4095 &&& nI a = nI a := by
    rw [fa_and]
    congr 1
    apply Nat.eq_of_testBit_eq
    intro i
    rw [Nat.testBit_and]
    by_cases hi : i < 12
    · have : (4095 : Nat).testBit i = true := by
        have := Nat.testBit_two_pow_sub_one 12 i
        rw [show 2 ^ 12 - 1 = 4095 from rfl] at this
        rw [this]; exact decide_eq_true hi
      rw [this, Bool.true_and]
    · rw [hi12 ha (by omega), Bool.and_false]
  have h3 : (nI s - nI a) &&& nI a = ((nI s - nI a) &&& nI 4095) &&& nI a := by rw [Int32.and_assoc, h2]
  rw [h3, h1, fa_and]
  rfl
theorem sof_i {u a : Nat} (hu : u < 4096) (ha : a < 4096) : nI u &&& (nI a ^^^ (-1)) = 0 ↔ sOf u a := by
  constructor
  · intro h i hi
    have hi12' : i < 12 := by
      apply Classical.byContradiction
      intro z
      rw [hi12 hu (by omega)] at hi
      cases hi
    have := congrArg (fun x => bt x i) h
    simp only [b_and, b_0] at this
    rw [b_not _ (by omega), bt_nI _ (by omega), bt_nI _ (by omega), hi, Bool.true_and] at this
    cases hz : a.testBit i
    · rw [hz] at this; cases this
    · rfl
  · intro h
    apply b_ext
    intro i hi
    rw [b_and, b_not _ hi, bt_nI _ hi, bt_nI _ hi, b_0]
    cases hz : u.testBit i
    · rfl
    · rw [h i hz]; rfl
theorem aml_or (T : tL) : ∀ k i m, aml T k i m = m ||| aml T k i 0
  | 0, i, m => b_ext (fun j _ => by rw [b_or]; show bt m j = (bt m j || bt 0 j); rw [b_0, Bool.or_false])
  | k + 1, i, m => by
    show aml T k (i + 1) (match bq T i with
      | none => m
      | some b => m ||| (bit i ||| bit b)) = m ||| aml T k (i + 1) (match bq T i with
      | none => 0
      | some b => 0 ||| (bit i ||| bit b))
    cases bq T i with
    | none => exact aml_or T k (i + 1) m
    | some b =>
      simp only
      rw [aml_or T k (i + 1) (m ||| (bit i ||| bit b)), aml_or T k (i + 1) (0 ||| (bit i ||| bit b))]
      apply b_ext
      intro j _
      simp only [b_or, b_0, Bool.false_or, Bool.or_assoc]
theorem aml_low {n : Nat} {T : tL} (hT : WT n T) : ∀ k i m, i + k ≤ 12 → lowm m 12 → lowm (aml T k i m) 12 := by
  intro k i m hi hm
  refine lp_low (n := 12) (fun i m hi hm => ?_) k i m hi hm
  cases hb : bq T i with
  | none => exact hm
  | some b =>
    have := bq_lt (hT.2.1 i hi) hb
    exact low_or hm (low_or (low_bit hi (by omega)) (low_bit this (by omega)))
section
variable {n : Nat} {D : tD} {B : tB} {L T : tL} {X R : pS}
def alM (D : tD) (T : tL) (n : Nat) : Int32 := aml T 12 0 (pm D n (bt (D 7 2))) &&& (-2)
theorem known_s (hD : WD n D) (hT : WT n T) (hR : RA n D B L T R) : R_known R = some (alM D T n, R) := by
  have hn := hD.1
  have g2 : ∀ k i m, i + k = 12 → R_known_c39 m (nI i) R = some (aml T k i m &&& (-2), R) := by
    intro k
    induction k with
    | zero =>
      intro i m hi
      have : i = 12 := by omega
      subst this
      rw [R_known_c39_eq, if_neg (by decide)]; rfl
    | succ k ih =>
      intro i m hi
      rw [R_known_c39_eq, if_pos (show nI i < (12 : Int32) from nlt_t (n := 12) (by omega) (by omega)), intr_s hR.2.2.2 (by omega), ob, nI_1]
      rw [show aml T (k + 1) i m = aml T k (i + 1) (match bq T i with
        | none => m
        | some b => m ||| (bit i ||| bit b)) from rfl]
      simp only
      cases hb : bq T i with
      | none =>
        rw [if_pos (show o2i none = (-1 : Int32) from rfl)]; exact ih (i + 1) m (by omega)
      | some b =>
        have := bq_lt (hT.2.1 i (by omega)) hb
        rw [if_neg (show ¬ o2i (some b) = (-1 : Int32) from nI_ne_m1 (by omega)), intr_s hR.2.2.2 (by omega), ob, hb]
        simp only
        rw [show m ||| (1 : Int32) <<< (nI i &&& 31) ||| (1 : Int32) <<< (o2i (some b) &&& 31) = m ||| (bit i ||| bit b) from b_ext (fun j _ => by rw [b_or, b_or, b_or, b_or, Bool.or_assoc]; rfl)]
        exact ih (i + 1) _ (by omega)
  have g1 : ∀ k i m, i + k = n → R_known_c4 m (nI i) R = R_known_c39 (orl (bt (D 7 2)) (per D) k i m) 0 R := by
    intro k
    induction k with
    | zero =>
      intro i m hi
      rw [R_known_c4_eq, show rF R 0 6 = nI n from hR.1.2, if_neg (nlt_f (by omega) (by omega) (by omega))]; rfl
    | succ k ih =>
      intro i m hi
      have d0 := (hR.1.1.1 i (by omega)).1
      rw [R_known_c4_eq, show rF R 0 6 = nI n from hR.1.2, if_pos (nlt_t (by omega) (by omega)), R_kept hR.1 hn (by omega), ob, nI_1]
      rw [show orl (bt (D 7 2)) (per D) (k + 1) i m = orl (bt (D 7 2)) (per D) k (i + 1) (if bt (D 7 2) i then m ||| bit (per D i) else m) from rfl]
      simp only
      cases bt (D 7 2) i
      · rw [b2i_f, if_pos rfl, if_neg Bool.false_ne_true]; exact ih (i + 1) m (by omega)
      · rw [b2i_t, if_neg (by decide), if_pos rfl, if_pos (inb_n (by omega) (by omega)), rA_n (by omega), d0, (per_s hD (by omega : i < n)).1]
        exact ih (i + 1) _ (by omega)
  rw [R_known_eq, show R_known_c4 (0 : Int32) (0 : Int32) R = _ from g1 n 0 0 (by omega)]
  exact g2 12 0 _ rfl
end
theorem q_tells {X R : pS} (w : Int32) (h : INV X R) : Gd (C_tells w) (R_tells w) X R := by
  obtain ⟨-, -, -, -, n, D, B, L, T, hw, hX, hR, -⟩ := id h
  have hR0 := RA_off hR told0
  have hD := hw.1
  have hT := hw.2.2.2
  have w2 : C_within w (2 : Int32) X = _ := within_s w 2 (S := X)
  have i2 : R_isIn w (0 : Int32) (1 : Int32) (wF R 0 0 0) = _ := isIn_s w 2 (by omega)
  cases e : inr w 2
  · rw [e] at w2 i2
    exact Gd_of h (v := -1) (by rw [C_tells_eq, w2, ob]; rfl) Off.rf (by rw [R_tells_eq, i2, ob]; rfl) told0
  · rw [e] at w2 i2
    obtain ⟨X', l1, l2, l3⟩ := learn_s hT hX.2.2.2
    have hX' : XD 1 D X' := XD_off hX.1 l3 (fun _ _ _ => by simp) (by decide)
    have la : lowm (alM D T n) 12 := low_and (aml_low hT 12 0 _ (by omega) (pm_low hD _))
    obtain ⟨a, ha, hae⟩ := low_nI (by omega) la
    have ha : a < 4096 := ha
    have ea : (aml T 12 0 0 ||| pm D n (bt (D 7 2))) &&& (-2) = nI a := by
      rw [← hae]
      unfold alM
      rw [aml_or T 12 0 (pm D n (bt (D 7 2))), Int32.or_comm]
    have l14 : ∀ u, u < 4096 → lowm (nI u) 14 := fun u hu => low_up (low_of (n := 12) (by omega) hu) (by omega)
    obtain ⟨hd, hhd⟩ : ∃ hd : Nat → Bool, ∀ s, hd s = decide ((nI a &&& ((nI s ||| bs T (nI s)) ^^^ (-1))) = 0) := ⟨_, fun _ => rfl⟩
    have hrd : ∀ s, Ci_isHeardByAll_64 (nI s) (nI a) X' = some (b2i (hd s), X') := by
      intro s
      rw [Ci_isHeardByAll_64_eq, bsome_s l2, ob, hhd]
      simp only
      by_cases z : (nI a &&& ((nI s ||| bs T (nI s)) ^^^ (-1))) = 0
      · rw [if_pos z, decide_eq_true z]; rfl
      · rw [if_neg z, decide_eq_false z]; rfl
    have hda : hd a = true := by
      rw [hhd]
      apply decide_eq_true
      apply b_ext
      intro i hi
      rw [b_and, b_not _ hi, b_or, b_0]
      cases bt (nI a) i <;> rfl
    have c61 : ∀ (b : Int32) s, R_tells_c61 w (nI a) b (nI s) (wF R 0 0 0) = if hd s then R_tells_c27 w (nI a) (nI s) (nI (s + 1)) (wF R 0 0 0) else R_tells_c27 w (nI a) b (nI (s + 1)) (wF R 0 0 0) := by
      intro b s
      rw [R_tells_c61_eq, ball_s hT hR0.2.2.2, ob, hhd, nI_1]
      simp only
      by_cases z : (nI a &&& ((nI s ||| bs T (nI s)) ^^^ (-1))) = 0
      · rw [if_pos z, decide_eq_true z, if_pos rfl]
      · rw [if_neg z, decide_eq_false z, if_neg Bool.false_ne_true]
    have skip : ∀ k (b : Int32) u t, u + k = t → t ≤ a → (∀ v, u ≤ v → v < t → ¬ sOf v a) → R_tells_c27 w (nI a) b (nI u) (wF R 0 0 0) = R_tells_c27 w (nI a) b (nI t) (wF R 0 0 0) := by
      intro k
      induction k with
      | zero =>
        intro b u t hu _ _
        rw [show u = t from by omega]
      | succ k ih =>
        intro b u t hu ht hv
        rw [R_tells_c27_eq, if_pos (nI_le (by omega) (by omega)), if_neg (fun z => hv u (by omega) (by omega) ((sof_i (by omega) ha).mp z)), nI_1]
        exact ih b (u + 1) t (by omega) ht (fun v h1 h2 => hv v (by omega) h2)
    have fin : ∀ f, f ≤ a → R_tells_c27 w (nI a) (nI f) (nI (a + 1)) (wF R 0 0 0) = (if w = 0 then some (nI (ones (nI f) 14), wF R 0 0 0) else some (nI f, wF R 0 0 0)) := by
      intro f hf
      rw [R_tells_c27_eq, if_neg (by rw [nI_leE (by omega) (by omega)]; omega), on_low (l14 f (by omega))]
      rfl
    have go : ∀ k s i (b : Option Nat), s + k = a ∨ s + k ≥ a → s ≤ a → sOf s a → i ≤ s → (∀ f, b = some f → sOf f a) → ∃ f', f' ≤ a ∧ Ci_tellers_64_c30 (nI a) (nI (b.getD a)) (nI s) (nI i) X' = some (nI f', X') ∧ R_tells_c27 w (nI a) (o2i b) (nI s) (wF R 0 0 0) = (if w = 0 then some (nI (ones (nI f') 14), wF R 0 0 0) else some (nI f', wF R 0 0 0)) := by
      intro k
      induction k with
      | zero =>
        intro s i b hk hs hsa hi hb
        have : s = a := by omega
        subst this
        refine ⟨b.getD s, ?_, ?_, ?_⟩
        · cases b with
          | none => exact Nat.le_refl _
          | some f => exact sOf_le (hb f rfl)
        · rw [Ci_tellers_64_c30_eq, if_pos (show nI i < (4096 : Int32) from nlt_t (n := 4096) (by omega) (by omega)), if_pos rfl]
        · rw [R_tells_c27_eq, if_pos (nI_le (by omega) (by omega)), if_pos ((sof_i ha ha).mpr hsa)]
          cases b with
          | none =>
            rw [if_pos (show o2i none = (-1 : Int32) from rfl), c61, hda, if_pos rfl]
            exact fin s (Nat.le_refl _)
          | some f =>
            have hf := sOf_le (hb f rfl)
            have hle : ones (nI f) 14 ≤ ones (nI s) 14 := ones_sub (fun i z => by
              rcases Nat.lt_or_ge i 32 with q | q
              · rw [bt_nI _ q] at z ⊢; exact hb f rfl i z
              · rw [b_big q] at z; cases z) 14
            have h14 := ones_le (nI s) 14
            rw [show o2i (some f) = nI f from rfl, if_neg (nI_ne_m1 (by omega)), on_low (l14 s (by omega)), ob]
            simp only
            rw [on_low (l14 f (by omega)), ob]
            simp only
            rw [if_neg (nlt_f (by omega) (by omega) (by omega)), nI_1]
            exact fin f hf
      | succ k ih =>
        intro s i b hk hs hsa hi hb
        by_cases e : s = a
        · exact ih s i b (by omega) hs hsa hi hb
        · obtain ⟨n1, n2, n3, n4⟩ := nxt_ok ha hsa (by omega)
          have hfl : b.getD a ≤ a := by
            cases b with
            | none => exact Nat.le_refl _
            | some f => exact sOf_le (hb f rfl)
          have os := ones_le (nI s) 14
          have of' := ones_le (nI (b.getD a)) 14
          have sk : ∀ b' : Int32, R_tells_c27 w (nI a) b' (nI (s + 1)) (wF R 0 0 0) = R_tells_c27 w (nI a) b' (nI (nxt a s)) (wF R 0 0 0) := fun b' => skip (nxt a s - (s + 1)) b' (s + 1) (nxt a s) (by omega) n3 (fun v h1 h2 hv => by have := n4 v hv (by omega); omega)
          have A0 := ih (nxt a s) (i + 1) b (by omega) n3 n1 (by omega) hb
          have A1 := ih (nxt a s) (i + 1) (some s) (by omega) n3 n1 (by omega) (fun f ef => by cases ef; exact hsa)
          rw [Ci_tellers_64_c30_eq, if_pos (show nI i < (4096 : Int32) from nlt_t (n := 4096) (by omega) (by omega)), if_neg (neq_f e (by omega) (by omega)), bc_low (l14 s (by omega)), ob]
          simp only
          rw [bc_low (l14 _ (by omega)), ob]
          simp only
          rw [hrd, ob]
          simp only [Ci_tellers_64_c65_eq]
          rw [nxt_i ha (by omega), nI_1, R_tells_c27_eq, if_pos (nI_le (by omega) (by omega)), if_pos ((sof_i (by omega) ha).mpr hsa)]
          cases b with
          | none =>
            rw [if_pos (show o2i none = (-1 : Int32) from rfl), c61]
            have hlt : ones (nI s) 14 < ones (nI a) 14 := by
              refine sub_ne (fun i z => ?_) (l14 s (by omega)) (l14 a ha) (neq_f e (by omega) (by omega))
              rcases Nat.lt_or_ge i 32 with q | q
              · rw [bt_nI _ q] at z ⊢; exact hsa i z
              · rw [b_big q] at z; cases z
            have : ((none : Option Nat).getD a) = a := rfl
            rw [this] at A0 of' ⊢
            rw [if_pos (nlt_t hlt (by omega))]
            cases hd s
            · rw [b2i_f, if_pos rfl, if_neg Bool.false_ne_true, sk]; exact A0
            · rw [b2i_t, if_neg (by decide), if_pos rfl, sk]; exact A1
          | some f =>
            have : ((some f).getD a) = f := rfl
            rw [this] at A0 of' hfl ⊢
            rw [show o2i (some f) = nI f from rfl, if_neg (nI_ne_m1 (by omega)), on_low (l14 s (by omega)), ob]
            simp only
            rw [on_low (l14 f (by omega)), ob]
            simp only
            by_cases z : nI (ones (nI s) 14) < nI (ones (nI f) 14)
            · rw [if_pos z, if_pos z, c61]
              cases hd s
              · rw [b2i_f, if_pos rfl, if_neg Bool.false_ne_true, sk]; exact A0
              · rw [b2i_t, if_neg (by decide), if_pos rfl, sk]; exact A1
            · rw [if_neg z, if_neg z, nI_1, sk]; exact A0
    obtain ⟨f', hf', g1, g2⟩ := go a 0 0 none (by omega) (by omega) (fun i z => by rw [Nat.zero_testBit] at z; cases z) (by omega) (fun f ef => by cases ef)
    have tx : Ci_tellers_64 X = some (nI f', X') := by
      rw [Ci_tellers_64_eq, l1, ob]
      simp only
      rw [show rF X' 1 2 = D 7 2 from hX'.2 2 (by omega) (by omega), peop_s hD hX', ob, ea]
      exact g1
    have rx : R_tells w R = (if w = 0 then some (nI (ones (nI f') 14), wF R 0 0 0) else some (nI f', wF R 0 0 0)) := by
      rw [R_tells_eq, i2, ob]
      simp only [b2t, if_false, known_s hD hT hR0, ob]
      rw [hae]
      exact g2
    by_cases q : w = 0
    · refine Gd_of h (X' := X') ?_ (l3.mono (by simp) (by simp)) (by rw [rx, if_pos q]) told0
      rw [C_tells_eq, w2, ob]
      simp only [b2t, if_false, tx, ob]
      rw [if_pos q, bc_low (l14 f' (by omega))]; rfl
    · refine Gd_of h (X' := X') ?_ (l3.mono (by simp) (by simp)) (by rw [rx, if_neg q]) told0
      rw [C_tells_eq, w2, ob]
      simp only [b2t, if_false, tx, ob]
      rw [if_neg q]
