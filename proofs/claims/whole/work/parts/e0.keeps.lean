/-! Keeps: the set of cards by which most questions find one. -/
theorem hiN {x i k : Nat} (hx : x < 2 ^ k) (hi : k ≤ i) : x.testBit i = false := Nat.testBit_lt_two_pow (Nat.lt_of_lt_of_le hx (Nat.pow_le_pow_right (n := 2) (by decide) hi))
theorem sof_j {u a : Nat} (hu : u < 2147483648) : nI u &&& (nI a ^^^ (-1)) = 0 ↔ sOf u a := by
  constructor
  · intro h i hi
    have hi31 : i < 31 := by
      apply Classical.byContradiction
      intro z
      rw [hiN (k := 31) hu (by omega)] at hi
      cases hi
    have := congrArg (fun x => bt x i) h
    simp only [b_and, b_0] at this
    rw [b_not _ (by omega), bt_nI _ (by omega), bt_nI _ (by omega), hi, Bool.true_and] at this
    cases hz : a.testBit i
    · rw [hz] at this; cases this
    · rfl
  · intro h
    apply b_ext
    intro i hi
    rw [b_and, b_not _ hi, bt_nI _ hi, bt_nI _ hi, b_0]
    cases hz : u.testBit i
    · rfl
    · rw [h i hz]; rfl
/-- M are the questions for which S has a card -/
def FM (D : tD) (T : tL) (n S M : Nat) : Prop := ∀ i, M.testBit i = true ↔ (i < T 0 4 ∧ ∃ c, c < n ∧ S.testBit c = true ∧ D (T 9 i) c = nI (T 10 i))
theorem FM_lt {D : tD} {T : tL} {n S M : Nat} (h : FM D T n S M) : M < 2 ^ (T 0 4) := by
  apply Nat.lt_pow_two_of_testBit
  intro i hi
  cases hb : M.testBit i
  · rfl
  · have := ((h i).mp hb).1; omega
theorem FM_one {D : tD} {T : tL} {n S M M' : Nat} (h : FM D T n S M) (h' : FM D T n S M') : M = M' := by
  apply Nat.eq_of_testBit_eq
  intro i
  rw [Bool.eq_iff_iff, h i, h' i]
theorem mk_bits (p : Nat → Bool) : ∀ m, ∃ M, M < 2 ^ m ∧ ∀ i, M.testBit i = (decide (i < m) && p i)
  | 0 => ⟨0, by decide, fun i => by rw [Nat.zero_testBit]; simp⟩
  | m + 1 => by
    obtain ⟨M, h1, h2⟩ := mk_bits p m
    cases hp : p m
    · refine ⟨M, by rw [Nat.pow_succ]; omega, fun i => ?_⟩
      rw [h2 i]
      by_cases e : i = m
      · subst e; rw [hp]; simp
      · congr 1
        exact decide_eq_decide.mpr (by omega)
    · refine ⟨2 ^ m + M, by rw [Nat.pow_succ]; omega, fun i => ?_⟩
      have e0 := Nat.two_pow_add_eq_or_of_lt h1 1
      rw [Nat.mul_one] at e0
      rw [e0, Nat.testBit_or, Nat.testBit_two_pow, h2 i]
      by_cases e : i = m
      · subst e; rw [hp]; simp
      · rw [decide_eq_false (fun z => e z.symm), Bool.false_or]
        congr 1
        exact decide_eq_decide.mpr (by omega)
theorem FM_ex (D : tD) (T : tL) (n S : Nat) : ∃ M, FM D T n S M := by
  obtain ⟨M, h1, h2⟩ := mk_bits (fun i => (List.range n).any (fun c => S.testBit c && decide (D (T 9 i) c = nI (T 10 i)))) (T 0 4)
  refine ⟨M, fun i => ?_⟩
  rw [h2 i, Bool.and_eq_true, decide_eq_true_eq, List.any_eq_true]
  constructor
  · rintro ⟨a, c, c1, c2⟩
    rw [List.mem_range] at c1
    rw [Bool.and_eq_true, decide_eq_true_eq] at c2
    exact ⟨a, c, c1, c2.1, c2.2⟩
  · rintro ⟨a, c, c1, c2, c3⟩
    exact ⟨a, c, by rw [List.mem_range]; exact c1, by rw [c2, decide_eq_true c3]; rfl⟩
theorem cnt_pos {p : Nat → Bool} : ∀ k i, 0 < cnt p k i 0 ↔ ∃ c, i ≤ c ∧ c < i + k ∧ p c = true
  | 0, i => ⟨fun h => absurd h (by show ¬ 0 < 0; omega), fun ⟨c, h1, h2, _⟩ => by omega⟩
  | k + 1, i => by
    rw [cnt_s, cnt_add]
    have ih := cnt_pos (p := p) k (i + 1)
    constructor
    · intro h
      cases hp : p i
      · rw [hp, if_neg Bool.false_ne_true, Nat.zero_add] at h
        obtain ⟨c, h1, h2, h3⟩ := ih.mp h
        exact ⟨c, by omega, by omega, h3⟩
      · exact ⟨i, Nat.le_refl _, by omega, hp⟩
    · rintro ⟨c, h1, h2, h3⟩
      by_cases e : c = i
      · subst e
        rw [h3, if_pos rfl]; omega
      · have := ih.mpr ⟨c, by omega, by omega, h3⟩
        omega
/-- more found, or as many by fewer cards, or by the lesser of such -/
def bet (f o s f' o' s' : Nat) : Prop := f' < f ∨ (f = f' ∧ (o < o' ∨ (o = o' ∧ s < s')))
def les (s s' : Nat) : Prop := onesN s 14 < onesN s' 14 ∨ (onesN s 14 = onesN s' 14 ∧ s < s')
section
variable {n : Nat} {D : tD} {B : tB} {L T : tL} {X R : pS}
theorem low14 {s : Nat} (h : s < 16384) : lowm (nI s) 14 := low_of (n := 14) (by omega) h
theorem bcn {s : Nat} (h : s < 16384) {S : pS} : J_bitCount (nI s) S = some (nI (onesN s 14), S) := bc_n h
theorem onn {s : Nat} (h : s < 16384) {S : pS} : R_onesOf (nI s) S = some (nI (onesN s 14), S) := by rw [on_low (low14 h), ones_nI s 14 (by omega)]
theorem onesN_le (s : Nat) : ∀ k, onesN s k ≤ k
  | 0 => Nat.le_refl _
  | k + 1 => by
    have := onesN_le s k
    rw [onesN]
    by_cases h : s.testBit k = true
    · rw [if_pos h]; omega
    · rw [if_neg h]; omega
/-- by how many the reference says that questions are found -/
theorem found_s (hD : WD n D) (hT : WT n T) (hR : RA n D B L T R) {S M : Nat} (hS : S < 16384) (hM : FM D T n S M) : R_foundBy (nI S) R = some (nI (onesN M (T 0 4)), R) := by
  obtain ⟨h10, hq⟩ := hT.2.2.2.2.2.1
  have hn := hD.1
  have r0 : R.1 0 49 = nI (T 0 4) := hR.2.2.2.1.2.2.2.2.1
  have go : ∀ j k, k + j = T 0 4 → R_foundBy_c4 (nI S) (nI (onesN M k)) (nI k) R = some (nI (onesN M (T 0 4)), R) := by
    intro j
    induction j with
    | zero =>
      intro k hk
      rw [R_foundBy_c4_eq, show rF R 0 49 = nI (T 0 4) from r0, if_neg (nlt_f (by omega) (by omega) (by omega)), show k = T 0 4 from by omega]
    | succ j ih =>
      intro k hk
      have c14 := cnt_le (fun c => bt (nI S) c && decide (D (T 9 k) c = nI (T 10 k))) n 0 0
      have key : 0 < cnt (fun c => bt (nI S) c && decide (D (T 9 k) c = nI (T 10 k))) n 0 0 ↔ M.testBit k = true := by
        rw [cnt_pos, hM k]
        constructor
        · rintro ⟨c, h1, h2, h3⟩
          rw [Bool.and_eq_true, decide_eq_true_eq, bt_nI _ (by omega)] at h3
          exact ⟨by omega, c, by omega, h3.1, h3.2⟩
        · rintro ⟨h0, c, h1, h2, h3⟩
          exact ⟨c, by omega, by omega, by rw [bt_nI _ (by omega), h2, decide_eq_true h3]; rfl⟩
      have ihk := ih (k + 1) (by omega)
      rw [onesN] at ihk
      rw [R_foundBy_c4_eq, show rF R 0 49 = nI (T 0 4) from r0, if_pos (nlt_t (by omega) (by omega)), R_ans hD hT hR _ (by omega), ob, nI_1, nI_1]
      simp only
      by_cases z : M.testBit k = true
      · rw [if_neg (show ¬ nI _ ≤ 0 from nI_nle (key.mpr z) (by omega))]
        rw [if_pos z] at ihk
        exact ihk
      · have : cnt (fun c => bt (nI S) c && decide (D (T 9 k) c = nI (T 10 k))) n 0 0 = 0 := by
          apply Classical.byContradiction
          intro q
          exact z (key.mp (by omega))
        rw [this, if_pos (show nI 0 ≤ 0 by decide)]
        rw [if_neg z, Nat.add_zero] at ihk
        exact ihk
  rw [R_foundBy_eq]
  exact go (T 0 4) 0 (by omega)
theorem onesN_hi {s m : Nat} (h : s < 2 ^ m) : ∀ k, onesN s (m + k) = onesN s m
  | 0 => rfl
  | k + 1 => by rw [Nat.add_succ, onesN, hiN h (by omega), onesN_hi h k]; rfl
/-- what is best: of sets of kept cards, k at most -/
def Opt (D : tD) (T : tL) (n a k lim f S : Nat) : Prop := (S < 16384 ∧ sOf S a ∧ onesN S 14 ≤ k ∧ ∃ M, FM D T n S M ∧ f = onesN M (T 0 4)) ∧ ∀ S' M', S' < lim → sOf S' a → onesN S' 14 ≤ k → FM D T n S' M' → ¬ bet (onesN M' (T 0 4)) (onesN S' 14) S' f (onesN S 14) S
theorem Opt_one {a k f f' S S' : Nat} (h : Opt D T n a k 16384 f S) (h' : Opt D T n a k 16384 f' S') : f = f' ∧ S = S' := by
  obtain ⟨⟨a1, a2, a3, M, a4, a5⟩, a6⟩ := h
  obtain ⟨⟨b1, b2, b3, M', b4, b5⟩, b6⟩ := h'
  have z1 := a6 S' M' b1 b2 b3 b4
  have z2 := b6 S M a1 a2 a3 a4
  unfold bet at z1 z2
  omega
theorem sOf_0 {a : Nat} : sOf 0 a := fun i z => by rw [Nat.zero_testBit] at z; cases z
theorem FM_0 : FM D T n 0 0 := fun i => by
  rw [Nat.zero_testBit]
  constructor
  · intro h; cases h
  · rintro ⟨-, c, -, h, -⟩
    rw [Nat.zero_testBit] at h
    cases h
theorem onesN_z : ∀ k, onesN 0 k = 0 := onesN_0
theorem keepsR (hD : WD n D) (hT : WT n T) (hR : RA n D B L T R) {a k : Nat} (ha : a < 16384) (hk : k ≤ 14) {w : Int32} : ∃ f S, Opt D T n a k 16384 f S ∧ f ≤ 10 ∧ R_keeps_c42 (nI k) w (nI a) 0 0 1 R = (if w = 0 then some (nI f, R) else some (nI S, R)) := by
  obtain ⟨h10, hq⟩ := hT.2.2.2.2.2.1
  have go : ∀ j s f S, s + j = a + 1 ∨ (a < s ∧ j = 0) → S < s → s ≤ 16384 → f ≤ 10 → Opt D T n a k s f S → ∃ f' S', Opt D T n a k 16384 f' S' ∧ f' ≤ 10 ∧ R_keeps_c42 (nI k) w (nI a) (nI S) (nI f) (nI s) R = (if w = 0 then some (nI f', R) else some (nI S', R)) := by
    intro j
    induction j with
    | zero =>
      intro s f S hs hSs hs2 hf hO
      refine ⟨f, S, ⟨hO.1, fun S' M' h1 h2 h3 h4 => hO.2 S' M' (by have := sOf_le h2; omega) h2 h3 h4⟩, hf, ?_⟩
      rw [R_keeps_c42_eq, if_neg (by rw [nI_leE (by omega) (by omega)]; omega)]
    | succ j ih =>
      intro s f S hs hSs hs2 hf hO
      have hsa : s ≤ a := by omega
      have os := onesN_le s 14
      have oS := onesN_le S 14
      have keep : ((sOf s a ∧ onesN s 14 ≤ k) → ∀ M', FM D T n s M' → ¬ bet (onesN M' (T 0 4)) (onesN s 14) s f (onesN S 14) S) → Opt D T n a k (s + 1) f S := by
        intro hh
        refine ⟨hO.1, fun S' M' h1 h2 h3 h4 => ?_⟩
        by_cases e : S' = s
        · subst e; exact hh ⟨h2, h3⟩ M' h4
        · exact hO.2 S' M' (by omega) h2 h3 h4
      rw [R_keeps_c42_eq, if_pos (nI_le (by omega) (by omega)), nI_1]
      by_cases z1 : sOf s a
      · rw [if_pos ((sof_j (by omega)).mpr z1), onn (by omega), ob]
        simp only
        by_cases z2 : onesN s 14 ≤ k
        · obtain ⟨M, hM⟩ := FM_ex D T n s
          have oM := onesN_le M (T 0 4)
          rw [if_pos (nI_le z2 (by omega)), found_s hD hT hR (by omega) hM, ob]
          simp only
          by_cases z3 : onesN M (T 0 4) < f
          · rw [if_pos (nlt_t z3 (by omega))]
            exact ih (s + 1) f S (by omega) (by omega) (by omega) hf (keep (fun _ M' hM' => by
              rw [← FM_one hM hM']
              unfold bet
              omega))
          · rw [if_neg (nlt_f z3 (by omega) (by omega))]
            have new : ¬ (onesN M (T 0 4) = f ∧ onesN S 14 ≤ onesN s 14) → Opt D T n a k (s + 1) (onesN M (T 0 4)) s := by
              intro hh
              refine ⟨⟨by omega, z1, z2, M, hM, rfl⟩, fun S' M' h1 h2 h3 h4 => ?_⟩
              by_cases e : S' = s
              · subst e
                rw [← FM_one hM h4]
                unfold bet
                omega
              · have := hO.2 S' M' (by omega) h2 h3 h4
                unfold bet at this ⊢
                omega
            by_cases z4 : onesN M (T 0 4) = f
            · rw [if_pos (by rw [z4]), onn (by omega), ob]
              simp only
              rw [onn (by have := hO.1.1; omega), ob]
              simp only
              by_cases z5 : onesN s 14 < onesN S 14
              · rw [if_pos (nlt_t z5 (by omega))]
                exact ih (s + 1) _ s (by omega) (by omega) (by omega) (by omega) (new (by omega))
              · rw [if_neg (nlt_f z5 (by omega) (by omega))]
                exact ih (s + 1) f S (by omega) (by omega) (by omega) hf (keep (fun _ M' hM' => by
                  rw [← FM_one hM hM']
                  unfold bet
                  omega))
            · rw [if_neg (neq_f z4 (by omega) (by omega))]
              exact ih (s + 1) _ s (by omega) (by omega) (by omega) (by omega) (new (by omega))
        · rw [if_neg (by rw [nI_leE (by omega) (by omega)]; omega)]
          exact ih (s + 1) f S (by omega) (by omega) (by omega) hf (keep (fun hh => absurd hh.2 z2))
      · rw [if_neg (fun q => z1 ((sof_j (by omega)).mp q))]
        exact ih (s + 1) f S (by omega) (by omega) (by omega) hf (keep (fun hh => absurd hh.1 z1))
  refine go a 1 0 0 (by omega) (by omega) (by omega) (by omega) ⟨⟨by omega, sOf_0, by rw [onesN_z]; omega, 0, FM_0, (onesN_z _).symm⟩, fun S' M' h1 _ _ h4 => ?_⟩
  have : S' = 0 := by omega
  subst this
  rw [← FM_one FM_0 h4, onesN_z, onesN_z]
  unfold bet
  omega
end
