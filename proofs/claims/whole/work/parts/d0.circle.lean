/-! People: who is beside whom; sets that grow till they stay. -/
theorem orl_id {p : Nat → Bool} {n : Nat} (hn : n ≤ 32) (x : Nat) : bt (orl p (fun c => c) n 0 0) x = (decide (x < n) && p x) := by
  rw [orl_bt (n := 0) n 0 0 (fun j h1 h2 _ => by omega), b_0, Bool.false_or]
  rw [Bool.eq_iff_iff, List.any_eq_true, Bool.and_eq_true, decide_eq_true_eq]
  constructor
  · rintro ⟨c, h1, h2⟩
    rw [List.mem_range'_1] at h1
    rw [Bool.and_eq_true, decide_eq_true_eq] at h2
    obtain ⟨h2, rfl⟩ := h2
    exact ⟨by omega, h2⟩
  · rintro ⟨h1, h2⟩
    refine ⟨x, ?_, ?_⟩
    · rw [List.mem_range'_1]; omega
    · rw [h2, decide_eq_true rfl]; rfl
def bq (T : tL) (p : Nat) : Option Nat := if T 1 p = 0 then none else some (T 1 p - 1)
theorem bq_i (T : tL) (p : Nat) : nI (T 1 p) - 1 = o2i (bq T p) := by
  unfold bq
  by_cases h : T 1 p = 0
  · rw [if_pos h, h]; rfl
  · rw [if_neg h]
    exact pk_sub (a := T 1 p) (b := 1) (by omega)
theorem bq_lt {T : tL} {p q : Nat} (h : T 1 p ≤ 12) (hq : bq T p = some q) : q < 12 := by
  unfold bq at hq
  by_cases h0 : T 1 p = 0
  · rw [if_pos h0] at hq; cases hq
  · rw [if_neg h0] at hq
    cases hq
    omega
theorem o2i_eq {b : Option Nat} {p : Nat} (hb : ∀ q, b = some q → q < 2147483648) (hp : p < 2147483648) : o2i b = nI p ↔ b = some p := by
  cases b with
  | none => exact ⟨fun e => absurd e.symm (nI_ne_m1 hp), fun e => by cases e⟩
  | some q =>
    have := hb q rfl
    constructor
    · intro e
      rw [(nI_eq (by omega) (by omega)).mp e]
    · intro e
      cases e
      rfl
theorem o2i_m1 {b : Option Nat} (hb : ∀ q, b = some q → q < 2147483648) : o2i b = -1 ↔ b = none := by
  cases b with
  | none => exact ⟨fun _ => rfl, fun _ => rfl⟩
  | some q => exact ⟨fun e => absurd e (nI_ne_m1 (hb q rfl)), fun e => by cases e⟩
def adj (T : tL) (p j : Nat) : Bool := decide (bq T p = some j) || decide (bq T j = some p)
def nb (T : tL) (p : Nat) : Int32 := orl (adj T p) (fun c => c) 12 0 0
theorem nb_bt (T : tL) (p x : Nat) : bt (nb T p) x = (decide (x < 12) && adj T p x) := orl_id (by omega) x
def bs (T : tL) (x : Int32) : Int32 := lp (fun p m => if bt x p then m ||| nb T p else m) 12 0 0
theorem lp_or {x : Int32} {g : Nat → Int32} (j : Nat) : ∀ (k i : Nat) (m : Int32), bt (lp (fun p m => if bt x p then m ||| g p else m) k i m) j = (bt m j || (List.range' i k).any (fun p => bt x p && bt (g p) j))
  | 0, i, m => by simp [lp]
  | k + 1, i, m => by
    rw [lp, lp_or j k (i + 1), List.range'_succ, List.any_cons, ← Bool.or_assoc]
    congr 1
    cases hp : bt x i
    · rw [if_neg Bool.false_ne_true, Bool.false_and, Bool.or_false]
    · rw [if_pos rfl, b_or, Bool.true_and]
theorem bs_bt (T : tL) (x : Int32) (j : Nat) : bt (bs T x) j = true ↔ j < 12 ∧ ∃ p, p < 12 ∧ bt x p = true ∧ adj T p j = true := by
  unfold bs
  rw [lp_or, b_0, Bool.false_or, List.any_eq_true]
  constructor
  · rintro ⟨p, h1, h2⟩
    rw [List.mem_range'_1] at h1
    rw [Bool.and_eq_true, nb_bt, Bool.and_eq_true, decide_eq_true_eq] at h2
    exact ⟨h2.2.1, p, by omega, h2.1, h2.2.2⟩
  · rintro ⟨h0, p, h1, h2, h3⟩
    refine ⟨p, by rw [List.mem_range'_1]; omega, ?_⟩
    rw [h2, nb_bt, decide_eq_true h0, h3]; rfl
theorem bs_low (T : tL) (x : Int32) : lowm (bs T x) 12 := fun i hi => by
  cases h : bt (bs T x) i
  · rfl
  · have := ((bs_bt T x i).mp h).1; omega
section
variable {n : Nat} {D : tD} {B : tB} {L T : tL} {X R : pS}
theorem intr_s (hR : RTm T R) {p : Nat} (hp : p < 12) : R_introducer (nI p) R = some (o2i (bq T p), R) := by
  rw [R_introducer_eq, if_pos (inb_n (by omega) (by omega)), rA_n (by omega), hR.2.1 p hp, bq_i]
theorem bof_s (hT : WT n T) (hR : RTm T R) {p : Nat} (hp : p < 12) : R_besideOf (nI p) R = some (nb T p, R) := by
  have go : ∀ k i m, i + k = 12 → R_besideOf_c23 (nI p) m (nI i) R = some (orl (fun o => decide (bq T o = some p)) (fun c => c) k i m, R) := by
    intro k
    induction k with
    | zero =>
      intro i m hi
      have : i = 12 := by omega
      subst this
      rw [R_besideOf_c23_eq, if_neg (by decide)]; rfl
    | succ k ih =>
      intro i m hi
      rw [R_besideOf_c23_eq, if_pos (show nI i < (12 : Int32) from nlt_t (n := 12) (by omega) (by omega)), intr_s hR (by omega), ob, nI_1]
      show _ = some (orl (fun o => decide (bq T o = some p)) (fun c => c) k (i + 1) (if decide (bq T i = some p) = true then m ||| bit i else m), R)
      have hb : ∀ q, bq T i = some q → q < 2147483648 := fun q e => by have := bq_lt (hT.2.1 i (by omega)) e; omega
      simp only
      by_cases e : bq T i = some p
      · rw [if_pos ((o2i_eq hb (by omega)).mpr e), decide_eq_true e, if_pos rfl]
        exact ih (i + 1) _ (by omega)
      · rw [if_neg (fun z => e ((o2i_eq hb (by omega)).mp z)), decide_eq_false e, if_neg Bool.false_ne_true]
        exact ih (i + 1) m (by omega)
  have fin : ∀ m, (∀ x, bt m x = decide (bq T p = some x)) → orl (fun o => decide (bq T o = some p)) (fun c => c) 12 0 m = nb T p := by
    intro m hm
    apply b_ext
    intro x hx
    rw [orl_bt (n := 0) 12 0 m (fun j h1 h2 _ => by omega), hm, nb_bt]
    unfold adj
    rw [Bool.eq_iff_iff, Bool.or_eq_true, List.any_eq_true, Bool.and_eq_true, Bool.or_eq_true, decide_eq_true_eq, decide_eq_true_eq, decide_eq_true_eq]
    constructor
    · rintro (h | ⟨c, h1, h2⟩)
      · exact ⟨bq_lt (hT.2.1 p hp) h, Or.inl h⟩
      · rw [List.mem_range'_1] at h1
        rw [Bool.and_eq_true, decide_eq_true_eq, decide_eq_true_eq] at h2
        obtain ⟨h2, rfl⟩ := h2
        exact ⟨by omega, Or.inr h2⟩
    · rintro ⟨h0, h | h⟩
      · exact Or.inl h
      · exact Or.inr ⟨x, by rw [List.mem_range'_1]; omega, by rw [decide_eq_true h, decide_eq_true rfl]; rfl⟩
  rw [R_besideOf_eq, intr_s hR hp, ob]
  simp only
  cases hb : bq T p with
  | none =>
    rw [if_pos (show o2i none = (-1 : Int32) from rfl), show R_besideOf_c23 (nI p) (0 : Int32) (0 : Int32) R = _ from go 12 0 0 rfl, fin 0 (fun x => by rw [b_0, hb]; simp)]
  | some q =>
    have hq := bq_lt (hT.2.1 p hp) hb
    rw [if_neg (show ¬ o2i (some q) = (-1 : Int32) from nI_ne_m1 (by omega)), intr_s hR hp, ob, hb]
    simp only
    rw [show R_besideOf_c23 (nI p) ((1 : Int32) <<< (o2i (some q) &&& 31)) (0 : Int32) R = _ from go 12 0 (bit q) rfl, fin (bit q) (fun x => by
      rw [bt_bit (by omega), hb]
      by_cases e : x = q
      · subst e; rw [decide_eq_true rfl, decide_eq_true rfl]
      · rw [decide_eq_false e, decide_eq_false (fun z => by cases z; exact e rfl)])]
theorem ball_s (hT : WT n T) (hR : RTm T R) (x : Int32) : R_besideAll x R = some (bs T x, R) := by
  have go : ∀ k i m, i + k = 12 → R_besideAll_c4 x m (nI i) R = some (lp (fun p m => if bt x p then m ||| nb T p else m) k i m, R) := by
    intro k
    induction k with
    | zero =>
      intro i m hi
      have : i = 12 := by omega
      subst this
      rw [R_besideAll_c4_eq, if_neg (by decide)]; rfl
    | succ k ih =>
      intro i m hi
      rw [R_besideAll_c4_eq, if_pos (show nI i < (12 : Int32) from nlt_t (n := 12) (by omega) (by omega)), R_hasS _ (by omega), ob, nI_1, lp]
      simp only
      cases bt x i
      · rw [b2i_f, if_pos rfl, if_neg Bool.false_ne_true]; exact ih (i + 1) m (by omega)
      · rw [b2i_t, if_neg (by decide), if_pos rfl, bof_s hT hR (by omega), ob]; exact ih (i + 1) _ (by omega)
  rw [R_besideAll_eq]
  exact go 12 0 0 rfl
/-- the class has learnt who is beside whom -/
def Lrn (T : tL) (S : pS) : Prop := ∀ p, p < 12 → S.2.1 65 p = nb T p
theorem bsome_s (hX : Lrn T X) (x : Int32) : Ci_besideSome_64 x X = some (bs T x, X) := by
  have go : ∀ k i m, i + k = 12 → Ci_besideSome_64_c4 x m (nI i) X = some (lp (fun p m => if bt x p then m ||| nb T p else m) k i m, X) := by
    intro k
    induction k with
    | zero =>
      intro i m hi
      have : i = 12 := by omega
      subst this
      rw [Ci_besideSome_64_c4_eq, if_neg (by decide)]; rfl
    | succ k ih =>
      intro i m hi
      rw [Ci_besideSome_64_c4_eq, if_pos (show nI i < (12 : Int32) from nlt_t (n := 12) (by omega) (by omega)), holds_s _ (by omega), ob, nI_1, lp]
      simp only
      cases bt x i
      · rw [b2i_f, if_pos rfl, if_neg Bool.false_ne_true]; exact ih (i + 1) m (by omega)
      · rw [b2i_t, if_neg (by decide), if_pos rfl, if_pos (inb_n (by omega) (by omega)), rA_n (by omega), hX i (by omega)]; exact ih (i + 1) _ (by omega)
  rw [Ci_besideSome_64_eq]
  exact go 12 0 0 rfl
def aml (T : tL) : Nat → Nat → Int32 → Int32 := lp (fun p m => match bq T p with
  | none => m
  | some b => m ||| (bit p ||| bit b))
theorem learn_s (hT : WT n T) (hX : XT 3 T X) : ∃ X', Ci_learn_64 X = some (aml T 12 0 0, X') ∧ Lrn T X' ∧ Off [] [65] X X' := by
  have z : ∀ k i (S : pS), i + k = 12 → (∀ p, p < i → S.2.1 65 p = 0) → Off [] [65] X S → ∃ S', Ci_learn_64_c2 (nI i) S = Ci_learn_64_c25 0 0 S' ∧ (∀ p, p < 12 → S'.2.1 65 p = 0) ∧ Off [] [65] X S' := by
    intro k
    induction k with
    | zero =>
      intro i S hi h1 h2
      have : i = 12 := by omega
      subst this
      exact ⟨S, by rw [Ci_learn_64_c2_eq, if_neg (by decide)], h1, h2⟩
    | succ k ih =>
      intro i S hi h1 h2
      rw [Ci_learn_64_c2_eq, if_pos (show nI i < (12 : Int32) from nlt_t (n := 12) (by omega) (by omega)), if_pos (inb_n (by omega) (by omega)), nI_1]
      refine ih (i + 1) _ (by omega) (fun p hp => ?_) (h2.wA (by decide))
      rw [wA_21 (by omega), sA_eq, upd_at]
      by_cases e : p = i
      · rw [if_pos e]
      · rw [if_neg e]; exact h1 p (by omega)
  have go : ∀ k i m (S : pS), i + k = 12 → (∀ p, p < 12 → ∀ j, j < 32 → bt (S.2.1 65 p) j = (decide (j < 12) && ((decide (p < i) && decide (bq T p = some j)) || (decide (j < i) && decide (bq T j = some p))))) → Off [] [65] X S → ∃ S', Ci_learn_64_c25 m (nI i) S = some (aml T k i m, S') ∧ Lrn T S' ∧ Off [] [65] X S' := by
    intro k
    induction k with
    | zero =>
      intro i m S hi h1 h2
      have : i = 12 := by omega
      subst this
      refine ⟨S, by rw [Ci_learn_64_c25_eq, if_neg (by decide)]; rfl, fun p hp => ?_, h2⟩
      apply b_ext
      intro j hj
      rw [h1 p hp j hj, nb_bt, decide_eq_true hp]
      unfold adj
      by_cases e : j < 12
      · rw [decide_eq_true e]; rfl
      · rw [decide_eq_false e]; rfl
    | succ k ih =>
      intro i m S hi h1 h2
      have hx12 : S.2.1 12 i = o2i (bq T i) := by
        rw [h2.2.1 12 (by decide), ← bq_i]
        exact hX.2.2.1 i (by omega)
      have e : aml T (k + 1) i m = aml T k (i + 1) (match bq T i with
        | none => m
        | some b => m ||| (bit i ||| bit b)) := rfl
      rw [Ci_learn_64_c25_eq, if_pos (show nI i < (12 : Int32) from nlt_t (n := 12) (by omega) (by omega)), intro_3 (by omega), ob, hx12]
      simp only
      rw [show C_within (o2i (bq T i)) (12 : Int32) S = _ from within_s _ 12, ob, e, nI_1]
      simp only
      cases hb : bq T i with
      | none =>
        rw [show inr (o2i none) 12 = false from rfl, b2i_f, if_pos rfl]
        refine ih (i + 1) m S (by omega) (fun p hp j hj => ?_) h2
        rw [h1 p hp j hj]
        congr 1
        have a1 : (decide (p < i + 1) && decide (bq T p = some j)) = (decide (p < i) && decide (bq T p = some j)) := by
          by_cases q : p = i
          · subst q; rw [hb]; simp
          · congr 1
            exact decide_eq_decide.mpr (by omega)
        have a2 : (decide (j < i + 1) && decide (bq T j = some p)) = (decide (j < i) && decide (bq T j = some p)) := by
          by_cases q : j = i
          · subst q; rw [hb]; simp
          · congr 1
            exact decide_eq_decide.mpr (by omega)
        rw [a1, a2]
      | some b =>
        have hb12 := bq_lt (hT.2.1 i (by omega)) hb
        rw [show o2i (some b) = nI b from rfl, inr_n hb12 (by omega), b2i_t, if_neg (by decide), if_pos (inb_n (by omega) (by omega)), if_pos (inb_n (by omega) (by omega)), if_pos (inb_n (by omega) (by omega)), if_pos (inb_n (by omega) (by omega)), rA_n (by omega), rA_n (by omega), wA_21 (by omega), sA_eq]
        refine ih (i + 1) _ _ (by omega) (fun p hp j hj => ?_) ((h2.wA (by decide)).wA (by decide))
        rw [wA_21 (by omega), sA_eq, upd_at, wA_21 (by omega), sA_eq, upd_at, upd_at]
        have b1 : bt ((1 : Int32) <<< (nI i &&& 31)) j = decide (j = i) := b_bit i (by omega) j
        have b2 : bt ((1 : Int32) <<< (nI b &&& 31)) j = decide (j = b) := b_bit b (by omega) j
        have old := h1 p hp j hj
        have tgt : (decide (j < 12) && (decide (p < i + 1) && decide (bq T p = some j) || decide (j < i + 1) && decide (bq T j = some p))) = (bt (S.2.1 65 p) j || (decide (p = i) && decide (j = b)) || (decide (p = b) && decide (j = i))) := by
          rw [old, Bool.eq_iff_iff]
          simp only [Bool.or_eq_true, Bool.and_eq_true, decide_eq_true_eq]
          constructor
          · rintro ⟨z0, ⟨z1, z2⟩ | ⟨z1, z2⟩⟩
            · by_cases q : p = i
              · subst q
                rw [hb] at z2
                cases z2
                exact Or.inl (Or.inr ⟨rfl, rfl⟩)
              · exact Or.inl (Or.inl ⟨z0, Or.inl ⟨by omega, z2⟩⟩)
            · by_cases q : j = i
              · subst q
                rw [hb] at z2
                cases z2
                exact Or.inr ⟨rfl, rfl⟩
              · exact Or.inl (Or.inl ⟨z0, Or.inr ⟨by omega, z2⟩⟩)
          · rintro ((⟨z0, ⟨z1, z2⟩ | ⟨z1, z2⟩⟩ | ⟨rfl, rfl⟩) | ⟨rfl, rfl⟩)
            · exact ⟨z0, Or.inl ⟨by omega, z2⟩⟩
            · exact ⟨z0, Or.inr ⟨by omega, z2⟩⟩
            · exact ⟨hb12, Or.inl ⟨by omega, hb⟩⟩
            · exact ⟨by omega, Or.inr ⟨by omega, hb⟩⟩
        rw [tgt]
        by_cases q1 : p = b
        · rw [if_pos q1, decide_eq_true q1]
          by_cases q2 : b = i
          · rw [if_pos q2, b_or, b_or, b1, b2, decide_eq_true (show p = i by omega), q1.trans q2]
            simp
          · rw [if_neg q2, b_or, b1, decide_eq_false (show ¬ p = i by omega), q1]
            simp
        · rw [if_neg q1, decide_eq_false q1]
          by_cases q2 : p = i
          · rw [if_pos q2, b_or, b2, decide_eq_true q2, q2]
            simp
          · rw [if_neg q2, decide_eq_false q2]
            simp
  obtain ⟨S1, a1, a2, a3⟩ := z 12 0 X rfl (fun p hp => by omega) Off.rf
  obtain ⟨S2, c1, c2, c3⟩ := go 12 0 0 S1 rfl (fun p hp j hj => by rw [a2 p hp, b_0]; simp) a3
  refine ⟨S2, ?_, c2, c3⟩
  rw [Ci_learn_64_eq, show Ci_learn_64_c2 (0 : Int32) X = _ from a1]
  exact c1
end
/-! growing sets -/
def itr (f : Int32 → Int32) : Nat → Int32 → Int32
  | 0, x => x
  | k + 1, x => itr f k (f x)
theorem itr_r (f : Int32 → Int32) : ∀ k x, itr f (k + 1) x = f (itr f k x)
  | 0, _ => rfl
  | k + 1, x => by rw [itr, itr_r f k (f x)]; rfl
def sub (x y : Int32) : Prop := ∀ i, bt x i = true → bt y i = true
theorem ones_sub {x y : Int32} (h : sub x y) : ∀ n, ones x n ≤ ones y n
  | 0 => Nat.le_refl 0
  | n + 1 => by
    have := ones_sub h n
    rw [ones, ones]
    cases hx : bt x n
    · rw [if_neg Bool.false_ne_true]; omega
    · rw [h n hx]; omega
theorem ones_sub_lt {x y : Int32} (h : sub x y) : ∀ n i, i < n → bt x i = false → bt y i = true → ones x n < ones y n
  | 0, _, hi, _, _ => by omega
  | n + 1, i, hi, h1, h2 => by
    rw [ones, ones]
    by_cases e : i = n
    · subst e
      have := ones_sub h i
      rw [h1, h2, if_neg Bool.false_ne_true, if_pos rfl]
      omega
    · have := ones_sub_lt h n i (by omega) h1 h2
      cases hx : bt x n
      · rw [if_neg Bool.false_ne_true]; omega
      · rw [h n hx]; omega
theorem sub_ne {x y : Int32} {n : Nat} (h : sub x y) (hx : lowm x n) (hy : lowm y n) (hne : x ≠ y) : ones x n < ones y n := by
  apply Classical.byContradiction
  intro q
  apply hne
  apply low_ext hx hy
  intro i hi
  cases h1 : bt x i
  · cases h2 : bt y i
    · rfl
    · exact absurd (ones_sub_lt h n i hi h1 h2) q
  · rw [h i h1]
theorem itr_fix {f : Int32 → Int32} {n : Nat} (hf : ∀ x, lowm x n → lowm (f x) n ∧ sub x (f x)) : ∀ k x, lowm x n → lowm (itr f k x) n ∧ (f (itr f k x) = itr f k x ∨ ones x n + k ≤ ones (itr f k x) n)
  | 0, x, hx => ⟨hx, Or.inr (Nat.le_refl _)⟩
  | k + 1, x, hx => by
    obtain ⟨h1, h2⟩ := itr_fix hf k x hx
    rw [itr_r]
    obtain ⟨g1, g2⟩ := hf _ h1
    refine ⟨g1, ?_⟩
    rcases h2 with h2 | h2
    · exact Or.inl (by rw [h2, h2])
    · by_cases e : f (itr f k x) = itr f k x
      · exact Or.inl (by rw [e, e])
      · have := sub_ne g2 h1 g1 (Ne.symm e)
        exact Or.inr (by omega)
/-- n rounds are enough -/
theorem itr_12 {f : Int32 → Int32} {n : Nat} (hf : ∀ x, lowm x n → lowm (f x) n ∧ sub x (f x)) {x : Int32} (hx : lowm x n) (h1 : 1 ≤ ones x n) : lowm (itr f n x) n ∧ f (itr f n x) = itr f n x := by
  obtain ⟨a, b⟩ := itr_fix hf n x hx
  refine ⟨a, b.elim id (fun h => ?_)⟩
  have := ones_le (itr f n x) n
  omega
theorem itr_stay {f : Int32 → Int32} {x : Int32} (h : f x = x) : ∀ k, itr f k x = x
  | 0 => rfl
  | k + 1 => by rw [itr, h, itr_stay h k]
theorem sub_rf {x : Int32} : sub x x := fun _ h => h
theorem sub_tr {x y z : Int32} (h : sub x y) (h2 : sub y z) : sub x z := fun i q => h2 i (h i q)
theorem ones_bit {k n : Nat} (hk : k < n) (hn : n ≤ 32) : 1 ≤ ones (bit k) n := by
  have : ones 0 n < ones (bit k) n := ones_sub_lt (fun i h => by rw [b_0] at h; cases h) n k hk (b_0 k) (by rw [bt_bit (by omega)]; exact decide_eq_true rfl)
  omega
theorem ones_or {x : Int32} {c n : Nat} (hc : c < n) (hn : n ≤ 32) (h : bt x c = false) : ones x n + 1 ≤ ones (x ||| bit c) n := ones_sub_lt (fun i q => by rw [b_or, q]; rfl) n c hc h (by rw [b_or, bt_bit (by omega), decide_eq_true rfl, Bool.or_true])
theorem ones_full {x : Int32} : ∀ {n : Nat}, ones x n = n → ∀ i, i < n → bt x i = true
  | 0, _, i, hi => by omega
  | n + 1, h, i, hi => by
    have := ones_le x n
    rw [ones] at h
    cases hb : bt x n
    · rw [hb, if_neg Bool.false_ne_true] at h
      omega
    · rw [hb, if_pos rfl] at h
      by_cases e : i = n
      · rw [e]; exact hb
      · exact ones_full (n := n) (by omega) i (by omega)
