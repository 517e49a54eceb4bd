/-! Keeps, of the class: for each set of questions the best set of cards. -/
def upO (A : Nat → Option Nat) (k : Nat) (v : Option Nat) : Nat → Option Nat := fun M => if M = k then v else A M
theorem upO_at (A : Nat → Option Nat) (k : Nat) (v : Option Nat) (M : Nat) : upO A k v M = if M = k then v else A M := rfl
theorem le1024 {m : Nat} (h : m ≤ 10) : 2 ^ m ≤ 1024 := Nat.pow_le_pow_right (n := 2) (j := 10) (by decide) h
theorem ones_bitN {s c : Nat} (hc : c < 14) (h : s.testBit c = false) : onesN (s + 2 ^ c) 14 = onesN s 14 + 1 ∧ ∀ i, (s + 2 ^ c).testBit i = (s.testBit i || decide (i = c)) := by
  have hor : s ||| 2 ^ c = s + 2 ^ c := by
    apply or_add
    apply Nat.eq_of_testBit_eq
    intro i
    rw [Nat.testBit_and, Nat.testBit_two_pow, Nat.zero_testBit]
    by_cases e : c = i
    · subst e; rw [h]; rfl
    · rw [decide_eq_false e, Bool.and_false]
  have hb : ∀ i, (s + 2 ^ c).testBit i = (s.testBit i || decide (i = c)) := by
    intro i
    rw [← hor, Nat.testBit_or, Nat.testBit_two_pow]
    congr 1
    exact decide_eq_decide.mpr ⟨fun e => e.symm, fun e => e.symm⟩
  refine ⟨?_, hb⟩
  have go : ∀ k, onesN (s + 2 ^ c) k = onesN s k + (if c < k then 1 else 0) := by
    intro k
    induction k with
    | zero => rfl
    | succ k ih =>
      rw [onesN, onesN, ih, hb]
      by_cases e : k = c
      · subst e
        rw [h]
        simp
      · rw [decide_eq_false e, Bool.or_false]
        by_cases q : c < k
        · rw [if_pos q, if_pos (show c < k + 1 by omega)]; omega
        · rw [if_neg q, if_neg (show ¬ c < k + 1 by omega)]; omega
  rw [go 14, if_pos hc]
theorem sub_bitN {s c : Nat} (h : s.testBit c = true) : ∃ s', s = s' + 2 ^ c ∧ s'.testBit c = false := by
  obtain ⟨s', h1, h2⟩ := mk_bits (fun i => s.testBit i && !decide (i = c)) (s + c + 1)
  have hs : ∀ i, s.testBit i = true → i < s + c + 1 := fun i hi => by
    have : 2 ^ i ≤ s := Nat.ge_two_pow_of_testBit hi
    have := Nat.lt_two_pow_self (n := i)
    omega
  have hc : s'.testBit c = false := by rw [h2 c, decide_eq_true rfl]; simp
  refine ⟨s', ?_, hc⟩
  have hor : s' ||| 2 ^ c = s' + 2 ^ c := by
    apply or_add
    apply Nat.eq_of_testBit_eq
    intro i
    rw [Nat.testBit_and, Nat.testBit_two_pow, Nat.zero_testBit]
    by_cases e : c = i
    · subst e; rw [hc]; rfl
    · rw [decide_eq_false e, Bool.and_false]
  rw [← hor]
  apply Nat.eq_of_testBit_eq
  intro i
  rw [Nat.testBit_or, Nat.testBit_two_pow, h2 i]
  by_cases e : i = c
  · subst e; rw [h, decide_eq_true rfl]; simp
  · rw [decide_eq_false e, Bool.not_false, Bool.and_true, decide_eq_false (show ¬ c = i from fun z => e z.symm), Bool.or_false]
    cases hb : s.testBit i
    · rw [Bool.and_false]
    · rw [decide_eq_true (hs i hb)]; rfl
section
variable {n : Nat} {D : tD} {B : tB} {L T : tL} {X R : pS}
/-- kept cards below c -/
def kb (a c S : Nat) : Prop := ∀ i, S.testBit i = true → a.testBit i = true ∧ i < c
/-- what cell 68 holds: for each set of questions the best set of kept cards below c -/
def Tbl (D : tD) (T : tL) (n a c : Nat) (A : Nat → Option Nat) : Prop := (∀ M S, M < 2 ^ (T 0 4) → A M = some S → S < 16384 ∧ kb a c S ∧ FM D T n S M) ∧ ∀ M S, kb a c S → S < 16384 → FM D T n S M → ∃ S0, A M = some S0 ∧ ¬ les S S0
theorem qf_s (hD : WD n D) (hT : WT n T) (hX : XA D B L T X) {c : Nat} (hc : c < n) : ∃ q, FM D T n (2 ^ c) q ∧ Ch_questionsFor_67 (nI c) X = some (nI q, X) := by
  obtain ⟨h10, hq⟩ := hT.2.2.2.2.2.1
  have hn := hD.1
  have x0 : X.1 19 2 = nI (T 0 4) := hX.2.2.2.2.2.2.2.2.2.1.1
  obtain ⟨q, hqf⟩ := FM_ex D T n (2 ^ c)
  have ql := FM_lt hqf
  have ql2 : q < 1024 := Nat.lt_of_lt_of_le ql (le1024 h10)
  refine ⟨q, hqf, ?_⟩
  have go : ∀ k i m, i + k = T 0 4 → Ch_questionsFor_67_c4 (nI c) m (nI i) X = some (orl (fun i => decide (D (T 9 i) c = nI (T 10 i))) (fun i => i) k i m, X) := by
    intro k
    induction k with
    | zero =>
      intro i m hi
      rw [Ch_questionsFor_67_c4_eq, show rF X 19 2 = nI (T 0 4) from x0, if_neg (nlt_f (by omega) (by omega) (by omega))]; rfl
    | succ k ih =>
      intro i m hi
      obtain ⟨q1, q2⟩ := hq i (by omega)
      obtain ⟨x1, x2⟩ := hX.2.2.2.2.2.2.2.2.2.1.2 i (by omega)
      have t0 : Ro_at_19 (nI i) (0 : Int32) X = some (nI (T 9 i), X) := by rw [← x1]; exact at_19 (j := 0) h10 x0 (by omega) (by omega)
      have t1 : Ro_at_19 (nI i) (1 : Int32) X = some (nI (T 10 i), X) := by rw [← x2]; exact at_19 (j := 1) h10 x0 (by omega) (by omega)
      rw [Ch_questionsFor_67_c4_eq, show rF X 19 2 = nI (T 0 4) from x0, if_pos (nlt_t (by omega) (by omega)), t0, ob]
      simp only
      rw [read_1 (n := 0) hX.1 (by omega) (by omega), ob]
      simp only
      rw [t1, ob, nI_1]
      show _ = some (orl (fun i => decide (D (T 9 i) c = nI (T 10 i))) (fun i => i) k (i + 1) (if decide (D (T 9 i) c = nI (T 10 i)) = true then m ||| bit i else m), X)
      simp only
      by_cases e : D (T 9 i) c = nI (T 10 i)
      · rw [if_pos e, decide_eq_true e, if_pos rfl]; exact ih (i + 1) _ (by omega)
      · rw [if_neg e, decide_eq_false e, if_neg Bool.false_ne_true]; exact ih (i + 1) _ (by omega)
  rw [Ch_questionsFor_67_eq, show Ch_questionsFor_67_c4 (nI c) (0 : Int32) (0 : Int32) X = _ from go (T 0 4) 0 0 (by omega)]
  congr 2
  apply b_ext
  intro i hi
  rw [orl_id (by omega), bt_nI _ hi, Bool.eq_iff_iff, hqf i, Bool.and_eq_true, decide_eq_true_eq, decide_eq_true_eq]
  constructor
  · rintro ⟨h1, h2⟩
    exact ⟨h1, c, hc, Nat.testBit_two_pow_self, h2⟩
  · rintro ⟨h1, c', h2, h3, h4⟩
    rw [Nat.testBit_two_pow, decide_eq_true_eq] at h3
    subst h3
    exact ⟨h1, h4⟩
/-- another card: its questions come along -/
theorem FM_add {S M c q : Nat} (hc : c < 14) (hS : S.testBit c = false) (hM : FM D T n S M) (hq : FM D T n (2 ^ c) q) : FM D T n (S + 2 ^ c) (M ||| q) := by
  intro i
  rw [Nat.testBit_or, Bool.or_eq_true, hM i, hq i]
  have hb := (ones_bitN hc hS).2
  constructor
  · rintro (⟨h1, c', h2, h3, h4⟩ | ⟨h1, c', h2, h3, h4⟩)
    · exact ⟨h1, c', h2, by rw [hb, h3]; rfl, h4⟩
    · rw [Nat.testBit_two_pow, decide_eq_true_eq] at h3
      subst h3
      exact ⟨h1, c, h2, by rw [hb, decide_eq_true rfl, Bool.or_true], h4⟩
  · rintro ⟨h1, c', h2, h3, h4⟩
    rw [hb, Bool.or_eq_true, decide_eq_true_eq] at h3
    rcases h3 with h3 | h3
    · exact Or.inl ⟨h1, c', h2, h3, h4⟩
    · subst h3
      exact Or.inr ⟨h1, c', h2, Nat.testBit_two_pow_self, h4⟩
theorem isless_s {s s' : Nat} (h : s < 16384) (h' : s' < 16384) {S : pS} : ∃ b : Bool, Ch_isLess (nI s) (nI s') S = some (b2i b, S) ∧ (b = true ↔ les s s') := by
  have o1 := onesN_le s 14
  have o2 := onesN_le s' 14
  rw [Ch_isLess_eq, bcn h, ob]
  simp only
  rw [bcn h', ob]
  simp only
  unfold les
  by_cases z1 : onesN s 14 < onesN s' 14
  · rw [if_pos (pk_sneg (by omega) z1)]
    exact ⟨true, rfl, by simp [z1]⟩
  · have e1 : nI (onesN s 14) - nI (onesN s' 14) = nI (onesN s 14 - onesN s' 14) := pk_sub (by omega)
    rw [e1, if_neg (nI_pos (by omega))]
    by_cases z2 : onesN s 14 = onesN s' 14
    · rw [if_pos (by rw [z2, Nat.sub_self]; rfl)]
      by_cases z3 : s < s'
      · rw [if_pos (nlt_t z3 (by omega))]
        exact ⟨true, rfl, by simp; omega⟩
      · rw [if_neg (nlt_f z3 (by omega) (by omega))]
        exact ⟨false, rfl, by simp; omega⟩
    · rw [if_neg (nI_z (by omega) (by omega))]
      exact ⟨false, rfl, by simp; omega⟩
/-- cell 68 -/
def C68 (T : tL) (A : Nat → Option Nat) (S : pS) : Prop := ∀ M, M < 2 ^ (T 0 4) → S.2.1 68 M = o2i (A M)
theorem or_lt2 {x y m : Nat} (hx : x < 2 ^ m) (hy : y < 2 ^ m) : x ||| y < 2 ^ m := Nat.or_lt_two_pow hx hy
/-- one card is tried -/
theorem try_s (hT : WT n T) {a c q : Nat} {A : Nat → Option Nat} (hn : n ≤ 14) (hc : c < n) (hca : a.testBit c = true) (hq : FM D T n (2 ^ c) q) (hA : Tbl D T n a c A) {S0 : pS} (h68 : C68 T A S0) : ∃ A' S', Ch_tryCard_67_c14 (nI c) (nI (2 ^ (T 0 4))) (nI q) 0 S0 = some (0, S') ∧ C68 T A' S' ∧ Tbl D T n a (c + 1) A' ∧ Off [] [68] S0 S' := by
  obtain ⟨h10, -⟩ := hT.2.2.2.2.2.1
  have hp : 2 ^ (T 0 4) ≤ 1024 := le1024 h10
  have ql := FM_lt hq
  have p14 : 2 ^ c < 16384 := Nat.pow_lt_pow_right (a := 2) (n := 14) (by decide) (by omega)
  have noc : ∀ M S, M < 2 ^ (T 0 4) → A M = some S → S.testBit c = false := fun M S hM hS => by
    cases hz : S.testBit c
    · rfl
    · have := ((hA.1 M S hM hS).2.1 c hz).2; omega
  -- what holds on the way: all below M0 were tried
  have go : ∀ j M0 (A1 : Nat → Option Nat) (S : pS), M0 + j = 2 ^ (T 0 4) → C68 T A1 S → Off [] [68] S0 S →
      (∀ M, M < 2 ^ (T 0 4) → M ||| q ≠ M → A1 M = A M) →
      (∀ M S, M < 2 ^ (T 0 4) → A1 M = some S → S < 16384 ∧ kb a (c + 1) S ∧ FM D T n S M) →
      (∀ M S, M < 2 ^ (T 0 4) → A M = some S → ∃ S1, A1 M = some S1 ∧ ¬ les S S1) →
      (∀ M S, M < M0 → M ||| q ≠ M → A M = some S → ∃ S1, A1 (M ||| q) = some S1 ∧ ¬ les (S + 2 ^ c) S1) →
      ∃ A' S', Ch_tryCard_67_c14 (nI c) (nI (2 ^ (T 0 4))) (nI q) (nI M0) S = some (0, S') ∧ C68 T A' S' ∧ Off [] [68] S0 S' ∧
      (∀ M, M < 2 ^ (T 0 4) → M ||| q ≠ M → A' M = A M) ∧
      (∀ M S, M < 2 ^ (T 0 4) → A' M = some S → S < 16384 ∧ kb a (c + 1) S ∧ FM D T n S M) ∧
      (∀ M S, M < 2 ^ (T 0 4) → A M = some S → ∃ S1, A' M = some S1 ∧ ¬ les S S1) ∧
      (∀ M S, M < 2 ^ (T 0 4) → M ||| q ≠ M → A M = some S → ∃ S1, A' (M ||| q) = some S1 ∧ ¬ les (S + 2 ^ c) S1) := by
    intro j
    induction j with
    | zero =>
      intro M0 A1 S hM h1 h2 h3 h4 h5 h6
      refine ⟨A1, S, ?_, h1, h2, h3, h4, h5, fun M S' hM' => h6 M S' (by omega)⟩
      rw [Ch_tryCard_67_c14_eq, if_neg (nlt_f (by omega) (by omega) (by omega))]
    | succ j ih =>
      intro M0 A1 S hM h1 h2 h3 h4 h5 h6
      have hM0 : M0 < 2 ^ (T 0 4) := by omega
      have mq : M0 ||| q < 2 ^ (T 0 4) := or_lt2 hM0 ql
      have c0 := h1 M0 hM0
      have c1 := h1 (M0 ||| q) mq
      have same : (∀ S', M0 ||| q ≠ M0 → A M0 = some S' → ∃ S1, A1 (M0 ||| q) = some S1 ∧ ¬ les (S' + 2 ^ c) S1) → ∀ M S', M < M0 + 1 → M ||| q ≠ M → A M = some S' → ∃ S1, A1 (M ||| q) = some S1 ∧ ¬ les (S' + 2 ^ c) S1 := by
        intro hh M S' hM' hne hAM
        by_cases e : M = M0
        · subst e; exact hh S' hne hAM
        · exact h6 M S' (by omega) hne hAM
      have nxt0 := fun hh => ih (M0 + 1) A1 S (by omega) h1 h2 h3 h4 h5 (same hh)
      rw [Ch_tryCard_67_c14_eq, if_pos (nlt_t hM0 (by omega)), if_pos (inb_n (by omega) (by omega)), rA_n (by omega), c0, nI_1]
      cases ha0 : A1 M0 with
      | none =>
        rw [if_pos (show o2i none = (-1 : Int32) from rfl)]
        refine nxt0 (fun S' _ hz => ?_)
        obtain ⟨S1, e1, -⟩ := h5 M0 S' hM0 hz
        rw [ha0] at e1
        cases e1
      | some s =>
        obtain ⟨s1, s2, s3⟩ := h4 M0 s hM0 ha0
        have slt : ∀ x, kb a (c + 1) x → x < 2 ^ 14 := fun x hx => Nat.lt_pow_two_of_testBit x (fun i hi => by
          cases hz : x.testBit i
          · rfl
          · have := (hx i hz).2; omega)
        -- the set that is tried
        obtain ⟨cand, hcand, hcb⟩ : ∃ cand : Nat, nI s ||| (1 : Int32) <<< (nI c &&& 31) = nI cand ∧ ((s.testBit c = true ∧ cand = s) ∨ (s.testBit c = false ∧ cand = s + 2 ^ c)) := by
          cases hz : s.testBit c
          · refine ⟨s + 2 ^ c, ?_, Or.inr ⟨rfl, rfl⟩⟩
            apply b_ext
            intro i hi
            rw [b_or, bt_nI _ hi, bt_nI _ hi, (ones_bitN (by omega) hz).2, show bt ((1 : Int32) <<< (nI c &&& 31)) i = decide (i = c) from b_bit c (by omega) i]
          · refine ⟨s, ?_, Or.inl ⟨rfl, rfl⟩⟩
            apply b_ext
            intro i hi
            rw [b_or, bt_nI _ hi, show bt ((1 : Int32) <<< (nI c &&& 31)) i = decide (i = c) from b_bit c (by omega) i]
            by_cases e : i = c
            · subst e; rw [hz]; rfl
            · rw [decide_eq_false e, Bool.or_false]
        have ckb : kb a (c + 1) cand := by
          rcases hcb with ⟨-, rfl⟩ | ⟨hz, rfl⟩
          · exact s2
          · intro i hi
            rw [(ones_bitN (by omega) hz).2, Bool.or_eq_true, decide_eq_true_eq] at hi
            rcases hi with hi | hi
            · exact s2 i hi
            · subst hi; exact ⟨hca, by omega⟩
        have clt := slt cand ckb
        have cFM : FM D T n cand (M0 ||| q) := by
          rcases hcb with ⟨hz, rfl⟩ | ⟨hz, rfl⟩
          · have : M0 ||| q = M0 := by
              apply or_self2
              intro i hi
              obtain ⟨g1, c', g2, g3, g4⟩ := (hq i).mp hi
              rw [Nat.testBit_two_pow, decide_eq_true_eq] at g3
              subst g3
              exact (s3 i).mpr ⟨g1, c, g2, hz, g4⟩
            rw [this]; exact s3
          · exact FM_add (by omega) hz s3 hq
        rw [show o2i (some s) = nI s from rfl, if_neg (nI_ne_m1 (by omega)), if_pos (inb_n (by omega) (by omega)), fa_or, if_pos (nlt_t mq (by omega)), if_pos (inb_n (by omega) (by omega)), rA_n (by omega), c1, hcand]
        -- when it is taken
        have take : ¬ (∃ S1, A1 (M0 ||| q) = some S1 ∧ ¬ les cand S1) → ∃ A' S', Ch_tryCard_67_c82 (nI c) (nI (2 ^ (T 0 4))) (nI q) (nI M0) (nI (M0 ||| q)) (nI cand) S = some (0, S') ∧ C68 T A' S' ∧ Off [] [68] S0 S' ∧ (∀ M, M < 2 ^ (T 0 4) → M ||| q ≠ M → A' M = A M) ∧ (∀ M S, M < 2 ^ (T 0 4) → A' M = some S → S < 16384 ∧ kb a (c + 1) S ∧ FM D T n S M) ∧ (∀ M S, M < 2 ^ (T 0 4) → A M = some S → ∃ S1, A' M = some S1 ∧ ¬ les S S1) ∧ (∀ M S, M < 2 ^ (T 0 4) → M ||| q ≠ M → A M = some S → ∃ S1, A' (M ||| q) = some S1 ∧ ¬ les (S + 2 ^ c) S1) := by
          intro hno
          rw [Ch_tryCard_67_c82_eq, if_pos (inb_n (by omega) (by omega)), nI_1]
          have mqq : (M0 ||| q) ||| q = M0 ||| q := by rw [Nat.or_assoc, Nat.or_self]
          refine ih (M0 + 1) (upO A1 (M0 ||| q) (some cand)) _ (by omega) (fun M hM' => ?_) (h2.wA (by decide)) (fun M hM' hne => ?_) (fun M S' hM' hs => ?_) (fun M S' hM' hs => ?_) (fun M S' hM' hne hs => ?_)
          · rw [wA_21 (by omega), sA_eq, upd_at, upO_at]
            by_cases e : M = M0 ||| q
            · rw [if_pos e, if_pos e]; rfl
            · rw [if_neg e, if_neg e]; exact h1 M hM'
          · rw [upO_at, if_neg (fun e => hne (by rw [e]; exact mqq))]
            exact h3 M hM' hne
          · rw [upO_at] at hs
            by_cases e : M = M0 ||| q
            · rw [if_pos e] at hs
              cases hs
              rw [e]
              exact ⟨clt, ckb, cFM⟩
            · rw [if_neg e] at hs
              exact h4 M S' hM' hs
          · obtain ⟨S1, g1, g2⟩ := h5 M S' hM' hs
            rw [upO_at]
            by_cases e : M = M0 ||| q
            · rw [if_pos e]
              refine ⟨cand, rfl, fun z => hno ⟨S1, by rw [← e]; exact g1, fun z2 => g2 ?_⟩⟩
              unfold les at *
              omega
            · rw [if_neg e]; exact ⟨S1, g1, g2⟩
          · rw [upO_at]
            by_cases e0 : M = M0
            · subst e0
              rw [if_pos rfl]
              refine ⟨cand, rfl, ?_⟩
              have hs' := h3 M hM0 hne
              rw [ha0] at hs'
              rw [← hs'] at hs
              cases hs
              have hz := noc M s hM0 hs'.symm
              rcases hcb with ⟨z, -⟩ | ⟨-, rfl⟩
              · rw [hz] at z; cases z
              · unfold les; omega
            · obtain ⟨S1, g1, g2⟩ := h6 M S' (by omega) hne hs
              by_cases e : M ||| q = M0 ||| q
              · rw [if_pos e]
                refine ⟨cand, rfl, fun z => hno ⟨S1, by rw [← e]; exact g1, fun z2 => g2 ?_⟩⟩
                unfold les at *
                omega
              · rw [if_neg e]; exact ⟨S1, g1, g2⟩
        -- when it is not
        have leave : (∃ S1, A1 (M0 ||| q) = some S1 ∧ ¬ les cand S1) → ∀ S', M0 ||| q ≠ M0 → A M0 = some S' → ∃ S1, A1 (M0 ||| q) = some S1 ∧ ¬ les (S' + 2 ^ c) S1 := by
          rintro ⟨S1, g1, g2⟩ S' hne hs
          refine ⟨S1, g1, ?_⟩
          have hs' := h3 M0 hM0 hne
          rw [ha0] at hs'
          rw [← hs'] at hs
          cases hs
          have hz := noc M0 s hM0 hs'.symm
          rcases hcb with ⟨z, -⟩ | ⟨-, rfl⟩
          · rw [hz] at z; cases z
          · exact g2
        cases ha1 : A1 (M0 ||| q) with
        | none =>
          rw [if_pos (show o2i none = (-1 : Int32) from rfl)]
          exact take (by rintro ⟨S1, g1, -⟩; rw [ha1] at g1; cases g1)
        | some s' =>
          have s'lt := (h4 _ s' mq ha1).1
          rw [show o2i (some s') = nI s' from rfl, if_neg (nI_ne_m1 (by omega)), if_pos (inb_n (by omega) (by omega))]
          obtain ⟨b, b1, b2⟩ := isless_s (s := cand) (s' := s') clt s'lt (S := S)
          rw [b1, ob]
          simp only
          cases b
          · rw [b2i_f, if_pos rfl]
            exact nxt0 (leave ⟨s', ha1, fun z => by have := b2.mpr z; cases this⟩)
          · rw [b2i_t, if_neg (by decide)]
            exact take (by rintro ⟨S1, g1, g2⟩; rw [ha1] at g1; cases g1; exact g2 (b2.mp rfl))
  obtain ⟨A', S', r1, r2, r3, r4, r5, r6, r7⟩ := go (2 ^ (T 0 4)) 0 A S0 (by omega) h68 Off.rf (fun _ _ _ => rfl) (fun M S hM hS => by
    obtain ⟨g1, g2, g3⟩ := hA.1 M S hM hS
    exact ⟨g1, fun i hi => ⟨(g2 i hi).1, by have := (g2 i hi).2; omega⟩, g3⟩) (fun M S hM hS => ⟨S, hS, by unfold les; omega⟩) (fun M S hM => by omega)
  refine ⟨A', S', r1, r2, ⟨r5, fun M S hkb hS hFM => ?_⟩, r3⟩
  have hMl := FM_lt hFM
  cases hz : S.testBit c
  · have hkb' : kb a c S := fun i hi => ⟨(hkb i hi).1, by
      have := (hkb i hi).2
      have : i ≠ c := fun e => by rw [e, hz] at hi; cases hi
      omega⟩
    obtain ⟨S1, g1, g2⟩ := hA.2 M S hkb' hS hFM
    obtain ⟨S2, k1, k2⟩ := r6 M S1 hMl g1
    exact ⟨S2, k1, by unfold les at *; omega⟩
  · obtain ⟨S', e', hz'⟩ := sub_bitN hz
    obtain ⟨M', hM'⟩ := FM_ex D T n S'
    have hFM' := FM_add (by omega) hz' hM' hq
    rw [← e'] at hFM'
    have eM := FM_one hFM hFM'
    have hM'l := FM_lt hM'
    obtain ⟨o1, o2⟩ := ones_bitN (by omega : c < 14) hz'
    have hkb' : kb a c S' := fun i hi => by
      have hi2 : S.testBit i = true := by rw [e', o2, hi]; rfl
      have := hkb i hi2
      have : i ≠ c := fun e => by rw [e, hz'] at hi; cases hi
      exact ⟨(hkb i hi2).1, by omega⟩
    have hS' : S' ≤ S := by rw [e']; exact Nat.le_add_right _ _
    obtain ⟨S1, g1, g2⟩ := hA.2 M' S' hkb' (by omega) hM'
    obtain ⟨f1, -, -⟩ := hA.1 M' S1 hM'l g1
    have hz1 := noc M' S1 hM'l g1
    obtain ⟨o3, -⟩ := ones_bitN (by omega : c < 14) hz1
    rw [e'] at *
    by_cases hne : M' ||| q = M'
    · obtain ⟨S2, k1, k2⟩ := r6 M' S1 hM'l g1
      rw [eM, hne]
      refine ⟨S2, k1, ?_⟩
      unfold les at *
      omega
    · obtain ⟨S2, k1, k2⟩ := r7 M' S1 hM'l hne g1
      rw [eM]
      refine ⟨S2, k1, ?_⟩
      unfold les at *
      omega
end
