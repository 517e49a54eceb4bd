/-! Hands. -/
def ef (T : tL) (x : Int32) : Int32 := x ||| bs T x
def rc (T : tL) (u k : Nat) : Int32 := itr (ef T) k (bit u)
/-- p is within k steps of u -/
def bl (T : tL) (u k p : Nat) : Bool := bt (rc T u k) p
theorem ef_ok (T : tL) (x : Int32) (h : lowm x 12) : lowm (ef T x) 12 ∧ sub x (ef T x) := ⟨low_or h (bs_low T x), fun i q => by unfold ef; rw [b_or, q]; rfl⟩
theorem rc_s (T : tL) (u k : Nat) : rc T u (k + 1) = rc T u k ||| bs T (rc T u k) := itr_r _ _ _
theorem rc_low (T : tL) {u : Nat} (hu : u < 12) : ∀ k, lowm (rc T u k) 12
  | 0 => low_bit hu (by omega)
  | k + 1 => by rw [rc_s]; exact (ef_ok T _ (rc_low T hu k)).1
theorem bl_0 {T : tL} {u p : Nat} (hu : u < 12) : bl T u 0 p = true ↔ p = u := by
  show bt (bit u) p = true ↔ _
  rw [bt_bit (by omega), decide_eq_true_eq]
theorem bl_s {T : tL} {u k p : Nat} : bl T u (k + 1) p = true ↔ bl T u k p = true ∨ (p < 12 ∧ ∃ q, q < 12 ∧ bl T u k q = true ∧ adj T q p = true) := by
  unfold bl
  rw [rc_s, b_or, Bool.or_eq_true, bs_bt]
theorem bl_lt {T : tL} {u k p : Nat} (hu : u < 12) (h : bl T u k p = true) : p < 12 := by
  apply Classical.byContradiction
  intro q
  rw [show bl T u k p = false from rc_low T hu k p (by omega)] at h
  cases h
theorem bl_up {T : tL} {u p : Nat} : ∀ {j k : Nat}, j ≤ k → bl T u j p = true → bl T u k p = true := by
  intro j k
  induction k with
  | zero =>
    intro h1 h2
    rw [show j = 0 from by omega] at h2
    exact h2
  | succ k ih =>
    intro h1 h2
    by_cases e : j = k + 1
    · rw [← e]; exact h2
    · exact bl_s.mpr (Or.inl (ih (by omega) h2))
theorem adj_c (T : tL) (p q : Nat) : adj T p q = adj T q p := by
  unfold adj
  exact Bool.or_comm _ _
theorem bl_tri {T : tL} {u p : Nat} (hu : u < 12) (hp : p < 12) {i : Nat} (h : bl T u i p = true) : ∀ (j q : Nat), bl T p j q = true → bl T u (i + j) q = true
  | 0, q, hq => by
    rw [(bl_0 hp).mp hq]
    exact h
  | j + 1, q, hq => by
    rcases bl_s.mp hq with z | ⟨z1, z, z2, z3, z4⟩
    · exact bl_up (by omega) (bl_tri hu hp h j q z)
    · exact bl_s.mpr (Or.inr ⟨z1, z, z2, bl_tri hu hp h j z z3, z4⟩)
theorem bl_1 {T : tL} {p q : Nat} (hp : p < 12) (hq : q < 12) (h : adj T p q = true) : bl T p 1 q = true := bl_s.mpr (Or.inr ⟨hq, p, hp, (bl_0 hp).mpr rfl, h⟩)
theorem bl_sym {T : tL} {u : Nat} (hu : u < 12) : ∀ (k p : Nat), bl T u k p = true → bl T p k u = true
  | 0, p, h => by
    have := (bl_0 hu).mp h
    subst this
    exact h
  | k + 1, p, h => by
    rcases bl_s.mp h with z | ⟨z1, z, z2, z3, z4⟩
    · exact bl_up (by omega) (bl_sym hu k p z)
    · have := bl_tri z1 z2 (bl_1 z1 z2 (by rw [adj_c]; exact z4)) k u (bl_sym hu k z z3)
      rw [show 1 + k = k + 1 from by omega] at this
      exact this
theorem bl_cut {T : tL} {u : Nat} (hu : u < 12) {i : Nat} : ∀ (j q : Nat), bl T u (i + j) q = true → ∃ p, p < 12 ∧ bl T u i p = true ∧ bl T p j q = true
  | 0, q, h => ⟨q, bl_lt hu h, h, (bl_0 (bl_lt hu h)).mpr rfl⟩
  | j + 1, q, h => by
    rcases bl_s.mp h with z | ⟨z1, z, z2, z3, z4⟩
    · obtain ⟨p, p1, p2, p3⟩ := bl_cut hu j q z
      exact ⟨p, p1, p2, bl_up (by omega) p3⟩
    · obtain ⟨p, p1, p2, p3⟩ := bl_cut hu j z z3
      exact ⟨p, p1, p2, bl_s.mpr (Or.inr ⟨z1, z, z2, p3, z4⟩)⟩
theorem rc_11 (T : tL) {u : Nat} (hu : u < 12) : rc T u 12 = rc T u 11 := by
  show itr (ef T) 12 (bit u) = itr (ef T) 11 (bit u)
  rw [itr_r]
  obtain ⟨a, b⟩ := itr_fix (ef_ok T) 11 (bit u) (low_bit hu (by omega))
  rcases b with b | b
  · exact b
  · have h1 := ones_bit hu (n := 12) (by omega)
    have h2 := ones_le (itr (ef T) 11 (bit u)) 12
    have hf := ones_full (x := itr (ef T) 11 (bit u)) (n := 12) (by omega)
    refine low_ext (ef_ok T _ a).1 a (fun i hi => ?_)
    rw [hf i hi, (ef_ok T _ a).2 i (hf i hi)]
def dist (T : tL) (u p : Nat) : Option Nat := fst? (fun k => bl T u k p) 12 0
theorem fst_snoc (f : Nat → Bool) : ∀ k i, fst? f (k + 1) i = match fst? f k i with
    | some j => some j
    | none => if f (i + k) then some (i + k) else none
  | 0, i => rfl
  | k + 1, i => by
    rw [fst?, fst_snoc f k (i + 1), fst?]
    cases f i
    · rw [if_neg Bool.false_ne_true, if_neg Bool.false_ne_true, show i + 1 + k = i + (k + 1) from by omega]
    · rfl
theorem dist_some {T : tL} {u p k : Nat} : dist T u p = some k ↔ k < 12 ∧ bl T u k p = true ∧ ∀ j, j < k → bl T u j p = false := by
  constructor
  · intro h
    obtain ⟨⟨h1, h2⟩, h3, h4⟩ := fst_some h
    exact ⟨by omega, h3, fun j hj => h4 j (by omega) hj⟩
  · rintro ⟨h1, h2, h3⟩
    cases hd : dist T u p with
    | none =>
      have := fst_none.mp hd k (by omega) (by omega)
      rw [h2] at this
      cases this
    | some j =>
      obtain ⟨⟨g1, g2⟩, g3, g4⟩ := fst_some hd
      by_cases a : j < k
      · have := h3 j a
        rw [g3] at this
        cases this
      · by_cases b : k < j
        · have := g4 k (by omega) b
          rw [h2] at this
          cases this
        · rw [show j = k from by omega]
theorem bs_or (T : tL) (x y : Int32) (j : Nat) : bt (bs T (x ||| y)) j = (bt (bs T x) j || bt (bs T y) j) := by
  rw [Bool.eq_iff_iff, Bool.or_eq_true, bs_bt, bs_bt, bs_bt]
  constructor
  · rintro ⟨h0, p, h1, h2, h3⟩
    rw [b_or, Bool.or_eq_true] at h2
    rcases h2 with h2 | h2
    · exact Or.inl ⟨h0, p, h1, h2, h3⟩
    · exact Or.inr ⟨h0, p, h1, h2, h3⟩
  · rintro (⟨h0, p, h1, h2, h3⟩ | ⟨h0, p, h1, h2, h3⟩)
    · exact ⟨h0, p, h1, by rw [b_or, h2]; rfl, h3⟩
    · exact ⟨h0, p, h1, by rw [b_or, h2, Bool.or_true], h3⟩
/-- all that was seen ahead of step k, and the wave of it -/
def seen (T : tL) (u : Nat) : Nat → Int32
  | 0 => 0
  | k + 1 => rc T u k
def wave (T : tL) (u k : Nat) : Int32 := rc T u k &&& (seen T u k ^^^ (-1))
theorem seen_sub (T : tL) (u : Nat) : ∀ k, sub (seen T u k) (rc T u k)
  | 0 => fun i h => by rw [seen, b_0] at h; cases h
  | k + 1 => fun i h => by rw [rc_s, b_or]; rw [seen] at h; rw [h]; rfl
theorem seen_w (T : tL) (u k : Nat) : seen T u k ||| wave T u k = rc T u k := by
  apply b_ext
  intro i hi
  unfold wave
  rw [b_or, b_and, b_not _ hi]
  cases hs : bt (seen T u k) i
  · simp
  · rw [seen_sub T u k i hs]; rfl
theorem wave_s (T : tL) (u k : Nat) : bs T (wave T u k) &&& ((seen T u k ||| wave T u k) ^^^ (-1)) = wave T u (k + 1) := by
  rw [seen_w]
  apply b_ext
  intro i hi
  show _ = bt (rc T u (k + 1) &&& (rc T u k ^^^ (-1))) i
  rw [b_and, b_and, b_not _ hi, rc_s, b_or]
  cases hr : bt (rc T u k) i
  · rw [Bool.not_false, Bool.and_true, Bool.and_true, Bool.false_or]
    have e := bs_or T (seen T u k) (wave T u k) i
    rw [seen_w] at e
    rw [e]
    cases hz : bt (bs T (seen T u k)) i
    · rw [Bool.false_or]
    · exfalso
      cases k with
      | zero =>
        rw [bs_bt] at hz
        obtain ⟨-, p, -, h2, -⟩ := hz
        rw [seen, b_0] at h2
        cases h2
      | succ k =>
        rw [seen] at hz
        rw [rc_s, b_or, hz, Bool.or_true] at hr
        cases hr
  · simp
section
variable {n : Nat} {D : tD} {B : tB} {L T : tL} {X R : pS}
theorem meas_s (hl : Lrn T X) {u : Nat} (hu : u < 12) : ∃ X', Ci_measure_64 (nI u) X = some (0, X') ∧ (∀ p, p < 12 → X'.2.1 66 p = o2i (dist T u p)) ∧ Off [] [66] X X' := by
  have z : ∀ k i (S : pS), i + k = 12 → (∀ p, p < i → S.2.1 66 p = -1) → Off [] [66] X S → ∃ S', Ci_measure_64_c2 (nI u) (nI i) S = Ci_measure_64_c30 0 (bit u) 0 S' ∧ (∀ p, p < 12 → S'.2.1 66 p = -1) ∧ Off [] [66] X S' := by
    intro k
    induction k with
    | zero =>
      intro i S hi h1 h2
      have : i = 12 := by omega
      subst this
      exact ⟨S, by rw [Ci_measure_64_c2_eq, if_neg (by decide)]; rfl, h1, h2⟩
    | succ k ih =>
      intro i S hi h1 h2
      rw [Ci_measure_64_c2_eq, if_pos (show nI i < (12 : Int32) from nlt_t (n := 12) (by omega) (by omega)), if_pos (inb_n (by omega) (by omega)), nI_1]
      refine ih (i + 1) _ (by omega) (fun p hp => ?_) (h2.wA (by decide))
      rw [wA_21 (by omega), sA_eq, upd_at]
      by_cases e : p = i
      · rw [if_pos e]
      · rw [if_neg e]; exact h1 p (by omega)
  have inner : ∀ j p (se wv : Int32) (st : Nat) (S : pS), p + j = 12 → Off [] [66] X S → ∃ S', Ci_measure_64_c40 se wv (nI st) (nI p) S = (some (bs T wv, S')).bind (fun q2 => Ci_measure_64_c30 (se ||| wv) (q2.1 &&& ((se ||| wv) ^^^ (-1 : Int32))) (nI st + (1 : Int32)) q2.2) ∧ (∀ q, q < 12 → S'.2.1 66 q = if p ≤ q ∧ bt wv q = true then nI st else S.2.1 66 q) ∧ Off [] [66] X S' := by
    intro j
    induction j with
    | zero =>
      intro p se wv st S hp h2
      have : p = 12 := by omega
      subst this
      have hl' : Lrn T S := fun q hq => by rw [h2.2.1 65 (by decide)]; exact hl q hq
      refine ⟨S, ?_, fun q hq => ?_, h2⟩
      · rw [Ci_measure_64_c40_eq, if_neg (by decide), bsome_s hl']
      · rw [if_neg (by omega)]
    | succ j ih =>
      intro p se wv st S hp h2
      rw [Ci_measure_64_c40_eq, if_pos (show nI p < (12 : Int32) from nlt_t (n := 12) (by omega) (by omega)), holds_s _ (by omega), ob, nI_1]
      simp only
      cases hw : bt wv p
      · rw [b2i_f, if_pos rfl]
        obtain ⟨S', a1, a2, a3⟩ := ih (p + 1) se wv st S (by omega) h2
        refine ⟨S', a1, fun q hq => ?_, a3⟩
        rw [a2 q hq]
        by_cases e : q = p
        · subst e
          rw [if_neg (by omega), if_neg (by rw [hw]; simp)]
        · by_cases e2 : p + 1 ≤ q ∧ bt wv q = true
          · rw [if_pos e2, if_pos ⟨by omega, e2.2⟩]
          · rw [if_neg e2, if_neg (fun zz => e2 ⟨by omega, zz.2⟩)]
      · rw [b2i_t, if_neg (by decide), if_pos (inb_n (by omega) (by omega))]
        obtain ⟨S', a1, a2, a3⟩ := ih (p + 1) se wv st (wA S 66 (nI p) (nI st)) (by omega) (h2.wA (by decide))
        refine ⟨S', a1, fun q hq => ?_, a3⟩
        rw [a2 q hq, wA_21 (by omega), sA_eq, upd_at]
        by_cases e : q = p
        · subst e
          rw [if_neg (by omega), if_pos rfl, if_pos ⟨Nat.le_refl _, hw⟩]
        · rw [if_neg e]
          by_cases e2 : p + 1 ≤ q ∧ bt wv q = true
          · rw [if_pos e2, if_pos ⟨by omega, e2.2⟩]
          · rw [if_neg e2, if_neg (fun zz => e2 ⟨by omega, zz.2⟩)]
  have go : ∀ j k (S : pS), k + j = 12 → (∀ p, p < 12 → S.2.1 66 p = o2i (fst? (fun k => bl T u k p) k 0)) → Off [] [66] X S → ∃ S', Ci_measure_64_c30 (seen T u k) (wave T u k) (nI k) S = some (0, S') ∧ (∀ p, p < 12 → S'.2.1 66 p = o2i (dist T u p)) ∧ Off [] [66] X S' := by
    intro j
    induction j with
    | zero =>
      intro k S hk h1 h2
      have : k = 12 := by omega
      subst this
      exact ⟨S, by rw [Ci_measure_64_c30_eq, if_neg (by decide)], h1, h2⟩
    | succ j ih =>
      intro k S hk h1 h2
      obtain ⟨S1, a1, a2, a3⟩ := inner 12 0 (seen T u k) (wave T u k) k S rfl h2
      rw [Ci_measure_64_c30_eq, if_pos (show nI k < (12 : Int32) from nlt_t (n := 12) (by omega) (by omega)), show Ci_measure_64_c40 (seen T u k) (wave T u k) (nI k) (0 : Int32) S = _ from a1, ob, nI_1]
      simp only
      rw [wave_s, seen_w]
      refine ih (k + 1) S1 (by omega) (fun p hp => ?_) a3
      rw [a2 p hp, h1 p hp, fst_snoc, Nat.zero_add]
      have hw : bt (wave T u k) p = (bl T u k p && !bt (seen T u k) p) := by
        unfold wave bl
        rw [b_and, b_not _ (by omega)]
      cases hf : fst? (fun k => bl T u k p) k 0 with
      | some i =>
        obtain ⟨⟨g1, g2⟩, g3, -⟩ := fst_some hf
        have : bt (seen T u k) p = true := by
          cases k with
          | zero => omega
          | succ k => exact bl_up (by omega) g3
        rw [if_neg (by rw [hw, this]; simp)]
      | none =>
        have hn := fst_none.mp hf
        have : bt (seen T u k) p = false := by
          cases k with
          | zero => exact b_0 p
          | succ k => exact hn k (by omega) (by omega)
        rw [this, Bool.not_false, Bool.and_true] at hw
        simp only
        cases hb : bl T u k p
        · rw [if_neg (by rw [hw, hb]; simp), if_neg Bool.false_ne_true]
        · rw [if_pos ⟨Nat.zero_le _, by rw [hw, hb]⟩, if_pos rfl]; rfl
  obtain ⟨S1, b1, b2, b3⟩ := z 12 0 X rfl (fun p hp => by omega) Off.rf
  obtain ⟨S2, c1, c2, c3⟩ := go 12 0 S1 rfl (fun p hp => by rw [b2 p hp]; rfl) b3
  have e0 : wave T u 0 = bit u := by
    apply b_ext
    intro i hi
    show bt (bit u &&& ((0 : Int32) ^^^ (-1))) i = _
    rw [b_and, b_not _ hi, b_0, Bool.not_false, Bool.and_true]
  refine ⟨S2, ?_, c2, c3⟩
  rw [Ci_measure_64_eq, show Ci_measure_64_c2 (nI u) (0 : Int32) X = _ from b1, ← e0]
  exact c1
theorem lowest_s {x : Int32} {p : Nat} (hp : p < 32) (h1 : bt x p = true) (h2 : ∀ j, j < p → bt x j = false) {S : pS} : R_lowest x S = some (nI p, S) := by
  have go : ∀ k i, i + k = p → R_lowest_c2 x (nI i) S = some (nI p, S) := by
    intro k
    induction k with
    | zero =>
      intro i hi
      have : i = p := by omega
      subst this
      rw [R_lowest_c2_eq, R_hasS _ hp, ob, h1]
      rfl
    | succ k ih =>
      intro i hi
      rw [R_lowest_c2_eq, R_hasS _ (by omega), ob, h2 i (by omega), nI_1]
      exact ih (i + 1) (by omega)
  rw [R_lowest_eq]
  exact go p 0 (by omega)
end
