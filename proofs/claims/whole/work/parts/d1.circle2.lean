/-! Root, led, hears. -/
theorem itr_add (f : Int32 → Int32) : ∀ a b x, itr f (a + b) x = itr f a (itr f b x)
  | 0, b, x => by rw [Nat.zero_add]; rfl
  | a + 1, b, x => by rw [show a + 1 + b = (a + b) + 1 from by omega, itr_r, itr_add f a b x, itr_r f a]
theorem itr_same {f : Int32 → Int32} {x : Int32} {j k : Nat} (hj : f (itr f j x) = itr f j x) (hk : f (itr f k x) = itr f k x) : itr f j x = itr f k x := by
  rcases Nat.le_total j k with h | h
  · have := itr_add f (k - j) j x
    rw [show k - j + j = k from by omega, itr_stay hj] at this
    exact this.symm
  · have := itr_add f (j - k) k x
    rw [show j - k + k = j from by omega, itr_stay hk] at this
    exact this
/-- a loop that ends when nothing is new -/
theorem loopF {f : Int32 → Int32} {n : Nat} {F : Int32 → Int32 → Option (Int32 × pS)} {out : Int32 → Int32 × pS} (hf : ∀ x, lowm x n → lowm (f x) n ∧ sub x (f x)) (hF : ∀ s w, lowm s n → lowm w n → F s w = if w = s then some (out s) else F (f s) s) : ∀ (m : Nat) (s : Int32), lowm s n → n - ones s n ≤ m → ∃ k, f (itr f k s) = itr f k s ∧ F (f s) s = some (out (itr f k s)) := by
  intro m
  induction m with
  | zero =>
    intro s hs hm
    have e : f s = s := by
      apply Classical.byContradiction
      intro q
      have := sub_ne (hf s hs).2 hs (hf s hs).1 (Ne.symm q)
      have := ones_le (f s) n
      omega
    refine ⟨0, e, ?_⟩
    rw [hF _ _ (hf s hs).1 hs, if_pos e.symm, e]
    rfl
  | succ m ih =>
    intro s hs hm
    by_cases e : f s = s
    · refine ⟨0, e, ?_⟩
      rw [hF _ _ (hf s hs).1 hs, if_pos e.symm, e]
      rfl
    · have := sub_ne (hf s hs).2 hs (hf s hs).1 (Ne.symm e)
      obtain ⟨k, k1, k2⟩ := ih (f s) (hf s hs).1 (by omega)
      refine ⟨k + 1, k1, ?_⟩
      rw [hF _ _ (hf s hs).1 hs, if_neg (fun z => e z.symm)]
      exact k2
def clS (T : tL) (p : Nat) (m : Int32) : Int32 := match bq T p with
  | none => m
  | some b => if bt m b then m ||| bit p else m
def cl (T : tL) (x : Int32) : Int32 := lp (clS T) 12 0 x
def glS (T : tL) (p : Nat) (x : Int32) (o : Nat) (m : Int32) : Int32 := match bq T o with
  | none => m
  | some b => if b = p ∨ bt x b = true then m ||| bit o else m
def gl (T : tL) (p : Nat) (x : Int32) : Int32 := lp (glS T p x) 12 0 x
theorem clS_sub (T : tL) (p : Nat) (m : Int32) : sub m (clS T p m) := by
  intro i h
  unfold clS
  cases bq T p with
  | none => exact h
  | some b =>
    simp only
    cases bt m b
    · exact h
    · rw [if_pos rfl, b_or, h]; rfl
theorem glS_sub (T : tL) (p : Nat) (x : Int32) (o : Nat) (m : Int32) : sub m (glS T p x o m) := by
  intro i h
  unfold glS
  cases bq T o with
  | none => exact h
  | some b =>
    simp only
    by_cases q : b = p ∨ bt x b = true
    · rw [if_pos q, b_or, h]; rfl
    · rw [if_neg q]; exact h
theorem lp_sub {f : Nat → Int32 → Int32} (h : ∀ i m, sub m (f i m)) : ∀ k i m, sub m (lp f k i m)
  | 0, _, _ => sub_rf
  | k + 1, i, m => sub_tr (h i m) (lp_sub h k (i + 1) _)
theorem lp_low {f : Nat → Int32 → Int32} {n : Nat} (h : ∀ i m, i < n → lowm m n → lowm (f i m) n) : ∀ k i m, i + k ≤ n → lowm m n → lowm (lp f k i m) n
  | 0, _, _, _, hm => hm
  | k + 1, i, m, hi, hm => lp_low h k (i + 1) _ (by omega) (h i m (by omega) hm)
theorem clS_low {T : tL} (i : Nat) (m : Int32) (hi : i < 12) (hm : lowm m 12) : lowm (clS T i m) 12 := by
  unfold clS
  cases bq T i with
  | none => exact hm
  | some b =>
    simp only
    cases bt m b
    · exact hm
    · exact low_or hm (low_bit hi (by omega))
theorem glS_low {T : tL} {p : Nat} {x : Int32} (i : Nat) (m : Int32) (hi : i < 12) (hm : lowm m 12) : lowm (glS T p x i m) 12 := by
  unfold glS
  cases bq T i with
  | none => exact hm
  | some b =>
    simp only
    by_cases q : b = p ∨ bt x b = true
    · rw [if_pos q]; exact low_or hm (low_bit hi (by omega))
    · rw [if_neg q]; exact hm
theorem cl_ok (T : tL) (x : Int32) (h : lowm x 12) : lowm (cl T x) 12 ∧ sub x (cl T x) := ⟨lp_low clS_low 12 0 x (by omega) h, lp_sub (clS_sub T) 12 0 x⟩
theorem gl_ok (T : tL) (p : Nat) (x : Int32) (h : lowm x 12) : lowm (gl T p x) 12 ∧ sub x (gl T p x) := ⟨lp_low glS_low 12 0 x (by omega) h, lp_sub (glS_sub T p x) 12 0 x⟩
theorem cl_in {T : tL} {q b : Nat} (hq : bq T q = some b) : ∀ k i m, i ≤ q → q < i + k → q < 32 → bt m b = true → bt (lp (clS T) k i m) q = true
  | 0, i, m, h1, h2, _, _ => by omega
  | k + 1, i, m, h1, h2, h3, hb => by
    rw [lp]
    by_cases e : i = q
    · subst e
      apply lp_sub (clS_sub T)
      unfold clS
      rw [hq]
      simp only
      rw [hb, if_pos rfl, b_or, bt_bit h3, decide_eq_true rfl, Bool.or_true]
    · exact cl_in hq k (i + 1) _ (by omega) (by omega) h3 (clS_sub T i m b hb)
theorem gl_in {T : tL} {p q b : Nat} {x : Int32} (hq : bq T q = some b) (hb : b = p ∨ bt x b = true) : ∀ k i m, i ≤ q → q < i + k → q < 32 → bt (lp (glS T p x) k i m) q = true
  | 0, i, m, h1, h2, _ => by omega
  | k + 1, i, m, h1, h2, h3 => by
    rw [lp]
    by_cases e : i = q
    · subst e
      apply lp_sub (glS_sub T p x)
      unfold glS
      rw [hq]
      simp only
      rw [if_pos hb, b_or, bt_bit h3, decide_eq_true rfl, Bool.or_true]
    · exact gl_in hq hb k (i + 1) _ (by omega) (by omega) h3
theorem cl_snd {T : tL} {p : Nat} {K : Nat → Prop} (hK : ∀ q b, q < 12 → bq T q = some b → (b = p ∨ K b) → K q) : ∀ k i m, i + k ≤ 12 → (∀ j, bt m j = true → j = p ∨ K j) → ∀ j, bt (lp (clS T) k i m) j = true → j = p ∨ K j
  | 0, _, _, _, h => h
  | k + 1, i, m, hi, h => by
    refine cl_snd hK k (i + 1) _ (by omega) (fun j hj => ?_)
    unfold clS at hj
    cases hb : bq T i with
    | none => rw [hb] at hj; exact h j hj
    | some b =>
      rw [hb] at hj
      simp only at hj
      cases hm : bt m b
      · rw [hm, if_neg Bool.false_ne_true] at hj; exact h j hj
      · rw [hm, if_pos rfl, b_or, bt_bit (by omega), Bool.or_eq_true, decide_eq_true_eq] at hj
        rcases hj with hj | hj
        · exact h j hj
        · subst hj
          exact Or.inr (hK j b (by omega) hb (h b hm))
theorem gl_snd {T : tL} {p : Nat} {x : Int32} {K : Nat → Prop} (hK : ∀ q b, q < 12 → bq T q = some b → (b = p ∨ K b) → K q) (hx : ∀ j, bt x j = true → K j) : ∀ k i m, i + k ≤ 12 → (∀ j, bt m j = true → K j) → ∀ j, bt (lp (glS T p x) k i m) j = true → K j
  | 0, _, _, _, h => h
  | k + 1, i, m, hi, h => by
    refine gl_snd hK hx k (i + 1) _ (by omega) (fun j hj => ?_)
    unfold glS at hj
    cases hb : bq T i with
    | none => rw [hb] at hj; exact h j hj
    | some b =>
      rw [hb] at hj
      simp only at hj
      by_cases q : b = p ∨ bt x b = true
      · rw [if_pos q, b_or, bt_bit (by omega), Bool.or_eq_true, decide_eq_true_eq] at hj
        rcases hj with hj | hj
        · exact h j hj
        · subst hj
          exact hK j b (by omega) hb (q.imp id (hx b))
      · rw [if_neg q] at hj; exact h j hj
theorem itr_snd {f : Int32 → Int32} {K : Nat → Prop} (hf : ∀ x, (∀ j, bt x j = true → K j) → ∀ j, bt (f x) j = true → K j) : ∀ k x, (∀ j, bt x j = true → K j) → ∀ j, bt (itr f k x) j = true → K j
  | 0, _, h => h
  | k + 1, x, h => itr_snd hf k (f x) (hf x h)
def ledM (T : tL) (p : Nat) : Int32 := itr (cl T) 12 (bit p) &&& (bit p ^^^ (-1))
theorem ledM_low {T : tL} {p : Nat} (hp : p < 12) : lowm (ledM T p) 12 := low_and (itr_12 (cl_ok T) (low_bit hp (by omega)) (ones_bit hp (by omega))).1
/-- both ways to the same set -/
theorem led_same {T : tL} {p k : Nat} (hp : p < 12) (hk : gl T p (itr (gl T p) k 0) = itr (gl T p) k 0) : itr (gl T p) k 0 &&& (bit p ^^^ (-1)) = ledM T p := by
  obtain ⟨c1, c2⟩ := itr_12 (cl_ok T) (low_bit hp (by omega)) (ones_bit hp (by omega))
  have cp : bt (itr (cl T) 12 (bit p)) p = true := by
    have : ∀ k x, lowm x 12 → sub x (itr (cl T) k x) := by
      intro k
      induction k with
      | zero => exact fun x _ => sub_rf
      | succ k ih => exact fun x hx => sub_tr (cl_ok T x hx).2 (ih _ (cl_ok T x hx).1)
    exact this 12 (bit p) (low_bit hp (by omega)) p (by rw [bt_bit (by omega)]; exact decide_eq_true rfl)
  have ccl : ∀ q b, q < 12 → bq T q = some b → bt (itr (cl T) 12 (bit p)) b = true → bt (itr (cl T) 12 (bit p)) q = true := by
    intro q b hq hb h
    have := cl_in hb 12 0 (itr (cl T) 12 (bit p)) (by omega) (by omega) (by omega) h
    rw [show lp (clS T) 12 0 (itr (cl T) 12 (bit p)) = itr (cl T) 12 (bit p) from c2] at this
    exact this
  have qcl : ∀ q b, q < 12 → bq T q = some b → (b = p ∨ bt (itr (gl T p) k 0) b = true) → bt (itr (gl T p) k 0) q = true := by
    intro q b hq hb h
    have := gl_in hb h 12 0 (itr (gl T p) k 0) (by omega) (by omega) (by omega)
    rw [show lp (glS T p (itr (gl T p) k 0)) 12 0 (itr (gl T p) k 0) = itr (gl T p) k 0 from hk] at this
    exact this
  have h1 : ∀ j, bt (itr (gl T p) k 0) j = true → bt (itr (cl T) 12 (bit p)) j = true := by
    refine itr_snd (K := fun j => bt (itr (cl T) 12 (bit p)) j = true) (fun x hx => ?_) k 0 (fun j h => by rw [b_0] at h; cases h)
    refine gl_snd (fun q b hq hb h => ccl q b hq hb ?_) hx 12 0 x (by omega) hx
    rcases h with rfl | h
    · exact cp
    · exact h
  have h2 : ∀ j, bt (itr (cl T) 12 (bit p)) j = true → j = p ∨ bt (itr (gl T p) k 0) j = true := by
    refine itr_snd (K := fun j => j = p ∨ bt (itr (gl T p) k 0) j = true) (fun x hx => ?_) 12 (bit p) (fun j h => ?_)
    · exact cl_snd (K := fun j => bt (itr (gl T p) k 0) j = true) qcl 12 0 x (by omega) hx
    · rw [bt_bit (by omega), decide_eq_true_eq] at h
      exact Or.inl h
  unfold ledM
  apply b_ext
  intro i hi
  rw [b_and, b_and, b_not _ hi, bt_bit (by omega)]
  by_cases e : i = p
  · rw [decide_eq_true e]; simp
  · rw [decide_eq_false e, Bool.not_false, Bool.and_true, Bool.and_true, Bool.eq_iff_iff]
    exact ⟨h1 i, fun h => (h2 i h).resolve_left e⟩
section
variable {n : Nat} {D : tD} {B : tB} {L T : tL} {X R : pS}
theorem ledX (hT : WT n T) (hX : XT 3 T X) {p : Nat} (hp : p < 12) : Ci_ledBy_64 (nI p) X = some (ledM T p, X) := by
  have inner : ∀ k i m (l3 : Int32), i + k = 12 → Ci_ledBy_64_c15 (nI p) m l3 (nI i) X = Ci_ledBy_64_c6 (nI p) (lp (clS T) k i m) (l3 + 1) X := by
    intro k
    induction k with
    | zero =>
      intro i m l3 hi
      have : i = 12 := by omega
      subst this
      rw [Ci_ledBy_64_c15_eq, if_neg (by decide)]; rfl
    | succ k ih =>
      intro i m l3 hi
      have hx : X.2.1 12 i = o2i (bq T i) := by rw [← bq_i]; exact hX.2.2.1 i (by omega)
      rw [Ci_ledBy_64_c15_eq, if_pos (show nI i < (12 : Int32) from nlt_t (n := 12) (by omega) (by omega)), intro_3 (by omega), ob, hx, lp, nI_1]
      simp only
      unfold clS at *
      cases hb : bq T i with
      | none =>
        rw [if_pos (show o2i none = (-1 : Int32) from rfl)]
        exact ih (i + 1) m l3 (by omega)
      | some b =>
        have hb12 := bq_lt (hT.2.1 i (by omega)) hb
        rw [show o2i (some b) = nI b from rfl, if_neg (nI_ne_m1 (by omega)), holds_s _ (by omega), ob]
        simp only
        cases bt m b
        · rw [b2i_f, if_pos rfl, if_neg Bool.false_ne_true]; exact ih (i + 1) m l3 (by omega)
        · rw [b2i_t, if_neg (by decide), if_pos rfl]; exact ih (i + 1) _ l3 (by omega)
  have outer : ∀ k i m, i + k = 12 → Ci_ledBy_64_c6 (nI p) m (nI i) X = some (itr (cl T) k m &&& (bit p ^^^ (-1)), X) := by
    intro k
    induction k with
    | zero =>
      intro i m hi
      have : i = 12 := by omega
      subst this
      rw [Ci_ledBy_64_c6_eq, if_neg (by decide)]; rfl
    | succ k ih =>
      intro i m hi
      rw [Ci_ledBy_64_c6_eq, if_pos (show nI i < (12 : Int32) from nlt_t (n := 12) (by omega) (by omega)), show Ci_ledBy_64_c15 (nI p) m (nI i) (0 : Int32) X = _ from inner 12 0 m (nI i) rfl, nI_1]
      exact ih (i + 1) _ (by omega)
  rw [Ci_ledBy_64_eq]
  exact outer 12 0 (bit p) rfl
theorem ledR (hT : WT n T) (hR : RTm T R) {p : Nat} (hp : p < 12) : R_ledBy (nI p) R = some (ledM T p, R) := by
  have inner : ∀ k i m (w : Int32), i + k = 12 → R_ledBy_c14 (nI p) m w (nI i) R = R_ledBy_c4 (nI p) (lp (glS T p w) k i m) w R := by
    intro k
    induction k with
    | zero =>
      intro i m w hi
      have : i = 12 := by omega
      subst this
      rw [R_ledBy_c14_eq, if_neg (by decide)]; rfl
    | succ k ih =>
      intro i m w hi
      have hbl : ∀ q, bq T i = some q → q < 2147483648 := fun q e => by have := bq_lt (hT.2.1 i (by omega)) e; omega
      rw [R_ledBy_c14_eq, if_pos (show nI i < (12 : Int32) from nlt_t (n := 12) (by omega) (by omega)), intr_s hR (by omega), ob, lp, nI_1]
      simp only
      unfold glS at *
      cases hb : bq T i with
      | none =>
        rw [if_pos (show o2i none = (-1 : Int32) from rfl)]
        exact ih (i + 1) m w (by omega)
      | some b =>
        have hb12 := bq_lt (hT.2.1 i (by omega)) hb
        rw [show o2i (some b) = nI b from rfl, if_neg (nI_ne_m1 (by omega)), intr_s hR (by omega), ob, hb]
        simp only
        rw [show o2i (some b) = nI b from rfl]
        by_cases q : b = p
        · rw [if_pos (by rw [q]), if_pos (Or.inl q), R_ledBy_c55_eq, nI_1]; exact ih (i + 1) _ w (by omega)
        · rw [if_neg (neq_f q (by omega) (by omega)), intr_s hR (by omega), ob, hb]
          simp only
          rw [show o2i (some b) = nI b from rfl, R_hasS _ (by omega), ob]
          simp only
          rw [R_ledBy_c55_eq, nI_1]
          cases hw : bt w b
          · rw [b2i_f, if_pos rfl, if_neg (by rintro (z | z); exact q z; cases z)]; exact ih (i + 1) m w (by omega)
          · rw [b2i_t, if_neg (by decide), if_pos (Or.inr rfl)]; exact ih (i + 1) _ w (by omega)
  have step : ∀ s w, R_ledBy_c4 (nI p) s w R = if w = s then some ((s &&& (bit p ^^^ (-1)), R) : Int32 × pS) else R_ledBy_c4 (nI p) (gl T p s) s R := by
    intro s w
    rw [R_ledBy_c4_eq, show R_ledBy_c14 (nI p) s s (0 : Int32) R = _ from inner 12 0 s s rfl]
    rfl
  obtain ⟨k, k1, k2⟩ := loopF (F := fun s w => R_ledBy_c4 (nI p) s w R) (out := fun s => (s &&& (bit p ^^^ (-1)), R)) (gl_ok T p) (fun s w _ _ => step s w) 12 0 low_0 (by omega)
  rw [R_ledBy_eq, step, if_neg (by decide)]
  exact k2.trans (congrArg (fun v => some (v, R)) (led_same hp k1))
end
theorem q_led {X R : pS} (a : Int32) (h : INV X R) : Gd (C_led a) (R_led a) X R := by
  obtain ⟨-, -, -, -, n, D, B, L, T, hw, hX, hR, -⟩ := id h
  have hR0 := RA_off hR told0
  have w : C_within a (12 : Int32) X = _ := within_s a 12 (S := X)
  cases e : inr a 12
  · rw [e] at w
    exact Gd_of h (v := -1) (by rw [C_led_eq, w, ob]; rfl) Off.rf (by rw [R_led_eq, isPerson_s, e, ob]; rfl) told0
  · rw [e] at w
    obtain ⟨p, hp, rfl⟩ := inr_t (by omega) e
    refine Gd_of h (v := ledM T p) ?_ Off.rf ?_ told0
    · rw [C_led_eq, w, ob]
      simp only [b2t, if_false, ledX hw.2.2.2 hX.2.2.2 hp, ob]
    · rw [R_led_eq, isPerson_s, e, ob]
      simp only [b2t, if_false, ledR hw.2.2.2 hR0.2.2.2 hp, ob]
theorem q_root {X R : pS} (a : Int32) (h : INV X R) : Gd (C_root a) (R_root a) X R := by
  obtain ⟨-, -, -, -, n, D, B, L, T, hw, hX, hR, -⟩ := id h
  have hR0 := RA_off hR told0
  have hT := hw.2.2.2
  have w : C_within a (12 : Int32) X = _ := within_s a 12 (S := X)
  cases e : inr a 12
  · rw [e] at w
    exact Gd_of h (v := -1) (by rw [C_root_eq, w, ob]; rfl) Off.rf (by rw [R_root_eq, isPerson_s, e, ob]; rfl) told0
  · rw [e] at w
    obtain ⟨p, hp, rfl⟩ := inr_t (by omega) e
    have go : ∀ k i (s : Int32) (p : Nat), i + k = 12 → p < 12 → bt s p = false → i ≤ ones s 12 → ∃ v, Ci_rootOf_64_c7 s (nI p) (nI i) X = some (v, X) ∧ R_root_c21 (nI p) (s ||| bit p) (wF R 0 0 0) = some (v, wF R 0 0 0) := by
      intro k
      induction k with
      | zero =>
        intro i s p hi hp hs ho
        have := ones_le s 12
        have := ones_full (x := s) (n := 12) (by omega) p hp
        rw [hs] at this
        cases this
      | succ k ih =>
        intro i s p hi hp hs ho
        have hx : X.2.1 12 p = o2i (bq T p) := by rw [← bq_i]; exact hX.2.2.2.2.2.1 p hp
        rw [Ci_rootOf_64_c7_eq, if_pos (show nI i < (12 : Int32) from nlt_t (n := 12) (by omega) (by omega)), intro_3 hp, ob, hx]
        simp only
        rw [show C_within (o2i (bq T p)) (12 : Int32) X = _ from within_s _ 12, ob, R_root_c21_eq, intr_s hR0.2.2.2 hp, ob, nI_1]
        simp only
        cases hb : bq T p with
        | none =>
          rw [show inr (o2i none) 12 = false from rfl, b2i_f, if_pos rfl, if_pos (show o2i none = (-1 : Int32) from rfl)]
          exact ⟨nI p, rfl, rfl⟩
        | some b =>
          have hb12 := bq_lt (hT.2.1 p hp) hb
          rw [show o2i (some b) = nI b from rfl, inr_n hb12 (by omega), b2i_t, if_neg (by decide), if_neg (nI_ne_m1 (by omega)), holds_s _ (by omega), ob, intr_s hR0.2.2.2 hp, ob, hb]
          simp only
          rw [show o2i (some b) = nI b from rfl, R_hasS _ (by omega), ob, show s ||| (1 : Int32) <<< (nI p &&& 31) = s ||| bit p from rfl]
          simp only
          cases hq : bt (s ||| bit p) b
          · rw [b2i_f, if_pos rfl, if_pos rfl]
            have := ones_or (n := 12) hp (by omega) hs
            exact ih (i + 1) (s ||| bit p) b (by omega) hb12 hq (by omega)
          · rw [b2i_t, if_neg (by decide), if_neg (by decide)]
            exact ⟨nI b, rfl, rfl⟩
    obtain ⟨v, v1, v2⟩ := go 12 0 0 p rfl hp (b_0 p) (by omega)
    have e0 : (0 : Int32) ||| bit p = bit p := b_ext (fun i _ => by rw [b_or, b_0]; rfl)
    rw [e0] at v2
    have v1 : Ci_rootOf_64 (nI p) X = some (v, X) := (Ci_rootOf_64_eq _ _).trans v1
    refine Gd_of h (v := v) ?_ Off.rf ?_ told0
    · rw [C_root_eq, w, ob]
      simp only [b2t, if_false, v1, ob]
    · rw [R_root_eq, isPerson_s, e, ob]
      simp only [b2t, if_false]
      exact v2
def hf (T : tL) (nt x : Int32) : Int32 := x ||| (bs T x &&& (nt ^^^ (-1)))
theorem hf_ok (T : tL) (nt x : Int32) (h : lowm x 12) : lowm (hf T nt x) 12 ∧ sub x (hf T nt x) := ⟨low_or h (low_and (bs_low T x)), fun i q => by unfold hf; rw [b_or, q]; rfl⟩
theorem q_hears {X R : pS} (a b : Int32) (h : INV X R) : Gd (C_hears a b) (R_hears a b) X R := by
  obtain ⟨-, -, -, -, n, D, B, L, T, hw, hX, hR, -⟩ := id h
  have hR0 := RA_off hR told0
  have hT := hw.2.2.2
  have w : C_within a (4096 : Int32) X = _ := within_s a 4096 (S := X)
  have w2 : C_within b (12 : Int32) X = _ := within_s b 12 (S := X)
  have i1 : R_isIn a (0 : Int32) (4095 : Int32) (wF R 0 0 0) = _ := isIn_s a 4096 (by omega)
  cases e : inr a 4096
  · rw [e] at w i1
    exact Gd_of h (v := -1) (by rw [C_hears_eq, w, ob]; rfl) Off.rf (by rw [R_hears_eq, i1, ob]; rfl) told0
  · rw [e] at w i1
    cases e2 : inr b 12
    · rw [e2] at w2
      refine Gd_of h (v := -1) ?_ Off.rf ?_ told0
      · rw [C_hears_eq, w, ob]; simp only [b2t, if_false, w2, ob, b2f, if_true]
      · rw [R_hears_eq, i1, ob]; simp only [b2t, if_false, isPerson_s, e2, ob, b2f, if_true]
    · rw [e2] at w2
      obtain ⟨p, hp, rfl⟩ := inr_t (by omega) e2
      cases e3 : bt a p
      · obtain ⟨X', l1, l2, l3⟩ := learn_s hT hX.2.2.2
        have cgo : ∀ k i m, i + k = 12 → Ci_hearers_64_c12 a m (nI i) X' = some (itr (hf T a) k m, X') := by
          intro k
          induction k with
          | zero =>
            intro i m hi
            have : i = 12 := by omega
            subst this
            rw [Ci_hearers_64_c12_eq, if_neg (by decide)]; rfl
          | succ k ih =>
            intro i m hi
            rw [Ci_hearers_64_c12_eq, if_pos (show nI i < (12 : Int32) from nlt_t (n := 12) (by omega) (by omega)), bsome_s l2, ob, nI_1]
            exact ih (i + 1) _ (by omega)
        have step : ∀ s w', R_hears_c43 a s w' (wF R 0 0 0) = if w' = s then some ((s, wF R 0 0 0) : Int32 × pS) else R_hears_c43 a (hf T a s) s (wF R 0 0 0) := by
          intro s w'
          rw [R_hears_c43_eq, ball_s hT hR0.2.2.2, ob]
          rfl
        obtain ⟨k, k1, k2⟩ := loopF (F := fun s w => R_hears_c43 a s w (wF R 0 0 0)) (out := fun s => (s, wF R 0 0 0)) (hf_ok T a) (fun s w _ _ => step s w) 12 (bit p) (low_bit hp (by omega)) (by omega)
        have fx := (itr_12 (hf_ok T a) (low_bit hp (by omega)) (ones_bit hp (by omega))).2
        rw [itr_same k1 fx] at k2
        refine Gd_of h (v := itr (hf T a) 12 (bit p)) (X' := X') ?_ (l3.mono (by simp) (by simp)) ?_ told0
        · rw [C_hears_eq, w, ob]
          simp only [b2t, if_false, w2, ob, holds_s a (show p < 32 by omega), e3, b2f, if_true, Ci_hearers_64_eq, l1]
          rw [show Ci_hearers_64_c12 a ((1 : Int32) <<< (nI p &&& 31)) (0 : Int32) X' = _ from cgo 12 0 (bit p) rfl]
          rfl
        · rw [R_hears_eq, i1, ob]
          simp only [b2t, if_false, isPerson_s, e2, ob, R_hasS a (show p < 32 by omega), e3, b2f, if_true]
          rw [show R_hears_c43 a ((1 : Int32) <<< (nI p &&& 31)) (0 : Int32) (wF R 0 0 0) = _ from step (bit p) 0, if_neg (fun z => by
            have : bt (bit p) p = true := by rw [bt_bit (by omega)]; exact decide_eq_true rfl
            rw [← z, b_0] at this
            cases this)]
          exact k2
      · refine Gd_of h (v := -1) ?_ Off.rf ?_ told0
        · rw [C_hears_eq, w, ob]
          simp only [b2t, if_false, w2, ob, holds_s a (show p < 32 by omega), e3]
        · rw [R_hears_eq, i1, ob]
          simp only [b2t, if_false, isPerson_s, e2, ob, R_hasS a (show p < 32 by omega), e3]
