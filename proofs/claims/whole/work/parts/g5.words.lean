/-! The words of the texts. -/
def offs : List Nat := [0, 6, 11, 17, 22, 25, 29, 33, 40, 45, 51, 56, 61, 66, 71, 75, 79, 82, 87, 90, 93, 99, 104, 109, 114]
/-- the blank before word w; how long the word is -/
def wo (w : Nat) : Nat := offs.getD w 0
def wn (w : Nat) : Nat := wo (w + 1) - wo w - 1
def wd (i : Nat) : Nat := wds.getD i 0
def wch (w k : Nat) : Nat := if k < wn w then wd (wo w + 1 + k) else 32
theorem wT1 : ∀ w, w < 24 → ∀ k, k < 6 → ((((pTx 0).getD (6 * w + k) 0 &&& (255 : Int32))).toUInt32 % 65536).toInt32 = nI (wch w k) ∧ pBool 2 (nI (wch w k)) = true := by decide +kernel
theorem wT2 : ∀ w, w < 24 → wo (w + 1) = wo w + 1 + wn w ∧ wo (w + 1) ≤ 114 ∧ 1 ≤ wn w ∧ wn w ≤ 6 ∧ wd (wo w + 1 + wn w) = 32 := by decide +kernel
theorem wT3 : ∀ w, w < 24 → ∀ k, k < wn w → wd (wo w + 1 + k) ≠ 32 ∧ wd (wo w + 1 + k) < 256 := by decide +kernel
theorem chAt {w k : Nat} (hw : w < 24) (hk : k < 6) {S : pS} : J_charAt_t0 (nI (6 * w + k)) S = some (nI (wch w k), S) := by
  obtain ⟨h1, h2⟩ := wT1 w hw k hk
  rw [J_charAt_t0_eq, J_isLatin1_t0_eq, ob, if_neg (show ¬ (1 : Int32) = 0 by decide), J_charAtL_t0_eq, J_checkIndex_eq, J_checkIndexP_f0_eq, if_neg (nI_pos (by omega)), if_pos (show nI (6 * w + k) < (144 : Int32) from nlt_t (n := 144) (by omega) (by omega)), ob, ob]
  simp only []
  rw [nI_clamp (by omega), h1, if_pos (inb_n (show 6 * w + k < (pTx 0).length by rw [show (pTx 0).length = 144 from rfl]; omega) (by omega)), if_pos h2, ob]
  simp only []
  rw [if_pos h2]
/-- the letters from s till e are word w -/
def MW (b : Nat → Nat) (s e w : Nat) : Prop := e = s + wn w ∧ ∀ k, k < wn w → wd (wo w + 1 + k) = b (s + k)
def atc (b : Nat → Nat) (s e k : Nat) : Nat := if s + k < e then b (s + k) else 32
theorem MW_iff {b : Nat → Nat} {s e w : Nat} (hw : w < 24) (hs : s < e) (h6 : e ≤ s + 6) (hb : ∀ i, s ≤ i → i < e → b i ≠ 32) : MW b s e w ↔ ∀ k, k < 6 → wch w k = atc b s e k := by
  obtain ⟨t1, t2, t3, t4, t5⟩ := wT2 w hw
  have t6 := wT3 w hw
  unfold MW wch atc
  constructor
  · rintro ⟨h1, h2⟩ k hk
    by_cases q : k < wn w
    · rw [if_pos q, if_pos (by omega)]; exact h2 k q
    · rw [if_neg q, if_neg (by omega)]
  · intro h
    have h1 : e = s + wn w := by
      rcases Nat.lt_trichotomy e (s + wn w) with q | q | q
      · have := h (e - s) (by omega)
        rw [if_pos (by omega), if_neg (by omega)] at this
        exact absurd this (t6 (e - s) (by omega)).1
      · exact q
      · have := h (wn w) (by omega)
        rw [if_neg (by omega), if_pos (by omega)] at this
        exact absurd this.symm (hb _ (by omega) (by omega))
    refine ⟨h1, fun k hk => ?_⟩
    have := h k (by omega)
    rw [if_pos hk, if_pos (by omega)] at this
    exact this
/-- which word, 24 for none -/
def WIx (b : Nat → Nat) (s e x : Nat) : Prop := (∀ w, w < x → ¬ MW b s e w) ∧ ((x < 24 ∧ MW b s e x) ∨ x = 24)
theorem WIx_ex (b : Nat → Nat) (s e : Nat) : ∃ x, WIx b s e x := by
  have go : ∀ m x, x + m = 24 → (∀ w, w < x → ¬ MW b s e w) → ∃ x, WIx b s e x := by
    intro m
    induction m with
    | zero => intro x hx h; exact ⟨24, by rw [show x = 24 by omega] at h; exact ⟨h, Or.inr rfl⟩⟩
    | succ m ih =>
      intro x hx h
      by_cases q : MW b s e x
      · exact ⟨x, h, Or.inl ⟨by omega, q⟩⟩
      · refine ih (x + 1) (by omega) (fun w hw => ?_)
        by_cases z : w = x
        · rw [z]; exact q
        · exact h w (by omega)
  exact go 24 0 rfl (fun w hw => by omega)
/-! the class -/
theorem isW {b : Nat → Nat} {s e w len : Nat} {X : pS} (hX : ∀ i, i < len → b i < 256 ∧ X.2.1 47 i = nI (b i)) (hl : len ≤ 400) (hw : w < 24) (hs : s < e) (he : e ≤ len) : ∀ m k, k + m = 6 → ((∀ j, k ≤ j → j < 6 → wch w j = atc b s e j) → Ta_isWord_46_c3 (nI w) (nI s) (nI e) (nI k) X = some (1, X)) ∧ ((¬ ∀ j, k ≤ j → j < 6 → wch w j = atc b s e j) → Ta_isWord_46_c3 (nI w) (nI s) (nI e) (nI k) X = some (0, X)) := by
  intro m
  induction m with
  | zero =>
    intro k hk
    have : k = 6 := by omega
    subst this
    refine ⟨fun _ => by rw [Ta_isWord_46_c3_eq, if_neg (by decide)], fun h => absurd (fun j h1 h2 => by omega) h⟩
  | succ m ih =>
    intro k hk
    have hb : ∀ i, atc b s e i < 256 := fun i => by
      unfold atc
      by_cases q : s + i < e
      · rw [if_pos q]; exact (hX _ (by omega)).1
      · rw [if_neg q]; omega
    have hwc : wch w k < 256 := by
      unfold wch
      by_cases q : k < wn w
      · rw [if_pos q]; exact (wT3 w hw k q).2
      · rw [if_neg q]; omega
    have st : Ta_isWord_46_c3 (nI w) (nI s) (nI e) (nI k) X = if wch w k = atc b s e k then Ta_isWord_46_c3 (nI w) (nI s) (nI e) (nI (k + 1)) X else some (0, X) := by
      have e1 : Ta_isWord_46_c3 (nI w) (nI s) (nI e) (nI k) X = Ta_isWord_46_c32 (nI w) (nI s) (nI e) (nI k) (nI (atc b s e k)) X := by
        rw [Ta_isWord_46_c3_eq, if_pos (show nI k < (6 : Int32) from nlt_t (n := 6) (by omega) (by omega)), nI_add]
        unfold atc
        by_cases q : s + k < e
        · rw [if_pos (nlt_t q (by omega)), if_pos q, if_pos (inb_n (by omega) (by omega)), rA_n (by omega), (hX _ (by omega)).2]
        · rw [if_neg (nlt_f q (by omega) (by omega)), if_neg q]; rfl
      rw [e1, Ta_isWord_46_c32_eq, show (nI w * (6 : Int32)) + nI k = nI (6 * w + k) from by rw [show (6 : Int32) = nI 6 from rfl, pk_mul, nI_add, Nat.mul_comm], chAt hw (by omega), ob]
      simp only []
      rw [show nI k + (1 : Int32) = nI (k + 1) from nI_1 k]
      by_cases q : wch w k = atc b s e k
      · rw [if_pos q, if_pos (by rw [q])]
      · have := hb k
        rw [if_neg q, if_neg (by rw [nI_eqE (by omega) (by omega)]; exact q)]
    obtain ⟨i1, i2⟩ := ih (k + 1) (by omega)
    refine ⟨fun h => ?_, fun h => ?_⟩
    · rw [st, if_pos (h k (by omega) (by omega))]
      exact i1 (fun j h1 h2 => h j (by omega) h2)
    · rw [st]
      by_cases q : wch w k = atc b s e k
      · rw [if_pos q]
        refine i2 (fun h2 => h (fun j h3 h4 => ?_))
        by_cases z : j = k
        · rw [z]; exact q
        · exact h2 j (by omega) h4
      · rw [if_neg q]
theorem wordX {b : Nat → Nat} {s e len x : Nat} {X : pS} (hX : ∀ i, i < len → b i < 256 ∧ X.2.1 47 i = nI (b i)) (hl : len ≤ 400) (hs : s < e) (he : e ≤ len) (hb : ∀ i, s ≤ i → i < e → b i ≠ 32) (hx : WIx b s e x) : Ta_wordAt_46 (nI s) (nI e) X = some (if x < 24 then nI (300 + x) else 1, X) := by
  rw [Ta_wordAt_46_eq, nI_subE (by omega)]
  have x24 : x ≤ 24 := by rcases hx.2 with q | q <;> omega
  by_cases q6 : e - s ≤ 6
  · rw [if_pos (show nI (e - s) ≤ (6 : Int32) by rw [show (6 : Int32) = nI 6 from rfl, nI_leE (by omega) (by omega)]; exact q6)]
    have go : ∀ m w, w + m = x → Ta_wordAt_46_c12 (nI s) (nI e) (nI w) X = some (if x < 24 then nI (300 + x) else 1, X) := by
      intro m
      induction m with
      | zero =>
        intro w hw
        have : w = x := by omega
        subst this
        rw [Ta_wordAt_46_c12_eq]
        rcases hx.2 with ⟨q, q2⟩ | q
        · rw [if_pos (show nI w < (24 : Int32) from nlt_t (n := 24) q (by omega)), if_pos q, Ta_isWord_46_eq]
          have := (isW hX hl q hs he 6 0 rfl).1 (fun j _ h2 => (MW_iff q hs (by omega) hb).mp q2 j h2)
          rw [show Ta_isWord_46_c3 (nI w) (nI s) (nI e) (0 : Int32) X = _ from this, ob]
          simp only []
          rw [if_neg (show ¬ (1 : Int32) = 0 by decide), show (300 : Int32) + nI w = nI (300 + w) from nI_add 300 w]
        · subst q
          rw [if_neg (by decide), if_neg (by omega)]
      | succ m ih =>
        intro w hw
        have hw24 : w < 24 := by omega
        rw [Ta_wordAt_46_c12_eq, if_pos (show nI w < (24 : Int32) from nlt_t (n := 24) hw24 (by omega)), Ta_isWord_46_eq]
        have := (isW hX hl hw24 hs he 6 0 rfl).2 (fun h => hx.1 w (by omega) ((MW_iff hw24 hs (by omega) hb).mpr (fun k hk => h k (by omega) hk)))
        rw [show Ta_isWord_46_c3 (nI w) (nI s) (nI e) (0 : Int32) X = _ from this, ob]
        simp only []
        rw [if_pos trivial, show nI w + (1 : Int32) = nI (w + 1) from nI_1 w]
        exact ih (w + 1) (by omega)
    exact go x 0 (by omega)
  · rw [if_neg (show ¬ nI (e - s) ≤ (6 : Int32) by rw [show (6 : Int32) = nI 6 from rfl, nI_leE (by omega) (by omega)]; exact q6)]
    rw [if_neg]
    intro q
    rcases hx.2 with ⟨_, q2⟩ | q2
    · have := (wT2 x q).2.2.2.1
      have := q2.1
      omega
    · omega
