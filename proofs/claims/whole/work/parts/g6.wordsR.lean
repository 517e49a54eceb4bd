/-! The words of the texts: the reference. -/
theorem c93 {R : pS} (hR : ∀ i, i < 115 → R.2.1 9 i = nI (wd i)) {s e w : Nat} (hw : w < 24) : ∀ m k, k + m = wn w → R_wordAt_c93 (nI s) (nI e) (nI w) (nI (wo w + 1 + k)) R = R_wordAt_c5 (nI s) (nI e) (nI w) (nI (wo (w + 1))) R := by
  obtain ⟨t1, t2, t3, t4, t5⟩ := wT2 w hw
  intro m
  induction m with
  | zero =>
    intro k hk
    have : k = wn w := by omega
    subst this
    rw [R_wordAt_c93_eq, if_pos (inb_n (by omega) (by omega)), rA_n (by omega), hR _ (by omega), t5, if_pos (show nI 32 = (32 : Int32) from rfl), t1]
  | succ m ih =>
    intro k hk
    obtain ⟨u1, u2⟩ := wT3 w hw k (by omega)
    rw [R_wordAt_c93_eq, if_pos (inb_n (by omega) (by omega)), rA_n (by omega), hR _ (by omega), if_neg (show ¬ nI (wd (wo w + 1 + k)) = (32 : Int32) by rw [show (32 : Int32) = nI 32 from rfl, nI_eqE (by omega) (by omega)]; exact u1), show nI (wo w + 1 + k) + (1 : Int32) = nI (wo w + 1 + (k + 1)) from nI_1 _]
    exact ih (k + 1) (by omega)
theorem c19 {b : Nat → Nat} {s e w len : Nat} {R : pS} (hR : ∀ i, i < 115 → R.2.1 9 i = nI (wd i)) (hB : ∀ i, i < len → b i < 256 ∧ R.2.1 8 i = nI (b i)) (hl : len ≤ 400) (hw : w < 24) (he : e ≤ len) (hb : ∀ i, s ≤ i → i < e → b i ≠ 32) : ∀ m k, s + k + m = e → k ≤ wn w → (∀ j, j < k → wd (wo w + 1 + j) = b (s + j)) → (MW b s e w → R_wordAt_c19 (nI s) (nI e) (nI w) (nI (wo w)) (nI k) R = some (nI w, R)) ∧ (¬ MW b s e w → R_wordAt_c19 (nI s) (nI e) (nI w) (nI (wo w)) (nI k) R = R_wordAt_c5 (nI s) (nI e) (nI w) (nI (wo (w + 1))) R) := by
  obtain ⟨t1, t2, t3, t4, t5⟩ := wT2 w hw
  have i1 : ∀ k, (nI (wo w) + (1 : Int32)) + nI k = nI (wo w + 1 + k) := fun k => by rw [show nI (wo w) + (1 : Int32) = nI (wo w + 1) from nI_1 _, nI_add]
  have go93 : R_wordAt_c93 (nI s) (nI e) (nI w) (nI (wo w) + (1 : Int32)) R = R_wordAt_c5 (nI s) (nI e) (nI w) (nI (wo (w + 1))) R := by
    have := c93 hR (s := s) (e := e) hw (wn w) 0 (by omega)
    rw [show nI (wo w) + (1 : Int32) = nI (wo w + 1 + 0) from nI_1 _]
    exact this
  intro m
  induction m with
  | zero =>
    intro k hk hkn hp
    have e0 : R_wordAt_c19 (nI s) (nI e) (nI w) (nI (wo w)) (nI k) R = R_wordAt_c60 (nI s) (nI e) (nI w) (nI (wo w)) (nI k) R := by
      rw [R_wordAt_c19_eq, nI_add, if_neg (nlt_f (by omega) (by omega) (by omega))]
    have e1 : R_wordAt_c60 (nI s) (nI e) (nI w) (nI (wo w)) (nI k) R = if wd (wo w + 1 + k) = 32 then some (nI w, R) else R_wordAt_c93 (nI s) (nI e) (nI w) (nI (wo w) + (1 : Int32)) R := by
      have : wd (wo w + 1 + k) < 256 := by
        by_cases q : k < wn w
        · exact (wT3 w hw k q).2
        · rw [show k = wn w by omega, t5]; omega
      rw [R_wordAt_c60_eq, nI_add, if_pos (show nI (s + k) = nI e by rw [show s + k = e by omega]), i1, if_pos (inb_n (by omega) (by omega)), rA_n (by omega), hR _ (by omega)]
      by_cases q : wd (wo w + 1 + k) = 32
      · rw [if_pos q, q, if_pos (show nI 32 = (32 : Int32) from rfl)]
      · rw [if_neg q, if_neg (show ¬ nI (wd (wo w + 1 + k)) = (32 : Int32) by rw [show (32 : Int32) = nI 32 from rfl, nI_eqE (by omega) (by omega)]; exact q)]
    refine ⟨fun h => ?_, fun h => ?_⟩
    · have := h.1
      rw [e0, e1, show k = wn w by omega, t5, if_pos rfl]
    · rw [e0, e1, if_neg, go93]
      intro q
      apply h
      have : k = wn w := by
        rcases Nat.lt_or_ge k (wn w) with z | z
        · exact absurd q (wT3 w hw k z).1
        · omega
      subst this
      exact ⟨by omega, hp⟩
  | succ m ih =>
    intro k hk hkn hp
    have hwd : wd (wo w + 1 + k) < 256 := by
      by_cases q : k < wn w
      · exact (wT3 w hw k q).2
      · rw [show k = wn w by omega, t5]; omega
    have hbk := hB (s + k) (by omega)
    have e0 : R_wordAt_c19 (nI s) (nI e) (nI w) (nI (wo w)) (nI k) R = if wd (wo w + 1 + k) = b (s + k) then R_wordAt_c19 (nI s) (nI e) (nI w) (nI (wo w)) (nI (k + 1)) R else R_wordAt_c60 (nI s) (nI e) (nI w) (nI (wo w)) (nI k) R := by
      rw [R_wordAt_c19_eq, nI_add, if_pos (nlt_t (by omega) (by omega)), i1, if_pos (inb_n (by omega) (by omega)), if_pos (inb_n (by omega) (by omega)), rA_n (by omega), rA_n (by omega), hR _ (by omega), hbk.2, show nI k + (1 : Int32) = nI (k + 1) from nI_1 k]
      by_cases q : wd (wo w + 1 + k) = b (s + k)
      · rw [if_pos q, q, if_pos rfl]
      · rw [if_neg q, if_neg (by rw [nI_eqE (by omega) (by omega)]; exact q)]
    by_cases q : wd (wo w + 1 + k) = b (s + k)
    · have hk2 : k < wn w := by
        rcases Nat.lt_or_ge k (wn w) with z | z
        · exact z
        · rw [show k = wn w by omega, t5] at q
          exact absurd q.symm (hb _ (by omega) (by omega))
      rw [e0, if_pos q]
      refine ih (k + 1) (by omega) (by omega) (fun j hj => ?_)
      by_cases z : j = k
      · rw [z]; exact q
      · exact hp j (by omega)
    · have e2 : R_wordAt_c60 (nI s) (nI e) (nI w) (nI (wo w)) (nI k) R = R_wordAt_c93 (nI s) (nI e) (nI w) (nI (wo w) + (1 : Int32)) R := by
        rw [R_wordAt_c60_eq, nI_add, if_neg (by rw [nI_eqE (by omega) (by omega)]; omega)]
      refine ⟨fun h => ?_, fun h => ?_⟩
      · exact absurd (h.2 k (by have := h.1; omega)) q
      · rw [e0, if_neg q, e2, go93]
theorem wordR {b : Nat → Nat} {s e len x : Nat} {R : pS} (hR : ∀ i, i < 115 → R.2.1 9 i = nI (wd i)) (hB : ∀ i, i < len → b i < 256 ∧ R.2.1 8 i = nI (b i)) (hl : len ≤ 400) (hs : s < e) (he : e ≤ len) (hb : ∀ i, s ≤ i → i < e → b i ≠ 32) (hx : WIx b s e x) : R_wordAt (nI s) (nI e) R = some (if x < 24 then nI x else -1, R) := by
  have x24 : x ≤ 24 := by rcases hx.2 with q | q <;> omega
  have wl : ∀ w, w < 24 → wo w < 114 := fun w hw => by have := wT2 w hw; omega
  rw [R_wordAt_eq]
  have go : ∀ m w, w + m = x → R_wordAt_c5 (nI s) (nI e) (nI w - 1) (nI (wo w)) R = some (if x < 24 then nI x else -1, R) := by
    intro m
    induction m with
    | zero =>
      intro w hw
      have : w = x := by omega
      subst this
      rw [R_wordAt_c5_eq]
      rcases hx.2 with ⟨q, q2⟩ | q
      · rw [if_pos (show nI (wo w) < (114 : Int32) from nlt_t (n := 114) (wl w q) (by omega)), if_pos q, show nI w - 1 + (1 : Int32) = nI w from Int32.sub_add_cancel _ _]
        exact (c19 hR hB hl q he hb (e - s) 0 (by omega) (by omega) (fun j hj => by omega)).1 q2
      · subst q
        rw [if_neg (by decide), if_neg (by omega)]
    | succ m ih =>
      intro w hw
      have hw24 : w < 24 := by omega
      rw [R_wordAt_c5_eq, if_pos (show nI (wo w) < (114 : Int32) from nlt_t (n := 114) (wl w hw24) (by omega)), show nI w - 1 + (1 : Int32) = nI w from Int32.sub_add_cancel _ _]
      rw [show R_wordAt_c19 (nI s) (nI e) (nI w) (nI (wo w)) (0 : Int32) R = _ from (c19 hR hB hl hw24 he hb (e - s) 0 (by omega) (by omega) (fun j hj => by omega)).2 (hx.1 w (by omega))]
      have := ih (w + 1) (by omega)
      rw [nI_pred] at this
      exact this
  exact go x 0 (by omega)
