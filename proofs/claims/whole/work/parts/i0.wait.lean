/-! Reading a law: what waits. -/
def Wc : List Nat → (Nat → Int32) → Prop
  | [], _ => True
  | w :: W, f => f W.length = nI w ∧ Wc W f
def Wt (W : List Nat) (R : pS) : Prop := R.1 0 29 = nI W.length ∧ Wc W (R.2.1 17)
theorem Wc_upd {v : Int32} {f : Nat → Int32} {i : Nat} : ∀ {W : List Nat}, Wc W f → W.length ≤ i → Wc W (upd f i v)
  | [], _, _ => trivial
  | w :: W, h, hi => by
    have hi : W.length + 1 ≤ i := hi
    exact ⟨by rw [upd_ne (by omega)]; exact h.1, Wc_upd h.2 (by omega)⟩
theorem Wt_off {W : List Nat} {R R' : pS} {F : List (Nat × Nat)} {V : List Nat} (h : Wt W R) (ho : Off F V R R') (h1 : (0, 29) ∉ F) (h2 : 17 ∉ V) : Wt W R' := by
  unfold Wt at *
  rw [ho.1 _ _ h1, ho.2.1 _ h2]
  exact h
theorem wai {W : List Nat} {R : pS} (c : Nat) (h : Wt W R) (hl : W.length < 40) : ∃ R', R_waits (nI c) R = some (0, R') ∧ Wt (c :: W) R' ∧ Off [(0, 29)] [17] R R' ∧ Sm R R' := by
  have o : Off [(0, 29)] [17] R (wF (wA R 17 (nI W.length) (nI c)) 0 29 (nI (W.length + 1))) := (Off.rf.wA (by decide)).wF (by decide)
  refine ⟨_, ?_, ⟨by rw [wF_1, sA_eq, upd_eq]; rfl, ?_⟩, o, Sm.of o (by decide) (by decide)⟩
  · rw [R_waits_eq, show rF R 0 29 = nI W.length from h.1, if_pos (inb_n hl (by omega)), show nI W.length + (1 : Int32) = nI (W.length + 1) from nI_1 _]
  · rw [wF_2, wA_21 (by omega), sA_eq]
    exact ⟨upd_eq _ _ _, Wc_upd h.2 (Nat.le_refl _)⟩
/-- nothing to settle -/
theorem set_n {W : List Nat} {R : pS} {c : Nat} (hc : c < 100) (h : Wt W R) (hl : W.length ≤ 40) (hW : ∀ w, W.head? = some w → w ≠ c ∧ w < 100) : R_settles_c0 (nI c) R = some (0, R) := by
  rw [R_settles_c0_eq, show rF R 0 29 = nI W.length from h.1]
  cases W with
  | nil => rw [if_pos (show nI ([] : List Nat).length ≤ 0 by decide)]
  | cons w W =>
    have hl : W.length + 1 ≤ 40 := hl
    obtain ⟨h1, h2⟩ := hW w rfl
    rw [show (w :: W).length = W.length + 1 from rfl, if_neg (show ¬ nI (W.length + 1) ≤ 0 from fun z => by rw [show (0 : Int32) = nI 0 from rfl, nI_leE (by omega) (by omega)] at z; omega), nI_pred, if_pos (inb_n (by omega) (by omega)), rA_n (by omega), h.2.1, if_neg (by rw [nI_eqE (by omega) (by omega)]; exact h1)]
/-- one is settled: the class adds the same code -/
theorem set_1 {n c : Nat} {L : tL} {W : List Nat} {X R : pS} (hc : c < 12) (hW : Wt (c :: W) R) (hl : W.length < 40) (he : Em n L X R) (hn : n < 400) : ∃ X' R', La_add_51 (nI (tok c 0)) X = some (0, X') ∧ R_settles_c0 (nI c) R = R_settles_c0 (nI c) R' ∧ Wt W R' ∧ Em (n + 1) (adL L n c 0) X' R' ∧ (c ≠ 9 → R'.1 0 27 = R.1 0 27) ∧ (c = 9 → R'.1 0 27 = R.1 0 27 - 1) ∧ Off [(51, 7)] [52] X X' ∧ Off [(0, 26), (0, 27), (0, 29)] [15, 16] R R' ∧ Sm R R' := by
  have o1 : Off [(0, 29)] [] R (wF R 0 29 (nI W.length)) := Off.rf.wF (by decide)
  obtain ⟨X1, R1, a1, a2, a3, a4, a5, a6⟩ := emt (op := c) (a := 0) (Em_off he Off.rf o1 (F := []) (W := []) (by decide) (by decide) (by decide) (by decide) (by decide)) hn
  have w1 : Wt W R1 := by
    refine Wt_off (R := wF R 0 29 (nI W.length)) ⟨by rw [wF_1, sA_eq, upd_eq], by rw [wF_2]; exact hW.2.2⟩ a5 (by decide) (by decide)
  have st : R_settles_c0 (nI c) R = (if nI c = (9 : Int32) then R_settles_c0 (nI c) (wF R1 0 27 ((rF R1 0 27) - (1 : Int32))) else R_settles_c0 (nI c) R1) := by
    rw [R_settles_c0_eq, show rF R 0 29 = nI (W.length + 1) from hW.1, if_neg (show ¬ nI (W.length + 1) ≤ 0 from fun z => by rw [show (0 : Int32) = nI 0 from rfl, nI_leE (by omega) (by omega)] at z; omega), show nI (W.length + 1) - (1 : Int32) = nI W.length from nI_pred _, if_pos (inb_n (by omega) (by omega)), rA_n (by omega), hW.2.1, if_pos rfl, show R_emits (nI c) (0 : Int32) (wF R 0 29 (nI W.length)) = _ from a2, ob]
  have e27 : R1.1 0 27 = R.1 0 27 := by rw [a5.1 _ _ (by decide), o1.1 _ _ (by decide)]
  have of1 : Off [(0, 26), (0, 27), (0, 29)] [15, 16] R R1 := (o1.mono (by decide) (by decide)).tr (a5.mono (by decide) (by decide))
  have s1 : Sm R R1 := (Sm.of o1 (by decide) (by decide)).tr a6
  by_cases q : c = 9
  · have o2 : Off [(0, 27)] [] R1 (wF R1 0 27 ((rF R1 0 27) - (1 : Int32))) := Off.rf.wF (by decide)
    refine ⟨X1, _, a1, by rw [st, if_pos (by rw [q]; rfl)], Wt_off w1 o2 (by decide) (by decide), Em_off a3 Off.rf o2 (F := []) (W := []) (by decide) (by decide) (by decide) (by decide) (by decide), fun z => absurd q z, fun _ => ?_, a4, of1.tr (o2.mono (by decide) (by decide)), s1.tr (Sm.of o2 (by decide) (by decide))⟩
    rw [wF_1, sA_eq, upd_eq]
    show R1.1 0 27 - 1 = _
    rw [e27]
  · exact ⟨X1, R1, a1, by rw [st, if_neg (show ¬ nI c = (9 : Int32) by rw [show (9 : Int32) = nI 9 from rfl, nI_eqE (by omega) (by omega)]; exact q)], w1, a3, fun _ => e27, fun z => absurd z q, a4, of1, s1⟩
