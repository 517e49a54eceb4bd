/-! Whose. -/
def per (D : tD) (c : Nat) : Nat := (D 0 c).toNatClampNeg
theorem per_s {n : Nat} {D : tD} (hD : WD n D) {c : Nat} (hc : c < n) : D 0 c = nI (per D c) ∧ per D c < 12 := by
  obtain ⟨⟨p, hp, e⟩, -⟩ := hD.2.2.2 c hc
  unfold per
  rw [e, nI_clamp (by omega)]
  exact ⟨rfl, hp⟩
/-- the people of some cards -/
def pm (D : tD) (n : Nat) (q : Nat → Bool) : Int32 := orl q (per D) n 0 0
theorem pm_bt {n : Nat} {D : tD} (hD : WD n D) (q : Nat → Bool) (x : Nat) : bt (pm D n q) x = true ↔ ∃ c, c < n ∧ q c = true ∧ per D c = x := by
  unfold pm
  rw [orl_bt (n := 0) n 0 0 (fun j h1 h2 _ => by have := (per_s hD (c := j) (by omega)).2; omega), b_0, Bool.false_or, List.any_eq_true]
  constructor
  · rintro ⟨c, h1, h2⟩
    rw [List.mem_range'_1] at h1
    rw [Bool.and_eq_true, decide_eq_true_eq] at h2
    exact ⟨c, by omega, h2.1, h2.2.symm⟩
  · rintro ⟨c, h1, h2, h3⟩
    exact ⟨c, by rw [List.mem_range'_1]; omega, by rw [h2, decide_eq_true h3.symm]; rfl⟩
theorem pm_low {n : Nat} {D : tD} (hD : WD n D) (q : Nat → Bool) : lowm (pm D n q) 12 := fun i hi => by
  cases h : bt (pm D n q) i
  · rfl
  · obtain ⟨c, h1, h2, h3⟩ := (pm_bt hD q i).mp h
    have := (per_s hD h1).2
    omega
theorem pm_cong {n : Nat} {D : tD} {q q' : Nat → Bool} (h : ∀ c, c < n → q c = q' c) : pm D n q = pm D n q' := lp_cong (fun j h1 h2 m => by rw [h j (by omega)])
section
variable {n : Nat} {D : tD} {B : tB} {L T : tL} {X R : pS}
theorem peop_s (hD : WD n D) (hX : XD 1 D X) (x : Int32) : Dr_peopleOn_1 x X = some (pm D n (bt x), X) := by
  have hn := hD.1
  have go : ∀ k i m, i + k = n → Dr_peopleOn_1_c4 x m (nI i) X = some (orl (bt x) (per D) k i m, X) := by
    intro k
    induction k with
    | zero =>
      intro i m hi
      rw [Dr_peopleOn_1_c4_eq, show rF X 1 1 = nI n from cards_1 hD hX, if_neg (nlt_f (by omega) (by omega) (by omega))]; rfl
    | succ k ih =>
      intro i m hi
      rw [Dr_peopleOn_1_c4_eq, show rF X 1 1 = nI n from cards_1 hD hX, if_pos (nlt_t (by omega) (by omega)), holds_s _ (by omega), ob, nI_1]
      rw [show orl (bt x) (per D) (k + 1) i m = orl (bt x) (per D) k (i + 1) (if bt x i then m ||| bit (per D i) else m) from rfl]
      simp only
      cases bt x i
      · rw [b2i_f, if_pos rfl, if_neg Bool.false_ne_true]; exact ih (i + 1) m (by omega)
      · rw [b2i_t, if_neg (by decide), if_pos rfl, show Dr_read_1 (nI i) (0 : Int32) X = _ from read_1 (n := 0) (r := 0) hX (by omega) (by omega), ob, (per_s hD (by omega : i < n)).1]
        exact ih (i + 1) _ (by omega)
  rw [Dr_peopleOn_1_eq]
  exact go n 0 0 (by omega)
theorem peopK (hD : WD n D) (hX : XD 1 D X) (r : Nat) (v : Int32) : Dr_peopleOn_1 (kw D r v n) X = some (pm D n (kwQ D r v), X) := by
  rw [peop_s hD hX, pm_cong (fun c hc => by rw [kw_bt (by have := hD.1; omega), decide_eq_true hc, Bool.true_and])]
theorem own_s (hD : WD n D) (hR : RDm n D R) (t : Int32) : R_ownersOf t R = some (pm D n (kwQ D 2 t), R) := by
  have hn := hD.1
  have go : ∀ k i m, i + k = n → R_ownersOf_c4 t m (nI i) R = some (orl (kwQ D 2 t) (per D) k i m, R) := by
    intro k
    induction k with
    | zero =>
      intro i m hi
      rw [R_ownersOf_c4_eq, show rF R 0 6 = nI n from hR.2, if_neg (nlt_f (by omega) (by omega) (by omega))]; rfl
    | succ k ih =>
      intro i m hi
      obtain ⟨d0, -, d2, -⟩ := hR.1.1 i (by omega)
      rw [R_ownersOf_c4_eq, show rF R 0 6 = nI n from hR.2, if_pos (nlt_t (by omega) (by omega)), R_kept hR hn (by omega), ob, nI_1]
      rw [show orl (kwQ D 2 t) (per D) (k + 1) i m = orl (kwQ D 2 t) (per D) k (i + 1) (if kwQ D 2 t i then m ||| bit (per D i) else m) from rfl]
      simp only
      unfold kwQ at *
      cases bt (D 7 2) i
      · rw [b2i_f, if_pos rfl, Bool.false_and, if_neg Bool.false_ne_true]; exact ih (i + 1) m (by omega)
      · rw [b2i_t, if_neg (by decide), if_pos (inb_n (by omega) (by omega)), rA_n (by omega), d2, Bool.true_and]
        by_cases q : D 2 i = t
        · rw [if_pos q, decide_eq_true q, if_pos rfl, if_pos (inb_n (by omega) (by omega)), rA_n (by omega), d0, (per_s hD (by omega : i < n)).1]
          exact ih (i + 1) _ (by omega)
        · rw [if_neg q, decide_eq_false q, if_neg Bool.false_ne_true]; exact ih (i + 1) m (by omega)
  rw [R_ownersOf_eq]
  exact go n 0 0 (by omega)
theorem such_s (hD : WD n D) (hR : RDm n D R) {p : Nat} (hp : p < 12) (l2 l3 : Int32) (q : Nat → Bool) (hq : ∀ c, c < n → bt (D 7 2) c = true → (l2 = -1 → q c = true) ∧ (l2 ≠ -1 → R_factOf (nI c) l2 R = some (if q c then l3 else l3 + 1, R) ∨ ∃ v, R_factOf (nI c) l2 R = some (v, R) ∧ (v = l3 ↔ q c = true))) : R_hasSuch (nI p) l2 l3 R = some (b2i (bt (pm D n (fun c => bt (D 7 2) c && q c)) p), R) := by
  have hn := hD.1
  have go : ∀ k i, i + k = n → R_hasSuch_c3 (nI p) l2 l3 (nI i) R = some (b2i ((List.range' i k).any (fun c => bt (D 7 2) c && q c && decide (per D c = p))), R) := by
    intro k
    induction k with
    | zero =>
      intro i hi
      rw [R_hasSuch_c3_eq, show rF R 0 6 = nI n from hR.2, if_neg (nlt_f (by omega) (by omega) (by omega))]; rfl
    | succ k ih =>
      intro i hi
      have d0 := (hR.1.1 i (by omega)).1
      obtain ⟨p1, p2⟩ := per_s hD (by omega : i < n)
      rw [R_hasSuch_c3_eq, show rF R 0 6 = nI n from hR.2, if_pos (nlt_t (by omega) (by omega)), R_kept hR hn (by omega), ob, nI_1, List.range'_succ, List.any_cons]
      simp only
      cases hk : bt (D 7 2) i
      · rw [b2i_f, if_pos rfl, Bool.false_and, Bool.false_and, Bool.false_or]; exact ih (i + 1) (by omega)
      · rw [b2i_t, if_neg (by decide), if_pos (inb_n (by omega) (by omega)), rA_n (by omega), d0, p1, Bool.true_and]
        by_cases e : per D i = p
        · rw [if_pos (by rw [e]), decide_eq_true e, Bool.and_true]
          obtain ⟨q1, q2⟩ := hq i (by omega) hk
          by_cases e1 : l2 = -1
          · rw [if_pos e1, q1 e1, Bool.true_or]; rfl
          · rw [if_neg e1]
            have : ∃ v, R_factOf (nI i) l2 R = some (v, R) ∧ (v = l3 ↔ q i = true) := by
              rcases q2 e1 with z | z
              · refine ⟨_, z, ?_⟩
                cases q i
                · simp only [Bool.false_eq_true, if_false, iff_false]
                  intro z2
                  have := congrArg (fun y => y - l3) z2
                  simp only [Int32.sub_self] at this
                  rw [Int32.add_comm, Int32.add_sub_cancel] at this
                  exact absurd this (by decide)
                · simp
              · exact z
            obtain ⟨v, v1, v2⟩ := this
            rw [v1, ob]
            simp only
            cases hqi : q i
            · rw [if_neg (fun z => by rw [v2.mp z] at hqi; cases hqi), Bool.false_or]; exact ih (i + 1) (by omega)
            · rw [if_pos (v2.mpr hqi), Bool.true_or]; rfl
        · rw [if_neg (neq_f e (by omega) (by omega)), decide_eq_false e, Bool.and_false, Bool.false_or]; exact ih (i + 1) (by omega)
  rw [R_hasSuch_eq, show R_hasSuch_c3 (nI p) l2 l3 (0 : Int32) R = _ from go n 0 (by omega)]
  congr 3
  rw [Bool.eq_iff_iff, pm_bt hD, List.any_eq_true]
  constructor
  · rintro ⟨c, h1, h2⟩
    rw [List.mem_range'_1] at h1
    rw [Bool.and_eq_true, decide_eq_true_eq] at h2
    exact ⟨c, by omega, h2.1, h2.2⟩
  · rintro ⟨c, h1, h2, h3⟩
    exact ⟨c, by rw [List.mem_range'_1]; omega, by rw [Bool.and_eq_true, decide_eq_true_eq]; exact ⟨h2, h3⟩⟩
def so (D : tD) (T : tL) (n i : Nat) : Int32 := if T 11 i = 0 then pm D n (kwQ D 2 (nI (T 12 i))) else if T 11 i = 1 then pm D n (kwQ D 1 (nI (T 12 i))) else if T 11 i = 2 then pm D n (kwQ D 4 (nI (T 12 i))) else ledM T (T 12 i)
theorem so_low (hD : WD n D) (hT : WT n T) {i : Nat} (hi : i < T 0 5) : lowm (so D T n i) 12 := by
  unfold so
  by_cases a0 : T 11 i = 0
  · rw [if_pos a0]; exact pm_low hD _
  rw [if_neg a0]
  by_cases a1 : T 11 i = 1
  · rw [if_pos a1]; exact pm_low hD _
  rw [if_neg a1]
  by_cases a2 : T 11 i = 2
  · rw [if_pos a2]; exact pm_low hD _
  rw [if_neg a2]
  exact ledM_low (hT.2.2.2.2.2.2.2 i hi).2.1
theorem pfor_s (hD : WD n D) (hT : WT n T) (hX : XA D B L T X) {i : Nat} (hi : i < T 0 5) : Ci_peopleFor_64 (nI (T 11 i)) (nI (T 12 i)) X = some (so D T n i, X) := by
  obtain ⟨u1, u2, u3⟩ := hT.2.2.2.2.2.2.2 i hi
  rw [Ci_peopleFor_64_eq]
  unfold so
  have hc : T 11 i = 0 ∨ T 11 i = 1 ∨ T 11 i = 2 ∨ T 11 i = 3 := by omega
  rcases hc with e | e | e | e <;> rw [e]
  · rw [if_pos (show nI 0 = (0 : Int32) from rfl), if_pos rfl, show Dr_keptWith_1 (2 : Int32) (nI (T 12 i)) X = _ from keptW_1 (r := 2) hD hX.1 (by omega), ob]
    simp only
    rw [peopK hD hX.1]; rfl
  · rw [if_neg (by decide), if_pos (show nI 1 = (1 : Int32) from rfl), if_neg (by decide), if_pos rfl, show Dr_keptWith_1 (1 : Int32) (nI (T 12 i)) X = _ from keptW_1 (r := 1) hD hX.1 (by omega), ob]
    simp only
    rw [peopK hD hX.1]; rfl
  · rw [if_neg (by decide), if_neg (by decide), if_pos (show nI 2 = (2 : Int32) from rfl), if_neg (by decide), if_neg (by decide), if_pos rfl, show Dr_keptWith_1 (4 : Int32) (nI (T 12 i)) X = _ from keptW_1 (r := 4) hD hX.1 (by omega), ob]
    simp only
    rw [peopK hD hX.1]; rfl
  · rw [if_neg (by decide), if_neg (by decide), if_neg (by decide), if_neg (by decide), if_neg (by decide), if_neg (by decide), show C_within (nI (T 12 i)) (12 : Int32) X = _ from within_s _ 12, inr_n u2 (by omega), ob]
    simp only [b2t, if_false]
    rw [ledX hT hX.2.2.2 u2]; rfl
def ndB (D : tD) (T : tL) (n p i : Nat) : Bool := bt (so D T n i) p == decide (T 13 i = 1)
theorem noted_s (hD : WD n D) (hT : WT n T) (hR : RA n D B L T R) {p i : Nat} (hp : p < 12) (hi : i < T 0 5) : R_isNoted (nI p) (nI i) R = some (b2i (ndB D T n p i), R) := by
  obtain ⟨u0, u9⟩ := hT.2.2.2.2.2.2
  obtain ⟨u1, u2, u3⟩ := u9 i hi
  obtain ⟨a1, a2, a3⟩ := hR.2.2.2.2.2.2.2.2.2 i hi
  have fin : ∀ b : Bool, R_isNoted_c59 (nI i) (b2i b) R = some (b2i (b == decide (T 13 i = 1)), R) := by
    intro b
    rw [R_isNoted_c59_eq, if_pos (inb_n (by omega) (by omega)), rA_n (by omega), a3]
    have : T 13 i = 0 ∨ T 13 i = 1 := by omega
    rcases this with e | e <;> rw [e] <;> cases b <;> rfl
  have suc : ∀ r, r < 5 → R_isNoted_c50 (nI i) (nI r) (nI p) R = some (b2i (bt (pm D n (kwQ D r (nI (T 12 i)))) p == decide (T 13 i = 1)), R) := by
    intro r hr
    have := such_s hD hR.1 hp (nI r) (nI (T 12 i)) (fun c => decide (D r c = nI (T 12 i))) (fun c hc _ => ⟨fun z => absurd z (nI_ne_m1 (by omega)), fun _ => Or.inr ⟨_, R_fact hR.1 hr (by have := hD.1; omega), by rw [decide_eq_true_eq]⟩⟩)
    rw [R_isNoted_c50_eq, if_pos (inb_n (by omega) (by omega)), rA_n (by omega), a2, this, ob]
    exact fin _
  rw [R_isNoted_eq, if_pos (inb_n (by omega) (by omega)), rA_n (by omega), a1]
  unfold ndB so
  have hc : T 11 i = 0 ∨ T 11 i = 1 ∨ T 11 i = 2 ∨ T 11 i = 3 := by omega
  rcases hc with e | e | e | e <;> rw [e]
  · rw [if_neg (by decide), if_pos (show nI 0 = (0 : Int32) from rfl), if_pos rfl]; exact suc 2 (by omega)
  · rw [if_neg (by decide), if_neg (by decide), if_pos (show nI 1 = (1 : Int32) from rfl), if_neg (by decide), if_pos rfl]; exact suc 1 (by omega)
  · rw [if_neg (by decide), if_neg (by decide), if_neg (by decide), if_neg (by decide), if_neg (by decide), if_pos rfl]; exact suc 4 (by omega)
  · rw [if_pos (show nI 3 = (3 : Int32) from rfl), if_pos (inb_n (by omega) (by omega)), rA_n (by omega), a2, ledR hT hR.2.2.2 u2, ob]
    simp only
    rw [R_hasS _ (by omega), ob, if_neg (by decide), if_neg (by decide), if_neg (by decide)]
    exact fin _
def wtS (D : tD) (T : tL) (n i : Nat) (x : Int32) : Int32 := if T 13 i = 1 then x &&& so D T n i else x &&& (so D T n i ^^^ (-1))
def wtM (D : tD) (T : tL) (n : Nat) : Int32 := lp (wtS D T n) (T 0 5) 0 (pm D n (bt (D 7 2)))
theorem wt_bt {p : Nat} (hp : p < 32) : ∀ k i x, bt (lp (wtS D T n) k i x) p = (bt x p && (List.range' i k).all (fun j => ndB D T n p j))
  | 0, i, x => by simp [lp]
  | k + 1, i, x => by
    rw [lp, wt_bt hp k (i + 1), List.range'_succ, List.all_cons, ← Bool.and_assoc]
    congr 1
    unfold wtS ndB
    by_cases e : T 13 i = 1
    · rw [if_pos e, b_and, decide_eq_true e]
      cases bt (so D T n i) p <;> rfl
    · rw [if_neg e, b_and, b_not _ hp, decide_eq_false e]
      cases bt (so D T n i) p <;> rfl
theorem wtM_low (hD : WD n D) : lowm (wtM D T n) 12 := by
  intro p hp
  rcases Nat.lt_or_ge p 32 with h | h
  · unfold wtM
    rw [wt_bt h, pm_low hD _ p hp, Bool.false_and]
  · exact b_big h
theorem writX (hD : WD n D) (hT : WT n T) (hX : XA D B L T X) : Ci_writers_64 X = some (wtM D T n, X) := by
  obtain ⟨u0, u9⟩ := hT.2.2.2.2.2.2
  have x0 : X.1 21 2 = nI (T 0 5) := hX.2.2.2.2.2.2.2.2.2.2.1
  have go : ∀ k i x, i + k = T 0 5 → Ci_writers_64_c17 x (nI i) X = some (lp (wtS D T n) k i x, X) := by
    intro k
    induction k with
    | zero =>
      intro i x hi
      rw [Ci_writers_64_c17_eq, show rF X 21 2 = nI (T 0 5) from x0, if_neg (nlt_f (by omega) (by omega) (by omega))]; rfl
    | succ k ih =>
      intro i x hi
      obtain ⟨u1, u2, u3⟩ := u9 i (by omega)
      obtain ⟨x1, x2, x3⟩ := hX.2.2.2.2.2.2.2.2.2.2.2 i (by omega)
      have t0 : Ro_at_21 (nI i) (0 : Int32) X = some (nI (T 11 i), X) := by rw [← x1]; exact at_21 (j := 0) u0 x0 (by omega) (by omega)
      have t1 : Ro_at_21 (nI i) (1 : Int32) X = some (nI (T 12 i), X) := by rw [← x2]; exact at_21 (j := 1) u0 x0 (by omega) (by omega)
      have t2 : Ro_at_21 (nI i) (2 : Int32) X = some (nI (T 13 i), X) := by rw [← x3]; exact at_21 (j := 2) u0 x0 (by omega) (by omega)
      rw [Ci_writers_64_c17_eq, show rF X 21 2 = nI (T 0 5) from x0, if_pos (nlt_t (by omega) (by omega)), t0, ob]
      simp only
      rw [t1, ob]
      simp only
      rw [pfor_s hD hT hX (by omega), ob]
      simp only
      rw [t2, ob, nI_1, lp]
      simp only
      unfold wtS at *
      by_cases e : T 13 i = 1
      · rw [if_pos e, if_pos (by rw [e]; rfl)]; exact ih (i + 1) _ (by omega)
      · rw [if_neg e, if_neg (show ¬ nI (T 13 i) = (1 : Int32) from fun z => e ((nI_eq (b := 1) (by omega) (by omega)).mp z))]; exact ih (i + 1) _ (by omega)
  rw [Ci_writers_64_eq, show rF X 1 2 = D 7 2 from hX.1.2 2 (by omega) (by omega), peop_s hD hX.1, ob]
  exact go (T 0 5) 0 _ (by omega)
theorem writR (hD : WD n D) (hT : WT n T) (hR : RA n D B L T R) : R_writers R = some (wtM D T n, R) := by
  obtain ⟨u0, u9⟩ := hT.2.2.2.2.2.2
  have r0 : R.1 0 52 = nI (T 0 5) := hR.2.2.2.1.2.2.2.2.2
  have inner : ∀ k i p m (b : Bool), i + k = T 0 5 → p < 12 → R_writers_c21 m (nI p) (b2i b) (nI i) R = R_writers_c4 (if b && (List.range' i k).all (fun j => ndB D T n p j) then m ||| bit p else m) (nI (p + 1)) R := by
    intro k
    induction k with
    | zero =>
      intro i p m b hi hp
      rw [R_writers_c21_eq, show rF R 0 52 = nI (T 0 5) from r0, if_neg (nlt_f (by omega) (by omega) (by omega)), nI_1]
      cases b
      · rw [b2i_f, if_pos rfl, Bool.false_and, if_neg Bool.false_ne_true]
      · rw [b2i_t, if_neg (by decide)]
        simp
        rfl
    | succ k ih =>
      intro i p m b hi hp
      rw [R_writers_c21_eq, show rF R 0 52 = nI (T 0 5) from r0, if_pos (nlt_t (by omega) (by omega)), noted_s hD hT hR hp (by omega), ob, nI_1, List.range'_succ, List.all_cons]
      simp only
      cases ndB D T n p i
      · rw [b2i_f, if_pos rfl, Bool.false_and, Bool.and_false]
        exact ih (i + 1) p m false (by omega) hp
      · rw [b2i_t, if_neg (by decide), Bool.true_and]
        exact ih (i + 1) p m b (by omega) hp
  have outer : ∀ k p m, p + k = 12 → R_writers_c4 m (nI p) R = some (orl (fun p => bt (wtM D T n) p) (fun c => c) k p m, R) := by
    intro k
    induction k with
    | zero =>
      intro p m hp
      have : p = 12 := by omega
      subst this
      rw [R_writers_c4_eq, if_neg (by decide)]; rfl
    | succ k ih =>
      intro p m hp
      have s := such_s hD hR.1 (by omega : p < 12) (-1) 0 (fun _ => true) (fun c hc _ => ⟨fun _ => rfl, fun z => absurd rfl z⟩)
      rw [R_writers_c4_eq, if_pos (show nI p < (12 : Int32) from nlt_t (n := 12) (by omega) (by omega)), s, ob]
      have e1 : pm D n (fun c => bt (D 7 2) c && true) = pm D n (bt (D 7 2)) := pm_cong (fun c _ => by rw [Bool.and_true])
      simp only [e1]
      rw [show R_writers_c21 m (nI p) (b2i (bt (pm D n (bt (D 7 2))) p)) (0 : Int32) R = _ from inner (T 0 5) 0 p m _ (by omega) (by omega), ← wt_bt (by omega)]
      exact ih (p + 1) _ (by omega)
  rw [R_writers_eq, show R_writers_c4 (0 : Int32) (0 : Int32) R = _ from outer 12 0 0 rfl]
  congr 2
  apply b_ext
  intro x hx
  rw [orl_id (by omega)]
  by_cases e : x < 12
  · rw [decide_eq_true e, Bool.true_and]
  · rw [decide_eq_false e, Bool.false_and, wtM_low hD x (by omega)]
end
theorem q_whose {X R : pS} (w : Int32) (h : INV X R) : Gd (C_whose w) (R_whose w) X R := by
  obtain ⟨-, -, -, -, n, D, B, L, T, hw, hX, hR, -⟩ := id h
  have hR0 := RA_off hR told0
  have hD := hw.1
  have w2 : C_within w (2 : Int32) X = _ := within_s w 2 (S := X)
  have i2 : R_isIn w (0 : Int32) (1 : Int32) (wF R 0 0 0) = _ := isIn_s w 2 (by omega)
  cases e : inr w 2
  · rw [e] at w2 i2
    exact Gd_of h (v := -1) (by rw [C_whose_eq, w2, ob]; rfl) Off.rf (by rw [R_whose_eq, i2, ob]; rfl) told0
  · rw [e] at w2 i2
    by_cases q : w = 0
    · refine Gd_of h (v := wtM D T n) (X' := X) ?_ Off.rf ?_ told0
      · rw [C_whose_eq, w2, ob]
        simp only [b2t, if_false, writX hD hw.2.2.2 hX, ob]
        rw [if_pos q]
      · rw [R_whose_eq, i2, ob]
        simp only [b2t, if_false, writR hD hw.2.2.2 hR0, ob]
        rw [if_pos q]
    · have lw : lowm (wtM D T n) 14 := low_up (wtM_low hD) (by omega)
      obtain ⟨al, hal⟩ : ∃ al, al = ones (wtM D T n) 14 := ⟨_, rfl⟩
      have al14 := ones_le (wtM D T n) 14
      have cx : C_whose w X = Ci_askNext_64 (wtM D T n) X := by
        rw [C_whose_eq, w2, ob]
        simp only [b2t, if_false, writX hD hw.2.2.2 hX, ob]
        rw [if_neg q]
        cases Ci_askNext_64 (wtM D T n) X <;> rfl
      have rx : R_whose w R = if nI al < (2 : Int32) then (some ((-1 : Int32), wF R 0 0 0)) else (R_whose_c52 (wtM D T n) (nI al) (0 : Int32) (1000000 : Int32) (0 : Int32) (wF R 0 0 0)) := by
        rw [R_whose_eq, i2, ob]
        simp only [b2t, if_false, writR hD hw.2.2.2 hR0, ob]
        rw [if_neg q, on_low lw, ob, hal]
      by_cases q2 : nI al < (2 : Int32)
      · exact Gd_of h (v := -1) (by rw [cx, Ci_askNext_64_eq, bc_low lw, ob, ← hal, if_pos q2]) Off.rf (by rw [rx, if_pos q2]) told0
      · obtain ⟨ow, how⟩ : ∃ ow : Nat → Nat, ∀ t, ow t = ones (wtM D T n &&& pm D n (kwQ D 2 (nI t))) 14 := ⟨_, fun _ => rfl⟩
        have owl : ∀ t, ow t ≤ al := fun t => by rw [how, hal]; exact ones_sub (fun i z => by rw [b_and, Bool.and_eq_true] at z; exact z.1) 14
        obtain ⟨mx, hmx⟩ : ∃ mx : Nat → Nat, ∀ t, mx t = if ow t < al - ow t then al - ow t else ow t := ⟨_, fun _ => rfl⟩
        have mxl : ∀ t, mx t ≤ al := fun t => by
          have := owl t
          rw [hmx]
          by_cases z : ow t < al - ow t
          · rw [if_pos z]; omega
          · rw [if_neg z]; omega
        have cstep : ∀ (b l : Int32) t, t < 6 → Ci_askNext_64_c22 (wtM D T n) (nI al) b l (nI t) X = if nI (mx t) < l then Ci_askNext_64_c22 (wtM D T n) (nI al) (nI t) (nI (mx t)) (nI (t + 1)) X else Ci_askNext_64_c22 (wtM D T n) (nI al) b l (nI (t + 1)) X := by
          intro b l t ht
          rw [Ci_askNext_64_c22_eq, if_pos (show nI t < (6 : Int32) from nlt_t (n := 6) (by omega) (by omega)), show Dr_keptWith_1 (2 : Int32) (nI t) X = _ from keptW_1 (r := 2) hD hX.1 (by omega), ob]
          simp only
          rw [peopK hD hX.1, ob]
          simp only
          rw [bc_low (low_and lw), ob, ← how, nI_1]
          simp only
          have o1 := owl t
          have e1 : (if nI (ow t) < nI al - nI (ow t) then nI al - nI (ow t) else nI (ow t)) = nI (mx t) := by
            rw [pk_sub o1, hmx]
            by_cases z : ow t < al - ow t
            · rw [if_pos (nlt_t z (by omega)), if_pos z]
            · rw [if_neg (nlt_f z (by omega) (by omega)), if_neg z]
          rw [e1]
        have rstep : ∀ (b : Int32) (l t : Nat), t < 6 → l < 2147483648 → R_whose_c52 (wtM D T n) (nI al) b (nI l) (nI t) (wF R 0 0 0) = if nI (mx t) < nI l then R_whose_c52 (wtM D T n) (nI al) (nI t) (nI (mx t)) (nI (t + 1)) (wF R 0 0 0) else R_whose_c52 (wtM D T n) (nI al) b (nI l) (nI (t + 1)) (wF R 0 0 0) := by
          intro b l t ht hl
          have o1 := owl t
          have m1 := mxl t
          have g : R_greater (nI (ow t)) (nI al - nI (ow t)) (wF R 0 0 0) = some (nI (mx t), wF R 0 0 0) := by
            rw [R_greater_eq, pk_sub o1, hmx]
            by_cases z : ow t < al - ow t
            · rw [if_pos z, if_pos (nI_le (by omega) (by omega))]
            · rw [if_neg z]
              by_cases z2 : nI (ow t) ≤ nI (al - ow t)
              · rw [if_pos z2]
                rw [nI_leE (by omega) (by omega)] at z2
                rw [show al - ow t = ow t from by omega]
              · rw [if_neg z2]
          rw [R_whose_c52_eq, if_pos (show nI t < (6 : Int32) from nlt_t (n := 6) (by omega) (by omega)), own_s hD hR0.1, ob]
          simp only
          rw [on_low (low_and lw), ob, ← how]
          simp only
          rw [g, ob, R_whose_c99_eq, R_whose_c99_eq, R_lesser_eq, nI_1]
          simp only
          by_cases z : nI (mx t) < nI l
          · have zz := z
            rw [nI_ltE (by omega) (by omega)] at zz
            rw [if_pos z, if_pos z, if_neg (nlt_f (by omega) (by omega) (by omega)), ob]
          · have zz := z
            rw [nI_ltE (by omega) (by omega)] at zz
            rw [if_neg z, if_neg z]
            by_cases z2 : l < mx t
            · rw [if_pos (nlt_t z2 (by omega)), ob]
            · rw [if_neg (nlt_f z2 (by omega) (by omega)), ob, show mx t = l from by omega]
        have go : ∀ k t (b : Int32) l, t + k = 6 → l < 2147483648 → ∃ v, Ci_askNext_64_c22 (wtM D T n) (nI al) b (nI l) (nI t) X = some (v, X) ∧ R_whose_c52 (wtM D T n) (nI al) b (nI l) (nI t) (wF R 0 0 0) = some (v, wF R 0 0 0) := by
          intro k
          induction k with
          | zero =>
            intro t b l ht hl
            have : t = 6 := by omega
            subst this
            exact ⟨b, by rw [Ci_askNext_64_c22_eq, if_neg (by decide)], by rw [R_whose_c52_eq, if_neg (by decide)]⟩
          | succ k ih =>
            intro t b l ht hl
            have m1 := mxl t
            rw [cstep b (nI l) t (by omega), rstep b l t (by omega) hl]
            by_cases z : nI (mx t) < nI l
            · rw [if_pos z, if_pos z]; exact ih (t + 1) _ _ (by omega) (by omega)
            · rw [if_neg z, if_neg z]; exact ih (t + 1) _ _ (by omega) hl
        have m0 := mxl 0
        obtain ⟨v, v1, v2⟩ := go 5 1 (nI 0) (mx 0) rfl (by omega)
        refine Gd_of h (v := v) (X' := X) ?_ Off.rf ?_ told0
        · rw [cx, Ci_askNext_64_eq, bc_low lw, ob, ← hal, if_neg q2]
          simp only
          rw [nI_1, show Ci_askNext_64_c22 (wtM D T n) (nI al) (-1 : Int32) (nI (al + 1)) (0 : Int32) X = _ from cstep (-1) (nI (al + 1)) 0 (by omega), if_pos (nlt_t (by omega) (by omega))]
          exact v1
        · rw [rx, if_neg q2, show R_whose_c52 (wtM D T n) (nI al) (0 : Int32) (1000000 : Int32) (0 : Int32) (wF R 0 0 0) = _ from rstep 0 1000000 0 (by omega) (by omega), if_pos (nlt_t (by omega) (by omega))]
          exact v2
