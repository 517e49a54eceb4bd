/-! Deeds and years, as plain functions of tables. -/
def o2i : Option Nat → Int32
  | none => -1
  | some c => nI c
def mn99 (x : Int32) : Int32 := if x < 99 then x else 99
def drS (D : tD) : Int32 := D 7 7 * 1664525 + 1013904223
def drV (s m : Int32) : Int32 := (s.toUInt32 >>> ((8 : Int32).toUInt32 &&& Int32.toUInt32 31)).toInt32 - (s.toUInt32 >>> ((8 : Int32).toUInt32 &&& Int32.toUInt32 31)).toInt32 / m * m
/-- of those for whom q is so the one with greatest holds -/
def bstS (L : tL) (D : tD) (q : Nat → Bool) (c : Nat) (b : Option Nat) : Option Nat := if q c then (match b with
  | none => some c
  | some b0 => if tell L D c 0 ≤ tell L D b0 0 then some b0 else some c) else b
def bst (L : tL) (D : tD) (q : Nat → Bool) : Nat → Nat → Option Nat → Option Nat := lp (bstS L D q)
/-- the kept one with least worth -/
def lstS (L : tL) (D : tD) (c : Nat) (b : Option Nat) : Option Nat := if bt (D 7 2) c then (match b with
  | none => some c
  | some b0 => if tell L D c 2 < tell L D b0 2 then some c else some b0) else b
def lst (L : tL) (D : tD) : Nat → Nat → Option Nat → Option Nat := lp (lstS L D)
abbrev tB : Type := Nat × (Nat → Int32)
abbrev tP : Type := tD × tB
def ent (th : Bool) (y : Int32) (B : tB) (a b c : Int32) : tB := if th then B else if B.1 = 150 then B else (B.1 + 1, upd (upd (upd (upd B.2 (4 * B.1) y) (4 * B.1 + 1) a) (4 * B.1 + 2) b) (4 * B.1 + 3) c)
def ansW (L : tL) (th : Bool) (D : tD) (c : Nat) : Bool := if th then !decide (tell L D c 0 < 500) else decide (drV (drS D) 1000 < tell L D c 0)
/-- asked, and rung: its RUNG, the draw -/
def rchD (th : Bool) (D : tD) (c : Nat) : tD := if th then sA D 6 c (D 6 c + 1) else sA (sA D 6 c (D 6 c + 1)) 7 7 (drS D)
def rngP (L : tL) (th : Bool) (P : tP) (c : Nat) : tP := ((if ansW L th P.1 c then sA (rchD th P.1 c) 3 c (P.1 7 3) else sA (rchD th P.1 c) 5 c (mn99 (P.1 5 c + 9))), ent th (P.1 7 3) P.2 (if ansW L th P.1 c then 0 else 1) (nI c) (tell L P.1 c 0))
def bndP (th : Bool) (P : tP) (c : Nat) : tP := (sA P.1 4 c (1 - P.1 4 c), ent th (P.1 7 3) P.2 3 (nI c) (1 - P.1 4 c))
def fndP (th : Bool) (P : tP) (c : Nat) : tP := (sA (sA P.1 7 2 (P.1 7 2 ||| bit c)) 5 c 0, ent th (P.1 7 3) P.2 4 (nI c) 0)
def drp (D : tD) (c : Nat) : tD := sA D 7 2 (D 7 2 &&& (bit c ^^^ (-1)))
def thrP (L : tL) (th : Bool) (P : tP) (c : Nat) : tP := (drp P.1 c, ent th (P.1 7 3) P.2 2 (nI c) (tell L P.1 c 2))
/-- k throws: how many were thrown, what is then -/
def thsP (L : tL) (th : Bool) (n : Nat) : Nat → Nat → tP → Nat × tP
  | 0, m, P => (m, P)
  | k + 1, m, P => match lst L P.1 n 0 none with
    | none => (m, P)
    | some c => thsP L th n k (m + 1) (thrP L th P c)
def wrtQ (D : tD) (t : Int32) : Nat → Bool := fun c => bt (D 7 2) c && decide (D 2 c = t)
def perQ (D : tD) (p : Int32) : Nat → Bool := fun c => bt (D 7 2) c && decide (D 0 c = p)
/-- one line of the plan: what, of which -/
def dedP (L : tL) (th : Bool) (n : Nat) (a : Nat) (v : Nat) (P : tP) : tP := if a = 0 then (thsP L th n v 0 P).2 else if a = 1 then (match bst L P.1 (perQ P.1 (nI v)) n 0 none with
  | none => P
  | some c => rngP L th P c) else if a = 2 then bndP th P v else if bt (P.1 7 2) v then P else fndP th P v
def wntT (th : Bool) (D : tD) : Int32 := if th then D 7 3 - D 7 3 / 6 * 6 else drV (drS D) 6
def wntD (th : Bool) (D : tD) : tD := if th then D else sA D 7 7 (drS D)
def wntP2 (L : tL) (th : Bool) (n : Nat) (t : Int32) (P : tP) : Bool × tP := match bst L P.1 (wrtQ P.1 t) n 0 none with
  | none => (false, sA P.1 7 6 (P.1 7 6 + 1), ent th (P.1 7 3) P.2 7 t 0)
  | some c => if ansW L th P.1 c then (true, sA (rchD th P.1 c) 7 4 (P.1 7 4 + 1), ent th (P.1 7 3) P.2 5 (nI c) (tell L P.1 c 0)) else (false, sA (rchD th P.1 c) 7 5 (P.1 7 5 + 1), ent th (P.1 7 3) P.2 6 (nI c) (tell L P.1 c 0))
def wntP (L : tL) (th : Bool) (n : Nat) (P : tP) : Bool × tP := wntP2 L th n (wntT th P.1) (wntD th P.1, P.2)
def werP (L : tL) (th : Bool) (c : Nat) (P : tP) : tP := if mn99 (P.1 5 c + tell L P.1 c 1) < 99 then (sA P.1 5 c (mn99 (P.1 5 c + tell L P.1 c 1)), P.2) else (drp (sA P.1 5 c (mn99 (P.1 5 c + tell L P.1 c 1))) c, ent th (P.1 7 3) P.2 8 (nI c) (P.1 5 c))
/-- the plan: of each line 0 its year, 1 what (0 .. 3), 2 of which; how many -/
def plnP (L : tL) (th : Bool) (n : Nat) (A : Nat → Nat → Nat) : Nat → Nat → tP → tP := lp (fun i P => if nI (A i 0) = P.1 7 3 then dedP L th n (A i 1) (A i 2) P else P)
def werA (L : tL) (th : Bool) : Nat → Nat → tP → tP := lp (fun c P => if bt (P.1 7 2) c then werP L th c P else P)
def yerP (L : tL) (th : Bool) (n m : Nat) (A : Nat → Nat → Nat) (P : tP) : Bool × tP :=
  let Q := wntP L th n (plnP L th n A m 0 P)
  let W := werA L th n 0 Q.2
  (Q.1, sA W.1 7 3 (W.1 7 3 + 1), W.2)
/-- what stays true of tables -/
theorem WD_up {n : Nat} {D : tD} {r c : Nat} {v : Int32} (h : WD n D) (hr : 3 ≤ r) (h1 : r = 7 → 3 ≤ c) : WD n (sA D r c v) := by
  obtain ⟨a, b, d, e⟩ := h
  have e1 : sA D r c v 7 1 = D 7 1 := by
    rw [sA_row]
    by_cases q : 7 = r
    · subst q
      rw [if_pos rfl, upd_ne (by have := h1 rfl; omega)]
    · rw [if_neg q]
  have e2 : sA D r c v 7 2 = D 7 2 := by
    rw [sA_row]
    by_cases q : 7 = r
    · subst q
      rw [if_pos rfl, upd_ne (by have := h1 rfl; omega)]
    · rw [if_neg q]
  refine ⟨a, by rw [e1]; exact b, by rw [e2]; exact d, fun c' hc' => ?_⟩
  rw [sA_ne (by omega), sA_ne (by omega), sA_ne (by omega)]
  exact e c' hc'
theorem WD_kept {n : Nat} {D : tD} {v : Int32} (h : WD n D) (hv : lowm v n) : WD n (sA D 7 2 v) := by
  obtain ⟨a, b, d, e⟩ := h
  refine ⟨a, by rw [sA_eq, upd_ne (by decide)]; exact b, by rw [sA_eq, upd_eq]; exact hv, fun c' hc' => ?_⟩
  rw [sA_ne (by omega), sA_ne (by omega), sA_ne (by omega)]
  exact e c' hc'
theorem WD_drp {n : Nat} {D : tD} {c : Nat} (h : WD n D) : WD n (drp D c) := WD_kept h (low_and h.2.2.1)
theorem bstS_no {L : tL} {D : tD} {q : Nat → Bool} {c : Nat} {b : Option Nat} (h : q c = false) : bstS L D q c b = b := by
  unfold bstS
  rw [h]
  rfl
theorem bstS_0 {L : tL} {D : tD} {q : Nat → Bool} {c : Nat} (h : q c = true) : bstS L D q c none = some c := by
  unfold bstS
  rw [h]
  rfl
theorem bstS_1 {L : tL} {D : tD} {q : Nat → Bool} {c b0 : Nat} (h : q c = true) : bstS L D q c (some b0) = if tell L D c 0 ≤ tell L D b0 0 then some b0 else some c := by
  unfold bstS
  rw [h]
  rfl
theorem lstS_no {L : tL} {D : tD} {c : Nat} {b : Option Nat} (h : bt (D 7 2) c = false) : lstS L D c b = b := by
  unfold lstS
  rw [h]
  rfl
theorem lstS_0 {L : tL} {D : tD} {c : Nat} (h : bt (D 7 2) c = true) : lstS L D c none = some c := by
  unfold lstS
  rw [h]
  rfl
theorem lstS_1 {L : tL} {D : tD} {c b0 : Nat} (h : bt (D 7 2) c = true) : lstS L D c (some b0) = if tell L D c 2 < tell L D b0 2 then some c else some b0 := by
  unfold lstS
  rw [h]
  rfl
theorem bst_some {L : tL} {D : tD} {q : Nat → Bool} {n : Nat} : ∀ {k i : Nat} {b : Option Nat}, i + k = n → (∀ c, b = some c → c < n ∧ q c = true) → ∀ c, bst L D q k i b = some c → c < n ∧ q c = true
  | 0, i, b, _, hb, c, h => hb c h
  | k + 1, i, b, hi, hb, c, h => by
    refine bst_some (k := k) (i := i + 1) (by omega) (fun c' h' => ?_) c h
    unfold bstS at h'
    cases hq : q i
    · rw [hq, if_neg (by decide)] at h'
      exact hb c' h'
    · rw [hq, if_pos rfl] at h'
      cases hbb : b with
      | none =>
        rw [hbb] at h'
        cases h'
        exact ⟨by omega, hq⟩
      | some b0 =>
        rw [hbb] at h'
        simp only at h'
        by_cases a : tell L D i 0 ≤ tell L D b0 0
        · rw [if_pos a] at h'
          exact hb c' (by rw [hbb]; exact h')
        · rw [if_neg a] at h'
          cases h'
          exact ⟨by omega, hq⟩
theorem lst_some {L : tL} {D : tD} {n : Nat} : ∀ {k i : Nat} {b : Option Nat}, i + k = n → (∀ c, b = some c → c < n) → ∀ c, lst L D k i b = some c → c < n
  | 0, i, b, _, hb, c, h => hb c h
  | k + 1, i, b, hi, hb, c, h => by
    refine lst_some (k := k) (i := i + 1) (by omega) (fun c' h' => ?_) c h
    unfold lstS at h'
    cases hq : bt (D 7 2) i
    · rw [hq, if_neg (by decide)] at h'
      exact hb c' h'
    · rw [hq, if_pos rfl] at h'
      cases hbb : b with
      | none =>
        rw [hbb] at h'
        cases h'
        omega
      | some b0 =>
        rw [hbb] at h'
        simp only at h'
        by_cases a : tell L D i 2 < tell L D b0 2
        · rw [if_pos a] at h'
          cases h'
          omega
        · rw [if_neg a] at h'
          exact hb c' (by rw [hbb]; exact h')
theorem WD_rch {n : Nat} {th : Bool} {D : tD} {c : Nat} (h : WD n D) : WD n (rchD th D c) := by
  unfold rchD
  cases th
  · exact WD_up (WD_up h (by omega) (by omega)) (by omega) (by omega)
  · exact WD_up h (by omega) (by omega)
theorem WD_rng {n : Nat} {L : tL} {th : Bool} {P : tP} {c : Nat} (h : WD n P.1) : WD n (rngP L th P c).1 := by
  unfold rngP
  cases ansW L th P.1 c
  · exact WD_up (WD_rch h) (by omega) (by omega)
  · exact WD_up (WD_rch h) (by omega) (by omega)
theorem WD_ths {n : Nat} {L : tL} {th : Bool} : ∀ {k m : Nat} {P : tP}, WD n P.1 → WD n (thsP L th n k m P).2.1
  | 0, _, _, h => h
  | k + 1, m, P, h => by
    rw [thsP]
    cases lst L P.1 n 0 none with
    | none => exact h
    | some c => exact WD_ths (P := thrP L th P c) (WD_drp h)
theorem WD_fnd {n : Nat} {th : Bool} {P : tP} {c : Nat} (h : WD n P.1) (hc : c < n) : WD n (fndP th P c).1 := WD_up (WD_kept h (low_or h.2.2.1 (low_bit hc (by have := h.1; omega)))) (by omega) (by omega)
theorem WD_ded {n : Nat} {L : tL} {th : Bool} {a v : Nat} {P : tP} (h : WD n P.1) (hv : 2 ≤ a → v < n) : WD n (dedP L th n a v P).1 := by
  unfold dedP
  by_cases a0 : a = 0
  · rw [if_pos a0]; exact WD_ths h
  rw [if_neg a0]
  by_cases a1 : a = 1
  · rw [if_pos a1]
    cases bst L P.1 (perQ P.1 (nI v)) n 0 none with
    | none => exact h
    | some c => exact WD_rng h
  rw [if_neg a1]
  by_cases a2 : a = 2
  · rw [if_pos a2]; exact WD_up h (by omega) (by omega)
  rw [if_neg a2]
  cases bt (P.1 7 2) v
  · exact WD_fnd h (hv (by omega))
  · exact h
theorem WD_pln {n : Nat} {L : tL} {th : Bool} {A : Nat → Nat → Nat} {m : Nat} (hA : ∀ i, i < m → 2 ≤ A i 1 → A i 2 < n) : ∀ {k i : Nat} {P : tP}, i + k = m → WD n P.1 → WD n (plnP L th n A k i P).1
  | 0, _, _, _, h => h
  | k + 1, i, P, hi, h => by
    refine WD_pln hA (k := k) (i := i + 1) (by omega) ?_
    show WD n (if nI (A i 0) = P.1 7 3 then _ else _ : tP).1
    by_cases e : nI (A i 0) = P.1 7 3
    · rw [if_pos e]; exact WD_ded h (hA i (by omega))
    · rw [if_neg e]; exact h
theorem WD_wnt {n : Nat} {L : tL} {th : Bool} {P : tP} (h : WD n P.1) : WD n (wntP L th n P).2.1 := by
  have h1 : WD n (wntD th P.1) := by
    unfold wntD
    cases th
    · exact WD_up h (by omega) (by omega)
    · exact h
  unfold wntP wntP2
  cases bst L (wntD th P.1) (wrtQ (wntD th P.1) (wntT th P.1)) n 0 none with
  | none => exact WD_up h1 (by omega) (by omega)
  | some c =>
    simp only
    cases ansW L th (wntD th P.1) c
    · exact WD_up (WD_rch h1) (by omega) (by omega)
    · exact WD_up (WD_rch h1) (by omega) (by omega)
theorem WD_wer {n : Nat} {L : tL} {th : Bool} {c : Nat} {P : tP} (h : WD n P.1) : WD n (werP L th c P).1 := by
  unfold werP
  by_cases e : mn99 (P.1 5 c + tell L P.1 c 1) < 99
  · rw [if_pos e]; exact WD_up h (by omega) (by omega)
  · rw [if_neg e]; exact WD_drp (WD_up h (by omega) (by omega))
theorem WD_werA {n : Nat} {L : tL} {th : Bool} : ∀ {k i : Nat} {P : tP}, WD n P.1 → WD n (werA L th k i P).1
  | 0, _, _, h => h
  | k + 1, i, P, h => by
    refine WD_werA (k := k) (i := i + 1) ?_
    show WD n (if bt (P.1 7 2) i then _ else _ : tP).1
    cases bt (P.1 7 2) i
    · exact h
    · exact WD_wer h
theorem WD_yer {n m : Nat} {L : tL} {th : Bool} {A : Nat → Nat → Nat} {P : tP} (hA : ∀ i, i < m → 2 ≤ A i 1 → A i 2 < n) (h : WD n P.1) : WD n (yerP L th n m A P).2.1 := by
  unfold yerP
  exact WD_up (WD_werA (WD_wnt (WD_pln hA (by omega) h))) (by omega) (by omega)
