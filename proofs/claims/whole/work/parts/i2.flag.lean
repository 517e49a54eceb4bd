/-! Reading a law: an and, an or that waits is settled. -/
abbrev GC : List (Nat × Nat) := [(0, 13), (0, 14), (0, 15), (0, 16), (0, 26), (0, 30), (0, 31), (0, 27), (0, 29)]
abbrev VC : List Nat := [15, 16, 17]
def flg (a : Bool) (c : Nat) : List Nat := if a then [c] else []
def fln (a : Bool) : Nat := if a then 1 else 0
/-- the class adds the code if the flag is set -/
def FAdd (a : Bool) (c : Nat) (X Y : pS) : Prop := if a then La_add_51 (nI (tok c 0)) X = some (0, Y) else Y = X
theorem set_f {a : Bool} {n c : Nat} {L : tL} {W : List Nat} {X R : pS} (hc : c = 10 ∨ c = 11) (hW : Wt (flg a c ++ W) R) (hl : W.length < 40) (hh : ∀ w, W.head? = some w → w ≠ c ∧ w < 100) (he : Em n L X R) (hn : n + fln a ≤ 400) : ∃ Y R' L', FAdd a c X Y ∧ R_settles (nI c) R = some (0, R') ∧ Wt W R' ∧ Em (n + fln a) L' Y R' ∧ R'.1 0 27 = R.1 0 27 ∧ Gr n L L' ∧ (∀ n0 ty tz, n0 ≤ n → okRun L n0 (n - n0) ty = some (if a then 1 :: 1 :: tz else 1 :: tz) → okRun L' n0 (n + fln a - n0) ty = some (1 :: tz)) ∧ Off [(51, 7)] [52] X Y ∧ Off [(0, 26), (0, 27), (0, 29)] [15, 16] R R' ∧ Sm R R' := by
  rw [R_settles_eq]
  cases a
  · exact ⟨X, R, L, rfl, set_n (W := W) (by omega) hW (by omega) hh, hW, he, rfl, Gr.rf, fun n0 ty tz _ h => h, Off.rf, Off.rf, Sm.rf⟩
  · have hn : n + 1 ≤ 400 := hn
    obtain ⟨X1, R1, a1, a2, a3, a4, a5, a6, a7, a8, a9⟩ := set_1 (c := c) (W := W) (by omega) hW hl he (by omega)
    refine ⟨X1, R1, _, a1, by rw [a2]; exact set_n (W := W) (by omega) a3 (by omega) hh, a3, a4, a5 (by omega), Gr.ad, fun n0 ty tz h1 h2 => ?_, a7, a8, a9⟩
    refine ok_ad h1 h2 ?_
    rcases hc with z | z <;> (subst z; rfl)
