/-! Reading a law: the nots that wait are settled. -/
def Nts : Nat → pS → pS → Prop
  | 0, X, Y => Y = X
  | j + 1, X, Y => ∃ X1, La_add_51 (306 : Int32) X = some (0, X1) ∧ Nts j X1 Y
theorem sub_two (a x : Int32) : a - 1 - x = a - (x + 1) := by
  rw [Int32.sub_eq_add_neg, Int32.sub_eq_add_neg, Int32.sub_eq_add_neg, Int32.neg_add, Int32.sub_eq_add_neg, Int32.add_assoc, Int32.add_comm (-1)]
theorem set_j : ∀ (j n : Nat) (L : tL) (W : List Nat) (X R : pS), Wt (List.replicate j 9 ++ W) R → j + W.length ≤ 40 → (∀ w, W.head? = some w → w ≠ 9 ∧ w < 100) → Em n L X R → n + j ≤ 400 → ∃ Y R' L', Nts j X Y ∧ R_settles_c0 (nI 9) R = some (0, R') ∧ Wt W R' ∧ Em (n + j) L' Y R' ∧ R'.1 0 27 = R.1 0 27 - nI j ∧ Gr n L L' ∧ (∀ n0 ty tz, n0 ≤ n → okRun L n0 (n - n0) ty = some (1 :: tz) → okRun L' n0 (n + j - n0) ty = some (1 :: tz)) ∧ Off [(51, 7)] [52] X Y ∧ Off [(0, 26), (0, 27), (0, 29)] [15, 16] R R' ∧ Sm R R' := by
  intro j
  induction j with
  | zero =>
    intro n L W X R hW hl hh he hn
    refine ⟨X, R, L, rfl, set_n (W := W) (by omega) hW (by omega) hh, hW, he, ?_, Gr.rf, fun n0 ty tz _ h => h, Off.rf, Off.rf, Sm.rf⟩
    rw [show nI 0 = (0 : Int32) from rfl, Int32.sub_zero]
  | succ j ih =>
    intro n L W X R hW hl hh he hn
    have hW' : Wt (9 :: (List.replicate j 9 ++ W)) R := hW
    have hlen : (List.replicate j 9 ++ W).length = j + W.length := by rw [List.length_append, List.length_replicate]
    obtain ⟨X1, R1, a1, a2, a3, a4, a5, a6, a7, a8, a9⟩ := set_1 (c := 9) (by omega) hW' (by omega) he (by omega)
    obtain ⟨Y, R', L', b1, b2, b3, b4, b5, b6, b7, b8, b9, b10⟩ := ih (n + 1) _ W X1 R1 a3 (by omega) hh a4 (by omega)
    refine ⟨Y, R', L', ⟨X1, a1, b1⟩, by rw [a2]; exact b2, b3, by rw [show n + (j + 1) = n + 1 + j from by omega]; exact b4, ?_, Gr.ad.tr b6 (by omega), fun n0 ty tz h1 h2 => ?_, a7.tr b8, a8.tr b9, a9.tr b10⟩
    · rw [b5, a6 rfl, show nI (j + 1) = nI j + 1 from (nI_1 j).symm, sub_two]
    · rw [show n + (j + 1) - n0 = n + 1 + j - n0 from by omega]
      exact b7 n0 ty tz (by omega) (ok_ad h1 h2 rfl)
