/-! Reading a law: a unit. -/
abbrev FU : List (Nat × Nat) := [(50, 4), (50, 5), (50, 6), (50, 7), (50, 8), (51, 7)]
abbrev FSu : List (Nat × Nat) := [(50, 6), (50, 7), (50, 8), (51, 7)]
abbrev WU : List Nat := [52]
theorem oFU {X Y : pS} (h : Off FSu [52] X Y) : Off FU [52] X Y := h.mono (by decide) (by decide)
abbrev GU : List (Nat × Nat) := [(0, 13), (0, 14), (0, 15), (0, 16), (0, 26), (0, 30), (0, 31)]
abbrev VU : List Nat := [15, 16]
/-- a number or something asked -/
def isU (tv : Nat) : Prop := 1000 ≤ tv ∨ (307 ≤ tv ∧ tv ≤ 315)
def uOp (tv : Nat) : Nat := if 1000 ≤ tv then 0 else 1
def uAr (tv : Nat) : Nat := if 1000 ≤ tv then tv - 1000 else tv - 307
theorem u_tok {tv : Nat} (h : isU tv) : tok (uOp tv) (uAr tv) = tv := by
  unfold tok uOp uAr
  by_cases q : 1000 ≤ tv
  · rw [if_pos q, if_pos q, if_pos rfl]; omega
  · rw [if_neg q, if_neg q, if_neg (by decide), if_pos rfl]
    unfold isU at h
    omega
theorem u_ok {tv : Nat} (h : isU tv) (hl : tv < 11000) {ty : List Nat} (ht : ty.length < 32) : ∃ t, okStep (uOp tv) (uAr tv) ty = some (t :: ty) ∧ t ≠ 1 ∧ (1000 < tv → t = 2) := by
  unfold okStep uOp uAr
  by_cases q : 1000 ≤ tv
  · rw [if_pos q, if_pos q, if_pos rfl, if_pos ⟨ht, by omega⟩]
    by_cases z : tv - 1000 = 0
    · exact ⟨0, by rw [if_pos z], by decide, fun z2 => by omega⟩
    · exact ⟨2, by rw [if_neg z], by decide, fun _ => rfl⟩
  · unfold isU at h
    rw [if_neg q, if_neg q, if_neg (by decide), if_pos rfl, if_pos ⟨ht, by omega⟩]
    exact ⟨0, rfl, by decide, fun z => by omega⟩
theorem c80 {b : Nat → Nat} {len M k n : Nat} {L : tL} {X R : pS} (hM : tkn b len M = 0) (hx : Cx b len M k X) (hr : Cr b len k R) (he : Em n L X R) (hn : n ≤ k) (hu : isU (tkn b len k)) : ∃ X' R', Re_unit_50_c80 X = some (1, X') ∧ R_readUnit R = some (0, R') ∧ Cx b len M (k + 1) X' ∧ Cr b len (k + 1) R' ∧ Em (n + 1) (adL L n (uOp (tkn b len k)) (uAr (tkn b len k))) X' R' ∧ Off FSu WU X X' ∧ Off GU VU R R' ∧ Sm R R' := by
  have hlt := knd_lt hr.2.2.2
  have hk : k < M := k_lt hM hx (by unfold isU at hu; omega)
  have hM4 := hx.2.1
  obtain ⟨X1, R1, a1, a2, a3, a4, a5, a6⟩ := emt (op := uOp (tkn b len k)) (a := uAr (tkn b len k)) he (show n < 400 by omega)
  rw [u_tok hu] at a1
  have hx1 : Cx b len M k X1 := Cx_off hx a4 (by decide) (by decide) (by decide) (by decide)
  have hr1 : Cr b len k R1 := Cr_off hr a5 (by decide) (by decide) (by decide)
  obtain ⟨X2, x1, x2, x3⟩ := adv hx1 hk
  obtain ⟨R2, r1, r2, r3⟩ := rds hr1
  refine ⟨X2, R2, ?_, ?_, x2, r2, Em_off a3 x3 r3 (by decide) (by decide) (by decide) (by decide) (by decide), (a4.mono (by decide) (by decide)).tr (x3.mono (by decide) (by decide)), (a5.mono (by decide) (by decide)).tr (r3.mono (by decide) (by decide)), a6.tr (Sm.of r3 (by decide) (by decide))⟩
  · rw [Re_unit_50_c80_eq, show rF X 50 7 = nI (tkn b len k) from hx.2.2.2.1, a1, ob]
    simp only []
    rw [x1, ob]
  · have fin : ∀ x y : Int32, x = nI (uAr (tkn b len k)) → y = nI (uOp (tkn b len k)) → R_readUnit_c71 x y R = some (0, R2) := by
      rintro x y rfl rfl
      rw [R_readUnit_c71_eq, a2, ob]
      simp only []
      rw [r1, ob]
    by_cases q : 1000 ≤ tkn b len k
    · have kn := knd_n hr.2.2.2
      have e15 : rF R 0 15 = (3 : Int32) := kn.1.mpr q
      have e16 : rF R 0 16 = nI (uAr (tkn b len k)) := by unfold uAr; rw [if_pos q]; exact kn.2 q
      rw [R_readUnit_eq, e15, if_neg (show ¬ (3 : Int32) = 2 by decide), R_readUnit_c24_eq, if_pos rfl, e15, if_pos rfl, R_readUnit_c43_eq, if_pos rfl, R_readUnit_c53_eq, if_pos rfl]
      exact fin _ _ e16 (by unfold uOp; rw [if_pos q]; rfl)
    · unfold isU at hu
      obtain ⟨w, hw⟩ : ∃ w, tkn b len k = 300 + w := ⟨tkn b len k - 300, by omega⟩
      obtain ⟨e15, e16⟩ := (knd_w hr.2.2.2 (w := w) (by omega)).mpr hw
      have ca : R_canAsk (nI w) R = some (1, R) := by
        rw [R_canAsk_eq, show R_isIn (nI w) (7 : Int32) (15 : Int32) R = _ from inN (lo := 7) (hi := 15) (by omega) (by omega) (by omega), ob, decide_eq_true (show 7 ≤ w by omega), decide_eq_true (show w ≤ 15 by omega)]
        rfl
      rw [R_readUnit_eq, show rF R 0 15 = (2 : Int32) from e15, if_pos rfl, show rF R 0 16 = nI w from e16, ca, ob, if_neg (show ¬ (1 : Int32) = 0 by decide)]
      simp only []
      rw [R_readUnit_c24_eq, if_neg (show ¬ (1 : Int32) = 0 by decide), R_readUnit_c43_eq, if_neg (show ¬ (1 : Int32) = 0 by decide), R_readUnit_c53_eq, if_neg (show ¬ (1 : Int32) = 0 by decide), show rF R 0 16 = nI w from e16]
      exact fin _ _ (by unfold uAr; rw [if_neg q, show (7 : Int32) = nI 7 from rfl, nI_subE (by omega), hw, show 300 + w - 307 = w - 7 from by omega]) (by unfold uOp; rw [if_neg q]; rfl)
/-- the class's unit, by its sign -/
theorem unX {b : Nat → Nat} {len M k : Nat} {X : pS} (hx : Cx b len M k X) (hl : tkn b len k < 11000) : (isU (tkn b len k) → Re_unit_50 0 X = Re_unit_50_c80 X) ∧ (¬ isU (tkn b len k) → Re_unit_50 0 X = some (0, wF (wF X 50 4 1) 50 5 (nI (stt b len k)))) ∧ (1000 < tkn b len k → Re_unit_50 1 X = Re_unit_50_c80 X) ∧ (tkn b len k = 1000 → Re_unit_50 1 X = some (0, wF (wF X 50 4 2) 50 5 (nI (stt b len k)))) ∧ (tkn b len k < 1000 → Re_unit_50 1 X = some (0, wF (wF X 50 4 1) 50 5 (nI (stt b len k)))) := by
  have e7 : rF X 50 7 = nI (tkn b len k) := hx.2.2.2.1
  have u1 : ∀ z : Int32, tkn b len k < 1000 → Re_unit_50 z X = Re_unit_50_c15 z 0 X := fun z q => by
    rw [Re_unit_50_eq, e7, if_pos (show nI (tkn b len k) < (1000 : Int32) from nlt_t (n := 1000) q (by omega))]
  have u2 : ∀ z : Int32, ¬ tkn b len k < 1000 → Re_unit_50 z X = Re_unit_50_c15 z 1 X := fun z q => by
    rw [Re_unit_50_eq, e7, if_neg (show ¬ nI (tkn b len k) < (1000 : Int32) from nlt_f (n := 1000) q (by omega) (by omega))]
  have u3 : ∀ z s : Int32, ∃ y : Int32, Re_unit_50_c15 z s X = Re_unit_50_c41 z s y X ∧ (y = 0 ↔ ¬ (307 ≤ tkn b len k ∧ tkn b len k ≤ 315)) := fun z s => by
    rw [Re_unit_50_c15_eq, e7]
    by_cases q : tkn b len k < 307
    · exact ⟨0, by rw [if_pos (show nI (tkn b len k) < (307 : Int32) from nlt_t (n := 307) q (by omega))], ⟨fun _ => by omega, fun _ => rfl⟩⟩
    · rw [if_neg (show ¬ nI (tkn b len k) < (307 : Int32) from nlt_f (n := 307) q (by omega) (by omega))]
      by_cases q2 : tkn b len k ≤ 315
      · exact ⟨1, by rw [if_pos (show nI (tkn b len k) ≤ (315 : Int32) from (n_le (c := 315) (by omega) (by omega)).mpr q2)], ⟨fun z => absurd z (by decide), fun z => absurd ⟨by omega, q2⟩ z⟩⟩
      · exact ⟨0, by rw [if_neg (show ¬ nI (tkn b len k) ≤ (315 : Int32) from fun z => q2 ((n_le (c := 315) (by omega) (by omega)).mp z))], ⟨fun _ => by omega, fun _ => rfl⟩⟩
  have pb : pBool 1 0 = true := rfl
  refine ⟨fun h => ?_, fun h => ?_, fun h => ?_, fun h => ?_, fun h => ?_⟩
  · by_cases q : tkn b len k < 1000
    · obtain ⟨y, y1, y2⟩ := u3 0 0
      unfold isU at h
      rw [u1 0 q, y1, Re_unit_50_c41_eq, if_pos rfl, if_pos rfl, if_neg (fun z => (y2.mp z) (by omega)), Re_unit_50_c60_eq, if_pos rfl]
    · obtain ⟨y, y1, y2⟩ := u3 0 1
      rw [u2 0 q, y1, Re_unit_50_c41_eq, if_neg (by decide), Re_unit_50_c60_eq, if_pos rfl]
  · unfold isU at h
    obtain ⟨y, y1, y2⟩ := u3 0 0
    rw [u1 0 (by omega), y1, Re_unit_50_c41_eq, if_pos rfl, if_pos rfl, if_pos (y2.mpr (by omega)), fls hx, ob, if_pos pb]
  · obtain ⟨y, y1, y2⟩ := u3 1 1
    rw [u2 1 (by omega), y1, Re_unit_50_c41_eq, if_neg (by decide), Re_unit_50_c60_eq, if_neg (by decide), e7, if_neg (show ¬ nI (tkn b len k) = (1000 : Int32) by rw [show (1000 : Int32) = nI 1000 from rfl, nI_eqE (by omega) (by omega)]; omega)]
  · obtain ⟨y, y1, y2⟩ := u3 1 1
    rw [u2 1 (by omega), y1, Re_unit_50_c41_eq, if_neg (by decide), Re_unit_50_c60_eq, if_neg (by decide), e7, if_pos (show nI (tkn b len k) = (1000 : Int32) by rw [h]; rfl), fls hx, ob, if_pos pb]
  · obtain ⟨y, y1, y2⟩ := u3 1 0
    rw [u1 1 h, y1, Re_unit_50_c41_eq, if_pos rfl, if_neg (by decide), fls hx, ob, if_pos pb]
