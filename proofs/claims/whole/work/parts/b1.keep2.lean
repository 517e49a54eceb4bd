/-! Deeds of the class, on: the keeper at cell 25. -/
theorem ent_25 {P : tP} {S : pS} {a b c : Int32} (h : XP_25 P S) : ∃ S', Ke_enter_25 a b c S = some (0, S') ∧ XP_25 (P.1, ent false (P.1 7 3) P.2 a b c) S' ∧ Off FK_25 WK_25 S S' := by
  obtain ⟨hX, h3, h0, h150, h2, hB⟩ := h
  rw [Ke_enter_25_eq, show rF S 1 3 = P.1 7 3 from hX.2 3 (by omega) (by omega), Ro_add_23_eq, show rF S 23 0 = nI 150 from h0, show rF S 23 2 = nI P.2.1 from h2]
  unfold ent
  rw [if_neg Bool.false_ne_true]
  by_cases q : P.2.1 = 150
  · rw [if_pos q, if_neg (by rw [nI_ltE (by omega) (by omega)]; omega), ob]
    exact ⟨S, rfl, ⟨hX, h3, h0, h150, h2, hB⟩, Off.rf⟩
  · rw [if_neg q, if_pos (by rw [nI_ltE (by omega) (by omega)]; omega)]
    simp (disch := omega) only [show (4 : Int32) = nI 4 from rfl, show (3 : Int32) = nI 3 from rfl, show (2 : Int32) = nI 2 from rfl, nI_1, pk_mul, nI_add, inb_n, if_true, ob]
    refine ⟨_, rfl, ⟨?_, ?_, ?_, by show P.2.1 + 1 ≤ 150; omega, ?_, ?_⟩, ((((Off.rf.wA (by decide)).wA (by decide)).wA (by decide)).wA (by decide)).wF (by decide)⟩
    · refine XD_off (F := [(23, 2)]) (W := [24]) hX (((((Off.rf.wA (by decide)).wA (by decide)).wA (by decide)).wA (by decide)).wF (by decide)) (fun i h1 h2 => by simp) (by decide)
    · rw [wF_1, sA_ne (by decide)]; exact h3
    · rw [wF_1, sA_eq, upd_ne (by decide)]; exact h0
    · rw [wF_1, sA_eq, upd_eq]
    · intro i hi
      have hi : i < 4 * (P.2.1 + 1) := hi
      rw [wF_2]
      simp (disch := omega) only [wA_21, sA_eq]
      simp only [upd_at, Nat.mul_comm P.2.1 4]
      by_cases i3 : i = 4 * P.2.1 + 3
      · rw [if_pos i3, if_pos i3]
      rw [if_neg i3, if_neg i3]
      by_cases i2 : i = 4 * P.2.1 + 2
      · rw [if_pos i2, if_pos i2]
      rw [if_neg i2, if_neg i2]
      by_cases i1 : i = 4 * P.2.1 + 1
      · rw [if_pos i1, if_pos i1]
      rw [if_neg i1, if_neg i1]
      by_cases i0 : i = 4 * P.2.1
      · rw [if_pos i0, if_pos i0]
      rw [if_neg i0, if_neg i0]
      exact hB i (by omega)
theorem reach_25 {n c : Nat} {L : tL} {P : tP} {S : pS} (hn : n ≤ 14) (hc : c < n) (h : XP_25 P S) (hg : S.1 25 4 = tell L P.1 c 0) : ∃ S', Ke_reaches_25 (nI c) S = some (b2i (ansW L false P.1 c), S') ∧ XP_25 (rchD false P.1 c, P.2) S' ∧ S'.1 25 4 = tell L P.1 c 0 ∧ Off FK_25 WK_25 S S' := by
  rw [Ke_reaches_25_eq]
  have r6 : Dr_read_1 (nI c) (6 : Int32) S = some (P.1 6 c, S) := read_1 (n := 0) (r := 6) h.1 (by omega) (by omega)
  have w6 : Dr_write_1 (nI c) (6 : Int32) (P.1 6 c + 1) S = _ := write_1 (r := 6) (by omega) (by omega)
  rw [r6, ob]
  simp only
  rw [w6, ob]
  simp only
  have hw : XP_25 (sA P.1 6 c (P.1 6 c + 1), P.2) (wA S 2 (nI (6 * 14 + c)) (P.1 6 c + 1)) := XP_row_25 (D := P.1) h (by omega) (by omega)
  have hof : Off FK_25 WK_25 S (wA S 2 (nI (6 * 14 + c)) (P.1 6 c + 1)) := Off.rf.wA (by decide)
  unfold ansW rchD
  rw [if_pos (show rF (wA S 2 (nI (6 * 14 + c)) (P.1 6 c + 1)) 25 3 = 0 from h.2.1), Dr_draw_1_eq, if_neg (by decide), if_neg (by decide), ob, if_neg Bool.false_ne_true, if_neg Bool.false_ne_true]
  have e7 : rF (wA S 2 (nI (6 * 14 + c)) (P.1 6 c + 1)) 1 7 = P.1 7 7 := h.1.2 7 (by omega) (by omega)
  simp only [e7]
  have eg : rF (wF (wA S 2 (nI (6 * 14 + c)) (P.1 6 c + 1)) 1 7 (P.1 7 7 * 1664525 + 1013904223)) 25 4 = tell L P.1 c 0 := by rw [show rF (wF (wA S 2 (nI (6 * 14 + c)) (P.1 6 c + 1)) 1 7 (P.1 7 7 * 1664525 + 1013904223)) 25 4 = S.1 25 4 from rfl]; exact hg
  have hw2 : XP_25 (sA (sA P.1 6 c (P.1 6 c + 1)) 7 7 (drS P.1), P.2) (wF (wA S 2 (nI (6 * 14 + c)) (P.1 6 c + 1)) 1 7 (P.1 7 7 * 1664525 + 1013904223)) := XP_f_25 hw
  rw [eg]
  change ∃ S', (if drV (drS P.1) 1000 < tell L P.1 c 0 then _ else _) = _ ∧ _ ∧ _ ∧ _
  by_cases q : drV (drS P.1) 1000 < tell L P.1 c 0
  · rw [if_pos q, decide_eq_true q]
    exact ⟨_, rfl, hw2, eg, hof.wF (by decide)⟩
  · rw [if_neg q, decide_eq_false q]
    exact ⟨_, rfl, hw2, eg, hof.wF (by decide)⟩
theorem XL_fk_25 {L : tL} {S S' : pS} (h : XL 4 L S) (ho : Off FK_25 WK_25 S S') : XL 4 L S' := XL_off h ho (by decide) (by decide) (by decide) (by decide) (by decide) (by decide) (by decide)
theorem off_fk_25 {S S' : pS} (ho : Off [(25, 4)] [10, 11] S S') : Off FK_25 WK_25 S S' := ho.mono (by simp) (by simp)
theorem ringN_25 {n p : Nat} {L : tL} {P : tP} {S : pS} (hD : WD n P.1) (hL : WL L) (h : XP_25 P S) (hXL : XL 4 L S) (hb : bst L P.1 (perQ P.1 (nI p)) n 0 none = none) : ∃ S', Ke_ringPerson_25 (nI p) S = some (-1, S') ∧ XP_25 P S' ∧ Off FK_25 WK_25 S S' := by
  have hn := hD.1
  obtain ⟨S1, q1, q2, q3, q4⟩ := likely_25 (set := kw P.1 0 (nI p) n) (q := perQ P.1 (nI p)) hD hL h hXL (fun c hc => by rw [kw_bt (by omega), decide_eq_true hc]; rfl)
  rw [Ke_ringPerson_25_eq, show Dr_keptWith_1 (0 : Int32) (nI p) S = _ from keptW_1 (r := 0) hD h.1 (by omega), ob]
  simp only
  rw [q1, ob, hb]
  exact ⟨S1, rfl, q3, off_fk_25 q4⟩
theorem ringS_25 {n p c : Nat} {L : tL} {P : tP} {S : pS} (hD : WD n P.1) (hL : WL L) (h : XP_25 P S) (hXL : XL 4 L S) (hb : bst L P.1 (perQ P.1 (nI p)) n 0 none = some c) : ∃ S', Ke_ringPerson_25 (nI p) S = some (b2i (ansW L false P.1 c), S') ∧ XP_25 (rngP L false P c) S' ∧ Off FK_25 WK_25 S S' := by
  have hn := hD.1
  have hc := (bst_some (n := n) (by omega) (fun c e => by cases e) c hb).1
  obtain ⟨S1, q1, q2, q3, q4⟩ := likely_25 (set := kw P.1 0 (nI p) n) (q := perQ P.1 (nI p)) hD hL h hXL (fun c hc => by rw [kw_bt (by omega), decide_eq_true hc]; rfl)
  rw [Ke_ringPerson_25_eq, show Dr_keptWith_1 (0 : Int32) (nI p) S = _ from keptW_1 (r := 0) hD h.1 (by omega), ob]
  simp only
  rw [hb] at q1 q2
  rw [q1, ob, show o2i (some c) = nI c from rfl]
  obtain ⟨S2, r1, r2, r3, r4⟩ := reach_25 (L := L) hn hc q3 q2
  have ho2 := (off_fk_25 q4).tr r4
  simp only
  rw [if_neg (nI_ne_m1 (by omega)), r1, ob]
  unfold rngP
  simp only
  have e3 : ∀ B : tB, (rchD false P.1 c, B).1 7 3 = P.1 7 3 := fun B => rch_3 false P.1 c
  cases ansW L false P.1 c
  · rw [b2i_f, if_pos rfl, Ke_ringPerson_25_c37_eq, show rF S2 25 4 = tell L P.1 c 0 from r3]
    obtain ⟨S3, s1, s2, s3⟩ := ent_25 (a := 1) (b := nI c) (c := tell L P.1 c 0) r2
    rw [e3] at s2
    simp only at s2
    rw [s1, ob, if_pos rfl, Dr_wear_1_eq]
    have r5 : Dr_read_1 (nI c) (5 : Int32) S3 = some (P.1 5 c, S3) := by
      have := read_1 (n := 0) (r := 5) (c := c) s2.1 (by omega) (by omega)
      simp only at this
      rw [rch_r false P.1 c (by omega)] at this
      exact this
    have w5 : Dr_write_1 (nI c) (5 : Int32) (mn99 (P.1 5 c + 9)) S3 = _ := write_1 (r := 5) (by omega) (by omega)
    simp only
    rw [r5, ob]
    simp only
    rw [show (if P.1 5 c + 9 < (99 : Int32) then P.1 5 c + 9 else (99 : Int32)) = mn99 (P.1 5 c + 9) from rfl, w5, ob]
    exact ⟨_, rfl, XP_row_25 s2 (by omega) (by omega), (ho2.tr s3).wA (by decide)⟩
  · rw [b2i_t, if_neg (by decide), Ke_ringPerson_25_c37_eq, show rF S2 25 4 = tell L P.1 c 0 from r3]
    obtain ⟨S3, s1, s2, s3⟩ := ent_25 (a := 0) (b := nI c) (c := tell L P.1 c 0) r2
    rw [e3] at s2
    simp only at s2
    rw [s1, ob, if_neg (by decide)]
    have w3 : Dr_write_1 (nI c) (3 : Int32) (P.1 7 3) S3 = _ := write_1 (r := 3) (by omega) (by omega)
    have n3 : rF S3 1 3 = P.1 7 3 := (s2.1.2 3 (by omega) (by omega)).trans (rch_3 false P.1 c)
    simp only
    rw [n3, w3, ob]
    exact ⟨_, rfl, XP_row_25 s2 (by omega) (by omega), (ho2.tr s3).wA (by decide)⟩
def wh (L : tL) (D : tD) : Option Nat → Int32
  | none => 0
  | some c => tell L D c 2
theorem thrL_25 {n : Nat} {L : tL} {P : tP} (hD : WD n P.1) (hL : WL L) : ∀ (k i : Nat) (b : Option Nat) (S : pS), i + k = n → (∀ c, b = some c → c < n) → XP_25 P S → XL 4 L S → ∃ S', Ke_throwLeast_25_c6 (o2i b) (wh L P.1 b) (nI i) S = some (b2i (lst L P.1 k i b).isSome, S') ∧ XP_25 (match lst L P.1 k i b with
    | none => P
    | some c => thrP L false P c) S' ∧ Off FK_25 WK_25 S S' := by
  have hn := hD.1
  intro k
  induction k with
  | zero =>
    intro i b S hi hb h hXL
    rw [Ke_throwLeast_25_c6_eq, show rF S 1 1 = nI n from cards_1 hD h.1, if_neg (by rw [nI_ltE (by omega) (by omega)]; omega)]
    show ∃ S', _ = some (b2i b.isSome, S') ∧ XP_25 (match b with
    | none => P
    | some c => thrP L false P c) S' ∧ _
    cases b with
    | none =>
      rw [if_pos (show o2i none = (-1 : Int32) from rfl)]
      exact ⟨S, rfl, h, Off.rf⟩
    | some c =>
      have hc := hb c rfl
      rw [show o2i (some c) = nI c from rfl, if_neg (nI_ne_m1 (by omega)), Dr_drop_1_eq, ob, show rF S 1 2 = P.1 7 2 from h.1.2 2 (by omega) (by omega)]
      have hw : XP_25 (drp P.1 c, P.2) (wF S 1 2 (P.1 7 2 &&& (((1 : Int32) <<< (nI c &&& 31)) ^^^ (-1 : Int32)))) := XP_f_25 (D := P.1) h
      obtain ⟨S1, s1, s2, s3⟩ := ent_25 (a := 2) (b := nI c) (c := tell L P.1 c 2) hw
      have e : (drp P.1 c, P.2).1 7 3 = P.1 7 3 := by
        show drp P.1 c 7 3 = _
        unfold drp
        rw [sA_eq, upd_ne (by decide)]
      rw [e] at s2
      simp only
      rw [show wh L P.1 (some c) = tell L P.1 c 2 from rfl, s1, ob]
      exact ⟨S1, rfl, s2, (Off.rf.wF (by decide)).tr s3⟩
  | succ k ih =>
    intro i b S hi hb h hXL
    rw [Ke_throwLeast_25_c6_eq, show rF S 1 1 = nI n from cards_1 hD h.1, if_pos (by rw [nI_ltE (by omega) (by omega)]; omega), kept_1 h.1 (by omega), ob]
    have go : ∀ (b' : Option Nat) (S1 : pS), Off [] [10, 11] S S1 → (∀ c, b' = some c → c < n) → lstS L P.1 i b = b' → ∃ S', Ke_throwLeast_25_c6 (o2i b') (wh L P.1 b') (nI i + 1) S1 = some (b2i (lst L P.1 (k + 1) i b).isSome, S') ∧ XP_25 (match lst L P.1 (k + 1) i b with
    | none => P
    | some c => thrP L false P c) S' ∧ Off FK_25 WK_25 S S' := by
      intro b' S1 ho hb' e
      have ho' : Off [(25, 4)] [10, 11] S S1 := ho.mono (by simp) (by simp)
      obtain ⟨S', q1, q2, q3⟩ := ih (i + 1) b' S1 (by omega) hb' (XP_off_25 h ho') (XL_fk_25 hXL (off_fk_25 ho'))
      rw [← e] at q1 q2
      rw [nI_1, ← e]
      exact ⟨S', q1, q2, (off_fk_25 ho').tr q3⟩
    simp only
    cases hs : bt (P.1 7 2) i
    · rw [b2i_f, if_pos rfl]
      exact go b S Off.rf hb (lstS_no hs)
    · rw [b2i_t, if_neg (by decide)]
      obtain ⟨S1, q1, q2⟩ := tell_1 (c := i) (w := 2) hD hL h.1 hXL (by omega) (by omega)
      have q1 : La_tell_4_1 (nI i) (2 : Int32) S = _ := q1
      rw [q1, ob]
      simp only
      cases b with
      | none =>
        rw [if_pos (show o2i none = (-1 : Int32) from rfl)]
        exact go (some i) S1 q2 (fun c e => by cases e; omega) (lstS_0 hs)
      | some b0 =>
        have := hb b0 rfl
        rw [if_neg (show ¬ o2i (some b0) = (-1 : Int32) from nI_ne_m1 (by omega))]
        by_cases e : tell L P.1 i 2 < tell L P.1 b0 2
        · rw [if_pos (show tell L P.1 i 2 < wh L P.1 (some b0) from e)]
          exact go (some i) S1 q2 (fun c e => by cases e; omega) (by rw [lstS_1 hs, if_pos e])
        · rw [if_neg (show ¬ tell L P.1 i 2 < wh L P.1 (some b0) from e)]
          exact go (some b0) S1 q2 hb (by rw [lstS_1 hs, if_neg e])
theorem thrA_25 {n : Nat} {L : tL} (hL : WL L) : ∀ (k i m : Nat) (P : tP) (S : pS), i + k < 1000 → WD n P.1 → XP_25 P S → XL 4 L S → ∃ S', Ke_throwCards_25_c4 (nI (i + k)) (nI m) (nI i) S = some (nI (thsP L false n k m P).1, S') ∧ XP_25 (thsP L false n k m P).2 S' ∧ Off FK_25 WK_25 S S' := by
  intro k
  induction k with
  | zero =>
    intro i m P S hi hD h hXL
    rw [Ke_throwCards_25_c4_eq, if_neg (by rw [nI_ltE (by omega) (by omega)]; omega)]
    exact ⟨S, rfl, h, Off.rf⟩
  | succ k ih =>
    intro i m P S hi hD h hXL
    rw [Ke_throwCards_25_c4_eq, if_pos (by rw [nI_ltE (by omega) (by omega)]; omega), Ke_throwLeast_25_eq]
    obtain ⟨S1, q1, q2, q3⟩ := thrL_25 hD hL n 0 none S (by omega) (fun c e => by cases e) h hXL
    have q1 : Ke_throwLeast_25_c6 (-1 : Int32) (0 : Int32) (0 : Int32) S = _ := q1
    rw [q1, ob, thsP]
    simp only
    cases hl : lst L P.1 n 0 none with
    | none =>
      rw [hl] at q2
      rw [if_pos (show b2i (none : Option Nat).isSome = 0 from rfl)]
      exact ⟨S1, rfl, q2, q3⟩
    | some c =>
      rw [hl] at q2
      rw [if_neg (show ¬ b2i (some c).isSome = 0 from (by decide : ¬ (1 : Int32) = 0)), nI_1, nI_1]
      obtain ⟨S2, r1, r2, r3⟩ := ih (i + 1) (m + 1) (thrP L false P c) S1 (by omega) (WD_drp hD) q2 (XL_fk_25 hXL q3)
      rw [show i + 1 + k = i + (k + 1) from by omega] at r1
      exact ⟨S2, r1, r2, q3.tr r3⟩
theorem thr_25 {n v : Nat} {L : tL} {P : tP} {S : pS} (hL : WL L) (hv : v < 1000) (hD : WD n P.1) (h : XP_25 P S) (hXL : XL 4 L S) : ∃ S', Ke_throwCards_25 (nI v) S = some (nI (thsP L false n v 0 P).1, S') ∧ XP_25 (thsP L false n v 0 P).2 S' ∧ Off FK_25 WK_25 S S' := by
  obtain ⟨S', h1, h2, h3⟩ := thrA_25 hL v 0 0 P S (by omega) hD h hXL
  rw [Nat.zero_add] at h1
  exact ⟨S', by rw [Ke_throwCards_25_eq]; exact h1, h2, h3⟩
theorem bend_25 {c : Nat} {P : tP} {S : pS} (hc : c < 14) (h : XP_25 P S) : ∃ S', Ke_bendCard_25 (nI c) S = some (0, S') ∧ XP_25 (bndP false P c) S' ∧ Off FK_25 WK_25 S S' := by
  have r4 : Dr_read_1 (nI c) (4 : Int32) S = some (P.1 4 c, S) := read_1 (n := 0) (r := 4) h.1 (by omega) (by omega)
  have w4 : Dr_write_1 (nI c) (4 : Int32) (1 - P.1 4 c) S = _ := write_1 (r := 4) (by omega) (by omega)
  have hw : XP_25 (sA P.1 4 c (1 - P.1 4 c), P.2) (wA S 2 (nI (4 * 14 + c)) (1 - P.1 4 c)) := XP_row_25 (D := P.1) h (by omega) (by omega)
  obtain ⟨S1, s1, s2, s3⟩ := ent_25 (a := 3) (b := nI c) (c := 1 - P.1 4 c) hw
  have e : (sA P.1 4 c (1 - P.1 4 c), P.2).1 7 3 = P.1 7 3 := by
    show sA P.1 4 c (1 - P.1 4 c) 7 3 = _
    rw [sA_ne (by decide)]
  rw [e] at s2
  rw [Ke_bendCard_25_eq, r4, ob]
  simp only
  rw [w4, ob]
  simp only
  rw [s1, ob]
  exact ⟨S1, rfl, s2, (Off.rf.wA (by decide)).tr s3⟩
theorem find_25 {c : Nat} {P : tP} {S : pS} (hc : c < 14) (hk : bt (P.1 7 2) c = false) (h : XP_25 P S) : ∃ S', Ke_findCard_25 (nI c) S = some (0, S') ∧ XP_25 (fndP false P c) S' ∧ Off FK_25 WK_25 S S' := by
  rw [Ke_findCard_25_eq, kept_1 h.1 (by omega), hk, ob, if_pos (show b2i false = 0 from rfl), show rF S 1 2 = P.1 7 2 from h.1.2 2 (by omega) (by omega)]
  have hw : XP_25 (sA P.1 7 2 (P.1 7 2 ||| bit c), P.2) (wF S 1 2 (P.1 7 2 ||| ((1 : Int32) <<< (nI c &&& 31)))) := XP_f_25 (D := P.1) h
  have w5 : Dr_write_1 (nI c) (5 : Int32) 0 (wF S 1 2 (P.1 7 2 ||| ((1 : Int32) <<< (nI c &&& 31)))) = _ := write_1 (r := 5) (by omega) (by omega)
  simp only
  rw [w5, ob]
  have hw2 : XP_25 (sA (sA P.1 7 2 (P.1 7 2 ||| bit c)) 5 c 0, P.2) (wA (wF S 1 2 (P.1 7 2 ||| ((1 : Int32) <<< (nI c &&& 31)))) 2 (nI (5 * 14 + c)) 0) := XP_row_25 hw (by omega) (by omega)
  obtain ⟨S1, s1, s2, s3⟩ := ent_25 (a := 4) (b := nI c) (c := 0) hw2
  have e : (sA (sA P.1 7 2 (P.1 7 2 ||| bit c)) 5 c 0, P.2).1 7 3 = P.1 7 3 := by
    show sA (sA P.1 7 2 (P.1 7 2 ||| bit c)) 5 c 0 7 3 = _
    rw [sA_ne (by decide), sA_eq, upd_ne (by decide)]
  rw [e] at s2
  simp only
  rw [s1, ob]
  exact ⟨S1, rfl, s2, ((Off.rf.wF (by decide)).wA (by decide)).tr s3⟩
/-! Deeds of the class, on: the keeper at cell 28. -/
theorem ent_28 {P : tP} {S : pS} {a b c : Int32} (h : XP_28 P S) : ∃ S', Ke_enter_28 a b c S = some (0, S') ∧ XP_28 (P.1, ent true (P.1 7 3) P.2 a b c) S' ∧ Off FK_28 WK_28 S S' := by
  rw [Ke_enter_28_eq, Ro_add_29_eq, show rF S 29 0 = 0 from h.2.2.1, show rF S 29 2 = 0 from h.2.2.2, if_neg (by decide), ob]
  exact ⟨S, rfl, h, Off.rf⟩
theorem reach_28 {n c : Nat} {L : tL} {P : tP} {S : pS} (hn : n ≤ 14) (hc : c < n) (h : XP_28 P S) (hg : S.1 28 4 = tell L P.1 c 0) : ∃ S', Ke_reaches_28 (nI c) S = some (b2i (ansW L true P.1 c), S') ∧ XP_28 (rchD true P.1 c, P.2) S' ∧ S'.1 28 4 = tell L P.1 c 0 ∧ Off FK_28 WK_28 S S' := by
  rw [Ke_reaches_28_eq]
  have r6 : Dr_read_26 (nI c) (6 : Int32) S = some (P.1 6 c, S) := read_26 (n := 0) (r := 6) h.1 (by omega) (by omega)
  have w6 : Dr_write_26 (nI c) (6 : Int32) (P.1 6 c + 1) S = _ := write_26 (r := 6) (by omega) (by omega)
  rw [r6, ob]
  simp only
  rw [w6, ob]
  simp only
  have hw : XP_28 (sA P.1 6 c (P.1 6 c + 1), P.2) (wA S 27 (nI (6 * 14 + c)) (P.1 6 c + 1)) := XP_row_28 (D := P.1) h (by omega) (by omega)
  have hof : Off FK_28 WK_28 S (wA S 27 (nI (6 * 14 + c)) (P.1 6 c + 1)) := Off.rf.wA (by decide)
  unfold ansW rchD
  rw [show rF (wA S 27 (nI (6 * 14 + c)) (P.1 6 c + 1)) 28 3 = 1 from h.2.1, if_neg (by decide), if_pos rfl, if_pos rfl, show rF (wA S 27 (nI (6 * 14 + c)) (P.1 6 c + 1)) 28 4 = tell L P.1 c 0 from hg]
  by_cases q : tell L P.1 c 0 < 500
  · rw [if_pos q, decide_eq_true q]
    exact ⟨_, rfl, hw, hg, hof⟩
  · rw [if_neg q, decide_eq_false q]
    exact ⟨_, rfl, hw, hg, hof⟩
theorem XL_fk_28 {L : tL} {S S' : pS} (h : XL 4 L S) (ho : Off FK_28 WK_28 S S') : XL 4 L S' := XL_off h ho (by decide) (by decide) (by decide) (by decide) (by decide) (by decide) (by decide)
theorem off_fk_28 {S S' : pS} (ho : Off [(28, 4)] [10, 11] S S') : Off FK_28 WK_28 S S' := ho.mono (by simp) (by simp)
theorem ringN_28 {n p : Nat} {L : tL} {P : tP} {S : pS} (hD : WD n P.1) (hL : WL L) (h : XP_28 P S) (hXL : XL 4 L S) (hb : bst L P.1 (perQ P.1 (nI p)) n 0 none = none) : ∃ S', Ke_ringPerson_28 (nI p) S = some (-1, S') ∧ XP_28 P S' ∧ Off FK_28 WK_28 S S' := by
  have hn := hD.1
  obtain ⟨S1, q1, q2, q3, q4⟩ := likely_28 (set := kw P.1 0 (nI p) n) (q := perQ P.1 (nI p)) hD hL h hXL (fun c hc => by rw [kw_bt (by omega), decide_eq_true hc]; rfl)
  rw [Ke_ringPerson_28_eq, show Dr_keptWith_26 (0 : Int32) (nI p) S = _ from keptW_26 (r := 0) hD h.1 (by omega), ob]
  simp only
  rw [q1, ob, hb]
  exact ⟨S1, rfl, q3, off_fk_28 q4⟩
theorem ringS_28 {n p c : Nat} {L : tL} {P : tP} {S : pS} (hD : WD n P.1) (hL : WL L) (h : XP_28 P S) (hXL : XL 4 L S) (hb : bst L P.1 (perQ P.1 (nI p)) n 0 none = some c) : ∃ S', Ke_ringPerson_28 (nI p) S = some (b2i (ansW L true P.1 c), S') ∧ XP_28 (rngP L true P c) S' ∧ Off FK_28 WK_28 S S' := by
  have hn := hD.1
  have hc := (bst_some (n := n) (by omega) (fun c e => by cases e) c hb).1
  obtain ⟨S1, q1, q2, q3, q4⟩ := likely_28 (set := kw P.1 0 (nI p) n) (q := perQ P.1 (nI p)) hD hL h hXL (fun c hc => by rw [kw_bt (by omega), decide_eq_true hc]; rfl)
  rw [Ke_ringPerson_28_eq, show Dr_keptWith_26 (0 : Int32) (nI p) S = _ from keptW_26 (r := 0) hD h.1 (by omega), ob]
  simp only
  rw [hb] at q1 q2
  rw [q1, ob, show o2i (some c) = nI c from rfl]
  obtain ⟨S2, r1, r2, r3, r4⟩ := reach_28 (L := L) hn hc q3 q2
  have ho2 := (off_fk_28 q4).tr r4
  simp only
  rw [if_neg (nI_ne_m1 (by omega)), r1, ob]
  unfold rngP
  simp only
  have e3 : ∀ B : tB, (rchD true P.1 c, B).1 7 3 = P.1 7 3 := fun B => rch_3 true P.1 c
  cases ansW L true P.1 c
  · rw [b2i_f, if_pos rfl, Ke_ringPerson_28_c37_eq, show rF S2 28 4 = tell L P.1 c 0 from r3]
    obtain ⟨S3, s1, s2, s3⟩ := ent_28 (a := 1) (b := nI c) (c := tell L P.1 c 0) r2
    rw [e3] at s2
    simp only at s2
    rw [s1, ob, if_pos rfl, Dr_wear_26_eq]
    have r5 : Dr_read_26 (nI c) (5 : Int32) S3 = some (P.1 5 c, S3) := by
      have := read_26 (n := 0) (r := 5) (c := c) s2.1 (by omega) (by omega)
      simp only at this
      rw [rch_r true P.1 c (by omega)] at this
      exact this
    have w5 : Dr_write_26 (nI c) (5 : Int32) (mn99 (P.1 5 c + 9)) S3 = _ := write_26 (r := 5) (by omega) (by omega)
    simp only
    rw [r5, ob]
    simp only
    rw [show (if P.1 5 c + 9 < (99 : Int32) then P.1 5 c + 9 else (99 : Int32)) = mn99 (P.1 5 c + 9) from rfl, w5, ob]
    exact ⟨_, rfl, XP_row_28 s2 (by omega) (by omega), (ho2.tr s3).wA (by decide)⟩
  · rw [b2i_t, if_neg (by decide), Ke_ringPerson_28_c37_eq, show rF S2 28 4 = tell L P.1 c 0 from r3]
    obtain ⟨S3, s1, s2, s3⟩ := ent_28 (a := 0) (b := nI c) (c := tell L P.1 c 0) r2
    rw [e3] at s2
    simp only at s2
    rw [s1, ob, if_neg (by decide)]
    have w3 : Dr_write_26 (nI c) (3 : Int32) (P.1 7 3) S3 = _ := write_26 (r := 3) (by omega) (by omega)
    have n3 : rF S3 26 3 = P.1 7 3 := (s2.1.2 3 (by omega) (by omega)).trans (rch_3 true P.1 c)
    simp only
    rw [n3, w3, ob]
    exact ⟨_, rfl, XP_row_28 s2 (by omega) (by omega), (ho2.tr s3).wA (by decide)⟩
theorem thrL_28 {n : Nat} {L : tL} {P : tP} (hD : WD n P.1) (hL : WL L) : ∀ (k i : Nat) (b : Option Nat) (S : pS), i + k = n → (∀ c, b = some c → c < n) → XP_28 P S → XL 4 L S → ∃ S', Ke_throwLeast_28_c6 (o2i b) (wh L P.1 b) (nI i) S = some (b2i (lst L P.1 k i b).isSome, S') ∧ XP_28 (match lst L P.1 k i b with
    | none => P
    | some c => thrP L true P c) S' ∧ Off FK_28 WK_28 S S' := by
  have hn := hD.1
  intro k
  induction k with
  | zero =>
    intro i b S hi hb h hXL
    rw [Ke_throwLeast_28_c6_eq, show rF S 26 1 = nI n from cards_26 hD h.1, if_neg (by rw [nI_ltE (by omega) (by omega)]; omega)]
    show ∃ S', _ = some (b2i b.isSome, S') ∧ XP_28 (match b with
    | none => P
    | some c => thrP L true P c) S' ∧ _
    cases b with
    | none =>
      rw [if_pos (show o2i none = (-1 : Int32) from rfl)]
      exact ⟨S, rfl, h, Off.rf⟩
    | some c =>
      have hc := hb c rfl
      rw [show o2i (some c) = nI c from rfl, if_neg (nI_ne_m1 (by omega)), Dr_drop_26_eq, ob, show rF S 26 2 = P.1 7 2 from h.1.2 2 (by omega) (by omega)]
      have hw : XP_28 (drp P.1 c, P.2) (wF S 26 2 (P.1 7 2 &&& (((1 : Int32) <<< (nI c &&& 31)) ^^^ (-1 : Int32)))) := XP_f_28 (D := P.1) h
      obtain ⟨S1, s1, s2, s3⟩ := ent_28 (a := 2) (b := nI c) (c := tell L P.1 c 2) hw
      have e : (drp P.1 c, P.2).1 7 3 = P.1 7 3 := by
        show drp P.1 c 7 3 = _
        unfold drp
        rw [sA_eq, upd_ne (by decide)]
      rw [e] at s2
      simp only
      rw [show wh L P.1 (some c) = tell L P.1 c 2 from rfl, s1, ob]
      exact ⟨S1, rfl, s2, (Off.rf.wF (by decide)).tr s3⟩
  | succ k ih =>
    intro i b S hi hb h hXL
    rw [Ke_throwLeast_28_c6_eq, show rF S 26 1 = nI n from cards_26 hD h.1, if_pos (by rw [nI_ltE (by omega) (by omega)]; omega), kept_26 h.1 (by omega), ob]
    have go : ∀ (b' : Option Nat) (S1 : pS), Off [] [10, 11] S S1 → (∀ c, b' = some c → c < n) → lstS L P.1 i b = b' → ∃ S', Ke_throwLeast_28_c6 (o2i b') (wh L P.1 b') (nI i + 1) S1 = some (b2i (lst L P.1 (k + 1) i b).isSome, S') ∧ XP_28 (match lst L P.1 (k + 1) i b with
    | none => P
    | some c => thrP L true P c) S' ∧ Off FK_28 WK_28 S S' := by
      intro b' S1 ho hb' e
      have ho' : Off [(28, 4)] [10, 11] S S1 := ho.mono (by simp) (by simp)
      obtain ⟨S', q1, q2, q3⟩ := ih (i + 1) b' S1 (by omega) hb' (XP_off_28 h ho') (XL_fk_28 hXL (off_fk_28 ho'))
      rw [← e] at q1 q2
      rw [nI_1, ← e]
      exact ⟨S', q1, q2, (off_fk_28 ho').tr q3⟩
    simp only
    cases hs : bt (P.1 7 2) i
    · rw [b2i_f, if_pos rfl]
      exact go b S Off.rf hb (lstS_no hs)
    · rw [b2i_t, if_neg (by decide)]
      obtain ⟨S1, q1, q2⟩ := tell_26 (c := i) (w := 2) hD hL h.1 hXL (by omega) (by omega)
      have q1 : La_tell_4_26 (nI i) (2 : Int32) S = _ := q1
      rw [q1, ob]
      simp only
      cases b with
      | none =>
        rw [if_pos (show o2i none = (-1 : Int32) from rfl)]
        exact go (some i) S1 q2 (fun c e => by cases e; omega) (lstS_0 hs)
      | some b0 =>
        have := hb b0 rfl
        rw [if_neg (show ¬ o2i (some b0) = (-1 : Int32) from nI_ne_m1 (by omega))]
        by_cases e : tell L P.1 i 2 < tell L P.1 b0 2
        · rw [if_pos (show tell L P.1 i 2 < wh L P.1 (some b0) from e)]
          exact go (some i) S1 q2 (fun c e => by cases e; omega) (by rw [lstS_1 hs, if_pos e])
        · rw [if_neg (show ¬ tell L P.1 i 2 < wh L P.1 (some b0) from e)]
          exact go (some b0) S1 q2 hb (by rw [lstS_1 hs, if_neg e])
theorem thrA_28 {n : Nat} {L : tL} (hL : WL L) : ∀ (k i m : Nat) (P : tP) (S : pS), i + k < 1000 → WD n P.1 → XP_28 P S → XL 4 L S → ∃ S', Ke_throwCards_28_c4 (nI (i + k)) (nI m) (nI i) S = some (nI (thsP L true n k m P).1, S') ∧ XP_28 (thsP L true n k m P).2 S' ∧ Off FK_28 WK_28 S S' := by
  intro k
  induction k with
  | zero =>
    intro i m P S hi hD h hXL
    rw [Ke_throwCards_28_c4_eq, if_neg (by rw [nI_ltE (by omega) (by omega)]; omega)]
    exact ⟨S, rfl, h, Off.rf⟩
  | succ k ih =>
    intro i m P S hi hD h hXL
    rw [Ke_throwCards_28_c4_eq, if_pos (by rw [nI_ltE (by omega) (by omega)]; omega), Ke_throwLeast_28_eq]
    obtain ⟨S1, q1, q2, q3⟩ := thrL_28 hD hL n 0 none S (by omega) (fun c e => by cases e) h hXL
    have q1 : Ke_throwLeast_28_c6 (-1 : Int32) (0 : Int32) (0 : Int32) S = _ := q1
    rw [q1, ob, thsP]
    simp only
    cases hl : lst L P.1 n 0 none with
    | none =>
      rw [hl] at q2
      rw [if_pos (show b2i (none : Option Nat).isSome = 0 from rfl)]
      exact ⟨S1, rfl, q2, q3⟩
    | some c =>
      rw [hl] at q2
      rw [if_neg (show ¬ b2i (some c).isSome = 0 from (by decide : ¬ (1 : Int32) = 0)), nI_1, nI_1]
      obtain ⟨S2, r1, r2, r3⟩ := ih (i + 1) (m + 1) (thrP L true P c) S1 (by omega) (WD_drp hD) q2 (XL_fk_28 hXL q3)
      rw [show i + 1 + k = i + (k + 1) from by omega] at r1
      exact ⟨S2, r1, r2, q3.tr r3⟩
theorem thr_28 {n v : Nat} {L : tL} {P : tP} {S : pS} (hL : WL L) (hv : v < 1000) (hD : WD n P.1) (h : XP_28 P S) (hXL : XL 4 L S) : ∃ S', Ke_throwCards_28 (nI v) S = some (nI (thsP L true n v 0 P).1, S') ∧ XP_28 (thsP L true n v 0 P).2 S' ∧ Off FK_28 WK_28 S S' := by
  obtain ⟨S', h1, h2, h3⟩ := thrA_28 hL v 0 0 P S (by omega) hD h hXL
  rw [Nat.zero_add] at h1
  exact ⟨S', by rw [Ke_throwCards_28_eq]; exact h1, h2, h3⟩
theorem bend_28 {c : Nat} {P : tP} {S : pS} (hc : c < 14) (h : XP_28 P S) : ∃ S', Ke_bendCard_28 (nI c) S = some (0, S') ∧ XP_28 (bndP true P c) S' ∧ Off FK_28 WK_28 S S' := by
  have r4 : Dr_read_26 (nI c) (4 : Int32) S = some (P.1 4 c, S) := read_26 (n := 0) (r := 4) h.1 (by omega) (by omega)
  have w4 : Dr_write_26 (nI c) (4 : Int32) (1 - P.1 4 c) S = _ := write_26 (r := 4) (by omega) (by omega)
  have hw : XP_28 (sA P.1 4 c (1 - P.1 4 c), P.2) (wA S 27 (nI (4 * 14 + c)) (1 - P.1 4 c)) := XP_row_28 (D := P.1) h (by omega) (by omega)
  obtain ⟨S1, s1, s2, s3⟩ := ent_28 (a := 3) (b := nI c) (c := 1 - P.1 4 c) hw
  have e : (sA P.1 4 c (1 - P.1 4 c), P.2).1 7 3 = P.1 7 3 := by
    show sA P.1 4 c (1 - P.1 4 c) 7 3 = _
    rw [sA_ne (by decide)]
  rw [e] at s2
  rw [Ke_bendCard_28_eq, r4, ob]
  simp only
  rw [w4, ob]
  simp only
  rw [s1, ob]
  exact ⟨S1, rfl, s2, (Off.rf.wA (by decide)).tr s3⟩
theorem find_28 {c : Nat} {P : tP} {S : pS} (hc : c < 14) (hk : bt (P.1 7 2) c = false) (h : XP_28 P S) : ∃ S', Ke_findCard_28 (nI c) S = some (0, S') ∧ XP_28 (fndP true P c) S' ∧ Off FK_28 WK_28 S S' := by
  rw [Ke_findCard_28_eq, kept_26 h.1 (by omega), hk, ob, if_pos (show b2i false = 0 from rfl), show rF S 26 2 = P.1 7 2 from h.1.2 2 (by omega) (by omega)]
  have hw : XP_28 (sA P.1 7 2 (P.1 7 2 ||| bit c), P.2) (wF S 26 2 (P.1 7 2 ||| ((1 : Int32) <<< (nI c &&& 31)))) := XP_f_28 (D := P.1) h
  have w5 : Dr_write_26 (nI c) (5 : Int32) 0 (wF S 26 2 (P.1 7 2 ||| ((1 : Int32) <<< (nI c &&& 31)))) = _ := write_26 (r := 5) (by omega) (by omega)
  simp only
  rw [w5, ob]
  have hw2 : XP_28 (sA (sA P.1 7 2 (P.1 7 2 ||| bit c)) 5 c 0, P.2) (wA (wF S 26 2 (P.1 7 2 ||| ((1 : Int32) <<< (nI c &&& 31)))) 27 (nI (5 * 14 + c)) 0) := XP_row_28 hw (by omega) (by omega)
  obtain ⟨S1, s1, s2, s3⟩ := ent_28 (a := 4) (b := nI c) (c := 0) hw2
  have e : (sA (sA P.1 7 2 (P.1 7 2 ||| bit c)) 5 c 0, P.2).1 7 3 = P.1 7 3 := by
    show sA (sA P.1 7 2 (P.1 7 2 ||| bit c)) 5 c 0 7 3 = _
    rw [sA_ne (by decide), sA_eq, upd_ne (by decide)]
  rw [e] at s2
  simp only
  rw [s1, ob]
  exact ⟨S1, rfl, s2, ((Off.rf.wF (by decide)).wA (by decide)).tr s3⟩
