/-! Equations of methods (written by program). -/
set_option maxRecDepth 20000 in
theorem La_tell_4_1_eq (a2 : Int32) (a3 : Int32) (S : pS) : La_tell_4_1 a2 a3 S = La_tell_4_1_c3 a2 a3 (0 : Int32) S := by
  show Res PT GX (rkT 72) 72 (cd72, [.ref 4, .ref 1, .int a2, .int a3, .null, .null, .null, .null], [], S) = _
  exact (R_blk PT GX (k := 72) (code := cd72) rfl [3, 70, 126] 400 _).trans rfl
set_option maxRecDepth 20000 in
theorem La_tell_4_1_c3_eq (l2 : Int32) (l3 : Int32) (l4 : Int32) (S : pS) : La_tell_4_1_c3 l2 l3 l4 S = if l4 < (7 : Int32) then ((Dr_read_1 l2 l4 S).bind (fun q1 => if inb l4 9 = true then (La_tell_4_1_c3 l2 l3 (l4 + (1 : Int32)) (wA q1.2 10 l4 q1.1)) else (none))) else ((Dr_read_1 l2 (3 : Int32) S).bind (fun q2 => La_tell_4_1_c70 l3 (if (0 : Int32) < ((rF S 1 3) - q2.1) then ((rF S 1 3) - q2.1) else (0 : Int32)) (0 : Int32) (wA (wA q2.2 10 (7 : Int32) (if (0 : Int32) < ((rF S 1 3) - q2.1) then ((rF S 1 3) - q2.1) else (0 : Int32))) 10 (8 : Int32) (rF q2.2 1 3)))) := by
  show Res PT GX (rkT 72) 72 (pCut cd72 3, [.ref 4, .ref 1, .int l2, .int l3, .int l4, .null, .null, .null], [], S) = _
  refine (R_reg PT GX (k := 72) (code := cd72) rfl [3, 70, 126] 400).trans ?_
  refine br_cong ?_ ?_
  · refine (R_cx PT GX hRk PT_40 rfl rfl rfl rfl rfl).trans ?_
    refine bind_cong (fun q1 => ?_)
    refine (R_blk PT GX (k := 72) (code := cd72) rfl [3, 70, 126] 400 _).trans ?_
    refine br_cong ?_ ?_
    · rfl
    · rfl
  · refine (R_cx PT GX hRk PT_40 rfl rfl rfl rfl rfl).trans ?_
    refine bind_cong (fun q2 => ?_)
    refine (R_blk PT GX (k := 72) (code := cd72) rfl [3, 70, 126] 400 _).trans ?_
    refine brT (by decide) ?_
    refine brT (by decide) ?_
    rfl
set_option maxRecDepth 20000 in
theorem La_tell_4_1_c70_eq (l3 : Int32) (l4 : Int32) (l5 : Int32) (S : pS) : La_tell_4_1_c70 l3 l4 l5 S = if l5 < (rF S 4 8) then (if inb l5 16 = true then (if inb l5 16 = true then (if inb l5 16 = true then (if (rA S 6 l5) = l3 then (if (rA S 8 l5) = (rA S 9 l5) then (La_tell_4_1_c126 l3 l5 (rA S 8 l5) S) else ((La_run_4 (rA S 8 l5) (rA S 9 l5) S).bind (fun q3 => if q3.1 = 0 then (La_tell_4_1_c70 l3 l4 (l5 + (1 : Int32)) q3.2) else (La_tell_4_1_c126 l3 l5 (rA S 8 l5) q3.2)))) else (La_tell_4_1_c70 l3 l4 (l5 + (1 : Int32)) S)) else (none)) else (none)) else (none)) else ((La_unlessTold l3 l4 S).bind (fun q4 => (La_held l3 q4.1 q4.2).bind (fun q5 => some (q5.1, q5.2)))) := by
  show Res PT GX (rkT 72) 72 (pCut cd72 70, [.ref 4, .null, .null, .int l3, .int l4, .int l5, .null, .null], [], S) = _
  refine (R_reg PT GX (k := 72) (code := cd72) rfl [3, 70, 126] 400).trans ?_
  refine br_cong ?_ ?_
  · refine br_cong ?_ ?_
    · refine br_cong ?_ ?_
      · refine br_cong ?_ ?_
        · refine br_cong ?_ ?_
          · refine br_cong ?_ ?_
            · rfl
            · refine (R_cx PT GX hRk PT_75 rfl rfl rfl rfl rfl).trans ?_
              refine bind_cong (fun q3 => ?_)
              refine (R_blk PT GX (k := 72) (code := cd72) rfl [3, 70, 126] 400 _).trans ?_
              refine br_cong ?_ ?_
              · rfl
              · rfl
          · rfl
        · rfl
      · rfl
    · rfl
  · refine (R_cx PT GX hRk PT_73 rfl rfl rfl rfl rfl).trans ?_
    refine bind_cong (fun q4 => ?_)
    refine (R_blk PT GX (k := 72) (code := cd72) rfl [3, 70, 126] 400 _).trans ?_
    refine (R_cx PT GX hRk PT_74 rfl rfl rfl rfl rfl).trans ?_
    refine bind_cong (fun q5 => ?_)
    refine (R_blk PT GX (k := 72) (code := cd72) rfl [3, 70, 126] 400 _).trans ?_
    exact R_retI PT GX rfl rfl
set_option maxRecDepth 20000 in
theorem La_tell_4_1_c126_eq (l3 : Int32) (l5 : Int32) (l6 : Int32) (S : pS) : La_tell_4_1_c126 l3 l5 l6 S = if inb l5 16 = true then ((La_run_4 (rA S 7 l5) l6 S).bind (fun q6 => (La_held l3 q6.1 q6.2).bind (fun q7 => some (q7.1, q7.2)))) else (none) := by
  show Res PT GX (rkT 72) 72 (pCut cd72 126, [.ref 4, .null, .null, .int l3, .null, .int l5, .int l6, .null], [], S) = _
  refine (R_reg PT GX (k := 72) (code := cd72) rfl [3, 70, 126] 400).trans ?_
  refine br_cong ?_ ?_
  · refine (R_cx PT GX hRk PT_75 rfl rfl rfl rfl rfl).trans ?_
    refine bind_cong (fun q6 => ?_)
    refine (R_blk PT GX (k := 72) (code := cd72) rfl [3, 70, 126] 400 _).trans ?_
    refine (R_cx PT GX hRk PT_74 rfl rfl rfl rfl rfl).trans ?_
    refine bind_cong (fun q7 => ?_)
    refine (R_blk PT GX (k := 72) (code := cd72) rfl [3, 70, 126] 400 _).trans ?_
    exact R_retI PT GX rfl rfl
  · rfl
set_option maxRecDepth 20000 in
theorem Dr_read_1_eq (a1 : Int32) (a2 : Int32) (S : pS) : Dr_read_1 a1 a2 S = (C_within a1 (14 : Int32) S).bind (fun q1 => if q1.1 = 0 then (some ((-1 : Int32), q1.2)) else ((C_within a2 (7 : Int32) q1.2).bind (fun q2 => if q2.1 = 0 then (some ((-1 : Int32), q2.2)) else (if inb ((a2 * (14 : Int32)) + a1) 98 = true then (some ((rA q2.2 2 ((a2 * (14 : Int32)) + a1)), q2.2)) else (none))))) := by
  show Res PT GX (rkT 40) 40 (cd40, [.ref 1, .int a1, .int a2], [], S) = _
  refine (R_blk PT GX (k := 40) (code := cd40) rfl [] 400 _).trans ?_
  refine (R_cx PT GX hRk PT_156 rfl rfl rfl rfl rfl).trans ?_
  refine bind_cong (fun q1 => ?_)
  refine (R_blk PT GX (k := 40) (code := cd40) rfl [] 400 _).trans ?_
  refine br_cong ?_ ?_
  · exact R_retI PT GX rfl rfl
  · refine (R_cx PT GX hRk PT_156 rfl rfl rfl rfl rfl).trans ?_
    refine bind_cong (fun q2 => ?_)
    refine (R_blk PT GX (k := 40) (code := cd40) rfl [] 400 _).trans ?_
    refine br_cong ?_ ?_
    · exact R_retI PT GX rfl rfl
    · refine br_cong ?_ ?_
      · exact R_retI PT GX rfl rfl
      · rfl
set_option maxRecDepth 20000 in
theorem To_introducer_3_eq (a1 : Int32) (S : pS) : To_introducer_3 a1 S = (C_within a1 (12 : Int32) S).bind (fun q1 => if q1.1 = 0 then (some ((-1 : Int32), q1.2)) else (if inb a1 12 = true then (some ((rA q1.2 12 a1), q1.2)) else (none))) := by
  show Res PT GX (rkT 113) 113 (cd113, [.ref 3, .int a1], [], S) = _
  refine (R_blk PT GX (k := 113) (code := cd113) rfl [] 400 _).trans ?_
  refine (R_cx PT GX hRk PT_156 rfl rfl rfl rfl rfl).trans ?_
  refine bind_cong (fun q1 => ?_)
  refine (R_blk PT GX (k := 113) (code := cd113) rfl [] 400 _).trans ?_
  refine br_cong ?_ ?_
  · exact R_retI PT GX rfl rfl
  · refine br_cong ?_ ?_
    · exact R_retI PT GX rfl rfl
    · rfl
set_option maxRecDepth 20000 in
theorem To_firstYear_3_eq (a1 : Int32) (S : pS) : To_firstYear_3 a1 S = (C_within a1 (8 : Int32) S).bind (fun q1 => if q1.1 = 0 then (some ((-1 : Int32), q1.2)) else (if inb a1 8 = true then (some ((rA q1.2 13 a1), q1.2)) else (none))) := by
  show Res PT GX (rkT 114) 114 (cd114, [.ref 3, .int a1], [], S) = _
  refine (R_blk PT GX (k := 114) (code := cd114) rfl [] 400 _).trans ?_
  refine (R_cx PT GX hRk PT_156 rfl rfl rfl rfl rfl).trans ?_
  refine bind_cong (fun q1 => ?_)
  refine (R_blk PT GX (k := 114) (code := cd114) rfl [] 400 _).trans ?_
  refine br_cong ?_ ?_
  · exact R_retI PT GX rfl rfl
  · refine br_cong ?_ ?_
    · exact R_retI PT GX rfl rfl
    · rfl
set_option maxRecDepth 20000 in
theorem To_lastYear_3_eq (a1 : Int32) (S : pS) : To_lastYear_3 a1 S = (C_within a1 (8 : Int32) S).bind (fun q1 => if q1.1 = 0 then (some ((-1 : Int32), q1.2)) else (if inb a1 8 = true then (some ((rA q1.2 14 a1), q1.2)) else (none))) := by
  show Res PT GX (rkT 115) 115 (cd115, [.ref 3, .int a1], [], S) = _
  refine (R_blk PT GX (k := 115) (code := cd115) rfl [] 400 _).trans ?_
  refine (R_cx PT GX hRk PT_156 rfl rfl rfl rfl rfl).trans ?_
  refine bind_cong (fun q1 => ?_)
  refine (R_blk PT GX (k := 115) (code := cd115) rfl [] 400 _).trans ?_
  refine br_cong ?_ ?_
  · exact R_retI PT GX rfl rfl
  · refine br_cong ?_ ?_
    · exact R_retI PT GX rfl rfl
    · rfl
set_option maxRecDepth 20000 in
theorem Ro_at_23_eq (a1 : Int32) (a2 : Int32) (S : pS) : Ro_at_23 a1 a2 S = if a1 < 0 then (some ((-1 : Int32), S)) else (if a1 < (rF S 23 2) then ((C_within a2 (4 : Int32) S).bind (fun q1 => if q1.1 = 0 then (some ((-1 : Int32), q1.2)) else (if inb ((a1 * (4 : Int32)) + a2) 600 = true then (some ((rA q1.2 24 ((a1 * (4 : Int32)) + a2)), q1.2)) else (none)))) else (some ((-1 : Int32), S))) := by
  show Res PT GX (rkT 97) 97 (cd97, [.ref 23, .int a1, .int a2], [], S) = _
  refine (R_blk PT GX (k := 97) (code := cd97) rfl [] 400 _).trans ?_
  refine br_cong ?_ ?_
  · exact R_retI PT GX rfl rfl
  · refine br_cong ?_ ?_
    · refine (R_cx PT GX hRk PT_156 rfl rfl rfl rfl rfl).trans ?_
      refine bind_cong (fun q1 => ?_)
      refine (R_blk PT GX (k := 97) (code := cd97) rfl [] 400 _).trans ?_
      refine br_cong ?_ ?_
      · exact R_retI PT GX rfl rfl
      · refine br_cong ?_ ?_
        · exact R_retI PT GX rfl rfl
        · rfl
    · exact R_retI PT GX rfl rfl
set_option maxRecDepth 20000 in
theorem Dr_copyFrom_26_1_eq (S : pS) : Dr_copyFrom_26_1 S = some (0, (wF (wF (wF (wF (wF (wF (wF (wC S 2 (0 : Int32) 27 (0 : Int32) (98 : Int32)) 26 1 (rF S 1 1)) 26 2 (rF S 1 2)) 26 3 (rF S 1 3)) 26 4 (rF S 1 4)) 26 5 (rF S 1 5)) 26 6 (rF S 1 6)) 26 7 (rF S 1 7))) := by
  show Res PT GX (rkT 37) 37 (cd37, [.ref 26, .ref 1], [], S) = _
  refine (R_blk PT GX (k := 37) (code := cd37) rfl [] 400 _).trans ?_
  refine brT ⟨by decide, by decide, by decide, by decide, by decide, Nat.le_of_ble_eq_true rfl⟩ ?_
  refine brT (Or.inl rfl) ?_
  refine brT (Or.inl rfl) ?_
  refine brT (Or.inl rfl) ?_
  refine brT (Or.inl rfl) ?_
  refine brT (Or.inl rfl) ?_
  refine brT (Or.inl rfl) ?_
  refine brT (Or.inl rfl) ?_
  exact R_retV PT GX rfl
set_option maxRecDepth 20000 in
theorem Ke_passYear_28_eq (S : pS) : Ke_passYear_28 S = Ke_passYear_28_c2 (0 : Int32) S := by
  show Res PT GX (rkT 63) 63 (cd63, [.ref 28, .null], [], S) = _
  exact (R_blk PT GX (k := 63) (code := cd63) rfl [2, 78] 400 _).trans rfl
set_option maxRecDepth 20000 in
theorem Ke_passYear_28_c2_eq (l1 : Int32) (S : pS) : Ke_passYear_28_c2 l1 S = if l1 < (rF S 15 2) then ((Ro_at_15 l1 (0 : Int32) S).bind (fun q1 => if q1.1 = (rF q1.2 26 3) then ((Ro_at_15 l1 (1 : Int32) q1.2).bind (fun q2 => (Ro_at_15 l1 (2 : Int32) q2.2).bind (fun q3 => (Ke_carryOut_28 q2.1 q3.1 q3.2).bind (fun q4 => Ke_passYear_28_c2 (l1 + (1 : Int32)) q4.2)))) else (Ke_passYear_28_c2 (l1 + (1 : Int32)) q1.2))) else ((Ke_wantTrade_28 S).bind (fun q5 => Ke_passYear_28_c78 (0 : Int32) q5.2)) := by
  show Res PT GX (rkT 63) 63 (pCut cd63 2, [.ref 28, .int l1], [], S) = _
  refine (R_reg PT GX (k := 63) (code := cd63) rfl [2, 78] 400).trans ?_
  refine br_cong ?_ ?_
  · refine (R_cx PT GX hRk PT_97 rfl rfl rfl rfl rfl).trans ?_
    refine bind_cong (fun q1 => ?_)
    refine (R_blk PT GX (k := 63) (code := cd63) rfl [2, 78] 400 _).trans ?_
    refine br_cong ?_ ?_
    · refine (R_cx PT GX hRk PT_97 rfl rfl rfl rfl rfl).trans ?_
      refine bind_cong (fun q2 => ?_)
      refine (R_blk PT GX (k := 63) (code := cd63) rfl [2, 78] 400 _).trans ?_
      refine (R_cx PT GX hRk PT_97 rfl rfl rfl rfl rfl).trans ?_
      refine bind_cong (fun q3 => ?_)
      refine (R_blk PT GX (k := 63) (code := cd63) rfl [2, 78] 400 _).trans ?_
      refine (R_cx PT GX hRk PT_64 rfl rfl rfl rfl rfl).trans ?_
      refine bind_cong (fun q4 => ?_)
      exact (R_blk PT GX (k := 63) (code := cd63) rfl [2, 78] 400 _).trans rfl
    · rfl
  · refine (R_cx PT GX hRk PT_65 rfl rfl rfl rfl rfl).trans ?_
    refine bind_cong (fun q5 => ?_)
    exact (R_blk PT GX (k := 63) (code := cd63) rfl [2, 78] 400 _).trans rfl
set_option maxRecDepth 20000 in
theorem Ke_passYear_28_c78_eq (l1 : Int32) (S : pS) : Ke_passYear_28_c78 l1 S = if l1 < (rF S 26 1) then ((Dr_isKept_26 l1 S).bind (fun q6 => if q6.1 = 0 then (Ke_passYear_28_c78 (l1 + (1 : Int32)) q6.2) else ((Ke_wearCard_28 l1 q6.2).bind (fun q7 => Ke_passYear_28_c78 (l1 + (1 : Int32)) q7.2)))) else (some (0, (wF S 26 3 ((rF S 26 3) + (1 : Int32))))) := by
  show Res PT GX (rkT 63) 63 (pCut cd63 78, [.ref 28, .int l1], [], S) = _
  refine (R_reg PT GX (k := 63) (code := cd63) rfl [2, 78] 400).trans ?_
  refine br_cong ?_ ?_
  · refine (R_cx PT GX hRk PT_39 rfl rfl rfl rfl rfl).trans ?_
    refine bind_cong (fun q6 => ?_)
    refine (R_blk PT GX (k := 63) (code := cd63) rfl [2, 78] 400 _).trans ?_
    refine br_cong ?_ ?_
    · rfl
    · refine (R_cx PT GX hRk PT_66 rfl rfl rfl rfl rfl).trans ?_
      refine bind_cong (fun q7 => ?_)
      exact (R_blk PT GX (k := 63) (code := cd63) rfl [2, 78] 400 _).trans rfl
  · refine brT (Or.inl rfl) ?_
    exact R_retV PT GX rfl
set_option maxRecDepth 20000 in
theorem J_bitCount_eq (a0 : Int32) (S : pS) : J_bitCount a0 S = some (((((((((a0 - (((a0).toUInt32 >>> (((1 : Int32)).toUInt32 &&& Int32.toUInt32 31)).toInt32 &&& (1431655765 : Int32))) &&& (858993459 : Int32)) + ((((a0 - (((a0).toUInt32 >>> (((1 : Int32)).toUInt32 &&& Int32.toUInt32 31)).toInt32 &&& (1431655765 : Int32)))).toUInt32 >>> (((2 : Int32)).toUInt32 &&& Int32.toUInt32 31)).toInt32 &&& (858993459 : Int32))) + (((((a0 - (((a0).toUInt32 >>> (((1 : Int32)).toUInt32 &&& Int32.toUInt32 31)).toInt32 &&& (1431655765 : Int32))) &&& (858993459 : Int32)) + ((((a0 - (((a0).toUInt32 >>> (((1 : Int32)).toUInt32 &&& Int32.toUInt32 31)).toInt32 &&& (1431655765 : Int32)))).toUInt32 >>> (((2 : Int32)).toUInt32 &&& Int32.toUInt32 31)).toInt32 &&& (858993459 : Int32)))).toUInt32 >>> (((4 : Int32)).toUInt32 &&& Int32.toUInt32 31)).toInt32) &&& (252645135 : Int32)) + (((((((a0 - (((a0).toUInt32 >>> (((1 : Int32)).toUInt32 &&& Int32.toUInt32 31)).toInt32 &&& (1431655765 : Int32))) &&& (858993459 : Int32)) + ((((a0 - (((a0).toUInt32 >>> (((1 : Int32)).toUInt32 &&& Int32.toUInt32 31)).toInt32 &&& (1431655765 : Int32)))).toUInt32 >>> (((2 : Int32)).toUInt32 &&& Int32.toUInt32 31)).toInt32 &&& (858993459 : Int32))) + (((((a0 - (((a0).toUInt32 >>> (((1 : Int32)).toUInt32 &&& Int32.toUInt32 31)).toInt32 &&& (1431655765 : Int32))) &&& (858993459 : Int32)) + ((((a0 - (((a0).toUInt32 >>> (((1 : Int32)).toUInt32 &&& Int32.toUInt32 31)).toInt32 &&& (1431655765 : Int32)))).toUInt32 >>> (((2 : Int32)).toUInt32 &&& Int32.toUInt32 31)).toInt32 &&& (858993459 : Int32)))).toUInt32 >>> (((4 : Int32)).toUInt32 &&& Int32.toUInt32 31)).toInt32) &&& (252645135 : Int32))).toUInt32 >>> (((8 : Int32)).toUInt32 &&& Int32.toUInt32 31)).toInt32) + ((((((((a0 - (((a0).toUInt32 >>> (((1 : Int32)).toUInt32 &&& Int32.toUInt32 31)).toInt32 &&& (1431655765 : Int32))) &&& (858993459 : Int32)) + ((((a0 - (((a0).toUInt32 >>> (((1 : Int32)).toUInt32 &&& Int32.toUInt32 31)).toInt32 &&& (1431655765 : Int32)))).toUInt32 >>> (((2 : Int32)).toUInt32 &&& Int32.toUInt32 31)).toInt32 &&& (858993459 : Int32))) + (((((a0 - (((a0).toUInt32 >>> (((1 : Int32)).toUInt32 &&& Int32.toUInt32 31)).toInt32 &&& (1431655765 : Int32))) &&& (858993459 : Int32)) + ((((a0 - (((a0).toUInt32 >>> (((1 : Int32)).toUInt32 &&& Int32.toUInt32 31)).toInt32 &&& (1431655765 : Int32)))).toUInt32 >>> (((2 : Int32)).toUInt32 &&& Int32.toUInt32 31)).toInt32 &&& (858993459 : Int32)))).toUInt32 >>> (((4 : Int32)).toUInt32 &&& Int32.toUInt32 31)).toInt32) &&& (252645135 : Int32)) + (((((((a0 - (((a0).toUInt32 >>> (((1 : Int32)).toUInt32 &&& Int32.toUInt32 31)).toInt32 &&& (1431655765 : Int32))) &&& (858993459 : Int32)) + ((((a0 - (((a0).toUInt32 >>> (((1 : Int32)).toUInt32 &&& Int32.toUInt32 31)).toInt32 &&& (1431655765 : Int32)))).toUInt32 >>> (((2 : Int32)).toUInt32 &&& Int32.toUInt32 31)).toInt32 &&& (858993459 : Int32))) + (((((a0 - (((a0).toUInt32 >>> (((1 : Int32)).toUInt32 &&& Int32.toUInt32 31)).toInt32 &&& (1431655765 : Int32))) &&& (858993459 : Int32)) + ((((a0 - (((a0).toUInt32 >>> (((1 : Int32)).toUInt32 &&& Int32.toUInt32 31)).toInt32 &&& (1431655765 : Int32)))).toUInt32 >>> (((2 : Int32)).toUInt32 &&& Int32.toUInt32 31)).toInt32 &&& (858993459 : Int32)))).toUInt32 >>> (((4 : Int32)).toUInt32 &&& Int32.toUInt32 31)).toInt32) &&& (252645135 : Int32))).toUInt32 >>> (((8 : Int32)).toUInt32 &&& Int32.toUInt32 31)).toInt32)).toUInt32 >>> (((16 : Int32)).toUInt32 &&& Int32.toUInt32 31)).toInt32) &&& (63 : Int32)), S) := by
  show Res PT GX (rkT 288) 288 (cd288, [.int a0], [], S) = _
  refine (R_blk PT GX (k := 288) (code := cd288) rfl [] 400 _).trans ?_
  exact R_retI PT GX rfl rfl
set_option maxRecDepth 20000 in
theorem Ro_clear_17_eq (S : pS) : Ro_clear_17 S = some ((0 : Int32), (wF S 17 2 (0 : Int32))) := by
  show Res PT GX (rkT 96) 96 (cd96, [.ref 17], [], S) = _
  refine (R_blk PT GX (k := 96) (code := cd96) rfl [] 400 _).trans ?_
  refine brT (Or.inl rfl) ?_
  exact R_retI PT GX rfl rfl
set_option maxRecDepth 20000 in
theorem Ro_add_17_eq (a1 : Int32) (a2 : Int32) (a3 : Int32) (a4 : Int32) (S : pS) : Ro_add_17 a1 a2 a3 a4 S = if (rF S 17 2) < (rF S 17 0) then (if inb ((rF S 17 2) * (4 : Int32)) 48 = true then (if inb (((rF S 17 2) * (4 : Int32)) + (1 : Int32)) 48 = true then (if inb (((rF S 17 2) * (4 : Int32)) + (2 : Int32)) 48 = true then (if inb (((rF S 17 2) * (4 : Int32)) + (3 : Int32)) 48 = true then (some (((rF S 17 2) + (1 : Int32)), (wF (wA (wA (wA (wA S 18 ((rF S 17 2) * (4 : Int32)) a1) 18 (((rF S 17 2) * (4 : Int32)) + (1 : Int32)) a2) 18 (((rF S 17 2) * (4 : Int32)) + (2 : Int32)) a3) 18 (((rF S 17 2) * (4 : Int32)) + (3 : Int32)) a4) 17 2 ((rF S 17 2) + (1 : Int32))))) else (none)) else (none)) else (none)) else (none)) else (some ((-1 : Int32), S)) := by
  show Res PT GX (rkT 95) 95 (cd95, [.ref 17, .int a1, .int a2, .int a3, .int a4, .null], [], S) = _
  refine (R_blk PT GX (k := 95) (code := cd95) rfl [] 400 _).trans ?_
  refine br_cong ?_ ?_
  · refine br_cong ?_ ?_
    · refine br_cong ?_ ?_
      · refine br_cong ?_ ?_
        · refine br_cong ?_ ?_
          · refine brT (Or.inl rfl) ?_
            exact R_retI PT GX rfl rfl
          · rfl
        · rfl
      · rfl
    · rfl
  · exact R_retI PT GX rfl rfl
set_option maxRecDepth 20000 in
theorem Da_narrow_61_eq (S : pS) : Da_narrow_61 S = Da_narrow_61_c2 (0 : Int32) S := by
  show Res PT GX (rkT 34) 34 (cd34, [.ref 61, .null, .null], [], S) = _
  exact (R_blk PT GX (k := 34) (code := cd34) rfl [2, 59, 67, 123] 400 _).trans rfl
set_option maxRecDepth 20000 in
theorem Da_narrow_61_c2_eq (l1 : Int32) (S : pS) : Da_narrow_61_c2 l1 S = if l1 < (rF S 1 1) then ((Dr_read_1 l1 (1 : Int32) S).bind (fun q1 => (To_firstYear_3 q1.1 q1.2).bind (fun q2 => if inb l1 14 = true then ((To_lastYear_3 q1.1 (wA q2.2 62 l1 q2.1)).bind (fun q3 => if inb l1 14 = true then (Da_narrow_61_c2 (l1 + (1 : Int32)) (wA q3.2 63 l1 q3.1)) else (none))) else (none)))) else (Da_narrow_61_c59 (0 : Int32) S) := by
  show Res PT GX (rkT 34) 34 (pCut cd34 2, [.ref 61, .int l1, .null], [], S) = _
  refine (R_reg PT GX (k := 34) (code := cd34) rfl [2, 59, 67, 123] 400).trans ?_
  refine br_cong ?_ ?_
  · refine (R_cx PT GX hRk PT_40 rfl rfl rfl rfl rfl).trans ?_
    refine bind_cong (fun q1 => ?_)
    refine (R_blk PT GX (k := 34) (code := cd34) rfl [2, 59, 67, 123] 400 _).trans ?_
    refine (R_cx PT GX hRk PT_114 rfl rfl rfl rfl rfl).trans ?_
    refine bind_cong (fun q2 => ?_)
    refine (R_blk PT GX (k := 34) (code := cd34) rfl [2, 59, 67, 123] 400 _).trans ?_
    refine br_cong ?_ ?_
    · refine (R_cx PT GX hRk PT_115 rfl rfl rfl rfl rfl).trans ?_
      refine bind_cong (fun q3 => ?_)
      refine (R_blk PT GX (k := 34) (code := cd34) rfl [2, 59, 67, 123] 400 _).trans ?_
      refine br_cong ?_ ?_
      · rfl
      · rfl
    · rfl
  · rfl
set_option maxRecDepth 20000 in
theorem Da_narrow_61_c59_eq (l1 : Int32) (S : pS) : Da_narrow_61_c59 l1 S = if l1 < (14 : Int32) then (Da_narrow_61_c67 l1 (0 : Int32) S) else (Da_narrow_61_c123 (0 : Int32) S) := by
  show Res PT GX (rkT 34) 34 (pCut cd34 59, [.ref 61, .int l1, .null], [], S) = _
  refine (R_reg PT GX (k := 34) (code := cd34) rfl [2, 59, 67, 123] 400).trans ?_
  refine br_cong ?_ ?_
  · rfl
  · rfl
set_option maxRecDepth 20000 in
theorem Da_narrow_61_c67_eq (l1 : Int32) (l2 : Int32) (S : pS) : Da_narrow_61_c67 l1 l2 S = if l2 < (rF S 17 2) then ((Ro_at_17 l2 (0 : Int32) S).bind (fun q4 => (Ro_at_17 l2 (1 : Int32) q4.2).bind (fun q5 => (Da_order_61 q4.1 q5.1 q5.2).bind (fun q6 => Da_narrow_61_c67 l1 (l2 + (1 : Int32)) q6.2)))) else (Da_narrow_61_c59 (l1 + (1 : Int32)) S) := by
  show Res PT GX (rkT 34) 34 (pCut cd34 67, [.ref 61, .int l1, .int l2], [], S) = _
  refine (R_reg PT GX (k := 34) (code := cd34) rfl [2, 59, 67, 123] 400).trans ?_
  refine br_cong ?_ ?_
  · refine (R_cx PT GX hRk PT_97 rfl rfl rfl rfl rfl).trans ?_
    refine bind_cong (fun q4 => ?_)
    refine (R_blk PT GX (k := 34) (code := cd34) rfl [2, 59, 67, 123] 400 _).trans ?_
    refine (R_cx PT GX hRk PT_97 rfl rfl rfl rfl rfl).trans ?_
    refine bind_cong (fun q5 => ?_)
    refine (R_blk PT GX (k := 34) (code := cd34) rfl [2, 59, 67, 123] 400 _).trans ?_
    refine (R_cx PT GX hRk PT_35 rfl rfl rfl rfl rfl).trans ?_
    refine bind_cong (fun q6 => ?_)
    exact (R_blk PT GX (k := 34) (code := cd34) rfl [2, 59, 67, 123] 400 _).trans rfl
  · rfl
set_option maxRecDepth 20000 in
theorem Da_narrow_61_c123_eq (l1 : Int32) (S : pS) : Da_narrow_61_c123 l1 S = if l1 < (rF S 1 1) then (if inb l1 14 = true then (if inb l1 14 = true then (if (rA S 62 l1) ≤ (rA S 63 l1) then (Da_narrow_61_c123 (l1 + (1 : Int32)) S) else (some ((0 : Int32), S))) else (none)) else (none)) else (some ((1 : Int32), S)) := by
  show Res PT GX (rkT 34) 34 (pCut cd34 123, [.ref 61, .int l1, .null], [], S) = _
  refine (R_reg PT GX (k := 34) (code := cd34) rfl [2, 59, 67, 123] 400).trans ?_
  refine br_cong ?_ ?_
  · refine br_cong ?_ ?_
    · refine br_cong ?_ ?_
      · refine br_cong ?_ ?_
        · rfl
        · exact R_retI PT GX rfl rfl
      · rfl
    · rfl
  · exact R_retI PT GX rfl rfl
set_option maxRecDepth 20000 in
theorem Ci_seek_64_eq (a1 : Int32) (S : pS) : Ci_seek_64 a1 S = (Ci_learn_64 S).bind (fun q1 => (Ci_measure_64 (0 : Int32) q1.2).bind (fun q2 => (Dr_keptWith_1 (2 : Int32) a1 q2.2).bind (fun q3 => (Dr_peopleOn_1 q3.1 q3.2).bind (fun q4 => Ci_seek_64_c40 q4.1 (0 : Int32) (wF (wF q4.2 64 5 (-1 : Int32)) 64 4 (12 : Int32)))))) := by
  show Res PT GX (rkT 23) 23 (cd23, [.ref 64, .int a1, .null, .null], [], S) = _
  refine (R_blk PT GX (k := 23) (code := cd23) rfl [40] 400 _).trans ?_
  refine (R_cx PT GX hRk PT_20 rfl rfl rfl rfl rfl).trans ?_
  refine bind_cong (fun q1 => ?_)
  refine (R_blk PT GX (k := 23) (code := cd23) rfl [40] 400 _).trans ?_
  refine (R_cx PT GX hRk PT_22 rfl rfl rfl rfl rfl).trans ?_
  refine bind_cong (fun q2 => ?_)
  refine (R_blk PT GX (k := 23) (code := cd23) rfl [40] 400 _).trans ?_
  refine (R_cx PT GX hRk PT_45 rfl rfl rfl rfl rfl).trans ?_
  refine bind_cong (fun q3 => ?_)
  refine (R_blk PT GX (k := 23) (code := cd23) rfl [40] 400 _).trans ?_
  refine (R_cx PT GX hRk PT_46 rfl rfl rfl rfl rfl).trans ?_
  refine bind_cong (fun q4 => ?_)
  refine (R_blk PT GX (k := 23) (code := cd23) rfl [40] 400 _).trans ?_
  refine brT (Or.inl rfl) ?_
  refine brT (Or.inl rfl) ?_
  rfl
set_option maxRecDepth 20000 in
theorem Ci_seek_64_c40_eq (l2 : Int32) (l3 : Int32) (S : pS) : Ci_seek_64_c40 l2 l3 S = if l3 < (12 : Int32) then ((C_holdsBit l2 l3 S).bind (fun q5 => if q5.1 = 0 then (Ci_seek_64_c40 l2 (l3 + (1 : Int32)) q5.2) else (if inb l3 12 = true then (if (rA q5.2 66 l3) = (-1 : Int32) then (Ci_seek_64_c40 l2 (l3 + (1 : Int32)) q5.2) else (if inb l3 12 = true then (if (rA q5.2 66 l3) < (rF q5.2 64 4) then (if inb l3 12 = true then (Ci_seek_64_c40 l2 (l3 + (1 : Int32)) (wF (wF q5.2 64 4 (rA q5.2 66 l3)) 64 5 l3)) else (none)) else (Ci_seek_64_c40 l2 (l3 + (1 : Int32)) q5.2)) else (none))) else (none)))) else (if (rF S 64 5) = (-1 : Int32) then (some ((0 : Int32), S)) else (if (rF S 64 5) = 0 then (some ((1 : Int32), (wF S 64 6 (0 : Int32)))) else ((Ci_firstOnTheWay_64 S).bind (fun q6 => some ((1 : Int32), (wF q6.2 64 6 q6.1)))))) := by
  show Res PT GX (rkT 23) 23 (pCut cd23 40, [.ref 64, .null, .int l2, .int l3], [], S) = _
  refine (R_reg PT GX (k := 23) (code := cd23) rfl [40] 400).trans ?_
  refine br_cong ?_ ?_
  · refine (R_cx PT GX hRk PT_157 rfl rfl rfl rfl rfl).trans ?_
    refine bind_cong (fun q5 => ?_)
    refine (R_blk PT GX (k := 23) (code := cd23) rfl [40] 400 _).trans ?_
    refine br_cong ?_ ?_
    · rfl
    · refine br_cong ?_ ?_
      · refine br_cong ?_ ?_
        · rfl
        · refine br_cong ?_ ?_
          · refine br_cong ?_ ?_
            · refine br_cong ?_ ?_
              · refine brT (Or.inl rfl) ?_
                refine brT (Or.inl rfl) ?_
                rfl
              · rfl
            · rfl
          · rfl
      · rfl
  · refine br_cong ?_ ?_
    · exact R_retI PT GX rfl rfl
    · refine br_cong ?_ ?_
      · refine brT (Or.inl rfl) ?_
        exact R_retI PT GX rfl rfl
      · refine (R_cx PT GX hRk PT_24 rfl rfl rfl rfl rfl).trans ?_
        refine bind_cong (fun q6 => ?_)
        refine (R_blk PT GX (k := 23) (code := cd23) rfl [40] 400 _).trans ?_
        refine brT (Or.inl rfl) ?_
        exact R_retI PT GX rfl rfl
set_option maxRecDepth 20000 in
theorem Ci_ledBy_64_eq (a1 : Int32) (S : pS) : Ci_ledBy_64 a1 S = Ci_ledBy_64_c6 a1 ((1 : Int32) <<< (a1 &&& 31)) (0 : Int32) S := by
  show Res PT GX (rkT 25) 25 (cd25, [.ref 64, .int a1, .null, .null, .null, .null], [], S) = _
  exact (R_blk PT GX (k := 25) (code := cd25) rfl [6, 15] 400 _).trans rfl
set_option maxRecDepth 20000 in
theorem Ci_ledBy_64_c6_eq (l1 : Int32) (l2 : Int32) (l3 : Int32) (S : pS) : Ci_ledBy_64_c6 l1 l2 l3 S = if l3 < (12 : Int32) then (Ci_ledBy_64_c15 l1 l2 l3 (0 : Int32) S) else (some ((l2 &&& (((1 : Int32) <<< (l1 &&& 31)) ^^^ (-1 : Int32))), S)) := by
  show Res PT GX (rkT 25) 25 (pCut cd25 6, [.ref 64, .int l1, .int l2, .int l3, .null, .null], [], S) = _
  refine (R_reg PT GX (k := 25) (code := cd25) rfl [6, 15] 400).trans ?_
  refine br_cong ?_ ?_
  · rfl
  · exact R_retI PT GX rfl rfl
set_option maxRecDepth 20000 in
theorem Ci_ledBy_64_c15_eq (l1 : Int32) (l2 : Int32) (l3 : Int32) (l4 : Int32) (S : pS) : Ci_ledBy_64_c15 l1 l2 l3 l4 S = if l4 < (12 : Int32) then ((To_introducer_3 l4 S).bind (fun q1 => if q1.1 = (-1 : Int32) then (Ci_ledBy_64_c15 l1 l2 l3 (l4 + (1 : Int32)) q1.2) else ((C_holdsBit l2 q1.1 q1.2).bind (fun q2 => if q2.1 = 0 then (Ci_ledBy_64_c15 l1 l2 l3 (l4 + (1 : Int32)) q2.2) else (Ci_ledBy_64_c15 l1 (l2 ||| ((1 : Int32) <<< (l4 &&& 31))) l3 (l4 + (1 : Int32)) q2.2))))) else (Ci_ledBy_64_c6 l1 l2 (l3 + (1 : Int32)) S) := by
  show Res PT GX (rkT 25) 25 (pCut cd25 15, [.ref 64, .int l1, .int l2, .int l3, .int l4, .null], [], S) = _
  refine (R_reg PT GX (k := 25) (code := cd25) rfl [6, 15] 400).trans ?_
  refine br_cong ?_ ?_
  · refine (R_cx PT GX hRk PT_113 rfl rfl rfl rfl rfl).trans ?_
    refine bind_cong (fun q1 => ?_)
    refine (R_blk PT GX (k := 25) (code := cd25) rfl [6, 15] 400 _).trans ?_
    refine br_cong ?_ ?_
    · rfl
    · refine (R_cx PT GX hRk PT_157 rfl rfl rfl rfl rfl).trans ?_
      refine bind_cong (fun q2 => ?_)
      refine (R_blk PT GX (k := 25) (code := cd25) rfl [6, 15] 400 _).trans ?_
      refine br_cong ?_ ?_
      · rfl
      · rfl
  · rfl
set_option maxRecDepth 20000 in
theorem Ci_rootOf_64_eq (a1 : Int32) (S : pS) : Ci_rootOf_64 a1 S = Ci_rootOf_64_c7 (0 : Int32) a1 (0 : Int32) S := by
  show Res PT GX (rkT 26) 26 (cd26, [.ref 64, .int a1, .null, .null, .null, .null], [], S) = _
  exact (R_blk PT GX (k := 26) (code := cd26) rfl [7] 400 _).trans rfl
set_option maxRecDepth 20000 in
theorem Ci_rootOf_64_c7_eq (l2 : Int32) (l3 : Int32) (l4 : Int32) (S : pS) : Ci_rootOf_64_c7 l2 l3 l4 S = if l4 < (12 : Int32) then ((To_introducer_3 l3 S).bind (fun q1 => (C_within q1.1 (12 : Int32) q1.2).bind (fun q2 => if q2.1 = 0 then (some (l3, q2.2)) else ((C_holdsBit (l2 ||| ((1 : Int32) <<< (l3 &&& 31))) q1.1 q2.2).bind (fun q3 => if q3.1 = 0 then (Ci_rootOf_64_c7 (l2 ||| ((1 : Int32) <<< (l3 &&& 31))) q1.1 (l4 + (1 : Int32)) q3.2) else (some (q1.1, q3.2))))))) else (some (l3, S)) := by
  show Res PT GX (rkT 26) 26 (pCut cd26 7, [.ref 64, .null, .int l2, .int l3, .int l4, .null], [], S) = _
  refine (R_reg PT GX (k := 26) (code := cd26) rfl [7] 400).trans ?_
  refine br_cong ?_ ?_
  · refine (R_cx PT GX hRk PT_113 rfl rfl rfl rfl rfl).trans ?_
    refine bind_cong (fun q1 => ?_)
    refine (R_blk PT GX (k := 26) (code := cd26) rfl [7] 400 _).trans ?_
    refine (R_cx PT GX hRk PT_156 rfl rfl rfl rfl rfl).trans ?_
    refine bind_cong (fun q2 => ?_)
    refine (R_blk PT GX (k := 26) (code := cd26) rfl [7] 400 _).trans ?_
    refine br_cong ?_ ?_
    · exact R_retI PT GX rfl rfl
    · refine (R_cx PT GX hRk PT_157 rfl rfl rfl rfl rfl).trans ?_
      refine bind_cong (fun q3 => ?_)
      refine (R_blk PT GX (k := 26) (code := cd26) rfl [7] 400 _).trans ?_
      refine br_cong ?_ ?_
      · rfl
      · exact R_retI PT GX rfl rfl
  · exact R_retI PT GX rfl rfl
set_option maxRecDepth 20000 in
theorem Ci_tellers_64_eq (S : pS) : Ci_tellers_64 S = (Ci_learn_64 S).bind (fun q1 => (Dr_peopleOn_1 (rF q1.2 1 2) q1.2).bind (fun q2 => Ci_tellers_64_c30 ((q1.1 ||| q2.1) &&& (-2 : Int32)) ((q1.1 ||| q2.1) &&& (-2 : Int32)) (0 : Int32) (0 : Int32) q2.2)) := by
  show Res PT GX (rkT 27) 27 (cd27, [.ref 64, .null, .null, .null, .null], [], S) = _
  refine (R_blk PT GX (k := 27) (code := cd27) rfl [30, 65] 400 _).trans ?_
  refine (R_cx PT GX hRk PT_20 rfl rfl rfl rfl rfl).trans ?_
  refine bind_cong (fun q1 => ?_)
  refine (R_blk PT GX (k := 27) (code := cd27) rfl [30, 65] 400 _).trans ?_
  refine (R_cx PT GX hRk PT_46 rfl rfl rfl rfl rfl).trans ?_
  refine bind_cong (fun q2 => ?_)
  exact (R_blk PT GX (k := 27) (code := cd27) rfl [30, 65] 400 _).trans rfl
set_option maxRecDepth 20000 in
theorem Ci_tellers_64_c30_eq (l1 : Int32) (l2 : Int32) (l3 : Int32) (l4 : Int32) (S : pS) : Ci_tellers_64_c30 l1 l2 l3 l4 S = if l4 < (4096 : Int32) then (if l3 = l1 then (some (l2, S)) else ((J_bitCount l3 S).bind (fun q3 => (J_bitCount l2 q3.2).bind (fun q4 => if q3.1 < q4.1 then ((Ci_isHeardByAll_64 l3 l1 q4.2).bind (fun q5 => if q5.1 = 0 then (Ci_tellers_64_c65 l1 l2 l3 l4 q5.2) else (Ci_tellers_64_c65 l1 l3 l3 l4 q5.2))) else (Ci_tellers_64_c65 l1 l2 l3 l4 q4.2))))) else (some (l2, S)) := by
  show Res PT GX (rkT 27) 27 (pCut cd27 30, [.ref 64, .int l1, .int l2, .int l3, .int l4], [], S) = _
  refine (R_reg PT GX (k := 27) (code := cd27) rfl [30, 65] 400).trans ?_
  refine br_cong ?_ ?_
  · refine br_cong ?_ ?_
    · exact R_retI PT GX rfl rfl
    · refine (R_cx PT GX hRk PT_288 rfl rfl rfl rfl rfl).trans ?_
      refine bind_cong (fun q3 => ?_)
      refine (R_blk PT GX (k := 27) (code := cd27) rfl [30, 65] 400 _).trans ?_
      refine (R_cx PT GX hRk PT_288 rfl rfl rfl rfl rfl).trans ?_
      refine bind_cong (fun q4 => ?_)
      refine (R_blk PT GX (k := 27) (code := cd27) rfl [30, 65] 400 _).trans ?_
      refine br_cong ?_ ?_
      · refine (R_cx PT GX hRk PT_28 rfl rfl rfl rfl rfl).trans ?_
        refine bind_cong (fun q5 => ?_)
        refine (R_blk PT GX (k := 27) (code := cd27) rfl [30, 65] 400 _).trans ?_
        refine br_cong ?_ ?_
        · rfl
        · rfl
      · rfl
  · exact R_retI PT GX rfl rfl
set_option maxRecDepth 20000 in
theorem Ci_tellers_64_c65_eq (l1 : Int32) (l2 : Int32) (l3 : Int32) (l4 : Int32) (S : pS) : Ci_tellers_64_c65 l1 l2 l3 l4 S = Ci_tellers_64_c30 l1 l2 ((l3 - l1) &&& l1) (l4 + (1 : Int32)) S := by
  show Res PT GX (rkT 27) 27 (pCut cd27 65, [.ref 64, .int l1, .int l2, .int l3, .int l4], [], S) = _
  exact (R_reg PT GX (k := 27) (code := cd27) rfl [30, 65] 400).trans rfl
set_option maxRecDepth 20000 in
theorem C_holdsBit_eq (a0 : Int32) (a1 : Int32) (S : pS) : C_holdsBit a0 a1 S = if ((a0 >>> (a1 &&& 31)) &&& (1 : Int32)) = 0 then (some ((0 : Int32), S)) else (some ((1 : Int32), S)) := by
  show Res PT GX (rkT 157) 157 (cd157, [.int a0, .int a1], [], S) = _
  refine (R_blk PT GX (k := 157) (code := cd157) rfl [] 400 _).trans ?_
  refine br_cong ?_ ?_
  · exact R_retI PT GX rfl rfl
  · exact R_retI PT GX rfl rfl
set_option maxRecDepth 20000 in
theorem Ci_hearers_64_eq (a1 : Int32) (a2 : Int32) (S : pS) : Ci_hearers_64 a1 a2 S = (Ci_learn_64 S).bind (fun q1 => Ci_hearers_64_c12 a1 ((1 : Int32) <<< (a2 &&& 31)) (0 : Int32) q1.2) := by
  show Res PT GX (rkT 29) 29 (cd29, [.ref 64, .int a1, .int a2, .null, .null], [], S) = _
  refine (R_blk PT GX (k := 29) (code := cd29) rfl [12] 400 _).trans ?_
  refine (R_cx PT GX hRk PT_20 rfl rfl rfl rfl rfl).trans ?_
  refine bind_cong (fun q1 => ?_)
  exact (R_blk PT GX (k := 29) (code := cd29) rfl [12] 400 _).trans rfl
set_option maxRecDepth 20000 in
theorem Ci_hearers_64_c12_eq (l1 : Int32) (l3 : Int32) (l4 : Int32) (S : pS) : Ci_hearers_64_c12 l1 l3 l4 S = if l4 < (12 : Int32) then ((Ci_besideSome_64 l3 S).bind (fun q2 => Ci_hearers_64_c12 l1 (l3 ||| (q2.1 &&& (l1 ^^^ (-1 : Int32)))) (l4 + (1 : Int32)) q2.2)) else (some (l3, S)) := by
  show Res PT GX (rkT 29) 29 (pCut cd29 12, [.ref 64, .int l1, .null, .int l3, .int l4], [], S) = _
  refine (R_reg PT GX (k := 29) (code := cd29) rfl [12] 400).trans ?_
  refine br_cong ?_ ?_
  · refine (R_cx PT GX hRk PT_21 rfl rfl rfl rfl rfl).trans ?_
    refine bind_cong (fun q2 => ?_)
    exact (R_blk PT GX (k := 29) (code := cd29) rfl [12] 400 _).trans rfl
  · exact R_retI PT GX rfl rfl
set_option maxRecDepth 20000 in
theorem Ro_clear_19_eq (S : pS) : Ro_clear_19 S = some ((0 : Int32), (wF S 19 2 (0 : Int32))) := by
  show Res PT GX (rkT 96) 96 (cd96, [.ref 19], [], S) = _
  refine (R_blk PT GX (k := 96) (code := cd96) rfl [] 400 _).trans ?_
  refine brT (Or.inl rfl) ?_
  exact R_retI PT GX rfl rfl
set_option maxRecDepth 20000 in
theorem C_kinds_eq (a0 : Int32) (S : pS) : C_kinds a0 S = if a0 = (0 : Int32) then (some ((12 : Int32), S)) else (if a0 = (1 : Int32) then (some ((8 : Int32), S)) else (some ((6 : Int32), S))) := by
  show Res PT GX (rkT 158) 158 (cd158, [.int a0], [], S) = _
  refine (R_blk PT GX (k := 158) (code := cd158) rfl [] 400 _).trans ?_
  refine br_cong ?_ ?_
  · exact R_retI PT GX rfl rfl
  · refine br_cong ?_ ?_
    · exact R_retI PT GX rfl rfl
    · exact R_retI PT GX rfl rfl
set_option maxRecDepth 20000 in
theorem Ro_add_19_eq (a1 : Int32) (a2 : Int32) (a3 : Int32) (a4 : Int32) (S : pS) : Ro_add_19 a1 a2 a3 a4 S = if (rF S 19 2) < (rF S 19 0) then (if inb ((rF S 19 2) * (4 : Int32)) 40 = true then (if inb (((rF S 19 2) * (4 : Int32)) + (1 : Int32)) 40 = true then (if inb (((rF S 19 2) * (4 : Int32)) + (2 : Int32)) 40 = true then (if inb (((rF S 19 2) * (4 : Int32)) + (3 : Int32)) 40 = true then (some (((rF S 19 2) + (1 : Int32)), (wF (wA (wA (wA (wA S 20 ((rF S 19 2) * (4 : Int32)) a1) 20 (((rF S 19 2) * (4 : Int32)) + (1 : Int32)) a2) 20 (((rF S 19 2) * (4 : Int32)) + (2 : Int32)) a3) 20 (((rF S 19 2) * (4 : Int32)) + (3 : Int32)) a4) 19 2 ((rF S 19 2) + (1 : Int32))))) else (none)) else (none)) else (none)) else (none)) else (some ((-1 : Int32), S)) := by
  show Res PT GX (rkT 95) 95 (cd95, [.ref 19, .int a1, .int a2, .int a3, .int a4, .null], [], S) = _
  refine (R_blk PT GX (k := 95) (code := cd95) rfl [] 400 _).trans ?_
  refine br_cong ?_ ?_
  · refine br_cong ?_ ?_
    · refine br_cong ?_ ?_
      · refine br_cong ?_ ?_
        · refine br_cong ?_ ?_
          · refine brT (Or.inl rfl) ?_
            exact R_retI PT GX rfl rfl
          · rfl
        · rfl
      · rfl
    · rfl
  · exact R_retI PT GX rfl rfl
set_option maxRecDepth 20000 in
theorem Ch_choose_67_eq (a1 : Int32) (S : pS) : Ch_choose_67 a1 S = Ch_choose_67_c23 a1 (if ((1 : Int32) <<< ((rF S 19 2) &&& 31)) < (1024 : Int32) then ((1 : Int32) <<< ((rF S 19 2) &&& 31)) else (1024 : Int32)) (0 : Int32) S := by
  show Res PT GX (rkT 1) 1 (cd1, [.ref 67, .int a1, .null, .null, .null], [], S) = _
  exact (R_blk PT GX (k := 1) (code := cd1) rfl [23, 50, 96] 400 _).trans rfl
set_option maxRecDepth 20000 in
theorem Ch_choose_67_c23_eq (l1 : Int32) (l2 : Int32) (l3 : Int32) (S : pS) : Ch_choose_67_c23 l1 l2 l3 S = if l3 < l2 then (if inb l3 1024 = true then (Ch_choose_67_c23 l1 l2 (l3 + (1 : Int32)) (wA S 68 l3 (-1 : Int32))) else (none)) else (Ch_choose_67_c50 l1 l2 (0 : Int32) (wA S 68 (0 : Int32) (0 : Int32))) := by
  show Res PT GX (rkT 1) 1 (pCut cd1 23, [.ref 67, .int l1, .int l2, .int l3, .null], [], S) = _
  refine (R_reg PT GX (k := 1) (code := cd1) rfl [23, 50, 96] 400).trans ?_
  refine br_cong ?_ ?_
  · refine br_cong ?_ ?_
    · rfl
    · rfl
  · refine brT (by decide) ?_
    rfl
set_option maxRecDepth 20000 in
theorem Ch_choose_67_c50_eq (l1 : Int32) (l2 : Int32) (l3 : Int32) (S : pS) : Ch_choose_67_c50 l1 l2 l3 S = if l3 < (rF S 1 1) then ((Dr_isKept_1 l3 S).bind (fun q1 => if q1.1 = 0 then (Ch_choose_67_c50 l1 l2 (l3 + (1 : Int32)) q1.2) else ((Ch_tryCard_67 l3 l2 q1.2).bind (fun q2 => Ch_choose_67_c50 l1 l2 (l3 + (1 : Int32)) q2.2)))) else (Ch_choose_67_c96 l1 l2 (0 : Int32) (wF (wF S 67 3 (0 : Int32)) 67 4 (0 : Int32))) := by
  show Res PT GX (rkT 1) 1 (pCut cd1 50, [.ref 67, .int l1, .int l2, .int l3, .null], [], S) = _
  refine (R_reg PT GX (k := 1) (code := cd1) rfl [23, 50, 96] 400).trans ?_
  refine br_cong ?_ ?_
  · refine (R_cx PT GX hRk PT_39 rfl rfl rfl rfl rfl).trans ?_
    refine bind_cong (fun q1 => ?_)
    refine (R_blk PT GX (k := 1) (code := cd1) rfl [23, 50, 96] 400 _).trans ?_
    refine br_cong ?_ ?_
    · rfl
    · refine (R_cx PT GX hRk PT_2 rfl rfl rfl rfl rfl).trans ?_
      refine bind_cong (fun q2 => ?_)
      exact (R_blk PT GX (k := 1) (code := cd1) rfl [23, 50, 96] 400 _).trans rfl
  · refine brT (Or.inl rfl) ?_
    refine brT (Or.inl rfl) ?_
    rfl
set_option maxRecDepth 20000 in
theorem Ch_choose_67_c96_eq (l1 : Int32) (l2 : Int32) (l3 : Int32) (S : pS) : Ch_choose_67_c96 l1 l2 l3 S = if l3 < l2 then (if inb l3 1024 = true then (if (rA S 68 l3) = (-1 : Int32) then (Ch_choose_67_c96 l1 l2 (l3 + (1 : Int32)) S) else ((J_bitCount (rA S 68 l3) S).bind (fun q3 => if q3.1 ≤ l1 then ((J_bitCount l3 q3.2).bind (fun q4 => (Ch_takeIfBetter_67 q4.1 (rA S 68 l3) q4.2).bind (fun q5 => Ch_choose_67_c96 l1 l2 (l3 + (1 : Int32)) q5.2))) else (Ch_choose_67_c96 l1 l2 (l3 + (1 : Int32)) q3.2)))) else (none)) else (some (0, S)) := by
  show Res PT GX (rkT 1) 1 (pCut cd1 96, [.ref 67, .int l1, .int l2, .int l3, .null], [], S) = _
  refine (R_reg PT GX (k := 1) (code := cd1) rfl [23, 50, 96] 400).trans ?_
  refine br_cong ?_ ?_
  · refine br_cong ?_ ?_
    · refine br_cong ?_ ?_
      · rfl
      · refine (R_cx PT GX hRk PT_288 rfl rfl rfl rfl rfl).trans ?_
        refine bind_cong (fun q3 => ?_)
        refine (R_blk PT GX (k := 1) (code := cd1) rfl [23, 50, 96] 400 _).trans ?_
        refine br_cong ?_ ?_
        · refine (R_cx PT GX hRk PT_288 rfl rfl rfl rfl rfl).trans ?_
          refine bind_cong (fun q4 => ?_)
          refine (R_blk PT GX (k := 1) (code := cd1) rfl [23, 50, 96] 400 _).trans ?_
          refine (R_cx PT GX hRk PT_3 rfl rfl rfl rfl rfl).trans ?_
          refine bind_cong (fun q5 => ?_)
          exact (R_blk PT GX (k := 1) (code := cd1) rfl [23, 50, 96] 400 _).trans rfl
        · rfl
    · rfl
  · exact R_retV PT GX rfl
set_option maxRecDepth 20000 in
theorem Ch_bestOrder_67_eq (S : pS) : Ch_bestOrder_67 S = Ch_bestOrder_67_c4 (0 : Int32) (1 : Int32) S := by
  show Res PT GX (rkT 6) 6 (cd6, [.ref 67, .null, .null], [], S) = _
  exact (R_blk PT GX (k := 6) (code := cd6) rfl [4] 400 _).trans rfl
set_option maxRecDepth 20000 in
theorem Ch_bestOrder_67_c4_eq (l1 : Int32) (l2 : Int32) (S : pS) : Ch_bestOrder_67_c4 l1 l2 S = if l2 < (3 : Int32) then ((Ch_lookedAt_67 l2 S).bind (fun q1 => (Ch_lookedAt_67 l1 q1.2).bind (fun q2 => if q1.1 < q2.1 then (Ch_bestOrder_67_c4 l2 (l2 + (1 : Int32)) q2.2) else (Ch_bestOrder_67_c4 l1 (l2 + (1 : Int32)) q2.2)))) else (some (l1, S)) := by
  show Res PT GX (rkT 6) 6 (pCut cd6 4, [.ref 67, .int l1, .int l2], [], S) = _
  refine (R_reg PT GX (k := 6) (code := cd6) rfl [4] 400).trans ?_
  refine br_cong ?_ ?_
  · refine (R_cx PT GX hRk PT_7 rfl rfl rfl rfl rfl).trans ?_
    refine bind_cong (fun q1 => ?_)
    refine (R_blk PT GX (k := 6) (code := cd6) rfl [4] 400 _).trans ?_
    refine (R_cx PT GX hRk PT_7 rfl rfl rfl rfl rfl).trans ?_
    refine bind_cong (fun q2 => ?_)
    refine (R_blk PT GX (k := 6) (code := cd6) rfl [4] 400 _).trans ?_
    refine br_cong ?_ ?_
    · rfl
    · rfl
  · exact R_retI PT GX rfl rfl
set_option maxRecDepth 20000 in
theorem Ch_lookedAt_67_eq (a1 : Int32) (S : pS) : Ch_lookedAt_67 a1 S = Ch_lookedAt_67_c4 a1 (0 : Int32) (0 : Int32) S := by
  show Res PT GX (rkT 7) 7 (cd7, [.ref 67, .int a1, .null, .null, .null, .null], [], S) = _
  exact (R_blk PT GX (k := 7) (code := cd7) rfl [4, 69] 400 _).trans rfl
set_option maxRecDepth 20000 in
theorem Ch_lookedAt_67_c4_eq (l1 : Int32) (l2 : Int32) (l3 : Int32) (S : pS) : Ch_lookedAt_67_c4 l1 l2 l3 S = if l3 < (rF S 19 2) then ((Ro_at_19 l3 (0 : Int32) S).bind (fun q1 => if q1.1 = l1 then ((Ro_at_19 l3 (1 : Int32) q1.2).bind (fun q2 => (Dr_keptWith_1 q1.1 q2.1 q2.2).bind (fun q3 => Ch_lookedAt_67_c69 l1 l2 l3 q3.1 q3.2))) else (Ch_lookedAt_67_c69 l1 l2 l3 (rF q1.2 1 2) q1.2))) else (some (l2, S)) := by
  show Res PT GX (rkT 7) 7 (pCut cd7 4, [.ref 67, .int l1, .int l2, .int l3, .null, .null], [], S) = _
  refine (R_reg PT GX (k := 7) (code := cd7) rfl [4, 69] 400).trans ?_
  refine br_cong ?_ ?_
  · refine (R_cx PT GX hRk PT_97 rfl rfl rfl rfl rfl).trans ?_
    refine bind_cong (fun q1 => ?_)
    refine (R_blk PT GX (k := 7) (code := cd7) rfl [4, 69] 400 _).trans ?_
    refine br_cong ?_ ?_
    · refine (R_cx PT GX hRk PT_97 rfl rfl rfl rfl rfl).trans ?_
      refine bind_cong (fun q2 => ?_)
      refine (R_blk PT GX (k := 7) (code := cd7) rfl [4, 69] 400 _).trans ?_
      refine (R_cx PT GX hRk PT_45 rfl rfl rfl rfl rfl).trans ?_
      refine bind_cong (fun q3 => ?_)
      exact (R_blk PT GX (k := 7) (code := cd7) rfl [4, 69] 400 _).trans rfl
    · rfl
  · exact R_retI PT GX rfl rfl
set_option maxRecDepth 20000 in
theorem Ch_lookedAt_67_c69_eq (l1 : Int32) (l2 : Int32) (l3 : Int32) (s0 : Int32) (S : pS) : Ch_lookedAt_67_c69 l1 l2 l3 s0 S = (J_bitCount s0 S).bind (fun q4 => Ch_lookedAt_67_c4 l1 (l2 + q4.1) (l3 + (1 : Int32)) q4.2) := by
  show Res PT GX (rkT 7) 7 (pCut cd7 69, [.ref 67, .int l1, .int l2, .int l3, .null, .null], [.int s0], S) = _
  refine (R_reg PT GX (k := 7) (code := cd7) rfl [4, 69] 400).trans ?_
  refine (R_cx PT GX hRk PT_288 rfl rfl rfl rfl rfl).trans ?_
  refine bind_cong (fun q4 => ?_)
  exact (R_blk PT GX (k := 7) (code := cd7) rfl [4, 69] 400 _).trans rfl
set_option maxRecDepth 20000 in
theorem Ch_fewestApart_67_eq (S : pS) : Ch_fewestApart_67 S = Ch_fewestApart_67_c4 (-1 : Int32) (0 : Int32) S := by
  show Res PT GX (rkT 8) 8 (cd8, [.ref 67, .null, .null, .null], [], S) = _
  exact (R_blk PT GX (k := 8) (code := cd8) rfl [4, 31] 400 _).trans rfl
set_option maxRecDepth 20000 in
theorem Ch_fewestApart_67_c4_eq (l1 : Int32) (l2 : Int32) (S : pS) : Ch_fewestApart_67_c4 l1 l2 S = if l2 < (32 : Int32) then (if l1 = (-1 : Int32) then (Ch_fewestApart_67_c31 l1 l2 (1 : Int32) S) else ((J_bitCount l2 S).bind (fun q1 => (J_bitCount l1 q1.2).bind (fun q2 => if q1.1 < q2.1 then (Ch_fewestApart_67_c31 l1 l2 (1 : Int32) q2.2) else (Ch_fewestApart_67_c31 l1 l2 (0 : Int32) q2.2))))) else (some (l1, S)) := by
  show Res PT GX (rkT 8) 8 (pCut cd8 4, [.ref 67, .int l1, .int l2, .null], [], S) = _
  refine (R_reg PT GX (k := 8) (code := cd8) rfl [4, 31] 400).trans ?_
  refine br_cong ?_ ?_
  · refine br_cong ?_ ?_
    · rfl
    · refine (R_cx PT GX hRk PT_288 rfl rfl rfl rfl rfl).trans ?_
      refine bind_cong (fun q1 => ?_)
      refine (R_blk PT GX (k := 8) (code := cd8) rfl [4, 31] 400 _).trans ?_
      refine (R_cx PT GX hRk PT_288 rfl rfl rfl rfl rfl).trans ?_
      refine bind_cong (fun q2 => ?_)
      refine (R_blk PT GX (k := 8) (code := cd8) rfl [4, 31] 400 _).trans ?_
      refine br_cong ?_ ?_
      · rfl
      · rfl
  · exact R_retI PT GX rfl rfl
set_option maxRecDepth 20000 in
theorem Ch_fewestApart_67_c31_eq (l1 : Int32) (l2 : Int32) (s0 : Int32) (S : pS) : Ch_fewestApart_67_c31 l1 l2 s0 S = if s0 = 0 then (Ch_fewestApart_67_c4 l1 (l2 + (1 : Int32)) S) else ((Ch_tellsApart_67 l2 S).bind (fun q3 => if q3.1 = 0 then (Ch_fewestApart_67_c4 l1 (l2 + (1 : Int32)) q3.2) else (Ch_fewestApart_67_c4 l2 (l2 + (1 : Int32)) q3.2))) := by
  show Res PT GX (rkT 8) 8 (pCut cd8 31, [.ref 67, .int l1, .int l2, .null], [.int s0], S) = _
  refine (R_reg PT GX (k := 8) (code := cd8) rfl [4, 31] 400).trans ?_
  refine br_cong ?_ ?_
  · rfl
  · refine (R_cx PT GX hRk PT_9 rfl rfl rfl rfl rfl).trans ?_
    refine bind_cong (fun q3 => ?_)
    refine (R_blk PT GX (k := 8) (code := cd8) rfl [4, 31] 400 _).trans ?_
    refine br_cong ?_ ?_
    · rfl
    · rfl
set_option maxRecDepth 20000 in
theorem Ch_secondOnes_67_eq (S : pS) : Ch_secondOnes_67 S = Ch_secondOnes_67_c4 (0 : Int32) (0 : Int32) S := by
  show Res PT GX (rkT 11) 11 (cd11, [.ref 67, .null, .null], [], S) = _
  exact (R_blk PT GX (k := 11) (code := cd11) rfl [4] 400 _).trans rfl
set_option maxRecDepth 20000 in
theorem Ch_secondOnes_67_c4_eq (l1 : Int32) (l2 : Int32) (S : pS) : Ch_secondOnes_67_c4 l1 l2 S = if l2 < (rF S 1 1) then ((Dr_isKept_1 l2 S).bind (fun q1 => if q1.1 = 0 then (Ch_secondOnes_67_c4 l1 (l2 + (1 : Int32)) q1.2) else ((Ch_hasSooner_67 l2 q1.2).bind (fun q2 => if q2.1 = 0 then (Ch_secondOnes_67_c4 l1 (l2 + (1 : Int32)) q2.2) else (Ch_secondOnes_67_c4 (l1 ||| ((1 : Int32) <<< (l2 &&& 31))) (l2 + (1 : Int32)) q2.2))))) else (some (l1, S)) := by
  show Res PT GX (rkT 11) 11 (pCut cd11 4, [.ref 67, .int l1, .int l2], [], S) = _
  refine (R_reg PT GX (k := 11) (code := cd11) rfl [4] 400).trans ?_
  refine br_cong ?_ ?_
  · refine (R_cx PT GX hRk PT_39 rfl rfl rfl rfl rfl).trans ?_
    refine bind_cong (fun q1 => ?_)
    refine (R_blk PT GX (k := 11) (code := cd11) rfl [4] 400 _).trans ?_
    refine br_cong ?_ ?_
    · rfl
    · refine (R_cx PT GX hRk PT_12 rfl rfl rfl rfl rfl).trans ?_
      refine bind_cong (fun q2 => ?_)
      refine (R_blk PT GX (k := 11) (code := cd11) rfl [4] 400 _).trans ?_
      refine br_cong ?_ ?_
      · rfl
      · rfl
  · exact R_retI PT GX rfl rfl
set_option maxRecDepth 20000 in
theorem Ch_nearest_67_eq (a1 : Int32) (S : pS) : Ch_nearest_67 a1 S = Ch_nearest_67_c4 a1 (-1 : Int32) (0 : Int32) S := by
  show Res PT GX (rkT 13) 13 (cd13, [.ref 67, .int a1, .null, .null], [], S) = _
  exact (R_blk PT GX (k := 13) (code := cd13) rfl [4] 400 _).trans rfl
set_option maxRecDepth 20000 in
theorem Ch_nearest_67_c4_eq (l1 : Int32) (l2 : Int32) (l3 : Int32) (S : pS) : Ch_nearest_67_c4 l1 l2 l3 S = if l3 < (rF S 1 1) then (if l3 = l1 then (Ch_nearest_67_c4 l1 l2 (l3 + (1 : Int32)) S) else ((Dr_isKept_1 l3 S).bind (fun q1 => if q1.1 = 0 then (Ch_nearest_67_c4 l1 l2 (l3 + (1 : Int32)) q1.2) else (if l2 = (-1 : Int32) then (Ch_nearest_67_c4 l1 l3 (l3 + (1 : Int32)) q1.2) else ((Ch_inCommon_67 l1 l3 q1.2).bind (fun q2 => (Ch_inCommon_67 l1 l2 q2.2).bind (fun q3 => if q2.1 ≤ q3.1 then (Ch_nearest_67_c4 l1 l2 (l3 + (1 : Int32)) q3.2) else (Ch_nearest_67_c4 l1 l3 (l3 + (1 : Int32)) q3.2)))))))) else (some (l2, S)) := by
  show Res PT GX (rkT 13) 13 (pCut cd13 4, [.ref 67, .int l1, .int l2, .int l3], [], S) = _
  refine (R_reg PT GX (k := 13) (code := cd13) rfl [4] 400).trans ?_
  refine br_cong ?_ ?_
  · refine br_cong ?_ ?_
    · rfl
    · refine (R_cx PT GX hRk PT_39 rfl rfl rfl rfl rfl).trans ?_
      refine bind_cong (fun q1 => ?_)
      refine (R_blk PT GX (k := 13) (code := cd13) rfl [4] 400 _).trans ?_
      refine br_cong ?_ ?_
      · rfl
      · refine br_cong ?_ ?_
        · rfl
        · refine (R_cx PT GX hRk PT_14 rfl rfl rfl rfl rfl).trans ?_
          refine bind_cong (fun q2 => ?_)
          refine (R_blk PT GX (k := 13) (code := cd13) rfl [4] 400 _).trans ?_
          refine (R_cx PT GX hRk PT_14 rfl rfl rfl rfl rfl).trans ?_
          refine bind_cong (fun q3 => ?_)
          refine (R_blk PT GX (k := 13) (code := cd13) rfl [4] 400 _).trans ?_
          refine br_cong ?_ ?_
          · rfl
          · rfl
  · exact R_retI PT GX rfl rfl
set_option maxRecDepth 20000 in
theorem Ch_inCommon_67_eq (a1 : Int32) (a2 : Int32) (S : pS) : Ch_inCommon_67 a1 a2 S = Ch_inCommon_67_c5 a1 a2 (0 : Int32) (0 : Int32) S := by
  show Res PT GX (rkT 14) 14 (cd14, [.ref 67, .int a1, .int a2, .null, .null], [], S) = _
  exact (R_blk PT GX (k := 14) (code := cd14) rfl [5] 400 _).trans rfl
set_option maxRecDepth 20000 in
theorem Ch_inCommon_67_c5_eq (l1 : Int32) (l2 : Int32) (l3 : Int32) (l4 : Int32) (S : pS) : Ch_inCommon_67_c5 l1 l2 l3 l4 S = if l4 ≤ (3 : Int32) then ((Dr_read_1 l1 l4 S).bind (fun q1 => (Dr_read_1 l2 l4 q1.2).bind (fun q2 => if q1.1 = q2.1 then (Ch_inCommon_67_c5 l1 l2 (l3 + (1 : Int32)) (l4 + (1 : Int32)) q2.2) else (Ch_inCommon_67_c5 l1 l2 l3 (l4 + (1 : Int32)) q2.2)))) else (some (l3, S)) := by
  show Res PT GX (rkT 14) 14 (pCut cd14 5, [.ref 67, .int l1, .int l2, .int l3, .int l4], [], S) = _
  refine (R_reg PT GX (k := 14) (code := cd14) rfl [5] 400).trans ?_
  refine br_cong ?_ ?_
  · refine (R_cx PT GX hRk PT_40 rfl rfl rfl rfl rfl).trans ?_
    refine bind_cong (fun q1 => ?_)
    refine (R_blk PT GX (k := 14) (code := cd14) rfl [5] 400 _).trans ?_
    refine (R_cx PT GX hRk PT_40 rfl rfl rfl rfl rfl).trans ?_
    refine bind_cong (fun q2 => ?_)
    refine (R_blk PT GX (k := 14) (code := cd14) rfl [5] 400 _).trans ?_
    refine br_cong ?_ ?_
    · rfl
    · rfl
  · exact R_retI PT GX rfl rfl
set_option maxRecDepth 20000 in
theorem Ro_clear_21_eq (S : pS) : Ro_clear_21 S = some ((0 : Int32), (wF S 21 2 (0 : Int32))) := by
  show Res PT GX (rkT 96) 96 (cd96, [.ref 21], [], S) = _
  refine (R_blk PT GX (k := 96) (code := cd96) rfl [] 400 _).trans ?_
  refine brT (Or.inl rfl) ?_
  exact R_retI PT GX rfl rfl
set_option maxRecDepth 20000 in
theorem C_noteKinds_eq (a0 : Int32) (S : pS) : C_noteKinds a0 S = if a0 = (0 : Int32) then (some ((6 : Int32), S)) else (if a0 = (1 : Int32) then (some ((8 : Int32), S)) else (if a0 = (2 : Int32) then (some ((2 : Int32), S)) else (some ((12 : Int32), S)))) := by
  show Res PT GX (rkT 159) 159 (cd159, [.int a0], [], S) = _
  refine (R_blk PT GX (k := 159) (code := cd159) rfl [] 400 _).trans ?_
  refine br_cong ?_ ?_
  · exact R_retI PT GX rfl rfl
  · refine br_cong ?_ ?_
    · exact R_retI PT GX rfl rfl
    · refine br_cong ?_ ?_
      · exact R_retI PT GX rfl rfl
      · exact R_retI PT GX rfl rfl
set_option maxRecDepth 20000 in
theorem Ro_add_21_eq (a1 : Int32) (a2 : Int32) (a3 : Int32) (a4 : Int32) (S : pS) : Ro_add_21 a1 a2 a3 a4 S = if (rF S 21 2) < (rF S 21 0) then (if inb ((rF S 21 2) * (4 : Int32)) 32 = true then (if inb (((rF S 21 2) * (4 : Int32)) + (1 : Int32)) 32 = true then (if inb (((rF S 21 2) * (4 : Int32)) + (2 : Int32)) 32 = true then (if inb (((rF S 21 2) * (4 : Int32)) + (3 : Int32)) 32 = true then (some (((rF S 21 2) + (1 : Int32)), (wF (wA (wA (wA (wA S 22 ((rF S 21 2) * (4 : Int32)) a1) 22 (((rF S 21 2) * (4 : Int32)) + (1 : Int32)) a2) 22 (((rF S 21 2) * (4 : Int32)) + (2 : Int32)) a3) 22 (((rF S 21 2) * (4 : Int32)) + (3 : Int32)) a4) 21 2 ((rF S 21 2) + (1 : Int32))))) else (none)) else (none)) else (none)) else (none)) else (some ((-1 : Int32), S)) := by
  show Res PT GX (rkT 95) 95 (cd95, [.ref 21, .int a1, .int a2, .int a3, .int a4, .null], [], S) = _
  refine (R_blk PT GX (k := 95) (code := cd95) rfl [] 400 _).trans ?_
  refine br_cong ?_ ?_
  · refine br_cong ?_ ?_
    · refine br_cong ?_ ?_
      · refine br_cong ?_ ?_
        · refine br_cong ?_ ?_
          · refine brT (Or.inl rfl) ?_
            exact R_retI PT GX rfl rfl
          · rfl
        · rfl
      · rfl
    · rfl
  · exact R_retI PT GX rfl rfl
set_option maxRecDepth 20000 in
theorem Ci_writers_64_eq (S : pS) : Ci_writers_64 S = (Dr_peopleOn_1 (rF S 1 2) S).bind (fun q1 => Ci_writers_64_c17 q1.1 (0 : Int32) q1.2) := by
  show Res PT GX (rkT 30) 30 (cd30, [.ref 64, .null, .null, .null], [], S) = _
  refine (R_blk PT GX (k := 30) (code := cd30) rfl [17] 400 _).trans ?_
  refine (R_cx PT GX hRk PT_46 rfl rfl rfl rfl rfl).trans ?_
  refine bind_cong (fun q1 => ?_)
  exact (R_blk PT GX (k := 30) (code := cd30) rfl [17] 400 _).trans rfl
set_option maxRecDepth 20000 in
theorem Ci_writers_64_c17_eq (l1 : Int32) (l2 : Int32) (S : pS) : Ci_writers_64_c17 l1 l2 S = if l2 < (rF S 21 2) then ((Ro_at_21 l2 (0 : Int32) S).bind (fun q2 => (Ro_at_21 l2 (1 : Int32) q2.2).bind (fun q3 => (Ci_peopleFor_64 q2.1 q3.1 q3.2).bind (fun q4 => (Ro_at_21 l2 (2 : Int32) q4.2).bind (fun q5 => if q5.1 = (1 : Int32) then (Ci_writers_64_c17 (l1 &&& q4.1) (l2 + (1 : Int32)) q5.2) else (Ci_writers_64_c17 (l1 &&& (q4.1 ^^^ (-1 : Int32))) (l2 + (1 : Int32)) q5.2)))))) else (some (l1, S)) := by
  show Res PT GX (rkT 30) 30 (pCut cd30 17, [.ref 64, .int l1, .int l2, .null], [], S) = _
  refine (R_reg PT GX (k := 30) (code := cd30) rfl [17] 400).trans ?_
  refine br_cong ?_ ?_
  · refine (R_cx PT GX hRk PT_97 rfl rfl rfl rfl rfl).trans ?_
    refine bind_cong (fun q2 => ?_)
    refine (R_blk PT GX (k := 30) (code := cd30) rfl [17] 400 _).trans ?_
    refine (R_cx PT GX hRk PT_97 rfl rfl rfl rfl rfl).trans ?_
    refine bind_cong (fun q3 => ?_)
    refine (R_blk PT GX (k := 30) (code := cd30) rfl [17] 400 _).trans ?_
    refine (R_cx PT GX hRk PT_31 rfl rfl rfl rfl rfl).trans ?_
    refine bind_cong (fun q4 => ?_)
    refine (R_blk PT GX (k := 30) (code := cd30) rfl [17] 400 _).trans ?_
    refine (R_cx PT GX hRk PT_97 rfl rfl rfl rfl rfl).trans ?_
    refine bind_cong (fun q5 => ?_)
    refine (R_blk PT GX (k := 30) (code := cd30) rfl [17] 400 _).trans ?_
    refine br_cong ?_ ?_
    · rfl
    · rfl
  · exact R_retI PT GX rfl rfl
set_option maxRecDepth 20000 in
theorem Ci_askNext_64_eq (a1 : Int32) (S : pS) : Ci_askNext_64 a1 S = (J_bitCount a1 S).bind (fun q1 => if q1.1 < (2 : Int32) then (some ((-1 : Int32), q1.2)) else (Ci_askNext_64_c22 a1 q1.1 (-1 : Int32) (q1.1 + (1 : Int32)) (0 : Int32) q1.2)) := by
  show Res PT GX (rkT 32) 32 (cd32, [.ref 64, .int a1, .null, .null, .null, .null, .null, .null], [], S) = _
  refine (R_blk PT GX (k := 32) (code := cd32) rfl [22] 400 _).trans ?_
  refine (R_cx PT GX hRk PT_288 rfl rfl rfl rfl rfl).trans ?_
  refine bind_cong (fun q1 => ?_)
  refine (R_blk PT GX (k := 32) (code := cd32) rfl [22] 400 _).trans ?_
  refine br_cong ?_ ?_
  · exact R_retI PT GX rfl rfl
  · rfl
set_option maxRecDepth 20000 in
theorem Ci_askNext_64_c22_eq (l1 : Int32) (l2 : Int32) (l3 : Int32) (l4 : Int32) (l5 : Int32) (S : pS) : Ci_askNext_64_c22 l1 l2 l3 l4 l5 S = if l5 < (6 : Int32) then ((Dr_keptWith_1 (2 : Int32) l5 S).bind (fun q2 => (Dr_peopleOn_1 q2.1 q2.2).bind (fun q3 => (J_bitCount (l1 &&& q3.1) q3.2).bind (fun q4 => if (if q4.1 < (l2 - q4.1) then (l2 - q4.1) else q4.1) < l4 then (Ci_askNext_64_c22 l1 l2 l5 (if q4.1 < (l2 - q4.1) then (l2 - q4.1) else q4.1) (l5 + (1 : Int32)) q4.2) else (Ci_askNext_64_c22 l1 l2 l3 l4 (l5 + (1 : Int32)) q4.2))))) else (some (l3, S)) := by
  show Res PT GX (rkT 32) 32 (pCut cd32 22, [.ref 64, .int l1, .int l2, .int l3, .int l4, .int l5, .null, .null], [], S) = _
  refine (R_reg PT GX (k := 32) (code := cd32) rfl [22] 400).trans ?_
  refine br_cong ?_ ?_
  · refine (R_cx PT GX hRk PT_45 rfl rfl rfl rfl rfl).trans ?_
    refine bind_cong (fun q2 => ?_)
    refine (R_blk PT GX (k := 32) (code := cd32) rfl [22] 400 _).trans ?_
    refine (R_cx PT GX hRk PT_46 rfl rfl rfl rfl rfl).trans ?_
    refine bind_cong (fun q3 => ?_)
    refine (R_blk PT GX (k := 32) (code := cd32) rfl [22] 400 _).trans ?_
    refine (R_cx PT GX hRk PT_288 rfl rfl rfl rfl rfl).trans ?_
    refine bind_cong (fun q4 => ?_)
    refine (R_blk PT GX (k := 32) (code := cd32) rfl [22] 400 _).trans ?_
    refine br_cong ?_ ?_
    · rfl
    · rfl
  · exact R_retI PT GX rfl rfl
set_option maxRecDepth 20000 in
theorem Ke_sumOfHolds_25_eq (S : pS) : Ke_sumOfHolds_25 S = Ke_sumOfHolds_25_c4 (0 : Int32) (0 : Int32) S := by
  show Res PT GX (rkT 56) 56 (cd56, [.ref 25, .null, .null], [], S) = _
  exact (R_blk PT GX (k := 56) (code := cd56) rfl [4] 400 _).trans rfl
set_option maxRecDepth 20000 in
theorem Ke_sumOfHolds_25_c4_eq (l1 : Int32) (l2 : Int32) (S : pS) : Ke_sumOfHolds_25_c4 l1 l2 S = if l2 < (rF S 1 1) then ((Dr_isKept_1 l2 S).bind (fun q1 => if q1.1 = 0 then (Ke_sumOfHolds_25_c4 l1 (l2 + (1 : Int32)) q1.2) else ((La_tell_4_1 l2 (0 : Int32) q1.2).bind (fun q2 => Ke_sumOfHolds_25_c4 (l1 + q2.1) (l2 + (1 : Int32)) q2.2)))) else (some (l1, S)) := by
  show Res PT GX (rkT 56) 56 (pCut cd56 4, [.ref 25, .int l1, .int l2], [], S) = _
  refine (R_reg PT GX (k := 56) (code := cd56) rfl [4] 400).trans ?_
  refine br_cong ?_ ?_
  · refine (R_cx PT GX hRk PT_39 rfl rfl rfl rfl rfl).trans ?_
    refine bind_cong (fun q1 => ?_)
    refine (R_blk PT GX (k := 56) (code := cd56) rfl [4] 400 _).trans ?_
    refine br_cong ?_ ?_
    · rfl
    · refine (R_cx PT GX hRk PT_72 rfl rfl rfl rfl rfl).trans ?_
      refine bind_cong (fun q2 => ?_)
      exact (R_blk PT GX (k := 56) (code := cd56) rfl [4] 400 _).trans rfl
  · exact R_retI PT GX rfl rfl
set_option maxRecDepth 20000 in
theorem Ke_likeliest_25_eq (a1 : Int32) (S : pS) : Ke_likeliest_25 a1 S = Ke_likeliest_25_c9 a1 (-1 : Int32) (0 : Int32) (wF S 25 4 (-1 : Int32)) := by
  show Res PT GX (rkT 55) 55 (cd55, [.ref 25, .int a1, .null, .null, .null], [], S) = _
  refine (R_blk PT GX (k := 55) (code := cd55) rfl [9] 400 _).trans ?_
  refine brT (Or.inl rfl) ?_
  rfl
set_option maxRecDepth 20000 in
theorem Ke_likeliest_25_c9_eq (l1 : Int32) (l2 : Int32) (l3 : Int32) (S : pS) : Ke_likeliest_25_c9 l1 l2 l3 S = if l3 < (rF S 1 1) then ((C_holdsBit l1 l3 S).bind (fun q1 => if q1.1 = 0 then (Ke_likeliest_25_c9 l1 l2 (l3 + (1 : Int32)) q1.2) else ((La_tell_4_1 l3 (0 : Int32) q1.2).bind (fun q2 => if q2.1 ≤ (rF q2.2 25 4) then (Ke_likeliest_25_c9 l1 l2 (l3 + (1 : Int32)) q2.2) else (Ke_likeliest_25_c9 l1 l3 (l3 + (1 : Int32)) (wF q2.2 25 4 q2.1)))))) else (some (l2, S)) := by
  show Res PT GX (rkT 55) 55 (pCut cd55 9, [.ref 25, .int l1, .int l2, .int l3, .null], [], S) = _
  refine (R_reg PT GX (k := 55) (code := cd55) rfl [9] 400).trans ?_
  refine br_cong ?_ ?_
  · refine (R_cx PT GX hRk PT_157 rfl rfl rfl rfl rfl).trans ?_
    refine bind_cong (fun q1 => ?_)
    refine (R_blk PT GX (k := 55) (code := cd55) rfl [9] 400 _).trans ?_
    refine br_cong ?_ ?_
    · rfl
    · refine (R_cx PT GX hRk PT_72 rfl rfl rfl rfl rfl).trans ?_
      refine bind_cong (fun q2 => ?_)
      refine (R_blk PT GX (k := 55) (code := cd55) rfl [9] 400 _).trans ?_
      refine br_cong ?_ ?_
      · rfl
      · refine brT (Or.inl rfl) ?_
        rfl
  · exact R_retI PT GX rfl rfl
set_option maxRecDepth 20000 in
theorem Ch_firmToThrow_67_eq (S : pS) : Ch_firmToThrow_67 S = Ch_firmToThrow_67_c2 (0 : Int32) S := by
  show Res PT GX (rkT 18) 18 (cd18, [.ref 67, .null], [], S) = _
  exact (R_blk PT GX (k := 18) (code := cd18) rfl [2] 400 _).trans rfl
set_option maxRecDepth 20000 in
theorem Ch_firmToThrow_67_c2_eq (l1 : Int32) (S : pS) : Ch_firmToThrow_67_c2 l1 S = if l1 < (8 : Int32) then ((Ch_cardsToThrow_67 l1 S).bind (fun q1 => if q1.1 ≤ 0 then (Ch_firmToThrow_67_c2 (l1 + (1 : Int32)) q1.2) else (some (l1, q1.2)))) else (some ((-1 : Int32), S)) := by
  show Res PT GX (rkT 18) 18 (pCut cd18 2, [.ref 67, .int l1], [], S) = _
  refine (R_reg PT GX (k := 18) (code := cd18) rfl [2] 400).trans ?_
  refine br_cong ?_ ?_
  · refine (R_cx PT GX hRk PT_17 rfl rfl rfl rfl rfl).trans ?_
    refine bind_cong (fun q1 => ?_)
    refine (R_blk PT GX (k := 18) (code := cd18) rfl [2] 400 _).trans ?_
    refine br_cong ?_ ?_
    · rfl
    · exact R_retI PT GX rfl rfl
  · exact R_retI PT GX rfl rfl
set_option maxRecDepth 20000 in
theorem Ch_cardsToThrow_67_eq (a1 : Int32) (S : pS) : Ch_cardsToThrow_67 a1 S = (Ch_pile_67 a1 S).bind (fun q1 => (Ch_leftToLose_67 a1 q1.2).bind (fun q2 => some ((q1.1 - q2.1), q2.2))) := by
  show Res PT GX (rkT 17) 17 (cd17, [.ref 67, .int a1], [], S) = _
  refine (R_blk PT GX (k := 17) (code := cd17) rfl [] 400 _).trans ?_
  refine (R_cx PT GX hRk PT_15 rfl rfl rfl rfl rfl).trans ?_
  refine bind_cong (fun q1 => ?_)
  refine (R_blk PT GX (k := 17) (code := cd17) rfl [] 400 _).trans ?_
  refine (R_cx PT GX hRk PT_16 rfl rfl rfl rfl rfl).trans ?_
  refine bind_cong (fun q2 => ?_)
  refine (R_blk PT GX (k := 17) (code := cd17) rfl [] 400 _).trans ?_
  exact R_retI PT GX rfl rfl
set_option maxRecDepth 20000 in
theorem Hi_goBack_31_1_23_eq (S : pS) : Hi_goBack_31_1_23 S = if (rF S 31 2) = 0 then (some ((0 : Int32), S)) else (if inb ((rF S 31 2) - (1 : Int32)) 6 = true then (((wF S 31 2 ((rF S 31 2) - (1 : Int32))).2.2 32 (((rF S 31 2) - (1 : Int32))).toNatClampNeg).bind (fun j1 => if pRcv GX 4 [.ref 1, .ref j1] = true then ((CallF PT GX rkT 37 [.ref 1, .ref j1] (wF S 31 2 ((rF S 31 2) - (1 : Int32)))).bind (fun q2 => if inb (rF q2.2 31 2) 6 = true then (some ((1 : Int32), (wF q2.2 23 2 (rA q2.2 33 (rF q2.2 31 2))))) else (none))) else none)) else (none)) := by
  show Res PT GX (rkT 52) 52 (cd52, [.ref 31, .ref 1, .ref 23], [], S) = _
  refine (R_blk PT GX (k := 52) (code := cd52) rfl [] 400 _).trans ?_
  refine br_cong ?_ ?_
  · exact R_retI PT GX rfl rfl
  · refine brT (Or.inl rfl) ?_
    refine br_cong ?_ ?_
    · refine bind_cong (fun j1 => ?_)
      refine (R_cxg PT GX hRk PT_37 rfl rfl rfl rfl rfl).trans ?_
      refine ite_cong ?_ rfl
      refine bind_cong (fun q2 => ?_)
      refine (R_blk PT GX (k := 52) (code := cd52) rfl [] 400 _).trans ?_
      refine br_cong ?_ ?_
      · refine brT (Or.inl rfl) ?_
        exact R_retI PT GX rfl rfl
      · rfl
    · rfl
set_option maxRecDepth 20000 in
theorem Dr_copyFrom_1_69_eq (S : pS) : Dr_copyFrom_1_69 S = some (0, (wF (wF (wF (wF (wF (wF (wF (wC S 70 (0 : Int32) 2 (0 : Int32) (98 : Int32)) 1 1 (rF S 69 1)) 1 2 (rF S 69 2)) 1 3 (rF S 69 3)) 1 4 (rF S 69 4)) 1 5 (rF S 69 5)) 1 6 (rF S 69 6)) 1 7 (rF S 69 7))) := by
  show Res PT GX (rkT 37) 37 (cd37, [.ref 1, .ref 69], [], S) = _
  refine (R_blk PT GX (k := 37) (code := cd37) rfl [] 400 _).trans ?_
  refine brT ⟨by decide, by decide, by decide, by decide, by decide, Nat.le_of_ble_eq_true rfl⟩ ?_
  refine brT (Or.inl rfl) ?_
  refine brT (Or.inl rfl) ?_
  refine brT (Or.inl rfl) ?_
  refine brT (Or.inl rfl) ?_
  refine brT (Or.inl rfl) ?_
  refine brT (Or.inl rfl) ?_
  refine brT (Or.inl rfl) ?_
  exact R_retV PT GX rfl
set_option maxRecDepth 20000 in
theorem To_copyFrom_3_71_eq (S : pS) : To_copyFrom_3_71 S = (La_copyFrom_4_72 S).bind (fun q1 => (Ro_copyFrom_15_83 (wC (wC (wC q1.2 80 (0 : Int32) 12 (0 : Int32) (12 : Int32)) 81 (0 : Int32) 13 (0 : Int32) (8 : Int32)) 82 (0 : Int32) 14 (0 : Int32) (8 : Int32))).bind (fun q2 => (Ro_copyFrom_17_85 q2.2).bind (fun q3 => (Ro_copyFrom_19_87 q3.2).bind (fun q4 => (Ro_copyFrom_21_89 q4.2).bind (fun q5 => some (0, (wF (wF q5.2 3 8 (rF q5.2 71 8)) 3 9 (rF q5.2 71 9)))))))) := by
  show Res PT GX (rkT 112) 112 (cd112, [.ref 3, .ref 71], [], S) = _
  refine (R_blk PT GX (k := 112) (code := cd112) rfl [] 400 _).trans ?_
  refine (R_cx PT GX hRk PT_68 rfl rfl rfl rfl rfl).trans ?_
  refine bind_cong (fun q1 => ?_)
  refine (R_blk PT GX (k := 112) (code := cd112) rfl [] 400 _).trans ?_
  refine brT ⟨by decide, by decide, by decide, by decide, by decide, Nat.le_of_ble_eq_true rfl⟩ ?_
  refine brT ⟨by decide, by decide, by decide, by decide, by decide, Nat.le_of_ble_eq_true rfl⟩ ?_
  refine brT ⟨by decide, by decide, by decide, by decide, by decide, Nat.le_of_ble_eq_true rfl⟩ ?_
  refine (R_cx PT GX hRk PT_98 rfl rfl rfl rfl rfl).trans ?_
  refine bind_cong (fun q2 => ?_)
  refine (R_blk PT GX (k := 112) (code := cd112) rfl [] 400 _).trans ?_
  refine (R_cx PT GX hRk PT_98 rfl rfl rfl rfl rfl).trans ?_
  refine bind_cong (fun q3 => ?_)
  refine (R_blk PT GX (k := 112) (code := cd112) rfl [] 400 _).trans ?_
  refine (R_cx PT GX hRk PT_98 rfl rfl rfl rfl rfl).trans ?_
  refine bind_cong (fun q4 => ?_)
  refine (R_blk PT GX (k := 112) (code := cd112) rfl [] 400 _).trans ?_
  refine (R_cx PT GX hRk PT_98 rfl rfl rfl rfl rfl).trans ?_
  refine bind_cong (fun q5 => ?_)
  refine (R_blk PT GX (k := 112) (code := cd112) rfl [] 400 _).trans ?_
  refine brT (Or.inl rfl) ?_
  refine brT (Or.inl rfl) ?_
  exact R_retV PT GX rfl
set_option maxRecDepth 20000 in
theorem Ro_copyFrom_23_91_eq (S : pS) : Ro_copyFrom_23_91 S = if 0 ≤ (0 : Int32) ∧ 0 ≤ (0 : Int32) ∧ 0 ≤ (if ((rF S 91 2) * (4 : Int32)) < (600 : Int32) then ((rF S 91 2) * (4 : Int32)) else (600 : Int32)) ∧ ((0 : Int32)).toNatClampNeg + ((if ((rF S 91 2) * (4 : Int32)) < (600 : Int32) then ((rF S 91 2) * (4 : Int32)) else (600 : Int32))).toNatClampNeg ≤ 600 ∧ ((0 : Int32)).toNatClampNeg + ((if ((rF S 91 2) * (4 : Int32)) < (600 : Int32) then ((rF S 91 2) * (4 : Int32)) else (600 : Int32))).toNatClampNeg ≤ 600 ∧ 0 ≤ 8 then (some (0, (wF (wC S 92 (0 : Int32) 24 (0 : Int32) (if ((rF S 91 2) * (4 : Int32)) < (600 : Int32) then ((rF S 91 2) * (4 : Int32)) else (600 : Int32))) 23 2 (rF S 91 2)))) else (none) := by
  show Res PT GX (rkT 98) 98 (cd98, [.ref 23, .ref 91], [], S) = _
  refine (R_blk PT GX (k := 98) (code := cd98) rfl [] 400 _).trans ?_
  refine br_cong ?_ ?_
  · refine brT (Or.inl rfl) ?_
    exact R_retV PT GX rfl
  · rfl
set_option maxRecDepth 20000 in
theorem Dr_copyFrom_69_1_eq (S : pS) : Dr_copyFrom_69_1 S = some (0, (wF (wF (wF (wF (wF (wF (wF (wC S 2 (0 : Int32) 70 (0 : Int32) (98 : Int32)) 69 1 (rF S 1 1)) 69 2 (rF S 1 2)) 69 3 (rF S 1 3)) 69 4 (rF S 1 4)) 69 5 (rF S 1 5)) 69 6 (rF S 1 6)) 69 7 (rF S 1 7))) := by
  show Res PT GX (rkT 37) 37 (cd37, [.ref 69, .ref 1], [], S) = _
  refine (R_blk PT GX (k := 37) (code := cd37) rfl [] 400 _).trans ?_
  refine brT ⟨by decide, by decide, by decide, by decide, by decide, Nat.le_of_ble_eq_true rfl⟩ ?_
  refine brT (Or.inl rfl) ?_
  refine brT (Or.inl rfl) ?_
  refine brT (Or.inl rfl) ?_
  refine brT (Or.inl rfl) ?_
  refine brT (Or.inl rfl) ?_
  refine brT (Or.inl rfl) ?_
  refine brT (Or.inl rfl) ?_
  exact R_retV PT GX rfl
set_option maxRecDepth 20000 in
theorem To_copyFrom_71_3_eq (S : pS) : To_copyFrom_71_3 S = (La_copyFrom_72_4 S).bind (fun q1 => (Ro_copyFrom_83_15 (wC (wC (wC q1.2 12 (0 : Int32) 80 (0 : Int32) (12 : Int32)) 13 (0 : Int32) 81 (0 : Int32) (8 : Int32)) 14 (0 : Int32) 82 (0 : Int32) (8 : Int32))).bind (fun q2 => (Ro_copyFrom_85_17 q2.2).bind (fun q3 => (Ro_copyFrom_87_19 q3.2).bind (fun q4 => (Ro_copyFrom_89_21 q4.2).bind (fun q5 => some (0, (wF (wF q5.2 71 8 (rF q5.2 3 8)) 71 9 (rF q5.2 3 9)))))))) := by
  show Res PT GX (rkT 112) 112 (cd112, [.ref 71, .ref 3], [], S) = _
  refine (R_blk PT GX (k := 112) (code := cd112) rfl [] 400 _).trans ?_
  refine (R_cx PT GX hRk PT_68 rfl rfl rfl rfl rfl).trans ?_
  refine bind_cong (fun q1 => ?_)
  refine (R_blk PT GX (k := 112) (code := cd112) rfl [] 400 _).trans ?_
  refine brT ⟨by decide, by decide, by decide, by decide, by decide, Nat.le_of_ble_eq_true rfl⟩ ?_
  refine brT ⟨by decide, by decide, by decide, by decide, by decide, Nat.le_of_ble_eq_true rfl⟩ ?_
  refine brT ⟨by decide, by decide, by decide, by decide, by decide, Nat.le_of_ble_eq_true rfl⟩ ?_
  refine (R_cx PT GX hRk PT_98 rfl rfl rfl rfl rfl).trans ?_
  refine bind_cong (fun q2 => ?_)
  refine (R_blk PT GX (k := 112) (code := cd112) rfl [] 400 _).trans ?_
  refine (R_cx PT GX hRk PT_98 rfl rfl rfl rfl rfl).trans ?_
  refine bind_cong (fun q3 => ?_)
  refine (R_blk PT GX (k := 112) (code := cd112) rfl [] 400 _).trans ?_
  refine (R_cx PT GX hRk PT_98 rfl rfl rfl rfl rfl).trans ?_
  refine bind_cong (fun q4 => ?_)
  refine (R_blk PT GX (k := 112) (code := cd112) rfl [] 400 _).trans ?_
  refine (R_cx PT GX hRk PT_98 rfl rfl rfl rfl rfl).trans ?_
  refine bind_cong (fun q5 => ?_)
  refine (R_blk PT GX (k := 112) (code := cd112) rfl [] 400 _).trans ?_
  refine brT (Or.inl rfl) ?_
  refine brT (Or.inl rfl) ?_
  exact R_retV PT GX rfl
set_option maxRecDepth 20000 in
theorem Ro_copyFrom_91_23_eq (S : pS) : Ro_copyFrom_91_23 S = if 0 ≤ (0 : Int32) ∧ 0 ≤ (0 : Int32) ∧ 0 ≤ (if ((rF S 23 2) * (4 : Int32)) < (600 : Int32) then ((rF S 23 2) * (4 : Int32)) else (600 : Int32)) ∧ ((0 : Int32)).toNatClampNeg + ((if ((rF S 23 2) * (4 : Int32)) < (600 : Int32) then ((rF S 23 2) * (4 : Int32)) else (600 : Int32))).toNatClampNeg ≤ 600 ∧ ((0 : Int32)).toNatClampNeg + ((if ((rF S 23 2) * (4 : Int32)) < (600 : Int32) then ((rF S 23 2) * (4 : Int32)) else (600 : Int32))).toNatClampNeg ≤ 600 ∧ 0 ≤ 8 then (some (0, (wF (wC S 24 (0 : Int32) 92 (0 : Int32) (if ((rF S 23 2) * (4 : Int32)) < (600 : Int32) then ((rF S 23 2) * (4 : Int32)) else (600 : Int32))) 91 2 (rF S 23 2)))) else (none) := by
  show Res PT GX (rkT 98) 98 (cd98, [.ref 91, .ref 23], [], S) = _
  refine (R_blk PT GX (k := 98) (code := cd98) rfl [] 400 _).trans ?_
  refine br_cong ?_ ?_
  · refine brT (Or.inl rfl) ?_
    exact R_retV PT GX rfl
  · rfl
set_option maxRecDepth 20000 in
theorem Hi_dropOldest_31_eq (S : pS) : Hi_dropOldest_31 S = (S.2.2 32 ((0 : Int32)).toNatClampNeg).bind (fun j1 => Hi_dropOldest_31_c9 j1 (1 : Int32) S) := by
  show Res PT GX (rkT 51) 51 (cd51, [.ref 31, .null, .null], [], S) = _
  refine (R_blk PT GX (k := 51) (code := cd51) rfl [9] 400 _).trans ?_
  refine brT (by decide) ?_
  refine bind_cong (fun j1 => ?_)
  rfl
set_option maxRecDepth 20000 in
theorem Hi_dropOldest_31_c9_eq (l1 : Nat) (l2 : Int32) (S : pS) : Hi_dropOldest_31_c9 l1 l2 S = if l2 < (6 : Int32) then (if inb l2 6 = true then ((S.2.2 32 (l2).toNatClampNeg).bind (fun j2 => if pObj GX j2 3 = true then (if inb (l2 - (1 : Int32)) 6 = true then (if inb l2 6 = true then (if inb (l2 - (1 : Int32)) 6 = true then (Hi_dropOldest_31_c9 l1 (l2 + (1 : Int32)) (wA (wR S 32 (l2 - (1 : Int32)) j2) 33 (l2 - (1 : Int32)) (rA S 33 l2))) else (none)) else (none)) else (none)) else (none))) else (none)) else (if pObj GX l1 3 = true then (some (0, (wF (wR S 32 (5 : Int32) l1) 31 2 (5 : Int32)))) else (none)) := by
  show Res PT GX (rkT 51) 51 (pCut cd51 9, [.ref 31, .ref l1, .int l2], [], S) = _
  refine (R_reg PT GX (k := 51) (code := cd51) rfl [9] 400).trans ?_
  refine br_cong ?_ ?_
  · refine br_cong ?_ ?_
    · refine bind_cong (fun j2 => ?_)
      refine br_cong ?_ ?_
      · refine br_cong ?_ ?_
        · refine br_cong ?_ ?_
          · refine br_cong ?_ ?_
            · rfl
            · rfl
          · rfl
        · rfl
      · rfl
    · rfl
  · refine br_cong ?_ ?_
    · refine brT (by decide) ?_
      refine brT (Or.inl rfl) ?_
      exact R_retV PT GX rfl
    · rfl
set_option maxRecDepth 20000 in
theorem Ke_reaches_25_eq (a1 : Int32) (S : pS) : Ke_reaches_25 a1 S = (Dr_read_1 a1 (6 : Int32) S).bind (fun q1 => (Dr_write_1 a1 (6 : Int32) (q1.1 + (1 : Int32)) q1.2).bind (fun q2 => if (rF q2.2 25 3) = 0 then ((Dr_draw_1 (1000 : Int32) q2.2).bind (fun q3 => if q3.1 < (rF q3.2 25 4) then (some ((1 : Int32), q3.2)) else (some ((0 : Int32), q3.2)))) else (if (rF q2.2 25 4) < (500 : Int32) then (some ((0 : Int32), q2.2)) else (some ((1 : Int32), q2.2))))) := by
  show Res PT GX (rkT 57) 57 (cd57, [.ref 25, .int a1], [], S) = _
  refine (R_blk PT GX (k := 57) (code := cd57) rfl [] 400 _).trans ?_
  refine (R_cx PT GX hRk PT_40 rfl rfl rfl rfl rfl).trans ?_
  refine bind_cong (fun q1 => ?_)
  refine (R_blk PT GX (k := 57) (code := cd57) rfl [] 400 _).trans ?_
  refine (R_cx PT GX hRk PT_41 rfl rfl rfl rfl rfl).trans ?_
  refine bind_cong (fun q2 => ?_)
  refine (R_blk PT GX (k := 57) (code := cd57) rfl [] 400 _).trans ?_
  refine br_cong ?_ ?_
  · refine (R_cx PT GX hRk PT_47 rfl rfl rfl rfl rfl).trans ?_
    refine bind_cong (fun q3 => ?_)
    refine (R_blk PT GX (k := 57) (code := cd57) rfl [] 400 _).trans ?_
    refine br_cong ?_ ?_
    · exact R_retI PT GX rfl rfl
    · exact R_retI PT GX rfl rfl
  · refine br_cong ?_ ?_
    · exact R_retI PT GX rfl rfl
    · exact R_retI PT GX rfl rfl
set_option maxRecDepth 20000 in
theorem Ke_enter_25_eq (a1 : Int32) (a2 : Int32) (a3 : Int32) (S : pS) : Ke_enter_25 a1 a2 a3 S = (Ro_add_23 (rF S 1 3) a1 a2 a3 S).bind (fun q1 => some (0, q1.2)) := by
  show Res PT GX (rkT 54) 54 (cd54, [.ref 25, .int a1, .int a2, .int a3], [], S) = _
  refine (R_blk PT GX (k := 54) (code := cd54) rfl [] 400 _).trans ?_
  refine (R_cx PT GX hRk PT_95 rfl rfl rfl rfl rfl).trans ?_
  refine bind_cong (fun q1 => ?_)
  refine (R_blk PT GX (k := 54) (code := cd54) rfl [] 400 _).trans ?_
  exact R_retV PT GX rfl
set_option maxRecDepth 20000 in
theorem Dr_wear_1_eq (a1 : Int32) (a2 : Int32) (S : pS) : Dr_wear_1 a1 a2 S = (Dr_read_1 a1 (5 : Int32) S).bind (fun q1 => (Dr_write_1 a1 (5 : Int32) (if (q1.1 + a2) < (99 : Int32) then (q1.1 + a2) else (99 : Int32)) q1.2).bind (fun q2 => some (0, q2.2))) := by
  show Res PT GX (rkT 44) 44 (cd44, [.ref 1, .int a1, .int a2], [], S) = _
  refine (R_blk PT GX (k := 44) (code := cd44) rfl [] 400 _).trans ?_
  refine (R_cx PT GX hRk PT_40 rfl rfl rfl rfl rfl).trans ?_
  refine bind_cong (fun q1 => ?_)
  refine (R_blk PT GX (k := 44) (code := cd44) rfl [] 400 _).trans ?_
  refine (R_cx PT GX hRk PT_41 rfl rfl rfl rfl rfl).trans ?_
  refine bind_cong (fun q2 => ?_)
  refine (R_blk PT GX (k := 44) (code := cd44) rfl [] 400 _).trans ?_
  exact R_retV PT GX rfl
set_option maxRecDepth 20000 in
theorem Ke_throwLeast_25_eq (S : pS) : Ke_throwLeast_25 S = Ke_throwLeast_25_c6 (-1 : Int32) (0 : Int32) (0 : Int32) S := by
  show Res PT GX (rkT 60) 60 (cd60, [.ref 25, .null, .null, .null, .null], [], S) = _
  exact (R_blk PT GX (k := 60) (code := cd60) rfl [6] 400 _).trans rfl
set_option maxRecDepth 20000 in
theorem Ke_throwLeast_25_c6_eq (l1 : Int32) (l2 : Int32) (l3 : Int32) (S : pS) : Ke_throwLeast_25_c6 l1 l2 l3 S = if l3 < (rF S 1 1) then ((Dr_isKept_1 l3 S).bind (fun q1 => if q1.1 = 0 then (Ke_throwLeast_25_c6 l1 l2 (l3 + (1 : Int32)) q1.2) else ((La_tell_4_1 l3 (2 : Int32) q1.2).bind (fun q2 => if l1 = (-1 : Int32) then (Ke_throwLeast_25_c6 l3 q2.1 (l3 + (1 : Int32)) q2.2) else (if q2.1 < l2 then (Ke_throwLeast_25_c6 l3 q2.1 (l3 + (1 : Int32)) q2.2) else (Ke_throwLeast_25_c6 l1 l2 (l3 + (1 : Int32)) q2.2)))))) else (if l1 = (-1 : Int32) then (some ((0 : Int32), S)) else ((Dr_drop_1 l1 S).bind (fun q3 => (Ke_enter_25 (2 : Int32) l1 l2 q3.2).bind (fun q4 => some ((1 : Int32), q4.2))))) := by
  show Res PT GX (rkT 60) 60 (pCut cd60 6, [.ref 25, .int l1, .int l2, .int l3, .null], [], S) = _
  refine (R_reg PT GX (k := 60) (code := cd60) rfl [6] 400).trans ?_
  refine br_cong ?_ ?_
  · refine (R_cx PT GX hRk PT_39 rfl rfl rfl rfl rfl).trans ?_
    refine bind_cong (fun q1 => ?_)
    refine (R_blk PT GX (k := 60) (code := cd60) rfl [6] 400 _).trans ?_
    refine br_cong ?_ ?_
    · rfl
    · refine (R_cx PT GX hRk PT_72 rfl rfl rfl rfl rfl).trans ?_
      refine bind_cong (fun q2 => ?_)
      refine (R_blk PT GX (k := 60) (code := cd60) rfl [6] 400 _).trans ?_
      refine br_cong ?_ ?_
      · rfl
      · refine br_cong ?_ ?_
        · rfl
        · rfl
  · refine br_cong ?_ ?_
    · exact R_retI PT GX rfl rfl
    · refine (R_cx PT GX hRk PT_43 rfl rfl rfl rfl rfl).trans ?_
      refine bind_cong (fun q3 => ?_)
      refine (R_blk PT GX (k := 60) (code := cd60) rfl [6] 400 _).trans ?_
      refine (R_cx PT GX hRk PT_54 rfl rfl rfl rfl rfl).trans ?_
      refine bind_cong (fun q4 => ?_)
      refine (R_blk PT GX (k := 60) (code := cd60) rfl [6] 400 _).trans ?_
      exact R_retI PT GX rfl rfl
set_option maxRecDepth 20000 in
theorem Ro_at_15_eq (a1 : Int32) (a2 : Int32) (S : pS) : Ro_at_15 a1 a2 S = if a1 < 0 then (some ((-1 : Int32), S)) else (if a1 < (rF S 15 2) then ((C_within a2 (4 : Int32) S).bind (fun q1 => if q1.1 = 0 then (some ((-1 : Int32), q1.2)) else (if inb ((a1 * (4 : Int32)) + a2) 64 = true then (some ((rA q1.2 16 ((a1 * (4 : Int32)) + a2)), q1.2)) else (none)))) else (some ((-1 : Int32), S))) := by
  show Res PT GX (rkT 97) 97 (cd97, [.ref 15, .int a1, .int a2], [], S) = _
  refine (R_blk PT GX (k := 97) (code := cd97) rfl [] 400 _).trans ?_
  refine br_cong ?_ ?_
  · exact R_retI PT GX rfl rfl
  · refine br_cong ?_ ?_
    · refine (R_cx PT GX hRk PT_156 rfl rfl rfl rfl rfl).trans ?_
      refine bind_cong (fun q1 => ?_)
      refine (R_blk PT GX (k := 97) (code := cd97) rfl [] 400 _).trans ?_
      refine br_cong ?_ ?_
      · exact R_retI PT GX rfl rfl
      · refine br_cong ?_ ?_
        · exact R_retI PT GX rfl rfl
        · rfl
    · exact R_retI PT GX rfl rfl
set_option maxRecDepth 20000 in
theorem Ke_carryOut_25_eq (a1 : Int32) (a2 : Int32) (S : pS) : Ke_carryOut_25 a1 a2 S = if a1 = (320 : Int32) then ((Ke_throwCards_25 a2 S).bind (fun q1 => some (0, q1.2))) else (if a1 = (321 : Int32) then ((Ke_ringPerson_25 a2 S).bind (fun q2 => some (0, q2.2))) else ((Dr_has_1 a2 S).bind (fun q3 => if q3.1 = 0 then (some (0, q3.2)) else (if a1 = (322 : Int32) then ((Ke_bendCard_25 a2 q3.2).bind (fun q4 => some (0, q4.2))) else ((Ke_findCard_25 a2 q3.2).bind (fun q5 => some (0, q5.2))))))) := by
  show Res PT GX (rkT 64) 64 (cd64, [.ref 25, .int a1, .int a2], [], S) = _
  refine (R_blk PT GX (k := 64) (code := cd64) rfl [] 400 _).trans ?_
  refine br_cong ?_ ?_
  · refine (R_cx PT GX hRk PT_59 rfl rfl rfl rfl rfl).trans ?_
    refine bind_cong (fun q1 => ?_)
    refine (R_blk PT GX (k := 64) (code := cd64) rfl [] 400 _).trans ?_
    exact R_retV PT GX rfl
  · refine br_cong ?_ ?_
    · refine (R_cx PT GX hRk PT_58 rfl rfl rfl rfl rfl).trans ?_
      refine bind_cong (fun q2 => ?_)
      refine (R_blk PT GX (k := 64) (code := cd64) rfl [] 400 _).trans ?_
      exact R_retV PT GX rfl
    · refine (R_cx PT GX hRk PT_38 rfl rfl rfl rfl rfl).trans ?_
      refine bind_cong (fun q3 => ?_)
      refine (R_blk PT GX (k := 64) (code := cd64) rfl [] 400 _).trans ?_
      refine br_cong ?_ ?_
      · exact R_retV PT GX rfl
      · refine br_cong ?_ ?_
        · refine (R_cx PT GX hRk PT_61 rfl rfl rfl rfl rfl).trans ?_
          refine bind_cong (fun q4 => ?_)
          refine (R_blk PT GX (k := 64) (code := cd64) rfl [] 400 _).trans ?_
          exact R_retV PT GX rfl
        · refine (R_cx PT GX hRk PT_62 rfl rfl rfl rfl rfl).trans ?_
          refine bind_cong (fun q5 => ?_)
          refine (R_blk PT GX (k := 64) (code := cd64) rfl [] 400 _).trans ?_
          exact R_retV PT GX rfl
set_option maxRecDepth 20000 in
theorem Ke_wantTrade_25_eq (S : pS) : Ke_wantTrade_25 S = if (rF S 25 3) = 0 then ((Dr_draw_1 (6 : Int32) S).bind (fun q1 => Ke_wantTrade_25_c29 q1.1 q1.2)) else (Ke_wantTrade_25_c29 ((rF S 1 3) - (rF S 1 3) / (6 : Int32) * (6 : Int32)) S) := by
  show Res PT GX (rkT 65) 65 (cd65, [.ref 25, .null, .null], [], S) = _
  refine (R_blk PT GX (k := 65) (code := cd65) rfl [29] 400 _).trans ?_
  refine br_cong ?_ ?_
  · refine (R_cx PT GX hRk PT_47 rfl rfl rfl rfl rfl).trans ?_
    refine bind_cong (fun q1 => ?_)
    exact (R_blk PT GX (k := 65) (code := cd65) rfl [29] 400 _).trans rfl
  · refine brF (by decide) ?_
    rfl
set_option maxRecDepth 20000 in
theorem Ke_wantTrade_25_c29_eq (s0 : Int32) (S : pS) : Ke_wantTrade_25_c29 s0 S = (Dr_keptWith_1 (2 : Int32) s0 S).bind (fun q2 => (Ke_likeliest_25 q2.1 q2.2).bind (fun q3 => if q3.1 = (-1 : Int32) then ((Ke_enter_25 (7 : Int32) s0 (0 : Int32) (wF q3.2 1 6 ((rF q3.2 1 6) + (1 : Int32)))).bind (fun q4 => some (0, q4.2))) else ((Ke_reaches_25 q3.1 q3.2).bind (fun q5 => if q5.1 = 0 then ((Ke_enter_25 (6 : Int32) q3.1 (rF q5.2 25 4) (wF q5.2 1 5 ((rF q5.2 1 5) + (1 : Int32)))).bind (fun q6 => some (0, q6.2))) else ((Ke_enter_25 (5 : Int32) q3.1 (rF q5.2 25 4) (wF q5.2 1 4 ((rF q5.2 1 4) + (1 : Int32)))).bind (fun q7 => some (0, q7.2))))))) := by
  show Res PT GX (rkT 65) 65 (pCut cd65 29, [.ref 25, .null, .null], [.int s0], S) = _
  refine (R_reg PT GX (k := 65) (code := cd65) rfl [29] 400).trans ?_
  refine (R_cx PT GX hRk PT_45 rfl rfl rfl rfl rfl).trans ?_
  refine bind_cong (fun q2 => ?_)
  refine (R_blk PT GX (k := 65) (code := cd65) rfl [29] 400 _).trans ?_
  refine (R_cx PT GX hRk PT_55 rfl rfl rfl rfl rfl).trans ?_
  refine bind_cong (fun q3 => ?_)
  refine (R_blk PT GX (k := 65) (code := cd65) rfl [29] 400 _).trans ?_
  refine br_cong ?_ ?_
  · refine brT (Or.inl rfl) ?_
    refine (R_cx PT GX hRk PT_54 rfl rfl rfl rfl rfl).trans ?_
    refine bind_cong (fun q4 => ?_)
    refine (R_blk PT GX (k := 65) (code := cd65) rfl [29] 400 _).trans ?_
    exact R_retV PT GX rfl
  · refine (R_cx PT GX hRk PT_57 rfl rfl rfl rfl rfl).trans ?_
    refine bind_cong (fun q5 => ?_)
    refine (R_blk PT GX (k := 65) (code := cd65) rfl [29] 400 _).trans ?_
    refine br_cong ?_ ?_
    · refine brT (Or.inl rfl) ?_
      refine (R_cx PT GX hRk PT_54 rfl rfl rfl rfl rfl).trans ?_
      refine bind_cong (fun q6 => ?_)
      refine (R_blk PT GX (k := 65) (code := cd65) rfl [29] 400 _).trans ?_
      exact R_retV PT GX rfl
    · refine brT (Or.inl rfl) ?_
      refine (R_cx PT GX hRk PT_54 rfl rfl rfl rfl rfl).trans ?_
      refine bind_cong (fun q7 => ?_)
      refine (R_blk PT GX (k := 65) (code := cd65) rfl [29] 400 _).trans ?_
      exact R_retV PT GX rfl
set_option maxRecDepth 20000 in
theorem Ke_wearCard_25_eq (a1 : Int32) (S : pS) : Ke_wearCard_25 a1 S = (Dr_read_1 a1 (5 : Int32) S).bind (fun q1 => (La_tell_4_1 a1 (1 : Int32) q1.2).bind (fun q2 => (Dr_wear_1 a1 q2.1 q2.2).bind (fun q3 => (Dr_read_1 a1 (5 : Int32) q3.2).bind (fun q4 => if q4.1 < (99 : Int32) then (some (0, q4.2)) else ((Dr_drop_1 a1 q4.2).bind (fun q5 => (Ke_enter_25 (8 : Int32) a1 q1.1 q5.2).bind (fun q6 => some (0, q6.2)))))))) := by
  show Res PT GX (rkT 66) 66 (cd66, [.ref 25, .int a1, .null], [], S) = _
  refine (R_blk PT GX (k := 66) (code := cd66) rfl [] 400 _).trans ?_
  refine (R_cx PT GX hRk PT_40 rfl rfl rfl rfl rfl).trans ?_
  refine bind_cong (fun q1 => ?_)
  refine (R_blk PT GX (k := 66) (code := cd66) rfl [] 400 _).trans ?_
  refine (R_cx PT GX hRk PT_72 rfl rfl rfl rfl rfl).trans ?_
  refine bind_cong (fun q2 => ?_)
  refine (R_blk PT GX (k := 66) (code := cd66) rfl [] 400 _).trans ?_
  refine (R_cx PT GX hRk PT_44 rfl rfl rfl rfl rfl).trans ?_
  refine bind_cong (fun q3 => ?_)
  refine (R_blk PT GX (k := 66) (code := cd66) rfl [] 400 _).trans ?_
  refine (R_cx PT GX hRk PT_40 rfl rfl rfl rfl rfl).trans ?_
  refine bind_cong (fun q4 => ?_)
  refine (R_blk PT GX (k := 66) (code := cd66) rfl [] 400 _).trans ?_
  refine br_cong ?_ ?_
  · exact R_retV PT GX rfl
  · refine (R_cx PT GX hRk PT_43 rfl rfl rfl rfl rfl).trans ?_
    refine bind_cong (fun q5 => ?_)
    refine (R_blk PT GX (k := 66) (code := cd66) rfl [] 400 _).trans ?_
    refine (R_cx PT GX hRk PT_54 rfl rfl rfl rfl rfl).trans ?_
    refine bind_cong (fun q6 => ?_)
    refine (R_blk PT GX (k := 66) (code := cd66) rfl [] 400 _).trans ?_
    exact R_retV PT GX rfl
