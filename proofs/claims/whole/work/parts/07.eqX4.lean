/-! Equations of methods (written by program). -/
set_option maxRecDepth 20000 in
theorem Ta_numberAt_46_eq (a1 : Int32) (a2 : Int32) (S : pS) : Ta_numberAt_46 a1 a2 S = if (a2 - a1) ≤ (4 : Int32) then (Ta_numberAt_46_c14 a2 (0 : Int32) a1 S) else (some ((1 : Int32), S)) := by
  show Res PT GX (rkT 110) 110 (cd110, [.ref 46, .int a1, .int a2, .null, .null], [], S) = _
  refine (R_blk PT GX (k := 110) (code := cd110) rfl [14] 400 _).trans ?_
  refine br_cong ?_ ?_
  · rfl
  · exact R_retI PT GX rfl rfl
set_option maxRecDepth 20000 in
theorem Ta_numberAt_46_c14_eq (l2 : Int32) (l3 : Int32) (l4 : Int32) (S : pS) : Ta_numberAt_46_c14 l2 l3 l4 S = if l4 < l2 then (if inb l4 400 = true then (Ta_numberAt_46_c14 l2 (((l3 * (10 : Int32)) + (rA S 47 l4)) - (48 : Int32)) (l4 + (1 : Int32)) S) else (none)) else (some (((1000 : Int32) + l3), S)) := by
  show Res PT GX (rkT 110) 110 (pCut cd110 14, [.ref 46, .null, .int l2, .int l3, .int l4], [], S) = _
  refine (R_reg PT GX (k := 110) (code := cd110) rfl [14] 400).trans ?_
  refine br_cong ?_ ?_
  · refine br_cong ?_ ?_
    · rfl
    · rfl
  · exact R_retI PT GX rfl rfl
set_option maxRecDepth 20000 in
theorem Ta_pastLetters_46_eq (a1 : Int32) (S : pS) : Ta_pastLetters_46 a1 S = Ta_pastLetters_46_c2 a1 S := by
  show Res PT GX (rkT 106) 106 (cd106, [.ref 46, .int a1, .null], [], S) = _
  exact (R_blk PT GX (k := 106) (code := cd106) rfl [2] 400 _).trans rfl
set_option maxRecDepth 20000 in
theorem Ta_pastLetters_46_c2_eq (l2 : Int32) (S : pS) : Ta_pastLetters_46_c2 l2 S = if l2 < (rF S 46 4) then (if inb l2 400 = true then ((Ta_isLetter (rA S 47 l2) S).bind (fun q1 => if q1.1 = 0 then (some (l2, q1.2)) else (Ta_pastLetters_46_c2 (l2 + (1 : Int32)) q1.2))) else (none)) else (some ((rF S 46 4), S)) := by
  show Res PT GX (rkT 106) 106 (pCut cd106 2, [.ref 46, .null, .int l2], [], S) = _
  refine (R_reg PT GX (k := 106) (code := cd106) rfl [2] 400).trans ?_
  refine br_cong ?_ ?_
  · refine br_cong ?_ ?_
    · refine (R_cx PT GX hRk PT_104 rfl rfl rfl rfl rfl).trans ?_
      refine bind_cong (fun q1 => ?_)
      refine (R_blk PT GX (k := 106) (code := cd106) rfl [2] 400 _).trans ?_
      refine br_cong ?_ ?_
      · exact R_retI PT GX rfl rfl
      · rfl
    · rfl
  · exact R_retI PT GX rfl rfl
set_option maxRecDepth 20000 in
theorem Ta_wordAt_46_eq (a1 : Int32) (a2 : Int32) (S : pS) : Ta_wordAt_46 a1 a2 S = if (a2 - a1) ≤ (6 : Int32) then (Ta_wordAt_46_c12 a1 a2 (0 : Int32) S) else (some ((1 : Int32), S)) := by
  show Res PT GX (rkT 108) 108 (cd108, [.ref 46, .int a1, .int a2, .null], [], S) = _
  refine (R_blk PT GX (k := 108) (code := cd108) rfl [12] 400 _).trans ?_
  refine br_cong ?_ ?_
  · rfl
  · exact R_retI PT GX rfl rfl
set_option maxRecDepth 20000 in
theorem Ta_wordAt_46_c12_eq (l1 : Int32) (l2 : Int32) (l3 : Int32) (S : pS) : Ta_wordAt_46_c12 l1 l2 l3 S = if l3 < (24 : Int32) then ((Ta_isWord_46 l3 l1 l2 S).bind (fun q1 => if q1.1 = 0 then (Ta_wordAt_46_c12 l1 l2 (l3 + (1 : Int32)) q1.2) else (some (((300 : Int32) + l3), q1.2)))) else (some ((1 : Int32), S)) := by
  show Res PT GX (rkT 108) 108 (pCut cd108 12, [.ref 46, .int l1, .int l2, .int l3], [], S) = _
  refine (R_reg PT GX (k := 108) (code := cd108) rfl [12] 400).trans ?_
  refine br_cong ?_ ?_
  · refine (R_cx PT GX hRk PT_109 rfl rfl rfl rfl rfl).trans ?_
    refine bind_cong (fun q1 => ?_)
    refine (R_blk PT GX (k := 108) (code := cd108) rfl [12] 400 _).trans ?_
    refine br_cong ?_ ?_
    · rfl
    · exact R_retI PT GX rfl rfl
  · exact R_retI PT GX rfl rfl
set_option maxRecDepth 20000 in
theorem Re_opens_50_eq (a1 : Int32) (a2 : Int32) (S : pS) : Re_opens_50 a1 a2 S = if (rF S 50 7) < a1 then ((Re_fails_50 (1 : Int32) S).bind (fun q1 => if pBool 1 q1.1 = true then some (q1.1, q1.2) else none)) else (if (rF S 50 7) ≤ a2 then (if (rF S 50 3) < (16 : Int32) then ((Re_advance_50 S).bind (fun q2 => some ((1 : Int32), q2.2))) else ((Re_fails_50 (3 : Int32) S).bind (fun q3 => if pBool 1 q3.1 = true then some (q3.1, q3.2) else none))) else ((Re_fails_50 (1 : Int32) S).bind (fun q4 => if pBool 1 q4.1 = true then some (q4.1, q4.2) else none))) := by
  show Res PT GX (rkT 82) 82 (cd82, [.ref 50, .int a1, .int a2], [], S) = _
  refine (R_blk PT GX (k := 82) (code := cd82) rfl [] 400 _).trans ?_
  refine br_cong ?_ ?_
  · refine (R_cx PT GX hRk PT_80 rfl rfl rfl rfl rfl).trans ?_
    refine bind_cong (fun q1 => ?_)
    refine (R_blk PT GX (k := 82) (code := cd82) rfl [] 400 _).trans ?_
    exact R_ret PT GX rfl
  · refine br_cong ?_ ?_
    · refine br_cong ?_ ?_
      · refine (R_cx PT GX hRk PT_79 rfl rfl rfl rfl rfl).trans ?_
        refine bind_cong (fun q2 => ?_)
        refine (R_blk PT GX (k := 82) (code := cd82) rfl [] 400 _).trans ?_
        exact R_retI PT GX rfl rfl
      · refine (R_cx PT GX hRk PT_80 rfl rfl rfl rfl rfl).trans ?_
        refine bind_cong (fun q3 => ?_)
        refine (R_blk PT GX (k := 82) (code := cd82) rfl [] 400 _).trans ?_
        exact R_ret PT GX rfl
    · refine (R_cx PT GX hRk PT_80 rfl rfl rfl rfl rfl).trans ?_
      refine bind_cong (fun q4 => ?_)
      refine (R_blk PT GX (k := 82) (code := cd82) rfl [] 400 _).trans ?_
      exact R_ret PT GX rfl
set_option maxRecDepth 20000 in
theorem Re_passesNumber_50_eq (a1 : Int32) (a2 : Int32) (S : pS) : Re_passesNumber_50 a1 a2 S = if (rF S 50 7) < (1000 : Int32) then ((Re_fails_50 (1 : Int32) S).bind (fun q1 => if pBool 1 q1.1 = true then some (q1.1, q1.2) else none)) else (if ((rF S 50 7) - (1000 : Int32)) < a1 then ((Re_fails_50 (2 : Int32) (wF S 50 8 ((rF S 50 7) - (1000 : Int32)))).bind (fun q2 => if pBool 1 q2.1 = true then some (q2.1, q2.2) else none)) else (if ((rF S 50 7) - (1000 : Int32)) ≤ a2 then ((Re_advance_50 (wF S 50 8 ((rF S 50 7) - (1000 : Int32)))).bind (fun q3 => some ((1 : Int32), q3.2))) else ((Re_fails_50 (2 : Int32) (wF S 50 8 ((rF S 50 7) - (1000 : Int32)))).bind (fun q4 => if pBool 1 q4.1 = true then some (q4.1, q4.2) else none)))) := by
  show Res PT GX (rkT 83) 83 (cd83, [.ref 50, .int a1, .int a2], [], S) = _
  refine (R_blk PT GX (k := 83) (code := cd83) rfl [] 400 _).trans ?_
  refine br_cong ?_ ?_
  · refine (R_cx PT GX hRk PT_80 rfl rfl rfl rfl rfl).trans ?_
    refine bind_cong (fun q1 => ?_)
    refine (R_blk PT GX (k := 83) (code := cd83) rfl [] 400 _).trans ?_
    exact R_ret PT GX rfl
  · refine brT (Or.inl rfl) ?_
    refine br_cong ?_ ?_
    · refine (R_cx PT GX hRk PT_80 rfl rfl rfl rfl rfl).trans ?_
      refine bind_cong (fun q2 => ?_)
      refine (R_blk PT GX (k := 83) (code := cd83) rfl [] 400 _).trans ?_
      exact R_ret PT GX rfl
    · refine br_cong ?_ ?_
      · refine (R_cx PT GX hRk PT_79 rfl rfl rfl rfl rfl).trans ?_
        refine bind_cong (fun q3 => ?_)
        refine (R_blk PT GX (k := 83) (code := cd83) rfl [] 400 _).trans ?_
        exact R_retI PT GX rfl rfl
      · refine (R_cx PT GX hRk PT_80 rfl rfl rfl rfl rfl).trans ?_
        refine bind_cong (fun q4 => ?_)
        refine (R_blk PT GX (k := 83) (code := cd83) rfl [] 400 _).trans ?_
        exact R_ret PT GX rfl
set_option maxRecDepth 20000 in
theorem Re_fails_50_eq (a1 : Int32) (S : pS) : Re_fails_50 a1 S = if inb (rF S 50 6) 401 = true then (some ((0 : Int32), (wF (wF S 50 4 a1) 50 5 (rA S 49 (rF S 50 6))))) else (none) := by
  show Res PT GX (rkT 80) 80 (cd80, [.ref 50, .int a1], [], S) = _
  refine (R_blk PT GX (k := 80) (code := cd80) rfl [] 400 _).trans ?_
  refine brT (Or.inl rfl) ?_
  refine br_cong ?_ ?_
  · refine brT (Or.inl rfl) ?_
    exact R_retI PT GX rfl rfl
  · rfl
set_option maxRecDepth 20000 in
theorem Re_advance_50_eq (S : pS) : Re_advance_50 S = if (rF S 50 6) < (400 : Int32) then (Re_advance_50_c20 (wF S 50 6 ((rF S 50 6) + (1 : Int32)))) else (Re_advance_50_c20 S) := by
  show Res PT GX (rkT 79) 79 (cd79, [.ref 50], [], S) = _
  refine (R_blk PT GX (k := 79) (code := cd79) rfl [20] 400 _).trans ?_
  refine br_cong ?_ ?_
  · refine brT (Or.inl rfl) ?_
    rfl
  · rfl
set_option maxRecDepth 20000 in
theorem Re_advance_50_c20_eq (S : pS) : Re_advance_50_c20 S = if inb (rF S 50 6) 401 = true then (some (0, (wF S 50 7 (rA S 48 (rF S 50 6))))) else (none) := by
  show Res PT GX (rkT 79) 79 (pCut cd79 20, [.ref 50], [], S) = _
  refine (R_reg PT GX (k := 79) (code := cd79) rfl [20] 400).trans ?_
  refine br_cong ?_ ?_
  · refine brT (Or.inl rfl) ?_
    exact R_retV PT GX rfl
  · rfl
set_option maxRecDepth 20000 in
theorem Ro_add_59_eq (a1 : Int32) (a2 : Int32) (a3 : Int32) (a4 : Int32) (S : pS) : Ro_add_59 a1 a2 a3 a4 S = if (rF S 59 2) < (rF S 59 0) then (if inb ((rF S 59 2) * (4 : Int32)) 64 = true then (if inb (((rF S 59 2) * (4 : Int32)) + (1 : Int32)) 64 = true then (if inb (((rF S 59 2) * (4 : Int32)) + (2 : Int32)) 64 = true then (if inb (((rF S 59 2) * (4 : Int32)) + (3 : Int32)) 64 = true then (some (((rF S 59 2) + (1 : Int32)), (wF (wA (wA (wA (wA S 60 ((rF S 59 2) * (4 : Int32)) a1) 60 (((rF S 59 2) * (4 : Int32)) + (1 : Int32)) a2) 60 (((rF S 59 2) * (4 : Int32)) + (2 : Int32)) a3) 60 (((rF S 59 2) * (4 : Int32)) + (3 : Int32)) a4) 59 2 ((rF S 59 2) + (1 : Int32))))) else (none)) else (none)) else (none)) else (none)) else (some ((-1 : Int32), S)) := by
  show Res PT GX (rkT 95) 95 (cd95, [.ref 59, .int a1, .int a2, .int a3, .int a4, .null], [], S) = _
  refine (R_blk PT GX (k := 95) (code := cd95) rfl [] 400 _).trans ?_
  refine br_cong ?_ ?_
  · refine br_cong ?_ ?_
    · refine br_cong ?_ ?_
      · refine br_cong ?_ ?_
        · refine br_cong ?_ ?_
          · refine brT (Or.inl rfl) ?_
            exact R_retI PT GX rfl rfl
          · rfl
        · rfl
      · rfl
    · rfl
  · exact R_retI PT GX rfl rfl
set_option maxRecDepth 20000 in
theorem Re_passes_50_eq (a1 : Int32) (S : pS) : Re_passes_50 a1 S = if (rF S 50 7) = a1 then ((Re_advance_50 S).bind (fun q1 => some ((1 : Int32), q1.2))) else ((Re_fails_50 (1 : Int32) S).bind (fun q2 => if pBool 1 q2.1 = true then some (q2.1, q2.2) else none)) := by
  show Res PT GX (rkT 81) 81 (cd81, [.ref 50, .int a1], [], S) = _
  refine (R_blk PT GX (k := 81) (code := cd81) rfl [] 400 _).trans ?_
  refine br_cong ?_ ?_
  · refine (R_cx PT GX hRk PT_79 rfl rfl rfl rfl rfl).trans ?_
    refine bind_cong (fun q1 => ?_)
    refine (R_blk PT GX (k := 81) (code := cd81) rfl [] 400 _).trans ?_
    exact R_retI PT GX rfl rfl
  · refine (R_cx PT GX hRk PT_80 rfl rfl rfl rfl rfl).trans ?_
    refine bind_cong (fun q2 => ?_)
    refine (R_blk PT GX (k := 81) (code := cd81) rfl [] 400 _).trans ?_
    exact R_ret PT GX rfl
set_option maxRecDepth 20000 in
theorem Re_sum_50_eq (S : pS) : Re_sum_50 S = (Re_unit_50 (0 : Int32) S).bind (fun q1 => if q1.1 = 0 then (some ((0 : Int32), q1.2)) else (Re_sum_50_c14 (1 : Int32) (0 : Int32) q1.2)) := by
  show Res PT GX (rkT 90) 90 (cd90, [.ref 50, .null, .null, .null, .null], [], S) = _
  refine (R_blk PT GX (k := 90) (code := cd90) rfl [14, 53, 67, 83, 110] 400 _).trans ?_
  refine (R_cx PT GX hRk PT_93 rfl rfl rfl rfl rfl).trans ?_
  refine bind_cong (fun q1 => ?_)
  refine (R_blk PT GX (k := 90) (code := cd90) rfl [14, 53, 67, 83, 110] 400 _).trans ?_
  refine br_cong ?_ ?_
  · exact R_retI PT GX rfl rfl
  · rfl
set_option maxRecDepth 20000 in
theorem Re_sum_50_c14_eq (l1 : Int32) (l2 : Int32) (S : pS) : Re_sum_50_c14 l1 l2 S = if l2 < (400 : Int32) then ((Re_isJoint (rF S 50 7) S).bind (fun q2 => if q2.1 = 0 then (Re_sum_50_c110 l1 q2.2) else (if (rF q2.2 50 7) = (43 : Int32) then (Re_sum_50_c53 l1 l2 (rF q2.2 50 7) (1 : Int32) q2.2) else (if (rF q2.2 50 7) = (45 : Int32) then (Re_sum_50_c53 l1 l2 (rF q2.2 50 7) (1 : Int32) q2.2) else (Re_sum_50_c53 l1 l2 (rF q2.2 50 7) (0 : Int32) q2.2))))) else (Re_sum_50_c110 l1 S) := by
  show Res PT GX (rkT 90) 90 (pCut cd90 14, [.ref 50, .int l1, .int l2, .null, .null], [], S) = _
  refine (R_reg PT GX (k := 90) (code := cd90) rfl [14, 53, 67, 83, 110] 400).trans ?_
  refine br_cong ?_ ?_
  · refine (R_cx PT GX hRk PT_91 rfl rfl rfl rfl rfl).trans ?_
    refine bind_cong (fun q2 => ?_)
    refine (R_blk PT GX (k := 90) (code := cd90) rfl [14, 53, 67, 83, 110] 400 _).trans ?_
    refine br_cong ?_ ?_
    · rfl
    · refine br_cong ?_ ?_
      · rfl
      · refine br_cong ?_ ?_
        · rfl
        · rfl
  · rfl
set_option maxRecDepth 20000 in
theorem Re_sum_50_c110_eq (l1 : Int32) (S : pS) : Re_sum_50_c110 l1 S = (Re_addIfSign_50 l1 S).bind (fun q3 => some ((1 : Int32), q3.2)) := by
  show Res PT GX (rkT 90) 90 (pCut cd90 110, [.ref 50, .int l1, .null, .null, .null], [], S) = _
  refine (R_reg PT GX (k := 90) (code := cd90) rfl [14, 53, 67, 83, 110] 400).trans ?_
  refine (R_cx PT GX hRk PT_92 rfl rfl rfl rfl rfl).trans ?_
  refine bind_cong (fun q3 => ?_)
  refine (R_blk PT GX (k := 90) (code := cd90) rfl [14, 53, 67, 83, 110] 400 _).trans ?_
  exact R_retI PT GX rfl rfl
set_option maxRecDepth 20000 in
theorem Re_sum_50_c53_eq (l1 : Int32) (l2 : Int32) (l3 : Int32) (s0 : Int32) (S : pS) : Re_sum_50_c53 l1 l2 l3 s0 S = if s0 = 0 then (Re_sum_50_c67 l1 l2 l3 s0 S) else ((Re_addIfSign_50 l1 S).bind (fun q4 => Re_sum_50_c67 l3 l2 l3 s0 q4.2)) := by
  show Res PT GX (rkT 90) 90 (pCut cd90 53, [.ref 50, .int l1, .int l2, .int l3, .null], [.int s0], S) = _
  refine (R_reg PT GX (k := 90) (code := cd90) rfl [14, 53, 67, 83, 110] 400).trans ?_
  refine br_cong ?_ ?_
  · rfl
  · refine (R_cx PT GX hRk PT_92 rfl rfl rfl rfl rfl).trans ?_
    refine bind_cong (fun q4 => ?_)
    exact (R_blk PT GX (k := 90) (code := cd90) rfl [14, 53, 67, 83, 110] 400 _).trans rfl
set_option maxRecDepth 20000 in
theorem Re_sum_50_c67_eq (l1 : Int32) (l2 : Int32) (l3 : Int32) (l4 : Int32) (S : pS) : Re_sum_50_c67 l1 l2 l3 l4 S = (Re_advance_50 S).bind (fun q5 => if l3 = (47 : Int32) then (Re_sum_50_c83 l1 l2 l3 l4 (1 : Int32) q5.2) else (Re_sum_50_c83 l1 l2 l3 l4 (0 : Int32) q5.2)) := by
  show Res PT GX (rkT 90) 90 (pCut cd90 67, [.ref 50, .int l1, .int l2, .int l3, .int l4], [], S) = _
  refine (R_reg PT GX (k := 90) (code := cd90) rfl [14, 53, 67, 83, 110] 400).trans ?_
  refine (R_cx PT GX hRk PT_79 rfl rfl rfl rfl rfl).trans ?_
  refine bind_cong (fun q5 => ?_)
  refine (R_blk PT GX (k := 90) (code := cd90) rfl [14, 53, 67, 83, 110] 400 _).trans ?_
  refine br_cong ?_ ?_
  · rfl
  · rfl
set_option maxRecDepth 20000 in
theorem Re_sum_50_c83_eq (l1 : Int32) (l2 : Int32) (l3 : Int32) (l4 : Int32) (s0 : Int32) (S : pS) : Re_sum_50_c83 l1 l2 l3 l4 s0 S = (Re_unit_50 s0 S).bind (fun q6 => if q6.1 = 0 then (some ((0 : Int32), q6.2)) else (if l4 = 0 then ((La_add_51 l3 q6.2).bind (fun q7 => Re_sum_50_c14 l1 (l2 + (1 : Int32)) q7.2)) else (Re_sum_50_c14 l1 (l2 + (1 : Int32)) q6.2))) := by
  show Res PT GX (rkT 90) 90 (pCut cd90 83, [.ref 50, .int l1, .int l2, .int l3, .int l4], [.int s0, .ref 50], S) = _
  refine (R_reg PT GX (k := 90) (code := cd90) rfl [14, 53, 67, 83, 110] 400).trans ?_
  refine (R_cx PT GX hRk PT_93 rfl rfl rfl rfl rfl).trans ?_
  refine bind_cong (fun q6 => ?_)
  refine (R_blk PT GX (k := 90) (code := cd90) rfl [14, 53, 67, 83, 110] 400 _).trans ?_
  refine br_cong ?_ ?_
  · exact R_retI PT GX rfl rfl
  · refine br_cong ?_ ?_
    · refine (R_cx PT GX hRk PT_70 rfl rfl rfl rfl rfl).trans ?_
      refine bind_cong (fun q7 => ?_)
      exact (R_blk PT GX (k := 90) (code := cd90) rfl [14, 53, 67, 83, 110] 400 _).trans rfl
    · rfl
set_option maxRecDepth 20000 in
theorem Re_either_50_eq (d : Nat) (hd : 100 ≤ d) (a1 : Int32) (S : pS) : Re_either_50 (d + 1) a1 S = (Re_condition_50 d a1 S).bind (fun q1 => if q1.1 = 0 then (some ((0 : Int32), q1.2)) else (Re_either_50_c14 (d + 1) a1 (0 : Int32) (0 : Int32) q1.2)) := by
  show Res PT GX (d + 1) 88 (cd88, [.ref 50, .int a1, .null, .null, .null], [], S) = _
  refine (R_blk PT GX (k := 88) (code := cd88) rfl [14, 41, 69, 83, 123] 400 _).trans ?_
  refine (R_cd PT GX PT_89 rfl rfl rfl rfl).trans ?_
  refine bind_cong (fun q1 => ?_)
  refine (R_blk PT GX (k := 88) (code := cd88) rfl [14, 41, 69, 83, 123] 400 _).trans ?_
  refine br_cong ?_ ?_
  · exact R_retI PT GX rfl rfl
  · rfl
set_option maxRecDepth 20000 in
theorem Re_either_50_c14_eq (d : Nat) (hd : 100 ≤ d) (l1 : Int32) (l2 : Int32) (l3 : Int32) (S : pS) : Re_either_50_c14 (d + 1) l1 l2 l3 S = if l3 < (400 : Int32) then (if (rF S 50 7) = (305 : Int32) then (Re_either_50_c41 (d + 1) l1 l2 l3 S) else (if (rF S 50 7) = (304 : Int32) then (Re_either_50_c41 (d + 1) l1 l2 l3 S) else (Re_either_50_c123 (d + 1) l2 S))) else (Re_either_50_c123 (d + 1) l2 S) := by
  show Res PT GX (d + 1) 88 (pCut cd88 14, [.ref 50, .int l1, .int l2, .int l3, .null], [], S) = _
  refine (R_reg PT GX (k := 88) (code := cd88) rfl [14, 41, 69, 83, 123] 400).trans ?_
  refine br_cong ?_ ?_
  · refine br_cong ?_ ?_
    · rfl
    · refine br_cong ?_ ?_
      · rfl
      · rfl
  · rfl
set_option maxRecDepth 20000 in
theorem Re_either_50_c41_eq (d : Nat) (hd : 100 ≤ d) (l1 : Int32) (l2 : Int32) (l3 : Int32) (S : pS) : Re_either_50_c41 (d + 1) l1 l2 l3 S = if (rF S 50 7) = (304 : Int32) then (if l2 = 0 then (Re_either_50_c69 (d + 1) l1 l2 l3 (rF S 50 7) S) else ((La_add_51 (304 : Int32) S).bind (fun q2 => Re_either_50_c69 (d + 1) l1 l2 l3 (rF S 50 7) q2.2))) else (Re_either_50_c69 (d + 1) l1 l2 l3 (rF S 50 7) S) := by
  show Res PT GX (d + 1) 88 (pCut cd88 41, [.ref 50, .int l1, .int l2, .int l3, .null], [], S) = _
  refine (R_reg PT GX (k := 88) (code := cd88) rfl [14, 41, 69, 83, 123] 400).trans ?_
  refine br_cong ?_ ?_
  · refine br_cong ?_ ?_
    · rfl
    · refine (R_cx PT GX hRk PT_70 rfl (dk_ok (by show 1 ≤ d; omega) rfl) rfl rfl rfl).trans ?_
      refine bind_cong (fun q2 => ?_)
      exact (R_blk PT GX (k := 88) (code := cd88) rfl [14, 41, 69, 83, 123] 400 _).trans rfl
  · rfl
set_option maxRecDepth 20000 in
theorem Re_either_50_c123_eq (d : Nat) (hd : 100 ≤ d) (l2 : Int32) (S : pS) : Re_either_50_c123 (d + 1) l2 S = if l2 = 0 then (some ((1 : Int32), S)) else ((La_add_51 (304 : Int32) S).bind (fun q3 => some ((1 : Int32), q3.2))) := by
  show Res PT GX (d + 1) 88 (pCut cd88 123, [.ref 50, .null, .int l2, .null, .null], [], S) = _
  refine (R_reg PT GX (k := 88) (code := cd88) rfl [14, 41, 69, 83, 123] 400).trans ?_
  refine br_cong ?_ ?_
  · exact R_retI PT GX rfl rfl
  · refine (R_cx PT GX hRk PT_70 rfl (dk_ok (by show 1 ≤ d; omega) rfl) rfl rfl rfl).trans ?_
    refine bind_cong (fun q3 => ?_)
    refine (R_blk PT GX (k := 88) (code := cd88) rfl [14, 41, 69, 83, 123] 400 _).trans ?_
    exact R_retI PT GX rfl rfl
set_option maxRecDepth 20000 in
theorem Re_either_50_c69_eq (d : Nat) (hd : 100 ≤ d) (l1 : Int32) (l2 : Int32) (l3 : Int32) (l4 : Int32) (S : pS) : Re_either_50_c69 (d + 1) l1 l2 l3 l4 S = if l4 = (304 : Int32) then (Re_either_50_c83 (d + 1) l1 l3 l4 (1 : Int32) l2 S) else (Re_either_50_c83 (d + 1) l1 l3 l4 (0 : Int32) l2 S) := by
  show Res PT GX (d + 1) 88 (pCut cd88 69, [.ref 50, .int l1, .int l2, .int l3, .int l4], [], S) = _
  refine (R_reg PT GX (k := 88) (code := cd88) rfl [14, 41, 69, 83, 123] 400).trans ?_
  refine br_cong ?_ ?_
  · rfl
  · rfl
set_option maxRecDepth 20000 in
theorem Re_either_50_c83_eq (d : Nat) (hd : 100 ≤ d) (l1 : Int32) (l3 : Int32) (l4 : Int32) (s0 : Int32) (s1 : Int32) (S : pS) : Re_either_50_c83 (d + 1) l1 l3 l4 s0 s1 S = (Re_advance_50 S).bind (fun q4 => (Re_condition_50 d l1 q4.2).bind (fun q5 => if q5.1 = 0 then (some ((0 : Int32), q5.2)) else (if l4 = (305 : Int32) then ((La_add_51 (305 : Int32) q5.2).bind (fun q6 => Re_either_50_c14 (d + 1) l1 (s1 ||| s0) (l3 + (1 : Int32)) q6.2)) else (Re_either_50_c14 (d + 1) l1 (s1 ||| s0) (l3 + (1 : Int32)) q5.2)))) := by
  show Res PT GX (d + 1) 88 (pCut cd88 83, [.ref 50, .int l1, .null, .int l3, .int l4], [.int s0, .int s1], S) = _
  refine (R_reg PT GX (k := 88) (code := cd88) rfl [14, 41, 69, 83, 123] 400).trans ?_
  refine (R_cx PT GX hRk PT_79 rfl (dk_ok (by show 1 ≤ d; omega) rfl) rfl rfl rfl).trans ?_
  refine bind_cong (fun q4 => ?_)
  refine (R_blk PT GX (k := 88) (code := cd88) rfl [14, 41, 69, 83, 123] 400 _).trans ?_
  refine (R_cd PT GX PT_89 rfl rfl rfl rfl).trans ?_
  refine bind_cong (fun q5 => ?_)
  refine (R_blk PT GX (k := 88) (code := cd88) rfl [14, 41, 69, 83, 123] 400 _).trans ?_
  refine br_cong ?_ ?_
  · exact R_retI PT GX rfl rfl
  · refine br_cong ?_ ?_
    · refine (R_cx PT GX hRk PT_70 rfl (dk_ok (by show 1 ≤ d; omega) rfl) rfl rfl rfl).trans ?_
      refine bind_cong (fun q6 => ?_)
      exact (R_blk PT GX (k := 88) (code := cd88) rfl [14, 41, 69, 83, 123] 400 _).trans rfl
    · rfl
set_option maxRecDepth 20000 in
theorem La_addLine_51_eq (a1 : Int32) (a2 : Int32) (a3 : Int32) (S : pS) : La_addLine_51 a1 a2 a3 S = if (rF S 51 8) < (16 : Int32) then (if inb (rF S 51 8) 16 = true then (if inb (rF S 51 8) 16 = true then (if inb (rF S 51 8) 16 = true then (if inb (rF S 51 8) 16 = true then (some (0, (wF (wA (wA (wA (wA S 53 (rF S 51 8) a1) 54 (rF S 51 8) a2) 55 (rF S 51 8) a3) 56 (rF S 51 8) (rF S 51 7)) 51 8 ((rF S 51 8) + (1 : Int32))))) else (none)) else (none)) else (none)) else (none)) else (some (0, S)) := by
  show Res PT GX (rkT 71) 71 (cd71, [.ref 51, .int a1, .int a2, .int a3], [], S) = _
  refine (R_blk PT GX (k := 71) (code := cd71) rfl [] 400 _).trans ?_
  refine br_cong ?_ ?_
  · refine br_cong ?_ ?_
    · refine br_cong ?_ ?_
      · refine br_cong ?_ ?_
        · refine br_cong ?_ ?_
          · refine brT (Or.inl rfl) ?_
            exact R_retV PT GX rfl
          · rfl
        · rfl
      · rfl
    · rfl
  · exact R_retV PT GX rfl
set_option maxRecDepth 20000 in
theorem Ro_at_59_eq (a1 : Int32) (a2 : Int32) (S : pS) : Ro_at_59 a1 a2 S = if a1 < 0 then (some ((-1 : Int32), S)) else (if a1 < (rF S 59 2) then ((C_within a2 (4 : Int32) S).bind (fun q1 => if q1.1 = 0 then (some ((-1 : Int32), q1.2)) else (if inb ((a1 * (4 : Int32)) + a2) 64 = true then (some ((rA q1.2 60 ((a1 * (4 : Int32)) + a2)), q1.2)) else (none)))) else (some ((-1 : Int32), S))) := by
  show Res PT GX (rkT 97) 97 (cd97, [.ref 59, .int a1, .int a2], [], S) = _
  refine (R_blk PT GX (k := 97) (code := cd97) rfl [] 400 _).trans ?_
  refine br_cong ?_ ?_
  · exact R_retI PT GX rfl rfl
  · refine br_cong ?_ ?_
    · refine (R_cx PT GX hRk PT_156 rfl rfl rfl rfl rfl).trans ?_
      refine bind_cong (fun q1 => ?_)
      refine (R_blk PT GX (k := 97) (code := cd97) rfl [] 400 _).trans ?_
      refine br_cong ?_ ?_
      · exact R_retI PT GX rfl rfl
      · refine br_cong ?_ ?_
        · exact R_retI PT GX rfl rfl
        · rfl
    · exact R_retI PT GX rfl rfl
set_option maxRecDepth 20000 in
theorem La_joined_eq (a0 : Int32) (a1 : Int32) (a2 : Int32) (S : pS) : La_joined a0 a1 a2 S = if a0 = (42 : Int32) then (some ((a1 * a2), S)) else (if a0 = (43 : Int32) then (some ((a1 + a2), S)) else (if a0 = (45 : Int32) then (some ((a1 - a2), S)) else (if a0 = (47 : Int32) then (if a2 = 0 then (some ((0 : Int32), S)) else (if a2 = 0 then (none) else (some ((a1 / a2), S)))) else (if a0 = (60 : Int32) then (if a1 < a2 then (some ((1 : Int32), S)) else (some ((0 : Int32), S))) else (if a0 = (61 : Int32) then (if a1 = a2 then (some ((1 : Int32), S)) else (some ((0 : Int32), S))) else (if a0 = (62 : Int32) then (if a1 ≤ a2 then (some ((0 : Int32), S)) else (some ((1 : Int32), S))) else (if a0 = (305 : Int32) then (some ((a1 &&& a2), S)) else (some ((a1 ||| a2), S))))))))) := by
  show Res PT GX (rkT 76) 76 (cd76, [.int a0, .int a1, .int a2], [], S) = _
  refine (R_blk PT GX (k := 76) (code := cd76) rfl [] 400 _).trans ?_
  refine br_cong ?_ ?_
  · exact R_retI PT GX rfl rfl
  · refine br_cong ?_ ?_
    · exact R_retI PT GX rfl rfl
    · refine br_cong ?_ ?_
      · exact R_retI PT GX rfl rfl
      · refine br_cong ?_ ?_
        · refine br_cong ?_ ?_
          · exact R_retI PT GX rfl rfl
          · refine br_cong ?_ ?_
            · rfl
            · exact R_retI PT GX rfl rfl
        · refine br_cong ?_ ?_
          · refine br_cong ?_ ?_
            · exact R_retI PT GX rfl rfl
            · exact R_retI PT GX rfl rfl
          · refine br_cong ?_ ?_
            · refine br_cong ?_ ?_
              · exact R_retI PT GX rfl rfl
              · exact R_retI PT GX rfl rfl
            · refine br_cong ?_ ?_
              · refine br_cong ?_ ?_
                · exact R_retI PT GX rfl rfl
                · exact R_retI PT GX rfl rfl
              · refine br_cong ?_ ?_
                · exact R_retI PT GX rfl rfl
                · exact R_retI PT GX rfl rfl
set_option maxRecDepth 20000 in
theorem Ke_throwCards_28_eq (a1 : Int32) (S : pS) : Ke_throwCards_28 a1 S = Ke_throwCards_28_c4 a1 (0 : Int32) (0 : Int32) S := by
  show Res PT GX (rkT 59) 59 (cd59, [.ref 28, .int a1, .null, .null], [], S) = _
  exact (R_blk PT GX (k := 59) (code := cd59) rfl [4] 400 _).trans rfl
set_option maxRecDepth 20000 in
theorem Ke_throwCards_28_c4_eq (l1 : Int32) (l2 : Int32) (l3 : Int32) (S : pS) : Ke_throwCards_28_c4 l1 l2 l3 S = if l3 < l1 then ((Ke_throwLeast_28 S).bind (fun q1 => if q1.1 = 0 then (some (l2, q1.2)) else (Ke_throwCards_28_c4 l1 (l2 + (1 : Int32)) (l3 + (1 : Int32)) q1.2))) else (some (l2, S)) := by
  show Res PT GX (rkT 59) 59 (pCut cd59 4, [.ref 28, .int l1, .int l2, .int l3], [], S) = _
  refine (R_reg PT GX (k := 59) (code := cd59) rfl [4] 400).trans ?_
  refine br_cong ?_ ?_
  · refine (R_cx PT GX hRk PT_60 rfl rfl rfl rfl rfl).trans ?_
    refine bind_cong (fun q1 => ?_)
    refine (R_blk PT GX (k := 59) (code := cd59) rfl [4] 400 _).trans ?_
    refine br_cong ?_ ?_
    · exact R_retI PT GX rfl rfl
    · rfl
  · exact R_retI PT GX rfl rfl
set_option maxRecDepth 20000 in
theorem Ke_ringPerson_28_eq (a1 : Int32) (S : pS) : Ke_ringPerson_28 a1 S = (Dr_keptWith_26 (0 : Int32) a1 S).bind (fun q1 => (Ke_likeliest_28 q1.1 q1.2).bind (fun q2 => if q2.1 = (-1 : Int32) then (some ((-1 : Int32), q2.2)) else ((Ke_reaches_28 q2.1 q2.2).bind (fun q3 => if q3.1 = 0 then (Ke_ringPerson_28_c37 q2.1 q3.1 (1 : Int32) q3.2) else (Ke_ringPerson_28_c37 q2.1 q3.1 (0 : Int32) q3.2))))) := by
  show Res PT GX (rkT 58) 58 (cd58, [.ref 28, .int a1, .null, .null], [], S) = _
  refine (R_blk PT GX (k := 58) (code := cd58) rfl [37] 400 _).trans ?_
  refine (R_cx PT GX hRk PT_45 rfl rfl rfl rfl rfl).trans ?_
  refine bind_cong (fun q1 => ?_)
  refine (R_blk PT GX (k := 58) (code := cd58) rfl [37] 400 _).trans ?_
  refine (R_cx PT GX hRk PT_55 rfl rfl rfl rfl rfl).trans ?_
  refine bind_cong (fun q2 => ?_)
  refine (R_blk PT GX (k := 58) (code := cd58) rfl [37] 400 _).trans ?_
  refine br_cong ?_ ?_
  · exact R_retI PT GX rfl rfl
  · refine (R_cx PT GX hRk PT_57 rfl rfl rfl rfl rfl).trans ?_
    refine bind_cong (fun q3 => ?_)
    refine (R_blk PT GX (k := 58) (code := cd58) rfl [37] 400 _).trans ?_
    refine br_cong ?_ ?_
    · rfl
    · rfl
set_option maxRecDepth 20000 in
theorem Ke_ringPerson_28_c37_eq (l2 : Int32) (l3 : Int32) (s0 : Int32) (S : pS) : Ke_ringPerson_28_c37 l2 l3 s0 S = (Ke_enter_28 s0 l2 (rF S 28 4) S).bind (fun q4 => if l3 = 0 then ((Dr_wear_26 l2 (9 : Int32) q4.2).bind (fun q5 => some ((0 : Int32), q5.2))) else ((Dr_write_26 l2 (3 : Int32) (rF q4.2 26 3) q4.2).bind (fun q6 => some ((1 : Int32), q6.2)))) := by
  show Res PT GX (rkT 58) 58 (pCut cd58 37, [.ref 28, .null, .int l2, .int l3], [.int s0, .ref 28], S) = _
  refine (R_reg PT GX (k := 58) (code := cd58) rfl [37] 400).trans ?_
  refine (R_cx PT GX hRk PT_54 rfl rfl rfl rfl rfl).trans ?_
  refine bind_cong (fun q4 => ?_)
  refine (R_blk PT GX (k := 58) (code := cd58) rfl [37] 400 _).trans ?_
  refine br_cong ?_ ?_
  · refine (R_cx PT GX hRk PT_44 rfl rfl rfl rfl rfl).trans ?_
    refine bind_cong (fun q5 => ?_)
    refine (R_blk PT GX (k := 58) (code := cd58) rfl [37] 400 _).trans ?_
    exact R_retI PT GX rfl rfl
  · refine (R_cx PT GX hRk PT_41 rfl rfl rfl rfl rfl).trans ?_
    refine bind_cong (fun q6 => ?_)
    refine (R_blk PT GX (k := 58) (code := cd58) rfl [37] 400 _).trans ?_
    exact R_retI PT GX rfl rfl
set_option maxRecDepth 20000 in
theorem Dr_has_26_eq (a1 : Int32) (S : pS) : Dr_has_26 a1 S = if a1 < 0 then (some ((0 : Int32), S)) else (if a1 < (rF S 26 1) then (some ((1 : Int32), S)) else (some ((0 : Int32), S))) := by
  show Res PT GX (rkT 38) 38 (cd38, [.ref 26, .int a1], [], S) = _
  refine (R_blk PT GX (k := 38) (code := cd38) rfl [] 400 _).trans ?_
  refine br_cong ?_ ?_
  · exact R_retI PT GX rfl rfl
  · refine br_cong ?_ ?_
    · exact R_retI PT GX rfl rfl
    · exact R_retI PT GX rfl rfl
set_option maxRecDepth 20000 in
theorem Ke_bendCard_28_eq (a1 : Int32) (S : pS) : Ke_bendCard_28 a1 S = (Dr_read_26 a1 (4 : Int32) S).bind (fun q1 => (Dr_write_26 a1 (4 : Int32) ((1 : Int32) - q1.1) q1.2).bind (fun q2 => (Ke_enter_28 (3 : Int32) a1 ((1 : Int32) - q1.1) q2.2).bind (fun q3 => some (0, q3.2)))) := by
  show Res PT GX (rkT 61) 61 (cd61, [.ref 28, .int a1, .null], [], S) = _
  refine (R_blk PT GX (k := 61) (code := cd61) rfl [] 400 _).trans ?_
  refine (R_cx PT GX hRk PT_40 rfl rfl rfl rfl rfl).trans ?_
  refine bind_cong (fun q1 => ?_)
  refine (R_blk PT GX (k := 61) (code := cd61) rfl [] 400 _).trans ?_
  refine (R_cx PT GX hRk PT_41 rfl rfl rfl rfl rfl).trans ?_
  refine bind_cong (fun q2 => ?_)
  refine (R_blk PT GX (k := 61) (code := cd61) rfl [] 400 _).trans ?_
  refine (R_cx PT GX hRk PT_54 rfl rfl rfl rfl rfl).trans ?_
  refine bind_cong (fun q3 => ?_)
  refine (R_blk PT GX (k := 61) (code := cd61) rfl [] 400 _).trans ?_
  exact R_retV PT GX rfl
set_option maxRecDepth 20000 in
theorem Ke_findCard_28_eq (a1 : Int32) (S : pS) : Ke_findCard_28 a1 S = (Dr_isKept_26 a1 S).bind (fun q1 => if q1.1 = 0 then ((Dr_write_26 a1 (5 : Int32) (0 : Int32) (wF q1.2 26 2 ((rF q1.2 26 2) ||| ((1 : Int32) <<< (a1 &&& 31))))).bind (fun q2 => (Ke_enter_28 (4 : Int32) a1 (0 : Int32) q2.2).bind (fun q3 => some (0, q3.2)))) else (some (0, q1.2))) := by
  show Res PT GX (rkT 62) 62 (cd62, [.ref 28, .int a1], [], S) = _
  refine (R_blk PT GX (k := 62) (code := cd62) rfl [] 400 _).trans ?_
  refine (R_cx PT GX hRk PT_39 rfl rfl rfl rfl rfl).trans ?_
  refine bind_cong (fun q1 => ?_)
  refine (R_blk PT GX (k := 62) (code := cd62) rfl [] 400 _).trans ?_
  refine br_cong ?_ ?_
  · refine brT (Or.inl rfl) ?_
    refine (R_cx PT GX hRk PT_41 rfl rfl rfl rfl rfl).trans ?_
    refine bind_cong (fun q2 => ?_)
    refine (R_blk PT GX (k := 62) (code := cd62) rfl [] 400 _).trans ?_
    refine (R_cx PT GX hRk PT_54 rfl rfl rfl rfl rfl).trans ?_
    refine bind_cong (fun q3 => ?_)
    refine (R_blk PT GX (k := 62) (code := cd62) rfl [] 400 _).trans ?_
    exact R_retV PT GX rfl
  · exact R_retV PT GX rfl
set_option maxRecDepth 20000 in
theorem Dr_draw_26_eq (a1 : Int32) (S : pS) : Dr_draw_26 a1 S = if a1 ≤ 0 then (some ((0 : Int32), (wF S 26 7 (((rF S 26 7) * (1664525 : Int32)) + (1013904223 : Int32))))) else (if a1 = 0 then (none) else (some (((((((rF S 26 7) * (1664525 : Int32)) + (1013904223 : Int32))).toUInt32 >>> (((8 : Int32)).toUInt32 &&& Int32.toUInt32 31)).toInt32 - (((((rF S 26 7) * (1664525 : Int32)) + (1013904223 : Int32))).toUInt32 >>> (((8 : Int32)).toUInt32 &&& Int32.toUInt32 31)).toInt32 / a1 * a1), (wF S 26 7 (((rF S 26 7) * (1664525 : Int32)) + (1013904223 : Int32)))))) := by
  show Res PT GX (rkT 47) 47 (cd47, [.ref 26, .int a1], [], S) = _
  refine (R_blk PT GX (k := 47) (code := cd47) rfl [] 400 _).trans ?_
  refine brT (Or.inl rfl) ?_
  refine br_cong ?_ ?_
  · exact R_retI PT GX rfl rfl
  · refine br_cong ?_ ?_
    · rfl
    · exact R_retI PT GX rfl rfl
set_option maxRecDepth 20000 in
theorem Dr_keptWith_26_eq (a1 : Int32) (a2 : Int32) (S : pS) : Dr_keptWith_26 a1 a2 S = Dr_keptWith_26_c5 a1 a2 (0 : Int32) (0 : Int32) S := by
  show Res PT GX (rkT 45) 45 (cd45, [.ref 26, .int a1, .int a2, .null, .null], [], S) = _
  exact (R_blk PT GX (k := 45) (code := cd45) rfl [5] 400 _).trans rfl
set_option maxRecDepth 20000 in
theorem Dr_keptWith_26_c5_eq (l1 : Int32) (l2 : Int32) (l3 : Int32) (l4 : Int32) (S : pS) : Dr_keptWith_26_c5 l1 l2 l3 l4 S = if l4 < (rF S 26 1) then ((Dr_isKept_26 l4 S).bind (fun q1 => if q1.1 = 0 then (Dr_keptWith_26_c5 l1 l2 l3 (l4 + (1 : Int32)) q1.2) else ((Dr_read_26 l4 l1 q1.2).bind (fun q2 => if q2.1 = l2 then (Dr_keptWith_26_c5 l1 l2 (l3 ||| ((1 : Int32) <<< (l4 &&& 31))) (l4 + (1 : Int32)) q2.2) else (Dr_keptWith_26_c5 l1 l2 l3 (l4 + (1 : Int32)) q2.2))))) else (some (l3, S)) := by
  show Res PT GX (rkT 45) 45 (pCut cd45 5, [.ref 26, .int l1, .int l2, .int l3, .int l4], [], S) = _
  refine (R_reg PT GX (k := 45) (code := cd45) rfl [5] 400).trans ?_
  refine br_cong ?_ ?_
  · refine (R_cx PT GX hRk PT_39 rfl rfl rfl rfl rfl).trans ?_
    refine bind_cong (fun q1 => ?_)
    refine (R_blk PT GX (k := 45) (code := cd45) rfl [5] 400 _).trans ?_
    refine br_cong ?_ ?_
    · rfl
    · refine (R_cx PT GX hRk PT_40 rfl rfl rfl rfl rfl).trans ?_
      refine bind_cong (fun q2 => ?_)
      refine (R_blk PT GX (k := 45) (code := cd45) rfl [5] 400 _).trans ?_
      refine br_cong ?_ ?_
      · rfl
      · rfl
  · exact R_retI PT GX rfl rfl
set_option maxRecDepth 20000 in
theorem Ke_likeliest_28_eq (a1 : Int32) (S : pS) : Ke_likeliest_28 a1 S = Ke_likeliest_28_c9 a1 (-1 : Int32) (0 : Int32) (wF S 28 4 (-1 : Int32)) := by
  show Res PT GX (rkT 55) 55 (cd55, [.ref 28, .int a1, .null, .null, .null], [], S) = _
  refine (R_blk PT GX (k := 55) (code := cd55) rfl [9] 400 _).trans ?_
  refine brT (Or.inl rfl) ?_
  rfl
set_option maxRecDepth 20000 in
theorem Ke_likeliest_28_c9_eq (l1 : Int32) (l2 : Int32) (l3 : Int32) (S : pS) : Ke_likeliest_28_c9 l1 l2 l3 S = if l3 < (rF S 26 1) then ((C_holdsBit l1 l3 S).bind (fun q1 => if q1.1 = 0 then (Ke_likeliest_28_c9 l1 l2 (l3 + (1 : Int32)) q1.2) else ((La_tell_4_26 l3 (0 : Int32) q1.2).bind (fun q2 => if q2.1 ≤ (rF q2.2 28 4) then (Ke_likeliest_28_c9 l1 l2 (l3 + (1 : Int32)) q2.2) else (Ke_likeliest_28_c9 l1 l3 (l3 + (1 : Int32)) (wF q2.2 28 4 q2.1)))))) else (some (l2, S)) := by
  show Res PT GX (rkT 55) 55 (pCut cd55 9, [.ref 28, .int l1, .int l2, .int l3, .null], [], S) = _
  refine (R_reg PT GX (k := 55) (code := cd55) rfl [9] 400).trans ?_
  refine br_cong ?_ ?_
  · refine (R_cx PT GX hRk PT_157 rfl rfl rfl rfl rfl).trans ?_
    refine bind_cong (fun q1 => ?_)
    refine (R_blk PT GX (k := 55) (code := cd55) rfl [9] 400 _).trans ?_
    refine br_cong ?_ ?_
    · rfl
    · refine (R_cx PT GX hRk PT_72 rfl rfl rfl rfl rfl).trans ?_
      refine bind_cong (fun q2 => ?_)
      refine (R_blk PT GX (k := 55) (code := cd55) rfl [9] 400 _).trans ?_
      refine br_cong ?_ ?_
      · rfl
      · refine brT (Or.inl rfl) ?_
        rfl
  · exact R_retI PT GX rfl rfl
set_option maxRecDepth 20000 in
theorem Ke_enter_28_eq (a1 : Int32) (a2 : Int32) (a3 : Int32) (S : pS) : Ke_enter_28 a1 a2 a3 S = (Ro_add_29 (rF S 26 3) a1 a2 a3 S).bind (fun q1 => some (0, q1.2)) := by
  show Res PT GX (rkT 54) 54 (cd54, [.ref 28, .int a1, .int a2, .int a3], [], S) = _
  refine (R_blk PT GX (k := 54) (code := cd54) rfl [] 400 _).trans ?_
  refine (R_cx PT GX hRk PT_95 rfl rfl rfl rfl rfl).trans ?_
  refine bind_cong (fun q1 => ?_)
  refine (R_blk PT GX (k := 54) (code := cd54) rfl [] 400 _).trans ?_
  exact R_retV PT GX rfl
set_option maxRecDepth 20000 in
theorem Ke_reaches_28_eq (a1 : Int32) (S : pS) : Ke_reaches_28 a1 S = (Dr_read_26 a1 (6 : Int32) S).bind (fun q1 => (Dr_write_26 a1 (6 : Int32) (q1.1 + (1 : Int32)) q1.2).bind (fun q2 => if (rF q2.2 28 3) = 0 then ((Dr_draw_26 (1000 : Int32) q2.2).bind (fun q3 => if q3.1 < (rF q3.2 28 4) then (some ((1 : Int32), q3.2)) else (some ((0 : Int32), q3.2)))) else (if (rF q2.2 28 4) < (500 : Int32) then (some ((0 : Int32), q2.2)) else (some ((1 : Int32), q2.2))))) := by
  show Res PT GX (rkT 57) 57 (cd57, [.ref 28, .int a1], [], S) = _
  refine (R_blk PT GX (k := 57) (code := cd57) rfl [] 400 _).trans ?_
  refine (R_cx PT GX hRk PT_40 rfl rfl rfl rfl rfl).trans ?_
  refine bind_cong (fun q1 => ?_)
  refine (R_blk PT GX (k := 57) (code := cd57) rfl [] 400 _).trans ?_
  refine (R_cx PT GX hRk PT_41 rfl rfl rfl rfl rfl).trans ?_
  refine bind_cong (fun q2 => ?_)
  refine (R_blk PT GX (k := 57) (code := cd57) rfl [] 400 _).trans ?_
  refine br_cong ?_ ?_
  · refine (R_cx PT GX hRk PT_47 rfl rfl rfl rfl rfl).trans ?_
    refine bind_cong (fun q3 => ?_)
    refine (R_blk PT GX (k := 57) (code := cd57) rfl [] 400 _).trans ?_
    refine br_cong ?_ ?_
    · exact R_retI PT GX rfl rfl
    · exact R_retI PT GX rfl rfl
  · refine br_cong ?_ ?_
    · exact R_retI PT GX rfl rfl
    · exact R_retI PT GX rfl rfl
set_option maxRecDepth 20000 in
theorem Dr_read_26_eq (a1 : Int32) (a2 : Int32) (S : pS) : Dr_read_26 a1 a2 S = (C_within a1 (14 : Int32) S).bind (fun q1 => if q1.1 = 0 then (some ((-1 : Int32), q1.2)) else ((C_within a2 (7 : Int32) q1.2).bind (fun q2 => if q2.1 = 0 then (some ((-1 : Int32), q2.2)) else (if inb ((a2 * (14 : Int32)) + a1) 98 = true then (some ((rA q2.2 27 ((a2 * (14 : Int32)) + a1)), q2.2)) else (none))))) := by
  show Res PT GX (rkT 40) 40 (cd40, [.ref 26, .int a1, .int a2], [], S) = _
  refine (R_blk PT GX (k := 40) (code := cd40) rfl [] 400 _).trans ?_
  refine (R_cx PT GX hRk PT_156 rfl rfl rfl rfl rfl).trans ?_
  refine bind_cong (fun q1 => ?_)
  refine (R_blk PT GX (k := 40) (code := cd40) rfl [] 400 _).trans ?_
  refine br_cong ?_ ?_
  · exact R_retI PT GX rfl rfl
  · refine (R_cx PT GX hRk PT_156 rfl rfl rfl rfl rfl).trans ?_
    refine bind_cong (fun q2 => ?_)
    refine (R_blk PT GX (k := 40) (code := cd40) rfl [] 400 _).trans ?_
    refine br_cong ?_ ?_
    · exact R_retI PT GX rfl rfl
    · refine br_cong ?_ ?_
      · exact R_retI PT GX rfl rfl
      · rfl
set_option maxRecDepth 20000 in
theorem La_tell_4_26_eq (a2 : Int32) (a3 : Int32) (S : pS) : La_tell_4_26 a2 a3 S = La_tell_4_26_c3 a2 a3 (0 : Int32) S := by
  show Res PT GX (rkT 72) 72 (cd72, [.ref 4, .ref 26, .int a2, .int a3, .null, .null, .null, .null], [], S) = _
  exact (R_blk PT GX (k := 72) (code := cd72) rfl [3, 70, 126] 400 _).trans rfl
set_option maxRecDepth 20000 in
theorem La_tell_4_26_c3_eq (l2 : Int32) (l3 : Int32) (l4 : Int32) (S : pS) : La_tell_4_26_c3 l2 l3 l4 S = if l4 < (7 : Int32) then ((Dr_read_26 l2 l4 S).bind (fun q1 => if inb l4 9 = true then (La_tell_4_26_c3 l2 l3 (l4 + (1 : Int32)) (wA q1.2 10 l4 q1.1)) else (none))) else ((Dr_read_26 l2 (3 : Int32) S).bind (fun q2 => La_tell_4_26_c70 l3 (if (0 : Int32) < ((rF S 26 3) - q2.1) then ((rF S 26 3) - q2.1) else (0 : Int32)) (0 : Int32) (wA (wA q2.2 10 (7 : Int32) (if (0 : Int32) < ((rF S 26 3) - q2.1) then ((rF S 26 3) - q2.1) else (0 : Int32))) 10 (8 : Int32) (rF q2.2 26 3)))) := by
  show Res PT GX (rkT 72) 72 (pCut cd72 3, [.ref 4, .ref 26, .int l2, .int l3, .int l4, .null, .null, .null], [], S) = _
  refine (R_reg PT GX (k := 72) (code := cd72) rfl [3, 70, 126] 400).trans ?_
  refine br_cong ?_ ?_
  · refine (R_cx PT GX hRk PT_40 rfl rfl rfl rfl rfl).trans ?_
    refine bind_cong (fun q1 => ?_)
    refine (R_blk PT GX (k := 72) (code := cd72) rfl [3, 70, 126] 400 _).trans ?_
    refine br_cong ?_ ?_
    · rfl
    · rfl
  · refine (R_cx PT GX hRk PT_40 rfl rfl rfl rfl rfl).trans ?_
    refine bind_cong (fun q2 => ?_)
    refine (R_blk PT GX (k := 72) (code := cd72) rfl [3, 70, 126] 400 _).trans ?_
    refine brT (by decide) ?_
    refine brT (by decide) ?_
    rfl
set_option maxRecDepth 20000 in
theorem La_tell_4_26_c70_eq (l3 : Int32) (l4 : Int32) (l5 : Int32) (S : pS) : La_tell_4_26_c70 l3 l4 l5 S = if l5 < (rF S 4 8) then (if inb l5 16 = true then (if inb l5 16 = true then (if inb l5 16 = true then (if (rA S 6 l5) = l3 then (if (rA S 8 l5) = (rA S 9 l5) then (La_tell_4_26_c126 l3 l5 (rA S 8 l5) S) else ((La_run_4 (rA S 8 l5) (rA S 9 l5) S).bind (fun q3 => if q3.1 = 0 then (La_tell_4_26_c70 l3 l4 (l5 + (1 : Int32)) q3.2) else (La_tell_4_26_c126 l3 l5 (rA S 8 l5) q3.2)))) else (La_tell_4_26_c70 l3 l4 (l5 + (1 : Int32)) S)) else (none)) else (none)) else (none)) else ((La_unlessTold l3 l4 S).bind (fun q4 => (La_held l3 q4.1 q4.2).bind (fun q5 => some (q5.1, q5.2)))) := by
  show Res PT GX (rkT 72) 72 (pCut cd72 70, [.ref 4, .null, .null, .int l3, .int l4, .int l5, .null, .null], [], S) = _
  refine (R_reg PT GX (k := 72) (code := cd72) rfl [3, 70, 126] 400).trans ?_
  refine br_cong ?_ ?_
  · refine br_cong ?_ ?_
    · refine br_cong ?_ ?_
      · refine br_cong ?_ ?_
        · refine br_cong ?_ ?_
          · refine br_cong ?_ ?_
            · rfl
            · refine (R_cx PT GX hRk PT_75 rfl rfl rfl rfl rfl).trans ?_
              refine bind_cong (fun q3 => ?_)
              refine (R_blk PT GX (k := 72) (code := cd72) rfl [3, 70, 126] 400 _).trans ?_
              refine br_cong ?_ ?_
              · rfl
              · rfl
          · rfl
        · rfl
      · rfl
    · rfl
  · refine (R_cx PT GX hRk PT_73 rfl rfl rfl rfl rfl).trans ?_
    refine bind_cong (fun q4 => ?_)
    refine (R_blk PT GX (k := 72) (code := cd72) rfl [3, 70, 126] 400 _).trans ?_
    refine (R_cx PT GX hRk PT_74 rfl rfl rfl rfl rfl).trans ?_
    refine bind_cong (fun q5 => ?_)
    refine (R_blk PT GX (k := 72) (code := cd72) rfl [3, 70, 126] 400 _).trans ?_
    exact R_retI PT GX rfl rfl
set_option maxRecDepth 20000 in
theorem La_tell_4_26_c126_eq (l3 : Int32) (l5 : Int32) (l6 : Int32) (S : pS) : La_tell_4_26_c126 l3 l5 l6 S = if inb l5 16 = true then ((La_run_4 (rA S 7 l5) l6 S).bind (fun q6 => (La_held l3 q6.1 q6.2).bind (fun q7 => some (q7.1, q7.2)))) else (none) := by
  show Res PT GX (rkT 72) 72 (pCut cd72 126, [.ref 4, .null, .null, .int l3, .null, .int l5, .int l6, .null], [], S) = _
  refine (R_reg PT GX (k := 72) (code := cd72) rfl [3, 70, 126] 400).trans ?_
  refine br_cong ?_ ?_
  · refine (R_cx PT GX hRk PT_75 rfl rfl rfl rfl rfl).trans ?_
    refine bind_cong (fun q6 => ?_)
    refine (R_blk PT GX (k := 72) (code := cd72) rfl [3, 70, 126] 400 _).trans ?_
    refine (R_cx PT GX hRk PT_74 rfl rfl rfl rfl rfl).trans ?_
    refine bind_cong (fun q7 => ?_)
    refine (R_blk PT GX (k := 72) (code := cd72) rfl [3, 70, 126] 400 _).trans ?_
    exact R_retI PT GX rfl rfl
  · rfl
set_option maxRecDepth 20000 in
theorem Dr_wear_26_eq (a1 : Int32) (a2 : Int32) (S : pS) : Dr_wear_26 a1 a2 S = (Dr_read_26 a1 (5 : Int32) S).bind (fun q1 => (Dr_write_26 a1 (5 : Int32) (if (q1.1 + a2) < (99 : Int32) then (q1.1 + a2) else (99 : Int32)) q1.2).bind (fun q2 => some (0, q2.2))) := by
  show Res PT GX (rkT 44) 44 (cd44, [.ref 26, .int a1, .int a2], [], S) = _
  refine (R_blk PT GX (k := 44) (code := cd44) rfl [] 400 _).trans ?_
  refine (R_cx PT GX hRk PT_40 rfl rfl rfl rfl rfl).trans ?_
  refine bind_cong (fun q1 => ?_)
  refine (R_blk PT GX (k := 44) (code := cd44) rfl [] 400 _).trans ?_
  refine (R_cx PT GX hRk PT_41 rfl rfl rfl rfl rfl).trans ?_
  refine bind_cong (fun q2 => ?_)
  refine (R_blk PT GX (k := 44) (code := cd44) rfl [] 400 _).trans ?_
  exact R_retV PT GX rfl
set_option maxRecDepth 20000 in
theorem Dr_drop_26_eq (a1 : Int32) (S : pS) : Dr_drop_26 a1 S = some (0, (wF S 26 2 ((rF S 26 2) &&& (((1 : Int32) <<< (a1 &&& 31)) ^^^ (-1 : Int32))))) := by
  show Res PT GX (rkT 43) 43 (cd43, [.ref 26, .int a1], [], S) = _
  refine (R_blk PT GX (k := 43) (code := cd43) rfl [] 400 _).trans ?_
  refine brT (Or.inl rfl) ?_
  exact R_retV PT GX rfl
set_option maxRecDepth 20000 in
theorem Ch_questionsFor_67_eq (a1 : Int32) (S : pS) : Ch_questionsFor_67 a1 S = Ch_questionsFor_67_c4 a1 (0 : Int32) (0 : Int32) S := by
  show Res PT GX (rkT 5) 5 (cd5, [.ref 67, .int a1, .null, .null], [], S) = _
  exact (R_blk PT GX (k := 5) (code := cd5) rfl [4] 400 _).trans rfl
set_option maxRecDepth 20000 in
theorem Ch_questionsFor_67_c4_eq (l1 : Int32) (l2 : Int32) (l3 : Int32) (S : pS) : Ch_questionsFor_67_c4 l1 l2 l3 S = if l3 < (rF S 19 2) then ((Ro_at_19 l3 (0 : Int32) S).bind (fun q1 => (Dr_read_1 l1 q1.1 q1.2).bind (fun q2 => (Ro_at_19 l3 (1 : Int32) q2.2).bind (fun q3 => if q2.1 = q3.1 then (Ch_questionsFor_67_c4 l1 (l2 ||| ((1 : Int32) <<< (l3 &&& 31))) (l3 + (1 : Int32)) q3.2) else (Ch_questionsFor_67_c4 l1 l2 (l3 + (1 : Int32)) q3.2))))) else (some (l2, S)) := by
  show Res PT GX (rkT 5) 5 (pCut cd5 4, [.ref 67, .int l1, .int l2, .int l3], [], S) = _
  refine (R_reg PT GX (k := 5) (code := cd5) rfl [4] 400).trans ?_
  refine br_cong ?_ ?_
  · refine (R_cx PT GX hRk PT_97 rfl rfl rfl rfl rfl).trans ?_
    refine bind_cong (fun q1 => ?_)
    refine (R_blk PT GX (k := 5) (code := cd5) rfl [4] 400 _).trans ?_
    refine (R_cx PT GX hRk PT_40 rfl rfl rfl rfl rfl).trans ?_
    refine bind_cong (fun q2 => ?_)
    refine (R_blk PT GX (k := 5) (code := cd5) rfl [4] 400 _).trans ?_
    refine (R_cx PT GX hRk PT_97 rfl rfl rfl rfl rfl).trans ?_
    refine bind_cong (fun q3 => ?_)
    refine (R_blk PT GX (k := 5) (code := cd5) rfl [4] 400 _).trans ?_
    refine br_cong ?_ ?_
    · rfl
    · rfl
  · exact R_retI PT GX rfl rfl
set_option maxRecDepth 20000 in
theorem Ch_isLess_eq (a0 : Int32) (a1 : Int32) (S : pS) : Ch_isLess a0 a1 S = (J_bitCount a0 S).bind (fun q1 => (J_bitCount a1 q1.2).bind (fun q2 => if (q1.1 - q2.1) < 0 then (some ((1 : Int32), q2.2)) else (if (q1.1 - q2.1) = 0 then (if a0 < a1 then (some ((1 : Int32), q2.2)) else (some ((0 : Int32), q2.2))) else (some ((0 : Int32), q2.2))))) := by
  show Res PT GX (rkT 4) 4 (cd4, [.int a0, .int a1, .null], [], S) = _
  refine (R_blk PT GX (k := 4) (code := cd4) rfl [] 400 _).trans ?_
  refine (R_cx PT GX hRk PT_288 rfl rfl rfl rfl rfl).trans ?_
  refine bind_cong (fun q1 => ?_)
  refine (R_blk PT GX (k := 4) (code := cd4) rfl [] 400 _).trans ?_
  refine (R_cx PT GX hRk PT_288 rfl rfl rfl rfl rfl).trans ?_
  refine bind_cong (fun q2 => ?_)
  refine (R_blk PT GX (k := 4) (code := cd4) rfl [] 400 _).trans ?_
  refine br_cong ?_ ?_
  · exact R_retI PT GX rfl rfl
  · refine br_cong ?_ ?_
    · refine br_cong ?_ ?_
      · exact R_retI PT GX rfl rfl
      · exact R_retI PT GX rfl rfl
    · exact R_retI PT GX rfl rfl
set_option maxRecDepth 20000 in
theorem Ch_isAlike_67_eq (a1 : Int32) (a2 : Int32) (a3 : Int32) (S : pS) : Ch_isAlike_67 a1 a2 a3 S = Ch_isAlike_67_c3 a1 a2 a3 (0 : Int32) S := by
  show Res PT GX (rkT 10) 10 (cd10, [.ref 67, .int a1, .int a2, .int a3, .null], [], S) = _
  exact (R_blk PT GX (k := 10) (code := cd10) rfl [3] 400 _).trans rfl
set_option maxRecDepth 20000 in
theorem Ch_isAlike_67_c3_eq (l1 : Int32) (l2 : Int32) (l3 : Int32) (l4 : Int32) (S : pS) : Ch_isAlike_67_c3 l1 l2 l3 l4 S = if l4 < (5 : Int32) then ((C_holdsBit l3 l4 S).bind (fun q1 => if q1.1 = 0 then (Ch_isAlike_67_c3 l1 l2 l3 (l4 + (1 : Int32)) q1.2) else ((Dr_read_1 l1 l4 q1.2).bind (fun q2 => (Dr_read_1 l2 l4 q2.2).bind (fun q3 => if q2.1 = q3.1 then (Ch_isAlike_67_c3 l1 l2 l3 (l4 + (1 : Int32)) q3.2) else (some ((0 : Int32), q3.2))))))) else (some ((1 : Int32), S)) := by
  show Res PT GX (rkT 10) 10 (pCut cd10 3, [.ref 67, .int l1, .int l2, .int l3, .int l4], [], S) = _
  refine (R_reg PT GX (k := 10) (code := cd10) rfl [3] 400).trans ?_
  refine br_cong ?_ ?_
  · refine (R_cx PT GX hRk PT_157 rfl rfl rfl rfl rfl).trans ?_
    refine bind_cong (fun q1 => ?_)
    refine (R_blk PT GX (k := 10) (code := cd10) rfl [3] 400 _).trans ?_
    refine br_cong ?_ ?_
    · rfl
    · refine (R_cx PT GX hRk PT_40 rfl rfl rfl rfl rfl).trans ?_
      refine bind_cong (fun q2 => ?_)
      refine (R_blk PT GX (k := 10) (code := cd10) rfl [3] 400 _).trans ?_
      refine (R_cx PT GX hRk PT_40 rfl rfl rfl rfl rfl).trans ?_
      refine bind_cong (fun q3 => ?_)
      refine (R_blk PT GX (k := 10) (code := cd10) rfl [3] 400 _).trans ?_
      refine br_cong ?_ ?_
      · rfl
      · exact R_retI PT GX rfl rfl
  · exact R_retI PT GX rfl rfl
set_option maxRecDepth 20000 in
theorem J_indexOf2_t1_eq (a1 : Int32) (a2 : Int32) (S : pS) : J_indexOf2_t1 a1 a2 S = (J_isLatin1_t1 S).bind (fun q1 => if q1.1 = 0 then (none) else ((J_length_t1 q1.2).bind (fun q2 => (J_indexOfL_t1 a1 a2 q2.1 q2.2).bind (fun q3 => some (q3.1, q3.2))))) := by
  show Res PT GX (rkT 295) 295 (cd295, [.float (UInt32.ofNat 1), .int a1, .int a2], [], S) = _
  refine (R_blk PT GX (k := 295) (code := cd295) rfl [] 400 _).trans ?_
  refine (R_cx PT GX hRk PT_290 rfl rfl rfl rfl rfl).trans ?_
  refine bind_cong (fun q1 => ?_)
  refine (R_blk PT GX (k := 295) (code := cd295) rfl [] 400 _).trans ?_
  refine br_cong ?_ ?_
  · rfl
  · refine (R_cx PT GX hRk PT_296 rfl rfl rfl rfl rfl).trans ?_
    refine bind_cong (fun q2 => ?_)
    refine (R_blk PT GX (k := 295) (code := cd295) rfl [] 400 _).trans ?_
    refine (R_cx PT GX hRk PT_298 rfl rfl rfl rfl rfl).trans ?_
    refine bind_cong (fun q3 => ?_)
    refine (R_blk PT GX (k := 295) (code := cd295) rfl [] 400 _).trans ?_
    exact R_retI PT GX rfl rfl
set_option maxRecDepth 20000 in
theorem Ta_isWord_46_eq (a1 : Int32) (a2 : Int32) (a3 : Int32) (S : pS) : Ta_isWord_46 a1 a2 a3 S = Ta_isWord_46_c3 a1 a2 a3 (0 : Int32) S := by
  show Res PT GX (rkT 109) 109 (cd109, [.ref 46, .int a1, .int a2, .int a3, .null, .null], [], S) = _
  exact (R_blk PT GX (k := 109) (code := cd109) rfl [3, 32] 400 _).trans rfl
set_option maxRecDepth 20000 in
theorem Ta_isWord_46_c3_eq (l1 : Int32) (l2 : Int32) (l3 : Int32) (l4 : Int32) (S : pS) : Ta_isWord_46_c3 l1 l2 l3 l4 S = if l4 < (6 : Int32) then (if (l2 + l4) < l3 then (if inb (l2 + l4) 400 = true then (Ta_isWord_46_c32 l1 l2 l3 l4 (rA S 47 (l2 + l4)) S) else (none)) else (Ta_isWord_46_c32 l1 l2 l3 l4 (32 : Int32) S)) else (some ((1 : Int32), S)) := by
  show Res PT GX (rkT 109) 109 (pCut cd109 3, [.ref 46, .int l1, .int l2, .int l3, .int l4, .null], [], S) = _
  refine (R_reg PT GX (k := 109) (code := cd109) rfl [3, 32] 400).trans ?_
  refine br_cong ?_ ?_
  · refine br_cong ?_ ?_
    · refine br_cong ?_ ?_
      · rfl
      · rfl
    · rfl
  · exact R_retI PT GX rfl rfl
set_option maxRecDepth 20000 in
theorem Ta_isWord_46_c32_eq (l1 : Int32) (l2 : Int32) (l3 : Int32) (l4 : Int32) (s0 : Int32) (S : pS) : Ta_isWord_46_c32 l1 l2 l3 l4 s0 S = (J_charAt_t0 ((l1 * (6 : Int32)) + l4) S).bind (fun q1 => if q1.1 = s0 then (Ta_isWord_46_c3 l1 l2 l3 (l4 + (1 : Int32)) q1.2) else (some ((0 : Int32), q1.2))) := by
  show Res PT GX (rkT 109) 109 (pCut cd109 32, [.ref 46, .int l1, .int l2, .int l3, .int l4, .null], [.int s0], S) = _
  refine (R_reg PT GX (k := 109) (code := cd109) rfl [3, 32] 400).trans ?_
  refine (R_cx PT GX hRk PT_289 rfl rfl rfl rfl rfl).trans ?_
  refine bind_cong (fun q1 => ?_)
  refine (R_blk PT GX (k := 109) (code := cd109) rfl [3, 32] 400 _).trans ?_
  refine br_cong ?_ ?_
  · rfl
  · exact R_retI PT GX rfl rfl
set_option maxRecDepth 20000 in
theorem Re_unit_50_eq (a1 : Int32) (S : pS) : Re_unit_50 a1 S = if (rF S 50 7) < (1000 : Int32) then (Re_unit_50_c15 a1 (0 : Int32) S) else (Re_unit_50_c15 a1 (1 : Int32) S) := by
  show Res PT GX (rkT 93) 93 (cd93, [.ref 50, .int a1, .null, .null], [], S) = _
  refine (R_blk PT GX (k := 93) (code := cd93) rfl [15, 41, 60, 80] 400 _).trans ?_
  refine br_cong ?_ ?_
  · rfl
  · rfl
set_option maxRecDepth 20000 in
theorem Re_unit_50_c15_eq (l1 : Int32) (s0 : Int32) (S : pS) : Re_unit_50_c15 l1 s0 S = if (rF S 50 7) < (307 : Int32) then (Re_unit_50_c41 l1 s0 (0 : Int32) S) else (if (rF S 50 7) ≤ (315 : Int32) then (Re_unit_50_c41 l1 s0 (1 : Int32) S) else (Re_unit_50_c41 l1 s0 (0 : Int32) S)) := by
  show Res PT GX (rkT 93) 93 (pCut cd93 15, [.ref 50, .int l1, .null, .null], [.int s0], S) = _
  refine (R_reg PT GX (k := 93) (code := cd93) rfl [15, 41, 60, 80] 400).trans ?_
  refine br_cong ?_ ?_
  · rfl
  · refine br_cong ?_ ?_
    · rfl
    · rfl
set_option maxRecDepth 20000 in
theorem Re_unit_50_c41_eq (l1 : Int32) (l2 : Int32) (s0 : Int32) (S : pS) : Re_unit_50_c41 l1 l2 s0 S = if l2 = 0 then (if l1 = 0 then (if s0 = 0 then ((Re_fails_50 (1 : Int32) S).bind (fun q1 => if pBool 1 q1.1 = true then some (q1.1, q1.2) else none)) else (Re_unit_50_c60 l1 S)) else ((Re_fails_50 (1 : Int32) S).bind (fun q2 => if pBool 1 q2.1 = true then some (q2.1, q2.2) else none))) else (Re_unit_50_c60 l1 S) := by
  show Res PT GX (rkT 93) 93 (pCut cd93 41, [.ref 50, .int l1, .int l2, .null], [.int s0], S) = _
  refine (R_reg PT GX (k := 93) (code := cd93) rfl [15, 41, 60, 80] 400).trans ?_
  refine br_cong ?_ ?_
  · refine br_cong ?_ ?_
    · refine br_cong ?_ ?_
      · refine (R_cx PT GX hRk PT_80 rfl rfl rfl rfl rfl).trans ?_
        refine bind_cong (fun q1 => ?_)
        refine (R_blk PT GX (k := 93) (code := cd93) rfl [15, 41, 60, 80] 400 _).trans ?_
        exact R_ret PT GX rfl
      · rfl
    · refine (R_cx PT GX hRk PT_80 rfl rfl rfl rfl rfl).trans ?_
      refine bind_cong (fun q2 => ?_)
      refine (R_blk PT GX (k := 93) (code := cd93) rfl [15, 41, 60, 80] 400 _).trans ?_
      exact R_ret PT GX rfl
  · rfl
set_option maxRecDepth 20000 in
theorem Re_unit_50_c60_eq (l1 : Int32) (S : pS) : Re_unit_50_c60 l1 S = if l1 = 0 then (Re_unit_50_c80 S) else (if (rF S 50 7) = (1000 : Int32) then ((Re_fails_50 (2 : Int32) S).bind (fun q3 => if pBool 1 q3.1 = true then some (q3.1, q3.2) else none)) else (Re_unit_50_c80 S)) := by
  show Res PT GX (rkT 93) 93 (pCut cd93 60, [.ref 50, .int l1, .null, .null], [], S) = _
  refine (R_reg PT GX (k := 93) (code := cd93) rfl [15, 41, 60, 80] 400).trans ?_
  refine br_cong ?_ ?_
  · rfl
  · refine br_cong ?_ ?_
    · refine (R_cx PT GX hRk PT_80 rfl rfl rfl rfl rfl).trans ?_
      refine bind_cong (fun q3 => ?_)
      refine (R_blk PT GX (k := 93) (code := cd93) rfl [15, 41, 60, 80] 400 _).trans ?_
      exact R_ret PT GX rfl
    · rfl
set_option maxRecDepth 20000 in
theorem Re_unit_50_c80_eq (S : pS) : Re_unit_50_c80 S = (La_add_51 (rF S 50 7) S).bind (fun q4 => (Re_advance_50 q4.2).bind (fun q5 => some ((1 : Int32), q5.2))) := by
  show Res PT GX (rkT 93) 93 (pCut cd93 80, [.ref 50, .null, .null, .null], [], S) = _
  refine (R_reg PT GX (k := 93) (code := cd93) rfl [15, 41, 60, 80] 400).trans ?_
  refine (R_cx PT GX hRk PT_70 rfl rfl rfl rfl rfl).trans ?_
  refine bind_cong (fun q4 => ?_)
  refine (R_blk PT GX (k := 93) (code := cd93) rfl [15, 41, 60, 80] 400 _).trans ?_
  refine (R_cx PT GX hRk PT_79 rfl rfl rfl rfl rfl).trans ?_
  refine bind_cong (fun q5 => ?_)
  refine (R_blk PT GX (k := 93) (code := cd93) rfl [15, 41, 60, 80] 400 _).trans ?_
  exact R_retI PT GX rfl rfl
set_option maxRecDepth 20000 in
theorem Re_isJoint_eq (a0 : Int32) (S : pS) : Re_isJoint a0 S = if a0 = (43 : Int32) then (some ((1 : Int32), S)) else (if a0 = (45 : Int32) then (some ((1 : Int32), S)) else (if a0 = (42 : Int32) then (some ((1 : Int32), S)) else (if a0 = (47 : Int32) then (some ((1 : Int32), S)) else (some ((0 : Int32), S))))) := by
  show Res PT GX (rkT 91) 91 (cd91, [.int a0], [], S) = _
  refine (R_blk PT GX (k := 91) (code := cd91) rfl [] 400 _).trans ?_
  refine br_cong ?_ ?_
  · exact R_retI PT GX rfl rfl
  · refine br_cong ?_ ?_
    · exact R_retI PT GX rfl rfl
    · refine br_cong ?_ ?_
      · exact R_retI PT GX rfl rfl
      · refine br_cong ?_ ?_
        · exact R_retI PT GX rfl rfl
        · exact R_retI PT GX rfl rfl
set_option maxRecDepth 20000 in
theorem Re_addIfSign_50_eq (a1 : Int32) (S : pS) : Re_addIfSign_50 a1 S = if a1 = (1 : Int32) then (some (0, S)) else ((La_add_51 a1 S).bind (fun q1 => some (0, q1.2))) := by
  show Res PT GX (rkT 92) 92 (cd92, [.ref 50, .int a1], [], S) = _
  refine (R_blk PT GX (k := 92) (code := cd92) rfl [] 400 _).trans ?_
  refine br_cong ?_ ?_
  · exact R_retV PT GX rfl
  · refine (R_cx PT GX hRk PT_70 rfl rfl rfl rfl rfl).trans ?_
    refine bind_cong (fun q1 => ?_)
    refine (R_blk PT GX (k := 92) (code := cd92) rfl [] 400 _).trans ?_
    exact R_retV PT GX rfl
set_option maxRecDepth 20000 in
theorem La_add_51_eq (a1 : Int32) (S : pS) : La_add_51 a1 S = if (rF S 51 7) < (400 : Int32) then (if inb (rF S 51 7) 400 = true then (some (0, (wF (wA S 52 (rF S 51 7) a1) 51 7 ((rF S 51 7) + (1 : Int32))))) else (none)) else (some (0, S)) := by
  show Res PT GX (rkT 70) 70 (cd70, [.ref 51, .int a1], [], S) = _
  refine (R_blk PT GX (k := 70) (code := cd70) rfl [] 400 _).trans ?_
  refine br_cong ?_ ?_
  · refine br_cong ?_ ?_
    · refine brT (Or.inl rfl) ?_
      exact R_retV PT GX rfl
    · rfl
  · exact R_retV PT GX rfl
set_option maxRecDepth 20000 in
theorem Re_condition_50_eq (d : Nat) (hd : 100 ≤ d) (a1 : Int32) (S : pS) : Re_condition_50 (d + 1) a1 S = if (rF S 50 7) = (306 : Int32) then (Re_condition_50_c18 (d + 1) a1 (rF S 50 7) S) else (if (rF S 50 7) = (40 : Int32) then (Re_condition_50_c18 (d + 1) a1 (rF S 50 7) S) else ((Re_sum_50 S).bind (fun q1 => if q1.1 = 0 then (some ((0 : Int32), q1.2)) else (if (rF q1.2 50 7) = (60 : Int32) then (Re_condition_50_c127 (d + 1) (rF q1.2 50 7) q1.2) else (if (rF q1.2 50 7) = (61 : Int32) then (Re_condition_50_c127 (d + 1) (rF q1.2 50 7) q1.2) else (if (rF q1.2 50 7) = (62 : Int32) then (Re_condition_50_c127 (d + 1) (rF q1.2 50 7) q1.2) else ((Re_fails_50 (1 : Int32) q1.2).bind (fun q2 => if pBool 1 q2.1 = true then some (q2.1, q2.2) else none)))))))) := by
  show Res PT GX (d + 1) 89 (cd89, [.ref 50, .int a1, .null, .null], [], S) = _
  refine (R_blk PT GX (k := 89) (code := cd89) rfl [18, 127] 400 _).trans ?_
  refine br_cong ?_ ?_
  · rfl
  · refine br_cong ?_ ?_
    · rfl
    · refine (R_cx PT GX hRk PT_90 rfl (dk_ok (by show 3 ≤ d; omega) rfl) rfl rfl rfl).trans ?_
      refine bind_cong (fun q1 => ?_)
      refine (R_blk PT GX (k := 89) (code := cd89) rfl [18, 127] 400 _).trans ?_
      refine br_cong ?_ ?_
      · exact R_retI PT GX rfl rfl
      · refine br_cong ?_ ?_
        · rfl
        · refine br_cong ?_ ?_
          · rfl
          · refine br_cong ?_ ?_
            · rfl
            · refine (R_cx PT GX hRk PT_80 rfl (dk_ok (by show 1 ≤ d; omega) rfl) rfl rfl rfl).trans ?_
              refine bind_cong (fun q2 => ?_)
              refine (R_blk PT GX (k := 89) (code := cd89) rfl [18, 127] 400 _).trans ?_
              exact R_ret PT GX rfl
set_option maxRecDepth 20000 in
theorem Re_condition_50_c18_eq (d : Nat) (hd : 100 ≤ d) (l1 : Int32) (l2 : Int32) (S : pS) : Re_condition_50_c18 (d + 1) l1 l2 S = if l1 < (8 : Int32) then ((Re_advance_50 S).bind (fun q3 => if l2 = (40 : Int32) then ((Re_either_50 d (l1 + (1 : Int32)) q3.2).bind (fun q4 => if q4.1 = 0 then (some ((0 : Int32), q4.2)) else ((Re_passes_50 (41 : Int32) q4.2).bind (fun q5 => if q5.1 = 0 then (some ((0 : Int32), q5.2)) else (some ((1 : Int32), q5.2)))))) else ((Re_condition_50 d (l1 + (1 : Int32)) q3.2).bind (fun q6 => if q6.1 = 0 then (some ((0 : Int32), q6.2)) else ((La_add_51 (306 : Int32) q6.2).bind (fun q7 => some ((1 : Int32), q7.2))))))) else ((Re_fails_50 (3 : Int32) S).bind (fun q8 => if pBool 1 q8.1 = true then some (q8.1, q8.2) else none)) := by
  show Res PT GX (d + 1) 89 (pCut cd89 18, [.ref 50, .int l1, .int l2, .null], [], S) = _
  refine (R_reg PT GX (k := 89) (code := cd89) rfl [18, 127] 400).trans ?_
  refine br_cong ?_ ?_
  · refine (R_cx PT GX hRk PT_79 rfl (dk_ok (by show 1 ≤ d; omega) rfl) rfl rfl rfl).trans ?_
    refine bind_cong (fun q3 => ?_)
    refine (R_blk PT GX (k := 89) (code := cd89) rfl [18, 127] 400 _).trans ?_
    refine br_cong ?_ ?_
    · refine (R_cd PT GX PT_88 rfl rfl rfl rfl).trans ?_
      refine bind_cong (fun q4 => ?_)
      refine (R_blk PT GX (k := 89) (code := cd89) rfl [18, 127] 400 _).trans ?_
      refine br_cong ?_ ?_
      · exact R_retI PT GX rfl rfl
      · refine (R_cx PT GX hRk PT_81 rfl (dk_ok (by show 2 ≤ d; omega) rfl) rfl rfl rfl).trans ?_
        refine bind_cong (fun q5 => ?_)
        refine (R_blk PT GX (k := 89) (code := cd89) rfl [18, 127] 400 _).trans ?_
        refine br_cong ?_ ?_
        · exact R_retI PT GX rfl rfl
        · exact R_retI PT GX rfl rfl
    · refine (R_cd PT GX PT_89 rfl rfl rfl rfl).trans ?_
      refine bind_cong (fun q6 => ?_)
      refine (R_blk PT GX (k := 89) (code := cd89) rfl [18, 127] 400 _).trans ?_
      refine br_cong ?_ ?_
      · exact R_retI PT GX rfl rfl
      · refine (R_cx PT GX hRk PT_70 rfl (dk_ok (by show 1 ≤ d; omega) rfl) rfl rfl rfl).trans ?_
        refine bind_cong (fun q7 => ?_)
        refine (R_blk PT GX (k := 89) (code := cd89) rfl [18, 127] 400 _).trans ?_
        exact R_retI PT GX rfl rfl
  · refine (R_cx PT GX hRk PT_80 rfl (dk_ok (by show 1 ≤ d; omega) rfl) rfl rfl rfl).trans ?_
    refine bind_cong (fun q8 => ?_)
    refine (R_blk PT GX (k := 89) (code := cd89) rfl [18, 127] 400 _).trans ?_
    exact R_ret PT GX rfl
set_option maxRecDepth 20000 in
theorem Re_condition_50_c127_eq (d : Nat) (hd : 100 ≤ d) (l3 : Int32) (S : pS) : Re_condition_50_c127 (d + 1) l3 S = (Re_advance_50 S).bind (fun q9 => (Re_sum_50 q9.2).bind (fun q10 => if q10.1 = 0 then (some ((0 : Int32), q10.2)) else ((La_add_51 l3 q10.2).bind (fun q11 => some ((1 : Int32), q11.2))))) := by
  show Res PT GX (d + 1) 89 (pCut cd89 127, [.ref 50, .null, .null, .int l3], [], S) = _
  refine (R_reg PT GX (k := 89) (code := cd89) rfl [18, 127] 400).trans ?_
  refine (R_cx PT GX hRk PT_79 rfl (dk_ok (by show 1 ≤ d; omega) rfl) rfl rfl rfl).trans ?_
  refine bind_cong (fun q9 => ?_)
  refine (R_blk PT GX (k := 89) (code := cd89) rfl [18, 127] 400 _).trans ?_
  refine (R_cx PT GX hRk PT_90 rfl (dk_ok (by show 3 ≤ d; omega) rfl) rfl rfl rfl).trans ?_
  refine bind_cong (fun q10 => ?_)
  refine (R_blk PT GX (k := 89) (code := cd89) rfl [18, 127] 400 _).trans ?_
  refine br_cong ?_ ?_
  · exact R_retI PT GX rfl rfl
  · refine (R_cx PT GX hRk PT_70 rfl (dk_ok (by show 1 ≤ d; omega) rfl) rfl rfl rfl).trans ?_
    refine bind_cong (fun q11 => ?_)
    refine (R_blk PT GX (k := 89) (code := cd89) rfl [18, 127] 400 _).trans ?_
    exact R_retI PT GX rfl rfl
set_option maxRecDepth 20000 in
theorem Ke_throwLeast_28_eq (S : pS) : Ke_throwLeast_28 S = Ke_throwLeast_28_c6 (-1 : Int32) (0 : Int32) (0 : Int32) S := by
  show Res PT GX (rkT 60) 60 (cd60, [.ref 28, .null, .null, .null, .null], [], S) = _
  exact (R_blk PT GX (k := 60) (code := cd60) rfl [6] 400 _).trans rfl
set_option maxRecDepth 20000 in
theorem Ke_throwLeast_28_c6_eq (l1 : Int32) (l2 : Int32) (l3 : Int32) (S : pS) : Ke_throwLeast_28_c6 l1 l2 l3 S = if l3 < (rF S 26 1) then ((Dr_isKept_26 l3 S).bind (fun q1 => if q1.1 = 0 then (Ke_throwLeast_28_c6 l1 l2 (l3 + (1 : Int32)) q1.2) else ((La_tell_4_26 l3 (2 : Int32) q1.2).bind (fun q2 => if l1 = (-1 : Int32) then (Ke_throwLeast_28_c6 l3 q2.1 (l3 + (1 : Int32)) q2.2) else (if q2.1 < l2 then (Ke_throwLeast_28_c6 l3 q2.1 (l3 + (1 : Int32)) q2.2) else (Ke_throwLeast_28_c6 l1 l2 (l3 + (1 : Int32)) q2.2)))))) else (if l1 = (-1 : Int32) then (some ((0 : Int32), S)) else ((Dr_drop_26 l1 S).bind (fun q3 => (Ke_enter_28 (2 : Int32) l1 l2 q3.2).bind (fun q4 => some ((1 : Int32), q4.2))))) := by
  show Res PT GX (rkT 60) 60 (pCut cd60 6, [.ref 28, .int l1, .int l2, .int l3, .null], [], S) = _
  refine (R_reg PT GX (k := 60) (code := cd60) rfl [6] 400).trans ?_
  refine br_cong ?_ ?_
  · refine (R_cx PT GX hRk PT_39 rfl rfl rfl rfl rfl).trans ?_
    refine bind_cong (fun q1 => ?_)
    refine (R_blk PT GX (k := 60) (code := cd60) rfl [6] 400 _).trans ?_
    refine br_cong ?_ ?_
    · rfl
    · refine (R_cx PT GX hRk PT_72 rfl rfl rfl rfl rfl).trans ?_
      refine bind_cong (fun q2 => ?_)
      refine (R_blk PT GX (k := 60) (code := cd60) rfl [6] 400 _).trans ?_
      refine br_cong ?_ ?_
      · rfl
      · refine br_cong ?_ ?_
        · rfl
        · rfl
  · refine br_cong ?_ ?_
    · exact R_retI PT GX rfl rfl
    · refine (R_cx PT GX hRk PT_43 rfl rfl rfl rfl rfl).trans ?_
      refine bind_cong (fun q3 => ?_)
      refine (R_blk PT GX (k := 60) (code := cd60) rfl [6] 400 _).trans ?_
      refine (R_cx PT GX hRk PT_54 rfl rfl rfl rfl rfl).trans ?_
      refine bind_cong (fun q4 => ?_)
      refine (R_blk PT GX (k := 60) (code := cd60) rfl [6] 400 _).trans ?_
      exact R_retI PT GX rfl rfl
set_option maxRecDepth 20000 in
theorem Dr_write_26_eq (a1 : Int32) (a2 : Int32) (a3 : Int32) (S : pS) : Dr_write_26 a1 a2 a3 S = (C_within a1 (14 : Int32) S).bind (fun q1 => if q1.1 = 0 then (some (0, q1.2)) else ((C_within a2 (7 : Int32) q1.2).bind (fun q2 => if q2.1 = 0 then (some (0, q2.2)) else (if inb ((a2 * (14 : Int32)) + a1) 98 = true then (some (0, (wA q2.2 27 ((a2 * (14 : Int32)) + a1) a3))) else (none))))) := by
  show Res PT GX (rkT 41) 41 (cd41, [.ref 26, .int a1, .int a2, .int a3], [], S) = _
  refine (R_blk PT GX (k := 41) (code := cd41) rfl [] 400 _).trans ?_
  refine (R_cx PT GX hRk PT_156 rfl rfl rfl rfl rfl).trans ?_
  refine bind_cong (fun q1 => ?_)
  refine (R_blk PT GX (k := 41) (code := cd41) rfl [] 400 _).trans ?_
  refine br_cong ?_ ?_
  · exact R_retV PT GX rfl
  · refine (R_cx PT GX hRk PT_156 rfl rfl rfl rfl rfl).trans ?_
    refine bind_cong (fun q2 => ?_)
    refine (R_blk PT GX (k := 41) (code := cd41) rfl [] 400 _).trans ?_
    refine br_cong ?_ ?_
    · exact R_retV PT GX rfl
    · refine br_cong ?_ ?_
      · exact R_retV PT GX rfl
      · rfl
set_option maxRecDepth 20000 in
theorem Ro_add_29_eq (a1 : Int32) (a2 : Int32) (a3 : Int32) (a4 : Int32) (S : pS) : Ro_add_29 a1 a2 a3 a4 S = if (rF S 29 2) < (rF S 29 0) then (if inb ((rF S 29 2) * (4 : Int32)) 0 = true then (if inb (((rF S 29 2) * (4 : Int32)) + (1 : Int32)) 0 = true then (if inb (((rF S 29 2) * (4 : Int32)) + (2 : Int32)) 0 = true then (if inb (((rF S 29 2) * (4 : Int32)) + (3 : Int32)) 0 = true then (some (((rF S 29 2) + (1 : Int32)), (wF (wA (wA (wA (wA S 30 ((rF S 29 2) * (4 : Int32)) a1) 30 (((rF S 29 2) * (4 : Int32)) + (1 : Int32)) a2) 30 (((rF S 29 2) * (4 : Int32)) + (2 : Int32)) a3) 30 (((rF S 29 2) * (4 : Int32)) + (3 : Int32)) a4) 29 2 ((rF S 29 2) + (1 : Int32))))) else (none)) else (none)) else (none)) else (none)) else (some ((-1 : Int32), S)) := by
  show Res PT GX (rkT 95) 95 (cd95, [.ref 29, .int a1, .int a2, .int a3, .int a4, .null], [], S) = _
  refine (R_blk PT GX (k := 95) (code := cd95) rfl [] 400 _).trans ?_
  refine br_cong ?_ ?_
  · refine br_cong ?_ ?_
    · refine br_cong ?_ ?_
      · refine br_cong ?_ ?_
        · refine br_cong ?_ ?_
          · refine brT (Or.inl rfl) ?_
            exact R_retI PT GX rfl rfl
          · rfl
        · rfl
      · rfl
    · rfl
  · exact R_retI PT GX rfl rfl
set_option maxRecDepth 20000 in
theorem J_isLatin1_t1_eq (S : pS) : J_isLatin1_t1 S = some ((1 : Int32), S) := by
  show Res PT GX (rkT 290) 290 (cd290, [.float (UInt32.ofNat 1)], [], S) = _
  refine (R_blk PT GX (k := 290) (code := cd290) rfl [] 400 _).trans ?_
  refine brF (by decide) ?_
  refine brT (by decide) ?_
  exact R_retI PT GX rfl rfl
set_option maxRecDepth 20000 in
theorem J_length_t1_eq (S : pS) : J_length_t1 S = (J_coder_t1 S).bind (fun q1 => some (((10 : Int32) >>> (q1.1 &&& 31)), q1.2)) := by
  show Res PT GX (rkT 296) 296 (cd296, [.float (UInt32.ofNat 1)], [], S) = _
  refine (R_blk PT GX (k := 296) (code := cd296) rfl [] 400 _).trans ?_
  refine (R_cx PT GX hRk PT_297 rfl rfl rfl rfl rfl).trans ?_
  refine bind_cong (fun q1 => ?_)
  refine (R_blk PT GX (k := 296) (code := cd296) rfl [] 400 _).trans ?_
  exact R_retI PT GX rfl rfl
set_option maxRecDepth 20000 in
theorem J_indexOfL_t1_eq (a1 : Int32) (a2 : Int32) (a3 : Int32) (S : pS) : J_indexOfL_t1 a1 a2 a3 S = (J_canEncode a1 S).bind (fun q1 => if q1.1 = 0 then (some ((-1 : Int32), q1.2)) else (if (if a2 < (0 : Int32) then (0 : Int32) else a2) < (if (10 : Int32) < a3 then (10 : Int32) else a3) then ((J_indexOfChar_t1 a1 (if a2 < (0 : Int32) then (0 : Int32) else a2) (if (10 : Int32) < a3 then (10 : Int32) else a3) q1.2).bind (fun q2 => some (q2.1, q2.2))) else (some ((-1 : Int32), q1.2)))) := by
  show Res PT GX (rkT 298) 298 (cd298, [.double (UInt64.ofNat (UInt32.ofNat 1).toNat), .int a1, .int a2, .int a3], [], S) = _
  refine (R_blk PT GX (k := 298) (code := cd298) rfl [] 400 _).trans ?_
  refine (R_cx PT GX hRk PT_299 rfl rfl rfl rfl rfl).trans ?_
  refine bind_cong (fun q1 => ?_)
  refine (R_blk PT GX (k := 298) (code := cd298) rfl [] 400 _).trans ?_
  refine br_cong ?_ ?_
  · exact R_retI PT GX rfl rfl
  · refine br_cong ?_ ?_
    · refine (R_cx PT GX hRk PT_300 rfl rfl rfl rfl rfl).trans ?_
      refine bind_cong (fun q2 => ?_)
      refine (R_blk PT GX (k := 298) (code := cd298) rfl [] 400 _).trans ?_
      exact R_retI PT GX rfl rfl
    · exact R_retI PT GX rfl rfl
set_option maxRecDepth 20000 in
theorem J_charAt_t0_eq (a1 : Int32) (S : pS) : J_charAt_t0 a1 S = (J_isLatin1_t0 S).bind (fun q1 => if q1.1 = 0 then (none) else ((J_charAtL_t0 a1 q1.2).bind (fun q2 => if pBool 2 q2.1 = true then some (q2.1, q2.2) else none))) := by
  show Res PT GX (rkT 289) 289 (cd289, [.float (UInt32.ofNat 0), .int a1], [], S) = _
  refine (R_blk PT GX (k := 289) (code := cd289) rfl [] 400 _).trans ?_
  refine (R_cx PT GX hRk PT_290 rfl rfl rfl rfl rfl).trans ?_
  refine bind_cong (fun q1 => ?_)
  refine (R_blk PT GX (k := 289) (code := cd289) rfl [] 400 _).trans ?_
  refine br_cong ?_ ?_
  · rfl
  · refine (R_cx PT GX hRk PT_292 rfl rfl rfl rfl rfl).trans ?_
    refine bind_cong (fun q2 => ?_)
    refine (R_blk PT GX (k := 289) (code := cd289) rfl [] 400 _).trans ?_
    exact R_ret PT GX rfl
set_option maxRecDepth 20000 in
theorem J_coder_t1_eq (S : pS) : J_coder_t1 S = some ((0 : Int32), S) := by
  show Res PT GX (rkT 297) 297 (cd297, [.float (UInt32.ofNat 1)], [], S) = _
  refine (R_blk PT GX (k := 297) (code := cd297) rfl [] 400 _).trans ?_
  refine brF (by decide) ?_
  exact R_retI PT GX rfl rfl
set_option maxRecDepth 20000 in
theorem J_canEncode_eq (a0 : Int32) (S : pS) : J_canEncode a0 S = if a0 < 0 then (some ((0 : Int32), S)) else (if a0 ≤ (255 : Int32) then (some ((1 : Int32), S)) else (some ((0 : Int32), S))) := by
  show Res PT GX (rkT 299) 299 (cd299, [.int a0], [], S) = _
  refine (R_blk PT GX (k := 299) (code := cd299) rfl [] 400 _).trans ?_
  refine br_cong ?_ ?_
  · exact R_retI PT GX rfl rfl
  · refine br_cong ?_ ?_
    · exact R_retI PT GX rfl rfl
    · exact R_retI PT GX rfl rfl
set_option maxRecDepth 20000 in
theorem J_indexOfChar_t1_eq (a1 : Int32) (a2 : Int32) (a3 : Int32) (S : pS) : J_indexOfChar_t1 a1 a2 a3 S = J_indexOfChar_t1_c7 a3 (a1).toInt8.toInt32 a2 S := by
  show Res PT GX (rkT 300) 300 (cd300, [.double (UInt64.ofNat (UInt32.ofNat 1).toNat), .int a1, .int a2, .int a3, .null, .null], [], S) = _
  exact (R_blk PT GX (k := 300) (code := cd300) rfl [7] 400 _).trans rfl
set_option maxRecDepth 20000 in
theorem J_indexOfChar_t1_c7_eq (l3 : Int32) (l4 : Int32) (l5 : Int32) (S : pS) : J_indexOfChar_t1_c7 l3 l4 l5 S = if l5 < l3 then (if inb l5 (pTx 1).length = true then (if ((pTx 1).getD (l5).toNatClampNeg 0) = l4 then (some (l5, S)) else (J_indexOfChar_t1_c7 l3 l4 (l5 + (1 : Int32)) S)) else (none)) else (some ((-1 : Int32), S)) := by
  show Res PT GX (rkT 300) 300 (pCut cd300 7, [.double (UInt64.ofNat (UInt32.ofNat 1).toNat), .null, .null, .int l3, .int l4, .int l5], [], S) = _
  refine (R_reg PT GX (k := 300) (code := cd300) rfl [7] 400).trans ?_
  refine br_cong ?_ ?_
  · refine br_cong ?_ ?_
    · refine br_cong ?_ ?_
      · exact R_retI PT GX rfl rfl
      · rfl
    · rfl
  · exact R_retI PT GX rfl rfl
set_option maxRecDepth 20000 in
theorem J_isLatin1_t0_eq (S : pS) : J_isLatin1_t0 S = some ((1 : Int32), S) := by
  show Res PT GX (rkT 290) 290 (cd290, [.float (UInt32.ofNat 0)], [], S) = _
  refine (R_blk PT GX (k := 290) (code := cd290) rfl [] 400 _).trans ?_
  refine brF (by decide) ?_
  refine brT (by decide) ?_
  exact R_retI PT GX rfl rfl
set_option maxRecDepth 20000 in
theorem J_charAtL_t0_eq (a1 : Int32) (S : pS) : J_charAtL_t0 a1 S = (J_checkIndex a1 (144 : Int32) S).bind (fun q1 => if inb a1 (pTx 0).length = true then (if pBool 2 (((((pTx 0).getD (a1).toNatClampNeg 0) &&& (255 : Int32))).toUInt32 % 65536).toInt32 = true then some ((((((pTx 0).getD (a1).toNatClampNeg 0) &&& (255 : Int32))).toUInt32 % 65536).toInt32, q1.2) else none) else (none)) := by
  show Res PT GX (rkT 292) 292 (cd292, [.double (UInt64.ofNat (UInt32.ofNat 0).toNat), .int a1], [], S) = _
  refine (R_blk PT GX (k := 292) (code := cd292) rfl [] 400 _).trans ?_
  refine (R_cx PT GX hRk PT_291 rfl rfl rfl rfl rfl).trans ?_
  refine bind_cong (fun q1 => ?_)
  refine (R_blk PT GX (k := 292) (code := cd292) rfl [] 400 _).trans ?_
  refine br_cong ?_ ?_
  · exact R_ret PT GX rfl
  · rfl
set_option maxRecDepth 20000 in
theorem J_checkIndex_eq (a0 : Int32) (a1 : Int32) (S : pS) : J_checkIndex a0 a1 S = (J_checkIndexP_f0 a0 a1 S).bind (fun q1 => some (0, q1.2)) := by
  show Res PT GX (rkT 291) 291 (cd291, [.int a0, .int a1], [], S) = _
  refine (R_blk PT GX (k := 291) (code := cd291) rfl [] 400 _).trans ?_
  refine (R_cx PT GX hRk PT_293 rfl rfl rfl rfl rfl).trans ?_
  refine bind_cong (fun q1 => ?_)
  refine (R_blk PT GX (k := 291) (code := cd291) rfl [] 400 _).trans ?_
  exact R_retV PT GX rfl
set_option maxRecDepth 20000 in
theorem J_checkIndexP_f0_eq (a0 : Int32) (a1 : Int32) (S : pS) : J_checkIndexP_f0 a0 a1 S = if a0 < 0 then (none) else (if a0 < a1 then (some (a0, S)) else (none)) := by
  show Res PT GX (rkT 293) 293 (cd293, [.int a0, .int a1, .retAddr 0], [], S) = _
  refine (R_blk PT GX (k := 293) (code := cd293) rfl [] 400 _).trans ?_
  refine br_cong ?_ ?_
  · rfl
  · refine br_cong ?_ ?_
    · exact R_retI PT GX rfl rfl
    · rfl
