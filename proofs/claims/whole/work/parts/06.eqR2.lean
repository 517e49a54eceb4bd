/-! Equations of methods (written by program). -/
set_option maxRecDepth 20000 in
theorem R_bestCard_eq (a1 : Int32) (a2 : Int32) (S : pS) : R_bestCard a1 a2 S = R_bestCard_c5 a1 a2 (-1 : Int32) (0 : Int32) S := by
  show Res PT GR (rkT 226) 226 (cd226, [.ref 0, .int a1, .int a2, .null, .null], [], S) = _
  exact (R_blk PT GR (k := 226) (code := cd226) rfl [5, 56] 400 _).trans rfl
set_option maxRecDepth 20000 in
theorem R_bestCard_c5_eq (l1 : Int32) (l2 : Int32) (l3 : Int32) (l4 : Int32) (S : pS) : R_bestCard_c5 l1 l2 l3 l4 S = if l4 < (rF S 0 6) then ((R_isKept l4 S).bind (fun q1 => if q1.1 = 0 then (R_bestCard_c5 l1 l2 l3 (l4 + (1 : Int32)) q1.2) else (if l1 = (-1 : Int32) then (if inb l4 14 = true then (if (rA q1.2 6 l4) = l2 then (R_bestCard_c56 l1 l2 l3 l4 q1.2) else (R_bestCard_c5 l1 l2 l3 (l4 + (1 : Int32)) q1.2)) else (none)) else (if inb l4 14 = true then (if (rA q1.2 4 l4) = l1 then (R_bestCard_c56 l1 l2 l3 l4 q1.2) else (R_bestCard_c5 l1 l2 l3 (l4 + (1 : Int32)) q1.2)) else (none))))) else (some (l3, S)) := by
  show Res PT GR (rkT 226) 226 (pCut cd226 5, [.ref 0, .int l1, .int l2, .int l3, .int l4], [], S) = _
  refine (R_reg PT GR (k := 226) (code := cd226) rfl [5, 56] 400).trans ?_
  refine br_cong ?_ ?_
  · refine (R_cx PT GR hRk PT_175 rfl rfl rfl rfl rfl).trans ?_
    refine bind_cong (fun q1 => ?_)
    refine (R_blk PT GR (k := 226) (code := cd226) rfl [5, 56] 400 _).trans ?_
    refine br_cong ?_ ?_
    · rfl
    · refine br_cong ?_ ?_
      · refine br_cong ?_ ?_
        · refine br_cong ?_ ?_
          · rfl
          · rfl
        · rfl
      · refine br_cong ?_ ?_
        · refine br_cong ?_ ?_
          · rfl
          · rfl
        · rfl
  · exact R_retI PT GR rfl rfl
set_option maxRecDepth 20000 in
theorem R_bestCard_c56_eq (l1 : Int32) (l2 : Int32) (l3 : Int32) (l4 : Int32) (S : pS) : R_bestCard_c56 l1 l2 l3 l4 S = if l3 = (-1 : Int32) then (R_bestCard_c5 l1 l2 l4 (l4 + (1 : Int32)) S) else ((R_holdsOf l4 S).bind (fun q2 => (R_holdsOf l3 q2.2).bind (fun q3 => if q2.1 ≤ q3.1 then (R_bestCard_c5 l1 l2 l3 (l4 + (1 : Int32)) q3.2) else (R_bestCard_c5 l1 l2 l4 (l4 + (1 : Int32)) q3.2)))) := by
  show Res PT GR (rkT 226) 226 (pCut cd226 56, [.ref 0, .int l1, .int l2, .int l3, .int l4], [], S) = _
  refine (R_reg PT GR (k := 226) (code := cd226) rfl [5, 56] 400).trans ?_
  refine br_cong ?_ ?_
  · rfl
  · refine (R_cx PT GR hRk PT_222 rfl rfl rfl rfl rfl).trans ?_
    refine bind_cong (fun q2 => ?_)
    refine (R_blk PT GR (k := 226) (code := cd226) rfl [5, 56] 400 _).trans ?_
    refine (R_cx PT GR hRk PT_222 rfl rfl rfl rfl rfl).trans ?_
    refine bind_cong (fun q3 => ?_)
    refine (R_blk PT GR (k := 226) (code := cd226) rfl [5, 56] 400 _).trans ?_
    refine br_cong ?_ ?_
    · rfl
    · rfl
set_option maxRecDepth 20000 in
theorem R_keepsAhead_eq (S : pS) : R_keepsAhead S = if (rF S 0 3) = (6 : Int32) then (R_keepsAhead_c21 (0 : Int32) (wF S 0 3 ((rF S 0 3) - (1 : Int32)))) else (R_keepsAhead_c55 (0 : Int32) S) := by
  show Res PT GR (rkT 167) 167 (cd167, [.ref 0, .null], [], S) = _
  refine (R_blk PT GR (k := 167) (code := cd167) rfl [21, 55] 400 _).trans ?_
  refine br_cong ?_ ?_
  · refine brT (Or.inl rfl) ?_
    rfl
  · rfl
set_option maxRecDepth 20000 in
theorem R_keepsAhead_c21_eq (l1 : Int32) (S : pS) : R_keepsAhead_c21 l1 S = if l1 < ((76 : Int32) * (rF S 0 3)) then (if inb (l1 + (76 : Int32)) 456 = true then (if inb l1 456 = true then (R_keepsAhead_c21 (l1 + (1 : Int32)) (wA S 2 l1 (rA S 2 (l1 + (76 : Int32))))) else (none)) else (none)) else (R_keepsAhead_c55 (0 : Int32) S) := by
  show Res PT GR (rkT 167) 167 (pCut cd167 21, [.ref 0, .int l1], [], S) = _
  refine (R_reg PT GR (k := 167) (code := cd167) rfl [21, 55] 400).trans ?_
  refine br_cong ?_ ?_
  · refine br_cong ?_ ?_
    · refine br_cong ?_ ?_
      · rfl
      · rfl
    · rfl
  · rfl
set_option maxRecDepth 20000 in
theorem R_keepsAhead_c55_eq (l1 : Int32) (S : pS) : R_keepsAhead_c55 l1 S = if l1 < (76 : Int32) then (if inb l1 76 = true then (if inb (((76 : Int32) * (rF S 0 3)) + l1) 456 = true then (R_keepsAhead_c55 (l1 + (1 : Int32)) (wA S 2 (((76 : Int32) * (rF S 0 3)) + l1) (rA S 1 l1))) else (none)) else (none)) else (some (0, (wF S 0 3 ((rF S 0 3) + (1 : Int32))))) := by
  show Res PT GR (rkT 167) 167 (pCut cd167 55, [.ref 0, .int l1], [], S) = _
  refine (R_reg PT GR (k := 167) (code := cd167) rfl [21, 55] 400).trans ?_
  refine br_cong ?_ ?_
  · refine br_cong ?_ ?_
    · refine br_cong ?_ ?_
      · rfl
      · rfl
    · rfl
  · refine brT (Or.inl rfl) ?_
    exact R_retV PT GR rfl
set_option maxRecDepth 20000 in
theorem R_rings_eq (a1 : Int32) (S : pS) : R_rings a1 S = (R_bestCard a1 (-1 : Int32) S).bind (fun q1 => (R_holdsOf q1.1 q1.2).bind (fun q2 => (R_doesHold q1.1 q2.1 q2.2).bind (fun q3 => if q3.1 = 0 then (if inb ((20 : Int32) + q1.1) 76 = true then ((R_lesser (99 : Int32) ((rA q3.2 1 ((20 : Int32) + q1.1)) + (9 : Int32)) q3.2).bind (fun q4 => if inb ((20 : Int32) + q1.1) 76 = true then (R_rings_c71 q1.1 q2.1 q3.1 (wA q4.2 1 ((20 : Int32) + q1.1) q4.1)) else (none))) else (none)) else (if inb ((6 : Int32) + q1.1) 76 = true then (R_rings_c71 q1.1 q2.1 q3.1 (wA q3.2 1 ((6 : Int32) + q1.1) (rA q3.2 1 (0 : Int32)))) else (none))))) := by
  show Res PT GR (rkT 228) 228 (cd228, [.ref 0, .int a1, .null, .null, .null], [], S) = _
  refine (R_blk PT GR (k := 228) (code := cd228) rfl [71, 82] 400 _).trans ?_
  refine (R_cx PT GR hRk PT_226 rfl rfl rfl rfl rfl).trans ?_
  refine bind_cong (fun q1 => ?_)
  refine (R_blk PT GR (k := 228) (code := cd228) rfl [71, 82] 400 _).trans ?_
  refine (R_cx PT GR hRk PT_222 rfl rfl rfl rfl rfl).trans ?_
  refine bind_cong (fun q2 => ?_)
  refine (R_blk PT GR (k := 228) (code := cd228) rfl [71, 82] 400 _).trans ?_
  refine (R_cx PT GR hRk PT_227 rfl rfl rfl rfl rfl).trans ?_
  refine bind_cong (fun q3 => ?_)
  refine (R_blk PT GR (k := 228) (code := cd228) rfl [71, 82] 400 _).trans ?_
  refine br_cong ?_ ?_
  · refine br_cong ?_ ?_
    · refine (R_cx PT GR hRk PT_164 rfl rfl rfl rfl rfl).trans ?_
      refine bind_cong (fun q4 => ?_)
      refine (R_blk PT GR (k := 228) (code := cd228) rfl [71, 82] 400 _).trans ?_
      refine br_cong ?_ ?_
      · rfl
      · rfl
    · rfl
  · refine brT (by decide) ?_
    refine br_cong ?_ ?_
    · rfl
    · rfl
set_option maxRecDepth 20000 in
theorem R_rings_c71_eq (l2 : Int32) (l3 : Int32) (l4 : Int32) (S : pS) : R_rings_c71 l2 l3 l4 S = if l4 = 0 then (R_rings_c82 l2 l3 l4 (1 : Int32) S) else (R_rings_c82 l2 l3 l4 (0 : Int32) S) := by
  show Res PT GR (rkT 228) 228 (pCut cd228 71, [.ref 0, .null, .int l2, .int l3, .int l4], [], S) = _
  refine (R_reg PT GR (k := 228) (code := cd228) rfl [71, 82] 400).trans ?_
  refine br_cong ?_ ?_
  · rfl
  · rfl
set_option maxRecDepth 20000 in
theorem R_rings_c82_eq (l2 : Int32) (l3 : Int32) (l4 : Int32) (s0 : Int32) (S : pS) : R_rings_c82 l2 l3 l4 s0 S = (R_notes s0 l2 l3 S).bind (fun q5 => if l4 = 0 then (some ((0 : Int32), q5.2)) else (some ((1 : Int32), q5.2))) := by
  show Res PT GR (rkT 228) 228 (pCut cd228 82, [.null, .null, .int l2, .int l3, .int l4], [.int s0, .ref 0], S) = _
  refine (R_reg PT GR (k := 228) (code := cd228) rfl [71, 82] 400).trans ?_
  refine (R_cx PT GR hRk PT_225 rfl rfl rfl rfl rfl).trans ?_
  refine bind_cong (fun q5 => ?_)
  refine (R_blk PT GR (k := 228) (code := cd228) rfl [71, 82] 400 _).trans ?_
  refine br_cong ?_ ?_
  · exact R_retI PT GR rfl rfl
  · exact R_retI PT GR rfl rfl
set_option maxRecDepth 20000 in
theorem R_throwsSome_eq (a1 : Int32) (S : pS) : R_throwsSome a1 S = R_throwsSome_c4 a1 (0 : Int32) (0 : Int32) S := by
  show Res PT GR (rkT 230) 230 (cd230, [.ref 0, .int a1, .null, .null, .null], [], S) = _
  exact (R_blk PT GR (k := 230) (code := cd230) rfl [4] 400 _).trans rfl
set_option maxRecDepth 20000 in
theorem R_throwsSome_c4_eq (l1 : Int32) (l2 : Int32) (l3 : Int32) (S : pS) : R_throwsSome_c4 l1 l2 l3 S = if l3 < l1 then ((R_leastWorth S).bind (fun q1 => if q1.1 = (-1 : Int32) then (R_throwsSome_c4 l1 l2 (l3 + (1 : Int32)) q1.2) else ((R_worthOf q1.1 q1.2).bind (fun q2 => (R_notes (2 : Int32) q1.1 q2.1 q2.2).bind (fun q3 => if inb ((48 : Int32) + q1.1) 76 = true then (R_throwsSome_c4 l1 (l2 + (1 : Int32)) (l3 + (1 : Int32)) (wA q3.2 1 ((48 : Int32) + q1.1) (1 : Int32))) else (none)))))) else (some (l2, S)) := by
  show Res PT GR (rkT 230) 230 (pCut cd230 4, [.ref 0, .int l1, .int l2, .int l3, .null], [], S) = _
  refine (R_reg PT GR (k := 230) (code := cd230) rfl [4] 400).trans ?_
  refine br_cong ?_ ?_
  · refine (R_cx PT GR hRk PT_229 rfl rfl rfl rfl rfl).trans ?_
    refine bind_cong (fun q1 => ?_)
    refine (R_blk PT GR (k := 230) (code := cd230) rfl [4] 400 _).trans ?_
    refine br_cong ?_ ?_
    · rfl
    · refine (R_cx PT GR hRk PT_224 rfl rfl rfl rfl rfl).trans ?_
      refine bind_cong (fun q2 => ?_)
      refine (R_blk PT GR (k := 230) (code := cd230) rfl [4] 400 _).trans ?_
      refine (R_cx PT GR hRk PT_225 rfl rfl rfl rfl rfl).trans ?_
      refine bind_cong (fun q3 => ?_)
      refine (R_blk PT GR (k := 230) (code := cd230) rfl [4] 400 _).trans ?_
      refine br_cong ?_ ?_
      · rfl
      · rfl
  · exact R_retI PT GR rfl rfl
set_option maxRecDepth 20000 in
theorem R_isKept_eq (a1 : Int32) (S : pS) : R_isKept a1 S = if inb ((48 : Int32) + a1) 76 = true then (if (rA S 1 ((48 : Int32) + a1)) = 0 then (some ((1 : Int32), S)) else (some ((0 : Int32), S))) else (none) := by
  show Res PT GR (rkT 175) 175 (cd175, [.ref 0, .int a1], [], S) = _
  refine (R_blk PT GR (k := 175) (code := cd175) rfl [] 400 _).trans ?_
  refine br_cong ?_ ?_
  · refine br_cong ?_ ?_
    · exact R_retI PT GR rfl rfl
    · exact R_retI PT GR rfl rfl
  · rfl
set_option maxRecDepth 20000 in
theorem R_bends_eq (a1 : Int32) (S : pS) : R_bends a1 S = if inb ((62 : Int32) + a1) 76 = true then (if inb ((62 : Int32) + a1) 76 = true then (if inb ((62 : Int32) + a1) 76 = true then ((R_notes (3 : Int32) a1 (rA (wA S 1 ((62 : Int32) + a1) ((1 : Int32) - (rA S 1 ((62 : Int32) + a1)))) 1 ((62 : Int32) + a1)) (wA S 1 ((62 : Int32) + a1) ((1 : Int32) - (rA S 1 ((62 : Int32) + a1))))).bind (fun q1 => some (0, q1.2))) else (none)) else (none)) else (none) := by
  show Res PT GR (rkT 231) 231 (cd231, [.ref 0, .int a1], [], S) = _
  refine (R_blk PT GR (k := 231) (code := cd231) rfl [] 400 _).trans ?_
  refine br_cong ?_ ?_
  · refine br_cong ?_ ?_
    · refine br_cong ?_ ?_
      · refine (R_cx PT GR hRk PT_225 rfl rfl rfl rfl rfl).trans ?_
        refine bind_cong (fun q1 => ?_)
        refine (R_blk PT GR (k := 231) (code := cd231) rfl [] 400 _).trans ?_
        exact R_retV PT GR rfl
      · rfl
    · rfl
  · rfl
set_option maxRecDepth 20000 in
theorem R_finds_eq (a1 : Int32) (S : pS) : R_finds a1 S = if inb ((48 : Int32) + a1) 76 = true then (if inb ((20 : Int32) + a1) 76 = true then ((R_notes (4 : Int32) a1 (0 : Int32) (wA (wA S 1 ((48 : Int32) + a1) (0 : Int32)) 1 ((20 : Int32) + a1) (0 : Int32))).bind (fun q1 => some (0, q1.2))) else (none)) else (none) := by
  show Res PT GR (rkT 232) 232 (cd232, [.ref 0, .int a1], [], S) = _
  refine (R_blk PT GR (k := 232) (code := cd232) rfl [] 400 _).trans ?_
  refine br_cong ?_ ?_
  · refine br_cong ?_ ?_
    · refine (R_cx PT GR hRk PT_225 rfl rfl rfl rfl rfl).trans ?_
      refine bind_cong (fun q1 => ?_)
      refine (R_blk PT GR (k := 232) (code := cd232) rfl [] 400 _).trans ?_
      exact R_retV PT GR rfl
    · rfl
  · rfl
set_option maxRecDepth 20000 in
theorem R_goesBy_eq (S : pS) : R_goesBy S = R_goesBy_c2 (0 : Int32) S := by
  show Res PT GR (rkT 239) 239 (cd239, [.ref 0, .null, .null], [], S) = _
  exact (R_blk PT GR (k := 239) (code := cd239) rfl [2, 47] 400 _).trans rfl
set_option maxRecDepth 20000 in
theorem R_goesBy_c2_eq (l1 : Int32) (S : pS) : R_goesBy_c2 l1 S = if l1 < (rF S 0 39) then (if inb ((3 : Int32) * l1) 96 = true then (if (rA S 21 ((3 : Int32) * l1)) = (rA S 1 (0 : Int32)) then ((R_doesDeed ((3 : Int32) * l1) S).bind (fun q1 => R_goesBy_c2 (l1 + (1 : Int32)) q1.2)) else (R_goesBy_c2 (l1 + (1 : Int32)) S)) else (none)) else ((R_isServed S).bind (fun q2 => R_goesBy_c47 q2.1 (0 : Int32) q2.2)) := by
  show Res PT GR (rkT 239) 239 (pCut cd239 2, [.ref 0, .int l1, .null], [], S) = _
  refine (R_reg PT GR (k := 239) (code := cd239) rfl [2, 47] 400).trans ?_
  refine br_cong ?_ ?_
  · refine br_cong ?_ ?_
    · refine brT (by decide) ?_
      refine br_cong ?_ ?_
      · refine (R_cx PT GR hRk PT_236 rfl rfl rfl rfl rfl).trans ?_
        refine bind_cong (fun q1 => ?_)
        exact (R_blk PT GR (k := 239) (code := cd239) rfl [2, 47] 400 _).trans rfl
      · rfl
    · rfl
  · refine (R_cx PT GR hRk PT_237 rfl rfl rfl rfl rfl).trans ?_
    refine bind_cong (fun q2 => ?_)
    exact (R_blk PT GR (k := 239) (code := cd239) rfl [2, 47] 400 _).trans rfl
set_option maxRecDepth 20000 in
theorem R_goesBy_c47_eq (l1 : Int32) (l2 : Int32) (S : pS) : R_goesBy_c47 l1 l2 S = if l2 < (rF S 0 6) then ((R_isKept l2 S).bind (fun q3 => if q3.1 = 0 then (R_goesBy_c47 l1 (l2 + (1 : Int32)) q3.2) else ((R_wears l2 q3.2).bind (fun q4 => R_goesBy_c47 l1 (l2 + (1 : Int32)) q4.2)))) else (if l1 = 0 then (some ((0 : Int32), (wA S 1 (0 : Int32) ((rA S 1 (0 : Int32)) + (1 : Int32))))) else (some ((1 : Int32), (wA S 1 (0 : Int32) ((rA S 1 (0 : Int32)) + (1 : Int32)))))) := by
  show Res PT GR (rkT 239) 239 (pCut cd239 47, [.ref 0, .int l1, .int l2], [], S) = _
  refine (R_reg PT GR (k := 239) (code := cd239) rfl [2, 47] 400).trans ?_
  refine br_cong ?_ ?_
  · refine (R_cx PT GR hRk PT_175 rfl rfl rfl rfl rfl).trans ?_
    refine bind_cong (fun q3 => ?_)
    refine (R_blk PT GR (k := 239) (code := cd239) rfl [2, 47] 400 _).trans ?_
    refine br_cong ?_ ?_
    · rfl
    · refine (R_cx PT GR hRk PT_238 rfl rfl rfl rfl rfl).trans ?_
      refine bind_cong (fun q4 => ?_)
      exact (R_blk PT GR (k := 239) (code := cd239) rfl [2, 47] 400 _).trans rfl
  · refine brT (by decide) ?_
    refine brT (by decide) ?_
    refine br_cong ?_ ?_
    · exact R_retI PT GR rfl rfl
    · exact R_retI PT GR rfl rfl
set_option maxRecDepth 20000 in
theorem R_holdsOf_eq (a1 : Int32) (S : pS) : R_holdsOf a1 S = (R_ageOf a1 S).bind (fun q1 => (R_lawTells a1 (0 : Int32) ((900 : Int32) - ((20 : Int32) * q1.1)) (1000 : Int32) q1.2).bind (fun q2 => some (q2.1, q2.2))) := by
  show Res PT GR (rkT 222) 222 (cd222, [.ref 0, .int a1], [], S) = _
  refine (R_blk PT GR (k := 222) (code := cd222) rfl [] 400 _).trans ?_
  refine (R_cx PT GR hRk PT_221 rfl rfl rfl rfl rfl).trans ?_
  refine bind_cong (fun q1 => ?_)
  refine (R_blk PT GR (k := 222) (code := cd222) rfl [] 400 _).trans ?_
  refine (R_cx PT GR hRk PT_220 rfl rfl rfl rfl rfl).trans ?_
  refine bind_cong (fun q2 => ?_)
  refine (R_blk PT GR (k := 222) (code := cd222) rfl [] 400 _).trans ?_
  exact R_retI PT GR rfl rfl
set_option maxRecDepth 20000 in
theorem R_dustOf_eq (a1 : Int32) (S : pS) : R_dustOf a1 S = (R_ageOf a1 S).bind (fun q1 => (R_lawTells a1 (1 : Int32) (q1.1 / (9 : Int32)) (99 : Int32) q1.2).bind (fun q2 => some (q2.1, q2.2))) := by
  show Res PT GR (rkT 223) 223 (cd223, [.ref 0, .int a1], [], S) = _
  refine (R_blk PT GR (k := 223) (code := cd223) rfl [] 400 _).trans ?_
  refine (R_cx PT GR hRk PT_221 rfl rfl rfl rfl rfl).trans ?_
  refine bind_cong (fun q1 => ?_)
  refine (R_blk PT GR (k := 223) (code := cd223) rfl [] 400 _).trans ?_
  refine brF (by decide) ?_
  refine (R_cx PT GR hRk PT_220 rfl rfl rfl rfl rfl).trans ?_
  refine bind_cong (fun q2 => ?_)
  refine (R_blk PT GR (k := 223) (code := cd223) rfl [] 400 _).trans ?_
  exact R_retI PT GR rfl rfl
set_option maxRecDepth 20000 in
theorem R_worthOf_eq (a1 : Int32) (S : pS) : R_worthOf a1 S = (R_ageOf a1 S).bind (fun q1 => (R_lawTells a1 (2 : Int32) ((99 : Int32) - q1.1) (999 : Int32) q1.2).bind (fun q2 => some (q2.1, q2.2))) := by
  show Res PT GR (rkT 224) 224 (cd224, [.ref 0, .int a1], [], S) = _
  refine (R_blk PT GR (k := 224) (code := cd224) rfl [] 400 _).trans ?_
  refine (R_cx PT GR hRk PT_221 rfl rfl rfl rfl rfl).trans ?_
  refine bind_cong (fun q1 => ?_)
  refine (R_blk PT GR (k := 224) (code := cd224) rfl [] 400 _).trans ?_
  refine (R_cx PT GR hRk PT_220 rfl rfl rfl rfl rfl).trans ?_
  refine bind_cong (fun q2 => ?_)
  refine (R_blk PT GR (k := 224) (code := cd224) rfl [] 400 _).trans ?_
  exact R_retI PT GR rfl rfl
set_option maxRecDepth 20000 in
theorem R_introducer_eq (a1 : Int32) (S : pS) : R_introducer a1 S = if inb a1 24 = true then (some (((rA S 18 a1) - (1 : Int32)), S)) else (none) := by
  show Res PT GR (rkT 177) 177 (cd177, [.ref 0, .int a1], [], S) = _
  refine (R_blk PT GR (k := 177) (code := cd177) rfl [] 400 _).trans ?_
  refine br_cong ?_ ?_
  · exact R_retI PT GR rfl rfl
  · rfl
set_option maxRecDepth 20000 in
theorem R_thinks_eq (S : pS) : R_thinks S = R_thinks_c2 (0 : Int32) S := by
  show Res PT GR (rkT 169) 169 (cd169, [.ref 0, .null], [], S) = _
  exact (R_blk PT GR (k := 169) (code := cd169) rfl [2] 400 _).trans rfl
set_option maxRecDepth 20000 in
theorem R_thinks_c2_eq (l1 : Int32) (S : pS) : R_thinks_c2 l1 S = if l1 < (76 : Int32) then (if inb l1 76 = true then (if inb l1 76 = true then (R_thinks_c2 (l1 + (1 : Int32)) (wA S 3 l1 (rA S 1 l1))) else (none)) else (none)) else (some (0, (wF S 0 5 (1 : Int32)))) := by
  show Res PT GR (rkT 169) 169 (pCut cd169 2, [.ref 0, .int l1], [], S) = _
  refine (R_reg PT GR (k := 169) (code := cd169) rfl [2] 400).trans ?_
  refine br_cong ?_ ?_
  · refine br_cong ?_ ?_
    · refine br_cong ?_ ?_
      · rfl
      · rfl
    · rfl
  · refine brT (by decide) ?_
    exact R_retV PT GR rfl
set_option maxRecDepth 20000 in
theorem R_keptSet_eq (S : pS) : R_keptSet S = R_keptSet_c4 (0 : Int32) (0 : Int32) S := by
  show Res PT GR (rkT 176) 176 (cd176, [.ref 0, .null, .null], [], S) = _
  exact (R_blk PT GR (k := 176) (code := cd176) rfl [4] 400 _).trans rfl
set_option maxRecDepth 20000 in
theorem R_keptSet_c4_eq (l1 : Int32) (l2 : Int32) (S : pS) : R_keptSet_c4 l1 l2 S = if l2 < (rF S 0 6) then ((R_isKept l2 S).bind (fun q1 => if q1.1 = 0 then (R_keptSet_c4 l1 (l2 + (1 : Int32)) q1.2) else (R_keptSet_c4 (l1 ||| ((1 : Int32) <<< (l2 &&& 31))) (l2 + (1 : Int32)) q1.2))) else (some (l1, S)) := by
  show Res PT GR (rkT 176) 176 (pCut cd176 4, [.ref 0, .int l1, .int l2], [], S) = _
  refine (R_reg PT GR (k := 176) (code := cd176) rfl [4] 400).trans ?_
  refine br_cong ?_ ?_
  · refine (R_cx PT GR hRk PT_175 rfl rfl rfl rfl rfl).trans ?_
    refine bind_cong (fun q1 => ?_)
    refine (R_blk PT GR (k := 176) (code := cd176) rfl [4] 400 _).trans ?_
    refine br_cong ?_ ?_
    · rfl
    · rfl
  · exact R_retI PT GR rfl rfl
set_option maxRecDepth 20000 in
theorem R_onesOf_eq (a1 : Int32) (S : pS) : R_onesOf a1 S = R_onesOf_c4 (0 : Int32) a1 S := by
  show Res PT GR (rkT 165) 165 (cd165, [.ref 0, .int a1, .null, .null], [], S) = _
  exact (R_blk PT GR (k := 165) (code := cd165) rfl [4] 400 _).trans rfl
set_option maxRecDepth 20000 in
theorem R_onesOf_c4_eq (l2 : Int32) (l3 : Int32) (S : pS) : R_onesOf_c4 l2 l3 S = if l3 = 0 then (some (l2, S)) else (R_onesOf_c4 (l2 + (1 : Int32)) (l3 &&& (l3 - (1 : Int32))) S) := by
  show Res PT GR (rkT 165) 165 (pCut cd165 4, [.null, .null, .int l2, .int l3], [], S) = _
  refine (R_reg PT GR (k := 165) (code := cd165) rfl [4] 400).trans ?_
  refine br_cong ?_ ?_
  · exact R_retI PT GR rfl rfl
  · rfl
set_option maxRecDepth 20000 in
theorem R_endsThought_eq (S : pS) : R_endsThought S = R_endsThought_c2 (0 : Int32) S := by
  show Res PT GR (rkT 170) 170 (cd170, [.ref 0, .null], [], S) = _
  exact (R_blk PT GR (k := 170) (code := cd170) rfl [2] 400 _).trans rfl
set_option maxRecDepth 20000 in
theorem R_endsThought_c2_eq (l1 : Int32) (S : pS) : R_endsThought_c2 l1 S = if l1 < (76 : Int32) then (if inb l1 76 = true then (if inb l1 76 = true then (R_endsThought_c2 (l1 + (1 : Int32)) (wA S 1 l1 (rA S 3 l1))) else (none)) else (none)) else (some (0, (wF S 0 5 (0 : Int32)))) := by
  show Res PT GR (rkT 170) 170 (pCut cd170 2, [.ref 0, .int l1], [], S) = _
  refine (R_reg PT GR (k := 170) (code := cd170) rfl [2] 400).trans ?_
  refine br_cong ?_ ?_
  · refine br_cong ?_ ?_
    · refine br_cong ?_ ?_
      · rfl
      · rfl
    · rfl
  · refine brT (by decide) ?_
    exact R_retV PT GR rfl
set_option maxRecDepth 20000 in
theorem R_canBeDated_eq (S : pS) : R_canBeDated S = R_canBeDated_c2 (0 : Int32) S := by
  show Res PT GR (rkT 247) 247 (cd247, [.ref 0, .null, .null], [], S) = _
  exact (R_blk PT GR (k := 247) (code := cd247) rfl [2, 55, 65, 161] 400 _).trans rfl
set_option maxRecDepth 20000 in
theorem R_canBeDated_c2_eq (l1 : Int32) (S : pS) : R_canBeDated_c2 l1 S = if l1 < (rF S 0 6) then (if inb l1 14 = true then (if inb (rA S 5 l1) 16 = true then (if inb l1 14 = true then (if inb l1 14 = true then (if inb (rA S 5 l1) 16 = true then (if inb l1 14 = true then (R_canBeDated_c2 (l1 + (1 : Int32)) (wA (wA S 26 l1 (rA S 19 (rA S 5 l1))) 27 l1 ((rA S 20 (rA S 5 l1)) + (99 : Int32)))) else (none)) else (none)) else (none)) else (none)) else (none)) else (none)) else (R_canBeDated_c55 (0 : Int32) S) := by
  show Res PT GR (rkT 247) 247 (pCut cd247 2, [.ref 0, .int l1, .null], [], S) = _
  refine (R_reg PT GR (k := 247) (code := cd247) rfl [2, 55, 65, 161] 400).trans ?_
  refine br_cong ?_ ?_
  · refine br_cong ?_ ?_
    · refine br_cong ?_ ?_
      · refine br_cong ?_ ?_
        · refine br_cong ?_ ?_
          · refine br_cong ?_ ?_
            · refine br_cong ?_ ?_
              · rfl
              · rfl
            · rfl
          · rfl
        · rfl
      · rfl
    · rfl
  · rfl
set_option maxRecDepth 20000 in
theorem R_canBeDated_c55_eq (l1 : Int32) (S : pS) : R_canBeDated_c55 l1 S = if l1 ≤ (rF S 0 6) then (R_canBeDated_c65 l1 (0 : Int32) S) else (R_canBeDated_c161 (0 : Int32) S) := by
  show Res PT GR (rkT 247) 247 (pCut cd247 55, [.ref 0, .int l1, .null], [], S) = _
  refine (R_reg PT GR (k := 247) (code := cd247) rfl [2, 55, 65, 161] 400).trans ?_
  refine br_cong ?_ ?_
  · rfl
  · rfl
set_option maxRecDepth 20000 in
theorem R_canBeDated_c65_eq (l1 : Int32) (l2 : Int32) (S : pS) : R_canBeDated_c65 l1 l2 S = if l2 < (rF S 0 43) then (if inb l2 12 = true then (if inb l2 12 = true then (if inb (rA S 25 l2) 14 = true then (if inb l2 12 = true then (if inb (rA S 24 l2) 14 = true then ((R_greater (rA S 26 (rA S 25 l2)) (rA S 26 (rA S 24 l2)) S).bind (fun q1 => if inb (rA S 25 l2) 14 = true then (if inb l2 12 = true then (if inb l2 12 = true then (if inb (rA q1.2 24 l2) 14 = true then (if inb l2 12 = true then (if inb (rA q1.2 25 l2) 14 = true then ((R_lesser (rA q1.2 27 (rA q1.2 24 l2)) (rA q1.2 27 (rA q1.2 25 l2)) (wA q1.2 26 (rA S 25 l2) q1.1)).bind (fun q2 => if inb (rA q1.2 24 l2) 14 = true then (R_canBeDated_c65 l1 (l2 + (1 : Int32)) (wA q2.2 27 (rA q1.2 24 l2) q2.1)) else (none))) else (none)) else (none)) else (none)) else (none)) else (none)) else (none))) else (none)) else (none)) else (none)) else (none)) else (none)) else (R_canBeDated_c55 (l1 + (1 : Int32)) S) := by
  show Res PT GR (rkT 247) 247 (pCut cd247 65, [.ref 0, .int l1, .int l2], [], S) = _
  refine (R_reg PT GR (k := 247) (code := cd247) rfl [2, 55, 65, 161] 400).trans ?_
  refine br_cong ?_ ?_
  · refine br_cong ?_ ?_
    · refine br_cong ?_ ?_
      · refine br_cong ?_ ?_
        · refine br_cong ?_ ?_
          · refine br_cong ?_ ?_
            · refine (R_cx PT GR hRk PT_163 rfl rfl rfl rfl rfl).trans ?_
              refine bind_cong (fun q1 => ?_)
              refine (R_blk PT GR (k := 247) (code := cd247) rfl [2, 55, 65, 161] 400 _).trans ?_
              refine br_cong ?_ ?_
              · refine br_cong ?_ ?_
                · refine br_cong ?_ ?_
                  · refine br_cong ?_ ?_
                    · refine br_cong ?_ ?_
                      · refine br_cong ?_ ?_
                        · refine (R_cx PT GR hRk PT_164 rfl rfl rfl rfl rfl).trans ?_
                          refine bind_cong (fun q2 => ?_)
                          refine (R_blk PT GR (k := 247) (code := cd247) rfl [2, 55, 65, 161] 400 _).trans ?_
                          refine br_cong ?_ ?_
                          · rfl
                          · rfl
                        · rfl
                      · rfl
                    · rfl
                  · rfl
                · rfl
              · rfl
            · rfl
          · rfl
        · rfl
      · rfl
    · rfl
  · rfl
set_option maxRecDepth 20000 in
theorem R_canBeDated_c161_eq (l1 : Int32) (S : pS) : R_canBeDated_c161 l1 S = if l1 < (rF S 0 6) then (if inb l1 14 = true then (if inb l1 14 = true then (if (rA S 26 l1) ≤ (rA S 27 l1) then (R_canBeDated_c161 (l1 + (1 : Int32)) S) else (some ((0 : Int32), S))) else (none)) else (none)) else (some ((1 : Int32), S)) := by
  show Res PT GR (rkT 247) 247 (pCut cd247 161, [.ref 0, .int l1, .null], [], S) = _
  refine (R_reg PT GR (k := 247) (code := cd247) rfl [2, 55, 65, 161] 400).trans ?_
  refine br_cong ?_ ?_
  · refine br_cong ?_ ?_
    · refine br_cong ?_ ?_
      · refine br_cong ?_ ?_
        · rfl
        · exact R_retI PT GR rfl rfl
      · rfl
    · rfl
  · exact R_retI PT GR rfl rfl
set_option maxRecDepth 20000 in
theorem R_ownersOf_eq (a1 : Int32) (S : pS) : R_ownersOf a1 S = R_ownersOf_c4 a1 (0 : Int32) (0 : Int32) S := by
  show Res PT GR (rkT 252) 252 (cd252, [.ref 0, .int a1, .null, .null], [], S) = _
  exact (R_blk PT GR (k := 252) (code := cd252) rfl [4] 400 _).trans rfl
set_option maxRecDepth 20000 in
theorem R_ownersOf_c4_eq (l1 : Int32) (l2 : Int32) (l3 : Int32) (S : pS) : R_ownersOf_c4 l1 l2 l3 S = if l3 < (rF S 0 6) then ((R_isKept l3 S).bind (fun q1 => if q1.1 = 0 then (R_ownersOf_c4 l1 l2 (l3 + (1 : Int32)) q1.2) else (if inb l3 14 = true then (if (rA q1.2 6 l3) = l1 then (if inb l3 14 = true then (R_ownersOf_c4 l1 (l2 ||| ((1 : Int32) <<< ((rA q1.2 4 l3) &&& 31))) (l3 + (1 : Int32)) q1.2) else (none)) else (R_ownersOf_c4 l1 l2 (l3 + (1 : Int32)) q1.2)) else (none)))) else (some (l2, S)) := by
  show Res PT GR (rkT 252) 252 (pCut cd252 4, [.ref 0, .int l1, .int l2, .int l3], [], S) = _
  refine (R_reg PT GR (k := 252) (code := cd252) rfl [4] 400).trans ?_
  refine br_cong ?_ ?_
  · refine (R_cx PT GR hRk PT_175 rfl rfl rfl rfl rfl).trans ?_
    refine bind_cong (fun q1 => ?_)
    refine (R_blk PT GR (k := 252) (code := cd252) rfl [4] 400 _).trans ?_
    refine br_cong ?_ ?_
    · rfl
    · refine br_cong ?_ ?_
      · refine br_cong ?_ ?_
        · refine br_cong ?_ ?_
          · rfl
          · rfl
        · rfl
      · rfl
  · exact R_retI PT GR rfl rfl
set_option maxRecDepth 20000 in
theorem R_besideAll_eq (a1 : Int32) (S : pS) : R_besideAll a1 S = R_besideAll_c4 a1 (0 : Int32) (0 : Int32) S := by
  show Res PT GR (rkT 250) 250 (cd250, [.ref 0, .int a1, .null, .null], [], S) = _
  exact (R_blk PT GR (k := 250) (code := cd250) rfl [4] 400 _).trans rfl
set_option maxRecDepth 20000 in
theorem R_besideAll_c4_eq (l1 : Int32) (l2 : Int32) (l3 : Int32) (S : pS) : R_besideAll_c4 l1 l2 l3 S = if l3 < (12 : Int32) then ((R_has l1 l3 S).bind (fun q1 => if q1.1 = 0 then (R_besideAll_c4 l1 l2 (l3 + (1 : Int32)) q1.2) else ((R_besideOf l3 q1.2).bind (fun q2 => R_besideAll_c4 l1 (l2 ||| q2.1) (l3 + (1 : Int32)) q2.2)))) else (some (l2, S)) := by
  show Res PT GR (rkT 250) 250 (pCut cd250 4, [.ref 0, .int l1, .int l2, .int l3], [], S) = _
  refine (R_reg PT GR (k := 250) (code := cd250) rfl [4] 400).trans ?_
  refine br_cong ?_ ?_
  · refine (R_cx PT GR hRk PT_166 rfl rfl rfl rfl rfl).trans ?_
    refine bind_cong (fun q1 => ?_)
    refine (R_blk PT GR (k := 250) (code := cd250) rfl [4] 400 _).trans ?_
    refine br_cong ?_ ?_
    · rfl
    · refine (R_cx PT GR hRk PT_249 rfl rfl rfl rfl rfl).trans ?_
      refine bind_cong (fun q2 => ?_)
      exact (R_blk PT GR (k := 250) (code := cd250) rfl [4] 400 _).trans rfl
  · exact R_retI PT GR rfl rfl
set_option maxRecDepth 20000 in
theorem R_lowest_eq (a1 : Int32) (S : pS) : R_lowest a1 S = R_lowest_c2 a1 (0 : Int32) S := by
  show Res PT GR (rkT 251) 251 (cd251, [.ref 0, .int a1, .null], [], S) = _
  exact (R_blk PT GR (k := 251) (code := cd251) rfl [2] 400 _).trans rfl
set_option maxRecDepth 20000 in
theorem R_lowest_c2_eq (l1 : Int32) (l2 : Int32) (S : pS) : R_lowest_c2 l1 l2 S = (R_has l1 l2 S).bind (fun q1 => if q1.1 = 0 then (R_lowest_c2 l1 (l2 + (1 : Int32)) q1.2) else (some (l2, q1.2))) := by
  show Res PT GR (rkT 251) 251 (pCut cd251 2, [.ref 0, .int l1, .int l2], [], S) = _
  refine (R_reg PT GR (k := 251) (code := cd251) rfl [2] 400).trans ?_
  refine (R_cx PT GR hRk PT_166 rfl rfl rfl rfl rfl).trans ?_
  refine bind_cong (fun q1 => ?_)
  refine (R_blk PT GR (k := 251) (code := cd251) rfl [2] 400 _).trans ?_
  refine br_cong ?_ ?_
  · rfl
  · exact R_retI PT GR rfl rfl
set_option maxRecDepth 20000 in
theorem R_ledBy_eq (a1 : Int32) (S : pS) : R_ledBy a1 S = R_ledBy_c4 a1 (0 : Int32) (-1 : Int32) S := by
  show Res PT GR (rkT 254) 254 (cd254, [.ref 0, .int a1, .null, .null, .null], [], S) = _
  exact (R_blk PT GR (k := 254) (code := cd254) rfl [4, 14, 55] 400 _).trans rfl
set_option maxRecDepth 20000 in
theorem R_ledBy_c4_eq (l1 : Int32) (l2 : Int32) (l3 : Int32) (S : pS) : R_ledBy_c4 l1 l2 l3 S = if l3 = l2 then (some ((l2 &&& (((1 : Int32) <<< (l1 &&& 31)) ^^^ (-1 : Int32))), S)) else (R_ledBy_c14 l1 l2 l2 (0 : Int32) S) := by
  show Res PT GR (rkT 254) 254 (pCut cd254 4, [.ref 0, .int l1, .int l2, .int l3, .null], [], S) = _
  refine (R_reg PT GR (k := 254) (code := cd254) rfl [4, 14, 55] 400).trans ?_
  refine br_cong ?_ ?_
  · exact R_retI PT GR rfl rfl
  · rfl
set_option maxRecDepth 20000 in
theorem R_ledBy_c14_eq (l1 : Int32) (l2 : Int32) (l3 : Int32) (l4 : Int32) (S : pS) : R_ledBy_c14 l1 l2 l3 l4 S = if l4 < (12 : Int32) then ((R_introducer l4 S).bind (fun q1 => if q1.1 = (-1 : Int32) then (R_ledBy_c14 l1 l2 l3 (l4 + (1 : Int32)) q1.2) else ((R_introducer l4 q1.2).bind (fun q2 => if q2.1 = l1 then (R_ledBy_c55 l1 l2 l3 l4 q2.2) else ((R_introducer l4 q2.2).bind (fun q3 => (R_has l3 q3.1 q3.2).bind (fun q4 => if q4.1 = 0 then (R_ledBy_c14 l1 l2 l3 (l4 + (1 : Int32)) q4.2) else (R_ledBy_c55 l1 l2 l3 l4 q4.2)))))))) else (R_ledBy_c4 l1 l2 l3 S) := by
  show Res PT GR (rkT 254) 254 (pCut cd254 14, [.ref 0, .int l1, .int l2, .int l3, .int l4], [], S) = _
  refine (R_reg PT GR (k := 254) (code := cd254) rfl [4, 14, 55] 400).trans ?_
  refine br_cong ?_ ?_
  · refine (R_cx PT GR hRk PT_177 rfl rfl rfl rfl rfl).trans ?_
    refine bind_cong (fun q1 => ?_)
    refine (R_blk PT GR (k := 254) (code := cd254) rfl [4, 14, 55] 400 _).trans ?_
    refine br_cong ?_ ?_
    · rfl
    · refine (R_cx PT GR hRk PT_177 rfl rfl rfl rfl rfl).trans ?_
      refine bind_cong (fun q2 => ?_)
      refine (R_blk PT GR (k := 254) (code := cd254) rfl [4, 14, 55] 400 _).trans ?_
      refine br_cong ?_ ?_
      · rfl
      · refine (R_cx PT GR hRk PT_177 rfl rfl rfl rfl rfl).trans ?_
        refine bind_cong (fun q3 => ?_)
        refine (R_blk PT GR (k := 254) (code := cd254) rfl [4, 14, 55] 400 _).trans ?_
        refine (R_cx PT GR hRk PT_166 rfl rfl rfl rfl rfl).trans ?_
        refine bind_cong (fun q4 => ?_)
        refine (R_blk PT GR (k := 254) (code := cd254) rfl [4, 14, 55] 400 _).trans ?_
        refine br_cong ?_ ?_
        · rfl
        · rfl
  · rfl
set_option maxRecDepth 20000 in
theorem R_ledBy_c55_eq (l1 : Int32) (l2 : Int32) (l3 : Int32) (l4 : Int32) (S : pS) : R_ledBy_c55 l1 l2 l3 l4 S = R_ledBy_c14 l1 (l2 ||| ((1 : Int32) <<< (l4 &&& 31))) l3 (l4 + (1 : Int32)) S := by
  show Res PT GR (rkT 254) 254 (pCut cd254 55, [.ref 0, .int l1, .int l2, .int l3, .int l4], [], S) = _
  exact (R_reg PT GR (k := 254) (code := cd254) rfl [4, 14, 55] 400).trans rfl
set_option maxRecDepth 20000 in
theorem R_has_eq (a1 : Int32) (a2 : Int32) (S : pS) : R_has a1 a2 S = if ((a1 >>> (a2 &&& 31)) &&& (1 : Int32)) = (1 : Int32) then (some ((1 : Int32), S)) else (some ((0 : Int32), S)) := by
  show Res PT GR (rkT 166) 166 (cd166, [.ref 0, .int a1, .int a2], [], S) = _
  refine (R_blk PT GR (k := 166) (code := cd166) rfl [] 400 _).trans ?_
  refine br_cong ?_ ?_
  · exact R_retI PT GR rfl rfl
  · exact R_retI PT GR rfl rfl
set_option maxRecDepth 20000 in
theorem R_known_eq (S : pS) : R_known S = R_known_c4 (0 : Int32) (0 : Int32) S := by
  show Res PT GR (rkT 257) 257 (cd257, [.ref 0, .null, .null], [], S) = _
  exact (R_blk PT GR (k := 257) (code := cd257) rfl [4, 39] 400 _).trans rfl
set_option maxRecDepth 20000 in
theorem R_known_c4_eq (l1 : Int32) (l2 : Int32) (S : pS) : R_known_c4 l1 l2 S = if l2 < (rF S 0 6) then ((R_isKept l2 S).bind (fun q1 => if q1.1 = 0 then (R_known_c4 l1 (l2 + (1 : Int32)) q1.2) else (if inb l2 14 = true then (R_known_c4 (l1 ||| ((1 : Int32) <<< ((rA q1.2 4 l2) &&& 31))) (l2 + (1 : Int32)) q1.2) else (none)))) else (R_known_c39 l1 (0 : Int32) S) := by
  show Res PT GR (rkT 257) 257 (pCut cd257 4, [.ref 0, .int l1, .int l2], [], S) = _
  refine (R_reg PT GR (k := 257) (code := cd257) rfl [4, 39] 400).trans ?_
  refine br_cong ?_ ?_
  · refine (R_cx PT GR hRk PT_175 rfl rfl rfl rfl rfl).trans ?_
    refine bind_cong (fun q1 => ?_)
    refine (R_blk PT GR (k := 257) (code := cd257) rfl [4, 39] 400 _).trans ?_
    refine br_cong ?_ ?_
    · rfl
    · refine br_cong ?_ ?_
      · rfl
      · rfl
  · rfl
set_option maxRecDepth 20000 in
theorem R_known_c39_eq (l1 : Int32) (l2 : Int32) (S : pS) : R_known_c39 l1 l2 S = if l2 < (12 : Int32) then ((R_introducer l2 S).bind (fun q2 => if q2.1 = (-1 : Int32) then (R_known_c39 l1 (l2 + (1 : Int32)) q2.2) else ((R_introducer l2 q2.2).bind (fun q3 => R_known_c39 ((l1 ||| ((1 : Int32) <<< (l2 &&& 31))) ||| ((1 : Int32) <<< (q3.1 &&& 31))) (l2 + (1 : Int32)) q3.2)))) else (some ((l1 &&& (-2 : Int32)), S)) := by
  show Res PT GR (rkT 257) 257 (pCut cd257 39, [.ref 0, .int l1, .int l2], [], S) = _
  refine (R_reg PT GR (k := 257) (code := cd257) rfl [4, 39] 400).trans ?_
  refine br_cong ?_ ?_
  · refine (R_cx PT GR hRk PT_177 rfl rfl rfl rfl rfl).trans ?_
    refine bind_cong (fun q2 => ?_)
    refine (R_blk PT GR (k := 257) (code := cd257) rfl [4, 39] 400 _).trans ?_
    refine br_cong ?_ ?_
    · rfl
    · refine (R_cx PT GR hRk PT_177 rfl rfl rfl rfl rfl).trans ?_
      refine bind_cong (fun q3 => ?_)
      exact (R_blk PT GR (k := 257) (code := cd257) rfl [4, 39] 400 _).trans rfl
  · exact R_retI PT GR rfl rfl
set_option maxRecDepth 20000 in
theorem R_foundBy_eq (a1 : Int32) (S : pS) : R_foundBy a1 S = R_foundBy_c4 a1 (0 : Int32) (0 : Int32) S := by
  show Res PT GR (rkT 263) 263 (cd263, [.ref 0, .int a1, .null, .null], [], S) = _
  exact (R_blk PT GR (k := 263) (code := cd263) rfl [4] 400 _).trans rfl
set_option maxRecDepth 20000 in
theorem R_foundBy_c4_eq (l1 : Int32) (l2 : Int32) (l3 : Int32) (S : pS) : R_foundBy_c4 l1 l2 l3 S = if l3 < (rF S 0 49) then ((R_answersIn l1 l3 S).bind (fun q1 => if q1.1 ≤ 0 then (R_foundBy_c4 l1 l2 (l3 + (1 : Int32)) q1.2) else (R_foundBy_c4 l1 (l2 + (1 : Int32)) (l3 + (1 : Int32)) q1.2))) else (some (l2, S)) := by
  show Res PT GR (rkT 263) 263 (pCut cd263 4, [.ref 0, .int l1, .int l2, .int l3], [], S) = _
  refine (R_reg PT GR (k := 263) (code := cd263) rfl [4] 400).trans ?_
  refine br_cong ?_ ?_
  · refine (R_cx PT GR hRk PT_262 rfl rfl rfl rfl rfl).trans ?_
    refine bind_cong (fun q1 => ?_)
    refine (R_blk PT GR (k := 263) (code := cd263) rfl [4] 400 _).trans ?_
    refine br_cong ?_ ?_
    · rfl
    · rfl
  · exact R_retI PT GR rfl rfl
set_option maxRecDepth 20000 in
theorem R_lookedAt_eq (a1 : Int32) (S : pS) : R_lookedAt a1 S = R_lookedAt_c4 a1 (0 : Int32) (0 : Int32) S := by
  show Res PT GR (rkT 265) 265 (cd265, [.ref 0, .int a1, .null, .null], [], S) = _
  exact (R_blk PT GR (k := 265) (code := cd265) rfl [4] 400 _).trans rfl
set_option maxRecDepth 20000 in
theorem R_lookedAt_c4_eq (l1 : Int32) (l2 : Int32) (l3 : Int32) (S : pS) : R_lookedAt_c4 l1 l2 l3 S = if l3 < (rF S 0 49) then (if inb l3 10 = true then (if (rA S 29 l3) = l1 then ((R_keptSet S).bind (fun q1 => (R_answersIn q1.1 l3 q1.2).bind (fun q2 => R_lookedAt_c4 l1 (l2 + q2.1) (l3 + (1 : Int32)) q2.2))) else ((R_keptSet S).bind (fun q3 => (R_onesOf q3.1 q3.2).bind (fun q4 => R_lookedAt_c4 l1 (l2 + q4.1) (l3 + (1 : Int32)) q4.2)))) else (none)) else (some (l2, S)) := by
  show Res PT GR (rkT 265) 265 (pCut cd265 4, [.ref 0, .int l1, .int l2, .int l3], [], S) = _
  refine (R_reg PT GR (k := 265) (code := cd265) rfl [4] 400).trans ?_
  refine br_cong ?_ ?_
  · refine br_cong ?_ ?_
    · refine br_cong ?_ ?_
      · refine (R_cx PT GR hRk PT_176 rfl rfl rfl rfl rfl).trans ?_
        refine bind_cong (fun q1 => ?_)
        refine (R_blk PT GR (k := 265) (code := cd265) rfl [4] 400 _).trans ?_
        refine (R_cx PT GR hRk PT_262 rfl rfl rfl rfl rfl).trans ?_
        refine bind_cong (fun q2 => ?_)
        exact (R_blk PT GR (k := 265) (code := cd265) rfl [4] 400 _).trans rfl
      · refine (R_cx PT GR hRk PT_176 rfl rfl rfl rfl rfl).trans ?_
        refine bind_cong (fun q3 => ?_)
        refine (R_blk PT GR (k := 265) (code := cd265) rfl [4] 400 _).trans ?_
        refine (R_cx PT GR hRk PT_165 rfl rfl rfl rfl rfl).trans ?_
        refine bind_cong (fun q4 => ?_)
        exact (R_blk PT GR (k := 265) (code := cd265) rfl [4] 400 _).trans rfl
    · rfl
  · exact R_retI PT GR rfl rfl
set_option maxRecDepth 20000 in
theorem R_tellsApart_eq (a1 : Int32) (S : pS) : R_tellsApart a1 S = R_tellsApart_c2 a1 (0 : Int32) S := by
  show Res PT GR (rkT 268) 268 (cd268, [.ref 0, .int a1, .null, .null], [], S) = _
  exact (R_blk PT GR (k := 268) (code := cd268) rfl [2, 12] 400 _).trans rfl
set_option maxRecDepth 20000 in
theorem R_tellsApart_c2_eq (l1 : Int32) (l2 : Int32) (S : pS) : R_tellsApart_c2 l1 l2 S = if l2 < (rF S 0 6) then (R_tellsApart_c12 l1 l2 (0 : Int32) S) else (some ((1 : Int32), S)) := by
  show Res PT GR (rkT 268) 268 (pCut cd268 2, [.ref 0, .int l1, .int l2, .null], [], S) = _
  refine (R_reg PT GR (k := 268) (code := cd268) rfl [2, 12] 400).trans ?_
  refine br_cong ?_ ?_
  · rfl
  · exact R_retI PT GR rfl rfl
set_option maxRecDepth 20000 in
theorem R_tellsApart_c12_eq (l1 : Int32) (l2 : Int32) (l3 : Int32) (S : pS) : R_tellsApart_c12 l1 l2 l3 S = if l3 < l2 then ((R_isKept l2 S).bind (fun q1 => if q1.1 = 0 then (R_tellsApart_c12 l1 l2 (l3 + (1 : Int32)) q1.2) else ((R_isKept l3 q1.2).bind (fun q2 => if q2.1 = 0 then (R_tellsApart_c12 l1 l2 (l3 + (1 : Int32)) q2.2) else ((R_areAlike l2 l3 l1 q2.2).bind (fun q3 => if q3.1 = 0 then (R_tellsApart_c12 l1 l2 (l3 + (1 : Int32)) q3.2) else (some ((0 : Int32), q3.2)))))))) else (R_tellsApart_c2 l1 (l2 + (1 : Int32)) S) := by
  show Res PT GR (rkT 268) 268 (pCut cd268 12, [.ref 0, .int l1, .int l2, .int l3], [], S) = _
  refine (R_reg PT GR (k := 268) (code := cd268) rfl [2, 12] 400).trans ?_
  refine br_cong ?_ ?_
  · refine (R_cx PT GR hRk PT_175 rfl rfl rfl rfl rfl).trans ?_
    refine bind_cong (fun q1 => ?_)
    refine (R_blk PT GR (k := 268) (code := cd268) rfl [2, 12] 400 _).trans ?_
    refine br_cong ?_ ?_
    · rfl
    · refine (R_cx PT GR hRk PT_175 rfl rfl rfl rfl rfl).trans ?_
      refine bind_cong (fun q2 => ?_)
      refine (R_blk PT GR (k := 268) (code := cd268) rfl [2, 12] 400 _).trans ?_
      refine br_cong ?_ ?_
      · rfl
      · refine (R_cx PT GR hRk PT_267 rfl rfl rfl rfl rfl).trans ?_
        refine bind_cong (fun q3 => ?_)
        refine (R_blk PT GR (k := 268) (code := cd268) rfl [2, 12] 400 _).trans ?_
        refine br_cong ?_ ?_
        · rfl
        · exact R_retI PT GR rfl rfl
  · rfl
set_option maxRecDepth 20000 in
theorem R_isAhead_eq (a1 : Int32) (a2 : Int32) (S : pS) : R_isAhead a1 a2 S = if inb ((6 : Int32) + a1) 76 = true then (if inb ((6 : Int32) + a2) 76 = true then (if (rA S 1 ((6 : Int32) + a1)) < (rA S 1 ((6 : Int32) + a2)) then (some ((1 : Int32), S)) else (if inb ((6 : Int32) + a1) 76 = true then (if inb ((6 : Int32) + a2) 76 = true then (if (rA S 1 ((6 : Int32) + a1)) = (rA S 1 ((6 : Int32) + a2)) then (if a1 < a2 then (some ((1 : Int32), S)) else (some ((0 : Int32), S))) else (some ((0 : Int32), S))) else (none)) else (none))) else (none)) else (none) := by
  show Res PT GR (rkT 270) 270 (cd270, [.ref 0, .int a1, .int a2], [], S) = _
  refine (R_blk PT GR (k := 270) (code := cd270) rfl [] 400 _).trans ?_
  refine br_cong ?_ ?_
  · refine br_cong ?_ ?_
    · refine br_cong ?_ ?_
      · exact R_retI PT GR rfl rfl
      · refine br_cong ?_ ?_
        · refine br_cong ?_ ?_
          · refine br_cong ?_ ?_
            · refine br_cong ?_ ?_
              · exact R_retI PT GR rfl rfl
              · exact R_retI PT GR rfl rfl
            · exact R_retI PT GR rfl rfl
          · rfl
        · rfl
    · rfl
  · rfl
set_option maxRecDepth 20000 in
theorem R_inCommon_eq (a1 : Int32) (a2 : Int32) (S : pS) : R_inCommon a1 a2 S = R_inCommon_c5 a1 a2 (0 : Int32) (0 : Int32) S := by
  show Res PT GR (rkT 272) 272 (cd272, [.ref 0, .int a1, .int a2, .null, .null], [], S) = _
  exact (R_blk PT GR (k := 272) (code := cd272) rfl [5] 400 _).trans rfl
set_option maxRecDepth 20000 in
theorem R_inCommon_c5_eq (l1 : Int32) (l2 : Int32) (l3 : Int32) (l4 : Int32) (S : pS) : R_inCommon_c5 l1 l2 l3 l4 S = if l4 < (4 : Int32) then ((R_factOf l1 l4 S).bind (fun q1 => (R_factOf l2 l4 q1.2).bind (fun q2 => if q1.1 = q2.1 then (R_inCommon_c5 l1 l2 (l3 + (1 : Int32)) (l4 + (1 : Int32)) q2.2) else (R_inCommon_c5 l1 l2 l3 (l4 + (1 : Int32)) q2.2)))) else (some (l3, S)) := by
  show Res PT GR (rkT 272) 272 (pCut cd272 5, [.ref 0, .int l1, .int l2, .int l3, .int l4], [], S) = _
  refine (R_reg PT GR (k := 272) (code := cd272) rfl [5] 400).trans ?_
  refine br_cong ?_ ?_
  · refine (R_cx PT GR hRk PT_261 rfl rfl rfl rfl rfl).trans ?_
    refine bind_cong (fun q1 => ?_)
    refine (R_blk PT GR (k := 272) (code := cd272) rfl [5] 400 _).trans ?_
    refine (R_cx PT GR hRk PT_261 rfl rfl rfl rfl rfl).trans ?_
    refine bind_cong (fun q2 => ?_)
    refine (R_blk PT GR (k := 272) (code := cd272) rfl [5] 400 _).trans ?_
    refine br_cong ?_ ?_
    · rfl
    · rfl
  · exact R_retI PT GR rfl rfl
set_option maxRecDepth 20000 in
theorem R_writers_eq (S : pS) : R_writers S = R_writers_c4 (0 : Int32) (0 : Int32) S := by
  show Res PT GR (rkT 277) 277 (cd277, [.ref 0, .null, .null, .null, .null], [], S) = _
  exact (R_blk PT GR (k := 277) (code := cd277) rfl [4, 21] 400 _).trans rfl
set_option maxRecDepth 20000 in
theorem R_writers_c4_eq (l1 : Int32) (l2 : Int32) (S : pS) : R_writers_c4 l1 l2 S = if l2 < (12 : Int32) then ((R_hasSuch l2 (-1 : Int32) (0 : Int32) S).bind (fun q1 => R_writers_c21 l1 l2 q1.1 (0 : Int32) q1.2)) else (some (l1, S)) := by
  show Res PT GR (rkT 277) 277 (pCut cd277 4, [.ref 0, .int l1, .int l2, .null, .null], [], S) = _
  refine (R_reg PT GR (k := 277) (code := cd277) rfl [4, 21] 400).trans ?_
  refine br_cong ?_ ?_
  · refine (R_cx PT GR hRk PT_275 rfl rfl rfl rfl rfl).trans ?_
    refine bind_cong (fun q1 => ?_)
    exact (R_blk PT GR (k := 277) (code := cd277) rfl [4, 21] 400 _).trans rfl
  · exact R_retI PT GR rfl rfl
set_option maxRecDepth 20000 in
theorem R_writers_c21_eq (l1 : Int32) (l2 : Int32) (l3 : Int32) (l4 : Int32) (S : pS) : R_writers_c21 l1 l2 l3 l4 S = if l4 < (rF S 0 52) then ((R_isNoted l2 l4 S).bind (fun q2 => if q2.1 = 0 then (R_writers_c21 l1 l2 (0 : Int32) (l4 + (1 : Int32)) q2.2) else (R_writers_c21 l1 l2 l3 (l4 + (1 : Int32)) q2.2))) else (if l3 = 0 then (R_writers_c4 l1 (l2 + (1 : Int32)) S) else (R_writers_c4 (l1 ||| ((1 : Int32) <<< (l2 &&& 31))) (l2 + (1 : Int32)) S)) := by
  show Res PT GR (rkT 277) 277 (pCut cd277 21, [.ref 0, .int l1, .int l2, .int l3, .int l4], [], S) = _
  refine (R_reg PT GR (k := 277) (code := cd277) rfl [4, 21] 400).trans ?_
  refine br_cong ?_ ?_
  · refine (R_cx PT GR hRk PT_276 rfl rfl rfl rfl rfl).trans ?_
    refine bind_cong (fun q2 => ?_)
    refine (R_blk PT GR (k := 277) (code := cd277) rfl [4, 21] 400 _).trans ?_
    refine br_cong ?_ ?_
    · rfl
    · rfl
  · refine br_cong ?_ ?_
    · rfl
    · rfl
set_option maxRecDepth 20000 in
theorem R_greater_eq (a1 : Int32) (a2 : Int32) (S : pS) : R_greater a1 a2 S = if a1 ≤ a2 then (some (a2, S)) else (some (a1, S)) := by
  show Res PT GR (rkT 163) 163 (cd163, [.ref 0, .int a1, .int a2], [], S) = _
  refine (R_blk PT GR (k := 163) (code := cd163) rfl [] 400 _).trans ?_
  refine br_cong ?_ ?_
  · exact R_retI PT GR rfl rfl
  · exact R_retI PT GR rfl rfl
set_option maxRecDepth 20000 in
theorem R_lesser_eq (a1 : Int32) (a2 : Int32) (S : pS) : R_lesser a1 a2 S = if a1 < a2 then (some (a1, S)) else (some (a2, S)) := by
  show Res PT GR (rkT 164) 164 (cd164, [.ref 0, .int a1, .int a2], [], S) = _
  refine (R_blk PT GR (k := 164) (code := cd164) rfl [] 400 _).trans ?_
  refine br_cong ?_ ?_
  · exact R_retI PT GR rfl rfl
  · exact R_retI PT GR rfl rfl
set_option maxRecDepth 20000 in
theorem R_heapOf_eq (a1 : Int32) (S : pS) : R_heapOf a1 S = R_heapOf_c4 a1 (0 : Int32) (0 : Int32) S := by
  show Res PT GR (rkT 280) 280 (cd280, [.ref 0, .int a1, .null, .null], [], S) = _
  exact (R_blk PT GR (k := 280) (code := cd280) rfl [4] 400 _).trans rfl
set_option maxRecDepth 20000 in
theorem R_heapOf_c4_eq (l1 : Int32) (l2 : Int32) (l3 : Int32) (S : pS) : R_heapOf_c4 l1 l2 l3 S = if l3 < (rF S 0 6) then ((R_isKept l3 S).bind (fun q1 => if q1.1 = 0 then (R_heapOf_c4 l1 l2 (l3 + (1 : Int32)) q1.2) else (if inb l3 14 = true then (if (rA q1.2 5 l3) = l1 then (R_heapOf_c4 l1 (l2 + (1 : Int32)) (l3 + (1 : Int32)) q1.2) else (R_heapOf_c4 l1 l2 (l3 + (1 : Int32)) q1.2)) else (none)))) else (some (l2, S)) := by
  show Res PT GR (rkT 280) 280 (pCut cd280 4, [.ref 0, .int l1, .int l2, .int l3], [], S) = _
  refine (R_reg PT GR (k := 280) (code := cd280) rfl [4] 400).trans ?_
  refine br_cong ?_ ?_
  · refine (R_cx PT GR hRk PT_175 rfl rfl rfl rfl rfl).trans ?_
    refine bind_cong (fun q1 => ?_)
    refine (R_blk PT GR (k := 280) (code := cd280) rfl [4] 400 _).trans ?_
    refine br_cong ?_ ?_
    · rfl
    · refine br_cong ?_ ?_
      · refine br_cong ?_ ?_
        · rfl
        · rfl
      · rfl
  · exact R_retI PT GR rfl rfl
set_option maxRecDepth 20000 in
theorem R_keepsOne_eq (a1 : Int32) (S : pS) : R_keepsOne a1 S = if (rF S 0 56) = 0 then (if inb (((rF S 0 58) + (1 : Int32)) - (1 : Int32)) 1900 = true then (some ((rA S 34 (((rF S 0 58) + (1 : Int32)) - (1 : Int32))), (wF S 0 58 ((rF S 0 58) + (1 : Int32))))) else (none)) else (if inb (((rF S 0 58) + (1 : Int32)) - (1 : Int32)) 1900 = true then (some (a1, (wA (wF S 0 58 ((rF S 0 58) + (1 : Int32))) 34 (((rF S 0 58) + (1 : Int32)) - (1 : Int32)) a1))) else (none)) := by
  show Res PT GR (rkT 282) 282 (cd282, [.ref 0, .int a1], [], S) = _
  refine (R_blk PT GR (k := 282) (code := cd282) rfl [] 400 _).trans ?_
  refine brT (Or.inl rfl) ?_
  refine br_cong ?_ ?_
  · refine br_cong ?_ ?_
    · exact R_retI PT GR rfl rfl
    · rfl
  · refine br_cong ?_ ?_
    · exact R_retI PT GR rfl rfl
    · rfl
set_option maxRecDepth 20000 in
theorem R_keepsTold_eq (S : pS) : R_keepsTold S = (R_keepsOne (rF S 0 6) S).bind (fun q1 => (R_keepsOne (rF q1.2 0 43) (wF q1.2 0 6 q1.1)).bind (fun q2 => (R_keepsOne (rF q2.2 0 49) (wF q2.2 0 43 q2.1)).bind (fun q3 => (R_keepsOne (rF q3.2 0 52) (wF q3.2 0 49 q3.1)).bind (fun q4 => R_keepsTold_c50 (0 : Int32) (wF q4.2 0 52 q4.1))))) := by
  show Res PT GR (rkT 285) 285 (cd285, [.ref 0, .null], [], S) = _
  refine (R_blk PT GR (k := 285) (code := cd285) rfl [50, 112, 158, 204] 400 _).trans ?_
  refine (R_cx PT GR hRk PT_282 rfl rfl rfl rfl rfl).trans ?_
  refine bind_cong (fun q1 => ?_)
  refine (R_blk PT GR (k := 285) (code := cd285) rfl [50, 112, 158, 204] 400 _).trans ?_
  refine brT (Or.inl rfl) ?_
  refine (R_cx PT GR hRk PT_282 rfl rfl rfl rfl rfl).trans ?_
  refine bind_cong (fun q2 => ?_)
  refine (R_blk PT GR (k := 285) (code := cd285) rfl [50, 112, 158, 204] 400 _).trans ?_
  refine brT (Or.inl rfl) ?_
  refine (R_cx PT GR hRk PT_282 rfl rfl rfl rfl rfl).trans ?_
  refine bind_cong (fun q3 => ?_)
  refine (R_blk PT GR (k := 285) (code := cd285) rfl [50, 112, 158, 204] 400 _).trans ?_
  refine brT (Or.inl rfl) ?_
  refine (R_cx PT GR hRk PT_282 rfl rfl rfl rfl rfl).trans ?_
  refine bind_cong (fun q4 => ?_)
  refine (R_blk PT GR (k := 285) (code := cd285) rfl [50, 112, 158, 204] 400 _).trans ?_
  refine brT (Or.inl rfl) ?_
  rfl
set_option maxRecDepth 20000 in
theorem R_keepsTold_c50_eq (l1 : Int32) (S : pS) : R_keepsTold_c50 l1 S = if l1 < (14 : Int32) then (if inb l1 14 = true then ((R_keepsOne (rA S 4 l1) S).bind (fun q5 => if inb l1 14 = true then (if inb l1 14 = true then ((R_keepsOne (rA q5.2 5 l1) (wA q5.2 4 l1 q5.1)).bind (fun q6 => if inb l1 14 = true then (if inb l1 14 = true then ((R_keepsOne (rA q6.2 6 l1) (wA q6.2 5 l1 q6.1)).bind (fun q7 => if inb l1 14 = true then (R_keepsTold_c50 (l1 + (1 : Int32)) (wA q7.2 6 l1 q7.1)) else (none))) else (none)) else (none))) else (none)) else (none))) else (none)) else (R_keepsTold_c112 (0 : Int32) S) := by
  show Res PT GR (rkT 285) 285 (pCut cd285 50, [.ref 0, .int l1], [], S) = _
  refine (R_reg PT GR (k := 285) (code := cd285) rfl [50, 112, 158, 204] 400).trans ?_
  refine br_cong ?_ ?_
  · refine br_cong ?_ ?_
    · refine (R_cx PT GR hRk PT_282 rfl rfl rfl rfl rfl).trans ?_
      refine bind_cong (fun q5 => ?_)
      refine (R_blk PT GR (k := 285) (code := cd285) rfl [50, 112, 158, 204] 400 _).trans ?_
      refine br_cong ?_ ?_
      · refine br_cong ?_ ?_
        · refine (R_cx PT GR hRk PT_282 rfl rfl rfl rfl rfl).trans ?_
          refine bind_cong (fun q6 => ?_)
          refine (R_blk PT GR (k := 285) (code := cd285) rfl [50, 112, 158, 204] 400 _).trans ?_
          refine br_cong ?_ ?_
          · refine br_cong ?_ ?_
            · refine (R_cx PT GR hRk PT_282 rfl rfl rfl rfl rfl).trans ?_
              refine bind_cong (fun q7 => ?_)
              refine (R_blk PT GR (k := 285) (code := cd285) rfl [50, 112, 158, 204] 400 _).trans ?_
              refine br_cong ?_ ?_
              · rfl
              · rfl
            · rfl
          · rfl
        · rfl
      · rfl
    · rfl
  · rfl
set_option maxRecDepth 20000 in
theorem R_keepsTold_c112_eq (l1 : Int32) (S : pS) : R_keepsTold_c112 l1 S = if l1 < (12 : Int32) then (if inb l1 12 = true then ((R_keepsOne (rA S 24 l1) S).bind (fun q8 => if inb l1 12 = true then (if inb l1 12 = true then ((R_keepsOne (rA q8.2 25 l1) (wA q8.2 24 l1 q8.1)).bind (fun q9 => if inb l1 12 = true then (R_keepsTold_c112 (l1 + (1 : Int32)) (wA q9.2 25 l1 q9.1)) else (none))) else (none)) else (none))) else (none)) else (R_keepsTold_c158 (0 : Int32) S) := by
  show Res PT GR (rkT 285) 285 (pCut cd285 112, [.ref 0, .int l1], [], S) = _
  refine (R_reg PT GR (k := 285) (code := cd285) rfl [50, 112, 158, 204] 400).trans ?_
  refine br_cong ?_ ?_
  · refine br_cong ?_ ?_
    · refine (R_cx PT GR hRk PT_282 rfl rfl rfl rfl rfl).trans ?_
      refine bind_cong (fun q8 => ?_)
      refine (R_blk PT GR (k := 285) (code := cd285) rfl [50, 112, 158, 204] 400 _).trans ?_
      refine br_cong ?_ ?_
      · refine br_cong ?_ ?_
        · refine (R_cx PT GR hRk PT_282 rfl rfl rfl rfl rfl).trans ?_
          refine bind_cong (fun q9 => ?_)
          refine (R_blk PT GR (k := 285) (code := cd285) rfl [50, 112, 158, 204] 400 _).trans ?_
          refine br_cong ?_ ?_
          · rfl
          · rfl
        · rfl
      · rfl
    · rfl
  · rfl
set_option maxRecDepth 20000 in
theorem R_keepsTold_c158_eq (l1 : Int32) (S : pS) : R_keepsTold_c158 l1 S = if l1 < (10 : Int32) then (if inb l1 10 = true then ((R_keepsOne (rA S 29 l1) S).bind (fun q10 => if inb l1 10 = true then (if inb l1 10 = true then ((R_keepsOne (rA q10.2 30 l1) (wA q10.2 29 l1 q10.1)).bind (fun q11 => if inb l1 10 = true then (R_keepsTold_c158 (l1 + (1 : Int32)) (wA q11.2 30 l1 q11.1)) else (none))) else (none)) else (none))) else (none)) else (R_keepsTold_c204 (0 : Int32) S) := by
  show Res PT GR (rkT 285) 285 (pCut cd285 158, [.ref 0, .int l1], [], S) = _
  refine (R_reg PT GR (k := 285) (code := cd285) rfl [50, 112, 158, 204] 400).trans ?_
  refine br_cong ?_ ?_
  · refine br_cong ?_ ?_
    · refine (R_cx PT GR hRk PT_282 rfl rfl rfl rfl rfl).trans ?_
      refine bind_cong (fun q10 => ?_)
      refine (R_blk PT GR (k := 285) (code := cd285) rfl [50, 112, 158, 204] 400 _).trans ?_
      refine br_cong ?_ ?_
      · refine br_cong ?_ ?_
        · refine (R_cx PT GR hRk PT_282 rfl rfl rfl rfl rfl).trans ?_
          refine bind_cong (fun q11 => ?_)
          refine (R_blk PT GR (k := 285) (code := cd285) rfl [50, 112, 158, 204] 400 _).trans ?_
          refine br_cong ?_ ?_
          · rfl
          · rfl
        · rfl
      · rfl
    · rfl
  · rfl
set_option maxRecDepth 20000 in
theorem R_keepsTold_c204_eq (l1 : Int32) (S : pS) : R_keepsTold_c204 l1 S = if l1 < (8 : Int32) then (if inb l1 8 = true then ((R_keepsOne (rA S 31 l1) S).bind (fun q12 => if inb l1 8 = true then (if inb l1 8 = true then ((R_keepsOne (rA q12.2 32 l1) (wA q12.2 31 l1 q12.1)).bind (fun q13 => if inb l1 8 = true then (if inb l1 8 = true then ((R_keepsOne (rA q13.2 33 l1) (wA q13.2 32 l1 q13.1)).bind (fun q14 => if inb l1 8 = true then (R_keepsTold_c204 (l1 + (1 : Int32)) (wA q14.2 33 l1 q14.1)) else (none))) else (none)) else (none))) else (none)) else (none))) else (none)) else (some (0, S)) := by
  show Res PT GR (rkT 285) 285 (pCut cd285 204, [.ref 0, .int l1], [], S) = _
  refine (R_reg PT GR (k := 285) (code := cd285) rfl [50, 112, 158, 204] 400).trans ?_
  refine br_cong ?_ ?_
  · refine br_cong ?_ ?_
    · refine (R_cx PT GR hRk PT_282 rfl rfl rfl rfl rfl).trans ?_
      refine bind_cong (fun q12 => ?_)
      refine (R_blk PT GR (k := 285) (code := cd285) rfl [50, 112, 158, 204] 400 _).trans ?_
      refine br_cong ?_ ?_
      · refine br_cong ?_ ?_
        · refine (R_cx PT GR hRk PT_282 rfl rfl rfl rfl rfl).trans ?_
          refine bind_cong (fun q13 => ?_)
          refine (R_blk PT GR (k := 285) (code := cd285) rfl [50, 112, 158, 204] 400 _).trans ?_
          refine br_cong ?_ ?_
          · refine br_cong ?_ ?_
            · refine (R_cx PT GR hRk PT_282 rfl rfl rfl rfl rfl).trans ?_
              refine bind_cong (fun q14 => ?_)
              refine (R_blk PT GR (k := 285) (code := cd285) rfl [50, 112, 158, 204] 400 _).trans ?_
              refine br_cong ?_ ?_
              · rfl
              · rfl
            · rfl
          · rfl
        · rfl
      · rfl
    · rfl
  · exact R_retV PT GR rfl
set_option maxRecDepth 20000 in
theorem R_keepsTexts_eq (S : pS) : R_keepsTexts S = (R_keepsOne (rF S 0 34) S).bind (fun q1 => (R_keepsOne (rF q1.2 0 36) (wF q1.2 0 34 q1.1)).bind (fun q2 => (R_keepsOne (rF q2.2 0 39) (wF q2.2 0 36 q2.1)).bind (fun q3 => R_keepsTexts_c38 (0 : Int32) (wF q3.2 0 39 q3.1)))) := by
  show Res PT GR (rkT 284) 284 (cd284, [.ref 0, .null], [], S) = _
  refine (R_blk PT GR (k := 284) (code := cd284) rfl [38, 68, 114] 400 _).trans ?_
  refine (R_cx PT GR hRk PT_282 rfl rfl rfl rfl rfl).trans ?_
  refine bind_cong (fun q1 => ?_)
  refine (R_blk PT GR (k := 284) (code := cd284) rfl [38, 68, 114] 400 _).trans ?_
  refine brT (Or.inl rfl) ?_
  refine (R_cx PT GR hRk PT_282 rfl rfl rfl rfl rfl).trans ?_
  refine bind_cong (fun q2 => ?_)
  refine (R_blk PT GR (k := 284) (code := cd284) rfl [38, 68, 114] 400 _).trans ?_
  refine brT (Or.inl rfl) ?_
  refine (R_cx PT GR hRk PT_282 rfl rfl rfl rfl rfl).trans ?_
  refine bind_cong (fun q3 => ?_)
  refine (R_blk PT GR (k := 284) (code := cd284) rfl [38, 68, 114] 400 _).trans ?_
  refine brT (Or.inl rfl) ?_
  rfl
set_option maxRecDepth 20000 in
theorem R_keepsTexts_c38_eq (l1 : Int32) (S : pS) : R_keepsTexts_c38 l1 S = if l1 < (12 : Int32) then (if inb l1 24 = true then ((R_keepsOne (rA S 18 l1) S).bind (fun q4 => if inb l1 24 = true then (R_keepsTexts_c38 (l1 + (1 : Int32)) (wA q4.2 18 l1 q4.1)) else (none))) else (none)) else (R_keepsTexts_c68 (0 : Int32) S) := by
  show Res PT GR (rkT 284) 284 (pCut cd284 38, [.ref 0, .int l1], [], S) = _
  refine (R_reg PT GR (k := 284) (code := cd284) rfl [38, 68, 114] 400).trans ?_
  refine br_cong ?_ ?_
  · refine br_cong ?_ ?_
    · refine (R_cx PT GR hRk PT_282 rfl rfl rfl rfl rfl).trans ?_
      refine bind_cong (fun q4 => ?_)
      refine (R_blk PT GR (k := 284) (code := cd284) rfl [38, 68, 114] 400 _).trans ?_
      refine br_cong ?_ ?_
      · rfl
      · rfl
    · rfl
  · rfl
set_option maxRecDepth 20000 in
theorem R_keepsTexts_c68_eq (l1 : Int32) (S : pS) : R_keepsTexts_c68 l1 S = if l1 < (8 : Int32) then (if inb l1 16 = true then ((R_keepsOne (rA S 19 l1) S).bind (fun q5 => if inb l1 16 = true then (if inb l1 16 = true then ((R_keepsOne (rA q5.2 20 l1) (wA q5.2 19 l1 q5.1)).bind (fun q6 => if inb l1 16 = true then (R_keepsTexts_c68 (l1 + (1 : Int32)) (wA q6.2 20 l1 q6.1)) else (none))) else (none)) else (none))) else (none)) else (R_keepsTexts_c114 (0 : Int32) S) := by
  show Res PT GR (rkT 284) 284 (pCut cd284 68, [.ref 0, .int l1], [], S) = _
  refine (R_reg PT GR (k := 284) (code := cd284) rfl [38, 68, 114] 400).trans ?_
  refine br_cong ?_ ?_
  · refine br_cong ?_ ?_
    · refine (R_cx PT GR hRk PT_282 rfl rfl rfl rfl rfl).trans ?_
      refine bind_cong (fun q5 => ?_)
      refine (R_blk PT GR (k := 284) (code := cd284) rfl [38, 68, 114] 400 _).trans ?_
      refine br_cong ?_ ?_
      · refine br_cong ?_ ?_
        · refine (R_cx PT GR hRk PT_282 rfl rfl rfl rfl rfl).trans ?_
          refine bind_cong (fun q6 => ?_)
          refine (R_blk PT GR (k := 284) (code := cd284) rfl [38, 68, 114] 400 _).trans ?_
          refine br_cong ?_ ?_
          · rfl
          · rfl
        · rfl
      · rfl
    · rfl
  · rfl
set_option maxRecDepth 20000 in
theorem R_keepsTexts_c114_eq (l1 : Int32) (S : pS) : R_keepsTexts_c114 l1 S = if l1 < (48 : Int32) then (if inb l1 96 = true then ((R_keepsOne (rA S 21 l1) S).bind (fun q7 => if inb l1 96 = true then (R_keepsTexts_c114 (l1 + (1 : Int32)) (wA q7.2 21 l1 q7.1)) else (none))) else (none)) else (some (0, S)) := by
  show Res PT GR (rkT 284) 284 (pCut cd284 114, [.ref 0, .int l1], [], S) = _
  refine (R_reg PT GR (k := 284) (code := cd284) rfl [38, 68, 114] 400).trans ?_
  refine br_cong ?_ ?_
  · refine br_cong ?_ ?_
    · refine (R_cx PT GR hRk PT_282 rfl rfl rfl rfl rfl).trans ?_
      refine bind_cong (fun q7 => ?_)
      refine (R_blk PT GR (k := 284) (code := cd284) rfl [38, 68, 114] 400 _).trans ?_
      refine br_cong ?_ ?_
      · rfl
      · rfl
    · rfl
  · exact R_retV PT GR rfl
set_option maxRecDepth 20000 in
theorem R_keepsLaw_eq (S : pS) : R_keepsLaw S = (R_keepsOne (rA S 10 (0 : Int32)) S).bind (fun q1 => R_keepsLaw_c18 (0 : Int32) (wA q1.2 10 (0 : Int32) q1.1)) := by
  show Res PT GR (rkT 283) 283 (cd283, [.ref 0, .null], [], S) = _
  refine (R_blk PT GR (k := 283) (code := cd283) rfl [18, 96] 400 _).trans ?_
  refine brT (by decide) ?_
  refine (R_cx PT GR hRk PT_282 rfl rfl rfl rfl rfl).trans ?_
  refine bind_cong (fun q1 => ?_)
  refine (R_blk PT GR (k := 283) (code := cd283) rfl [18, 96] 400 _).trans ?_
  refine brT (by decide) ?_
  rfl
set_option maxRecDepth 20000 in
theorem R_keepsLaw_c18_eq (l1 : Int32) (S : pS) : R_keepsLaw_c18 l1 S = if l1 < (16 : Int32) then (if inb l1 48 = true then ((R_keepsOne (rA S 11 l1) S).bind (fun q2 => if inb l1 48 = true then (if inb l1 48 = true then ((R_keepsOne (rA q2.2 12 l1) (wA q2.2 11 l1 q2.1)).bind (fun q3 => if inb l1 48 = true then (if inb l1 48 = true then ((R_keepsOne (rA q3.2 13 l1) (wA q3.2 12 l1 q3.1)).bind (fun q4 => if inb l1 48 = true then (if inb l1 48 = true then ((R_keepsOne (rA q4.2 14 l1) (wA q4.2 13 l1 q4.1)).bind (fun q5 => if inb l1 48 = true then (R_keepsLaw_c18 (l1 + (1 : Int32)) (wA q5.2 14 l1 q5.1)) else (none))) else (none)) else (none))) else (none)) else (none))) else (none)) else (none))) else (none)) else (R_keepsLaw_c96 (0 : Int32) S) := by
  show Res PT GR (rkT 283) 283 (pCut cd283 18, [.ref 0, .int l1], [], S) = _
  refine (R_reg PT GR (k := 283) (code := cd283) rfl [18, 96] 400).trans ?_
  refine br_cong ?_ ?_
  · refine br_cong ?_ ?_
    · refine (R_cx PT GR hRk PT_282 rfl rfl rfl rfl rfl).trans ?_
      refine bind_cong (fun q2 => ?_)
      refine (R_blk PT GR (k := 283) (code := cd283) rfl [18, 96] 400 _).trans ?_
      refine br_cong ?_ ?_
      · refine br_cong ?_ ?_
        · refine (R_cx PT GR hRk PT_282 rfl rfl rfl rfl rfl).trans ?_
          refine bind_cong (fun q3 => ?_)
          refine (R_blk PT GR (k := 283) (code := cd283) rfl [18, 96] 400 _).trans ?_
          refine br_cong ?_ ?_
          · refine br_cong ?_ ?_
            · refine (R_cx PT GR hRk PT_282 rfl rfl rfl rfl rfl).trans ?_
              refine bind_cong (fun q4 => ?_)
              refine (R_blk PT GR (k := 283) (code := cd283) rfl [18, 96] 400 _).trans ?_
              refine br_cong ?_ ?_
              · refine br_cong ?_ ?_
                · refine (R_cx PT GR hRk PT_282 rfl rfl rfl rfl rfl).trans ?_
                  refine bind_cong (fun q5 => ?_)
                  refine (R_blk PT GR (k := 283) (code := cd283) rfl [18, 96] 400 _).trans ?_
                  refine br_cong ?_ ?_
                  · rfl
                  · rfl
                · rfl
              · rfl
            · rfl
          · rfl
        · rfl
      · rfl
    · rfl
  · rfl
set_option maxRecDepth 20000 in
theorem R_keepsLaw_c96_eq (l1 : Int32) (S : pS) : R_keepsLaw_c96 l1 S = if l1 < (400 : Int32) then (if inb l1 1200 = true then ((R_keepsOne (rA S 15 l1) S).bind (fun q6 => if inb l1 1200 = true then (if inb l1 1200 = true then ((R_keepsOne (rA q6.2 16 l1) (wA q6.2 15 l1 q6.1)).bind (fun q7 => if inb l1 1200 = true then (R_keepsLaw_c96 (l1 + (1 : Int32)) (wA q7.2 16 l1 q7.1)) else (none))) else (none)) else (none))) else (none)) else (some (0, S)) := by
  show Res PT GR (rkT 283) 283 (pCut cd283 96, [.ref 0, .int l1], [], S) = _
  refine (R_reg PT GR (k := 283) (code := cd283) rfl [18, 96] 400).trans ?_
  refine br_cong ?_ ?_
  · refine br_cong ?_ ?_
    · refine (R_cx PT GR hRk PT_282 rfl rfl rfl rfl rfl).trans ?_
      refine bind_cong (fun q6 => ?_)
      refine (R_blk PT GR (k := 283) (code := cd283) rfl [18, 96] 400 _).trans ?_
      refine br_cong ?_ ?_
      · refine br_cong ?_ ?_
        · refine (R_cx PT GR hRk PT_282 rfl rfl rfl rfl rfl).trans ?_
          refine bind_cong (fun q7 => ?_)
          refine (R_blk PT GR (k := 283) (code := cd283) rfl [18, 96] 400 _).trans ?_
          refine br_cong ?_ ?_
          · rfl
          · rfl
        · rfl
      · rfl
    · rfl
  · exact R_retV PT GR rfl
set_option maxRecDepth 20000 in
theorem R_reads_eq (S : pS) : R_reads S = R_reads_c0 S := by
  show Res PT GR (rkT 188) 188 (cd188, [.ref 0, .null], [], S) = _
  exact (R_blk PT GR (k := 188) (code := cd188) rfl [0, 26, 95, 171, 223] 400 _).trans rfl
set_option maxRecDepth 20000 in
theorem R_reads_c0_eq (S : pS) : R_reads_c0 S = (R_raw (rF S 0 13) S).bind (fun q1 => if q1.1 = (32 : Int32) then (R_reads_c26 q1.2) else ((R_raw (rF q1.2 0 13) q1.2).bind (fun q2 => if q2.1 = (10 : Int32) then (R_reads_c26 q2.2) else ((R_raw (rF q2.2 0 13) (wF (wF q2.2 0 14 (rF q2.2 0 13)) 0 15 (1 : Int32))).bind (fun q3 => if q3.1 = (-1 : Int32) then (some (0, (wF q3.2 0 15 (0 : Int32)))) else ((R_isLetter q3.1 (wF (wF q3.2 0 13 ((rF q3.2 0 13) + (1 : Int32))) 0 16 q3.1)).bind (fun q4 => if q4.1 = 0 then ((R_isDigit q3.1 q4.2).bind (fun q5 => if q5.1 = 0 then ((R_isMarkSign q3.1 q5.2).bind (fun q6 => if q6.1 = 0 then (some (0, q6.2)) else (some (0, (wF q6.2 0 15 (4 : Int32)))))) else (R_reads_c171 (wF q5.2 0 16 (q3.1 - (48 : Int32)))))) else (R_reads_c95 q4.2)))))))) := by
  show Res PT GR (rkT 188) 188 (pCut cd188 0, [.ref 0, .null], [], S) = _
  refine (R_reg PT GR (k := 188) (code := cd188) rfl [0, 26, 95, 171, 223] 400).trans ?_
  refine (R_cx PT GR hRk PT_183 rfl rfl rfl rfl rfl).trans ?_
  refine bind_cong (fun q1 => ?_)
  refine (R_blk PT GR (k := 188) (code := cd188) rfl [0, 26, 95, 171, 223] 400 _).trans ?_
  refine br_cong ?_ ?_
  · rfl
  · refine (R_cx PT GR hRk PT_183 rfl rfl rfl rfl rfl).trans ?_
    refine bind_cong (fun q2 => ?_)
    refine (R_blk PT GR (k := 188) (code := cd188) rfl [0, 26, 95, 171, 223] 400 _).trans ?_
    refine br_cong ?_ ?_
    · rfl
    · refine brT (Or.inl rfl) ?_
      refine brT (Or.inl rfl) ?_
      refine (R_cx PT GR hRk PT_183 rfl rfl rfl rfl rfl).trans ?_
      refine bind_cong (fun q3 => ?_)
      refine (R_blk PT GR (k := 188) (code := cd188) rfl [0, 26, 95, 171, 223] 400 _).trans ?_
      refine br_cong ?_ ?_
      · refine brT (Or.inl rfl) ?_
        exact R_retV PT GR rfl
      · refine brT (Or.inl rfl) ?_
        refine brT (Or.inl rfl) ?_
        refine (R_cx PT GR hRk PT_184 rfl rfl rfl rfl rfl).trans ?_
        refine bind_cong (fun q4 => ?_)
        refine (R_blk PT GR (k := 188) (code := cd188) rfl [0, 26, 95, 171, 223] 400 _).trans ?_
        refine br_cong ?_ ?_
        · refine (R_cx PT GR hRk PT_185 rfl rfl rfl rfl rfl).trans ?_
          refine bind_cong (fun q5 => ?_)
          refine (R_blk PT GR (k := 188) (code := cd188) rfl [0, 26, 95, 171, 223] 400 _).trans ?_
          refine br_cong ?_ ?_
          · refine (R_cx PT GR hRk PT_186 rfl rfl rfl rfl rfl).trans ?_
            refine bind_cong (fun q6 => ?_)
            refine (R_blk PT GR (k := 188) (code := cd188) rfl [0, 26, 95, 171, 223] 400 _).trans ?_
            refine br_cong ?_ ?_
            · exact R_retV PT GR rfl
            · refine brT (Or.inl rfl) ?_
              exact R_retV PT GR rfl
          · refine brT (Or.inl rfl) ?_
            rfl
        · rfl
set_option maxRecDepth 20000 in
theorem R_reads_c26_eq (S : pS) : R_reads_c26 S = R_reads_c0 (wF S 0 13 ((rF S 0 13) + (1 : Int32))) := by
  show Res PT GR (rkT 188) 188 (pCut cd188 26, [.ref 0, .null], [], S) = _
  refine (R_reg PT GR (k := 188) (code := cd188) rfl [0, 26, 95, 171, 223] 400).trans ?_
  refine brT (Or.inl rfl) ?_
  rfl
set_option maxRecDepth 20000 in
theorem R_reads_c171_eq (S : pS) : R_reads_c171 S = (R_raw (rF S 0 13) S).bind (fun q7 => (R_isDigit q7.1 q7.2).bind (fun q8 => if q8.1 = 0 then (if ((rF q8.2 0 13) - (rF q8.2 0 14)) < (5 : Int32) then (some (0, (wF q8.2 0 15 (3 : Int32)))) else (some (0, q8.2))) else (if (rF q8.2 0 16) < (10000 : Int32) then ((R_raw (rF q8.2 0 13) q8.2).bind (fun q9 => R_reads_c223 ((((10 : Int32) * (rF q8.2 0 16)) + q9.1) - (48 : Int32)) q9.2)) else (R_reads_c223 (rF q8.2 0 16) q8.2)))) := by
  show Res PT GR (rkT 188) 188 (pCut cd188 171, [.ref 0, .null], [], S) = _
  refine (R_reg PT GR (k := 188) (code := cd188) rfl [0, 26, 95, 171, 223] 400).trans ?_
  refine (R_cx PT GR hRk PT_183 rfl rfl rfl rfl rfl).trans ?_
  refine bind_cong (fun q7 => ?_)
  refine (R_blk PT GR (k := 188) (code := cd188) rfl [0, 26, 95, 171, 223] 400 _).trans ?_
  refine (R_cx PT GR hRk PT_185 rfl rfl rfl rfl rfl).trans ?_
  refine bind_cong (fun q8 => ?_)
  refine (R_blk PT GR (k := 188) (code := cd188) rfl [0, 26, 95, 171, 223] 400 _).trans ?_
  refine br_cong ?_ ?_
  · refine br_cong ?_ ?_
    · refine brT (Or.inl rfl) ?_
      exact R_retV PT GR rfl
    · exact R_retV PT GR rfl
  · refine br_cong ?_ ?_
    · refine (R_cx PT GR hRk PT_183 rfl rfl rfl rfl rfl).trans ?_
      refine bind_cong (fun q9 => ?_)
      exact (R_blk PT GR (k := 188) (code := cd188) rfl [0, 26, 95, 171, 223] 400 _).trans rfl
    · rfl
set_option maxRecDepth 20000 in
theorem R_reads_c95_eq (S : pS) : R_reads_c95 S = (R_raw (rF S 0 13) S).bind (fun q10 => (R_isLetter q10.1 q10.2).bind (fun q11 => if q11.1 = 0 then ((R_wordAt (rF q11.2 0 14) (rF q11.2 0 13) q11.2).bind (fun q12 => if q12.1 = (-1 : Int32) then (some (0, (wF q12.2 0 16 q12.1))) else (some (0, (wF (wF q12.2 0 16 q12.1) 0 15 (2 : Int32)))))) else (R_reads_c95 (wF q11.2 0 13 ((rF q11.2 0 13) + (1 : Int32)))))) := by
  show Res PT GR (rkT 188) 188 (pCut cd188 95, [.ref 0, .null], [], S) = _
  refine (R_reg PT GR (k := 188) (code := cd188) rfl [0, 26, 95, 171, 223] 400).trans ?_
  refine (R_cx PT GR hRk PT_183 rfl rfl rfl rfl rfl).trans ?_
  refine bind_cong (fun q10 => ?_)
  refine (R_blk PT GR (k := 188) (code := cd188) rfl [0, 26, 95, 171, 223] 400 _).trans ?_
  refine (R_cx PT GR hRk PT_184 rfl rfl rfl rfl rfl).trans ?_
  refine bind_cong (fun q11 => ?_)
  refine (R_blk PT GR (k := 188) (code := cd188) rfl [0, 26, 95, 171, 223] 400 _).trans ?_
  refine br_cong ?_ ?_
  · refine (R_cx PT GR hRk PT_187 rfl rfl rfl rfl rfl).trans ?_
    refine bind_cong (fun q12 => ?_)
    refine (R_blk PT GR (k := 188) (code := cd188) rfl [0, 26, 95, 171, 223] 400 _).trans ?_
    refine brT (Or.inl rfl) ?_
    refine br_cong ?_ ?_
    · exact R_retV PT GR rfl
    · refine brT (Or.inl rfl) ?_
      exact R_retV PT GR rfl
  · refine brT (Or.inl rfl) ?_
    rfl
set_option maxRecDepth 20000 in
theorem R_reads_c223_eq (s0 : Int32) (S : pS) : R_reads_c223 s0 S = R_reads_c171 (wF (wF S 0 16 s0) 0 13 ((rF S 0 13) + (1 : Int32))) := by
  show Res PT GR (rkT 188) 188 (pCut cd188 223, [.ref 0, .null], [.int s0, .ref 0], S) = _
  refine (R_reg PT GR (k := 188) (code := cd188) rfl [0, 26, 95, 171, 223] 400).trans ?_
  refine brT (Or.inl rfl) ?_
  refine brT (Or.inl rfl) ?_
  rfl
set_option maxRecDepth 20000 in
theorem R_readMet_eq (S : pS) : R_readMet S = R_readMet_c2 (0 : Int32) S := by
  show Res PT GR (rkT 208) 208 (cd208, [.ref 0, .null], [], S) = _
  exact (R_blk PT GR (k := 208) (code := cd208) rfl [2, 26] 400 _).trans rfl
set_option maxRecDepth 20000 in
theorem R_readMet_c2_eq (l1 : Int32) (S : pS) : R_readMet_c2 l1 S = if l1 < (12 : Int32) then (if inb ((12 : Int32) + l1) 24 = true then (R_readMet_c2 (l1 + (1 : Int32)) (wA S 18 ((12 : Int32) + l1) (0 : Int32))) else (none)) else (R_readMet_c26 (0 : Int32) S) := by
  show Res PT GR (rkT 208) 208 (pCut cd208 2, [.ref 0, .int l1], [], S) = _
  refine (R_reg PT GR (k := 208) (code := cd208) rfl [2, 26] 400).trans ?_
  refine br_cong ?_ ?_
  · refine br_cong ?_ ?_
    · rfl
    · rfl
  · rfl
set_option maxRecDepth 20000 in
theorem R_readMet_c26_eq (l1 : Int32) (S : pS) : R_readMet_c26 l1 S = (R_isWord (7 : Int32) S).bind (fun q1 => if q1.1 = 0 then (if (rF q1.2 0 15) = 0 then (some (l1, q1.2)) else ((R_errs (1 : Int32) q1.2).bind (fun q2 => some (q2.1, q2.2)))) else (if l1 = (16 : Int32) then ((R_errs (3 : Int32) q1.2).bind (fun q3 => some (q3.1, q3.2))) else ((R_readMetLine q1.2).bind (fun q4 => if q4.1 = (-1 : Int32) then (some ((-1 : Int32), q4.2)) else (R_readMet_c26 (l1 + (1 : Int32)) q4.2))))) := by
  show Res PT GR (rkT 208) 208 (pCut cd208 26, [.ref 0, .int l1], [], S) = _
  refine (R_reg PT GR (k := 208) (code := cd208) rfl [2, 26] 400).trans ?_
  refine (R_cx PT GR hRk PT_190 rfl rfl rfl rfl rfl).trans ?_
  refine bind_cong (fun q1 => ?_)
  refine (R_blk PT GR (k := 208) (code := cd208) rfl [2, 26] 400 _).trans ?_
  refine br_cong ?_ ?_
  · refine br_cong ?_ ?_
    · exact R_retI PT GR rfl rfl
    · refine (R_cx PT GR hRk PT_189 rfl rfl rfl rfl rfl).trans ?_
      refine bind_cong (fun q2 => ?_)
      refine (R_blk PT GR (k := 208) (code := cd208) rfl [2, 26] 400 _).trans ?_
      exact R_retI PT GR rfl rfl
  · refine br_cong ?_ ?_
    · refine (R_cx PT GR hRk PT_189 rfl rfl rfl rfl rfl).trans ?_
      refine bind_cong (fun q3 => ?_)
      refine (R_blk PT GR (k := 208) (code := cd208) rfl [2, 26] 400 _).trans ?_
      exact R_retI PT GR rfl rfl
    · refine (R_cx PT GR hRk PT_207 rfl rfl rfl rfl rfl).trans ?_
      refine bind_cong (fun q4 => ?_)
      refine (R_blk PT GR (k := 208) (code := cd208) rfl [2, 26] 400 _).trans ?_
      refine br_cong ?_ ?_
      · exact R_retI PT GR rfl rfl
      · rfl
set_option maxRecDepth 20000 in
theorem R_readCalled_eq (S : pS) : R_readCalled S = R_readCalled_c2 (0 : Int32) S := by
  show Res PT GR (rkT 210) 210 (cd210, [.ref 0, .null], [], S) = _
  exact (R_blk PT GR (k := 210) (code := cd210) rfl [2, 36] 400 _).trans rfl
set_option maxRecDepth 20000 in
theorem R_readCalled_c2_eq (l1 : Int32) (S : pS) : R_readCalled_c2 l1 S = if l1 < (8 : Int32) then (if inb ((8 : Int32) + l1) 16 = true then (if inb ((8 : Int32) + l1) 16 = true then (R_readCalled_c2 (l1 + (1 : Int32)) (wA (wA S 19 ((8 : Int32) + l1) (0 : Int32)) 20 ((8 : Int32) + l1) (0 : Int32))) else (none)) else (none)) else (R_readCalled_c36 (0 : Int32) S) := by
  show Res PT GR (rkT 210) 210 (pCut cd210 2, [.ref 0, .int l1], [], S) = _
  refine (R_reg PT GR (k := 210) (code := cd210) rfl [2, 36] 400).trans ?_
  refine br_cong ?_ ?_
  · refine br_cong ?_ ?_
    · refine br_cong ?_ ?_
      · rfl
      · rfl
    · rfl
  · rfl
set_option maxRecDepth 20000 in
theorem R_readCalled_c36_eq (l1 : Int32) (S : pS) : R_readCalled_c36 l1 S = (R_isWord (8 : Int32) S).bind (fun q1 => if q1.1 = 0 then (if (rF q1.2 0 15) = 0 then (some (l1, q1.2)) else ((R_errs (1 : Int32) q1.2).bind (fun q2 => some (q2.1, q2.2)))) else (if l1 = (16 : Int32) then ((R_errs (3 : Int32) q1.2).bind (fun q3 => some (q3.1, q3.2))) else ((R_readCalledLine q1.2).bind (fun q4 => if q4.1 = (-1 : Int32) then (some ((-1 : Int32), q4.2)) else (R_readCalled_c36 (l1 + (1 : Int32)) q4.2))))) := by
  show Res PT GR (rkT 210) 210 (pCut cd210 36, [.ref 0, .int l1], [], S) = _
  refine (R_reg PT GR (k := 210) (code := cd210) rfl [2, 36] 400).trans ?_
  refine (R_cx PT GR hRk PT_190 rfl rfl rfl rfl rfl).trans ?_
  refine bind_cong (fun q1 => ?_)
  refine (R_blk PT GR (k := 210) (code := cd210) rfl [2, 36] 400 _).trans ?_
  refine br_cong ?_ ?_
  · refine br_cong ?_ ?_
    · exact R_retI PT GR rfl rfl
    · refine (R_cx PT GR hRk PT_189 rfl rfl rfl rfl rfl).trans ?_
      refine bind_cong (fun q2 => ?_)
      refine (R_blk PT GR (k := 210) (code := cd210) rfl [2, 36] 400 _).trans ?_
      exact R_retI PT GR rfl rfl
  · refine br_cong ?_ ?_
    · refine (R_cx PT GR hRk PT_189 rfl rfl rfl rfl rfl).trans ?_
      refine bind_cong (fun q3 => ?_)
      refine (R_blk PT GR (k := 210) (code := cd210) rfl [2, 36] 400 _).trans ?_
      exact R_retI PT GR rfl rfl
    · refine (R_cx PT GR hRk PT_209 rfl rfl rfl rfl rfl).trans ?_
      refine bind_cong (fun q4 => ?_)
      refine (R_blk PT GR (k := 210) (code := cd210) rfl [2, 36] 400 _).trans ?_
      refine br_cong ?_ ?_
      · exact R_retI PT GR rfl rfl
      · rfl
set_option maxRecDepth 20000 in
theorem R_readPlan_eq (S : pS) : R_readPlan S = R_readPlan_c2 (0 : Int32) S := by
  show Res PT GR (rkT 212) 212 (cd212, [.ref 0, .null], [], S) = _
  exact (R_blk PT GR (k := 212) (code := cd212) rfl [2] 400 _).trans rfl
set_option maxRecDepth 20000 in
theorem R_readPlan_c2_eq (l1 : Int32) (S : pS) : R_readPlan_c2 l1 S = (R_isWord (19 : Int32) S).bind (fun q1 => if q1.1 = 0 then (if (rF q1.2 0 15) = 0 then (some (l1, q1.2)) else ((R_errs (1 : Int32) q1.2).bind (fun q2 => some (q2.1, q2.2)))) else (if l1 = (16 : Int32) then ((R_errs (3 : Int32) q1.2).bind (fun q3 => some (q3.1, q3.2))) else ((R_readDeed ((48 : Int32) + ((3 : Int32) * l1)) q1.2).bind (fun q4 => if q4.1 = (-1 : Int32) then (some ((-1 : Int32), q4.2)) else (R_readPlan_c2 (l1 + (1 : Int32)) q4.2))))) := by
  show Res PT GR (rkT 212) 212 (pCut cd212 2, [.ref 0, .int l1], [], S) = _
  refine (R_reg PT GR (k := 212) (code := cd212) rfl [2] 400).trans ?_
  refine (R_cx PT GR hRk PT_190 rfl rfl rfl rfl rfl).trans ?_
  refine bind_cong (fun q1 => ?_)
  refine (R_blk PT GR (k := 212) (code := cd212) rfl [2] 400 _).trans ?_
  refine br_cong ?_ ?_
  · refine br_cong ?_ ?_
    · exact R_retI PT GR rfl rfl
    · refine (R_cx PT GR hRk PT_189 rfl rfl rfl rfl rfl).trans ?_
      refine bind_cong (fun q2 => ?_)
      refine (R_blk PT GR (k := 212) (code := cd212) rfl [2] 400 _).trans ?_
      exact R_retI PT GR rfl rfl
  · refine br_cong ?_ ?_
    · refine (R_cx PT GR hRk PT_189 rfl rfl rfl rfl rfl).trans ?_
      refine bind_cong (fun q3 => ?_)
      refine (R_blk PT GR (k := 212) (code := cd212) rfl [2] 400 _).trans ?_
      exact R_retI PT GR rfl rfl
    · refine (R_cx PT GR hRk PT_211 rfl rfl rfl rfl rfl).trans ?_
      refine bind_cong (fun q4 => ?_)
      refine (R_blk PT GR (k := 212) (code := cd212) rfl [2] 400 _).trans ?_
      refine br_cong ?_ ?_
      · exact R_retI PT GR rfl rfl
      · rfl
set_option maxRecDepth 20000 in
theorem R_readLaw_eq (S : pS) : R_readLaw S = R_readLaw_c2 (0 : Int32) S := by
  show Res PT GR (rkT 202) 202 (cd202, [.ref 0, .null, .null], [], S) = _
  exact (R_blk PT GR (k := 202) (code := cd202) rfl [2, 92] 400 _).trans rfl
set_option maxRecDepth 20000 in
theorem R_readLaw_c2_eq (l1 : Int32) (S : pS) : R_readLaw_c2 l1 S = (R_isLineWord S).bind (fun q1 => if q1.1 = 0 then (if (rF q1.2 0 15) = 0 then (some (l1, q1.2)) else ((R_errs (1 : Int32) q1.2).bind (fun q2 => some (q2.1, q2.2)))) else (if l1 = (16 : Int32) then ((R_errs (3 : Int32) q1.2).bind (fun q3 => some (q3.1, q3.2))) else (if inb ((32 : Int32) + l1) 48 = true then ((R_reads (wA q1.2 11 ((32 : Int32) + l1) (rF q1.2 0 16))).bind (fun q4 => if inb ((32 : Int32) + l1) 48 = true then ((R_readSum (wA q4.2 12 ((32 : Int32) + l1) (rF q4.2 0 26))).bind (fun q5 => if q5.1 = (-1 : Int32) then (some ((-1 : Int32), q5.2)) else (if inb ((32 : Int32) + l1) 48 = true then ((R_isWord (3 : Int32) (wA q5.2 13 ((32 : Int32) + l1) (rF q5.2 0 26))).bind (fun q6 => if q6.1 = 0 then (R_readLaw_c92 l1 ((32 : Int32) + l1) q6.2) else ((R_reads q6.2).bind (fun q7 => (R_readAny q7.2).bind (fun q8 => if q8.1 = (-1 : Int32) then (some ((-1 : Int32), q8.2)) else (R_readLaw_c92 l1 ((32 : Int32) + l1) q8.2)))))) else (none)))) else (none))) else (none)))) := by
  show Res PT GR (rkT 202) 202 (pCut cd202 2, [.ref 0, .int l1, .null], [], S) = _
  refine (R_reg PT GR (k := 202) (code := cd202) rfl [2, 92] 400).trans ?_
  refine (R_cx PT GR hRk PT_201 rfl rfl rfl rfl rfl).trans ?_
  refine bind_cong (fun q1 => ?_)
  refine (R_blk PT GR (k := 202) (code := cd202) rfl [2, 92] 400 _).trans ?_
  refine br_cong ?_ ?_
  · refine br_cong ?_ ?_
    · exact R_retI PT GR rfl rfl
    · refine (R_cx PT GR hRk PT_189 rfl rfl rfl rfl rfl).trans ?_
      refine bind_cong (fun q2 => ?_)
      refine (R_blk PT GR (k := 202) (code := cd202) rfl [2, 92] 400 _).trans ?_
      exact R_retI PT GR rfl rfl
  · refine br_cong ?_ ?_
    · refine (R_cx PT GR hRk PT_189 rfl rfl rfl rfl rfl).trans ?_
      refine bind_cong (fun q3 => ?_)
      refine (R_blk PT GR (k := 202) (code := cd202) rfl [2, 92] 400 _).trans ?_
      exact R_retI PT GR rfl rfl
    · refine br_cong ?_ ?_
      · refine (R_cx PT GR hRk PT_188 rfl rfl rfl rfl rfl).trans ?_
        refine bind_cong (fun q4 => ?_)
        refine (R_blk PT GR (k := 202) (code := cd202) rfl [2, 92] 400 _).trans ?_
        refine br_cong ?_ ?_
        · refine (R_cx PT GR hRk PT_196 rfl rfl rfl rfl rfl).trans ?_
          refine bind_cong (fun q5 => ?_)
          refine (R_blk PT GR (k := 202) (code := cd202) rfl [2, 92] 400 _).trans ?_
          refine br_cong ?_ ?_
          · exact R_retI PT GR rfl rfl
          · refine br_cong ?_ ?_
            · refine (R_cx PT GR hRk PT_190 rfl rfl rfl rfl rfl).trans ?_
              refine bind_cong (fun q6 => ?_)
              refine (R_blk PT GR (k := 202) (code := cd202) rfl [2, 92] 400 _).trans ?_
              refine br_cong ?_ ?_
              · rfl
              · refine (R_cx PT GR hRk PT_188 rfl rfl rfl rfl rfl).trans ?_
                refine bind_cong (fun q7 => ?_)
                refine (R_blk PT GR (k := 202) (code := cd202) rfl [2, 92] 400 _).trans ?_
                refine (R_cx PT GR hRk PT_200 rfl rfl rfl rfl rfl).trans ?_
                refine bind_cong (fun q8 => ?_)
                refine (R_blk PT GR (k := 202) (code := cd202) rfl [2, 92] 400 _).trans ?_
                refine br_cong ?_ ?_
                · exact R_retI PT GR rfl rfl
                · rfl
            · rfl
        · rfl
      · rfl
set_option maxRecDepth 20000 in
theorem R_readLaw_c92_eq (l1 : Int32) (l2 : Int32) (S : pS) : R_readLaw_c92 l1 l2 S = if inb l2 48 = true then ((R_isSign (59 : Int32) (wA S 14 l2 (rF S 0 26))).bind (fun q9 => if q9.1 = 0 then ((R_errs (1 : Int32) q9.2).bind (fun q10 => some (q10.1, q10.2))) else ((R_reads q9.2).bind (fun q11 => R_readLaw_c2 (l1 + (1 : Int32)) q11.2)))) else (none) := by
  show Res PT GR (rkT 202) 202 (pCut cd202 92, [.ref 0, .int l1, .int l2], [], S) = _
  refine (R_reg PT GR (k := 202) (code := cd202) rfl [2, 92] 400).trans ?_
  refine br_cong ?_ ?_
  · refine (R_cx PT GR hRk PT_191 rfl rfl rfl rfl rfl).trans ?_
    refine bind_cong (fun q9 => ?_)
    refine (R_blk PT GR (k := 202) (code := cd202) rfl [2, 92] 400 _).trans ?_
    refine br_cong ?_ ?_
    · refine (R_cx PT GR hRk PT_189 rfl rfl rfl rfl rfl).trans ?_
      refine bind_cong (fun q10 => ?_)
      refine (R_blk PT GR (k := 202) (code := cd202) rfl [2, 92] 400 _).trans ?_
      exact R_retI PT GR rfl rfl
    · refine (R_cx PT GR hRk PT_188 rfl rfl rfl rfl rfl).trans ?_
      refine bind_cong (fun q11 => ?_)
      exact (R_blk PT GR (k := 202) (code := cd202) rfl [2, 92] 400 _).trans rfl
  · rfl
set_option maxRecDepth 20000 in
theorem R_doesHold_eq (a1 : Int32) (a2 : Int32) (S : pS) : R_doesHold a1 a2 S = if inb ((34 : Int32) + a1) 76 = true then (if inb ((34 : Int32) + a1) 76 = true then (if (rF S 0 5) = 0 then ((R_draw (1000 : Int32) (wA S 1 ((34 : Int32) + a1) ((rA S 1 ((34 : Int32) + a1)) + (1 : Int32)))).bind (fun q1 => if q1.1 < a2 then (some ((1 : Int32), q1.2)) else (some ((0 : Int32), q1.2)))) else (if ((2 : Int32) * a2) < (1000 : Int32) then (some ((0 : Int32), (wA S 1 ((34 : Int32) + a1) ((rA S 1 ((34 : Int32) + a1)) + (1 : Int32))))) else (some ((1 : Int32), (wA S 1 ((34 : Int32) + a1) ((rA S 1 ((34 : Int32) + a1)) + (1 : Int32))))))) else (none)) else (none) := by
  show Res PT GR (rkT 227) 227 (cd227, [.ref 0, .int a1, .int a2], [], S) = _
  refine (R_blk PT GR (k := 227) (code := cd227) rfl [] 400 _).trans ?_
  refine br_cong ?_ ?_
  · refine br_cong ?_ ?_
    · refine br_cong ?_ ?_
      · refine (R_cx PT GR hRk PT_172 rfl rfl rfl rfl rfl).trans ?_
        refine bind_cong (fun q1 => ?_)
        refine (R_blk PT GR (k := 227) (code := cd227) rfl [] 400 _).trans ?_
        refine br_cong ?_ ?_
        · exact R_retI PT GR rfl rfl
        · exact R_retI PT GR rfl rfl
      · refine br_cong ?_ ?_
        · exact R_retI PT GR rfl rfl
        · exact R_retI PT GR rfl rfl
    · rfl
  · rfl
set_option maxRecDepth 20000 in
theorem R_notes_eq (a1 : Int32) (a2 : Int32) (a3 : Int32) (S : pS) : R_notes a1 a2 a3 S = if (rF S 0 5) = 0 then (if (rA S 1 (2 : Int32)) = (150 : Int32) then (some (0, S)) else (if inb ((4 : Int32) * (rA S 1 (2 : Int32))) 600 = true then (if inb (((4 : Int32) * (rA S 1 (2 : Int32))) + (1 : Int32)) 600 = true then (if inb (((4 : Int32) * (rA S 1 (2 : Int32))) + (2 : Int32)) 600 = true then (if inb (((4 : Int32) * (rA S 1 (2 : Int32))) + (3 : Int32)) 600 = true then (some (0, (wA (wA (wA (wA (wA S 7 ((4 : Int32) * (rA S 1 (2 : Int32))) (rA S 1 (0 : Int32))) 7 (((4 : Int32) * (rA S 1 (2 : Int32))) + (1 : Int32)) a1) 7 (((4 : Int32) * (rA S 1 (2 : Int32))) + (2 : Int32)) a2) 7 (((4 : Int32) * (rA S 1 (2 : Int32))) + (3 : Int32)) a3) 1 (2 : Int32) ((rA S 1 (2 : Int32)) + (1 : Int32))))) else (none)) else (none)) else (none)) else (none))) else (some (0, S)) := by
  show Res PT GR (rkT 225) 225 (cd225, [.ref 0, .int a1, .int a2, .int a3, .null], [], S) = _
  refine (R_blk PT GR (k := 225) (code := cd225) rfl [] 400 _).trans ?_
  refine br_cong ?_ ?_
  · refine brT (by decide) ?_
    refine br_cong ?_ ?_
    · exact R_retV PT GR rfl
    · refine brT (by decide) ?_
      refine brT (by decide) ?_
      refine br_cong ?_ ?_
      · refine br_cong ?_ ?_
        · refine br_cong ?_ ?_
          · refine br_cong ?_ ?_
            · refine brT (by decide) ?_
              refine brT (by decide) ?_
              exact R_retV PT GR rfl
            · rfl
          · rfl
        · rfl
      · rfl
  · exact R_retV PT GR rfl
