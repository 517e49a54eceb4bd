/-! Equations of methods (written by program). -/
set_option maxRecDepth 20000 in
theorem R_undo_eq (S : pS) : R_undo S = if (rF S 0 3) = 0 then (some ((0 : Int32), (wF S 0 0 (0 : Int32)))) else (R_undo_c26 (0 : Int32) (wF (wF S 0 0 (0 : Int32)) 0 3 ((rF S 0 3) - (1 : Int32)))) := by
  show Res PT GR (rkT 168) 168 (cd168, [.ref 0, .null], [], S) = _
  refine (R_blk PT GR (k := 168) (code := cd168) rfl [26] 400 _).trans ?_
  refine brT (Or.inl rfl) ?_
  refine br_cong ?_ ?_
  · exact R_retI PT GR rfl rfl
  · refine brT (Or.inl rfl) ?_
    rfl
set_option maxRecDepth 20000 in
theorem R_undo_c26_eq (l1 : Int32) (S : pS) : R_undo_c26 l1 S = if l1 < (76 : Int32) then (if inb (((76 : Int32) * (rF S 0 3)) + l1) 456 = true then (if inb l1 76 = true then (R_undo_c26 (l1 + (1 : Int32)) (wA S 1 l1 (rA S 2 (((76 : Int32) * (rF S 0 3)) + l1)))) else (none)) else (none)) else (some ((1 : Int32), S)) := by
  show Res PT GR (rkT 168) 168 (pCut cd168 26, [.ref 0, .int l1], [], S) = _
  refine (R_reg PT GR (k := 168) (code := cd168) rfl [26] 400).trans ?_
  refine br_cong ?_ ?_
  · refine br_cong ?_ ?_
    · refine br_cong ?_ ?_
      · rfl
      · rfl
    · rfl
  · exact R_retI PT GR rfl rfl
set_option maxRecDepth 20000 in
theorem R_state_eq (a1 : Int32) (S : pS) : R_state a1 S = some ((rA S 1 (1 : Int32)), (wF (wA (wF S 0 0 (0 : Int32)) 1 (1 : Int32) a1) 0 3 (0 : Int32))) := by
  show Res PT GR (rkT 171) 171 (cd171, [.ref 0, .int a1, .null], [], S) = _
  refine (R_blk PT GR (k := 171) (code := cd171) rfl [] 400 _).trans ?_
  refine brT (Or.inl rfl) ?_
  refine brT (by decide) ?_
  refine brT (by decide) ?_
  refine brT (Or.inl rfl) ?_
  exact R_retI PT GR rfl rfl
set_option maxRecDepth 20000 in
theorem R_card_eq (a1 : Int32) (a2 : Int32) (a3 : Int32) (a4 : Int32) (S : pS) : R_card a1 a2 a3 a4 S = (R_isPerson a1 (wF S 0 0 (0 : Int32))).bind (fun q1 => if q1.1 = 0 then (some ((-1 : Int32), q1.2)) else ((R_isIn a2 (0 : Int32) (7 : Int32) q1.2).bind (fun q2 => if q2.1 = 0 then (some ((-1 : Int32), q2.2)) else ((R_isIn a3 (0 : Int32) (5 : Int32) q2.2).bind (fun q3 => if q3.1 = 0 then (some ((-1 : Int32), q3.2)) else ((R_isIn a4 (0 : Int32) (99 : Int32) q3.2).bind (fun q4 => if q4.1 = 0 then (some ((-1 : Int32), q4.2)) else (if (rF q4.2 0 6) = (14 : Int32) then (some ((-1 : Int32), q4.2)) else (if inb (rF q4.2 0 6) 14 = true then (if inb (rF q4.2 0 6) 14 = true then (if inb (rF q4.2 0 6) 14 = true then (if inb ((6 : Int32) + (rF q4.2 0 6)) 76 = true then (if inb ((20 : Int32) + (rF q4.2 0 6)) 76 = true then (if inb ((34 : Int32) + (rF q4.2 0 6)) 76 = true then (if inb ((48 : Int32) + (rF q4.2 0 6)) 76 = true then (if inb ((62 : Int32) + (rF q4.2 0 6)) 76 = true then (some ((((rF q4.2 0 6) + (1 : Int32)) - (1 : Int32)), (wF (wF (wA (wA (wA (wA (wA (wA (wA (wA q4.2 4 (rF q4.2 0 6) a1) 5 (rF q4.2 0 6) a2) 6 (rF q4.2 0 6) a3) 1 ((6 : Int32) + (rF q4.2 0 6)) a4) 1 ((20 : Int32) + (rF q4.2 0 6)) (0 : Int32)) 1 ((34 : Int32) + (rF q4.2 0 6)) (0 : Int32)) 1 ((48 : Int32) + (rF q4.2 0 6)) (0 : Int32)) 1 ((62 : Int32) + (rF q4.2 0 6)) (0 : Int32)) 0 6 ((rF q4.2 0 6) + (1 : Int32))) 0 3 (0 : Int32)))) else (none)) else (none)) else (none)) else (none)) else (none)) else (none)) else (none)) else (none)))))))))) := by
  show Res PT GR (rkT 178) 178 (cd178, [.ref 0, .int a1, .int a2, .int a3, .int a4], [], S) = _
  refine (R_blk PT GR (k := 178) (code := cd178) rfl [] 400 _).trans ?_
  refine brT (Or.inl rfl) ?_
  refine (R_cx PT GR hRk PT_174 rfl rfl rfl rfl rfl).trans ?_
  refine bind_cong (fun q1 => ?_)
  refine (R_blk PT GR (k := 178) (code := cd178) rfl [] 400 _).trans ?_
  refine br_cong ?_ ?_
  · exact R_retI PT GR rfl rfl
  · refine (R_cx PT GR hRk PT_161 rfl rfl rfl rfl rfl).trans ?_
    refine bind_cong (fun q2 => ?_)
    refine (R_blk PT GR (k := 178) (code := cd178) rfl [] 400 _).trans ?_
    refine br_cong ?_ ?_
    · exact R_retI PT GR rfl rfl
    · refine (R_cx PT GR hRk PT_161 rfl rfl rfl rfl rfl).trans ?_
      refine bind_cong (fun q3 => ?_)
      refine (R_blk PT GR (k := 178) (code := cd178) rfl [] 400 _).trans ?_
      refine br_cong ?_ ?_
      · exact R_retI PT GR rfl rfl
      · refine (R_cx PT GR hRk PT_161 rfl rfl rfl rfl rfl).trans ?_
        refine bind_cong (fun q4 => ?_)
        refine (R_blk PT GR (k := 178) (code := cd178) rfl [] 400 _).trans ?_
        refine br_cong ?_ ?_
        · exact R_retI PT GR rfl rfl
        · refine br_cong ?_ ?_
          · exact R_retI PT GR rfl rfl
          · refine br_cong ?_ ?_
            · refine br_cong ?_ ?_
              · refine br_cong ?_ ?_
                · refine br_cong ?_ ?_
                  · refine br_cong ?_ ?_
                    · refine br_cong ?_ ?_
                      · refine br_cong ?_ ?_
                        · refine br_cong ?_ ?_
                          · refine brT (Or.inl rfl) ?_
                            refine brT (Or.inl rfl) ?_
                            exact R_retI PT GR rfl rfl
                          · rfl
                        · rfl
                      · rfl
                    · rfl
                  · rfl
                · rfl
              · rfl
            · rfl
set_option maxRecDepth 20000 in
theorem R_set_eq (a1 : Int32) (a2 : Int32) (a3 : Int32) (S : pS) : R_set a1 a2 a3 S = (R_isIn a1 (0 : Int32) (2 : Int32) (wF S 0 0 (0 : Int32))).bind (fun q1 => if q1.1 = 0 then (some ((0 : Int32), q1.2)) else ((R_isIn a3 (0 : Int32) (99 : Int32) q1.2).bind (fun q2 => if q2.1 = 0 then (some ((0 : Int32), q2.2)) else (if a1 ≤ 0 then (R_set_c40 a1 a2 a3 q2.2) else ((R_isCard a2 q2.2).bind (fun q3 => if q3.1 = 0 then (some ((0 : Int32), q3.2)) else (R_set_c40 a1 a2 a3 q3.2))))))) := by
  show Res PT GR (rkT 179) 179 (cd179, [.ref 0, .int a1, .int a2, .int a3], [], S) = _
  refine (R_blk PT GR (k := 179) (code := cd179) rfl [40, 51, 66, 81] 400 _).trans ?_
  refine brT (Or.inl rfl) ?_
  refine (R_cx PT GR hRk PT_161 rfl rfl rfl rfl rfl).trans ?_
  refine bind_cong (fun q1 => ?_)
  refine (R_blk PT GR (k := 179) (code := cd179) rfl [40, 51, 66, 81] 400 _).trans ?_
  refine br_cong ?_ ?_
  · exact R_retI PT GR rfl rfl
  · refine (R_cx PT GR hRk PT_161 rfl rfl rfl rfl rfl).trans ?_
    refine bind_cong (fun q2 => ?_)
    refine (R_blk PT GR (k := 179) (code := cd179) rfl [40, 51, 66, 81] 400 _).trans ?_
    refine br_cong ?_ ?_
    · exact R_retI PT GR rfl rfl
    · refine br_cong ?_ ?_
      · rfl
      · refine (R_cx PT GR hRk PT_173 rfl rfl rfl rfl rfl).trans ?_
        refine bind_cong (fun q3 => ?_)
        refine (R_blk PT GR (k := 179) (code := cd179) rfl [40, 51, 66, 81] 400 _).trans ?_
        refine br_cong ?_ ?_
        · exact R_retI PT GR rfl rfl
        · rfl
set_option maxRecDepth 20000 in
theorem R_set_c40_eq (l1 : Int32) (l2 : Int32) (l3 : Int32) (S : pS) : R_set_c40 l1 l2 l3 S = if l1 = 0 then (R_set_c51 l1 l2 l3 (wA S 1 (0 : Int32) l3)) else (R_set_c51 l1 l2 l3 S) := by
  show Res PT GR (rkT 179) 179 (pCut cd179 40, [.ref 0, .int l1, .int l2, .int l3], [], S) = _
  refine (R_reg PT GR (k := 179) (code := cd179) rfl [40, 51, 66, 81] 400).trans ?_
  refine br_cong ?_ ?_
  · refine brT (by decide) ?_
    rfl
  · rfl
set_option maxRecDepth 20000 in
theorem R_set_c51_eq (l1 : Int32) (l2 : Int32) (l3 : Int32) (S : pS) : R_set_c51 l1 l2 l3 S = if l1 = (1 : Int32) then (if inb ((6 : Int32) + l2) 76 = true then (R_set_c66 l1 l2 l3 (wA S 1 ((6 : Int32) + l2) l3)) else (none)) else (R_set_c66 l1 l2 l3 S) := by
  show Res PT GR (rkT 179) 179 (pCut cd179 51, [.ref 0, .int l1, .int l2, .int l3], [], S) = _
  refine (R_reg PT GR (k := 179) (code := cd179) rfl [40, 51, 66, 81] 400).trans ?_
  refine br_cong ?_ ?_
  · refine br_cong ?_ ?_
    · rfl
    · rfl
  · rfl
set_option maxRecDepth 20000 in
theorem R_set_c66_eq (l1 : Int32) (l2 : Int32) (l3 : Int32) (S : pS) : R_set_c66 l1 l2 l3 S = if l1 = (2 : Int32) then (if inb ((20 : Int32) + l2) 76 = true then (R_set_c81 (wA S 1 ((20 : Int32) + l2) l3)) else (none)) else (R_set_c81 S) := by
  show Res PT GR (rkT 179) 179 (pCut cd179 66, [.ref 0, .int l1, .int l2, .int l3], [], S) = _
  refine (R_reg PT GR (k := 179) (code := cd179) rfl [40, 51, 66, 81] 400).trans ?_
  refine br_cong ?_ ?_
  · refine br_cong ?_ ?_
    · rfl
    · rfl
  · rfl
set_option maxRecDepth 20000 in
theorem R_set_c81_eq (S : pS) : R_set_c81 S = some ((1 : Int32), (wF S 0 3 (0 : Int32))) := by
  show Res PT GR (rkT 179) 179 (pCut cd179 81, [.ref 0, .null, .null, .null], [], S) = _
  refine (R_reg PT GR (k := 179) (code := cd179) rfl [40, 51, 66, 81] 400).trans ?_
  refine brT (Or.inl rfl) ?_
  exact R_retI PT GR rfl rfl
set_option maxRecDepth 20000 in
theorem R_feed_eq (a1 : Int32) (a2 : Int32) (a3 : Int32) (a4 : Int32) (a5 : Int32) (S : pS) : R_feed a1 a2 a3 a4 a5 S = if (rF S 0 12) ≤ (380 : Int32) then ((R_types a1 (wF S 0 0 (0 : Int32))).bind (fun q1 => (R_types a2 q1.2).bind (fun q2 => (R_types a3 q2.2).bind (fun q3 => (R_types a4 q3.2).bind (fun q4 => (R_types a5 q4.2).bind (fun q5 => some ((rF q5.2 0 12), q5.2))))))) else (some ((-1 : Int32), (wF S 0 0 (0 : Int32)))) := by
  show Res PT GR (rkT 181) 181 (cd181, [.ref 0, .int a1, .int a2, .int a3, .int a4, .int a5], [], S) = _
  refine (R_blk PT GR (k := 181) (code := cd181) rfl [] 400 _).trans ?_
  refine brT (Or.inl rfl) ?_
  refine br_cong ?_ ?_
  · refine (R_cx PT GR hRk PT_180 rfl rfl rfl rfl rfl).trans ?_
    refine bind_cong (fun q1 => ?_)
    refine (R_blk PT GR (k := 181) (code := cd181) rfl [] 400 _).trans ?_
    refine (R_cx PT GR hRk PT_180 rfl rfl rfl rfl rfl).trans ?_
    refine bind_cong (fun q2 => ?_)
    refine (R_blk PT GR (k := 181) (code := cd181) rfl [] 400 _).trans ?_
    refine (R_cx PT GR hRk PT_180 rfl rfl rfl rfl rfl).trans ?_
    refine bind_cong (fun q3 => ?_)
    refine (R_blk PT GR (k := 181) (code := cd181) rfl [] 400 _).trans ?_
    refine (R_cx PT GR hRk PT_180 rfl rfl rfl rfl rfl).trans ?_
    refine bind_cong (fun q4 => ?_)
    refine (R_blk PT GR (k := 181) (code := cd181) rfl [] 400 _).trans ?_
    refine (R_cx PT GR hRk PT_180 rfl rfl rfl rfl rfl).trans ?_
    refine bind_cong (fun q5 => ?_)
    refine (R_blk PT GR (k := 181) (code := cd181) rfl [] 400 _).trans ?_
    exact R_retI PT GR rfl rfl
  · exact R_retI PT GR rfl rfl
set_option maxRecDepth 20000 in
theorem R_end_eq (a1 : Int32) (S : pS) : R_end a1 S = (R_isIn a1 (0 : Int32) (rF S 0 12) (wF S 0 0 (0 : Int32))).bind (fun q1 => if q1.1 = 0 then (some ((0 : Int32), q1.2)) else (some ((1 : Int32), (wF q1.2 0 12 a1)))) := by
  show Res PT GR (rkT 182) 182 (cd182, [.ref 0, .int a1], [], S) = _
  refine (R_blk PT GR (k := 182) (code := cd182) rfl [] 400 _).trans ?_
  refine brT (Or.inl rfl) ?_
  refine (R_cx PT GR hRk PT_161 rfl rfl rfl rfl rfl).trans ?_
  refine bind_cong (fun q1 => ?_)
  refine (R_blk PT GR (k := 182) (code := cd182) rfl [] 400 _).trans ?_
  refine br_cong ?_ ?_
  · exact R_retI PT GR rfl rfl
  · refine brT (Or.inl rfl) ?_
    exact R_retI PT GR rfl rfl
set_option maxRecDepth 20000 in
theorem R_text_eq (a1 : Int32) (S : pS) : R_text a1 S = (R_isIn a1 (0 : Int32) (3 : Int32) (wF (wF (wF (wF (wF (wF S 0 0 (0 : Int32)) 0 32 (0 : Int32)) 0 33 (-1 : Int32)) 0 13 (0 : Int32)) 0 26 (0 : Int32)) 0 27 (0 : Int32))).bind (fun q1 => if q1.1 = 0 then (R_text_c69 a1 (-1 : Int32) q1.2) else ((R_readsText a1 q1.2).bind (fun q2 => if q2.1 = (-1 : Int32) then (R_text_c69 a1 q2.1 (wF (wF q2.2 0 32 (rF q2.2 0 30)) 0 33 (rF q2.2 0 31))) else (R_text_c69 a1 q2.1 q2.2)))) := by
  show Res PT GR (rkT 215) 215 (cd215, [.ref 0, .int a1, .null], [], S) = _
  refine (R_blk PT GR (k := 215) (code := cd215) rfl [69] 400 _).trans ?_
  refine brT (Or.inl rfl) ?_
  refine brT (Or.inl rfl) ?_
  refine brT (Or.inl rfl) ?_
  refine brT (Or.inl rfl) ?_
  refine brT (Or.inl rfl) ?_
  refine brT (Or.inl rfl) ?_
  refine (R_cx PT GR hRk PT_161 rfl rfl rfl rfl rfl).trans ?_
  refine bind_cong (fun q1 => ?_)
  refine (R_blk PT GR (k := 215) (code := cd215) rfl [69] 400 _).trans ?_
  refine br_cong ?_ ?_
  · rfl
  · refine (R_cx PT GR hRk PT_213 rfl rfl rfl rfl rfl).trans ?_
    refine bind_cong (fun q2 => ?_)
    refine (R_blk PT GR (k := 215) (code := cd215) rfl [69] 400 _).trans ?_
    refine br_cong ?_ ?_
    · refine brT (Or.inl rfl) ?_
      refine brT (Or.inl rfl) ?_
      rfl
    · rfl
set_option maxRecDepth 20000 in
theorem R_text_c69_eq (l1 : Int32) (l2 : Int32) (S : pS) : R_text_c69 l1 l2 S = if l2 = (-1 : Int32) then (some ((-1 : Int32), (wF S 0 12 (0 : Int32)))) else (if l1 = 0 then ((R_takesLaw l2 (wF S 0 12 (0 : Int32))).bind (fun q3 => some (l2, q3.2))) else ((R_takesOther l1 l2 (wF S 0 12 (0 : Int32))).bind (fun q4 => some (l2, q4.2)))) := by
  show Res PT GR (rkT 215) 215 (pCut cd215 69, [.ref 0, .int l1, .int l2], [], S) = _
  refine (R_reg PT GR (k := 215) (code := cd215) rfl [69] 400).trans ?_
  refine brT (Or.inl rfl) ?_
  refine br_cong ?_ ?_
  · exact R_retI PT GR rfl rfl
  · refine br_cong ?_ ?_
    · refine (R_cx PT GR hRk PT_203 rfl rfl rfl rfl rfl).trans ?_
      refine bind_cong (fun q3 => ?_)
      refine (R_blk PT GR (k := 215) (code := cd215) rfl [69] 400 _).trans ?_
      exact R_retI PT GR rfl rfl
    · refine (R_cx PT GR hRk PT_214 rfl rfl rfl rfl rfl).trans ?_
      refine bind_cong (fun q4 => ?_)
      refine (R_blk PT GR (k := 215) (code := cd215) rfl [69] 400 _).trans ?_
      exact R_retI PT GR rfl rfl
set_option maxRecDepth 20000 in
theorem R_fault_eq (a1 : Int32) (S : pS) : R_fault a1 S = if a1 = 0 then (some ((rF S 0 32), (wF S 0 0 (0 : Int32)))) else (if a1 = (1 : Int32) then (some ((rF S 0 33), (wF S 0 0 (0 : Int32)))) else (some ((-1 : Int32), (wF S 0 0 (0 : Int32))))) := by
  show Res PT GR (rkT 216) 216 (cd216, [.ref 0, .int a1], [], S) = _
  refine (R_blk PT GR (k := 216) (code := cd216) rfl [] 400 _).trans ?_
  refine brT (Or.inl rfl) ?_
  refine br_cong ?_ ?_
  · exact R_retI PT GR rfl rfl
  · refine br_cong ?_ ?_
    · exact R_retI PT GR rfl rfl
    · exact R_retI PT GR rfl rfl
set_option maxRecDepth 20000 in
theorem R_ring_eq (a1 : Int32) (S : pS) : R_ring a1 S = (R_isPerson a1 (wF S 0 0 (0 : Int32))).bind (fun q1 => if q1.1 = 0 then (some ((-1 : Int32), q1.2)) else ((R_bestCard a1 (-1 : Int32) q1.2).bind (fun q2 => if q2.1 = (-1 : Int32) then (some ((-1 : Int32), q2.2)) else ((R_keepsAhead q2.2).bind (fun q3 => (R_rings a1 q3.2).bind (fun q4 => some (q4.1, q4.2))))))) := by
  show Res PT GR (rkT 233) 233 (cd233, [.ref 0, .int a1], [], S) = _
  refine (R_blk PT GR (k := 233) (code := cd233) rfl [] 400 _).trans ?_
  refine brT (Or.inl rfl) ?_
  refine (R_cx PT GR hRk PT_174 rfl rfl rfl rfl rfl).trans ?_
  refine bind_cong (fun q1 => ?_)
  refine (R_blk PT GR (k := 233) (code := cd233) rfl [] 400 _).trans ?_
  refine br_cong ?_ ?_
  · exact R_retI PT GR rfl rfl
  · refine (R_cx PT GR hRk PT_226 rfl rfl rfl rfl rfl).trans ?_
    refine bind_cong (fun q2 => ?_)
    refine (R_blk PT GR (k := 233) (code := cd233) rfl [] 400 _).trans ?_
    refine br_cong ?_ ?_
    · exact R_retI PT GR rfl rfl
    · refine (R_cx PT GR hRk PT_167 rfl rfl rfl rfl rfl).trans ?_
      refine bind_cong (fun q3 => ?_)
      refine (R_blk PT GR (k := 233) (code := cd233) rfl [] 400 _).trans ?_
      refine (R_cx PT GR hRk PT_228 rfl rfl rfl rfl rfl).trans ?_
      refine bind_cong (fun q4 => ?_)
      refine (R_blk PT GR (k := 233) (code := cd233) rfl [] 400 _).trans ?_
      exact R_retI PT GR rfl rfl
set_option maxRecDepth 20000 in
theorem R_toss_eq (a1 : Int32) (S : pS) : R_toss a1 S = (R_isIn a1 (1 : Int32) (14 : Int32) (wF S 0 0 (0 : Int32))).bind (fun q1 => if q1.1 = 0 then (some ((-1 : Int32), q1.2)) else ((R_keepsAhead q1.2).bind (fun q2 => (R_throwsSome a1 q2.2).bind (fun q3 => some (q3.1, q3.2))))) := by
  show Res PT GR (rkT 234) 234 (cd234, [.ref 0, .int a1], [], S) = _
  refine (R_blk PT GR (k := 234) (code := cd234) rfl [] 400 _).trans ?_
  refine brT (Or.inl rfl) ?_
  refine (R_cx PT GR hRk PT_161 rfl rfl rfl rfl rfl).trans ?_
  refine bind_cong (fun q1 => ?_)
  refine (R_blk PT GR (k := 234) (code := cd234) rfl [] 400 _).trans ?_
  refine br_cong ?_ ?_
  · exact R_retI PT GR rfl rfl
  · refine (R_cx PT GR hRk PT_167 rfl rfl rfl rfl rfl).trans ?_
    refine bind_cong (fun q2 => ?_)
    refine (R_blk PT GR (k := 234) (code := cd234) rfl [] 400 _).trans ?_
    refine (R_cx PT GR hRk PT_230 rfl rfl rfl rfl rfl).trans ?_
    refine bind_cong (fun q3 => ?_)
    refine (R_blk PT GR (k := 234) (code := cd234) rfl [] 400 _).trans ?_
    exact R_retI PT GR rfl rfl
set_option maxRecDepth 20000 in
theorem R_does_eq (a1 : Int32) (a2 : Int32) (S : pS) : R_does a1 a2 S = (R_isCard a1 (wF S 0 0 (0 : Int32))).bind (fun q1 => if q1.1 = 0 then (some ((0 : Int32), q1.2)) else (if a2 = 0 then (R_does_c27 a1 a2 q1.2) else ((R_isKept a1 q1.2).bind (fun q2 => if q2.1 = 0 then (R_does_c27 a1 a2 q2.2) else (some ((0 : Int32), q2.2)))))) := by
  show Res PT GR (rkT 235) 235 (cd235, [.ref 0, .int a1, .int a2], [], S) = _
  refine (R_blk PT GR (k := 235) (code := cd235) rfl [27] 400 _).trans ?_
  refine brT (Or.inl rfl) ?_
  refine (R_cx PT GR hRk PT_173 rfl rfl rfl rfl rfl).trans ?_
  refine bind_cong (fun q1 => ?_)
  refine (R_blk PT GR (k := 235) (code := cd235) rfl [27] 400 _).trans ?_
  refine br_cong ?_ ?_
  · exact R_retI PT GR rfl rfl
  · refine br_cong ?_ ?_
    · rfl
    · refine (R_cx PT GR hRk PT_175 rfl rfl rfl rfl rfl).trans ?_
      refine bind_cong (fun q2 => ?_)
      refine (R_blk PT GR (k := 235) (code := cd235) rfl [27] 400 _).trans ?_
      refine br_cong ?_ ?_
      · rfl
      · exact R_retI PT GR rfl rfl
set_option maxRecDepth 20000 in
theorem R_does_c27_eq (l1 : Int32) (l2 : Int32) (S : pS) : R_does_c27 l1 l2 S = (R_keepsAhead S).bind (fun q3 => if l2 = 0 then ((R_bends l1 q3.2).bind (fun q4 => some ((1 : Int32), q4.2))) else ((R_finds l1 q3.2).bind (fun q5 => some ((1 : Int32), q5.2)))) := by
  show Res PT GR (rkT 235) 235 (pCut cd235 27, [.ref 0, .int l1, .int l2], [], S) = _
  refine (R_reg PT GR (k := 235) (code := cd235) rfl [27] 400).trans ?_
  refine (R_cx PT GR hRk PT_167 rfl rfl rfl rfl rfl).trans ?_
  refine bind_cong (fun q3 => ?_)
  refine (R_blk PT GR (k := 235) (code := cd235) rfl [27] 400 _).trans ?_
  refine br_cong ?_ ?_
  · refine (R_cx PT GR hRk PT_231 rfl rfl rfl rfl rfl).trans ?_
    refine bind_cong (fun q4 => ?_)
    refine (R_blk PT GR (k := 235) (code := cd235) rfl [27] 400 _).trans ?_
    exact R_retI PT GR rfl rfl
  · refine (R_cx PT GR hRk PT_232 rfl rfl rfl rfl rfl).trans ?_
    refine bind_cong (fun q5 => ?_)
    refine (R_blk PT GR (k := 235) (code := cd235) rfl [27] 400 _).trans ?_
    exact R_retI PT GR rfl rfl
set_option maxRecDepth 20000 in
theorem R_years_eq (a1 : Int32) (S : pS) : R_years a1 S = (R_isIn a1 (1 : Int32) (30 : Int32) (wF S 0 0 (0 : Int32))).bind (fun q1 => if q1.1 = 0 then (some ((-1 : Int32), q1.2)) else (if ((rA q1.2 1 (0 : Int32)) + a1) ≤ (99 : Int32) then (R_years_c35 a1 (0 : Int32) (0 : Int32) q1.2) else (some ((-1 : Int32), q1.2)))) := by
  show Res PT GR (rkT 240) 240 (cd240, [.ref 0, .int a1, .null, .null], [], S) = _
  refine (R_blk PT GR (k := 240) (code := cd240) rfl [35] 400 _).trans ?_
  refine brT (Or.inl rfl) ?_
  refine (R_cx PT GR hRk PT_161 rfl rfl rfl rfl rfl).trans ?_
  refine bind_cong (fun q1 => ?_)
  refine (R_blk PT GR (k := 240) (code := cd240) rfl [35] 400 _).trans ?_
  refine br_cong ?_ ?_
  · exact R_retI PT GR rfl rfl
  · refine brT (by decide) ?_
    refine br_cong ?_ ?_
    · rfl
    · exact R_retI PT GR rfl rfl
set_option maxRecDepth 20000 in
theorem R_years_c35_eq (l1 : Int32) (l2 : Int32) (l3 : Int32) (S : pS) : R_years_c35 l1 l2 l3 S = if l3 < l1 then ((R_keepsAhead S).bind (fun q2 => (R_goesBy q2.2).bind (fun q3 => R_years_c35 l1 (l2 + q3.1) (l3 + (1 : Int32)) q3.2))) else (some (l2, S)) := by
  show Res PT GR (rkT 240) 240 (pCut cd240 35, [.ref 0, .int l1, .int l2, .int l3], [], S) = _
  refine (R_reg PT GR (k := 240) (code := cd240) rfl [35] 400).trans ?_
  refine br_cong ?_ ?_
  · refine (R_cx PT GR hRk PT_167 rfl rfl rfl rfl rfl).trans ?_
    refine bind_cong (fun q2 => ?_)
    refine (R_blk PT GR (k := 240) (code := cd240) rfl [35] 400 _).trans ?_
    refine (R_cx PT GR hRk PT_239 rfl rfl rfl rfl rfl).trans ?_
    refine bind_cong (fun q3 => ?_)
    exact (R_blk PT GR (k := 240) (code := cd240) rfl [35] 400 _).trans rfl
  · exact R_retI PT GR rfl rfl
set_option maxRecDepth 20000 in
theorem R_of_eq (a1 : Int32) (a2 : Int32) (S : pS) : R_of a1 a2 S = (R_isCard a1 (wF S 0 0 (0 : Int32))).bind (fun q1 => if q1.1 = 0 then (some ((-1 : Int32), q1.2)) else ((R_isIn a2 (0 : Int32) (10 : Int32) q1.2).bind (fun q2 => if q2.1 = 0 then (some ((-1 : Int32), q2.2)) else (if a2 = 0 then (if inb a1 14 = true then (some ((rA q2.2 4 a1), q2.2)) else (none)) else (if a2 = (1 : Int32) then (if inb a1 14 = true then (some ((rA q2.2 5 a1), q2.2)) else (none)) else (if a2 = (2 : Int32) then (if inb a1 14 = true then (some ((rA q2.2 6 a1), q2.2)) else (none)) else (if a2 = (3 : Int32) then (if inb ((6 : Int32) + a1) 76 = true then (some ((rA q2.2 1 ((6 : Int32) + a1)), q2.2)) else (none)) else (if a2 = (4 : Int32) then (if inb ((62 : Int32) + a1) 76 = true then (some ((rA q2.2 1 ((62 : Int32) + a1)), q2.2)) else (none)) else (if a2 = (5 : Int32) then (if inb ((20 : Int32) + a1) 76 = true then (some ((rA q2.2 1 ((20 : Int32) + a1)), q2.2)) else (none)) else (if a2 = (6 : Int32) then (if inb ((34 : Int32) + a1) 76 = true then (some ((rA q2.2 1 ((34 : Int32) + a1)), q2.2)) else (none)) else (if a2 = (7 : Int32) then (if inb ((48 : Int32) + a1) 76 = true then (some (((1 : Int32) - (rA q2.2 1 ((48 : Int32) + a1))), q2.2)) else (none)) else (if a2 = (8 : Int32) then ((R_holdsOf a1 q2.2).bind (fun q3 => some (q3.1, q3.2))) else (if a2 = (9 : Int32) then ((R_dustOf a1 q2.2).bind (fun q4 => some (q4.1, q4.2))) else ((R_worthOf a1 q2.2).bind (fun q5 => some (q5.1, q5.2)))))))))))))))) := by
  show Res PT GR (rkT 241) 241 (cd241, [.ref 0, .int a1, .int a2], [], S) = _
  refine (R_blk PT GR (k := 241) (code := cd241) rfl [] 400 _).trans ?_
  refine brT (Or.inl rfl) ?_
  refine (R_cx PT GR hRk PT_173 rfl rfl rfl rfl rfl).trans ?_
  refine bind_cong (fun q1 => ?_)
  refine (R_blk PT GR (k := 241) (code := cd241) rfl [] 400 _).trans ?_
  refine br_cong ?_ ?_
  · exact R_retI PT GR rfl rfl
  · refine (R_cx PT GR hRk PT_161 rfl rfl rfl rfl rfl).trans ?_
    refine bind_cong (fun q2 => ?_)
    refine (R_blk PT GR (k := 241) (code := cd241) rfl [] 400 _).trans ?_
    refine br_cong ?_ ?_
    · exact R_retI PT GR rfl rfl
    · refine br_cong ?_ ?_
      · refine br_cong ?_ ?_
        · exact R_retI PT GR rfl rfl
        · rfl
      · refine br_cong ?_ ?_
        · refine br_cong ?_ ?_
          · exact R_retI PT GR rfl rfl
          · rfl
        · refine br_cong ?_ ?_
          · refine br_cong ?_ ?_
            · exact R_retI PT GR rfl rfl
            · rfl
          · refine br_cong ?_ ?_
            · refine br_cong ?_ ?_
              · exact R_retI PT GR rfl rfl
              · rfl
            · refine br_cong ?_ ?_
              · refine br_cong ?_ ?_
                · exact R_retI PT GR rfl rfl
                · rfl
              · refine br_cong ?_ ?_
                · refine br_cong ?_ ?_
                  · exact R_retI PT GR rfl rfl
                  · rfl
                · refine br_cong ?_ ?_
                  · refine br_cong ?_ ?_
                    · exact R_retI PT GR rfl rfl
                    · rfl
                  · refine br_cong ?_ ?_
                    · refine br_cong ?_ ?_
                      · exact R_retI PT GR rfl rfl
                      · rfl
                    · refine br_cong ?_ ?_
                      · refine (R_cx PT GR hRk PT_222 rfl rfl rfl rfl rfl).trans ?_
                        refine bind_cong (fun q3 => ?_)
                        refine (R_blk PT GR (k := 241) (code := cd241) rfl [] 400 _).trans ?_
                        exact R_retI PT GR rfl rfl
                      · refine br_cong ?_ ?_
                        · refine (R_cx PT GR hRk PT_223 rfl rfl rfl rfl rfl).trans ?_
                          refine bind_cong (fun q4 => ?_)
                          refine (R_blk PT GR (k := 241) (code := cd241) rfl [] 400 _).trans ?_
                          exact R_retI PT GR rfl rfl
                        · refine (R_cx PT GR hRk PT_224 rfl rfl rfl rfl rfl).trans ?_
                          refine bind_cong (fun q5 => ?_)
                          refine (R_blk PT GR (k := 241) (code := cd241) rfl [] 400 _).trans ?_
                          exact R_retI PT GR rfl rfl
set_option maxRecDepth 20000 in
theorem R_met_eq (a1 : Int32) (S : pS) : R_met a1 S = (R_isPerson a1 (wF S 0 0 (0 : Int32))).bind (fun q1 => if q1.1 = 0 then (some ((-1 : Int32), q1.2)) else ((R_introducer a1 q1.2).bind (fun q2 => some (q2.1, q2.2)))) := by
  show Res PT GR (rkT 242) 242 (cd242, [.ref 0, .int a1], [], S) = _
  refine (R_blk PT GR (k := 242) (code := cd242) rfl [] 400 _).trans ?_
  refine brT (Or.inl rfl) ?_
  refine (R_cx PT GR hRk PT_174 rfl rfl rfl rfl rfl).trans ?_
  refine bind_cong (fun q1 => ?_)
  refine (R_blk PT GR (k := 242) (code := cd242) rfl [] 400 _).trans ?_
  refine br_cong ?_ ?_
  · exact R_retI PT GR rfl rfl
  · refine (R_cx PT GR hRk PT_177 rfl rfl rfl rfl rfl).trans ?_
    refine bind_cong (fun q2 => ?_)
    refine (R_blk PT GR (k := 242) (code := cd242) rfl [] 400 _).trans ?_
    exact R_retI PT GR rfl rfl
set_option maxRecDepth 20000 in
theorem R_called_eq (a1 : Int32) (a2 : Int32) (S : pS) : R_called a1 a2 S = (R_isIn a1 (0 : Int32) (7 : Int32) (wF S 0 0 (0 : Int32))).bind (fun q1 => if q1.1 = 0 then (some ((-1 : Int32), q1.2)) else (if a2 = 0 then (if inb a1 16 = true then (some ((rA q1.2 19 a1), q1.2)) else (none)) else (if a2 = (1 : Int32) then (if inb a1 16 = true then (some (((rA q1.2 20 a1) + (99 : Int32)), q1.2)) else (none)) else (some ((-1 : Int32), q1.2))))) := by
  show Res PT GR (rkT 243) 243 (cd243, [.ref 0, .int a1, .int a2], [], S) = _
  refine (R_blk PT GR (k := 243) (code := cd243) rfl [] 400 _).trans ?_
  refine brT (Or.inl rfl) ?_
  refine (R_cx PT GR hRk PT_161 rfl rfl rfl rfl rfl).trans ?_
  refine bind_cong (fun q1 => ?_)
  refine (R_blk PT GR (k := 243) (code := cd243) rfl [] 400 _).trans ?_
  refine br_cong ?_ ?_
  · exact R_retI PT GR rfl rfl
  · refine br_cong ?_ ?_
    · refine br_cong ?_ ?_
      · exact R_retI PT GR rfl rfl
      · rfl
    · refine br_cong ?_ ?_
      · refine br_cong ?_ ?_
        · exact R_retI PT GR rfl rfl
        · rfl
      · exact R_retI PT GR rfl rfl
set_option maxRecDepth 20000 in
theorem R_book_eq (a1 : Int32) (a2 : Int32) (S : pS) : R_book a1 a2 S = (R_isIn a1 (0 : Int32) ((rA S 1 (2 : Int32)) - (1 : Int32)) (wF S 0 0 (0 : Int32))).bind (fun q1 => if q1.1 = 0 then (some ((-1 : Int32), q1.2)) else ((R_isIn a2 (0 : Int32) (3 : Int32) q1.2).bind (fun q2 => if q2.1 = 0 then (some ((-1 : Int32), q2.2)) else (if inb (((4 : Int32) * a1) + a2) 600 = true then (some ((rA q2.2 7 (((4 : Int32) * a1) + a2)), q2.2)) else (none))))) := by
  show Res PT GR (rkT 244) 244 (cd244, [.ref 0, .int a1, .int a2], [], S) = _
  refine (R_blk PT GR (k := 244) (code := cd244) rfl [] 400 _).trans ?_
  refine brT (Or.inl rfl) ?_
  refine brT (by decide) ?_
  refine (R_cx PT GR hRk PT_161 rfl rfl rfl rfl rfl).trans ?_
  refine bind_cong (fun q1 => ?_)
  refine (R_blk PT GR (k := 244) (code := cd244) rfl [] 400 _).trans ?_
  refine br_cong ?_ ?_
  · exact R_retI PT GR rfl rfl
  · refine (R_cx PT GR hRk PT_161 rfl rfl rfl rfl rfl).trans ?_
    refine bind_cong (fun q2 => ?_)
    refine (R_blk PT GR (k := 244) (code := cd244) rfl [] 400 _).trans ?_
    refine br_cong ?_ ?_
    · exact R_retI PT GR rfl rfl
    · refine br_cong ?_ ?_
      · exact R_retI PT GR rfl rfl
      · rfl
set_option maxRecDepth 20000 in
theorem R_goes_eq (a1 : Int32) (a2 : Int32) (S : pS) : R_goes a1 a2 S = (R_isIn a1 (1 : Int32) (60 : Int32) (wF S 0 0 (0 : Int32))).bind (fun q1 => if q1.1 = 0 then (some ((-1 : Int32), q1.2)) else ((R_isIn a2 (0 : Int32) (3 : Int32) q1.2).bind (fun q2 => if q2.1 = 0 then (some ((-1 : Int32), q2.2)) else ((R_thinks q2.2).bind (fun q3 => R_goes_c34 a1 a2 (0 : Int32) q3.2))))) := by
  show Res PT GR (rkT 245) 245 (cd245, [.ref 0, .int a1, .int a2, .null], [], S) = _
  refine (R_blk PT GR (k := 245) (code := cd245) rfl [34, 74] 400 _).trans ?_
  refine brT (Or.inl rfl) ?_
  refine (R_cx PT GR hRk PT_161 rfl rfl rfl rfl rfl).trans ?_
  refine bind_cong (fun q1 => ?_)
  refine (R_blk PT GR (k := 245) (code := cd245) rfl [34, 74] 400 _).trans ?_
  refine br_cong ?_ ?_
  · exact R_retI PT GR rfl rfl
  · refine (R_cx PT GR hRk PT_161 rfl rfl rfl rfl rfl).trans ?_
    refine bind_cong (fun q2 => ?_)
    refine (R_blk PT GR (k := 245) (code := cd245) rfl [34, 74] 400 _).trans ?_
    refine br_cong ?_ ?_
    · exact R_retI PT GR rfl rfl
    · refine (R_cx PT GR hRk PT_169 rfl rfl rfl rfl rfl).trans ?_
      refine bind_cong (fun q3 => ?_)
      exact (R_blk PT GR (k := 245) (code := cd245) rfl [34, 74] 400 _).trans rfl
set_option maxRecDepth 20000 in
theorem R_goes_c34_eq (l1 : Int32) (l2 : Int32) (l3 : Int32) (S : pS) : R_goes_c34 l1 l2 l3 S = if l3 < l1 then ((R_goesBy S).bind (fun q4 => R_goes_c34 l1 l2 (l3 + (1 : Int32)) q4.2)) else (if l2 < (3 : Int32) then (if inb ((3 : Int32) + l2) 76 = true then (R_goes_c74 (rA S 1 ((3 : Int32) + l2)) S) else (none)) else ((R_keptSet S).bind (fun q5 => (R_onesOf q5.1 q5.2).bind (fun q6 => R_goes_c74 q6.1 q6.2)))) := by
  show Res PT GR (rkT 245) 245 (pCut cd245 34, [.ref 0, .int l1, .int l2, .int l3], [], S) = _
  refine (R_reg PT GR (k := 245) (code := cd245) rfl [34, 74] 400).trans ?_
  refine br_cong ?_ ?_
  · refine (R_cx PT GR hRk PT_239 rfl rfl rfl rfl rfl).trans ?_
    refine bind_cong (fun q4 => ?_)
    exact (R_blk PT GR (k := 245) (code := cd245) rfl [34, 74] 400 _).trans rfl
  · refine br_cong ?_ ?_
    · refine br_cong ?_ ?_
      · rfl
      · rfl
    · refine (R_cx PT GR hRk PT_176 rfl rfl rfl rfl rfl).trans ?_
      refine bind_cong (fun q5 => ?_)
      refine (R_blk PT GR (k := 245) (code := cd245) rfl [34, 74] 400 _).trans ?_
      refine (R_cx PT GR hRk PT_165 rfl rfl rfl rfl rfl).trans ?_
      refine bind_cong (fun q6 => ?_)
      exact (R_blk PT GR (k := 245) (code := cd245) rfl [34, 74] 400 _).trans rfl
set_option maxRecDepth 20000 in
theorem R_goes_c74_eq (s0 : Int32) (S : pS) : R_goes_c74 s0 S = (R_endsThought S).bind (fun q7 => some (s0, q7.2)) := by
  show Res PT GR (rkT 245) 245 (pCut cd245 74, [.ref 0, .null, .null, .null], [.int s0], S) = _
  refine (R_reg PT GR (k := 245) (code := cd245) rfl [34, 74] 400).trans ?_
  refine (R_cx PT GR hRk PT_170 rfl rfl rfl rfl rfl).trans ?_
  refine bind_cong (fun q7 => ?_)
  refine (R_blk PT GR (k := 245) (code := cd245) rfl [34, 74] 400 _).trans ?_
  exact R_retI PT GR rfl rfl
set_option maxRecDepth 20000 in
theorem R_ahead_eq (a1 : Int32) (a2 : Int32) (S : pS) : R_ahead a1 a2 S = if a1 = (-1 : Int32) then (some ((0 : Int32), (wF (wF S 0 0 (0 : Int32)) 0 43 (0 : Int32)))) else ((R_isCard a1 (wF S 0 0 (0 : Int32))).bind (fun q1 => if q1.1 = 0 then (some ((-1 : Int32), q1.2)) else ((R_isCard a2 q1.2).bind (fun q2 => if q2.1 = 0 then (some ((-1 : Int32), q2.2)) else (if a1 = a2 then (some ((-1 : Int32), q2.2)) else (if (rF q2.2 0 43) = (12 : Int32) then (some ((-1 : Int32), q2.2)) else (if inb (rF q2.2 0 43) 12 = true then (if inb (rF q2.2 0 43) 12 = true then (some (((rF q2.2 0 43) + (1 : Int32)), (wF (wA (wA q2.2 24 (rF q2.2 0 43) a1) 25 (rF q2.2 0 43) a2) 0 43 ((rF q2.2 0 43) + (1 : Int32))))) else (none)) else (none)))))))) := by
  show Res PT GR (rkT 246) 246 (cd246, [.ref 0, .int a1, .int a2], [], S) = _
  refine (R_blk PT GR (k := 246) (code := cd246) rfl [] 400 _).trans ?_
  refine brT (Or.inl rfl) ?_
  refine br_cong ?_ ?_
  · refine brT (Or.inl rfl) ?_
    exact R_retI PT GR rfl rfl
  · refine (R_cx PT GR hRk PT_173 rfl rfl rfl rfl rfl).trans ?_
    refine bind_cong (fun q1 => ?_)
    refine (R_blk PT GR (k := 246) (code := cd246) rfl [] 400 _).trans ?_
    refine br_cong ?_ ?_
    · exact R_retI PT GR rfl rfl
    · refine (R_cx PT GR hRk PT_173 rfl rfl rfl rfl rfl).trans ?_
      refine bind_cong (fun q2 => ?_)
      refine (R_blk PT GR (k := 246) (code := cd246) rfl [] 400 _).trans ?_
      refine br_cong ?_ ?_
      · exact R_retI PT GR rfl rfl
      · refine br_cong ?_ ?_
        · exact R_retI PT GR rfl rfl
        · refine br_cong ?_ ?_
          · exact R_retI PT GR rfl rfl
          · refine br_cong ?_ ?_
            · refine br_cong ?_ ?_
              · refine brT (Or.inl rfl) ?_
                exact R_retI PT GR rfl rfl
              · rfl
            · rfl
set_option maxRecDepth 20000 in
theorem R_dated_eq (a1 : Int32) (a2 : Int32) (S : pS) : R_dated a1 a2 S = (R_isCard a1 (wF S 0 0 (0 : Int32))).bind (fun q1 => if q1.1 = 0 then (some ((-1 : Int32), q1.2)) else ((R_isIn a2 (0 : Int32) (1 : Int32) q1.2).bind (fun q2 => if q2.1 = 0 then (some ((-1 : Int32), q2.2)) else ((R_canBeDated q2.2).bind (fun q3 => if q3.1 = 0 then (some ((-1 : Int32), q3.2)) else (if a2 = 0 then (if inb a1 14 = true then (some ((rA q3.2 26 a1), q3.2)) else (none)) else (if inb a1 14 = true then (some ((rA q3.2 27 a1), q3.2)) else (none)))))))) := by
  show Res PT GR (rkT 248) 248 (cd248, [.ref 0, .int a1, .int a2], [], S) = _
  refine (R_blk PT GR (k := 248) (code := cd248) rfl [] 400 _).trans ?_
  refine brT (Or.inl rfl) ?_
  refine (R_cx PT GR hRk PT_173 rfl rfl rfl rfl rfl).trans ?_
  refine bind_cong (fun q1 => ?_)
  refine (R_blk PT GR (k := 248) (code := cd248) rfl [] 400 _).trans ?_
  refine br_cong ?_ ?_
  · exact R_retI PT GR rfl rfl
  · refine (R_cx PT GR hRk PT_161 rfl rfl rfl rfl rfl).trans ?_
    refine bind_cong (fun q2 => ?_)
    refine (R_blk PT GR (k := 248) (code := cd248) rfl [] 400 _).trans ?_
    refine br_cong ?_ ?_
    · exact R_retI PT GR rfl rfl
    · refine (R_cx PT GR hRk PT_247 rfl rfl rfl rfl rfl).trans ?_
      refine bind_cong (fun q3 => ?_)
      refine (R_blk PT GR (k := 248) (code := cd248) rfl [] 400 _).trans ?_
      refine br_cong ?_ ?_
      · exact R_retI PT GR rfl rfl
      · refine br_cong ?_ ?_
        · refine br_cong ?_ ?_
          · exact R_retI PT GR rfl rfl
          · rfl
        · refine br_cong ?_ ?_
          · exact R_retI PT GR rfl rfl
          · rfl
set_option maxRecDepth 20000 in
theorem R_hands_eq (a1 : Int32) (a2 : Int32) (S : pS) : R_hands a1 a2 S = (R_isIn a1 (0 : Int32) (5 : Int32) (wF S 0 0 (0 : Int32))).bind (fun q1 => if q1.1 = 0 then (some ((-1 : Int32), q1.2)) else ((R_isIn a2 (0 : Int32) (2 : Int32) q1.2).bind (fun q2 => if q2.1 = 0 then (some ((-1 : Int32), q2.2)) else ((R_ownersOf a1 q2.2).bind (fun q3 => R_hands_c43 a2 q3.1 (0 : Int32) (wA q3.2 28 (0 : Int32) (1 : Int32))))))) := by
  show Res PT GR (rkT 253) 253 (cd253, [.ref 0, .int a1, .int a2, .null, .null, .null, .null, .null], [], S) = _
  refine (R_blk PT GR (k := 253) (code := cd253) rfl [43, 143] 400 _).trans ?_
  refine brT (Or.inl rfl) ?_
  refine (R_cx PT GR hRk PT_161 rfl rfl rfl rfl rfl).trans ?_
  refine bind_cong (fun q1 => ?_)
  refine (R_blk PT GR (k := 253) (code := cd253) rfl [43, 143] 400 _).trans ?_
  refine br_cong ?_ ?_
  · exact R_retI PT GR rfl rfl
  · refine (R_cx PT GR hRk PT_161 rfl rfl rfl rfl rfl).trans ?_
    refine bind_cong (fun q2 => ?_)
    refine (R_blk PT GR (k := 253) (code := cd253) rfl [43, 143] 400 _).trans ?_
    refine br_cong ?_ ?_
    · exact R_retI PT GR rfl rfl
    · refine (R_cx PT GR hRk PT_252 rfl rfl rfl rfl rfl).trans ?_
      refine bind_cong (fun q3 => ?_)
      refine (R_blk PT GR (k := 253) (code := cd253) rfl [43, 143] 400 _).trans ?_
      refine brT (by decide) ?_
      rfl
set_option maxRecDepth 20000 in
theorem R_hands_c43_eq (l2 : Int32) (l3 : Int32) (l4 : Int32) (S : pS) : R_hands_c43 l2 l3 l4 S = if inb l4 13 = true then (if ((rA S 28 l4) &&& l3) = 0 then (if l4 = (12 : Int32) then (some ((-1 : Int32), S)) else (if inb l4 13 = true then (if inb l4 13 = true then ((R_besideAll (rA S 28 l4) S).bind (fun q4 => if inb (l4 + (1 : Int32)) 13 = true then (R_hands_c43 l2 l3 (l4 + (1 : Int32)) (wA q4.2 28 (l4 + (1 : Int32)) ((rA S 28 l4) ||| q4.1))) else (none))) else (none)) else (none))) else (if l2 = 0 then (some (l4, S)) else (if inb l4 13 = true then ((R_lowest ((rA S 28 l4) &&& l3) S).bind (fun q5 => if l2 = (1 : Int32) then (some (q5.1, q5.2)) else (R_hands_c143 l4 ((1 : Int32) <<< (q5.1 &&& 31)) (l4 - (1 : Int32)) q5.2))) else (none)))) else (none) := by
  show Res PT GR (rkT 253) 253 (pCut cd253 43, [.ref 0, .null, .int l2, .int l3, .int l4, .null, .null, .null], [], S) = _
  refine (R_reg PT GR (k := 253) (code := cd253) rfl [43, 143] 400).trans ?_
  refine br_cong ?_ ?_
  · refine br_cong ?_ ?_
    · refine br_cong ?_ ?_
      · exact R_retI PT GR rfl rfl
      · refine br_cong ?_ ?_
        · refine br_cong ?_ ?_
          · refine (R_cx PT GR hRk PT_250 rfl rfl rfl rfl rfl).trans ?_
            refine bind_cong (fun q4 => ?_)
            refine (R_blk PT GR (k := 253) (code := cd253) rfl [43, 143] 400 _).trans ?_
            refine br_cong ?_ ?_
            · rfl
            · rfl
          · rfl
        · rfl
    · refine br_cong ?_ ?_
      · exact R_retI PT GR rfl rfl
      · refine br_cong ?_ ?_
        · refine (R_cx PT GR hRk PT_251 rfl rfl rfl rfl rfl).trans ?_
          refine bind_cong (fun q5 => ?_)
          refine (R_blk PT GR (k := 253) (code := cd253) rfl [43, 143] 400 _).trans ?_
          refine br_cong ?_ ?_
          · exact R_retI PT GR rfl rfl
          · rfl
        · rfl
  · rfl
set_option maxRecDepth 20000 in
theorem R_hands_c143_eq (l4 : Int32) (l6 : Int32) (l7 : Int32) (S : pS) : R_hands_c143 l4 l6 l7 S = if l7 ≤ 0 then (if l4 = 0 then (some ((0 : Int32), S)) else ((R_lowest l6 S).bind (fun q6 => some (q6.1, q6.2)))) else ((R_besideAll l6 S).bind (fun q7 => if inb l7 13 = true then (if inb (l7 - (1 : Int32)) 13 = true then (R_hands_c143 l4 ((q7.1 &&& (rA q7.2 28 l7)) &&& ((rA q7.2 28 (l7 - (1 : Int32))) ^^^ (-1 : Int32))) (l7 + (-1 : Int32)) q7.2) else (none)) else (none))) := by
  show Res PT GR (rkT 253) 253 (pCut cd253 143, [.ref 0, .null, .null, .null, .int l4, .null, .int l6, .int l7], [], S) = _
  refine (R_reg PT GR (k := 253) (code := cd253) rfl [43, 143] 400).trans ?_
  refine br_cong ?_ ?_
  · refine br_cong ?_ ?_
    · exact R_retI PT GR rfl rfl
    · refine (R_cx PT GR hRk PT_251 rfl rfl rfl rfl rfl).trans ?_
      refine bind_cong (fun q6 => ?_)
      refine (R_blk PT GR (k := 253) (code := cd253) rfl [43, 143] 400 _).trans ?_
      exact R_retI PT GR rfl rfl
  · refine (R_cx PT GR hRk PT_250 rfl rfl rfl rfl rfl).trans ?_
    refine bind_cong (fun q7 => ?_)
    refine (R_blk PT GR (k := 253) (code := cd253) rfl [43, 143] 400 _).trans ?_
    refine br_cong ?_ ?_
    · refine br_cong ?_ ?_
      · rfl
      · rfl
    · rfl
set_option maxRecDepth 20000 in
theorem R_led_eq (a1 : Int32) (S : pS) : R_led a1 S = (R_isPerson a1 (wF S 0 0 (0 : Int32))).bind (fun q1 => if q1.1 = 0 then (some ((-1 : Int32), q1.2)) else ((R_ledBy a1 q1.2).bind (fun q2 => some (q2.1, q2.2)))) := by
  show Res PT GR (rkT 255) 255 (cd255, [.ref 0, .int a1], [], S) = _
  refine (R_blk PT GR (k := 255) (code := cd255) rfl [] 400 _).trans ?_
  refine brT (Or.inl rfl) ?_
  refine (R_cx PT GR hRk PT_174 rfl rfl rfl rfl rfl).trans ?_
  refine bind_cong (fun q1 => ?_)
  refine (R_blk PT GR (k := 255) (code := cd255) rfl [] 400 _).trans ?_
  refine br_cong ?_ ?_
  · exact R_retI PT GR rfl rfl
  · refine (R_cx PT GR hRk PT_254 rfl rfl rfl rfl rfl).trans ?_
    refine bind_cong (fun q2 => ?_)
    refine (R_blk PT GR (k := 255) (code := cd255) rfl [] 400 _).trans ?_
    exact R_retI PT GR rfl rfl
set_option maxRecDepth 20000 in
theorem R_root_eq (a1 : Int32) (S : pS) : R_root a1 S = (R_isPerson a1 (wF S 0 0 (0 : Int32))).bind (fun q1 => if q1.1 = 0 then (some ((-1 : Int32), q1.2)) else (R_root_c21 a1 ((1 : Int32) <<< (a1 &&& 31)) q1.2)) := by
  show Res PT GR (rkT 256) 256 (cd256, [.ref 0, .int a1, .null, .null], [], S) = _
  refine (R_blk PT GR (k := 256) (code := cd256) rfl [21] 400 _).trans ?_
  refine brT (Or.inl rfl) ?_
  refine (R_cx PT GR hRk PT_174 rfl rfl rfl rfl rfl).trans ?_
  refine bind_cong (fun q1 => ?_)
  refine (R_blk PT GR (k := 256) (code := cd256) rfl [21] 400 _).trans ?_
  refine br_cong ?_ ?_
  · exact R_retI PT GR rfl rfl
  · rfl
set_option maxRecDepth 20000 in
theorem R_root_c21_eq (l2 : Int32) (l3 : Int32) (S : pS) : R_root_c21 l2 l3 S = (R_introducer l2 S).bind (fun q2 => if q2.1 = (-1 : Int32) then (some (l2, q2.2)) else ((R_introducer l2 q2.2).bind (fun q3 => (R_has l3 q3.1 q3.2).bind (fun q4 => if q4.1 = 0 then (R_root_c21 q3.1 (l3 ||| ((1 : Int32) <<< (q3.1 &&& 31))) q4.2) else (some (q3.1, q4.2)))))) := by
  show Res PT GR (rkT 256) 256 (pCut cd256 21, [.ref 0, .null, .int l2, .int l3], [], S) = _
  refine (R_reg PT GR (k := 256) (code := cd256) rfl [21] 400).trans ?_
  refine (R_cx PT GR hRk PT_177 rfl rfl rfl rfl rfl).trans ?_
  refine bind_cong (fun q2 => ?_)
  refine (R_blk PT GR (k := 256) (code := cd256) rfl [21] 400 _).trans ?_
  refine br_cong ?_ ?_
  · exact R_retI PT GR rfl rfl
  · refine (R_cx PT GR hRk PT_177 rfl rfl rfl rfl rfl).trans ?_
    refine bind_cong (fun q3 => ?_)
    refine (R_blk PT GR (k := 256) (code := cd256) rfl [21] 400 _).trans ?_
    refine (R_cx PT GR hRk PT_166 rfl rfl rfl rfl rfl).trans ?_
    refine bind_cong (fun q4 => ?_)
    refine (R_blk PT GR (k := 256) (code := cd256) rfl [21] 400 _).trans ?_
    refine br_cong ?_ ?_
    · rfl
    · exact R_retI PT GR rfl rfl
set_option maxRecDepth 20000 in
theorem R_tells_eq (a1 : Int32) (S : pS) : R_tells a1 S = (R_isIn a1 (0 : Int32) (1 : Int32) (wF S 0 0 (0 : Int32))).bind (fun q1 => if q1.1 = 0 then (some ((-1 : Int32), q1.2)) else ((R_known q1.2).bind (fun q2 => R_tells_c27 a1 q2.1 (-1 : Int32) (0 : Int32) q2.2))) := by
  show Res PT GR (rkT 258) 258 (cd258, [.ref 0, .int a1, .null, .null, .null], [], S) = _
  refine (R_blk PT GR (k := 258) (code := cd258) rfl [27, 61] 400 _).trans ?_
  refine brT (Or.inl rfl) ?_
  refine (R_cx PT GR hRk PT_161 rfl rfl rfl rfl rfl).trans ?_
  refine bind_cong (fun q1 => ?_)
  refine (R_blk PT GR (k := 258) (code := cd258) rfl [27, 61] 400 _).trans ?_
  refine br_cong ?_ ?_
  · exact R_retI PT GR rfl rfl
  · refine (R_cx PT GR hRk PT_257 rfl rfl rfl rfl rfl).trans ?_
    refine bind_cong (fun q2 => ?_)
    exact (R_blk PT GR (k := 258) (code := cd258) rfl [27, 61] 400 _).trans rfl
set_option maxRecDepth 20000 in
theorem R_tells_c27_eq (l1 : Int32) (l2 : Int32) (l3 : Int32) (l4 : Int32) (S : pS) : R_tells_c27 l1 l2 l3 l4 S = if l4 ≤ l2 then (if (l4 &&& (l2 ^^^ (-1 : Int32))) = 0 then (if l3 = (-1 : Int32) then (R_tells_c61 l1 l2 l3 l4 S) else ((R_onesOf l4 S).bind (fun q3 => (R_onesOf l3 q3.2).bind (fun q4 => if q3.1 < q4.1 then (R_tells_c61 l1 l2 l3 l4 q4.2) else (R_tells_c27 l1 l2 l3 (l4 + (1 : Int32)) q4.2))))) else (R_tells_c27 l1 l2 l3 (l4 + (1 : Int32)) S)) else (if l1 = 0 then ((R_onesOf l3 S).bind (fun q5 => some (q5.1, q5.2))) else (some (l3, S))) := by
  show Res PT GR (rkT 258) 258 (pCut cd258 27, [.ref 0, .int l1, .int l2, .int l3, .int l4], [], S) = _
  refine (R_reg PT GR (k := 258) (code := cd258) rfl [27, 61] 400).trans ?_
  refine br_cong ?_ ?_
  · refine br_cong ?_ ?_
    · refine br_cong ?_ ?_
      · rfl
      · refine (R_cx PT GR hRk PT_165 rfl rfl rfl rfl rfl).trans ?_
        refine bind_cong (fun q3 => ?_)
        refine (R_blk PT GR (k := 258) (code := cd258) rfl [27, 61] 400 _).trans ?_
        refine (R_cx PT GR hRk PT_165 rfl rfl rfl rfl rfl).trans ?_
        refine bind_cong (fun q4 => ?_)
        refine (R_blk PT GR (k := 258) (code := cd258) rfl [27, 61] 400 _).trans ?_
        refine br_cong ?_ ?_
        · rfl
        · rfl
    · rfl
  · refine br_cong ?_ ?_
    · refine (R_cx PT GR hRk PT_165 rfl rfl rfl rfl rfl).trans ?_
      refine bind_cong (fun q5 => ?_)
      refine (R_blk PT GR (k := 258) (code := cd258) rfl [27, 61] 400 _).trans ?_
      exact R_retI PT GR rfl rfl
    · exact R_retI PT GR rfl rfl
set_option maxRecDepth 20000 in
theorem R_tells_c61_eq (l1 : Int32) (l2 : Int32) (l3 : Int32) (l4 : Int32) (S : pS) : R_tells_c61 l1 l2 l3 l4 S = (R_besideAll l4 S).bind (fun q6 => if (l2 &&& ((l4 ||| q6.1) ^^^ (-1 : Int32))) = 0 then (R_tells_c27 l1 l2 l4 (l4 + (1 : Int32)) q6.2) else (R_tells_c27 l1 l2 l3 (l4 + (1 : Int32)) q6.2)) := by
  show Res PT GR (rkT 258) 258 (pCut cd258 61, [.ref 0, .int l1, .int l2, .int l3, .int l4], [], S) = _
  refine (R_reg PT GR (k := 258) (code := cd258) rfl [27, 61] 400).trans ?_
  refine (R_cx PT GR hRk PT_250 rfl rfl rfl rfl rfl).trans ?_
  refine bind_cong (fun q6 => ?_)
  refine (R_blk PT GR (k := 258) (code := cd258) rfl [27, 61] 400 _).trans ?_
  refine br_cong ?_ ?_
  · rfl
  · rfl
set_option maxRecDepth 20000 in
theorem R_hears_eq (a1 : Int32) (a2 : Int32) (S : pS) : R_hears a1 a2 S = (R_isIn a1 (0 : Int32) (4095 : Int32) (wF S 0 0 (0 : Int32))).bind (fun q1 => if q1.1 = 0 then (some ((-1 : Int32), q1.2)) else ((R_isPerson a2 q1.2).bind (fun q2 => if q2.1 = 0 then (some ((-1 : Int32), q2.2)) else ((R_has a1 a2 q2.2).bind (fun q3 => if q3.1 = 0 then (R_hears_c43 a1 ((1 : Int32) <<< (a2 &&& 31)) (0 : Int32) q3.2) else (some ((-1 : Int32), q3.2))))))) := by
  show Res PT GR (rkT 259) 259 (cd259, [.ref 0, .int a1, .int a2, .null, .null], [], S) = _
  refine (R_blk PT GR (k := 259) (code := cd259) rfl [43] 400 _).trans ?_
  refine brT (Or.inl rfl) ?_
  refine (R_cx PT GR hRk PT_161 rfl rfl rfl rfl rfl).trans ?_
  refine bind_cong (fun q1 => ?_)
  refine (R_blk PT GR (k := 259) (code := cd259) rfl [43] 400 _).trans ?_
  refine br_cong ?_ ?_
  · exact R_retI PT GR rfl rfl
  · refine (R_cx PT GR hRk PT_174 rfl rfl rfl rfl rfl).trans ?_
    refine bind_cong (fun q2 => ?_)
    refine (R_blk PT GR (k := 259) (code := cd259) rfl [43] 400 _).trans ?_
    refine br_cong ?_ ?_
    · exact R_retI PT GR rfl rfl
    · refine (R_cx PT GR hRk PT_166 rfl rfl rfl rfl rfl).trans ?_
      refine bind_cong (fun q3 => ?_)
      refine (R_blk PT GR (k := 259) (code := cd259) rfl [43] 400 _).trans ?_
      refine br_cong ?_ ?_
      · rfl
      · exact R_retI PT GR rfl rfl
set_option maxRecDepth 20000 in
theorem R_hears_c43_eq (l1 : Int32) (l3 : Int32) (l4 : Int32) (S : pS) : R_hears_c43 l1 l3 l4 S = if l4 = l3 then (some (l3, S)) else ((R_besideAll l3 S).bind (fun q4 => R_hears_c43 l1 (l3 ||| (q4.1 &&& (l1 ^^^ (-1 : Int32)))) l3 q4.2)) := by
  show Res PT GR (rkT 259) 259 (pCut cd259 43, [.ref 0, .int l1, .null, .int l3, .int l4], [], S) = _
  refine (R_reg PT GR (k := 259) (code := cd259) rfl [43] 400).trans ?_
  refine br_cong ?_ ?_
  · exact R_retI PT GR rfl rfl
  · refine (R_cx PT GR hRk PT_250 rfl rfl rfl rfl rfl).trans ?_
    refine bind_cong (fun q4 => ?_)
    exact (R_blk PT GR (k := 259) (code := cd259) rfl [43] 400 _).trans rfl
set_option maxRecDepth 20000 in
theorem R_asks_eq (a1 : Int32) (a2 : Int32) (S : pS) : R_asks a1 a2 S = if a1 = (-1 : Int32) then (some ((0 : Int32), (wF (wF S 0 0 (0 : Int32)) 0 49 (0 : Int32)))) else ((R_isIn a1 (0 : Int32) (2 : Int32) (wF S 0 0 (0 : Int32))).bind (fun q1 => if q1.1 = 0 then (some ((-1 : Int32), q1.2)) else (if a1 = 0 then (R_asks_c50 a1 a2 (11 : Int32) (0 : Int32) a2 q1.2) else (if a1 = (1 : Int32) then (R_asks_c50 a1 a2 (7 : Int32) (0 : Int32) a2 q1.2) else (R_asks_c50 a1 a2 (5 : Int32) (0 : Int32) a2 q1.2))))) := by
  show Res PT GR (rkT 260) 260 (cd260, [.ref 0, .int a1, .int a2], [], S) = _
  refine (R_blk PT GR (k := 260) (code := cd260) rfl [50] 400 _).trans ?_
  refine brT (Or.inl rfl) ?_
  refine br_cong ?_ ?_
  · refine brT (Or.inl rfl) ?_
    exact R_retI PT GR rfl rfl
  · refine (R_cx PT GR hRk PT_161 rfl rfl rfl rfl rfl).trans ?_
    refine bind_cong (fun q1 => ?_)
    refine (R_blk PT GR (k := 260) (code := cd260) rfl [50] 400 _).trans ?_
    refine br_cong ?_ ?_
    · exact R_retI PT GR rfl rfl
    · refine br_cong ?_ ?_
      · rfl
      · refine br_cong ?_ ?_
        · rfl
        · rfl
set_option maxRecDepth 20000 in
theorem R_asks_c50_eq (l1 : Int32) (l2 : Int32) (s0 : Int32) (s1 : Int32) (s2 : Int32) (S : pS) : R_asks_c50 l1 l2 s0 s1 s2 S = (R_isIn s2 s1 s0 S).bind (fun q2 => if q2.1 = 0 then (some ((-1 : Int32), q2.2)) else (if (rF q2.2 0 49) = (10 : Int32) then (some ((-1 : Int32), q2.2)) else (if inb (rF q2.2 0 49) 10 = true then (if inb (rF q2.2 0 49) 10 = true then (some (((rF q2.2 0 49) + (1 : Int32)), (wF (wA (wA q2.2 29 (rF q2.2 0 49) l1) 30 (rF q2.2 0 49) l2) 0 49 ((rF q2.2 0 49) + (1 : Int32))))) else (none)) else (none)))) := by
  show Res PT GR (rkT 260) 260 (pCut cd260 50, [.ref 0, .int l1, .int l2], [.int s0, .int s1, .int s2, .ref 0], S) = _
  refine (R_reg PT GR (k := 260) (code := cd260) rfl [50] 400).trans ?_
  refine (R_cx PT GR hRk PT_161 rfl rfl rfl rfl rfl).trans ?_
  refine bind_cong (fun q2 => ?_)
  refine (R_blk PT GR (k := 260) (code := cd260) rfl [50] 400 _).trans ?_
  refine br_cong ?_ ?_
  · exact R_retI PT GR rfl rfl
  · refine br_cong ?_ ?_
    · exact R_retI PT GR rfl rfl
    · refine br_cong ?_ ?_
      · refine br_cong ?_ ?_
        · refine brT (Or.inl rfl) ?_
          exact R_retI PT GR rfl rfl
        · rfl
      · rfl
set_option maxRecDepth 20000 in
theorem R_keeps_eq (a1 : Int32) (a2 : Int32) (S : pS) : R_keeps a1 a2 S = (R_isIn a1 (0 : Int32) (14 : Int32) (wF S 0 0 (0 : Int32))).bind (fun q1 => if q1.1 = 0 then (some ((-1 : Int32), q1.2)) else ((R_isIn a2 (0 : Int32) (1 : Int32) q1.2).bind (fun q2 => if q2.1 = 0 then (some ((-1 : Int32), q2.2)) else ((R_keptSet q2.2).bind (fun q3 => R_keeps_c42 a1 a2 q3.1 (0 : Int32) (0 : Int32) (1 : Int32) q3.2))))) := by
  show Res PT GR (rkT 264) 264 (cd264, [.ref 0, .int a1, .int a2, .null, .null, .null, .null, .null], [], S) = _
  refine (R_blk PT GR (k := 264) (code := cd264) rfl [42] 400 _).trans ?_
  refine brT (Or.inl rfl) ?_
  refine (R_cx PT GR hRk PT_161 rfl rfl rfl rfl rfl).trans ?_
  refine bind_cong (fun q1 => ?_)
  refine (R_blk PT GR (k := 264) (code := cd264) rfl [42] 400 _).trans ?_
  refine br_cong ?_ ?_
  · exact R_retI PT GR rfl rfl
  · refine (R_cx PT GR hRk PT_161 rfl rfl rfl rfl rfl).trans ?_
    refine bind_cong (fun q2 => ?_)
    refine (R_blk PT GR (k := 264) (code := cd264) rfl [42] 400 _).trans ?_
    refine br_cong ?_ ?_
    · exact R_retI PT GR rfl rfl
    · refine (R_cx PT GR hRk PT_176 rfl rfl rfl rfl rfl).trans ?_
      refine bind_cong (fun q3 => ?_)
      exact (R_blk PT GR (k := 264) (code := cd264) rfl [42] 400 _).trans rfl
set_option maxRecDepth 20000 in
theorem R_keeps_c42_eq (l1 : Int32) (l2 : Int32) (l3 : Int32) (l4 : Int32) (l5 : Int32) (l6 : Int32) (S : pS) : R_keeps_c42 l1 l2 l3 l4 l5 l6 S = if l6 ≤ l3 then (if (l6 &&& (l3 ^^^ (-1 : Int32))) = 0 then ((R_onesOf l6 S).bind (fun q4 => if q4.1 ≤ l1 then ((R_foundBy l6 q4.2).bind (fun q5 => if q5.1 < l5 then (R_keeps_c42 l1 l2 l3 l4 l5 (l6 + (1 : Int32)) q5.2) else (if q5.1 = l5 then ((R_onesOf l6 q5.2).bind (fun q6 => (R_onesOf l4 q6.2).bind (fun q7 => if q6.1 < q7.1 then (R_keeps_c42 l1 l2 l3 l6 q5.1 (l6 + (1 : Int32)) q7.2) else (R_keeps_c42 l1 l2 l3 l4 l5 (l6 + (1 : Int32)) q7.2)))) else (R_keeps_c42 l1 l2 l3 l6 q5.1 (l6 + (1 : Int32)) q5.2)))) else (R_keeps_c42 l1 l2 l3 l4 l5 (l6 + (1 : Int32)) q4.2))) else (R_keeps_c42 l1 l2 l3 l4 l5 (l6 + (1 : Int32)) S)) else (if l2 = 0 then (some (l5, S)) else (some (l4, S))) := by
  show Res PT GR (rkT 264) 264 (pCut cd264 42, [.ref 0, .int l1, .int l2, .int l3, .int l4, .int l5, .int l6, .null], [], S) = _
  refine (R_reg PT GR (k := 264) (code := cd264) rfl [42] 400).trans ?_
  refine br_cong ?_ ?_
  · refine br_cong ?_ ?_
    · refine (R_cx PT GR hRk PT_165 rfl rfl rfl rfl rfl).trans ?_
      refine bind_cong (fun q4 => ?_)
      refine (R_blk PT GR (k := 264) (code := cd264) rfl [42] 400 _).trans ?_
      refine br_cong ?_ ?_
      · refine (R_cx PT GR hRk PT_263 rfl rfl rfl rfl rfl).trans ?_
        refine bind_cong (fun q5 => ?_)
        refine (R_blk PT GR (k := 264) (code := cd264) rfl [42] 400 _).trans ?_
        refine br_cong ?_ ?_
        · rfl
        · refine br_cong ?_ ?_
          · refine (R_cx PT GR hRk PT_165 rfl rfl rfl rfl rfl).trans ?_
            refine bind_cong (fun q6 => ?_)
            refine (R_blk PT GR (k := 264) (code := cd264) rfl [42] 400 _).trans ?_
            refine (R_cx PT GR hRk PT_165 rfl rfl rfl rfl rfl).trans ?_
            refine bind_cong (fun q7 => ?_)
            refine (R_blk PT GR (k := 264) (code := cd264) rfl [42] 400 _).trans ?_
            refine br_cong ?_ ?_
            · rfl
            · rfl
          · rfl
      · rfl
    · rfl
  · refine br_cong ?_ ?_
    · exact R_retI PT GR rfl rfl
    · exact R_retI PT GR rfl rfl
set_option maxRecDepth 20000 in
theorem R_sorted_eq (a1 : Int32) (S : pS) : R_sorted a1 S = (R_isIn a1 (0 : Int32) (1 : Int32) (wF S 0 0 (0 : Int32))).bind (fun q1 => if q1.1 = 0 then (some ((-1 : Int32), q1.2)) else (R_sorted_c21 a1 (0 : Int32) (1 : Int32) q1.2)) := by
  show Res PT GR (rkT 266) 266 (cd266, [.ref 0, .int a1, .null, .null], [], S) = _
  refine (R_blk PT GR (k := 266) (code := cd266) rfl [21] 400 _).trans ?_
  refine brT (Or.inl rfl) ?_
  refine (R_cx PT GR hRk PT_161 rfl rfl rfl rfl rfl).trans ?_
  refine bind_cong (fun q1 => ?_)
  refine (R_blk PT GR (k := 266) (code := cd266) rfl [21] 400 _).trans ?_
  refine br_cong ?_ ?_
  · exact R_retI PT GR rfl rfl
  · rfl
set_option maxRecDepth 20000 in
theorem R_sorted_c21_eq (l1 : Int32) (l2 : Int32) (l3 : Int32) (S : pS) : R_sorted_c21 l1 l2 l3 S = if l3 < (3 : Int32) then ((R_lookedAt l3 S).bind (fun q2 => (R_lookedAt l2 q2.2).bind (fun q3 => if q2.1 < q3.1 then (R_sorted_c21 l1 l3 (l3 + (1 : Int32)) q3.2) else (R_sorted_c21 l1 l2 (l3 + (1 : Int32)) q3.2)))) else (if l1 = 0 then (some (l2, S)) else ((R_lookedAt l2 S).bind (fun q4 => some (q4.1, q4.2)))) := by
  show Res PT GR (rkT 266) 266 (pCut cd266 21, [.ref 0, .int l1, .int l2, .int l3], [], S) = _
  refine (R_reg PT GR (k := 266) (code := cd266) rfl [21] 400).trans ?_
  refine br_cong ?_ ?_
  · refine (R_cx PT GR hRk PT_265 rfl rfl rfl rfl rfl).trans ?_
    refine bind_cong (fun q2 => ?_)
    refine (R_blk PT GR (k := 266) (code := cd266) rfl [21] 400 _).trans ?_
    refine (R_cx PT GR hRk PT_265 rfl rfl rfl rfl rfl).trans ?_
    refine bind_cong (fun q3 => ?_)
    refine (R_blk PT GR (k := 266) (code := cd266) rfl [21] 400 _).trans ?_
    refine br_cong ?_ ?_
    · rfl
    · rfl
  · refine br_cong ?_ ?_
    · exact R_retI PT GR rfl rfl
    · refine (R_cx PT GR hRk PT_265 rfl rfl rfl rfl rfl).trans ?_
      refine bind_cong (fun q4 => ?_)
      refine (R_blk PT GR (k := 266) (code := cd266) rfl [21] 400 _).trans ?_
      exact R_retI PT GR rfl rfl
set_option maxRecDepth 20000 in
theorem R_apart_eq (S : pS) : R_apart S = R_apart_c9 (-1 : Int32) (0 : Int32) (wF S 0 0 (0 : Int32)) := by
  show Res PT GR (rkT 269) 269 (cd269, [.ref 0, .null, .null], [], S) = _
  refine (R_blk PT GR (k := 269) (code := cd269) rfl [9, 33] 400 _).trans ?_
  refine brT (Or.inl rfl) ?_
  rfl
set_option maxRecDepth 20000 in
theorem R_apart_c9_eq (l1 : Int32) (l2 : Int32) (S : pS) : R_apart_c9 l1 l2 S = if l2 < (32 : Int32) then (if l1 = (-1 : Int32) then (R_apart_c33 l1 l2 S) else ((R_onesOf l2 S).bind (fun q1 => (R_onesOf l1 q1.2).bind (fun q2 => if q1.1 < q2.1 then (R_apart_c33 l1 l2 q2.2) else (R_apart_c9 l1 (l2 + (1 : Int32)) q2.2))))) else (some (l1, S)) := by
  show Res PT GR (rkT 269) 269 (pCut cd269 9, [.ref 0, .int l1, .int l2], [], S) = _
  refine (R_reg PT GR (k := 269) (code := cd269) rfl [9, 33] 400).trans ?_
  refine br_cong ?_ ?_
  · refine br_cong ?_ ?_
    · rfl
    · refine (R_cx PT GR hRk PT_165 rfl rfl rfl rfl rfl).trans ?_
      refine bind_cong (fun q1 => ?_)
      refine (R_blk PT GR (k := 269) (code := cd269) rfl [9, 33] 400 _).trans ?_
      refine (R_cx PT GR hRk PT_165 rfl rfl rfl rfl rfl).trans ?_
      refine bind_cong (fun q2 => ?_)
      refine (R_blk PT GR (k := 269) (code := cd269) rfl [9, 33] 400 _).trans ?_
      refine br_cong ?_ ?_
      · rfl
      · rfl
  · exact R_retI PT GR rfl rfl
set_option maxRecDepth 20000 in
theorem R_apart_c33_eq (l1 : Int32) (l2 : Int32) (S : pS) : R_apart_c33 l1 l2 S = (R_tellsApart l2 S).bind (fun q3 => if q3.1 = 0 then (R_apart_c9 l1 (l2 + (1 : Int32)) q3.2) else (R_apart_c9 l2 (l2 + (1 : Int32)) q3.2)) := by
  show Res PT GR (rkT 269) 269 (pCut cd269 33, [.ref 0, .int l1, .int l2], [], S) = _
  refine (R_reg PT GR (k := 269) (code := cd269) rfl [9, 33] 400).trans ?_
  refine (R_cx PT GR hRk PT_268 rfl rfl rfl rfl rfl).trans ?_
  refine bind_cong (fun q3 => ?_)
  refine (R_blk PT GR (k := 269) (code := cd269) rfl [9, 33] 400 _).trans ?_
  refine br_cong ?_ ?_
  · rfl
  · rfl
set_option maxRecDepth 20000 in
theorem R_seconds_eq (S : pS) : R_seconds S = R_seconds_c9 (0 : Int32) (0 : Int32) (wF S 0 0 (0 : Int32)) := by
  show Res PT GR (rkT 271) 271 (cd271, [.ref 0, .null, .null, .null], [], S) = _
  refine (R_blk PT GR (k := 271) (code := cd271) rfl [9, 19] 400 _).trans ?_
  refine brT (Or.inl rfl) ?_
  rfl
set_option maxRecDepth 20000 in
theorem R_seconds_c9_eq (l1 : Int32) (l2 : Int32) (S : pS) : R_seconds_c9 l1 l2 S = if l2 < (rF S 0 6) then (R_seconds_c19 l1 l2 (0 : Int32) S) else (some (l1, S)) := by
  show Res PT GR (rkT 271) 271 (pCut cd271 9, [.ref 0, .int l1, .int l2, .null], [], S) = _
  refine (R_reg PT GR (k := 271) (code := cd271) rfl [9, 19] 400).trans ?_
  refine br_cong ?_ ?_
  · rfl
  · exact R_retI PT GR rfl rfl
set_option maxRecDepth 20000 in
theorem R_seconds_c19_eq (l1 : Int32) (l2 : Int32) (l3 : Int32) (S : pS) : R_seconds_c19 l1 l2 l3 S = if l3 < (rF S 0 6) then ((R_isKept l2 S).bind (fun q1 => if q1.1 = 0 then (R_seconds_c19 l1 l2 (l3 + (1 : Int32)) q1.2) else ((R_isKept l3 q1.2).bind (fun q2 => if q2.1 = 0 then (R_seconds_c19 l1 l2 (l3 + (1 : Int32)) q2.2) else (if inb l3 14 = true then (if inb l2 14 = true then (if (rA q2.2 4 l3) = (rA q2.2 4 l2) then ((R_isAhead l3 l2 q2.2).bind (fun q3 => if q3.1 = 0 then (R_seconds_c19 l1 l2 (l3 + (1 : Int32)) q3.2) else (R_seconds_c19 (l1 ||| ((1 : Int32) <<< (l2 &&& 31))) l2 (l3 + (1 : Int32)) q3.2))) else (R_seconds_c19 l1 l2 (l3 + (1 : Int32)) q2.2)) else (none)) else (none)))))) else (R_seconds_c9 l1 (l2 + (1 : Int32)) S) := by
  show Res PT GR (rkT 271) 271 (pCut cd271 19, [.ref 0, .int l1, .int l2, .int l3], [], S) = _
  refine (R_reg PT GR (k := 271) (code := cd271) rfl [9, 19] 400).trans ?_
  refine br_cong ?_ ?_
  · refine (R_cx PT GR hRk PT_175 rfl rfl rfl rfl rfl).trans ?_
    refine bind_cong (fun q1 => ?_)
    refine (R_blk PT GR (k := 271) (code := cd271) rfl [9, 19] 400 _).trans ?_
    refine br_cong ?_ ?_
    · rfl
    · refine (R_cx PT GR hRk PT_175 rfl rfl rfl rfl rfl).trans ?_
      refine bind_cong (fun q2 => ?_)
      refine (R_blk PT GR (k := 271) (code := cd271) rfl [9, 19] 400 _).trans ?_
      refine br_cong ?_ ?_
      · rfl
      · refine br_cong ?_ ?_
        · refine br_cong ?_ ?_
          · refine br_cong ?_ ?_
            · refine (R_cx PT GR hRk PT_270 rfl rfl rfl rfl rfl).trans ?_
              refine bind_cong (fun q3 => ?_)
              refine (R_blk PT GR (k := 271) (code := cd271) rfl [9, 19] 400 _).trans ?_
              refine br_cong ?_ ?_
              · rfl
              · rfl
            · rfl
          · rfl
        · rfl
  · rfl
set_option maxRecDepth 20000 in
theorem R_beside_eq (a1 : Int32) (a2 : Int32) (S : pS) : R_beside a1 a2 S = (R_isCard a1 (wF S 0 0 (0 : Int32))).bind (fun q1 => if q1.1 = 0 then (some ((-1 : Int32), q1.2)) else ((R_isIn a2 (0 : Int32) (1 : Int32) q1.2).bind (fun q2 => if q2.1 = 0 then (some ((-1 : Int32), q2.2)) else (R_beside_c30 a1 a2 (-1 : Int32) (0 : Int32) q2.2)))) := by
  show Res PT GR (rkT 273) 273 (cd273, [.ref 0, .int a1, .int a2, .null, .null], [], S) = _
  refine (R_blk PT GR (k := 273) (code := cd273) rfl [30] 400 _).trans ?_
  refine brT (Or.inl rfl) ?_
  refine (R_cx PT GR hRk PT_173 rfl rfl rfl rfl rfl).trans ?_
  refine bind_cong (fun q1 => ?_)
  refine (R_blk PT GR (k := 273) (code := cd273) rfl [30] 400 _).trans ?_
  refine br_cong ?_ ?_
  · exact R_retI PT GR rfl rfl
  · refine (R_cx PT GR hRk PT_161 rfl rfl rfl rfl rfl).trans ?_
    refine bind_cong (fun q2 => ?_)
    refine (R_blk PT GR (k := 273) (code := cd273) rfl [30] 400 _).trans ?_
    refine br_cong ?_ ?_
    · exact R_retI PT GR rfl rfl
    · rfl
set_option maxRecDepth 20000 in
theorem R_beside_c30_eq (l1 : Int32) (l2 : Int32) (l3 : Int32) (l4 : Int32) (S : pS) : R_beside_c30 l1 l2 l3 l4 S = if l4 < (rF S 0 6) then (if l4 = l1 then (R_beside_c30 l1 l2 l3 (l4 + (1 : Int32)) S) else ((R_isKept l4 S).bind (fun q3 => if q3.1 = 0 then (R_beside_c30 l1 l2 l3 (l4 + (1 : Int32)) q3.2) else (if l3 = (-1 : Int32) then (R_beside_c30 l1 l2 l4 (l4 + (1 : Int32)) q3.2) else ((R_inCommon l1 l4 q3.2).bind (fun q4 => (R_inCommon l1 l3 q4.2).bind (fun q5 => if q4.1 ≤ q5.1 then (R_beside_c30 l1 l2 l3 (l4 + (1 : Int32)) q5.2) else (R_beside_c30 l1 l2 l4 (l4 + (1 : Int32)) q5.2)))))))) else (if l3 = (-1 : Int32) then (some (l3, S)) else (if l2 = 0 then (some (l3, S)) else ((R_inCommon l1 l3 S).bind (fun q6 => some (q6.1, q6.2))))) := by
  show Res PT GR (rkT 273) 273 (pCut cd273 30, [.ref 0, .int l1, .int l2, .int l3, .int l4], [], S) = _
  refine (R_reg PT GR (k := 273) (code := cd273) rfl [30] 400).trans ?_
  refine br_cong ?_ ?_
  · refine br_cong ?_ ?_
    · rfl
    · refine (R_cx PT GR hRk PT_175 rfl rfl rfl rfl rfl).trans ?_
      refine bind_cong (fun q3 => ?_)
      refine (R_blk PT GR (k := 273) (code := cd273) rfl [30] 400 _).trans ?_
      refine br_cong ?_ ?_
      · rfl
      · refine br_cong ?_ ?_
        · rfl
        · refine (R_cx PT GR hRk PT_272 rfl rfl rfl rfl rfl).trans ?_
          refine bind_cong (fun q4 => ?_)
          refine (R_blk PT GR (k := 273) (code := cd273) rfl [30] 400 _).trans ?_
          refine (R_cx PT GR hRk PT_272 rfl rfl rfl rfl rfl).trans ?_
          refine bind_cong (fun q5 => ?_)
          refine (R_blk PT GR (k := 273) (code := cd273) rfl [30] 400 _).trans ?_
          refine br_cong ?_ ?_
          · rfl
          · rfl
  · refine br_cong ?_ ?_
    · exact R_retI PT GR rfl rfl
    · refine br_cong ?_ ?_
      · exact R_retI PT GR rfl rfl
      · refine (R_cx PT GR hRk PT_272 rfl rfl rfl rfl rfl).trans ?_
        refine bind_cong (fun q6 => ?_)
        refine (R_blk PT GR (k := 273) (code := cd273) rfl [30] 400 _).trans ?_
        exact R_retI PT GR rfl rfl
set_option maxRecDepth 20000 in
theorem R_note_eq (a1 : Int32) (a2 : Int32) (a3 : Int32) (S : pS) : R_note a1 a2 a3 S = if a1 = (-1 : Int32) then (some ((0 : Int32), (wF (wF S 0 0 (0 : Int32)) 0 52 (0 : Int32)))) else ((R_isIn a1 (0 : Int32) (3 : Int32) (wF S 0 0 (0 : Int32))).bind (fun q1 => if q1.1 = 0 then (some ((-1 : Int32), q1.2)) else (if a1 = 0 then (R_note_c59 a1 a2 a3 (5 : Int32) (0 : Int32) a2 q1.2) else (if a1 = (1 : Int32) then (R_note_c59 a1 a2 a3 (7 : Int32) (0 : Int32) a2 q1.2) else (if a1 = (2 : Int32) then (R_note_c59 a1 a2 a3 (1 : Int32) (0 : Int32) a2 q1.2) else (R_note_c59 a1 a2 a3 (11 : Int32) (0 : Int32) a2 q1.2)))))) := by
  show Res PT GR (rkT 274) 274 (cd274, [.ref 0, .int a1, .int a2, .int a3], [], S) = _
  refine (R_blk PT GR (k := 274) (code := cd274) rfl [59, 113] 400 _).trans ?_
  refine brT (Or.inl rfl) ?_
  refine br_cong ?_ ?_
  · refine brT (Or.inl rfl) ?_
    exact R_retI PT GR rfl rfl
  · refine (R_cx PT GR hRk PT_161 rfl rfl rfl rfl rfl).trans ?_
    refine bind_cong (fun q1 => ?_)
    refine (R_blk PT GR (k := 274) (code := cd274) rfl [59, 113] 400 _).trans ?_
    refine br_cong ?_ ?_
    · exact R_retI PT GR rfl rfl
    · refine br_cong ?_ ?_
      · rfl
      · refine br_cong ?_ ?_
        · rfl
        · refine br_cong ?_ ?_
          · rfl
          · rfl
set_option maxRecDepth 20000 in
theorem R_note_c59_eq (l1 : Int32) (l2 : Int32) (l3 : Int32) (s0 : Int32) (s1 : Int32) (s2 : Int32) (S : pS) : R_note_c59 l1 l2 l3 s0 s1 s2 S = (R_isIn s2 s1 s0 S).bind (fun q2 => if q2.1 = 0 then (some ((-1 : Int32), q2.2)) else (if (rF q2.2 0 52) = (8 : Int32) then (some ((-1 : Int32), q2.2)) else (if inb (rF q2.2 0 52) 8 = true then (if inb (rF q2.2 0 52) 8 = true then (if l3 = 0 then (R_note_c113 (0 : Int32) (rF q2.2 0 52) (wA (wA q2.2 31 (rF q2.2 0 52) l1) 32 (rF q2.2 0 52) l2)) else (R_note_c113 (1 : Int32) (rF q2.2 0 52) (wA (wA q2.2 31 (rF q2.2 0 52) l1) 32 (rF q2.2 0 52) l2))) else (none)) else (none)))) := by
  show Res PT GR (rkT 274) 274 (pCut cd274 59, [.ref 0, .int l1, .int l2, .int l3], [.int s0, .int s1, .int s2, .ref 0], S) = _
  refine (R_reg PT GR (k := 274) (code := cd274) rfl [59, 113] 400).trans ?_
  refine (R_cx PT GR hRk PT_161 rfl rfl rfl rfl rfl).trans ?_
  refine bind_cong (fun q2 => ?_)
  refine (R_blk PT GR (k := 274) (code := cd274) rfl [59, 113] 400 _).trans ?_
  refine br_cong ?_ ?_
  · exact R_retI PT GR rfl rfl
  · refine br_cong ?_ ?_
    · exact R_retI PT GR rfl rfl
    · refine br_cong ?_ ?_
      · refine br_cong ?_ ?_
        · refine br_cong ?_ ?_
          · rfl
          · rfl
        · rfl
      · rfl
set_option maxRecDepth 20000 in
theorem R_note_c113_eq (s0 : Int32) (s1 : Int32) (S : pS) : R_note_c113 s0 s1 S = if inb s1 8 = true then (some (((rF S 0 52) + (1 : Int32)), (wF (wA S 33 s1 s0) 0 52 ((rF S 0 52) + (1 : Int32))))) else (none) := by
  show Res PT GR (rkT 274) 274 (pCut cd274 113, [.ref 0, .null, .null, .null], [.int s0, .int s1, .ref 33], S) = _
  refine (R_reg PT GR (k := 274) (code := cd274) rfl [59, 113] 400).trans ?_
  refine br_cong ?_ ?_
  · refine brT (Or.inl rfl) ?_
    exact R_retI PT GR rfl rfl
  · rfl
set_option maxRecDepth 20000 in
theorem R_whose_eq (a1 : Int32) (S : pS) : R_whose a1 S = (R_isIn a1 (0 : Int32) (1 : Int32) (wF S 0 0 (0 : Int32))).bind (fun q1 => if q1.1 = 0 then (some ((-1 : Int32), q1.2)) else ((R_writers q1.2).bind (fun q2 => if a1 = 0 then (some (q2.1, q2.2)) else ((R_onesOf q2.1 q2.2).bind (fun q3 => if q3.1 < (2 : Int32) then (some ((-1 : Int32), q3.2)) else (R_whose_c52 q2.1 q3.1 (0 : Int32) (1000000 : Int32) (0 : Int32) q3.2)))))) := by
  show Res PT GR (rkT 278) 278 (cd278, [.ref 0, .int a1, .null, .null, .null, .null, .null, .null, .null], [], S) = _
  refine (R_blk PT GR (k := 278) (code := cd278) rfl [52, 99] 400 _).trans ?_
  refine brT (Or.inl rfl) ?_
  refine (R_cx PT GR hRk PT_161 rfl rfl rfl rfl rfl).trans ?_
  refine bind_cong (fun q1 => ?_)
  refine (R_blk PT GR (k := 278) (code := cd278) rfl [52, 99] 400 _).trans ?_
  refine br_cong ?_ ?_
  · exact R_retI PT GR rfl rfl
  · refine (R_cx PT GR hRk PT_277 rfl rfl rfl rfl rfl).trans ?_
    refine bind_cong (fun q2 => ?_)
    refine (R_blk PT GR (k := 278) (code := cd278) rfl [52, 99] 400 _).trans ?_
    refine br_cong ?_ ?_
    · exact R_retI PT GR rfl rfl
    · refine (R_cx PT GR hRk PT_165 rfl rfl rfl rfl rfl).trans ?_
      refine bind_cong (fun q3 => ?_)
      refine (R_blk PT GR (k := 278) (code := cd278) rfl [52, 99] 400 _).trans ?_
      refine br_cong ?_ ?_
      · exact R_retI PT GR rfl rfl
      · rfl
set_option maxRecDepth 20000 in
theorem R_whose_c52_eq (l2 : Int32) (l3 : Int32) (l4 : Int32) (l5 : Int32) (l6 : Int32) (S : pS) : R_whose_c52 l2 l3 l4 l5 l6 S = if l6 < (6 : Int32) then ((R_ownersOf l6 S).bind (fun q4 => (R_onesOf (l2 &&& q4.1) q4.2).bind (fun q5 => (R_greater q5.1 (l3 - q5.1) q5.2).bind (fun q6 => if q6.1 < l5 then (R_whose_c99 l2 l3 l5 l6 q6.1 l6 q6.2) else (R_whose_c99 l2 l3 l5 l6 q6.1 l4 q6.2))))) else (some (l4, S)) := by
  show Res PT GR (rkT 278) 278 (pCut cd278 52, [.ref 0, .null, .int l2, .int l3, .int l4, .int l5, .int l6, .null, .null], [], S) = _
  refine (R_reg PT GR (k := 278) (code := cd278) rfl [52, 99] 400).trans ?_
  refine br_cong ?_ ?_
  · refine (R_cx PT GR hRk PT_252 rfl rfl rfl rfl rfl).trans ?_
    refine bind_cong (fun q4 => ?_)
    refine (R_blk PT GR (k := 278) (code := cd278) rfl [52, 99] 400 _).trans ?_
    refine (R_cx PT GR hRk PT_165 rfl rfl rfl rfl rfl).trans ?_
    refine bind_cong (fun q5 => ?_)
    refine (R_blk PT GR (k := 278) (code := cd278) rfl [52, 99] 400 _).trans ?_
    refine (R_cx PT GR hRk PT_163 rfl rfl rfl rfl rfl).trans ?_
    refine bind_cong (fun q6 => ?_)
    refine (R_blk PT GR (k := 278) (code := cd278) rfl [52, 99] 400 _).trans ?_
    refine br_cong ?_ ?_
    · rfl
    · rfl
  · exact R_retI PT GR rfl rfl
set_option maxRecDepth 20000 in
theorem R_whose_c99_eq (l2 : Int32) (l3 : Int32) (l5 : Int32) (l6 : Int32) (l8 : Int32) (s0 : Int32) (S : pS) : R_whose_c99 l2 l3 l5 l6 l8 s0 S = (R_lesser l5 l8 S).bind (fun q7 => R_whose_c52 l2 l3 s0 q7.1 (l6 + (1 : Int32)) q7.2) := by
  show Res PT GR (rkT 278) 278 (pCut cd278 99, [.ref 0, .null, .int l2, .int l3, .null, .int l5, .int l6, .null, .int l8], [.int s0], S) = _
  refine (R_reg PT GR (k := 278) (code := cd278) rfl [52, 99] 400).trans ?_
  refine (R_cx PT GR hRk PT_164 rfl rfl rfl rfl rfl).trans ?_
  refine bind_cong (fun q7 => ?_)
  exact (R_blk PT GR (k := 278) (code := cd278) rfl [52, 99] 400 _).trans rfl
set_option maxRecDepth 20000 in
theorem R_uses_eq (a1 : Int32) (S : pS) : R_uses a1 S = (R_isIn a1 (0 : Int32) (1 : Int32) (wF S 0 0 (0 : Int32))).bind (fun q1 => if q1.1 = 0 then (some ((-1 : Int32), q1.2)) else (R_uses_c24 a1 (0 : Int32) (-1 : Int32) (0 : Int32) q1.2)) := by
  show Res PT GR (rkT 279) 279 (cd279, [.ref 0, .int a1, .null, .null, .null], [], S) = _
  refine (R_blk PT GR (k := 279) (code := cd279) rfl [24] 400 _).trans ?_
  refine brT (Or.inl rfl) ?_
  refine (R_cx PT GR hRk PT_161 rfl rfl rfl rfl rfl).trans ?_
  refine bind_cong (fun q1 => ?_)
  refine (R_blk PT GR (k := 279) (code := cd279) rfl [24] 400 _).trans ?_
  refine br_cong ?_ ?_
  · exact R_retI PT GR rfl rfl
  · rfl
set_option maxRecDepth 20000 in
theorem R_uses_c24_eq (l1 : Int32) (l2 : Int32) (l3 : Int32) (l4 : Int32) (S : pS) : R_uses_c24 l1 l2 l3 l4 S = if l4 < (rF S 0 6) then ((R_isKept l4 S).bind (fun q2 => if q2.1 = 0 then (R_uses_c24 l1 l2 l3 (l4 + (1 : Int32)) q2.2) else ((R_holdsOf l4 q2.2).bind (fun q3 => if l3 = (-1 : Int32) then (R_uses_c24 l1 (l2 + q3.1) l4 (l4 + (1 : Int32)) q3.2) else ((R_holdsOf l4 q3.2).bind (fun q4 => (R_holdsOf l3 q4.2).bind (fun q5 => if q4.1 ≤ q5.1 then (R_uses_c24 l1 (l2 + q3.1) l3 (l4 + (1 : Int32)) q5.2) else (R_uses_c24 l1 (l2 + q3.1) l4 (l4 + (1 : Int32)) q5.2)))))))) else (if l1 = 0 then (some ((l2 / (1000 : Int32)), S)) else (some (l3, S))) := by
  show Res PT GR (rkT 279) 279 (pCut cd279 24, [.ref 0, .int l1, .int l2, .int l3, .int l4], [], S) = _
  refine (R_reg PT GR (k := 279) (code := cd279) rfl [24] 400).trans ?_
  refine br_cong ?_ ?_
  · refine (R_cx PT GR hRk PT_175 rfl rfl rfl rfl rfl).trans ?_
    refine bind_cong (fun q2 => ?_)
    refine (R_blk PT GR (k := 279) (code := cd279) rfl [24] 400 _).trans ?_
    refine br_cong ?_ ?_
    · rfl
    · refine (R_cx PT GR hRk PT_222 rfl rfl rfl rfl rfl).trans ?_
      refine bind_cong (fun q3 => ?_)
      refine (R_blk PT GR (k := 279) (code := cd279) rfl [24] 400 _).trans ?_
      refine br_cong ?_ ?_
      · rfl
      · refine (R_cx PT GR hRk PT_222 rfl rfl rfl rfl rfl).trans ?_
        refine bind_cong (fun q4 => ?_)
        refine (R_blk PT GR (k := 279) (code := cd279) rfl [24] 400 _).trans ?_
        refine (R_cx PT GR hRk PT_222 rfl rfl rfl rfl rfl).trans ?_
        refine bind_cong (fun q5 => ?_)
        refine (R_blk PT GR (k := 279) (code := cd279) rfl [24] 400 _).trans ?_
        refine br_cong ?_ ?_
        · rfl
        · rfl
  · refine br_cong ?_ ?_
    · refine brF (by decide) ?_
      exact R_retI PT GR rfl rfl
    · exact R_retI PT GR rfl rfl
set_option maxRecDepth 20000 in
theorem R_game_eq (a1 : Int32) (S : pS) : R_game a1 S = (R_isIn a1 (0 : Int32) (1 : Int32) (wF S 0 0 (0 : Int32))).bind (fun q1 => if q1.1 = 0 then (some ((-1 : Int32), q1.2)) else (R_game_c21 a1 (0 : Int32) (0 : Int32) q1.2)) := by
  show Res PT GR (rkT 281) 281 (cd281, [.ref 0, .int a1, .null, .null], [], S) = _
  refine (R_blk PT GR (k := 281) (code := cd281) rfl [21, 43] 400 _).trans ?_
  refine brT (Or.inl rfl) ?_
  refine (R_cx PT GR hRk PT_161 rfl rfl rfl rfl rfl).trans ?_
  refine bind_cong (fun q1 => ?_)
  refine (R_blk PT GR (k := 281) (code := cd281) rfl [21, 43] 400 _).trans ?_
  refine br_cong ?_ ?_
  · exact R_retI PT GR rfl rfl
  · rfl
set_option maxRecDepth 20000 in
theorem R_game_c21_eq (l1 : Int32) (l2 : Int32) (l3 : Int32) (S : pS) : R_game_c21 l1 l2 l3 S = if l3 < (8 : Int32) then ((R_heapOf l3 S).bind (fun q2 => R_game_c21 l1 (l2 ^^^ q2.1) (l3 + (1 : Int32)) q2.2)) else (R_game_c43 l1 l2 (0 : Int32) S) := by
  show Res PT GR (rkT 281) 281 (pCut cd281 21, [.ref 0, .int l1, .int l2, .int l3], [], S) = _
  refine (R_reg PT GR (k := 281) (code := cd281) rfl [21, 43] 400).trans ?_
  refine br_cong ?_ ?_
  · refine (R_cx PT GR hRk PT_280 rfl rfl rfl rfl rfl).trans ?_
    refine bind_cong (fun q2 => ?_)
    exact (R_blk PT GR (k := 281) (code := cd281) rfl [21, 43] 400 _).trans rfl
  · rfl
set_option maxRecDepth 20000 in
theorem R_game_c43_eq (l1 : Int32) (l2 : Int32) (l3 : Int32) (S : pS) : R_game_c43 l1 l2 l3 S = if l3 < (8 : Int32) then ((R_heapOf l3 S).bind (fun q3 => (R_heapOf l3 q3.2).bind (fun q4 => if (q3.1 ^^^ l2) < q4.1 then (if l1 = 0 then (some (l3, q4.2)) else ((R_heapOf l3 q4.2).bind (fun q5 => (R_heapOf l3 q5.2).bind (fun q6 => some ((q5.1 - (q6.1 ^^^ l2)), q6.2))))) else (R_game_c43 l1 l2 (l3 + (1 : Int32)) q4.2)))) else (some ((-1 : Int32), S)) := by
  show Res PT GR (rkT 281) 281 (pCut cd281 43, [.ref 0, .int l1, .int l2, .int l3], [], S) = _
  refine (R_reg PT GR (k := 281) (code := cd281) rfl [21, 43] 400).trans ?_
  refine br_cong ?_ ?_
  · refine (R_cx PT GR hRk PT_280 rfl rfl rfl rfl rfl).trans ?_
    refine bind_cong (fun q3 => ?_)
    refine (R_blk PT GR (k := 281) (code := cd281) rfl [21, 43] 400 _).trans ?_
    refine (R_cx PT GR hRk PT_280 rfl rfl rfl rfl rfl).trans ?_
    refine bind_cong (fun q4 => ?_)
    refine (R_blk PT GR (k := 281) (code := cd281) rfl [21, 43] 400 _).trans ?_
    refine br_cong ?_ ?_
    · refine br_cong ?_ ?_
      · exact R_retI PT GR rfl rfl
      · refine (R_cx PT GR hRk PT_280 rfl rfl rfl rfl rfl).trans ?_
        refine bind_cong (fun q5 => ?_)
        refine (R_blk PT GR (k := 281) (code := cd281) rfl [21, 43] 400 _).trans ?_
        refine (R_cx PT GR hRk PT_280 rfl rfl rfl rfl rfl).trans ?_
        refine bind_cong (fun q6 => ?_)
        refine (R_blk PT GR (k := 281) (code := cd281) rfl [21, 43] 400 _).trans ?_
        exact R_retI PT GR rfl rfl
    · rfl
  · exact R_retI PT GR rfl rfl
set_option maxRecDepth 20000 in
theorem R_image_eq (a1 : Int32) (S : pS) : R_image a1 S = if a1 = 0 then (if (rF S 0 57) = 0 then (some ((0 : Int32), (wF S 0 0 (0 : Int32)))) else (R_image_c18 a1 (wF S 0 0 (0 : Int32)))) else (R_image_c18 a1 (wF S 0 0 (0 : Int32))) := by
  show Res PT GR (rkT 286) 286 (cd286, [.ref 0, .int a1, .null], [], S) = _
  refine (R_blk PT GR (k := 286) (code := cd286) rfl [18, 35, 73] 400 _).trans ?_
  refine brT (Or.inl rfl) ?_
  refine br_cong ?_ ?_
  · refine br_cong ?_ ?_
    · exact R_retI PT GR rfl rfl
    · rfl
  · rfl
set_option maxRecDepth 20000 in
theorem R_image_c18_eq (l1 : Int32) (S : pS) : R_image_c18 l1 S = if (1 : Int32) = 0 ∨ l1 = 0 ∨ l1 = 1 then (R_image_c35 l1 (0 : Int32) (wF (wF (wF S 0 56 l1) 0 57 (1 : Int32)) 0 58 (0 : Int32))) else (none) := by
  show Res PT GR (rkT 286) 286 (pCut cd286 18, [.ref 0, .int l1, .null], [], S) = _
  refine (R_reg PT GR (k := 286) (code := cd286) rfl [18, 35, 73] 400).trans ?_
  refine br_cong ?_ ?_
  · refine brT (by decide) ?_
    refine brT (Or.inl rfl) ?_
    rfl
  · rfl
set_option maxRecDepth 20000 in
theorem R_image_c35_eq (l1 : Int32) (l2 : Int32) (S : pS) : R_image_c35 l1 l2 S = if l2 < (76 : Int32) then (if inb l2 76 = true then ((R_keepsOne (rA S 1 l2) S).bind (fun q1 => if inb l2 76 = true then (R_image_c35 l1 (l2 + (1 : Int32)) (wA q1.2 1 l2 q1.1)) else (none))) else (none)) else ((R_keepsTold S).bind (fun q2 => (R_keepsTexts q2.2).bind (fun q3 => R_image_c73 l1 (0 : Int32) q3.2))) := by
  show Res PT GR (rkT 286) 286 (pCut cd286 35, [.ref 0, .int l1, .int l2], [], S) = _
  refine (R_reg PT GR (k := 286) (code := cd286) rfl [18, 35, 73] 400).trans ?_
  refine br_cong ?_ ?_
  · refine br_cong ?_ ?_
    · refine (R_cx PT GR hRk PT_282 rfl rfl rfl rfl rfl).trans ?_
      refine bind_cong (fun q1 => ?_)
      refine (R_blk PT GR (k := 286) (code := cd286) rfl [18, 35, 73] 400 _).trans ?_
      refine br_cong ?_ ?_
      · rfl
      · rfl
    · rfl
  · refine (R_cx PT GR hRk PT_285 rfl rfl rfl rfl rfl).trans ?_
    refine bind_cong (fun q2 => ?_)
    refine (R_blk PT GR (k := 286) (code := cd286) rfl [18, 35, 73] 400 _).trans ?_
    refine (R_cx PT GR hRk PT_284 rfl rfl rfl rfl rfl).trans ?_
    refine bind_cong (fun q3 => ?_)
    exact (R_blk PT GR (k := 286) (code := cd286) rfl [18, 35, 73] 400 _).trans rfl
set_option maxRecDepth 20000 in
theorem R_image_c73_eq (l1 : Int32) (l2 : Int32) (S : pS) : R_image_c73 l1 l2 S = if l2 < (600 : Int32) then (if inb l2 600 = true then ((R_keepsOne (rA S 7 l2) S).bind (fun q4 => if inb l2 600 = true then (R_image_c73 l1 (l2 + (1 : Int32)) (wA q4.2 7 l2 q4.1)) else (none))) else (none)) else ((R_keepsLaw S).bind (fun q5 => if l1 = 0 then (some ((1 : Int32), (wF q5.2 0 3 (0 : Int32)))) else (some ((1 : Int32), q5.2)))) := by
  show Res PT GR (rkT 286) 286 (pCut cd286 73, [.ref 0, .int l1, .int l2], [], S) = _
  refine (R_reg PT GR (k := 286) (code := cd286) rfl [18, 35, 73] 400).trans ?_
  refine br_cong ?_ ?_
  · refine br_cong ?_ ?_
    · refine (R_cx PT GR hRk PT_282 rfl rfl rfl rfl rfl).trans ?_
      refine bind_cong (fun q4 => ?_)
      refine (R_blk PT GR (k := 286) (code := cd286) rfl [18, 35, 73] 400 _).trans ?_
      refine br_cong ?_ ?_
      · rfl
      · rfl
    · rfl
  · refine (R_cx PT GR hRk PT_283 rfl rfl rfl rfl rfl).trans ?_
    refine bind_cong (fun q5 => ?_)
    refine (R_blk PT GR (k := 286) (code := cd286) rfl [18, 35, 73] 400 _).trans ?_
    refine br_cong ?_ ?_
    · refine brT (Or.inl rfl) ?_
      exact R_retI PT GR rfl rfl
    · exact R_retI PT GR rfl rfl
set_option maxRecDepth 20000 in
theorem R_look_eq (a1 : Int32) (S : pS) : R_look a1 S = if a1 = 0 then (some ((rF S 0 6), (wF S 0 0 (0 : Int32)))) else (if a1 = (1 : Int32) then (some ((rA S 1 (0 : Int32)), (wF S 0 0 (0 : Int32)))) else (if a1 = (2 : Int32) then (some ((rA S 1 (3 : Int32)), (wF S 0 0 (0 : Int32)))) else (if a1 = (3 : Int32) then (some ((rA S 1 (4 : Int32)), (wF S 0 0 (0 : Int32)))) else (if a1 = (4 : Int32) then (some ((rA S 1 (5 : Int32)), (wF S 0 0 (0 : Int32)))) else (if a1 = (5 : Int32) then ((R_keptSet (wF S 0 0 (0 : Int32))).bind (fun q1 => some (q1.1, q1.2))) else (if a1 = (6 : Int32) then (some ((rA S 1 (2 : Int32)), (wF S 0 0 (0 : Int32)))) else (if a1 = (7 : Int32) then (some ((rA S 1 (1 : Int32)), (wF S 0 0 (0 : Int32)))) else (if a1 = (8 : Int32) then (some ((rA S 10 (0 : Int32)), (wF S 0 0 (0 : Int32)))) else (if a1 = (9 : Int32) then (some ((rF S 0 34), (wF S 0 0 (0 : Int32)))) else (if a1 = (10 : Int32) then (some ((rF S 0 36), (wF S 0 0 (0 : Int32)))) else (if a1 = (11 : Int32) then (some ((rF S 0 39), (wF S 0 0 (0 : Int32)))) else (if a1 = (12 : Int32) then (some ((rF S 0 43), (wF S 0 0 (0 : Int32)))) else (if a1 = (13 : Int32) then (some ((rF S 0 49), (wF S 0 0 (0 : Int32)))) else (if a1 = (14 : Int32) then (some ((rF S 0 52), (wF S 0 0 (0 : Int32)))) else (if a1 = (15 : Int32) then (some ((rF S 0 3), (wF S 0 0 (0 : Int32)))) else (some ((-1 : Int32), (wF S 0 0 (0 : Int32))))))))))))))))))) := by
  show Res PT GR (rkT 287) 287 (cd287, [.ref 0, .int a1], [], S) = _
  refine (R_blk PT GR (k := 287) (code := cd287) rfl [] 400 _).trans ?_
  refine brT (Or.inl rfl) ?_
  refine br_cong ?_ ?_
  · exact R_retI PT GR rfl rfl
  · refine br_cong ?_ ?_
    · refine brT (by decide) ?_
      exact R_retI PT GR rfl rfl
    · refine br_cong ?_ ?_
      · refine brT (by decide) ?_
        exact R_retI PT GR rfl rfl
      · refine br_cong ?_ ?_
        · refine brT (by decide) ?_
          exact R_retI PT GR rfl rfl
        · refine br_cong ?_ ?_
          · refine brT (by decide) ?_
            exact R_retI PT GR rfl rfl
          · refine br_cong ?_ ?_
            · refine (R_cx PT GR hRk PT_176 rfl rfl rfl rfl rfl).trans ?_
              refine bind_cong (fun q1 => ?_)
              refine (R_blk PT GR (k := 287) (code := cd287) rfl [] 400 _).trans ?_
              exact R_retI PT GR rfl rfl
            · refine br_cong ?_ ?_
              · refine brT (by decide) ?_
                exact R_retI PT GR rfl rfl
              · refine br_cong ?_ ?_
                · refine brT (by decide) ?_
                  exact R_retI PT GR rfl rfl
                · refine br_cong ?_ ?_
                  · refine brT (by decide) ?_
                    exact R_retI PT GR rfl rfl
                  · refine br_cong ?_ ?_
                    · exact R_retI PT GR rfl rfl
                    · refine br_cong ?_ ?_
                      · exact R_retI PT GR rfl rfl
                      · refine br_cong ?_ ?_
                        · exact R_retI PT GR rfl rfl
                        · refine br_cong ?_ ?_
                          · exact R_retI PT GR rfl rfl
                          · refine br_cong ?_ ?_
                            · exact R_retI PT GR rfl rfl
                            · refine br_cong ?_ ?_
                              · exact R_retI PT GR rfl rfl
                              · refine br_cong ?_ ?_
                                · exact R_retI PT GR rfl rfl
                                · exact R_retI PT GR rfl rfl
set_option maxRecDepth 20000 in
theorem R_isPerson_eq (a1 : Int32) (S : pS) : R_isPerson a1 S = if a1 < 0 then (some ((0 : Int32), S)) else (if a1 < (12 : Int32) then (some ((1 : Int32), S)) else (some ((0 : Int32), S))) := by
  show Res PT GR (rkT 174) 174 (cd174, [.ref 0, .int a1], [], S) = _
  refine (R_blk PT GR (k := 174) (code := cd174) rfl [] 400 _).trans ?_
  refine br_cong ?_ ?_
  · exact R_retI PT GR rfl rfl
  · refine br_cong ?_ ?_
    · exact R_retI PT GR rfl rfl
    · exact R_retI PT GR rfl rfl
set_option maxRecDepth 20000 in
theorem R_isIn_eq (a1 : Int32) (a2 : Int32) (a3 : Int32) (S : pS) : R_isIn a1 a2 a3 S = if a1 < a2 then (some ((0 : Int32), S)) else (if a1 ≤ a3 then (some ((1 : Int32), S)) else (some ((0 : Int32), S))) := by
  show Res PT GR (rkT 161) 161 (cd161, [.ref 0, .int a1, .int a2, .int a3], [], S) = _
  refine (R_blk PT GR (k := 161) (code := cd161) rfl [] 400 _).trans ?_
  refine br_cong ?_ ?_
  · exact R_retI PT GR rfl rfl
  · refine br_cong ?_ ?_
    · exact R_retI PT GR rfl rfl
    · exact R_retI PT GR rfl rfl
set_option maxRecDepth 20000 in
theorem R_isCard_eq (a1 : Int32) (S : pS) : R_isCard a1 S = if a1 < 0 then (some ((0 : Int32), S)) else (if a1 < (rF S 0 6) then (some ((1 : Int32), S)) else (some ((0 : Int32), S))) := by
  show Res PT GR (rkT 173) 173 (cd173, [.ref 0, .int a1], [], S) = _
  refine (R_blk PT GR (k := 173) (code := cd173) rfl [] 400 _).trans ?_
  refine br_cong ?_ ?_
  · exact R_retI PT GR rfl rfl
  · refine br_cong ?_ ?_
    · exact R_retI PT GR rfl rfl
    · exact R_retI PT GR rfl rfl
set_option maxRecDepth 20000 in
theorem R_types_eq (a1 : Int32) (S : pS) : R_types a1 S = R_types_c3 a1 (24 : Int32) S := by
  show Res PT GR (rkT 180) 180 (cd180, [.ref 0, .int a1, .null], [], S) = _
  exact (R_blk PT GR (k := 180) (code := cd180) rfl [3] 400 _).trans rfl
set_option maxRecDepth 20000 in
theorem R_types_c3_eq (l1 : Int32) (l2 : Int32) (S : pS) : R_types_c3 l1 l2 S = if l2 < 0 then (some (0, S)) else (if inb (rF S 0 12) 400 = true then (R_types_c3 l1 (l2 + (-8 : Int32)) (wF (wA S 8 (rF S 0 12) ((l1 >>> (l2 &&& 31)) &&& (255 : Int32))) 0 12 ((rF S 0 12) + (1 : Int32)))) else (none)) := by
  show Res PT GR (rkT 180) 180 (pCut cd180 3, [.ref 0, .int l1, .int l2], [], S) = _
  refine (R_reg PT GR (k := 180) (code := cd180) rfl [3] 400).trans ?_
  refine br_cong ?_ ?_
  · exact R_retV PT GR rfl
  · refine br_cong ?_ ?_
    · refine brT (Or.inl rfl) ?_
      rfl
    · rfl
set_option maxRecDepth 20000 in
theorem R_readsText_eq (a1 : Int32) (S : pS) : R_readsText a1 S = (R_reads (wF S 0 25 (0 : Int32))).bind (fun q1 => if a1 = (1 : Int32) then ((R_readMet q1.2).bind (fun q2 => some (q2.1, q2.2))) else (if a1 = (2 : Int32) then ((R_readCalled q1.2).bind (fun q3 => some (q3.1, q3.2))) else (if a1 = (3 : Int32) then ((R_readPlan q1.2).bind (fun q4 => some (q4.1, q4.2))) else ((R_readLaw q1.2).bind (fun q5 => some (q5.1, q5.2)))))) := by
  show Res PT GR (rkT 213) 213 (cd213, [.ref 0, .int a1], [], S) = _
  refine (R_blk PT GR (k := 213) (code := cd213) rfl [] 400 _).trans ?_
  refine brT (Or.inl rfl) ?_
  refine (R_cx PT GR hRk PT_188 rfl rfl rfl rfl rfl).trans ?_
  refine bind_cong (fun q1 => ?_)
  refine (R_blk PT GR (k := 213) (code := cd213) rfl [] 400 _).trans ?_
  refine br_cong ?_ ?_
  · refine (R_cx PT GR hRk PT_208 rfl rfl rfl rfl rfl).trans ?_
    refine bind_cong (fun q2 => ?_)
    refine (R_blk PT GR (k := 213) (code := cd213) rfl [] 400 _).trans ?_
    exact R_retI PT GR rfl rfl
  · refine br_cong ?_ ?_
    · refine (R_cx PT GR hRk PT_210 rfl rfl rfl rfl rfl).trans ?_
      refine bind_cong (fun q3 => ?_)
      refine (R_blk PT GR (k := 213) (code := cd213) rfl [] 400 _).trans ?_
      exact R_retI PT GR rfl rfl
    · refine br_cong ?_ ?_
      · refine (R_cx PT GR hRk PT_212 rfl rfl rfl rfl rfl).trans ?_
        refine bind_cong (fun q4 => ?_)
        refine (R_blk PT GR (k := 213) (code := cd213) rfl [] 400 _).trans ?_
        exact R_retI PT GR rfl rfl
      · refine (R_cx PT GR hRk PT_202 rfl rfl rfl rfl rfl).trans ?_
        refine bind_cong (fun q5 => ?_)
        refine (R_blk PT GR (k := 213) (code := cd213) rfl [] 400 _).trans ?_
        exact R_retI PT GR rfl rfl
set_option maxRecDepth 20000 in
theorem R_takesLaw_eq (a1 : Int32) (S : pS) : R_takesLaw a1 S = R_takesLaw_c2 a1 (0 : Int32) S := by
  show Res PT GR (rkT 203) 203 (cd203, [.ref 0, .int a1, .null], [], S) = _
  exact (R_blk PT GR (k := 203) (code := cd203) rfl [2, 107] 400 _).trans rfl
set_option maxRecDepth 20000 in
theorem R_takesLaw_c2_eq (l1 : Int32) (l2 : Int32) (S : pS) : R_takesLaw_c2 l1 l2 S = if l2 < l1 then (if inb ((32 : Int32) + l2) 48 = true then (if inb (((16 : Int32) * (rF S 0 25)) + l2) 48 = true then (if inb ((32 : Int32) + l2) 48 = true then (if inb (((16 : Int32) * (rF S 0 25)) + l2) 48 = true then (if inb ((32 : Int32) + l2) 48 = true then (if inb (((16 : Int32) * (rF S 0 25)) + l2) 48 = true then (if inb ((32 : Int32) + l2) 48 = true then (if inb (((16 : Int32) * (rF S 0 25)) + l2) 48 = true then (R_takesLaw_c2 l1 (l2 + (1 : Int32)) (wA (wA (wA (wA S 11 (((16 : Int32) * (rF S 0 25)) + l2) (rA S 11 ((32 : Int32) + l2))) 12 (((16 : Int32) * (rF S 0 25)) + l2) (rA S 12 ((32 : Int32) + l2))) 13 (((16 : Int32) * (rF S 0 25)) + l2) (rA S 13 ((32 : Int32) + l2))) 14 (((16 : Int32) * (rF S 0 25)) + l2) (rA S 14 ((32 : Int32) + l2)))) else (none)) else (none)) else (none)) else (none)) else (none)) else (none)) else (none)) else (none)) else (R_takesLaw_c107 l1 (0 : Int32) S) := by
  show Res PT GR (rkT 203) 203 (pCut cd203 2, [.ref 0, .int l1, .int l2], [], S) = _
  refine (R_reg PT GR (k := 203) (code := cd203) rfl [2, 107] 400).trans ?_
  refine br_cong ?_ ?_
  · refine br_cong ?_ ?_
    · refine br_cong ?_ ?_
      · refine br_cong ?_ ?_
        · refine br_cong ?_ ?_
          · refine br_cong ?_ ?_
            · refine br_cong ?_ ?_
              · refine br_cong ?_ ?_
                · refine br_cong ?_ ?_
                  · rfl
                  · rfl
                · rfl
              · rfl
            · rfl
          · rfl
        · rfl
      · rfl
    · rfl
  · rfl
set_option maxRecDepth 20000 in
theorem R_takesLaw_c107_eq (l1 : Int32) (l2 : Int32) (S : pS) : R_takesLaw_c107 l1 l2 S = if l2 < (rF S 0 26) then (if inb ((800 : Int32) + l2) 1200 = true then (if inb (((400 : Int32) * (rF S 0 25)) + l2) 1200 = true then (if inb ((800 : Int32) + l2) 1200 = true then (if inb (((400 : Int32) * (rF S 0 25)) + l2) 1200 = true then (R_takesLaw_c107 l1 (l2 + (1 : Int32)) (wA (wA S 15 (((400 : Int32) * (rF S 0 25)) + l2) (rA S 15 ((800 : Int32) + l2))) 16 (((400 : Int32) * (rF S 0 25)) + l2) (rA S 16 ((800 : Int32) + l2)))) else (none)) else (none)) else (none)) else (none)) else (if inb (rF S 0 25) 2 = true then (some (0, (wA S 10 (rF S 0 25) l1))) else (none)) := by
  show Res PT GR (rkT 203) 203 (pCut cd203 107, [.ref 0, .int l1, .int l2], [], S) = _
  refine (R_reg PT GR (k := 203) (code := cd203) rfl [2, 107] 400).trans ?_
  refine br_cong ?_ ?_
  · refine br_cong ?_ ?_
    · refine br_cong ?_ ?_
      · refine br_cong ?_ ?_
        · refine br_cong ?_ ?_
          · rfl
          · rfl
        · rfl
      · rfl
    · rfl
  · refine br_cong ?_ ?_
    · exact R_retV PT GR rfl
    · rfl
set_option maxRecDepth 20000 in
theorem R_takesOther_eq (a1 : Int32) (a2 : Int32) (S : pS) : R_takesOther a1 a2 S = if a1 = (1 : Int32) then (R_takesOther_c7 a2 (0 : Int32) S) else (if a1 = (2 : Int32) then (R_takesOther_c49 a2 (0 : Int32) S) else (R_takesOther_c101 a2 (0 : Int32) S)) := by
  show Res PT GR (rkT 214) 214 (cd214, [.ref 0, .int a1, .int a2, .null], [], S) = _
  refine (R_blk PT GR (k := 214) (code := cd214) rfl [7, 49, 101] 400 _).trans ?_
  refine br_cong ?_ ?_
  · rfl
  · refine br_cong ?_ ?_
    · rfl
    · rfl
set_option maxRecDepth 20000 in
theorem R_takesOther_c7_eq (l2 : Int32) (l3 : Int32) (S : pS) : R_takesOther_c7 l2 l3 S = if l3 < (12 : Int32) then (if inb ((12 : Int32) + l3) 24 = true then (if inb l3 24 = true then (R_takesOther_c7 l2 (l3 + (1 : Int32)) (wA S 18 l3 (rA S 18 ((12 : Int32) + l3)))) else (none)) else (none)) else (some (0, (wF S 0 34 l2))) := by
  show Res PT GR (rkT 214) 214 (pCut cd214 7, [.ref 0, .null, .int l2, .int l3], [], S) = _
  refine (R_reg PT GR (k := 214) (code := cd214) rfl [7, 49, 101] 400).trans ?_
  refine br_cong ?_ ?_
  · refine br_cong ?_ ?_
    · refine br_cong ?_ ?_
      · rfl
      · rfl
    · rfl
  · refine brT (Or.inl rfl) ?_
    exact R_retV PT GR rfl
set_option maxRecDepth 20000 in
theorem R_takesOther_c49_eq (l2 : Int32) (l3 : Int32) (S : pS) : R_takesOther_c49 l2 l3 S = if l3 < (8 : Int32) then (if inb ((8 : Int32) + l3) 16 = true then (if inb l3 16 = true then (if inb ((8 : Int32) + l3) 16 = true then (if inb l3 16 = true then (R_takesOther_c49 l2 (l3 + (1 : Int32)) (wA (wA S 19 l3 (rA S 19 ((8 : Int32) + l3))) 20 l3 (rA S 20 ((8 : Int32) + l3)))) else (none)) else (none)) else (none)) else (none)) else (some (0, (wF S 0 36 l2))) := by
  show Res PT GR (rkT 214) 214 (pCut cd214 49, [.ref 0, .null, .int l2, .int l3], [], S) = _
  refine (R_reg PT GR (k := 214) (code := cd214) rfl [7, 49, 101] 400).trans ?_
  refine br_cong ?_ ?_
  · refine br_cong ?_ ?_
    · refine br_cong ?_ ?_
      · refine br_cong ?_ ?_
        · refine br_cong ?_ ?_
          · rfl
          · rfl
        · rfl
      · rfl
    · rfl
  · refine brT (Or.inl rfl) ?_
    exact R_retV PT GR rfl
set_option maxRecDepth 20000 in
theorem R_takesOther_c101_eq (l2 : Int32) (l3 : Int32) (S : pS) : R_takesOther_c101 l2 l3 S = if l3 < ((3 : Int32) * l2) then (if inb ((48 : Int32) + l3) 96 = true then (if inb l3 96 = true then (R_takesOther_c101 l2 (l3 + (1 : Int32)) (wA S 21 l3 (rA S 21 ((48 : Int32) + l3)))) else (none)) else (none)) else (some (0, (wF (wF S 0 39 l2) 0 3 (0 : Int32)))) := by
  show Res PT GR (rkT 214) 214 (pCut cd214 101, [.ref 0, .null, .int l2, .int l3], [], S) = _
  refine (R_reg PT GR (k := 214) (code := cd214) rfl [7, 49, 101] 400).trans ?_
  refine br_cong ?_ ?_
  · refine br_cong ?_ ?_
    · refine br_cong ?_ ?_
      · rfl
      · rfl
    · rfl
  · refine brT (Or.inl rfl) ?_
    refine brT (Or.inl rfl) ?_
    exact R_retV PT GR rfl
