/-! Equations of methods (written by program). -/
set_option maxRecDepth 20000 in
theorem R_leastWorth_eq (S : pS) : R_leastWorth S = R_leastWorth_c4 (-1 : Int32) (0 : Int32) S := by
  show Res PT GR (rkT 229) 229 (cd229, [.ref 0, .null, .null], [], S) = _
  exact (R_blk PT GR (k := 229) (code := cd229) rfl [4] 400 _).trans rfl
set_option maxRecDepth 20000 in
theorem R_leastWorth_c4_eq (l1 : Int32) (l2 : Int32) (S : pS) : R_leastWorth_c4 l1 l2 S = if l2 < (rF S 0 6) then ((R_isKept l2 S).bind (fun q1 => if q1.1 = 0 then (R_leastWorth_c4 l1 (l2 + (1 : Int32)) q1.2) else (if l1 = (-1 : Int32) then (R_leastWorth_c4 l2 (l2 + (1 : Int32)) q1.2) else ((R_worthOf l2 q1.2).bind (fun q2 => (R_worthOf l1 q2.2).bind (fun q3 => if q2.1 < q3.1 then (R_leastWorth_c4 l2 (l2 + (1 : Int32)) q3.2) else (R_leastWorth_c4 l1 (l2 + (1 : Int32)) q3.2))))))) else (some (l1, S)) := by
  show Res PT GR (rkT 229) 229 (pCut cd229 4, [.ref 0, .int l1, .int l2], [], S) = _
  refine (R_reg PT GR (k := 229) (code := cd229) rfl [4] 400).trans ?_
  refine br_cong ?_ ?_
  · refine (R_cx PT GR hRk PT_175 rfl rfl rfl rfl rfl).trans ?_
    refine bind_cong (fun q1 => ?_)
    refine (R_blk PT GR (k := 229) (code := cd229) rfl [4] 400 _).trans ?_
    refine br_cong ?_ ?_
    · rfl
    · refine br_cong ?_ ?_
      · rfl
      · refine (R_cx PT GR hRk PT_224 rfl rfl rfl rfl rfl).trans ?_
        refine bind_cong (fun q2 => ?_)
        refine (R_blk PT GR (k := 229) (code := cd229) rfl [4] 400 _).trans ?_
        refine (R_cx PT GR hRk PT_224 rfl rfl rfl rfl rfl).trans ?_
        refine bind_cong (fun q3 => ?_)
        refine (R_blk PT GR (k := 229) (code := cd229) rfl [4] 400 _).trans ?_
        refine br_cong ?_ ?_
        · rfl
        · rfl
  · exact R_retI PT GR rfl rfl
set_option maxRecDepth 20000 in
theorem R_doesDeed_eq (a1 : Int32) (S : pS) : R_doesDeed a1 S = if inb (a1 + (2 : Int32)) 96 = true then (if inb (a1 + (1 : Int32)) 96 = true then (if (rA S 21 (a1 + (1 : Int32))) = 0 then ((R_throwsSome (rA S 21 (a1 + (2 : Int32))) S).bind (fun q1 => R_doesDeed_c26 a1 (rA S 21 (a1 + (2 : Int32))) q1.2)) else (R_doesDeed_c26 a1 (rA S 21 (a1 + (2 : Int32))) S)) else (none)) else (none) := by
  show Res PT GR (rkT 236) 236 (cd236, [.ref 0, .int a1, .null], [], S) = _
  refine (R_blk PT GR (k := 236) (code := cd236) rfl [26, 54, 71] 400 _).trans ?_
  refine br_cong ?_ ?_
  · refine br_cong ?_ ?_
    · refine br_cong ?_ ?_
      · refine (R_cx PT GR hRk PT_230 rfl rfl rfl rfl rfl).trans ?_
        refine bind_cong (fun q1 => ?_)
        exact (R_blk PT GR (k := 236) (code := cd236) rfl [26, 54, 71] 400 _).trans rfl
      · rfl
    · rfl
  · rfl
set_option maxRecDepth 20000 in
theorem R_doesDeed_c26_eq (l1 : Int32) (l2 : Int32) (S : pS) : R_doesDeed_c26 l1 l2 S = if inb (l1 + (1 : Int32)) 96 = true then (if (rA S 21 (l1 + (1 : Int32))) = (1 : Int32) then ((R_bestCard l2 (-1 : Int32) S).bind (fun q2 => if q2.1 = (-1 : Int32) then (R_doesDeed_c54 l1 l2 q2.2) else ((R_rings l2 q2.2).bind (fun q3 => R_doesDeed_c54 l1 l2 q3.2)))) else (R_doesDeed_c54 l1 l2 S)) else (none) := by
  show Res PT GR (rkT 236) 236 (pCut cd236 26, [.ref 0, .int l1, .int l2], [], S) = _
  refine (R_reg PT GR (k := 236) (code := cd236) rfl [26, 54, 71] 400).trans ?_
  refine br_cong ?_ ?_
  · refine br_cong ?_ ?_
    · refine (R_cx PT GR hRk PT_226 rfl rfl rfl rfl rfl).trans ?_
      refine bind_cong (fun q2 => ?_)
      refine (R_blk PT GR (k := 236) (code := cd236) rfl [26, 54, 71] 400 _).trans ?_
      refine br_cong ?_ ?_
      · rfl
      · refine (R_cx PT GR hRk PT_228 rfl rfl rfl rfl rfl).trans ?_
        refine bind_cong (fun q3 => ?_)
        exact (R_blk PT GR (k := 236) (code := cd236) rfl [26, 54, 71] 400 _).trans rfl
    · rfl
  · rfl
set_option maxRecDepth 20000 in
theorem R_doesDeed_c54_eq (l1 : Int32) (l2 : Int32) (S : pS) : R_doesDeed_c54 l1 l2 S = if inb (l1 + (1 : Int32)) 96 = true then (if (rA S 21 (l1 + (1 : Int32))) = (2 : Int32) then ((R_bends l2 S).bind (fun q4 => R_doesDeed_c71 l1 l2 q4.2)) else (R_doesDeed_c71 l1 l2 S)) else (none) := by
  show Res PT GR (rkT 236) 236 (pCut cd236 54, [.ref 0, .int l1, .int l2], [], S) = _
  refine (R_reg PT GR (k := 236) (code := cd236) rfl [26, 54, 71] 400).trans ?_
  refine br_cong ?_ ?_
  · refine br_cong ?_ ?_
    · refine (R_cx PT GR hRk PT_231 rfl rfl rfl rfl rfl).trans ?_
      refine bind_cong (fun q4 => ?_)
      exact (R_blk PT GR (k := 236) (code := cd236) rfl [26, 54, 71] 400 _).trans rfl
    · rfl
  · rfl
set_option maxRecDepth 20000 in
theorem R_doesDeed_c71_eq (l1 : Int32) (l2 : Int32) (S : pS) : R_doesDeed_c71 l1 l2 S = if inb (l1 + (1 : Int32)) 96 = true then (if (rA S 21 (l1 + (1 : Int32))) = (3 : Int32) then ((R_isKept l2 S).bind (fun q5 => if q5.1 = 0 then ((R_finds l2 q5.2).bind (fun q6 => some (0, q6.2))) else (some (0, q5.2)))) else (some (0, S))) else (none) := by
  show Res PT GR (rkT 236) 236 (pCut cd236 71, [.ref 0, .int l1, .int l2], [], S) = _
  refine (R_reg PT GR (k := 236) (code := cd236) rfl [26, 54, 71] 400).trans ?_
  refine br_cong ?_ ?_
  · refine br_cong ?_ ?_
    · refine (R_cx PT GR hRk PT_175 rfl rfl rfl rfl rfl).trans ?_
      refine bind_cong (fun q5 => ?_)
      refine (R_blk PT GR (k := 236) (code := cd236) rfl [26, 54, 71] 400 _).trans ?_
      refine br_cong ?_ ?_
      · refine (R_cx PT GR hRk PT_232 rfl rfl rfl rfl rfl).trans ?_
        refine bind_cong (fun q6 => ?_)
        refine (R_blk PT GR (k := 236) (code := cd236) rfl [26, 54, 71] 400 _).trans ?_
        exact R_retV PT GR rfl
      · exact R_retV PT GR rfl
    · exact R_retV PT GR rfl
  · rfl
set_option maxRecDepth 20000 in
theorem R_isServed_eq (S : pS) : R_isServed S = if (rF S 0 5) = 0 then ((R_draw (6 : Int32) S).bind (fun q1 => R_isServed_c25 q1.1 q1.2)) else (R_isServed_c25 ((rA S 1 (0 : Int32)) - (rA S 1 (0 : Int32)) / (6 : Int32) * (6 : Int32)) S) := by
  show Res PT GR (rkT 237) 237 (cd237, [.ref 0, .null, .null, .null, .null, .null], [], S) = _
  refine (R_blk PT GR (k := 237) (code := cd237) rfl [25, 86, 116] 400 _).trans ?_
  refine br_cong ?_ ?_
  · refine (R_cx PT GR hRk PT_172 rfl rfl rfl rfl rfl).trans ?_
    refine bind_cong (fun q1 => ?_)
    exact (R_blk PT GR (k := 237) (code := cd237) rfl [25, 86, 116] 400 _).trans rfl
  · refine brT (by decide) ?_
    refine brF (by decide) ?_
    rfl
set_option maxRecDepth 20000 in
theorem R_isServed_c25_eq (s0 : Int32) (S : pS) : R_isServed_c25 s0 S = (R_bestCard (-1 : Int32) s0 S).bind (fun q2 => if q2.1 = (-1 : Int32) then ((R_notes (7 : Int32) s0 (0 : Int32) (wA q2.2 1 (5 : Int32) ((rA q2.2 1 (5 : Int32)) + (1 : Int32)))).bind (fun q3 => some ((0 : Int32), q3.2))) else ((R_holdsOf q2.1 q2.2).bind (fun q4 => (R_doesHold q2.1 q4.1 q4.2).bind (fun q5 => if q5.1 = 0 then (R_isServed_c86 q2.1 q4.1 q5.1 (4 : Int32) q5.2) else (R_isServed_c86 q2.1 q4.1 q5.1 (3 : Int32) q5.2))))) := by
  show Res PT GR (rkT 237) 237 (pCut cd237 25, [.ref 0, .null, .null, .null, .null, .null], [.int s0], S) = _
  refine (R_reg PT GR (k := 237) (code := cd237) rfl [25, 86, 116] 400).trans ?_
  refine (R_cx PT GR hRk PT_226 rfl rfl rfl rfl rfl).trans ?_
  refine bind_cong (fun q2 => ?_)
  refine (R_blk PT GR (k := 237) (code := cd237) rfl [25, 86, 116] 400 _).trans ?_
  refine br_cong ?_ ?_
  · refine brT (by decide) ?_
    refine brT (by decide) ?_
    refine (R_cx PT GR hRk PT_225 rfl rfl rfl rfl rfl).trans ?_
    refine bind_cong (fun q3 => ?_)
    refine (R_blk PT GR (k := 237) (code := cd237) rfl [25, 86, 116] 400 _).trans ?_
    exact R_retI PT GR rfl rfl
  · refine (R_cx PT GR hRk PT_222 rfl rfl rfl rfl rfl).trans ?_
    refine bind_cong (fun q4 => ?_)
    refine (R_blk PT GR (k := 237) (code := cd237) rfl [25, 86, 116] 400 _).trans ?_
    refine (R_cx PT GR hRk PT_227 rfl rfl rfl rfl rfl).trans ?_
    refine bind_cong (fun q5 => ?_)
    refine (R_blk PT GR (k := 237) (code := cd237) rfl [25, 86, 116] 400 _).trans ?_
    refine br_cong ?_ ?_
    · rfl
    · rfl
set_option maxRecDepth 20000 in
theorem R_isServed_c86_eq (l2 : Int32) (l3 : Int32) (l4 : Int32) (s0 : Int32) (S : pS) : R_isServed_c86 l2 l3 l4 s0 S = if inb s0 76 = true then (if inb s0 76 = true then (if l4 = 0 then (R_isServed_c116 l2 l3 l4 (6 : Int32) (wA S 1 s0 ((rA S 1 s0) + (1 : Int32)))) else (R_isServed_c116 l2 l3 l4 (5 : Int32) (wA S 1 s0 ((rA S 1 s0) + (1 : Int32))))) else (none)) else (none) := by
  show Res PT GR (rkT 237) 237 (pCut cd237 86, [.ref 0, .null, .int l2, .int l3, .int l4, .null], [.int s0], S) = _
  refine (R_reg PT GR (k := 237) (code := cd237) rfl [25, 86, 116] 400).trans ?_
  refine br_cong ?_ ?_
  · refine br_cong ?_ ?_
    · refine br_cong ?_ ?_
      · rfl
      · rfl
    · rfl
  · rfl
set_option maxRecDepth 20000 in
theorem R_isServed_c116_eq (l2 : Int32) (l3 : Int32) (l4 : Int32) (s0 : Int32) (S : pS) : R_isServed_c116 l2 l3 l4 s0 S = (R_notes s0 l2 l3 S).bind (fun q6 => if pBool 1 l4 = true then some (l4, q6.2) else none) := by
  show Res PT GR (rkT 237) 237 (pCut cd237 116, [.null, .null, .int l2, .int l3, .int l4, .null], [.int s0, .ref 0], S) = _
  refine (R_reg PT GR (k := 237) (code := cd237) rfl [25, 86, 116] 400).trans ?_
  refine (R_cx PT GR hRk PT_225 rfl rfl rfl rfl rfl).trans ?_
  refine bind_cong (fun q6 => ?_)
  refine (R_blk PT GR (k := 237) (code := cd237) rfl [25, 86, 116] 400 _).trans ?_
  exact R_ret PT GR rfl
set_option maxRecDepth 20000 in
theorem R_wears_eq (a1 : Int32) (S : pS) : R_wears a1 S = if inb ((20 : Int32) + a1) 76 = true then ((R_dustOf a1 S).bind (fun q1 => (R_lesser (99 : Int32) ((rA S 1 ((20 : Int32) + a1)) + q1.1) q1.2).bind (fun q2 => if inb ((20 : Int32) + a1) 76 = true then (if inb ((20 : Int32) + a1) 76 = true then (if (rA (wA q2.2 1 ((20 : Int32) + a1) q2.1) 1 ((20 : Int32) + a1)) < (99 : Int32) then (some (0, (wA q2.2 1 ((20 : Int32) + a1) q2.1))) else (if inb ((48 : Int32) + a1) 76 = true then ((R_notes (8 : Int32) a1 (rA S 1 ((20 : Int32) + a1)) (wA (wA q2.2 1 ((20 : Int32) + a1) q2.1) 1 ((48 : Int32) + a1) (1 : Int32))).bind (fun q3 => some (0, q3.2))) else (none))) else (none)) else (none)))) else (none) := by
  show Res PT GR (rkT 238) 238 (cd238, [.ref 0, .int a1, .null], [], S) = _
  refine (R_blk PT GR (k := 238) (code := cd238) rfl [] 400 _).trans ?_
  refine br_cong ?_ ?_
  · refine (R_cx PT GR hRk PT_223 rfl rfl rfl rfl rfl).trans ?_
    refine bind_cong (fun q1 => ?_)
    refine (R_blk PT GR (k := 238) (code := cd238) rfl [] 400 _).trans ?_
    refine (R_cx PT GR hRk PT_164 rfl rfl rfl rfl rfl).trans ?_
    refine bind_cong (fun q2 => ?_)
    refine (R_blk PT GR (k := 238) (code := cd238) rfl [] 400 _).trans ?_
    refine br_cong ?_ ?_
    · refine br_cong ?_ ?_
      · refine br_cong ?_ ?_
        · exact R_retV PT GR rfl
        · refine br_cong ?_ ?_
          · refine (R_cx PT GR hRk PT_225 rfl rfl rfl rfl rfl).trans ?_
            refine bind_cong (fun q3 => ?_)
            refine (R_blk PT GR (k := 238) (code := cd238) rfl [] 400 _).trans ?_
            exact R_retV PT GR rfl
          · rfl
      · rfl
    · rfl
  · rfl
set_option maxRecDepth 20000 in
theorem R_ageOf_eq (a1 : Int32) (S : pS) : R_ageOf a1 S = if inb ((6 : Int32) + a1) 76 = true then ((R_greater (0 : Int32) ((rA S 1 (0 : Int32)) - (rA S 1 ((6 : Int32) + a1))) S).bind (fun q1 => some (q1.1, q1.2))) else (none) := by
  show Res PT GR (rkT 221) 221 (cd221, [.ref 0, .int a1], [], S) = _
  refine (R_blk PT GR (k := 221) (code := cd221) rfl [] 400 _).trans ?_
  refine brT (by decide) ?_
  refine br_cong ?_ ?_
  · refine (R_cx PT GR hRk PT_163 rfl rfl rfl rfl rfl).trans ?_
    refine bind_cong (fun q1 => ?_)
    refine (R_blk PT GR (k := 221) (code := cd221) rfl [] 400 _).trans ?_
    exact R_retI PT GR rfl rfl
  · rfl
set_option maxRecDepth 20000 in
theorem R_lawTells_eq (a1 : Int32) (a2 : Int32) (a3 : Int32) (a4 : Int32) (S : pS) : R_lawTells a1 a2 a3 a4 S = if inb a1 14 = true then (if inb a1 14 = true then (if inb a1 14 = true then (if inb ((6 : Int32) + a1) 76 = true then (if inb ((62 : Int32) + a1) 76 = true then (if inb ((20 : Int32) + a1) 76 = true then (if inb ((34 : Int32) + a1) 76 = true then ((R_ageOf a1 (wA (wA (wA (wA (wA (wA (wA S 22 (0 : Int32) (rA S 4 a1)) 22 (1 : Int32) (rA S 5 a1)) 22 (2 : Int32) (rA S 6 a1)) 22 (3 : Int32) (rA S 1 ((6 : Int32) + a1))) 22 (4 : Int32) (rA S 1 ((62 : Int32) + a1))) 22 (5 : Int32) (rA S 1 ((20 : Int32) + a1))) 22 (6 : Int32) (rA S 1 ((34 : Int32) + a1)))).bind (fun q1 => (R_lineOf a2 (wA (wA q1.2 22 (7 : Int32) q1.1) 22 (8 : Int32) (rA q1.2 1 (0 : Int32)))).bind (fun q2 => if q2.1 = (-1 : Int32) then ((R_held a3 (0 : Int32) a4 q2.2).bind (fun q3 => some (q3.1, q3.2))) else (if inb q2.1 48 = true then (if inb q2.1 48 = true then ((R_runs (0 : Int32) (rA q2.2 12 q2.1) (rA q2.2 13 q2.1) q2.2).bind (fun q4 => (R_held q4.1 (0 : Int32) a4 q4.2).bind (fun q5 => some (q5.1, q5.2)))) else (none)) else (none))))) else (none)) else (none)) else (none)) else (none)) else (none)) else (none)) else (none) := by
  show Res PT GR (rkT 220) 220 (cd220, [.ref 0, .int a1, .int a2, .int a3, .int a4, .null], [], S) = _
  refine (R_blk PT GR (k := 220) (code := cd220) rfl [] 400 _).trans ?_
  refine br_cong ?_ ?_
  · refine brT (by decide) ?_
    refine br_cong ?_ ?_
    · refine brT (by decide) ?_
      refine br_cong ?_ ?_
      · refine brT (by decide) ?_
        refine br_cong ?_ ?_
        · refine brT (by decide) ?_
          refine br_cong ?_ ?_
          · refine brT (by decide) ?_
            refine br_cong ?_ ?_
            · refine brT (by decide) ?_
              refine br_cong ?_ ?_
              · refine brT (by decide) ?_
                refine (R_cx PT GR hRk PT_221 rfl rfl rfl rfl rfl).trans ?_
                refine bind_cong (fun q1 => ?_)
                refine (R_blk PT GR (k := 220) (code := cd220) rfl [] 400 _).trans ?_
                refine brT (by decide) ?_
                refine brT (by decide) ?_
                refine brT (by decide) ?_
                refine (R_cx PT GR hRk PT_219 rfl rfl rfl rfl rfl).trans ?_
                refine bind_cong (fun q2 => ?_)
                refine (R_blk PT GR (k := 220) (code := cd220) rfl [] 400 _).trans ?_
                refine br_cong ?_ ?_
                · refine (R_cx PT GR hRk PT_162 rfl rfl rfl rfl rfl).trans ?_
                  refine bind_cong (fun q3 => ?_)
                  refine (R_blk PT GR (k := 220) (code := cd220) rfl [] 400 _).trans ?_
                  exact R_retI PT GR rfl rfl
                · refine br_cong ?_ ?_
                  · refine br_cong ?_ ?_
                    · refine (R_cx PT GR hRk PT_218 rfl rfl rfl rfl rfl).trans ?_
                      refine bind_cong (fun q4 => ?_)
                      refine (R_blk PT GR (k := 220) (code := cd220) rfl [] 400 _).trans ?_
                      refine (R_cx PT GR hRk PT_162 rfl rfl rfl rfl rfl).trans ?_
                      refine bind_cong (fun q5 => ?_)
                      refine (R_blk PT GR (k := 220) (code := cd220) rfl [] 400 _).trans ?_
                      exact R_retI PT GR rfl rfl
                    · rfl
                  · rfl
              · rfl
            · rfl
          · rfl
        · rfl
      · rfl
    · rfl
  · rfl
set_option maxRecDepth 20000 in
theorem R_besideOf_eq (a1 : Int32) (S : pS) : R_besideOf a1 S = (R_introducer a1 S).bind (fun q1 => if q1.1 = (-1 : Int32) then (R_besideOf_c23 a1 (0 : Int32) (0 : Int32) q1.2) else ((R_introducer a1 q1.2).bind (fun q2 => R_besideOf_c23 a1 ((1 : Int32) <<< (q2.1 &&& 31)) (0 : Int32) q2.2))) := by
  show Res PT GR (rkT 249) 249 (cd249, [.ref 0, .int a1, .null, .null], [], S) = _
  refine (R_blk PT GR (k := 249) (code := cd249) rfl [23] 400 _).trans ?_
  refine (R_cx PT GR hRk PT_177 rfl rfl rfl rfl rfl).trans ?_
  refine bind_cong (fun q1 => ?_)
  refine (R_blk PT GR (k := 249) (code := cd249) rfl [23] 400 _).trans ?_
  refine br_cong ?_ ?_
  · rfl
  · refine (R_cx PT GR hRk PT_177 rfl rfl rfl rfl rfl).trans ?_
    refine bind_cong (fun q2 => ?_)
    exact (R_blk PT GR (k := 249) (code := cd249) rfl [23] 400 _).trans rfl
set_option maxRecDepth 20000 in
theorem R_besideOf_c23_eq (l1 : Int32) (l2 : Int32) (l3 : Int32) (S : pS) : R_besideOf_c23 l1 l2 l3 S = if l3 < (12 : Int32) then ((R_introducer l3 S).bind (fun q3 => if q3.1 = l1 then (R_besideOf_c23 l1 (l2 ||| ((1 : Int32) <<< (l3 &&& 31))) (l3 + (1 : Int32)) q3.2) else (R_besideOf_c23 l1 l2 (l3 + (1 : Int32)) q3.2))) else (some (l2, S)) := by
  show Res PT GR (rkT 249) 249 (pCut cd249 23, [.ref 0, .int l1, .int l2, .int l3], [], S) = _
  refine (R_reg PT GR (k := 249) (code := cd249) rfl [23] 400).trans ?_
  refine br_cong ?_ ?_
  · refine (R_cx PT GR hRk PT_177 rfl rfl rfl rfl rfl).trans ?_
    refine bind_cong (fun q3 => ?_)
    refine (R_blk PT GR (k := 249) (code := cd249) rfl [23] 400 _).trans ?_
    refine br_cong ?_ ?_
    · rfl
    · rfl
  · exact R_retI PT GR rfl rfl
set_option maxRecDepth 20000 in
theorem R_answersIn_eq (a1 : Int32) (a2 : Int32) (S : pS) : R_answersIn a1 a2 S = R_answersIn_c5 a1 a2 (0 : Int32) (0 : Int32) S := by
  show Res PT GR (rkT 262) 262 (cd262, [.ref 0, .int a1, .int a2, .null, .null], [], S) = _
  exact (R_blk PT GR (k := 262) (code := cd262) rfl [5] 400 _).trans rfl
set_option maxRecDepth 20000 in
theorem R_answersIn_c5_eq (l1 : Int32) (l2 : Int32) (l3 : Int32) (l4 : Int32) (S : pS) : R_answersIn_c5 l1 l2 l3 l4 S = if l4 < (rF S 0 6) then ((R_has l1 l4 S).bind (fun q1 => if q1.1 = 0 then (R_answersIn_c5 l1 l2 l3 (l4 + (1 : Int32)) q1.2) else (if inb l2 10 = true then ((R_factOf l4 (rA q1.2 29 l2) q1.2).bind (fun q2 => if inb l2 10 = true then (if q2.1 = (rA q2.2 30 l2) then (R_answersIn_c5 l1 l2 (l3 + (1 : Int32)) (l4 + (1 : Int32)) q2.2) else (R_answersIn_c5 l1 l2 l3 (l4 + (1 : Int32)) q2.2)) else (none))) else (none)))) else (some (l3, S)) := by
  show Res PT GR (rkT 262) 262 (pCut cd262 5, [.ref 0, .int l1, .int l2, .int l3, .int l4], [], S) = _
  refine (R_reg PT GR (k := 262) (code := cd262) rfl [5] 400).trans ?_
  refine br_cong ?_ ?_
  · refine (R_cx PT GR hRk PT_166 rfl rfl rfl rfl rfl).trans ?_
    refine bind_cong (fun q1 => ?_)
    refine (R_blk PT GR (k := 262) (code := cd262) rfl [5] 400 _).trans ?_
    refine br_cong ?_ ?_
    · rfl
    · refine br_cong ?_ ?_
      · refine (R_cx PT GR hRk PT_261 rfl rfl rfl rfl rfl).trans ?_
        refine bind_cong (fun q2 => ?_)
        refine (R_blk PT GR (k := 262) (code := cd262) rfl [5] 400 _).trans ?_
        refine br_cong ?_ ?_
        · refine br_cong ?_ ?_
          · rfl
          · rfl
        · rfl
      · rfl
  · exact R_retI PT GR rfl rfl
set_option maxRecDepth 20000 in
theorem R_areAlike_eq (a1 : Int32) (a2 : Int32) (a3 : Int32) (S : pS) : R_areAlike a1 a2 a3 S = R_areAlike_c3 a1 a2 a3 (0 : Int32) S := by
  show Res PT GR (rkT 267) 267 (cd267, [.ref 0, .int a1, .int a2, .int a3, .null], [], S) = _
  exact (R_blk PT GR (k := 267) (code := cd267) rfl [3] 400 _).trans rfl
set_option maxRecDepth 20000 in
theorem R_areAlike_c3_eq (l1 : Int32) (l2 : Int32) (l3 : Int32) (l4 : Int32) (S : pS) : R_areAlike_c3 l1 l2 l3 l4 S = if l4 < (5 : Int32) then ((R_has l3 l4 S).bind (fun q1 => if q1.1 = 0 then (R_areAlike_c3 l1 l2 l3 (l4 + (1 : Int32)) q1.2) else ((R_factOf l1 l4 q1.2).bind (fun q2 => (R_factOf l2 l4 q2.2).bind (fun q3 => if q2.1 = q3.1 then (R_areAlike_c3 l1 l2 l3 (l4 + (1 : Int32)) q3.2) else (some ((0 : Int32), q3.2))))))) else (some ((1 : Int32), S)) := by
  show Res PT GR (rkT 267) 267 (pCut cd267 3, [.ref 0, .int l1, .int l2, .int l3, .int l4], [], S) = _
  refine (R_reg PT GR (k := 267) (code := cd267) rfl [3] 400).trans ?_
  refine br_cong ?_ ?_
  · refine (R_cx PT GR hRk PT_166 rfl rfl rfl rfl rfl).trans ?_
    refine bind_cong (fun q1 => ?_)
    refine (R_blk PT GR (k := 267) (code := cd267) rfl [3] 400 _).trans ?_
    refine br_cong ?_ ?_
    · rfl
    · refine (R_cx PT GR hRk PT_261 rfl rfl rfl rfl rfl).trans ?_
      refine bind_cong (fun q2 => ?_)
      refine (R_blk PT GR (k := 267) (code := cd267) rfl [3] 400 _).trans ?_
      refine (R_cx PT GR hRk PT_261 rfl rfl rfl rfl rfl).trans ?_
      refine bind_cong (fun q3 => ?_)
      refine (R_blk PT GR (k := 267) (code := cd267) rfl [3] 400 _).trans ?_
      refine br_cong ?_ ?_
      · rfl
      · exact R_retI PT GR rfl rfl
  · exact R_retI PT GR rfl rfl
set_option maxRecDepth 20000 in
theorem R_factOf_eq (a1 : Int32) (a2 : Int32) (S : pS) : R_factOf a1 a2 S = if a2 = 0 then (if inb a1 14 = true then (some ((rA S 4 a1), S)) else (none)) else (if a2 = (1 : Int32) then (if inb a1 14 = true then (some ((rA S 5 a1), S)) else (none)) else (if a2 = (2 : Int32) then (if inb a1 14 = true then (some ((rA S 6 a1), S)) else (none)) else (if a2 = (3 : Int32) then (if inb ((6 : Int32) + a1) 76 = true then (some ((rA S 1 ((6 : Int32) + a1)), S)) else (none)) else (if inb ((62 : Int32) + a1) 76 = true then (some ((rA S 1 ((62 : Int32) + a1)), S)) else (none))))) := by
  show Res PT GR (rkT 261) 261 (cd261, [.ref 0, .int a1, .int a2], [], S) = _
  refine (R_blk PT GR (k := 261) (code := cd261) rfl [] 400 _).trans ?_
  refine br_cong ?_ ?_
  · refine br_cong ?_ ?_
    · exact R_retI PT GR rfl rfl
    · rfl
  · refine br_cong ?_ ?_
    · refine br_cong ?_ ?_
      · exact R_retI PT GR rfl rfl
      · rfl
    · refine br_cong ?_ ?_
      · refine br_cong ?_ ?_
        · exact R_retI PT GR rfl rfl
        · rfl
      · refine br_cong ?_ ?_
        · refine br_cong ?_ ?_
          · exact R_retI PT GR rfl rfl
          · rfl
        · refine br_cong ?_ ?_
          · exact R_retI PT GR rfl rfl
          · rfl
set_option maxRecDepth 20000 in
theorem R_hasSuch_eq (a1 : Int32) (a2 : Int32) (a3 : Int32) (S : pS) : R_hasSuch a1 a2 a3 S = R_hasSuch_c3 a1 a2 a3 (0 : Int32) S := by
  show Res PT GR (rkT 275) 275 (cd275, [.ref 0, .int a1, .int a2, .int a3, .null], [], S) = _
  exact (R_blk PT GR (k := 275) (code := cd275) rfl [3] 400 _).trans rfl
set_option maxRecDepth 20000 in
theorem R_hasSuch_c3_eq (l1 : Int32) (l2 : Int32) (l3 : Int32) (l4 : Int32) (S : pS) : R_hasSuch_c3 l1 l2 l3 l4 S = if l4 < (rF S 0 6) then ((R_isKept l4 S).bind (fun q1 => if q1.1 = 0 then (R_hasSuch_c3 l1 l2 l3 (l4 + (1 : Int32)) q1.2) else (if inb l4 14 = true then (if (rA q1.2 4 l4) = l1 then (if l2 = (-1 : Int32) then (some ((1 : Int32), q1.2)) else ((R_factOf l4 l2 q1.2).bind (fun q2 => if q2.1 = l3 then (some ((1 : Int32), q2.2)) else (R_hasSuch_c3 l1 l2 l3 (l4 + (1 : Int32)) q2.2)))) else (R_hasSuch_c3 l1 l2 l3 (l4 + (1 : Int32)) q1.2)) else (none)))) else (some ((0 : Int32), S)) := by
  show Res PT GR (rkT 275) 275 (pCut cd275 3, [.ref 0, .int l1, .int l2, .int l3, .int l4], [], S) = _
  refine (R_reg PT GR (k := 275) (code := cd275) rfl [3] 400).trans ?_
  refine br_cong ?_ ?_
  · refine (R_cx PT GR hRk PT_175 rfl rfl rfl rfl rfl).trans ?_
    refine bind_cong (fun q1 => ?_)
    refine (R_blk PT GR (k := 275) (code := cd275) rfl [3] 400 _).trans ?_
    refine br_cong ?_ ?_
    · rfl
    · refine br_cong ?_ ?_
      · refine br_cong ?_ ?_
        · refine br_cong ?_ ?_
          · exact R_retI PT GR rfl rfl
          · refine (R_cx PT GR hRk PT_261 rfl rfl rfl rfl rfl).trans ?_
            refine bind_cong (fun q2 => ?_)
            refine (R_blk PT GR (k := 275) (code := cd275) rfl [3] 400 _).trans ?_
            refine br_cong ?_ ?_
            · exact R_retI PT GR rfl rfl
            · rfl
        · rfl
      · rfl
  · exact R_retI PT GR rfl rfl
set_option maxRecDepth 20000 in
theorem R_isNoted_eq (a1 : Int32) (a2 : Int32) (S : pS) : R_isNoted a1 a2 S = if inb a2 8 = true then (if (rA S 31 a2) = (3 : Int32) then (if inb a2 8 = true then ((R_ledBy (rA S 32 a2) S).bind (fun q1 => (R_has q1.1 a1 q1.2).bind (fun q2 => R_isNoted_c59 a2 q2.1 q2.2))) else (none)) else (if (rA S 31 a2) = 0 then (R_isNoted_c50 a2 (2 : Int32) a1 S) else (if (rA S 31 a2) = (1 : Int32) then (R_isNoted_c50 a2 (1 : Int32) a1 S) else (R_isNoted_c50 a2 (4 : Int32) a1 S)))) else (none) := by
  show Res PT GR (rkT 276) 276 (cd276, [.ref 0, .int a1, .int a2, .null, .null], [], S) = _
  refine (R_blk PT GR (k := 276) (code := cd276) rfl [50, 59] 400 _).trans ?_
  refine br_cong ?_ ?_
  · refine br_cong ?_ ?_
    · refine br_cong ?_ ?_
      · refine (R_cx PT GR hRk PT_254 rfl rfl rfl rfl rfl).trans ?_
        refine bind_cong (fun q1 => ?_)
        refine (R_blk PT GR (k := 276) (code := cd276) rfl [50, 59] 400 _).trans ?_
        refine (R_cx PT GR hRk PT_166 rfl rfl rfl rfl rfl).trans ?_
        refine bind_cong (fun q2 => ?_)
        exact (R_blk PT GR (k := 276) (code := cd276) rfl [50, 59] 400 _).trans rfl
      · rfl
    · refine br_cong ?_ ?_
      · rfl
      · refine br_cong ?_ ?_
        · rfl
        · rfl
  · rfl
set_option maxRecDepth 20000 in
theorem R_isNoted_c59_eq (l2 : Int32) (s0 : Int32) (S : pS) : R_isNoted_c59 l2 s0 S = if inb l2 8 = true then (if (rA S 33 l2) = (1 : Int32) then (if s0 = (1 : Int32) then (some ((1 : Int32), S)) else (some ((0 : Int32), S))) else (if s0 = (0 : Int32) then (some ((1 : Int32), S)) else (some ((0 : Int32), S)))) else (none) := by
  show Res PT GR (rkT 276) 276 (pCut cd276 59, [.ref 0, .null, .int l2, .null, .null], [.int s0], S) = _
  refine (R_reg PT GR (k := 276) (code := cd276) rfl [50, 59] 400).trans ?_
  refine br_cong ?_ ?_
  · refine br_cong ?_ ?_
    · refine br_cong ?_ ?_
      · exact R_retI PT GR rfl rfl
      · exact R_retI PT GR rfl rfl
    · refine br_cong ?_ ?_
      · exact R_retI PT GR rfl rfl
      · exact R_retI PT GR rfl rfl
  · rfl
set_option maxRecDepth 20000 in
theorem R_isNoted_c50_eq (l2 : Int32) (s0 : Int32) (s1 : Int32) (S : pS) : R_isNoted_c50 l2 s0 s1 S = if inb l2 8 = true then ((R_hasSuch s1 s0 (rA S 32 l2) S).bind (fun q3 => R_isNoted_c59 l2 q3.1 q3.2)) else (none) := by
  show Res PT GR (rkT 276) 276 (pCut cd276 50, [.ref 0, .null, .int l2, .null, .null], [.int s0, .int s1, .ref 0], S) = _
  refine (R_reg PT GR (k := 276) (code := cd276) rfl [50, 59] 400).trans ?_
  refine br_cong ?_ ?_
  · refine (R_cx PT GR hRk PT_275 rfl rfl rfl rfl rfl).trans ?_
    refine bind_cong (fun q3 => ?_)
    exact (R_blk PT GR (k := 276) (code := cd276) rfl [50, 59] 400 _).trans rfl
  · rfl
set_option maxRecDepth 20000 in
theorem R_raw_eq (a1 : Int32) (S : pS) : R_raw a1 S = if a1 < (rF S 0 12) then (if inb a1 400 = true then (some ((rA S 8 a1), S)) else (none)) else (some ((-1 : Int32), S)) := by
  show Res PT GR (rkT 183) 183 (cd183, [.ref 0, .int a1], [], S) = _
  refine (R_blk PT GR (k := 183) (code := cd183) rfl [] 400 _).trans ?_
  refine br_cong ?_ ?_
  · refine br_cong ?_ ?_
    · exact R_retI PT GR rfl rfl
    · rfl
  · exact R_retI PT GR rfl rfl
set_option maxRecDepth 20000 in
theorem R_isLetter_eq (a1 : Int32) (S : pS) : R_isLetter a1 S = (R_isIn a1 (97 : Int32) (122 : Int32) S).bind (fun q1 => if q1.1 = 0 then ((R_isIn a1 (65 : Int32) (90 : Int32) q1.2).bind (fun q2 => if q2.1 = 0 then (some ((0 : Int32), q2.2)) else (some ((1 : Int32), q2.2)))) else (some ((1 : Int32), q1.2))) := by
  show Res PT GR (rkT 184) 184 (cd184, [.ref 0, .int a1], [], S) = _
  refine (R_blk PT GR (k := 184) (code := cd184) rfl [] 400 _).trans ?_
  refine (R_cx PT GR hRk PT_161 rfl rfl rfl rfl rfl).trans ?_
  refine bind_cong (fun q1 => ?_)
  refine (R_blk PT GR (k := 184) (code := cd184) rfl [] 400 _).trans ?_
  refine br_cong ?_ ?_
  · refine (R_cx PT GR hRk PT_161 rfl rfl rfl rfl rfl).trans ?_
    refine bind_cong (fun q2 => ?_)
    refine (R_blk PT GR (k := 184) (code := cd184) rfl [] 400 _).trans ?_
    refine br_cong ?_ ?_
    · exact R_retI PT GR rfl rfl
    · exact R_retI PT GR rfl rfl
  · exact R_retI PT GR rfl rfl
set_option maxRecDepth 20000 in
theorem R_isDigit_eq (a1 : Int32) (S : pS) : R_isDigit a1 S = (R_isIn a1 (48 : Int32) (57 : Int32) S).bind (fun q1 => if pBool 1 q1.1 = true then some (q1.1, q1.2) else none) := by
  show Res PT GR (rkT 185) 185 (cd185, [.ref 0, .int a1], [], S) = _
  refine (R_blk PT GR (k := 185) (code := cd185) rfl [] 400 _).trans ?_
  refine (R_cx PT GR hRk PT_161 rfl rfl rfl rfl rfl).trans ?_
  refine bind_cong (fun q1 => ?_)
  refine (R_blk PT GR (k := 185) (code := cd185) rfl [] 400 _).trans ?_
  exact R_ret PT GR rfl
set_option maxRecDepth 20000 in
theorem R_isMarkSign_eq (a1 : Int32) (S : pS) : R_isMarkSign a1 S = if a1 = (59 : Int32) then (some ((1 : Int32), S)) else (if a1 = (43 : Int32) then (some ((1 : Int32), S)) else (if a1 = (45 : Int32) then (some ((1 : Int32), S)) else (if a1 = (42 : Int32) then (some ((1 : Int32), S)) else (if a1 = (47 : Int32) then (some ((1 : Int32), S)) else (if a1 = (40 : Int32) then (some ((1 : Int32), S)) else (if a1 = (41 : Int32) then (some ((1 : Int32), S)) else (if a1 = (60 : Int32) then (some ((1 : Int32), S)) else (if a1 = (61 : Int32) then (some ((1 : Int32), S)) else (if a1 = (62 : Int32) then (some ((1 : Int32), S)) else (some ((0 : Int32), S))))))))))) := by
  show Res PT GR (rkT 186) 186 (cd186, [.ref 0, .int a1], [], S) = _
  refine (R_blk PT GR (k := 186) (code := cd186) rfl [] 400 _).trans ?_
  refine br_cong ?_ ?_
  · exact R_retI PT GR rfl rfl
  · refine br_cong ?_ ?_
    · exact R_retI PT GR rfl rfl
    · refine br_cong ?_ ?_
      · exact R_retI PT GR rfl rfl
      · refine br_cong ?_ ?_
        · exact R_retI PT GR rfl rfl
        · refine br_cong ?_ ?_
          · exact R_retI PT GR rfl rfl
          · refine br_cong ?_ ?_
            · exact R_retI PT GR rfl rfl
            · refine br_cong ?_ ?_
              · exact R_retI PT GR rfl rfl
              · refine br_cong ?_ ?_
                · exact R_retI PT GR rfl rfl
                · refine br_cong ?_ ?_
                  · exact R_retI PT GR rfl rfl
                  · refine br_cong ?_ ?_
                    · exact R_retI PT GR rfl rfl
                    · exact R_retI PT GR rfl rfl
set_option maxRecDepth 20000 in
theorem R_wordAt_eq (a1 : Int32) (a2 : Int32) (S : pS) : R_wordAt a1 a2 S = R_wordAt_c5 a1 a2 (-1 : Int32) (0 : Int32) S := by
  show Res PT GR (rkT 187) 187 (cd187, [.ref 0, .int a1, .int a2, .null, .null, .null], [], S) = _
  exact (R_blk PT GR (k := 187) (code := cd187) rfl [5, 19, 60, 93] 400 _).trans rfl
set_option maxRecDepth 20000 in
theorem R_wordAt_c5_eq (l1 : Int32) (l2 : Int32) (l3 : Int32) (l4 : Int32) (S : pS) : R_wordAt_c5 l1 l2 l3 l4 S = if l4 < (114 : Int32) then (R_wordAt_c19 l1 l2 (l3 + (1 : Int32)) l4 (0 : Int32) S) else (some ((-1 : Int32), S)) := by
  show Res PT GR (rkT 187) 187 (pCut cd187 5, [.ref 0, .int l1, .int l2, .int l3, .int l4, .null], [], S) = _
  refine (R_reg PT GR (k := 187) (code := cd187) rfl [5, 19, 60, 93] 400).trans ?_
  refine br_cong ?_ ?_
  · rfl
  · exact R_retI PT GR rfl rfl
set_option maxRecDepth 20000 in
theorem R_wordAt_c19_eq (l1 : Int32) (l2 : Int32) (l3 : Int32) (l4 : Int32) (l5 : Int32) (S : pS) : R_wordAt_c19 l1 l2 l3 l4 l5 S = if (l1 + l5) < l2 then (if inb ((l4 + (1 : Int32)) + l5) 115 = true then (if inb (l1 + l5) 400 = true then (if (rA S 9 ((l4 + (1 : Int32)) + l5)) = (rA S 8 (l1 + l5)) then (R_wordAt_c19 l1 l2 l3 l4 (l5 + (1 : Int32)) S) else (R_wordAt_c60 l1 l2 l3 l4 l5 S)) else (none)) else (none)) else (R_wordAt_c60 l1 l2 l3 l4 l5 S) := by
  show Res PT GR (rkT 187) 187 (pCut cd187 19, [.ref 0, .int l1, .int l2, .int l3, .int l4, .int l5], [], S) = _
  refine (R_reg PT GR (k := 187) (code := cd187) rfl [5, 19, 60, 93] 400).trans ?_
  refine br_cong ?_ ?_
  · refine br_cong ?_ ?_
    · refine br_cong ?_ ?_
      · refine br_cong ?_ ?_
        · rfl
        · rfl
      · rfl
    · rfl
  · rfl
set_option maxRecDepth 20000 in
theorem R_wordAt_c60_eq (l1 : Int32) (l2 : Int32) (l3 : Int32) (l4 : Int32) (l5 : Int32) (S : pS) : R_wordAt_c60 l1 l2 l3 l4 l5 S = if (l1 + l5) = l2 then (if inb ((l4 + (1 : Int32)) + l5) 115 = true then (if (rA S 9 ((l4 + (1 : Int32)) + l5)) = (32 : Int32) then (some (l3, S)) else (R_wordAt_c93 l1 l2 l3 (l4 + (1 : Int32)) S)) else (none)) else (R_wordAt_c93 l1 l2 l3 (l4 + (1 : Int32)) S) := by
  show Res PT GR (rkT 187) 187 (pCut cd187 60, [.ref 0, .int l1, .int l2, .int l3, .int l4, .int l5], [], S) = _
  refine (R_reg PT GR (k := 187) (code := cd187) rfl [5, 19, 60, 93] 400).trans ?_
  refine br_cong ?_ ?_
  · refine br_cong ?_ ?_
    · refine br_cong ?_ ?_
      · exact R_retI PT GR rfl rfl
      · rfl
    · rfl
  · rfl
set_option maxRecDepth 20000 in
theorem R_wordAt_c93_eq (l1 : Int32) (l2 : Int32) (l3 : Int32) (l4 : Int32) (S : pS) : R_wordAt_c93 l1 l2 l3 l4 S = if inb l4 115 = true then (if (rA S 9 l4) = (32 : Int32) then (R_wordAt_c5 l1 l2 l3 l4 S) else (R_wordAt_c93 l1 l2 l3 (l4 + (1 : Int32)) S)) else (none) := by
  show Res PT GR (rkT 187) 187 (pCut cd187 93, [.ref 0, .int l1, .int l2, .int l3, .int l4, .null], [], S) = _
  refine (R_reg PT GR (k := 187) (code := cd187) rfl [5, 19, 60, 93] 400).trans ?_
  refine br_cong ?_ ?_
  · refine br_cong ?_ ?_
    · rfl
    · rfl
  · rfl
set_option maxRecDepth 20000 in
theorem R_isWord_eq (a1 : Int32) (S : pS) : R_isWord a1 S = if (rF S 0 15) = (2 : Int32) then (if (rF S 0 16) = a1 then (some ((1 : Int32), S)) else (some ((0 : Int32), S))) else (some ((0 : Int32), S)) := by
  show Res PT GR (rkT 190) 190 (cd190, [.ref 0, .int a1], [], S) = _
  refine (R_blk PT GR (k := 190) (code := cd190) rfl [] 400 _).trans ?_
  refine br_cong ?_ ?_
  · refine br_cong ?_ ?_
    · exact R_retI PT GR rfl rfl
    · exact R_retI PT GR rfl rfl
  · exact R_retI PT GR rfl rfl
set_option maxRecDepth 20000 in
theorem R_errs_eq (a1 : Int32) (S : pS) : R_errs a1 S = some ((-1 : Int32), (wF (wF S 0 30 a1) 0 31 (rF S 0 14))) := by
  show Res PT GR (rkT 189) 189 (cd189, [.ref 0, .int a1], [], S) = _
  refine (R_blk PT GR (k := 189) (code := cd189) rfl [] 400 _).trans ?_
  refine brT (Or.inl rfl) ?_
  refine brT (Or.inl rfl) ?_
  exact R_retI PT GR rfl rfl
set_option maxRecDepth 20000 in
theorem R_readMetLine_eq (S : pS) : R_readMetLine S = (R_readTold (7 : Int32) (0 : Int32) (11 : Int32) S).bind (fun q1 => if q1.1 = (-1 : Int32) then (some ((-1 : Int32), q1.2)) else ((R_isWord (16 : Int32) q1.2).bind (fun q2 => if q2.1 = 0 then ((R_errs (1 : Int32) q2.2).bind (fun q3 => some (q3.1, q3.2))) else ((R_reads q2.2).bind (fun q4 => if (rF q4.2 0 15) = (3 : Int32) then (if (rF q4.2 0 16) = q1.1 then ((R_errs (2 : Int32) q4.2).bind (fun q5 => some (q5.1, q5.2))) else (R_readMetLine_c58 q1.1 q4.2)) else (R_readMetLine_c58 q1.1 q4.2)))))) := by
  show Res PT GR (rkT 207) 207 (cd207, [.ref 0, .null, .null], [], S) = _
  refine (R_blk PT GR (k := 207) (code := cd207) rfl [58] 400 _).trans ?_
  refine (R_cx PT GR hRk PT_206 rfl rfl rfl rfl rfl).trans ?_
  refine bind_cong (fun q1 => ?_)
  refine (R_blk PT GR (k := 207) (code := cd207) rfl [58] 400 _).trans ?_
  refine br_cong ?_ ?_
  · exact R_retI PT GR rfl rfl
  · refine (R_cx PT GR hRk PT_190 rfl rfl rfl rfl rfl).trans ?_
    refine bind_cong (fun q2 => ?_)
    refine (R_blk PT GR (k := 207) (code := cd207) rfl [58] 400 _).trans ?_
    refine br_cong ?_ ?_
    · refine (R_cx PT GR hRk PT_189 rfl rfl rfl rfl rfl).trans ?_
      refine bind_cong (fun q3 => ?_)
      refine (R_blk PT GR (k := 207) (code := cd207) rfl [58] 400 _).trans ?_
      exact R_retI PT GR rfl rfl
    · refine (R_cx PT GR hRk PT_188 rfl rfl rfl rfl rfl).trans ?_
      refine bind_cong (fun q4 => ?_)
      refine (R_blk PT GR (k := 207) (code := cd207) rfl [58] 400 _).trans ?_
      refine br_cong ?_ ?_
      · refine br_cong ?_ ?_
        · refine (R_cx PT GR hRk PT_189 rfl rfl rfl rfl rfl).trans ?_
          refine bind_cong (fun q5 => ?_)
          refine (R_blk PT GR (k := 207) (code := cd207) rfl [58] 400 _).trans ?_
          exact R_retI PT GR rfl rfl
        · rfl
      · rfl
set_option maxRecDepth 20000 in
theorem R_readMetLine_c58_eq (l1 : Int32) (S : pS) : R_readMetLine_c58 l1 S = (R_readNumber (0 : Int32) (11 : Int32) S).bind (fun q6 => if q6.1 = (-1 : Int32) then (some ((-1 : Int32), q6.2)) else (if inb ((12 : Int32) + l1) 24 = true then (if (rA q6.2 18 ((12 : Int32) + l1)) = 0 then (if inb ((12 : Int32) + l1) 24 = true then ((R_readMark (59 : Int32) (wA q6.2 18 ((12 : Int32) + l1) (q6.1 + (1 : Int32)))).bind (fun q7 => some (q7.1, q7.2))) else (none)) else ((R_readMark (59 : Int32) q6.2).bind (fun q8 => some (q8.1, q8.2)))) else (none))) := by
  show Res PT GR (rkT 207) 207 (pCut cd207 58, [.ref 0, .int l1, .null], [], S) = _
  refine (R_reg PT GR (k := 207) (code := cd207) rfl [58] 400).trans ?_
  refine (R_cx PT GR hRk PT_204 rfl rfl rfl rfl rfl).trans ?_
  refine bind_cong (fun q6 => ?_)
  refine (R_blk PT GR (k := 207) (code := cd207) rfl [58] 400 _).trans ?_
  refine br_cong ?_ ?_
  · exact R_retI PT GR rfl rfl
  · refine br_cong ?_ ?_
    · refine br_cong ?_ ?_
      · refine br_cong ?_ ?_
        · refine (R_cx PT GR hRk PT_205 rfl rfl rfl rfl rfl).trans ?_
          refine bind_cong (fun q7 => ?_)
          refine (R_blk PT GR (k := 207) (code := cd207) rfl [58] 400 _).trans ?_
          exact R_retI PT GR rfl rfl
        · rfl
      · refine (R_cx PT GR hRk PT_205 rfl rfl rfl rfl rfl).trans ?_
        refine bind_cong (fun q8 => ?_)
        refine (R_blk PT GR (k := 207) (code := cd207) rfl [58] 400 _).trans ?_
        exact R_retI PT GR rfl rfl
    · rfl
set_option maxRecDepth 20000 in
theorem R_readCalledLine_eq (S : pS) : R_readCalledLine S = (R_readTold (8 : Int32) (0 : Int32) (7 : Int32) S).bind (fun q1 => if q1.1 = (-1 : Int32) then (some ((-1 : Int32), q1.2)) else ((R_readTold (17 : Int32) (0 : Int32) (99 : Int32) q1.2).bind (fun q2 => if q2.1 = (-1 : Int32) then (some ((-1 : Int32), q2.2)) else ((R_readTold (18 : Int32) q2.1 (99 : Int32) q2.2).bind (fun q3 => if q3.1 = (-1 : Int32) then (some ((-1 : Int32), q3.2)) else (if inb ((8 : Int32) + q1.1) 16 = true then (if inb ((8 : Int32) + q1.1) 16 = true then ((R_readMark (59 : Int32) (wA (wA q3.2 19 ((8 : Int32) + q1.1) q2.1) 20 ((8 : Int32) + q1.1) (q3.1 - (99 : Int32)))).bind (fun q4 => some (q4.1, q4.2))) else (none)) else (none))))))) := by
  show Res PT GR (rkT 209) 209 (cd209, [.ref 0, .null, .null, .null], [], S) = _
  refine (R_blk PT GR (k := 209) (code := cd209) rfl [] 400 _).trans ?_
  refine (R_cx PT GR hRk PT_206 rfl rfl rfl rfl rfl).trans ?_
  refine bind_cong (fun q1 => ?_)
  refine (R_blk PT GR (k := 209) (code := cd209) rfl [] 400 _).trans ?_
  refine br_cong ?_ ?_
  · exact R_retI PT GR rfl rfl
  · refine (R_cx PT GR hRk PT_206 rfl rfl rfl rfl rfl).trans ?_
    refine bind_cong (fun q2 => ?_)
    refine (R_blk PT GR (k := 209) (code := cd209) rfl [] 400 _).trans ?_
    refine br_cong ?_ ?_
    · exact R_retI PT GR rfl rfl
    · refine (R_cx PT GR hRk PT_206 rfl rfl rfl rfl rfl).trans ?_
      refine bind_cong (fun q3 => ?_)
      refine (R_blk PT GR (k := 209) (code := cd209) rfl [] 400 _).trans ?_
      refine br_cong ?_ ?_
      · exact R_retI PT GR rfl rfl
      · refine br_cong ?_ ?_
        · refine br_cong ?_ ?_
          · refine (R_cx PT GR hRk PT_205 rfl rfl rfl rfl rfl).trans ?_
            refine bind_cong (fun q4 => ?_)
            refine (R_blk PT GR (k := 209) (code := cd209) rfl [] 400 _).trans ?_
            exact R_retI PT GR rfl rfl
          · rfl
        · rfl
set_option maxRecDepth 20000 in
theorem R_readDeed_eq (a1 : Int32) (S : pS) : R_readDeed a1 S = (R_readTold (19 : Int32) (0 : Int32) (99 : Int32) S).bind (fun q1 => if inb a1 96 = true then (if inb a1 96 = true then (if (rA (wA q1.2 21 a1 q1.1) 21 a1) = (-1 : Int32) then (some ((-1 : Int32), (wA q1.2 21 a1 q1.1))) else (if (rF q1.2 0 15) = (2 : Int32) then (R_readDeed_c43 a1 (rF q1.2 0 16) (wA q1.2 21 a1 q1.1)) else (R_readDeed_c43 a1 (-1 : Int32) (wA q1.2 21 a1 q1.1)))) else (none)) else (none)) := by
  show Res PT GR (rkT 211) 211 (cd211, [.ref 0, .int a1, .null], [], S) = _
  refine (R_blk PT GR (k := 211) (code := cd211) rfl [43, 123] 400 _).trans ?_
  refine (R_cx PT GR hRk PT_206 rfl rfl rfl rfl rfl).trans ?_
  refine bind_cong (fun q1 => ?_)
  refine (R_blk PT GR (k := 211) (code := cd211) rfl [43, 123] 400 _).trans ?_
  refine br_cong ?_ ?_
  · refine br_cong ?_ ?_
    · refine br_cong ?_ ?_
      · exact R_retI PT GR rfl rfl
      · refine br_cong ?_ ?_
        · rfl
        · rfl
    · rfl
  · rfl
set_option maxRecDepth 20000 in
theorem R_readDeed_c43_eq (l1 : Int32) (s0 : Int32) (S : pS) : R_readDeed_c43 l1 s0 S = (R_isIn s0 (20 : Int32) (23 : Int32) S).bind (fun q2 => if q2.1 = 0 then ((R_errs (1 : Int32) q2.2).bind (fun q3 => some (q3.1, q3.2))) else ((R_reads q2.2).bind (fun q4 => if inb (l1 + (1 : Int32)) 96 = true then (if s0 = (20 : Int32) then ((R_readNumber (1 : Int32) (14 : Int32) (wA q4.2 21 (l1 + (1 : Int32)) (s0 - (20 : Int32)))).bind (fun q5 => R_readDeed_c123 l1 q5.1 (l1 + (2 : Int32)) q5.2)) else (if s0 = (21 : Int32) then ((R_readNumber (0 : Int32) (11 : Int32) (wA q4.2 21 (l1 + (1 : Int32)) (s0 - (20 : Int32)))).bind (fun q6 => R_readDeed_c123 l1 q6.1 (l1 + (2 : Int32)) q6.2)) else ((R_readNumber (0 : Int32) ((rF q4.2 0 6) - (1 : Int32)) (wA q4.2 21 (l1 + (1 : Int32)) (s0 - (20 : Int32)))).bind (fun q7 => R_readDeed_c123 l1 q7.1 (l1 + (2 : Int32)) q7.2)))) else (none)))) := by
  show Res PT GR (rkT 211) 211 (pCut cd211 43, [.ref 0, .int l1, .null], [.int s0], S) = _
  refine (R_reg PT GR (k := 211) (code := cd211) rfl [43, 123] 400).trans ?_
  refine (R_cx PT GR hRk PT_161 rfl rfl rfl rfl rfl).trans ?_
  refine bind_cong (fun q2 => ?_)
  refine (R_blk PT GR (k := 211) (code := cd211) rfl [43, 123] 400 _).trans ?_
  refine br_cong ?_ ?_
  · refine (R_cx PT GR hRk PT_189 rfl rfl rfl rfl rfl).trans ?_
    refine bind_cong (fun q3 => ?_)
    refine (R_blk PT GR (k := 211) (code := cd211) rfl [43, 123] 400 _).trans ?_
    exact R_retI PT GR rfl rfl
  · refine (R_cx PT GR hRk PT_188 rfl rfl rfl rfl rfl).trans ?_
    refine bind_cong (fun q4 => ?_)
    refine (R_blk PT GR (k := 211) (code := cd211) rfl [43, 123] 400 _).trans ?_
    refine br_cong ?_ ?_
    · refine br_cong ?_ ?_
      · refine (R_cx PT GR hRk PT_204 rfl rfl rfl rfl rfl).trans ?_
        refine bind_cong (fun q5 => ?_)
        exact (R_blk PT GR (k := 211) (code := cd211) rfl [43, 123] 400 _).trans rfl
      · refine br_cong ?_ ?_
        · refine (R_cx PT GR hRk PT_204 rfl rfl rfl rfl rfl).trans ?_
          refine bind_cong (fun q6 => ?_)
          exact (R_blk PT GR (k := 211) (code := cd211) rfl [43, 123] 400 _).trans rfl
        · refine (R_cx PT GR hRk PT_204 rfl rfl rfl rfl rfl).trans ?_
          refine bind_cong (fun q7 => ?_)
          exact (R_blk PT GR (k := 211) (code := cd211) rfl [43, 123] 400 _).trans rfl
    · rfl
set_option maxRecDepth 20000 in
theorem R_readDeed_c123_eq (l1 : Int32) (s0 : Int32) (s1 : Int32) (S : pS) : R_readDeed_c123 l1 s0 s1 S = if inb s1 96 = true then (if inb (l1 + (2 : Int32)) 96 = true then (if (rA (wA S 21 s1 s0) 21 (l1 + (2 : Int32))) = (-1 : Int32) then (some ((-1 : Int32), (wA S 21 s1 s0))) else ((R_readMark (59 : Int32) (wA S 21 s1 s0)).bind (fun q8 => some (q8.1, q8.2)))) else (none)) else (none) := by
  show Res PT GR (rkT 211) 211 (pCut cd211 123, [.ref 0, .int l1, .null], [.int s0, .int s1, .ref 21], S) = _
  refine (R_reg PT GR (k := 211) (code := cd211) rfl [43, 123] 400).trans ?_
  refine br_cong ?_ ?_
  · refine br_cong ?_ ?_
    · refine br_cong ?_ ?_
      · exact R_retI PT GR rfl rfl
      · refine (R_cx PT GR hRk PT_205 rfl rfl rfl rfl rfl).trans ?_
        refine bind_cong (fun q8 => ?_)
        refine (R_blk PT GR (k := 211) (code := cd211) rfl [43, 123] 400 _).trans ?_
        exact R_retI PT GR rfl rfl
    · rfl
  · rfl
set_option maxRecDepth 20000 in
theorem R_isLineWord_eq (S : pS) : R_isLineWord S = if (rF S 0 15) = (2 : Int32) then ((R_isIn (rF S 0 16) (0 : Int32) (2 : Int32) S).bind (fun q1 => if q1.1 = 0 then (some ((0 : Int32), q1.2)) else (some ((1 : Int32), q1.2)))) else (some ((0 : Int32), S)) := by
  show Res PT GR (rkT 201) 201 (cd201, [.ref 0], [], S) = _
  refine (R_blk PT GR (k := 201) (code := cd201) rfl [] 400 _).trans ?_
  refine br_cong ?_ ?_
  · refine (R_cx PT GR hRk PT_161 rfl rfl rfl rfl rfl).trans ?_
    refine bind_cong (fun q1 => ?_)
    refine (R_blk PT GR (k := 201) (code := cd201) rfl [] 400 _).trans ?_
    refine br_cong ?_ ?_
    · exact R_retI PT GR rfl rfl
    · exact R_retI PT GR rfl rfl
  · exact R_retI PT GR rfl rfl
set_option maxRecDepth 20000 in
theorem R_readSum_eq (S : pS) : R_readSum S = (R_readProduct S).bind (fun q1 => if q1.1 = (-1 : Int32) then (some ((-1 : Int32), q1.2)) else (R_readSum_c10 q1.2)) := by
  show Res PT GR (rkT 196) 196 (cd196, [.ref 0, .null], [], S) = _
  refine (R_blk PT GR (k := 196) (code := cd196) rfl [10, 28, 42] 400 _).trans ?_
  refine (R_cx PT GR hRk PT_195 rfl rfl rfl rfl rfl).trans ?_
  refine bind_cong (fun q1 => ?_)
  refine (R_blk PT GR (k := 196) (code := cd196) rfl [10, 28, 42] 400 _).trans ?_
  refine br_cong ?_ ?_
  · exact R_retI PT GR rfl rfl
  · rfl
set_option maxRecDepth 20000 in
theorem R_readSum_c10_eq (S : pS) : R_readSum_c10 S = (R_isSign (43 : Int32) S).bind (fun q2 => if q2.1 = 0 then ((R_isSign (45 : Int32) q2.2).bind (fun q3 => if q3.1 = 0 then (some ((0 : Int32), q3.2)) else (R_readSum_c28 q3.2))) else (R_readSum_c28 q2.2)) := by
  show Res PT GR (rkT 196) 196 (pCut cd196 10, [.ref 0, .null], [], S) = _
  refine (R_reg PT GR (k := 196) (code := cd196) rfl [10, 28, 42] 400).trans ?_
  refine (R_cx PT GR hRk PT_191 rfl rfl rfl rfl rfl).trans ?_
  refine bind_cong (fun q2 => ?_)
  refine (R_blk PT GR (k := 196) (code := cd196) rfl [10, 28, 42] 400 _).trans ?_
  refine br_cong ?_ ?_
  · refine (R_cx PT GR hRk PT_191 rfl rfl rfl rfl rfl).trans ?_
    refine bind_cong (fun q3 => ?_)
    refine (R_blk PT GR (k := 196) (code := cd196) rfl [10, 28, 42] 400 _).trans ?_
    refine br_cong ?_ ?_
    · exact R_retI PT GR rfl rfl
    · rfl
  · rfl
set_option maxRecDepth 20000 in
theorem R_readSum_c28_eq (S : pS) : R_readSum_c28 S = if (rF S 0 16) = (43 : Int32) then (R_readSum_c42 (2 : Int32) S) else (R_readSum_c42 (3 : Int32) S) := by
  show Res PT GR (rkT 196) 196 (pCut cd196 28, [.ref 0, .null], [], S) = _
  refine (R_reg PT GR (k := 196) (code := cd196) rfl [10, 28, 42] 400).trans ?_
  refine br_cong ?_ ?_
  · rfl
  · rfl
set_option maxRecDepth 20000 in
theorem R_readSum_c42_eq (s0 : Int32) (S : pS) : R_readSum_c42 s0 S = (R_reads S).bind (fun q4 => (R_readProduct q4.2).bind (fun q5 => if q5.1 = (-1 : Int32) then (some ((-1 : Int32), q5.2)) else ((R_emits s0 (0 : Int32) q5.2).bind (fun q6 => R_readSum_c10 q6.2)))) := by
  show Res PT GR (rkT 196) 196 (pCut cd196 42, [.ref 0, .null], [.int s0], S) = _
  refine (R_reg PT GR (k := 196) (code := cd196) rfl [10, 28, 42] 400).trans ?_
  refine (R_cx PT GR hRk PT_188 rfl rfl rfl rfl rfl).trans ?_
  refine bind_cong (fun q4 => ?_)
  refine (R_blk PT GR (k := 196) (code := cd196) rfl [10, 28, 42] 400 _).trans ?_
  refine (R_cx PT GR hRk PT_195 rfl rfl rfl rfl rfl).trans ?_
  refine bind_cong (fun q5 => ?_)
  refine (R_blk PT GR (k := 196) (code := cd196) rfl [10, 28, 42] 400 _).trans ?_
  refine br_cong ?_ ?_
  · exact R_retI PT GR rfl rfl
  · refine (R_cx PT GR hRk PT_192 rfl rfl rfl rfl rfl).trans ?_
    refine bind_cong (fun q6 => ?_)
    exact (R_blk PT GR (k := 196) (code := cd196) rfl [10, 28, 42] 400 _).trans rfl
set_option maxRecDepth 20000 in
theorem R_readAny_eq (S : pS) : R_readAny S = R_readAny_c9 (0 : Int32) (1 : Int32) (wF S 0 29 (0 : Int32)) := by
  show Res PT GR (rkT 200) 200 (cd200, [.ref 0, .null, .null, .null], [], S) = _
  refine (R_blk PT GR (k := 200) (code := cd200) rfl [9, 33, 66] 400 _).trans ?_
  refine brT (Or.inl rfl) ?_
  rfl
set_option maxRecDepth 20000 in
theorem R_readAny_c9_eq (l1 : Int32) (l2 : Int32) (S : pS) : R_readAny_c9 l1 l2 S = if l2 = 0 then ((R_isWord (5 : Int32) S).bind (fun q1 => if q1.1 = 0 then ((R_isWord (4 : Int32) q1.2).bind (fun q2 => if q2.1 = 0 then ((R_settles (10 : Int32) q2.2).bind (fun q3 => (R_settles (11 : Int32) q3.2).bind (fun q4 => if l1 = 0 then (some ((0 : Int32), q4.2)) else ((R_isSign (41 : Int32) q4.2).bind (fun q5 => if q5.1 = 0 then ((R_errs (1 : Int32) q5.2).bind (fun q6 => some (q6.1, q6.2))) else ((R_settles (9 : Int32) (wF (wF q5.2 0 29 ((rF q5.2 0 29) - (1 : Int32))) 0 27 ((rF q5.2 0 27) - (1 : Int32)))).bind (fun q7 => (R_reads q7.2).bind (fun q8 => R_readAny_c9 (l1 - (1 : Int32)) l2 q8.2)))))))) else ((R_settles (10 : Int32) q2.2).bind (fun q9 => (R_settles (11 : Int32) q9.2).bind (fun q10 => (R_waits (11 : Int32) q10.2).bind (fun q11 => (R_reads q11.2).bind (fun q12 => R_readAny_c9 l1 (1 : Int32) q12.2))))))) else ((R_settles (10 : Int32) q1.2).bind (fun q13 => (R_waits (10 : Int32) q13.2).bind (fun q14 => (R_reads q14.2).bind (fun q15 => R_readAny_c9 l1 (1 : Int32) q15.2)))))) else ((R_isWord (6 : Int32) S).bind (fun q16 => if q16.1 = 0 then ((R_isSign (40 : Int32) q16.2).bind (fun q17 => if q17.1 = 0 then ((R_readCompared q17.2).bind (fun q18 => if q18.1 = (-1 : Int32) then (some ((-1 : Int32), q18.2)) else ((R_settles (9 : Int32) q18.2).bind (fun q19 => R_readAny_c9 l1 (0 : Int32) q19.2)))) else (R_readAny_c33 l1 l2 q16.1 q17.2))) else (R_readAny_c33 l1 l2 q16.1 q16.2))) := by
  show Res PT GR (rkT 200) 200 (pCut cd200 9, [.ref 0, .int l1, .int l2, .null], [], S) = _
  refine (R_reg PT GR (k := 200) (code := cd200) rfl [9, 33, 66] 400).trans ?_
  refine br_cong ?_ ?_
  · refine (R_cx PT GR hRk PT_190 rfl rfl rfl rfl rfl).trans ?_
    refine bind_cong (fun q1 => ?_)
    refine (R_blk PT GR (k := 200) (code := cd200) rfl [9, 33, 66] 400 _).trans ?_
    refine br_cong ?_ ?_
    · refine (R_cx PT GR hRk PT_190 rfl rfl rfl rfl rfl).trans ?_
      refine bind_cong (fun q2 => ?_)
      refine (R_blk PT GR (k := 200) (code := cd200) rfl [9, 33, 66] 400 _).trans ?_
      refine br_cong ?_ ?_
      · refine (R_cx PT GR hRk PT_199 rfl rfl rfl rfl rfl).trans ?_
        refine bind_cong (fun q3 => ?_)
        refine (R_blk PT GR (k := 200) (code := cd200) rfl [9, 33, 66] 400 _).trans ?_
        refine (R_cx PT GR hRk PT_199 rfl rfl rfl rfl rfl).trans ?_
        refine bind_cong (fun q4 => ?_)
        refine (R_blk PT GR (k := 200) (code := cd200) rfl [9, 33, 66] 400 _).trans ?_
        refine br_cong ?_ ?_
        · exact R_retI PT GR rfl rfl
        · refine (R_cx PT GR hRk PT_191 rfl rfl rfl rfl rfl).trans ?_
          refine bind_cong (fun q5 => ?_)
          refine (R_blk PT GR (k := 200) (code := cd200) rfl [9, 33, 66] 400 _).trans ?_
          refine br_cong ?_ ?_
          · refine (R_cx PT GR hRk PT_189 rfl rfl rfl rfl rfl).trans ?_
            refine bind_cong (fun q6 => ?_)
            refine (R_blk PT GR (k := 200) (code := cd200) rfl [9, 33, 66] 400 _).trans ?_
            exact R_retI PT GR rfl rfl
          · refine brT (Or.inl rfl) ?_
            refine brT (Or.inl rfl) ?_
            refine (R_cx PT GR hRk PT_199 rfl rfl rfl rfl rfl).trans ?_
            refine bind_cong (fun q7 => ?_)
            refine (R_blk PT GR (k := 200) (code := cd200) rfl [9, 33, 66] 400 _).trans ?_
            refine (R_cx PT GR hRk PT_188 rfl rfl rfl rfl rfl).trans ?_
            refine bind_cong (fun q8 => ?_)
            exact (R_blk PT GR (k := 200) (code := cd200) rfl [9, 33, 66] 400 _).trans rfl
      · refine (R_cx PT GR hRk PT_199 rfl rfl rfl rfl rfl).trans ?_
        refine bind_cong (fun q9 => ?_)
        refine (R_blk PT GR (k := 200) (code := cd200) rfl [9, 33, 66] 400 _).trans ?_
        refine (R_cx PT GR hRk PT_199 rfl rfl rfl rfl rfl).trans ?_
        refine bind_cong (fun q10 => ?_)
        refine (R_blk PT GR (k := 200) (code := cd200) rfl [9, 33, 66] 400 _).trans ?_
        refine (R_cx PT GR hRk PT_198 rfl rfl rfl rfl rfl).trans ?_
        refine bind_cong (fun q11 => ?_)
        refine (R_blk PT GR (k := 200) (code := cd200) rfl [9, 33, 66] 400 _).trans ?_
        refine (R_cx PT GR hRk PT_188 rfl rfl rfl rfl rfl).trans ?_
        refine bind_cong (fun q12 => ?_)
        exact (R_blk PT GR (k := 200) (code := cd200) rfl [9, 33, 66] 400 _).trans rfl
    · refine (R_cx PT GR hRk PT_199 rfl rfl rfl rfl rfl).trans ?_
      refine bind_cong (fun q13 => ?_)
      refine (R_blk PT GR (k := 200) (code := cd200) rfl [9, 33, 66] 400 _).trans ?_
      refine (R_cx PT GR hRk PT_198 rfl rfl rfl rfl rfl).trans ?_
      refine bind_cong (fun q14 => ?_)
      refine (R_blk PT GR (k := 200) (code := cd200) rfl [9, 33, 66] 400 _).trans ?_
      refine (R_cx PT GR hRk PT_188 rfl rfl rfl rfl rfl).trans ?_
      refine bind_cong (fun q15 => ?_)
      exact (R_blk PT GR (k := 200) (code := cd200) rfl [9, 33, 66] 400 _).trans rfl
  · refine (R_cx PT GR hRk PT_190 rfl rfl rfl rfl rfl).trans ?_
    refine bind_cong (fun q16 => ?_)
    refine (R_blk PT GR (k := 200) (code := cd200) rfl [9, 33, 66] 400 _).trans ?_
    refine br_cong ?_ ?_
    · refine (R_cx PT GR hRk PT_191 rfl rfl rfl rfl rfl).trans ?_
      refine bind_cong (fun q17 => ?_)
      refine (R_blk PT GR (k := 200) (code := cd200) rfl [9, 33, 66] 400 _).trans ?_
      refine br_cong ?_ ?_
      · refine (R_cx PT GR hRk PT_197 rfl rfl rfl rfl rfl).trans ?_
        refine bind_cong (fun q18 => ?_)
        refine (R_blk PT GR (k := 200) (code := cd200) rfl [9, 33, 66] 400 _).trans ?_
        refine br_cong ?_ ?_
        · exact R_retI PT GR rfl rfl
        · refine (R_cx PT GR hRk PT_199 rfl rfl rfl rfl rfl).trans ?_
          refine bind_cong (fun q19 => ?_)
          exact (R_blk PT GR (k := 200) (code := cd200) rfl [9, 33, 66] 400 _).trans rfl
      · rfl
    · rfl
set_option maxRecDepth 20000 in
theorem R_readAny_c33_eq (l1 : Int32) (l2 : Int32) (l3 : Int32) (S : pS) : R_readAny_c33 l1 l2 l3 S = if (rF S 0 27) = (8 : Int32) then ((R_errs (3 : Int32) S).bind (fun q20 => some (q20.1, q20.2))) else (if l3 = 0 then (R_readAny_c66 (l1 + (1 : Int32)) l2 l3 (wF S 0 27 ((rF S 0 27) + (1 : Int32)))) else (R_readAny_c66 l1 l2 l3 (wF S 0 27 ((rF S 0 27) + (1 : Int32))))) := by
  show Res PT GR (rkT 200) 200 (pCut cd200 33, [.ref 0, .int l1, .int l2, .int l3], [], S) = _
  refine (R_reg PT GR (k := 200) (code := cd200) rfl [9, 33, 66] 400).trans ?_
  refine br_cong ?_ ?_
  · refine (R_cx PT GR hRk PT_189 rfl rfl rfl rfl rfl).trans ?_
    refine bind_cong (fun q20 => ?_)
    refine (R_blk PT GR (k := 200) (code := cd200) rfl [9, 33, 66] 400 _).trans ?_
    exact R_retI PT GR rfl rfl
  · refine brT (Or.inl rfl) ?_
    refine br_cong ?_ ?_
    · rfl
    · rfl
set_option maxRecDepth 20000 in
theorem R_readAny_c66_eq (l1 : Int32) (l2 : Int32) (l3 : Int32) (S : pS) : R_readAny_c66 l1 l2 l3 S = if l3 = 0 then ((R_waits (12 : Int32) S).bind (fun q21 => (R_reads q21.2).bind (fun q22 => R_readAny_c9 l1 l2 q22.2))) else ((R_waits (9 : Int32) S).bind (fun q23 => (R_reads q23.2).bind (fun q24 => R_readAny_c9 l1 l2 q24.2))) := by
  show Res PT GR (rkT 200) 200 (pCut cd200 66, [.ref 0, .int l1, .int l2, .int l3], [], S) = _
  refine (R_reg PT GR (k := 200) (code := cd200) rfl [9, 33, 66] 400).trans ?_
  refine br_cong ?_ ?_
  · refine (R_cx PT GR hRk PT_198 rfl rfl rfl rfl rfl).trans ?_
    refine bind_cong (fun q21 => ?_)
    refine (R_blk PT GR (k := 200) (code := cd200) rfl [9, 33, 66] 400 _).trans ?_
    refine (R_cx PT GR hRk PT_188 rfl rfl rfl rfl rfl).trans ?_
    refine bind_cong (fun q22 => ?_)
    exact (R_blk PT GR (k := 200) (code := cd200) rfl [9, 33, 66] 400 _).trans rfl
  · refine (R_cx PT GR hRk PT_198 rfl rfl rfl rfl rfl).trans ?_
    refine bind_cong (fun q23 => ?_)
    refine (R_blk PT GR (k := 200) (code := cd200) rfl [9, 33, 66] 400 _).trans ?_
    refine (R_cx PT GR hRk PT_188 rfl rfl rfl rfl rfl).trans ?_
    refine bind_cong (fun q24 => ?_)
    exact (R_blk PT GR (k := 200) (code := cd200) rfl [9, 33, 66] 400 _).trans rfl
set_option maxRecDepth 20000 in
theorem R_isSign_eq (a1 : Int32) (S : pS) : R_isSign a1 S = if (rF S 0 15) = (4 : Int32) then (if (rF S 0 16) = a1 then (some ((1 : Int32), S)) else (some ((0 : Int32), S))) else (some ((0 : Int32), S)) := by
  show Res PT GR (rkT 191) 191 (cd191, [.ref 0, .int a1], [], S) = _
  refine (R_blk PT GR (k := 191) (code := cd191) rfl [] 400 _).trans ?_
  refine br_cong ?_ ?_
  · refine br_cong ?_ ?_
    · exact R_retI PT GR rfl rfl
    · exact R_retI PT GR rfl rfl
  · exact R_retI PT GR rfl rfl
set_option maxRecDepth 20000 in
theorem R_draw_eq (a1 : Int32) (S : pS) : R_draw a1 S = if a1 = 0 then (none) else (some (((((((1664525 : Int32) * (rA S 1 (1 : Int32))) + (1013904223 : Int32))).toUInt32 >>> (((8 : Int32)).toUInt32 &&& Int32.toUInt32 31)).toInt32 - (((((1664525 : Int32) * (rA S 1 (1 : Int32))) + (1013904223 : Int32))).toUInt32 >>> (((8 : Int32)).toUInt32 &&& Int32.toUInt32 31)).toInt32 / a1 * a1), (wA S 1 (1 : Int32) (((1664525 : Int32) * (rA S 1 (1 : Int32))) + (1013904223 : Int32))))) := by
  show Res PT GR (rkT 172) 172 (cd172, [.ref 0, .int a1], [], S) = _
  refine (R_blk PT GR (k := 172) (code := cd172) rfl [] 400 _).trans ?_
  refine brT (by decide) ?_
  refine brT (by decide) ?_
  refine brT (by decide) ?_
  refine br_cong ?_ ?_
  · rfl
  · exact R_retI PT GR rfl rfl
set_option maxRecDepth 20000 in
theorem R_lineOf_eq (a1 : Int32) (S : pS) : R_lineOf a1 S = R_lineOf_c2 a1 (0 : Int32) S := by
  show Res PT GR (rkT 219) 219 (cd219, [.ref 0, .int a1, .null], [], S) = _
  exact (R_blk PT GR (k := 219) (code := cd219) rfl [2] 400 _).trans rfl
set_option maxRecDepth 20000 in
theorem R_lineOf_c2_eq (l1 : Int32) (l2 : Int32) (S : pS) : R_lineOf_c2 l1 l2 S = if l2 < (rA S 10 (0 : Int32)) then (if inb l2 48 = true then (if (rA S 11 l2) = l1 then (if inb l2 48 = true then (if inb l2 48 = true then (if (rA S 13 l2) = (rA S 14 l2) then (some (l2, S)) else (if inb l2 48 = true then (if inb l2 48 = true then ((R_runs (0 : Int32) (rA S 13 l2) (rA S 14 l2) S).bind (fun q1 => if q1.1 = 0 then (R_lineOf_c2 l1 (l2 + (1 : Int32)) q1.2) else (some (l2, q1.2)))) else (none)) else (none))) else (none)) else (none)) else (R_lineOf_c2 l1 (l2 + (1 : Int32)) S)) else (none)) else (some ((-1 : Int32), S)) := by
  show Res PT GR (rkT 219) 219 (pCut cd219 2, [.ref 0, .int l1, .int l2], [], S) = _
  refine (R_reg PT GR (k := 219) (code := cd219) rfl [2] 400).trans ?_
  refine brT (by decide) ?_
  refine br_cong ?_ ?_
  · refine br_cong ?_ ?_
    · refine br_cong ?_ ?_
      · refine br_cong ?_ ?_
        · refine br_cong ?_ ?_
          · refine br_cong ?_ ?_
            · exact R_retI PT GR rfl rfl
            · refine br_cong ?_ ?_
              · refine br_cong ?_ ?_
                · refine (R_cx PT GR hRk PT_218 rfl rfl rfl rfl rfl).trans ?_
                  refine bind_cong (fun q1 => ?_)
                  refine (R_blk PT GR (k := 219) (code := cd219) rfl [2] 400 _).trans ?_
                  refine br_cong ?_ ?_
                  · rfl
                  · exact R_retI PT GR rfl rfl
                · rfl
              · rfl
          · rfl
        · rfl
      · rfl
    · rfl
  · exact R_retI PT GR rfl rfl
set_option maxRecDepth 20000 in
theorem R_held_eq (a1 : Int32) (a2 : Int32) (a3 : Int32) (S : pS) : R_held a1 a2 a3 S = if a1 < a2 then (some (a2, S)) else (if a1 ≤ a3 then (some (a1, S)) else (some (a3, S))) := by
  show Res PT GR (rkT 162) 162 (cd162, [.ref 0, .int a1, .int a2, .int a3], [], S) = _
  refine (R_blk PT GR (k := 162) (code := cd162) rfl [] 400 _).trans ?_
  refine br_cong ?_ ?_
  · exact R_retI PT GR rfl rfl
  · refine br_cong ?_ ?_
    · exact R_retI PT GR rfl rfl
    · exact R_retI PT GR rfl rfl
set_option maxRecDepth 20000 in
theorem R_runs_eq (a1 : Int32) (a2 : Int32) (a3 : Int32) (S : pS) : R_runs a1 a2 a3 S = R_runs_c12 a1 a3 (0 : Int32) (((400 : Int32) * a1) + a2) S := by
  show Res PT GR (rkT 218) 218 (cd218, [.ref 0, .int a1, .int a2, .int a3, .null, .null], [], S) = _
  exact (R_blk PT GR (k := 218) (code := cd218) rfl [12, 45, 83] 400 _).trans rfl
set_option maxRecDepth 20000 in
theorem R_runs_c12_eq (l1 : Int32) (l3 : Int32) (l4 : Int32) (l5 : Int32) (S : pS) : R_runs_c12 l1 l3 l4 l5 S = if l5 < (((400 : Int32) * l1) + l3) then (if inb l5 1200 = true then (if (rA S 15 l5) = 0 then (R_runs_c45 l1 l3 l4 l5 S) else (if inb l5 1200 = true then (if (rA S 15 l5) = (1 : Int32) then (R_runs_c45 l1 l3 l4 l5 S) else (if inb l5 1200 = true then (if (rA S 15 l5) = (9 : Int32) then (if inb (l4 - (1 : Int32)) 420 = true then (if inb (l4 - (1 : Int32)) 420 = true then (R_runs_c12 l1 l3 l4 (l5 + (1 : Int32)) (wA S 23 (l4 - (1 : Int32)) ((1 : Int32) - (rA S 23 (l4 - (1 : Int32)))))) else (none)) else (none)) else (if inb l5 1200 = true then (if inb ((l4 - (1 : Int32)) - (1 : Int32)) 420 = true then (if inb (l4 - (1 : Int32)) 420 = true then ((R_twoOf (rA S 15 l5) (rA S 23 ((l4 - (1 : Int32)) - (1 : Int32))) (rA S 23 (l4 - (1 : Int32))) S).bind (fun q1 => if inb ((l4 - (1 : Int32)) - (1 : Int32)) 420 = true then (R_runs_c12 l1 l3 (l4 - (1 : Int32)) (l5 + (1 : Int32)) (wA q1.2 23 ((l4 - (1 : Int32)) - (1 : Int32)) q1.1)) else (none))) else (none)) else (none)) else (none))) else (none))) else (none))) else (none)) else (some ((rA S 23 (0 : Int32)), S)) := by
  show Res PT GR (rkT 218) 218 (pCut cd218 12, [.ref 0, .int l1, .null, .int l3, .int l4, .int l5], [], S) = _
  refine (R_reg PT GR (k := 218) (code := cd218) rfl [12, 45, 83] 400).trans ?_
  refine br_cong ?_ ?_
  · refine br_cong ?_ ?_
    · refine br_cong ?_ ?_
      · rfl
      · refine br_cong ?_ ?_
        · refine br_cong ?_ ?_
          · rfl
          · refine br_cong ?_ ?_
            · refine br_cong ?_ ?_
              · refine br_cong ?_ ?_
                · refine br_cong ?_ ?_
                  · rfl
                  · rfl
                · rfl
              · refine br_cong ?_ ?_
                · refine br_cong ?_ ?_
                  · refine br_cong ?_ ?_
                    · refine (R_cx PT GR hRk PT_217 rfl rfl rfl rfl rfl).trans ?_
                      refine bind_cong (fun q1 => ?_)
                      refine (R_blk PT GR (k := 218) (code := cd218) rfl [12, 45, 83] 400 _).trans ?_
                      refine br_cong ?_ ?_
                      · rfl
                      · rfl
                    · rfl
                  · rfl
                · rfl
            · rfl
        · rfl
    · rfl
  · refine brT (by decide) ?_
    exact R_retI PT GR rfl rfl
set_option maxRecDepth 20000 in
theorem R_runs_c45_eq (l1 : Int32) (l3 : Int32) (l4 : Int32) (l5 : Int32) (S : pS) : R_runs_c45 l1 l3 l4 l5 S = if inb l5 1200 = true then (if (rA S 15 l5) = 0 then (if inb l5 1200 = true then (R_runs_c83 l1 l3 l4 l5 (rA S 16 l5) l4 S) else (none)) else (if inb l5 1200 = true then (if inb (rA S 16 l5) 9 = true then (R_runs_c83 l1 l3 l4 l5 (rA S 22 (rA S 16 l5)) l4 S) else (none)) else (none))) else (none) := by
  show Res PT GR (rkT 218) 218 (pCut cd218 45, [.ref 0, .int l1, .null, .int l3, .int l4, .int l5], [], S) = _
  refine (R_reg PT GR (k := 218) (code := cd218) rfl [12, 45, 83] 400).trans ?_
  refine br_cong ?_ ?_
  · refine br_cong ?_ ?_
    · refine br_cong ?_ ?_
      · rfl
      · rfl
    · refine br_cong ?_ ?_
      · refine br_cong ?_ ?_
        · rfl
        · rfl
      · rfl
  · rfl
set_option maxRecDepth 20000 in
theorem R_runs_c83_eq (l1 : Int32) (l3 : Int32) (l4 : Int32) (l5 : Int32) (s0 : Int32) (s1 : Int32) (S : pS) : R_runs_c83 l1 l3 l4 l5 s0 s1 S = if inb s1 420 = true then (R_runs_c12 l1 l3 (l4 + (1 : Int32)) (l5 + (1 : Int32)) (wA S 23 s1 s0)) else (none) := by
  show Res PT GR (rkT 218) 218 (pCut cd218 83, [.ref 0, .int l1, .null, .int l3, .int l4, .int l5], [.int s0, .int s1, .ref 23], S) = _
  refine (R_reg PT GR (k := 218) (code := cd218) rfl [12, 45, 83] 400).trans ?_
  refine br_cong ?_ ?_
  · rfl
  · rfl
set_option maxRecDepth 20000 in
theorem R_readTold_eq (a1 : Int32) (a2 : Int32) (a3 : Int32) (S : pS) : R_readTold a1 a2 a3 S = (R_isWord a1 S).bind (fun q1 => if q1.1 = 0 then ((R_errs (1 : Int32) q1.2).bind (fun q2 => some (q2.1, q2.2))) else ((R_reads q1.2).bind (fun q3 => (R_readNumber a2 a3 q3.2).bind (fun q4 => some (q4.1, q4.2))))) := by
  show Res PT GR (rkT 206) 206 (cd206, [.ref 0, .int a1, .int a2, .int a3], [], S) = _
  refine (R_blk PT GR (k := 206) (code := cd206) rfl [] 400 _).trans ?_
  refine (R_cx PT GR hRk PT_190 rfl rfl rfl rfl rfl).trans ?_
  refine bind_cong (fun q1 => ?_)
  refine (R_blk PT GR (k := 206) (code := cd206) rfl [] 400 _).trans ?_
  refine br_cong ?_ ?_
  · refine (R_cx PT GR hRk PT_189 rfl rfl rfl rfl rfl).trans ?_
    refine bind_cong (fun q2 => ?_)
    refine (R_blk PT GR (k := 206) (code := cd206) rfl [] 400 _).trans ?_
    exact R_retI PT GR rfl rfl
  · refine (R_cx PT GR hRk PT_188 rfl rfl rfl rfl rfl).trans ?_
    refine bind_cong (fun q3 => ?_)
    refine (R_blk PT GR (k := 206) (code := cd206) rfl [] 400 _).trans ?_
    refine (R_cx PT GR hRk PT_204 rfl rfl rfl rfl rfl).trans ?_
    refine bind_cong (fun q4 => ?_)
    refine (R_blk PT GR (k := 206) (code := cd206) rfl [] 400 _).trans ?_
    exact R_retI PT GR rfl rfl
set_option maxRecDepth 20000 in
theorem R_readNumber_eq (a1 : Int32) (a2 : Int32) (S : pS) : R_readNumber a1 a2 S = if (rF S 0 15) = (3 : Int32) then ((R_isIn (rF S 0 16) a1 a2 S).bind (fun q1 => if q1.1 = 0 then ((R_errs (2 : Int32) q1.2).bind (fun q2 => some (q2.1, q2.2))) else ((R_reads q1.2).bind (fun q3 => some ((rF q1.2 0 16), q3.2))))) else ((R_errs (1 : Int32) S).bind (fun q4 => some (q4.1, q4.2))) := by
  show Res PT GR (rkT 204) 204 (cd204, [.ref 0, .int a1, .int a2, .null], [], S) = _
  refine (R_blk PT GR (k := 204) (code := cd204) rfl [] 400 _).trans ?_
  refine br_cong ?_ ?_
  · refine (R_cx PT GR hRk PT_161 rfl rfl rfl rfl rfl).trans ?_
    refine bind_cong (fun q1 => ?_)
    refine (R_blk PT GR (k := 204) (code := cd204) rfl [] 400 _).trans ?_
    refine br_cong ?_ ?_
    · refine (R_cx PT GR hRk PT_189 rfl rfl rfl rfl rfl).trans ?_
      refine bind_cong (fun q2 => ?_)
      refine (R_blk PT GR (k := 204) (code := cd204) rfl [] 400 _).trans ?_
      exact R_retI PT GR rfl rfl
    · refine (R_cx PT GR hRk PT_188 rfl rfl rfl rfl rfl).trans ?_
      refine bind_cong (fun q3 => ?_)
      refine (R_blk PT GR (k := 204) (code := cd204) rfl [] 400 _).trans ?_
      exact R_retI PT GR rfl rfl
  · refine (R_cx PT GR hRk PT_189 rfl rfl rfl rfl rfl).trans ?_
    refine bind_cong (fun q4 => ?_)
    refine (R_blk PT GR (k := 204) (code := cd204) rfl [] 400 _).trans ?_
    exact R_retI PT GR rfl rfl
set_option maxRecDepth 20000 in
theorem R_readMark_eq (a1 : Int32) (S : pS) : R_readMark a1 S = (R_isSign a1 S).bind (fun q1 => if q1.1 = 0 then ((R_errs (1 : Int32) q1.2).bind (fun q2 => some (q2.1, q2.2))) else ((R_reads q1.2).bind (fun q3 => some ((0 : Int32), q3.2)))) := by
  show Res PT GR (rkT 205) 205 (cd205, [.ref 0, .int a1], [], S) = _
  refine (R_blk PT GR (k := 205) (code := cd205) rfl [] 400 _).trans ?_
  refine (R_cx PT GR hRk PT_191 rfl rfl rfl rfl rfl).trans ?_
  refine bind_cong (fun q1 => ?_)
  refine (R_blk PT GR (k := 205) (code := cd205) rfl [] 400 _).trans ?_
  refine br_cong ?_ ?_
  · refine (R_cx PT GR hRk PT_189 rfl rfl rfl rfl rfl).trans ?_
    refine bind_cong (fun q2 => ?_)
    refine (R_blk PT GR (k := 205) (code := cd205) rfl [] 400 _).trans ?_
    exact R_retI PT GR rfl rfl
  · refine (R_cx PT GR hRk PT_188 rfl rfl rfl rfl rfl).trans ?_
    refine bind_cong (fun q3 => ?_)
    refine (R_blk PT GR (k := 205) (code := cd205) rfl [] 400 _).trans ?_
    exact R_retI PT GR rfl rfl
set_option maxRecDepth 20000 in
theorem R_readProduct_eq (S : pS) : R_readProduct S = (R_readUnit S).bind (fun q1 => if q1.1 = (-1 : Int32) then (some ((-1 : Int32), q1.2)) else (R_readProduct_c10 q1.2)) := by
  show Res PT GR (rkT 195) 195 (cd195, [.ref 0, .null], [], S) = _
  refine (R_blk PT GR (k := 195) (code := cd195) rfl [10, 28, 57, 74] 400 _).trans ?_
  refine (R_cx PT GR hRk PT_194 rfl rfl rfl rfl rfl).trans ?_
  refine bind_cong (fun q1 => ?_)
  refine (R_blk PT GR (k := 195) (code := cd195) rfl [10, 28, 57, 74] 400 _).trans ?_
  refine br_cong ?_ ?_
  · exact R_retI PT GR rfl rfl
  · rfl
set_option maxRecDepth 20000 in
theorem R_readProduct_c10_eq (S : pS) : R_readProduct_c10 S = (R_isSign (42 : Int32) S).bind (fun q2 => if q2.1 = 0 then ((R_isSign (47 : Int32) q2.2).bind (fun q3 => if q3.1 = 0 then (some ((0 : Int32), q3.2)) else (R_readProduct_c28 q3.2))) else (R_readProduct_c28 q2.2)) := by
  show Res PT GR (rkT 195) 195 (pCut cd195 10, [.ref 0, .null], [], S) = _
  refine (R_reg PT GR (k := 195) (code := cd195) rfl [10, 28, 57, 74] 400).trans ?_
  refine (R_cx PT GR hRk PT_191 rfl rfl rfl rfl rfl).trans ?_
  refine bind_cong (fun q2 => ?_)
  refine (R_blk PT GR (k := 195) (code := cd195) rfl [10, 28, 57, 74] 400 _).trans ?_
  refine br_cong ?_ ?_
  · refine (R_cx PT GR hRk PT_191 rfl rfl rfl rfl rfl).trans ?_
    refine bind_cong (fun q3 => ?_)
    refine (R_blk PT GR (k := 195) (code := cd195) rfl [10, 28, 57, 74] 400 _).trans ?_
    refine br_cong ?_ ?_
    · exact R_retI PT GR rfl rfl
    · rfl
  · rfl
set_option maxRecDepth 20000 in
theorem R_readProduct_c28_eq (S : pS) : R_readProduct_c28 S = (R_isSign (42 : Int32) S).bind (fun q4 => (R_reads q4.2).bind (fun q5 => if q4.1 = 0 then (if (rF q5.2 0 15) = (3 : Int32) then (R_readProduct_c57 q4.1 q5.2) else ((R_errs (1 : Int32) q5.2).bind (fun q6 => some (q6.1, q6.2)))) else (R_readProduct_c57 q4.1 q5.2))) := by
  show Res PT GR (rkT 195) 195 (pCut cd195 28, [.ref 0, .null], [], S) = _
  refine (R_reg PT GR (k := 195) (code := cd195) rfl [10, 28, 57, 74] 400).trans ?_
  refine (R_cx PT GR hRk PT_191 rfl rfl rfl rfl rfl).trans ?_
  refine bind_cong (fun q4 => ?_)
  refine (R_blk PT GR (k := 195) (code := cd195) rfl [10, 28, 57, 74] 400 _).trans ?_
  refine (R_cx PT GR hRk PT_188 rfl rfl rfl rfl rfl).trans ?_
  refine bind_cong (fun q5 => ?_)
  refine (R_blk PT GR (k := 195) (code := cd195) rfl [10, 28, 57, 74] 400 _).trans ?_
  refine br_cong ?_ ?_
  · refine br_cong ?_ ?_
    · rfl
    · refine (R_cx PT GR hRk PT_189 rfl rfl rfl rfl rfl).trans ?_
      refine bind_cong (fun q6 => ?_)
      refine (R_blk PT GR (k := 195) (code := cd195) rfl [10, 28, 57, 74] 400 _).trans ?_
      exact R_retI PT GR rfl rfl
  · rfl
set_option maxRecDepth 20000 in
theorem R_readProduct_c57_eq (l1 : Int32) (S : pS) : R_readProduct_c57 l1 S = if l1 = 0 then (if (rF S 0 16) = 0 then ((R_errs (2 : Int32) S).bind (fun q7 => some (q7.1, q7.2))) else (R_readProduct_c74 l1 S)) else (R_readProduct_c74 l1 S) := by
  show Res PT GR (rkT 195) 195 (pCut cd195 57, [.ref 0, .int l1], [], S) = _
  refine (R_reg PT GR (k := 195) (code := cd195) rfl [10, 28, 57, 74] 400).trans ?_
  refine br_cong ?_ ?_
  · refine br_cong ?_ ?_
    · refine (R_cx PT GR hRk PT_189 rfl rfl rfl rfl rfl).trans ?_
      refine bind_cong (fun q7 => ?_)
      refine (R_blk PT GR (k := 195) (code := cd195) rfl [10, 28, 57, 74] 400 _).trans ?_
      exact R_retI PT GR rfl rfl
    · rfl
  · rfl
set_option maxRecDepth 20000 in
theorem R_readProduct_c74_eq (l1 : Int32) (S : pS) : R_readProduct_c74 l1 S = (R_readUnit S).bind (fun q8 => if q8.1 = (-1 : Int32) then (some ((-1 : Int32), q8.2)) else (if l1 = 0 then ((R_emits (5 : Int32) (0 : Int32) q8.2).bind (fun q9 => R_readProduct_c10 q9.2)) else ((R_emits (4 : Int32) (0 : Int32) q8.2).bind (fun q10 => R_readProduct_c10 q10.2)))) := by
  show Res PT GR (rkT 195) 195 (pCut cd195 74, [.ref 0, .int l1], [], S) = _
  refine (R_reg PT GR (k := 195) (code := cd195) rfl [10, 28, 57, 74] 400).trans ?_
  refine (R_cx PT GR hRk PT_194 rfl rfl rfl rfl rfl).trans ?_
  refine bind_cong (fun q8 => ?_)
  refine (R_blk PT GR (k := 195) (code := cd195) rfl [10, 28, 57, 74] 400 _).trans ?_
  refine br_cong ?_ ?_
  · exact R_retI PT GR rfl rfl
  · refine br_cong ?_ ?_
    · refine (R_cx PT GR hRk PT_192 rfl rfl rfl rfl rfl).trans ?_
      refine bind_cong (fun q9 => ?_)
      exact (R_blk PT GR (k := 195) (code := cd195) rfl [10, 28, 57, 74] 400 _).trans rfl
    · refine (R_cx PT GR hRk PT_192 rfl rfl rfl rfl rfl).trans ?_
      refine bind_cong (fun q10 => ?_)
      exact (R_blk PT GR (k := 195) (code := cd195) rfl [10, 28, 57, 74] 400 _).trans rfl
set_option maxRecDepth 20000 in
theorem R_emits_eq (a1 : Int32) (a2 : Int32) (S : pS) : R_emits a1 a2 S = if inb ((800 : Int32) + (rF S 0 26)) 1200 = true then (if inb ((800 : Int32) + (rF S 0 26)) 1200 = true then (some (0, (wF (wA (wA S 15 ((800 : Int32) + (rF S 0 26)) a1) 16 ((800 : Int32) + (rF S 0 26)) a2) 0 26 ((rF S 0 26) + (1 : Int32))))) else (none)) else (none) := by
  show Res PT GR (rkT 192) 192 (cd192, [.ref 0, .int a1, .int a2], [], S) = _
  refine (R_blk PT GR (k := 192) (code := cd192) rfl [] 400 _).trans ?_
  refine br_cong ?_ ?_
  · refine br_cong ?_ ?_
    · refine brT (Or.inl rfl) ?_
      exact R_retV PT GR rfl
    · rfl
  · rfl
set_option maxRecDepth 20000 in
theorem R_settles_eq (a1 : Int32) (S : pS) : R_settles a1 S = R_settles_c0 a1 S := by
  show Res PT GR (rkT 199) 199 (cd199, [.ref 0, .int a1], [], S) = _
  exact (R_blk PT GR (k := 199) (code := cd199) rfl [0] 400 _).trans rfl
set_option maxRecDepth 20000 in
theorem R_settles_c0_eq (l1 : Int32) (S : pS) : R_settles_c0 l1 S = if (rF S 0 29) ≤ 0 then (some (0, S)) else (if inb ((rF S 0 29) - (1 : Int32)) 40 = true then (if (rA S 17 ((rF S 0 29) - (1 : Int32))) = l1 then ((R_emits l1 (0 : Int32) (wF S 0 29 ((rF S 0 29) - (1 : Int32)))).bind (fun q1 => if l1 = (9 : Int32) then (R_settles_c0 l1 (wF q1.2 0 27 ((rF q1.2 0 27) - (1 : Int32)))) else (R_settles_c0 l1 q1.2))) else (some (0, S))) else (none)) := by
  show Res PT GR (rkT 199) 199 (pCut cd199 0, [.ref 0, .int l1], [], S) = _
  refine (R_reg PT GR (k := 199) (code := cd199) rfl [0] 400).trans ?_
  refine br_cong ?_ ?_
  · exact R_retV PT GR rfl
  · refine br_cong ?_ ?_
    · refine br_cong ?_ ?_
      · refine brT (Or.inl rfl) ?_
        refine (R_cx PT GR hRk PT_192 rfl rfl rfl rfl rfl).trans ?_
        refine bind_cong (fun q1 => ?_)
        refine (R_blk PT GR (k := 199) (code := cd199) rfl [0] 400 _).trans ?_
        refine br_cong ?_ ?_
        · refine brT (Or.inl rfl) ?_
          rfl
        · rfl
      · exact R_retV PT GR rfl
    · rfl
set_option maxRecDepth 20000 in
theorem R_waits_eq (a1 : Int32) (S : pS) : R_waits a1 S = if inb (rF S 0 29) 40 = true then (some (0, (wF (wA S 17 (rF S 0 29) a1) 0 29 ((rF S 0 29) + (1 : Int32))))) else (none) := by
  show Res PT GR (rkT 198) 198 (cd198, [.ref 0, .int a1], [], S) = _
  refine (R_blk PT GR (k := 198) (code := cd198) rfl [] 400 _).trans ?_
  refine br_cong ?_ ?_
  · refine brT (Or.inl rfl) ?_
    exact R_retV PT GR rfl
  · rfl
set_option maxRecDepth 20000 in
theorem R_readCompared_eq (S : pS) : R_readCompared S = (R_readSum S).bind (fun q1 => if q1.1 = (-1 : Int32) then (some ((-1 : Int32), q1.2)) else ((R_isSign (60 : Int32) q1.2).bind (fun q2 => if q2.1 = 0 then ((R_isSign (61 : Int32) q2.2).bind (fun q3 => if q3.1 = 0 then ((R_isSign (62 : Int32) q3.2).bind (fun q4 => if q4.1 = 0 then ((R_errs (1 : Int32) q4.2).bind (fun q5 => some (q5.1, q5.2))) else (R_readCompared_c43 q4.2))) else (R_readCompared_c43 q3.2))) else (R_readCompared_c43 q2.2)))) := by
  show Res PT GR (rkT 197) 197 (cd197, [.ref 0, .null], [], S) = _
  refine (R_blk PT GR (k := 197) (code := cd197) rfl [43, 73] 400 _).trans ?_
  refine (R_cx PT GR hRk PT_196 rfl rfl rfl rfl rfl).trans ?_
  refine bind_cong (fun q1 => ?_)
  refine (R_blk PT GR (k := 197) (code := cd197) rfl [43, 73] 400 _).trans ?_
  refine br_cong ?_ ?_
  · exact R_retI PT GR rfl rfl
  · refine (R_cx PT GR hRk PT_191 rfl rfl rfl rfl rfl).trans ?_
    refine bind_cong (fun q2 => ?_)
    refine (R_blk PT GR (k := 197) (code := cd197) rfl [43, 73] 400 _).trans ?_
    refine br_cong ?_ ?_
    · refine (R_cx PT GR hRk PT_191 rfl rfl rfl rfl rfl).trans ?_
      refine bind_cong (fun q3 => ?_)
      refine (R_blk PT GR (k := 197) (code := cd197) rfl [43, 73] 400 _).trans ?_
      refine br_cong ?_ ?_
      · refine (R_cx PT GR hRk PT_191 rfl rfl rfl rfl rfl).trans ?_
        refine bind_cong (fun q4 => ?_)
        refine (R_blk PT GR (k := 197) (code := cd197) rfl [43, 73] 400 _).trans ?_
        refine br_cong ?_ ?_
        · refine (R_cx PT GR hRk PT_189 rfl rfl rfl rfl rfl).trans ?_
          refine bind_cong (fun q5 => ?_)
          refine (R_blk PT GR (k := 197) (code := cd197) rfl [43, 73] 400 _).trans ?_
          exact R_retI PT GR rfl rfl
        · rfl
      · rfl
    · rfl
set_option maxRecDepth 20000 in
theorem R_readCompared_c43_eq (S : pS) : R_readCompared_c43 S = if (rF S 0 16) = (60 : Int32) then (R_readCompared_c73 (6 : Int32) S) else (if (rF S 0 16) = (61 : Int32) then (R_readCompared_c73 (7 : Int32) S) else (R_readCompared_c73 (8 : Int32) S)) := by
  show Res PT GR (rkT 197) 197 (pCut cd197 43, [.ref 0, .null], [], S) = _
  refine (R_reg PT GR (k := 197) (code := cd197) rfl [43, 73] 400).trans ?_
  refine br_cong ?_ ?_
  · rfl
  · refine br_cong ?_ ?_
    · rfl
    · rfl
set_option maxRecDepth 20000 in
theorem R_readCompared_c73_eq (s0 : Int32) (S : pS) : R_readCompared_c73 s0 S = (R_reads S).bind (fun q6 => (R_readSum q6.2).bind (fun q7 => if q7.1 = (-1 : Int32) then (some ((-1 : Int32), q7.2)) else ((R_emits s0 (0 : Int32) q7.2).bind (fun q8 => some ((0 : Int32), q8.2))))) := by
  show Res PT GR (rkT 197) 197 (pCut cd197 73, [.ref 0, .null], [.int s0], S) = _
  refine (R_reg PT GR (k := 197) (code := cd197) rfl [43, 73] 400).trans ?_
  refine (R_cx PT GR hRk PT_188 rfl rfl rfl rfl rfl).trans ?_
  refine bind_cong (fun q6 => ?_)
  refine (R_blk PT GR (k := 197) (code := cd197) rfl [43, 73] 400 _).trans ?_
  refine (R_cx PT GR hRk PT_196 rfl rfl rfl rfl rfl).trans ?_
  refine bind_cong (fun q7 => ?_)
  refine (R_blk PT GR (k := 197) (code := cd197) rfl [43, 73] 400 _).trans ?_
  refine br_cong ?_ ?_
  · exact R_retI PT GR rfl rfl
  · refine (R_cx PT GR hRk PT_192 rfl rfl rfl rfl rfl).trans ?_
    refine bind_cong (fun q8 => ?_)
    refine (R_blk PT GR (k := 197) (code := cd197) rfl [43, 73] 400 _).trans ?_
    exact R_retI PT GR rfl rfl
set_option maxRecDepth 20000 in
theorem R_twoOf_eq (a1 : Int32) (a2 : Int32) (a3 : Int32) (S : pS) : R_twoOf a1 a2 a3 S = if a1 = (2 : Int32) then (some ((a2 + a3), S)) else (if a1 = (3 : Int32) then (some ((a2 - a3), S)) else (if a1 = (4 : Int32) then (some ((a2 * a3), S)) else (if a1 = (5 : Int32) then (if a3 = 0 then (none) else (some ((a2 / a3), S))) else (if a1 = (6 : Int32) then (if a2 < a3 then (some ((1 : Int32), S)) else (some ((0 : Int32), S))) else (if a1 = (7 : Int32) then (if a2 = a3 then (some ((1 : Int32), S)) else (some ((0 : Int32), S))) else (if a1 = (8 : Int32) then (if a2 ≤ a3 then (some ((0 : Int32), S)) else (some ((1 : Int32), S))) else (if a1 = (10 : Int32) then (some ((a2 * a3), S)) else (if (a2 + a3) ≤ 0 then (some ((0 : Int32), S)) else (some ((1 : Int32), S)))))))))) := by
  show Res PT GR (rkT 217) 217 (cd217, [.ref 0, .int a1, .int a2, .int a3], [], S) = _
  refine (R_blk PT GR (k := 217) (code := cd217) rfl [] 400 _).trans ?_
  refine br_cong ?_ ?_
  · exact R_retI PT GR rfl rfl
  · refine br_cong ?_ ?_
    · exact R_retI PT GR rfl rfl
    · refine br_cong ?_ ?_
      · exact R_retI PT GR rfl rfl
      · refine br_cong ?_ ?_
        · refine br_cong ?_ ?_
          · rfl
          · exact R_retI PT GR rfl rfl
        · refine br_cong ?_ ?_
          · refine br_cong ?_ ?_
            · exact R_retI PT GR rfl rfl
            · exact R_retI PT GR rfl rfl
          · refine br_cong ?_ ?_
            · refine br_cong ?_ ?_
              · exact R_retI PT GR rfl rfl
              · exact R_retI PT GR rfl rfl
            · refine br_cong ?_ ?_
              · refine br_cong ?_ ?_
                · exact R_retI PT GR rfl rfl
                · exact R_retI PT GR rfl rfl
              · refine br_cong ?_ ?_
                · exact R_retI PT GR rfl rfl
                · refine br_cong ?_ ?_
                  · exact R_retI PT GR rfl rfl
                  · exact R_retI PT GR rfl rfl
set_option maxRecDepth 20000 in
theorem R_readUnit_eq (S : pS) : R_readUnit S = if (rF S 0 15) = (2 : Int32) then ((R_canAsk (rF S 0 16) S).bind (fun q1 => if q1.1 = 0 then (R_readUnit_c24 (0 : Int32) q1.2) else (R_readUnit_c24 (1 : Int32) q1.2))) else (R_readUnit_c24 (0 : Int32) S) := by
  show Res PT GR (rkT 194) 194 (cd194, [.ref 0, .null], [], S) = _
  refine (R_blk PT GR (k := 194) (code := cd194) rfl [24, 43, 53, 71] 400 _).trans ?_
  refine br_cong ?_ ?_
  · refine (R_cx PT GR hRk PT_193 rfl rfl rfl rfl rfl).trans ?_
    refine bind_cong (fun q1 => ?_)
    refine (R_blk PT GR (k := 194) (code := cd194) rfl [24, 43, 53, 71] 400 _).trans ?_
    refine br_cong ?_ ?_
    · rfl
    · rfl
  · rfl
set_option maxRecDepth 20000 in
theorem R_readUnit_c24_eq (s0 : Int32) (S : pS) : R_readUnit_c24 s0 S = if s0 = 0 then (if (rF S 0 15) = (3 : Int32) then (R_readUnit_c43 s0 S) else ((R_errs (1 : Int32) S).bind (fun q2 => some (q2.1, q2.2)))) else (R_readUnit_c43 s0 S) := by
  show Res PT GR (rkT 194) 194 (pCut cd194 24, [.ref 0, .null], [.int s0], S) = _
  refine (R_reg PT GR (k := 194) (code := cd194) rfl [24, 43, 53, 71] 400).trans ?_
  refine br_cong ?_ ?_
  · refine br_cong ?_ ?_
    · rfl
    · refine (R_cx PT GR hRk PT_189 rfl rfl rfl rfl rfl).trans ?_
      refine bind_cong (fun q2 => ?_)
      refine (R_blk PT GR (k := 194) (code := cd194) rfl [24, 43, 53, 71] 400 _).trans ?_
      exact R_retI PT GR rfl rfl
  · rfl
set_option maxRecDepth 20000 in
theorem R_readUnit_c43_eq (l1 : Int32) (S : pS) : R_readUnit_c43 l1 S = if l1 = 0 then (R_readUnit_c53 l1 (0 : Int32) S) else (R_readUnit_c53 l1 (1 : Int32) S) := by
  show Res PT GR (rkT 194) 194 (pCut cd194 43, [.ref 0, .int l1], [], S) = _
  refine (R_reg PT GR (k := 194) (code := cd194) rfl [24, 43, 53, 71] 400).trans ?_
  refine br_cong ?_ ?_
  · rfl
  · rfl
set_option maxRecDepth 20000 in
theorem R_readUnit_c53_eq (l1 : Int32) (s0 : Int32) (S : pS) : R_readUnit_c53 l1 s0 S = if l1 = 0 then (R_readUnit_c71 (rF S 0 16) s0 S) else (R_readUnit_c71 ((rF S 0 16) - (7 : Int32)) s0 S) := by
  show Res PT GR (rkT 194) 194 (pCut cd194 53, [.ref 0, .int l1], [.int s0, .ref 0], S) = _
  refine (R_reg PT GR (k := 194) (code := cd194) rfl [24, 43, 53, 71] 400).trans ?_
  refine br_cong ?_ ?_
  · rfl
  · rfl
set_option maxRecDepth 20000 in
theorem R_readUnit_c71_eq (s0 : Int32) (s1 : Int32) (S : pS) : R_readUnit_c71 s0 s1 S = (R_emits s1 s0 S).bind (fun q3 => (R_reads q3.2).bind (fun q4 => some ((0 : Int32), q4.2))) := by
  show Res PT GR (rkT 194) 194 (pCut cd194 71, [.ref 0, .null], [.int s0, .int s1, .ref 0], S) = _
  refine (R_reg PT GR (k := 194) (code := cd194) rfl [24, 43, 53, 71] 400).trans ?_
  refine (R_cx PT GR hRk PT_192 rfl rfl rfl rfl rfl).trans ?_
  refine bind_cong (fun q3 => ?_)
  refine (R_blk PT GR (k := 194) (code := cd194) rfl [24, 43, 53, 71] 400 _).trans ?_
  refine (R_cx PT GR hRk PT_188 rfl rfl rfl rfl rfl).trans ?_
  refine bind_cong (fun q4 => ?_)
  refine (R_blk PT GR (k := 194) (code := cd194) rfl [24, 43, 53, 71] 400 _).trans ?_
  exact R_retI PT GR rfl rfl
set_option maxRecDepth 20000 in
theorem R_canAsk_eq (a1 : Int32) (S : pS) : R_canAsk a1 S = (R_isIn a1 (7 : Int32) (15 : Int32) S).bind (fun q1 => if pBool 1 q1.1 = true then some (q1.1, q1.2) else none) := by
  show Res PT GR (rkT 193) 193 (cd193, [.ref 0, .int a1], [], S) = _
  refine (R_blk PT GR (k := 193) (code := cd193) rfl [] 400 _).trans ?_
  refine (R_cx PT GR hRk PT_161 rfl rfl rfl rfl rfl).trans ?_
  refine bind_cong (fun q1 => ?_)
  refine (R_blk PT GR (k := 193) (code := cd193) rfl [] 400 _).trans ?_
  exact R_ret PT GR rfl
