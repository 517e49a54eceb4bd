/-! Equations of methods (written by program). -/
set_option maxRecDepth 20000 in
theorem La_clear_51_eq (S : pS) : La_clear_51 S = some (0, (wF (wF S 51 7 (0 : Int32)) 51 8 (0 : Int32))) := by
  show Res PT GX (rkT 69) 69 (cd69, [.ref 51], [], S) = _
  refine (R_blk PT GX (k := 69) (code := cd69) rfl [] 400 _).trans ?_
  refine brT (Or.inl rfl) ?_
  refine brT (Or.inl rfl) ?_
  exact R_retV PT GX rfl
set_option maxRecDepth 20000 in
theorem Ro_clear_59_eq (S : pS) : Ro_clear_59 S = some ((0 : Int32), (wF S 59 2 (0 : Int32))) := by
  show Res PT GX (rkT 96) 96 (cd96, [.ref 59], [], S) = _
  refine (R_blk PT GX (k := 96) (code := cd96) rfl [] 400 _).trans ?_
  refine brT (Or.inl rfl) ?_
  exact R_retI PT GX rfl rfl
set_option maxRecDepth 20000 in
theorem Ta_scan_46_eq (S : pS) : Ta_scan_46 S = Ta_scan_46_c9 (0 : Int32) (0 : Int32) (wF S 46 3 (0 : Int32)) := by
  show Res PT GX (rkT 102) 102 (cd102, [.ref 46, .null, .null, .null, .null], [], S) = _
  refine (R_blk PT GX (k := 102) (code := cd102) rfl [9, 135] 400 _).trans ?_
  refine brT (Or.inl rfl) ?_
  rfl
set_option maxRecDepth 20000 in
theorem Ta_scan_46_c9_eq (l1 : Int32) (l2 : Int32) (S : pS) : Ta_scan_46_c9 l1 l2 S = if l2 < (400 : Int32) then (if l1 < (rF S 46 4) then (if inb l1 400 = true then ((Ta_isLetter (rA S 47 l1) S).bind (fun q1 => if q1.1 = 0 then ((Ta_isDigit (rA S 47 l1) q1.2).bind (fun q2 => if q2.1 = 0 then (if (rA S 47 l1) = (32 : Int32) then (Ta_scan_46_c9 (l1 + (1 : Int32)) (l2 + (1 : Int32)) q2.2) else (if (rA S 47 l1) = (10 : Int32) then (Ta_scan_46_c9 (l1 + (1 : Int32)) (l2 + (1 : Int32)) q2.2) else ((J_indexOf_t1 (((rA S 47 l1)).toUInt32 % 65536).toInt32 q2.2).bind (fun q3 => if q3.1 < 0 then ((Ta_put_46 l1 (1 : Int32) q3.2).bind (fun q4 => Ta_scan_46_c9 (l1 + (1 : Int32)) (l2 + (1 : Int32)) q4.2)) else ((Ta_put_46 l1 (rA S 47 l1) q3.2).bind (fun q5 => Ta_scan_46_c9 (l1 + (1 : Int32)) (l2 + (1 : Int32)) q5.2)))))) else ((Ta_pastDigits_46 l1 q2.2).bind (fun q6 => (Ta_numberAt_46 l1 q6.1 q6.2).bind (fun q7 => (Ta_put_46 l1 q7.1 q7.2).bind (fun q8 => Ta_scan_46_c9 q6.1 (l2 + (1 : Int32)) q8.2)))))) else ((Ta_pastLetters_46 l1 q1.2).bind (fun q9 => (Ta_wordAt_46 l1 q9.1 q9.2).bind (fun q10 => (Ta_put_46 l1 q10.1 q10.2).bind (fun q11 => Ta_scan_46_c9 q9.1 (l2 + (1 : Int32)) q11.2)))))) else (none)) else (Ta_scan_46_c135 S)) else (Ta_scan_46_c135 S) := by
  show Res PT GX (rkT 102) 102 (pCut cd102 9, [.ref 46, .int l1, .int l2, .null, .null], [], S) = _
  refine (R_reg PT GX (k := 102) (code := cd102) rfl [9, 135] 400).trans ?_
  refine br_cong ?_ ?_
  · refine br_cong ?_ ?_
    · refine br_cong ?_ ?_
      · refine (R_cx PT GX hRk PT_104 rfl rfl rfl rfl rfl).trans ?_
        refine bind_cong (fun q1 => ?_)
        refine (R_blk PT GX (k := 102) (code := cd102) rfl [9, 135] 400 _).trans ?_
        refine br_cong ?_ ?_
        · refine (R_cx PT GX hRk PT_105 rfl rfl rfl rfl rfl).trans ?_
          refine bind_cong (fun q2 => ?_)
          refine (R_blk PT GX (k := 102) (code := cd102) rfl [9, 135] 400 _).trans ?_
          refine br_cong ?_ ?_
          · refine br_cong ?_ ?_
            · rfl
            · refine br_cong ?_ ?_
              · rfl
              · refine (R_cx PT GX hRk PT_294 rfl rfl rfl rfl rfl).trans ?_
                refine bind_cong (fun q3 => ?_)
                refine (R_blk PT GX (k := 102) (code := cd102) rfl [9, 135] 400 _).trans ?_
                refine br_cong ?_ ?_
                · refine (R_cx PT GX hRk PT_103 rfl rfl rfl rfl rfl).trans ?_
                  refine bind_cong (fun q4 => ?_)
                  exact (R_blk PT GX (k := 102) (code := cd102) rfl [9, 135] 400 _).trans rfl
                · refine (R_cx PT GX hRk PT_103 rfl rfl rfl rfl rfl).trans ?_
                  refine bind_cong (fun q5 => ?_)
                  exact (R_blk PT GX (k := 102) (code := cd102) rfl [9, 135] 400 _).trans rfl
          · refine (R_cx PT GX hRk PT_107 rfl rfl rfl rfl rfl).trans ?_
            refine bind_cong (fun q6 => ?_)
            refine (R_blk PT GX (k := 102) (code := cd102) rfl [9, 135] 400 _).trans ?_
            refine (R_cx PT GX hRk PT_110 rfl rfl rfl rfl rfl).trans ?_
            refine bind_cong (fun q7 => ?_)
            refine (R_blk PT GX (k := 102) (code := cd102) rfl [9, 135] 400 _).trans ?_
            refine (R_cx PT GX hRk PT_103 rfl rfl rfl rfl rfl).trans ?_
            refine bind_cong (fun q8 => ?_)
            exact (R_blk PT GX (k := 102) (code := cd102) rfl [9, 135] 400 _).trans rfl
        · refine (R_cx PT GX hRk PT_106 rfl rfl rfl rfl rfl).trans ?_
          refine bind_cong (fun q9 => ?_)
          refine (R_blk PT GX (k := 102) (code := cd102) rfl [9, 135] 400 _).trans ?_
          refine (R_cx PT GX hRk PT_108 rfl rfl rfl rfl rfl).trans ?_
          refine bind_cong (fun q10 => ?_)
          refine (R_blk PT GX (k := 102) (code := cd102) rfl [9, 135] 400 _).trans ?_
          refine (R_cx PT GX hRk PT_103 rfl rfl rfl rfl rfl).trans ?_
          refine bind_cong (fun q11 => ?_)
          exact (R_blk PT GX (k := 102) (code := cd102) rfl [9, 135] 400 _).trans rfl
      · rfl
    · rfl
  · rfl
set_option maxRecDepth 20000 in
theorem Ta_scan_46_c135_eq (S : pS) : Ta_scan_46_c135 S = (Ta_put_46 (rF S 46 4) (0 : Int32) S).bind (fun q12 => some (0, q12.2)) := by
  show Res PT GX (rkT 102) 102 (pCut cd102 135, [.ref 46, .null, .null, .null, .null], [], S) = _
  refine (R_reg PT GX (k := 102) (code := cd102) rfl [9, 135] 400).trans ?_
  refine (R_cx PT GX hRk PT_103 rfl rfl rfl rfl rfl).trans ?_
  refine bind_cong (fun q12 => ?_)
  refine (R_blk PT GX (k := 102) (code := cd102) rfl [9, 135] 400 _).trans ?_
  exact R_retV PT GX rfl
set_option maxRecDepth 20000 in
theorem Re_planLine_50_eq (a1 : Int32) (S : pS) : Re_planLine_50 a1 S = (Re_opens_50 (319 : Int32) (319 : Int32) S).bind (fun q1 => if q1.1 = 0 then (some ((0 : Int32), q1.2)) else ((Re_passesNumber_50 (0 : Int32) (99 : Int32) q1.2).bind (fun q2 => if q2.1 = 0 then (some ((0 : Int32), q2.2)) else (if (rF q2.2 50 7) < (320 : Int32) then ((Re_fails_50 (1 : Int32) q2.2).bind (fun q3 => if pBool 1 q3.1 = true then some (q3.1, q3.2) else none)) else (if (rF q2.2 50 7) ≤ (323 : Int32) then ((Re_advance_50 q2.2).bind (fun q4 => if (rF q2.2 50 7) = (320 : Int32) then (Re_planLine_50_c71 a1 (rF q2.2 50 8) (rF q2.2 50 7) (1 : Int32) q4.2) else (Re_planLine_50_c71 a1 (rF q2.2 50 8) (rF q2.2 50 7) (0 : Int32) q4.2))) else ((Re_fails_50 (1 : Int32) q2.2).bind (fun q5 => if pBool 1 q5.1 = true then some (q5.1, q5.2) else none))))))) := by
  show Res PT GX (rkT 86) 86 (cd86, [.ref 50, .int a1, .null, .null, .null, .null], [], S) = _
  refine (R_blk PT GX (k := 86) (code := cd86) rfl [71, 100] 400 _).trans ?_
  refine (R_cx PT GX hRk PT_82 rfl rfl rfl rfl rfl).trans ?_
  refine bind_cong (fun q1 => ?_)
  refine (R_blk PT GX (k := 86) (code := cd86) rfl [71, 100] 400 _).trans ?_
  refine br_cong ?_ ?_
  · exact R_retI PT GX rfl rfl
  · refine (R_cx PT GX hRk PT_83 rfl rfl rfl rfl rfl).trans ?_
    refine bind_cong (fun q2 => ?_)
    refine (R_blk PT GX (k := 86) (code := cd86) rfl [71, 100] 400 _).trans ?_
    refine br_cong ?_ ?_
    · exact R_retI PT GX rfl rfl
    · refine br_cong ?_ ?_
      · refine (R_cx PT GX hRk PT_80 rfl rfl rfl rfl rfl).trans ?_
        refine bind_cong (fun q3 => ?_)
        refine (R_blk PT GX (k := 86) (code := cd86) rfl [71, 100] 400 _).trans ?_
        exact R_ret PT GX rfl
      · refine br_cong ?_ ?_
        · refine (R_cx PT GX hRk PT_79 rfl rfl rfl rfl rfl).trans ?_
          refine bind_cong (fun q4 => ?_)
          refine (R_blk PT GX (k := 86) (code := cd86) rfl [71, 100] 400 _).trans ?_
          refine br_cong ?_ ?_
          · rfl
          · rfl
        · refine (R_cx PT GX hRk PT_80 rfl rfl rfl rfl rfl).trans ?_
          refine bind_cong (fun q5 => ?_)
          refine (R_blk PT GX (k := 86) (code := cd86) rfl [71, 100] 400 _).trans ?_
          exact R_ret PT GX rfl
set_option maxRecDepth 20000 in
theorem Re_planLine_50_c71_eq (l1 : Int32) (l2 : Int32) (l3 : Int32) (s0 : Int32) (S : pS) : Re_planLine_50_c71 l1 l2 l3 s0 S = if l3 = (320 : Int32) then (Re_planLine_50_c100 l2 l3 s0 (14 : Int32) S) else (if l3 = (321 : Int32) then (Re_planLine_50_c100 l2 l3 s0 (11 : Int32) S) else (Re_planLine_50_c100 l2 l3 s0 (l1 - (1 : Int32)) S)) := by
  show Res PT GX (rkT 86) 86 (pCut cd86 71, [.ref 50, .int l1, .int l2, .int l3, .null, .null], [.int s0], S) = _
  refine (R_reg PT GX (k := 86) (code := cd86) rfl [71, 100] 400).trans ?_
  refine br_cong ?_ ?_
  · rfl
  · refine br_cong ?_ ?_
    · rfl
    · rfl
set_option maxRecDepth 20000 in
theorem Re_planLine_50_c100_eq (l2 : Int32) (l3 : Int32) (l4 : Int32) (s0 : Int32) (S : pS) : Re_planLine_50_c100 l2 l3 l4 s0 S = (Re_passesNumber_50 l4 s0 S).bind (fun q6 => if q6.1 = 0 then (some ((0 : Int32), q6.2)) else ((Ro_add_59 l2 l3 (rF q6.2 50 8) (0 : Int32) q6.2).bind (fun q7 => (Re_passes_50 (59 : Int32) q7.2).bind (fun q8 => if pBool 1 q8.1 = true then some (q8.1, q8.2) else none)))) := by
  show Res PT GX (rkT 86) 86 (pCut cd86 100, [.ref 50, .null, .int l2, .int l3, .int l4, .null], [.int s0], S) = _
  refine (R_reg PT GX (k := 86) (code := cd86) rfl [71, 100] 400).trans ?_
  refine (R_cx PT GX hRk PT_83 rfl rfl rfl rfl rfl).trans ?_
  refine bind_cong (fun q6 => ?_)
  refine (R_blk PT GX (k := 86) (code := cd86) rfl [71, 100] 400 _).trans ?_
  refine br_cong ?_ ?_
  · exact R_retI PT GX rfl rfl
  · refine (R_cx PT GX hRk PT_95 rfl rfl rfl rfl rfl).trans ?_
    refine bind_cong (fun q7 => ?_)
    refine (R_blk PT GX (k := 86) (code := cd86) rfl [71, 100] 400 _).trans ?_
    refine (R_cx PT GX hRk PT_81 rfl rfl rfl rfl rfl).trans ?_
    refine bind_cong (fun q8 => ?_)
    refine (R_blk PT GX (k := 86) (code := cd86) rfl [71, 100] 400 _).trans ?_
    exact R_ret PT GX rfl
set_option maxRecDepth 20000 in
theorem Re_calledLine_50_eq (S : pS) : Re_calledLine_50 S = (Re_opens_50 (308 : Int32) (308 : Int32) S).bind (fun q1 => if q1.1 = 0 then (some ((0 : Int32), q1.2)) else ((Re_passesNumber_50 (0 : Int32) (7 : Int32) q1.2).bind (fun q2 => if q2.1 = 0 then (some ((0 : Int32), q2.2)) else ((Re_passes_50 (317 : Int32) q2.2).bind (fun q3 => if q3.1 = 0 then (some ((0 : Int32), q3.2)) else ((Re_passesNumber_50 (0 : Int32) (99 : Int32) q3.2).bind (fun q4 => if q4.1 = 0 then (some ((0 : Int32), q4.2)) else ((Re_passes_50 (318 : Int32) q4.2).bind (fun q5 => if q5.1 = 0 then (some ((0 : Int32), q5.2)) else ((Re_passesNumber_50 (rF q5.2 50 8) (99 : Int32) q5.2).bind (fun q6 => if q6.1 = 0 then (some ((0 : Int32), q6.2)) else ((Ro_add_59 (rF q3.2 50 8) (rF q5.2 50 8) (rF q6.2 50 8) (0 : Int32) q6.2).bind (fun q7 => (Re_passes_50 (59 : Int32) q7.2).bind (fun q8 => if pBool 1 q8.1 = true then some (q8.1, q8.2) else none)))))))))))))) := by
  show Res PT GX (rkT 85) 85 (cd85, [.ref 50, .null, .null], [], S) = _
  refine (R_blk PT GX (k := 85) (code := cd85) rfl [] 400 _).trans ?_
  refine (R_cx PT GX hRk PT_82 rfl rfl rfl rfl rfl).trans ?_
  refine bind_cong (fun q1 => ?_)
  refine (R_blk PT GX (k := 85) (code := cd85) rfl [] 400 _).trans ?_
  refine br_cong ?_ ?_
  · exact R_retI PT GX rfl rfl
  · refine (R_cx PT GX hRk PT_83 rfl rfl rfl rfl rfl).trans ?_
    refine bind_cong (fun q2 => ?_)
    refine (R_blk PT GX (k := 85) (code := cd85) rfl [] 400 _).trans ?_
    refine br_cong ?_ ?_
    · exact R_retI PT GX rfl rfl
    · refine (R_cx PT GX hRk PT_81 rfl rfl rfl rfl rfl).trans ?_
      refine bind_cong (fun q3 => ?_)
      refine (R_blk PT GX (k := 85) (code := cd85) rfl [] 400 _).trans ?_
      refine br_cong ?_ ?_
      · exact R_retI PT GX rfl rfl
      · refine (R_cx PT GX hRk PT_83 rfl rfl rfl rfl rfl).trans ?_
        refine bind_cong (fun q4 => ?_)
        refine (R_blk PT GX (k := 85) (code := cd85) rfl [] 400 _).trans ?_
        refine br_cong ?_ ?_
        · exact R_retI PT GX rfl rfl
        · refine (R_cx PT GX hRk PT_81 rfl rfl rfl rfl rfl).trans ?_
          refine bind_cong (fun q5 => ?_)
          refine (R_blk PT GX (k := 85) (code := cd85) rfl [] 400 _).trans ?_
          refine br_cong ?_ ?_
          · exact R_retI PT GX rfl rfl
          · refine (R_cx PT GX hRk PT_83 rfl rfl rfl rfl rfl).trans ?_
            refine bind_cong (fun q6 => ?_)
            refine (R_blk PT GX (k := 85) (code := cd85) rfl [] 400 _).trans ?_
            refine br_cong ?_ ?_
            · exact R_retI PT GX rfl rfl
            · refine (R_cx PT GX hRk PT_95 rfl rfl rfl rfl rfl).trans ?_
              refine bind_cong (fun q7 => ?_)
              refine (R_blk PT GX (k := 85) (code := cd85) rfl [] 400 _).trans ?_
              refine (R_cx PT GX hRk PT_81 rfl rfl rfl rfl rfl).trans ?_
              refine bind_cong (fun q8 => ?_)
              refine (R_blk PT GX (k := 85) (code := cd85) rfl [] 400 _).trans ?_
              exact R_ret PT GX rfl
set_option maxRecDepth 20000 in
theorem Re_metLine_50_eq (S : pS) : Re_metLine_50 S = (Re_opens_50 (307 : Int32) (307 : Int32) S).bind (fun q1 => if q1.1 = 0 then (some ((0 : Int32), q1.2)) else ((Re_passesNumber_50 (0 : Int32) (11 : Int32) q1.2).bind (fun q2 => if q2.1 = 0 then (some ((0 : Int32), q2.2)) else ((Re_passes_50 (316 : Int32) q2.2).bind (fun q3 => if q3.1 = 0 then (some ((0 : Int32), q3.2)) else (if (rF q3.2 50 7) = ((1000 : Int32) + (rF q3.2 50 8)) then ((Re_fails_50 (2 : Int32) q3.2).bind (fun q4 => if pBool 1 q4.1 = true then some (q4.1, q4.2) else none)) else ((Re_passesNumber_50 (0 : Int32) (11 : Int32) q3.2).bind (fun q5 => if q5.1 = 0 then (some ((0 : Int32), q5.2)) else ((Ro_add_59 (rF q3.2 50 8) (rF q5.2 50 8) (0 : Int32) (0 : Int32) q5.2).bind (fun q6 => (Re_passes_50 (59 : Int32) q6.2).bind (fun q7 => if pBool 1 q7.1 = true then some (q7.1, q7.2) else none))))))))))) := by
  show Res PT GX (rkT 84) 84 (cd84, [.ref 50, .null], [], S) = _
  refine (R_blk PT GX (k := 84) (code := cd84) rfl [] 400 _).trans ?_
  refine (R_cx PT GX hRk PT_82 rfl rfl rfl rfl rfl).trans ?_
  refine bind_cong (fun q1 => ?_)
  refine (R_blk PT GX (k := 84) (code := cd84) rfl [] 400 _).trans ?_
  refine br_cong ?_ ?_
  · exact R_retI PT GX rfl rfl
  · refine (R_cx PT GX hRk PT_83 rfl rfl rfl rfl rfl).trans ?_
    refine bind_cong (fun q2 => ?_)
    refine (R_blk PT GX (k := 84) (code := cd84) rfl [] 400 _).trans ?_
    refine br_cong ?_ ?_
    · exact R_retI PT GX rfl rfl
    · refine (R_cx PT GX hRk PT_81 rfl rfl rfl rfl rfl).trans ?_
      refine bind_cong (fun q3 => ?_)
      refine (R_blk PT GX (k := 84) (code := cd84) rfl [] 400 _).trans ?_
      refine br_cong ?_ ?_
      · exact R_retI PT GX rfl rfl
      · refine br_cong ?_ ?_
        · refine (R_cx PT GX hRk PT_80 rfl rfl rfl rfl rfl).trans ?_
          refine bind_cong (fun q4 => ?_)
          refine (R_blk PT GX (k := 84) (code := cd84) rfl [] 400 _).trans ?_
          exact R_ret PT GX rfl
        · refine (R_cx PT GX hRk PT_83 rfl rfl rfl rfl rfl).trans ?_
          refine bind_cong (fun q5 => ?_)
          refine (R_blk PT GX (k := 84) (code := cd84) rfl [] 400 _).trans ?_
          refine br_cong ?_ ?_
          · exact R_retI PT GX rfl rfl
          · refine (R_cx PT GX hRk PT_95 rfl rfl rfl rfl rfl).trans ?_
            refine bind_cong (fun q6 => ?_)
            refine (R_blk PT GX (k := 84) (code := cd84) rfl [] 400 _).trans ?_
            refine (R_cx PT GX hRk PT_81 rfl rfl rfl rfl rfl).trans ?_
            refine bind_cong (fun q7 => ?_)
            refine (R_blk PT GX (k := 84) (code := cd84) rfl [] 400 _).trans ?_
            exact R_ret PT GX rfl
set_option maxRecDepth 20000 in
theorem Re_lawLine_50_eq (d : Nat) (hd : 100 ≤ d) (S : pS) : Re_lawLine_50 (d + 1) S = (Re_opens_50 (300 : Int32) (302 : Int32) S).bind (fun q1 => if q1.1 = 0 then (some ((0 : Int32), q1.2)) else ((Re_sum_50 q1.2).bind (fun q2 => if q2.1 = 0 then (some ((0 : Int32), q2.2)) else (if (rF q2.2 50 7) = (303 : Int32) then ((Re_advance_50 q2.2).bind (fun q3 => (Re_either_50 d (0 : Int32) q3.2).bind (fun q4 => if q4.1 = 0 then (some ((0 : Int32), q4.2)) else (Re_lawLine_50_c71 (d + 1) ((rF S 50 7) - (300 : Int32)) (rF S 51 7) (rF q2.2 51 7) q4.2)))) else (Re_lawLine_50_c71 (d + 1) ((rF S 50 7) - (300 : Int32)) (rF S 51 7) (rF q2.2 51 7) q2.2))))) := by
  show Res PT GX (d + 1) 87 (cd87, [.ref 50, .null, .null, .null], [], S) = _
  refine (R_blk PT GX (k := 87) (code := cd87) rfl [71] 400 _).trans ?_
  refine (R_cx PT GX hRk PT_82 rfl (dk_ok (by show 2 ≤ d; omega) rfl) rfl rfl rfl).trans ?_
  refine bind_cong (fun q1 => ?_)
  refine (R_blk PT GX (k := 87) (code := cd87) rfl [71] 400 _).trans ?_
  refine br_cong ?_ ?_
  · exact R_retI PT GX rfl rfl
  · refine (R_cx PT GX hRk PT_90 rfl (dk_ok (by show 3 ≤ d; omega) rfl) rfl rfl rfl).trans ?_
    refine bind_cong (fun q2 => ?_)
    refine (R_blk PT GX (k := 87) (code := cd87) rfl [71] 400 _).trans ?_
    refine br_cong ?_ ?_
    · exact R_retI PT GX rfl rfl
    · refine br_cong ?_ ?_
      · refine (R_cx PT GX hRk PT_79 rfl (dk_ok (by show 1 ≤ d; omega) rfl) rfl rfl rfl).trans ?_
        refine bind_cong (fun q3 => ?_)
        refine (R_blk PT GX (k := 87) (code := cd87) rfl [71] 400 _).trans ?_
        refine (R_cd PT GX PT_88 rfl rfl rfl rfl).trans ?_
        refine bind_cong (fun q4 => ?_)
        refine (R_blk PT GX (k := 87) (code := cd87) rfl [71] 400 _).trans ?_
        refine br_cong ?_ ?_
        · exact R_retI PT GX rfl rfl
        · rfl
      · rfl
set_option maxRecDepth 20000 in
theorem Re_lawLine_50_c71_eq (d : Nat) (hd : 100 ≤ d) (l1 : Int32) (l2 : Int32) (l3 : Int32) (S : pS) : Re_lawLine_50_c71 (d + 1) l1 l2 l3 S = (La_addLine_51 l1 l2 l3 S).bind (fun q5 => (Re_passes_50 (59 : Int32) q5.2).bind (fun q6 => if pBool 1 q6.1 = true then some (q6.1, q6.2) else none)) := by
  show Res PT GX (d + 1) 87 (pCut cd87 71, [.ref 50, .int l1, .int l2, .int l3], [], S) = _
  refine (R_reg PT GX (k := 87) (code := cd87) rfl [71] 400).trans ?_
  refine (R_cx PT GX hRk PT_71 rfl (dk_ok (by show 1 ≤ d; omega) rfl) rfl rfl rfl).trans ?_
  refine bind_cong (fun q5 => ?_)
  refine (R_blk PT GX (k := 87) (code := cd87) rfl [71] 400 _).trans ?_
  refine (R_cx PT GX hRk PT_81 rfl (dk_ok (by show 2 ≤ d; omega) rfl) rfl rfl rfl).trans ?_
  refine bind_cong (fun q6 => ?_)
  refine (R_blk PT GX (k := 87) (code := cd87) rfl [71] 400 _).trans ?_
  exact R_ret PT GX rfl
set_option maxRecDepth 20000 in
theorem Ro_copyFrom_15_59_eq (S : pS) : Ro_copyFrom_15_59 S = if 0 ≤ (0 : Int32) ∧ 0 ≤ (0 : Int32) ∧ 0 ≤ (if ((rF S 59 2) * (4 : Int32)) < (64 : Int32) then ((rF S 59 2) * (4 : Int32)) else (64 : Int32)) ∧ ((0 : Int32)).toNatClampNeg + ((if ((rF S 59 2) * (4 : Int32)) < (64 : Int32) then ((rF S 59 2) * (4 : Int32)) else (64 : Int32))).toNatClampNeg ≤ 64 ∧ ((0 : Int32)).toNatClampNeg + ((if ((rF S 59 2) * (4 : Int32)) < (64 : Int32) then ((rF S 59 2) * (4 : Int32)) else (64 : Int32))).toNatClampNeg ≤ 64 ∧ 0 ≤ 8 then (some (0, (wF (wC S 60 (0 : Int32) 16 (0 : Int32) (if ((rF S 59 2) * (4 : Int32)) < (64 : Int32) then ((rF S 59 2) * (4 : Int32)) else (64 : Int32))) 15 2 (rF S 59 2)))) else (none) := by
  show Res PT GX (rkT 98) 98 (cd98, [.ref 15, .ref 59], [], S) = _
  refine (R_blk PT GX (k := 98) (code := cd98) rfl [] 400 _).trans ?_
  refine br_cong ?_ ?_
  · refine brT (Or.inl rfl) ?_
    exact R_retV PT GX rfl
  · rfl
set_option maxRecDepth 20000 in
theorem To_takeCalled_3_59_eq (S : pS) : To_takeCalled_3_59 S = To_takeCalled_3_59_c2 (0 : Int32) S := by
  show Res PT GX (rkT 118) 118 (cd118, [.ref 3, .ref 59, .null, .null], [], S) = _
  exact (R_blk PT GX (k := 118) (code := cd118) rfl [2, 31] 400 _).trans rfl
set_option maxRecDepth 20000 in
theorem To_takeCalled_3_59_c2_eq (l2 : Int32) (S : pS) : To_takeCalled_3_59_c2 l2 S = if l2 < (8 : Int32) then (if inb l2 8 = true then (if inb l2 8 = true then (To_takeCalled_3_59_c2 (l2 + (1 : Int32)) (wA (wA S 13 l2 (0 : Int32)) 14 l2 (99 : Int32))) else (none)) else (none)) else (To_takeCalled_3_59_c31 (0 : Int32) S) := by
  show Res PT GX (rkT 118) 118 (pCut cd118 2, [.ref 3, .ref 59, .int l2, .null], [], S) = _
  refine (R_reg PT GX (k := 118) (code := cd118) rfl [2, 31] 400).trans ?_
  refine br_cong ?_ ?_
  · refine br_cong ?_ ?_
    · refine br_cong ?_ ?_
      · rfl
      · rfl
    · rfl
  · rfl
set_option maxRecDepth 20000 in
theorem To_takeCalled_3_59_c31_eq (l2 : Int32) (S : pS) : To_takeCalled_3_59_c31 l2 S = if l2 < (rF S 59 2) then ((Ro_at_59 l2 (0 : Int32) S).bind (fun q1 => (C_within q1.1 (8 : Int32) q1.2).bind (fun q2 => if q2.1 = 0 then (To_takeCalled_3_59_c31 (l2 + (1 : Int32)) q2.2) else ((Ro_at_59 l2 (1 : Int32) q2.2).bind (fun q3 => if inb q1.1 8 = true then ((Ro_at_59 l2 (2 : Int32) (wA q3.2 13 q1.1 q3.1)).bind (fun q4 => if inb q1.1 8 = true then (To_takeCalled_3_59_c31 (l2 + (1 : Int32)) (wA q4.2 14 q1.1 q4.1)) else (none))) else (none)))))) else (some (0, (wF S 3 9 (rF S 59 2)))) := by
  show Res PT GX (rkT 118) 118 (pCut cd118 31, [.ref 3, .ref 59, .int l2, .null], [], S) = _
  refine (R_reg PT GX (k := 118) (code := cd118) rfl [2, 31] 400).trans ?_
  refine br_cong ?_ ?_
  · refine (R_cx PT GX hRk PT_97 rfl rfl rfl rfl rfl).trans ?_
    refine bind_cong (fun q1 => ?_)
    refine (R_blk PT GX (k := 118) (code := cd118) rfl [2, 31] 400 _).trans ?_
    refine (R_cx PT GX hRk PT_156 rfl rfl rfl rfl rfl).trans ?_
    refine bind_cong (fun q2 => ?_)
    refine (R_blk PT GX (k := 118) (code := cd118) rfl [2, 31] 400 _).trans ?_
    refine br_cong ?_ ?_
    · rfl
    · refine (R_cx PT GX hRk PT_97 rfl rfl rfl rfl rfl).trans ?_
      refine bind_cong (fun q3 => ?_)
      refine (R_blk PT GX (k := 118) (code := cd118) rfl [2, 31] 400 _).trans ?_
      refine br_cong ?_ ?_
      · refine (R_cx PT GX hRk PT_97 rfl rfl rfl rfl rfl).trans ?_
        refine bind_cong (fun q4 => ?_)
        refine (R_blk PT GX (k := 118) (code := cd118) rfl [2, 31] 400 _).trans ?_
        refine br_cong ?_ ?_
        · rfl
        · rfl
      · rfl
  · refine brT (Or.inl rfl) ?_
    exact R_retV PT GX rfl
set_option maxRecDepth 20000 in
theorem To_takeMet_3_59_eq (S : pS) : To_takeMet_3_59 S = To_takeMet_3_59_c2 (0 : Int32) S := by
  show Res PT GX (rkT 117) 117 (cd117, [.ref 3, .ref 59, .null, .null], [], S) = _
  exact (R_blk PT GX (k := 117) (code := cd117) rfl [2, 23] 400 _).trans rfl
set_option maxRecDepth 20000 in
theorem To_takeMet_3_59_c2_eq (l2 : Int32) (S : pS) : To_takeMet_3_59_c2 l2 S = if l2 < (12 : Int32) then (if inb l2 12 = true then (To_takeMet_3_59_c2 (l2 + (1 : Int32)) (wA S 12 l2 (-1 : Int32))) else (none)) else (To_takeMet_3_59_c23 (0 : Int32) S) := by
  show Res PT GX (rkT 117) 117 (pCut cd117 2, [.ref 3, .ref 59, .int l2, .null], [], S) = _
  refine (R_reg PT GX (k := 117) (code := cd117) rfl [2, 23] 400).trans ?_
  refine br_cong ?_ ?_
  · refine br_cong ?_ ?_
    · rfl
    · rfl
  · rfl
set_option maxRecDepth 20000 in
theorem To_takeMet_3_59_c23_eq (l2 : Int32) (S : pS) : To_takeMet_3_59_c23 l2 S = if l2 < (rF S 59 2) then ((Ro_at_59 l2 (0 : Int32) S).bind (fun q1 => (C_within q1.1 (12 : Int32) q1.2).bind (fun q2 => if q2.1 = 0 then (To_takeMet_3_59_c23 (l2 + (1 : Int32)) q2.2) else (if inb q1.1 12 = true then (if (rA q2.2 12 q1.1) = (-1 : Int32) then ((Ro_at_59 l2 (1 : Int32) q2.2).bind (fun q3 => if inb q1.1 12 = true then (To_takeMet_3_59_c23 (l2 + (1 : Int32)) (wA q3.2 12 q1.1 q3.1)) else (none))) else (To_takeMet_3_59_c23 (l2 + (1 : Int32)) q2.2)) else (none))))) else (some (0, (wF S 3 8 (rF S 59 2)))) := by
  show Res PT GX (rkT 117) 117 (pCut cd117 23, [.ref 3, .ref 59, .int l2, .null], [], S) = _
  refine (R_reg PT GX (k := 117) (code := cd117) rfl [2, 23] 400).trans ?_
  refine br_cong ?_ ?_
  · refine (R_cx PT GX hRk PT_97 rfl rfl rfl rfl rfl).trans ?_
    refine bind_cong (fun q1 => ?_)
    refine (R_blk PT GX (k := 117) (code := cd117) rfl [2, 23] 400 _).trans ?_
    refine (R_cx PT GX hRk PT_156 rfl rfl rfl rfl rfl).trans ?_
    refine bind_cong (fun q2 => ?_)
    refine (R_blk PT GX (k := 117) (code := cd117) rfl [2, 23] 400 _).trans ?_
    refine br_cong ?_ ?_
    · rfl
    · refine br_cong ?_ ?_
      · refine br_cong ?_ ?_
        · refine (R_cx PT GX hRk PT_97 rfl rfl rfl rfl rfl).trans ?_
          refine bind_cong (fun q3 => ?_)
          refine (R_blk PT GX (k := 117) (code := cd117) rfl [2, 23] 400 _).trans ?_
          refine br_cong ?_ ?_
          · rfl
          · rfl
        · rfl
      · rfl
  · refine brT (Or.inl rfl) ?_
    exact R_retV PT GX rfl
set_option maxRecDepth 20000 in
theorem La_copyFrom_4_51_eq (S : pS) : La_copyFrom_4_51 S = if 0 ≤ (0 : Int32) ∧ 0 ≤ (0 : Int32) ∧ 0 ≤ (rF S 51 7) ∧ ((0 : Int32)).toNatClampNeg + ((rF S 51 7)).toNatClampNeg ≤ 400 ∧ ((0 : Int32)).toNatClampNeg + ((rF S 51 7)).toNatClampNeg ≤ 400 ∧ 0 ≤ 8 then (some (0, (wF (wF (wC (wC (wC (wC (wC S 52 (0 : Int32) 5 (0 : Int32) (rF S 51 7)) 53 (0 : Int32) 6 (0 : Int32) (16 : Int32)) 54 (0 : Int32) 7 (0 : Int32) (16 : Int32)) 55 (0 : Int32) 8 (0 : Int32) (16 : Int32)) 56 (0 : Int32) 9 (0 : Int32) (16 : Int32)) 4 7 (rF S 51 7)) 4 8 (rF S 51 8)))) else (none) := by
  show Res PT GX (rkT 68) 68 (cd68, [.ref 4, .ref 51], [], S) = _
  refine (R_blk PT GX (k := 68) (code := cd68) rfl [] 400 _).trans ?_
  refine br_cong ?_ ?_
  · refine brT ⟨by decide, by decide, by decide, by decide, by decide, Nat.le_of_ble_eq_true rfl⟩ ?_
    refine brT ⟨by decide, by decide, by decide, by decide, by decide, Nat.le_of_ble_eq_true rfl⟩ ?_
    refine brT ⟨by decide, by decide, by decide, by decide, by decide, Nat.le_of_ble_eq_true rfl⟩ ?_
    refine brT ⟨by decide, by decide, by decide, by decide, by decide, Nat.le_of_ble_eq_true rfl⟩ ?_
    refine brT (Or.inl rfl) ?_
    refine brT (Or.inl rfl) ?_
    exact R_retV PT GX rfl
  · rfl
set_option maxRecDepth 20000 in
theorem La_run_4_eq (a1 : Int32) (a2 : Int32) (S : pS) : La_run_4 a1 a2 S = La_run_4_c5 a2 (0 : Int32) a1 S := by
  show Res PT GX (rkT 75) 75 (cd75, [.ref 4, .int a1, .int a2, .null, .null, .null], [], S) = _
  exact (R_blk PT GX (k := 75) (code := cd75) rfl [5, 44, 93, 134] 400 _).trans rfl
set_option maxRecDepth 20000 in
theorem La_run_4_c5_eq (l2 : Int32) (l3 : Int32) (l4 : Int32) (S : pS) : La_run_4_c5 l2 l3 l4 S = if l4 < l2 then (if inb l4 400 = true then (if (rA S 5 l4) < (1000 : Int32) then (if (rA S 5 l4) < (307 : Int32) then (La_run_4_c93 l2 l3 l4 (rA S 5 l4) S) else (if (rA S 5 l4) ≤ (315 : Int32) then (La_run_4_c44 l2 l3 l4 (rA S 5 l4) S) else (La_run_4_c93 l2 l3 l4 (rA S 5 l4) S))) else (La_run_4_c44 l2 l3 l4 (rA S 5 l4) S)) else (none)) else (if l3 ≤ 0 then (some ((0 : Int32), S)) else (if inb (l3 - (1 : Int32)) 32 = true then (some ((rA S 11 (l3 - (1 : Int32))), S)) else (none))) := by
  show Res PT GX (rkT 75) 75 (pCut cd75 5, [.ref 4, .null, .int l2, .int l3, .int l4, .null], [], S) = _
  refine (R_reg PT GX (k := 75) (code := cd75) rfl [5, 44, 93, 134] 400).trans ?_
  refine br_cong ?_ ?_
  · refine br_cong ?_ ?_
    · refine br_cong ?_ ?_
      · refine br_cong ?_ ?_
        · rfl
        · refine br_cong ?_ ?_
          · rfl
          · rfl
      · rfl
    · rfl
  · refine br_cong ?_ ?_
    · exact R_retI PT GX rfl rfl
    · refine br_cong ?_ ?_
      · exact R_retI PT GX rfl rfl
      · rfl
set_option maxRecDepth 20000 in
theorem La_run_4_c93_eq (l2 : Int32) (l3 : Int32) (l4 : Int32) (l5 : Int32) (S : pS) : La_run_4_c93 l2 l3 l4 l5 S = if l5 = (306 : Int32) then (if l3 ≤ 0 then (La_run_4_c5 l2 l3 (l4 + (1 : Int32)) S) else (if inb (l3 - (1 : Int32)) 32 = true then (if inb (l3 - (1 : Int32)) 32 = true then (La_run_4_c5 l2 l3 (l4 + (1 : Int32)) (wA S 11 (l3 - (1 : Int32)) ((1 : Int32) - (rA S 11 (l3 - (1 : Int32)))))) else (none)) else (none))) else (if l3 ≤ (1 : Int32) then (La_run_4_c5 l2 l3 (l4 + (1 : Int32)) S) else (La_run_4_c134 l2 (l3 + (-1 : Int32)) l4 l5 S)) := by
  show Res PT GX (rkT 75) 75 (pCut cd75 93, [.ref 4, .null, .int l2, .int l3, .int l4, .int l5], [], S) = _
  refine (R_reg PT GX (k := 75) (code := cd75) rfl [5, 44, 93, 134] 400).trans ?_
  refine br_cong ?_ ?_
  · refine br_cong ?_ ?_
    · rfl
    · refine br_cong ?_ ?_
      · refine br_cong ?_ ?_
        · rfl
        · rfl
      · rfl
  · refine br_cong ?_ ?_
    · rfl
    · rfl
set_option maxRecDepth 20000 in
theorem La_run_4_c44_eq (l2 : Int32) (l3 : Int32) (l4 : Int32) (l5 : Int32) (S : pS) : La_run_4_c44 l2 l3 l4 l5 S = if l3 < (32 : Int32) then (if l5 < (1000 : Int32) then (if inb (l5 - (307 : Int32)) 9 = true then (if inb l3 32 = true then (La_run_4_c5 l2 (l3 + (1 : Int32)) (l4 + (1 : Int32)) (wA S 11 l3 (rA S 10 (l5 - (307 : Int32))))) else (none)) else (none)) else (if inb l3 32 = true then (La_run_4_c5 l2 (l3 + (1 : Int32)) (l4 + (1 : Int32)) (wA S 11 l3 (l5 - (1000 : Int32)))) else (none))) else (La_run_4_c5 l2 l3 (l4 + (1 : Int32)) S) := by
  show Res PT GX (rkT 75) 75 (pCut cd75 44, [.ref 4, .null, .int l2, .int l3, .int l4, .int l5], [], S) = _
  refine (R_reg PT GX (k := 75) (code := cd75) rfl [5, 44, 93, 134] 400).trans ?_
  refine br_cong ?_ ?_
  · refine br_cong ?_ ?_
    · refine br_cong ?_ ?_
      · refine br_cong ?_ ?_
        · rfl
        · rfl
      · rfl
    · refine br_cong ?_ ?_
      · rfl
      · rfl
  · rfl
set_option maxRecDepth 20000 in
theorem La_run_4_c134_eq (l2 : Int32) (l3 : Int32) (l4 : Int32) (l5 : Int32) (S : pS) : La_run_4_c134 l2 l3 l4 l5 S = if inb (l3 - (1 : Int32)) 32 = true then (if inb l3 32 = true then ((La_joined l5 (rA S 11 (l3 - (1 : Int32))) (rA S 11 l3) S).bind (fun q1 => if inb (l3 - (1 : Int32)) 32 = true then (La_run_4_c5 l2 l3 (l4 + (1 : Int32)) (wA q1.2 11 (l3 - (1 : Int32)) q1.1)) else (none))) else (none)) else (none) := by
  show Res PT GX (rkT 75) 75 (pCut cd75 134, [.ref 4, .null, .int l2, .int l3, .int l4, .int l5], [], S) = _
  refine (R_reg PT GX (k := 75) (code := cd75) rfl [5, 44, 93, 134] 400).trans ?_
  refine br_cong ?_ ?_
  · refine br_cong ?_ ?_
    · refine (R_cx PT GX hRk PT_76 rfl rfl rfl rfl rfl).trans ?_
      refine bind_cong (fun q1 => ?_)
      refine (R_blk PT GX (k := 75) (code := cd75) rfl [5, 44, 93, 134] 400 _).trans ?_
      refine br_cong ?_ ?_
      · rfl
      · rfl
    · rfl
  · rfl
set_option maxRecDepth 20000 in
theorem La_unlessTold_eq (a0 : Int32) (a1 : Int32) (S : pS) : La_unlessTold a0 a1 S = if a0 = (0 : Int32) then (some (((900 : Int32) - ((20 : Int32) * a1)), S)) else (if a0 = (1 : Int32) then (some ((a1 / (9 : Int32)), S)) else (some (((99 : Int32) - a1), S))) := by
  show Res PT GX (rkT 73) 73 (cd73, [.int a0, .int a1], [], S) = _
  refine (R_blk PT GX (k := 73) (code := cd73) rfl [] 400 _).trans ?_
  refine br_cong ?_ ?_
  · exact R_retI PT GX rfl rfl
  · refine br_cong ?_ ?_
    · refine brF (by decide) ?_
      exact R_retI PT GX rfl rfl
    · exact R_retI PT GX rfl rfl
set_option maxRecDepth 20000 in
theorem La_held_eq (a0 : Int32) (a1 : Int32) (S : pS) : La_held a0 a1 S = if a0 = 0 then (La_held_c23 a1 (1000 : Int32) S) else (if a0 = (1 : Int32) then (La_held_c23 a1 (99 : Int32) S) else (La_held_c23 a1 (999 : Int32) S)) := by
  show Res PT GX (rkT 74) 74 (cd74, [.int a0, .int a1, .null], [], S) = _
  refine (R_blk PT GX (k := 74) (code := cd74) rfl [23] 400 _).trans ?_
  refine br_cong ?_ ?_
  · rfl
  · refine br_cong ?_ ?_
    · rfl
    · rfl
set_option maxRecDepth 20000 in
theorem La_held_c23_eq (l1 : Int32) (s0 : Int32) (S : pS) : La_held_c23 l1 s0 S = some ((if (0 : Int32) < (if l1 < s0 then l1 else s0) then (if l1 < s0 then l1 else s0) else (0 : Int32)), S) := by
  show Res PT GX (rkT 74) 74 (pCut cd74 23, [.null, .int l1, .null], [.int s0], S) = _
  refine (R_reg PT GX (k := 74) (code := cd74) rfl [23] 400).trans ?_
  exact R_retI PT GX rfl rfl
set_option maxRecDepth 20000 in
theorem Ke_carryOut_28_eq (a1 : Int32) (a2 : Int32) (S : pS) : Ke_carryOut_28 a1 a2 S = if a1 = (320 : Int32) then ((Ke_throwCards_28 a2 S).bind (fun q1 => some (0, q1.2))) else (if a1 = (321 : Int32) then ((Ke_ringPerson_28 a2 S).bind (fun q2 => some (0, q2.2))) else ((Dr_has_26 a2 S).bind (fun q3 => if q3.1 = 0 then (some (0, q3.2)) else (if a1 = (322 : Int32) then ((Ke_bendCard_28 a2 q3.2).bind (fun q4 => some (0, q4.2))) else ((Ke_findCard_28 a2 q3.2).bind (fun q5 => some (0, q5.2))))))) := by
  show Res PT GX (rkT 64) 64 (cd64, [.ref 28, .int a1, .int a2], [], S) = _
  refine (R_blk PT GX (k := 64) (code := cd64) rfl [] 400 _).trans ?_
  refine br_cong ?_ ?_
  · refine (R_cx PT GX hRk PT_59 rfl rfl rfl rfl rfl).trans ?_
    refine bind_cong (fun q1 => ?_)
    refine (R_blk PT GX (k := 64) (code := cd64) rfl [] 400 _).trans ?_
    exact R_retV PT GX rfl
  · refine br_cong ?_ ?_
    · refine (R_cx PT GX hRk PT_58 rfl rfl rfl rfl rfl).trans ?_
      refine bind_cong (fun q2 => ?_)
      refine (R_blk PT GX (k := 64) (code := cd64) rfl [] 400 _).trans ?_
      exact R_retV PT GX rfl
    · refine (R_cx PT GX hRk PT_38 rfl rfl rfl rfl rfl).trans ?_
      refine bind_cong (fun q3 => ?_)
      refine (R_blk PT GX (k := 64) (code := cd64) rfl [] 400 _).trans ?_
      refine br_cong ?_ ?_
      · exact R_retV PT GX rfl
      · refine br_cong ?_ ?_
        · refine (R_cx PT GX hRk PT_61 rfl rfl rfl rfl rfl).trans ?_
          refine bind_cong (fun q4 => ?_)
          refine (R_blk PT GX (k := 64) (code := cd64) rfl [] 400 _).trans ?_
          exact R_retV PT GX rfl
        · refine (R_cx PT GX hRk PT_62 rfl rfl rfl rfl rfl).trans ?_
          refine bind_cong (fun q5 => ?_)
          refine (R_blk PT GX (k := 64) (code := cd64) rfl [] 400 _).trans ?_
          exact R_retV PT GX rfl
set_option maxRecDepth 20000 in
theorem Ke_wantTrade_28_eq (S : pS) : Ke_wantTrade_28 S = if (rF S 28 3) = 0 then ((Dr_draw_26 (6 : Int32) S).bind (fun q1 => Ke_wantTrade_28_c29 q1.1 q1.2)) else (Ke_wantTrade_28_c29 ((rF S 26 3) - (rF S 26 3) / (6 : Int32) * (6 : Int32)) S) := by
  show Res PT GX (rkT 65) 65 (cd65, [.ref 28, .null, .null], [], S) = _
  refine (R_blk PT GX (k := 65) (code := cd65) rfl [29] 400 _).trans ?_
  refine br_cong ?_ ?_
  · refine (R_cx PT GX hRk PT_47 rfl rfl rfl rfl rfl).trans ?_
    refine bind_cong (fun q1 => ?_)
    exact (R_blk PT GX (k := 65) (code := cd65) rfl [29] 400 _).trans rfl
  · refine brF (by decide) ?_
    rfl
set_option maxRecDepth 20000 in
theorem Ke_wantTrade_28_c29_eq (s0 : Int32) (S : pS) : Ke_wantTrade_28_c29 s0 S = (Dr_keptWith_26 (2 : Int32) s0 S).bind (fun q2 => (Ke_likeliest_28 q2.1 q2.2).bind (fun q3 => if q3.1 = (-1 : Int32) then ((Ke_enter_28 (7 : Int32) s0 (0 : Int32) (wF q3.2 26 6 ((rF q3.2 26 6) + (1 : Int32)))).bind (fun q4 => some (0, q4.2))) else ((Ke_reaches_28 q3.1 q3.2).bind (fun q5 => if q5.1 = 0 then ((Ke_enter_28 (6 : Int32) q3.1 (rF q5.2 28 4) (wF q5.2 26 5 ((rF q5.2 26 5) + (1 : Int32)))).bind (fun q6 => some (0, q6.2))) else ((Ke_enter_28 (5 : Int32) q3.1 (rF q5.2 28 4) (wF q5.2 26 4 ((rF q5.2 26 4) + (1 : Int32)))).bind (fun q7 => some (0, q7.2))))))) := by
  show Res PT GX (rkT 65) 65 (pCut cd65 29, [.ref 28, .null, .null], [.int s0], S) = _
  refine (R_reg PT GX (k := 65) (code := cd65) rfl [29] 400).trans ?_
  refine (R_cx PT GX hRk PT_45 rfl rfl rfl rfl rfl).trans ?_
  refine bind_cong (fun q2 => ?_)
  refine (R_blk PT GX (k := 65) (code := cd65) rfl [29] 400 _).trans ?_
  refine (R_cx PT GX hRk PT_55 rfl rfl rfl rfl rfl).trans ?_
  refine bind_cong (fun q3 => ?_)
  refine (R_blk PT GX (k := 65) (code := cd65) rfl [29] 400 _).trans ?_
  refine br_cong ?_ ?_
  · refine brT (Or.inl rfl) ?_
    refine (R_cx PT GX hRk PT_54 rfl rfl rfl rfl rfl).trans ?_
    refine bind_cong (fun q4 => ?_)
    refine (R_blk PT GX (k := 65) (code := cd65) rfl [29] 400 _).trans ?_
    exact R_retV PT GX rfl
  · refine (R_cx PT GX hRk PT_57 rfl rfl rfl rfl rfl).trans ?_
    refine bind_cong (fun q5 => ?_)
    refine (R_blk PT GX (k := 65) (code := cd65) rfl [29] 400 _).trans ?_
    refine br_cong ?_ ?_
    · refine brT (Or.inl rfl) ?_
      refine (R_cx PT GX hRk PT_54 rfl rfl rfl rfl rfl).trans ?_
      refine bind_cong (fun q6 => ?_)
      refine (R_blk PT GX (k := 65) (code := cd65) rfl [29] 400 _).trans ?_
      exact R_retV PT GX rfl
    · refine brT (Or.inl rfl) ?_
      refine (R_cx PT GX hRk PT_54 rfl rfl rfl rfl rfl).trans ?_
      refine bind_cong (fun q7 => ?_)
      refine (R_blk PT GX (k := 65) (code := cd65) rfl [29] 400 _).trans ?_
      exact R_retV PT GX rfl
set_option maxRecDepth 20000 in
theorem Dr_isKept_26_eq (a1 : Int32) (S : pS) : Dr_isKept_26 a1 S = (C_holdsBit (rF S 26 2) a1 S).bind (fun q1 => if pBool 1 q1.1 = true then some (q1.1, q1.2) else none) := by
  show Res PT GX (rkT 39) 39 (cd39, [.ref 26, .int a1], [], S) = _
  refine (R_blk PT GX (k := 39) (code := cd39) rfl [] 400 _).trans ?_
  refine (R_cx PT GX hRk PT_157 rfl rfl rfl rfl rfl).trans ?_
  refine bind_cong (fun q1 => ?_)
  refine (R_blk PT GX (k := 39) (code := cd39) rfl [] 400 _).trans ?_
  exact R_ret PT GX rfl
set_option maxRecDepth 20000 in
theorem Ke_wearCard_28_eq (a1 : Int32) (S : pS) : Ke_wearCard_28 a1 S = (Dr_read_26 a1 (5 : Int32) S).bind (fun q1 => (La_tell_4_26 a1 (1 : Int32) q1.2).bind (fun q2 => (Dr_wear_26 a1 q2.1 q2.2).bind (fun q3 => (Dr_read_26 a1 (5 : Int32) q3.2).bind (fun q4 => if q4.1 < (99 : Int32) then (some (0, q4.2)) else ((Dr_drop_26 a1 q4.2).bind (fun q5 => (Ke_enter_28 (8 : Int32) a1 q1.1 q5.2).bind (fun q6 => some (0, q6.2)))))))) := by
  show Res PT GX (rkT 66) 66 (cd66, [.ref 28, .int a1, .null], [], S) = _
  refine (R_blk PT GX (k := 66) (code := cd66) rfl [] 400 _).trans ?_
  refine (R_cx PT GX hRk PT_40 rfl rfl rfl rfl rfl).trans ?_
  refine bind_cong (fun q1 => ?_)
  refine (R_blk PT GX (k := 66) (code := cd66) rfl [] 400 _).trans ?_
  refine (R_cx PT GX hRk PT_72 rfl rfl rfl rfl rfl).trans ?_
  refine bind_cong (fun q2 => ?_)
  refine (R_blk PT GX (k := 66) (code := cd66) rfl [] 400 _).trans ?_
  refine (R_cx PT GX hRk PT_44 rfl rfl rfl rfl rfl).trans ?_
  refine bind_cong (fun q3 => ?_)
  refine (R_blk PT GX (k := 66) (code := cd66) rfl [] 400 _).trans ?_
  refine (R_cx PT GX hRk PT_40 rfl rfl rfl rfl rfl).trans ?_
  refine bind_cong (fun q4 => ?_)
  refine (R_blk PT GX (k := 66) (code := cd66) rfl [] 400 _).trans ?_
  refine br_cong ?_ ?_
  · exact R_retV PT GX rfl
  · refine (R_cx PT GX hRk PT_43 rfl rfl rfl rfl rfl).trans ?_
    refine bind_cong (fun q5 => ?_)
    refine (R_blk PT GX (k := 66) (code := cd66) rfl [] 400 _).trans ?_
    refine (R_cx PT GX hRk PT_54 rfl rfl rfl rfl rfl).trans ?_
    refine bind_cong (fun q6 => ?_)
    refine (R_blk PT GX (k := 66) (code := cd66) rfl [] 400 _).trans ?_
    exact R_retV PT GX rfl
set_option maxRecDepth 20000 in
theorem Ro_at_17_eq (a1 : Int32) (a2 : Int32) (S : pS) : Ro_at_17 a1 a2 S = if a1 < 0 then (some ((-1 : Int32), S)) else (if a1 < (rF S 17 2) then ((C_within a2 (4 : Int32) S).bind (fun q1 => if q1.1 = 0 then (some ((-1 : Int32), q1.2)) else (if inb ((a1 * (4 : Int32)) + a2) 48 = true then (some ((rA q1.2 18 ((a1 * (4 : Int32)) + a2)), q1.2)) else (none)))) else (some ((-1 : Int32), S))) := by
  show Res PT GX (rkT 97) 97 (cd97, [.ref 17, .int a1, .int a2], [], S) = _
  refine (R_blk PT GX (k := 97) (code := cd97) rfl [] 400 _).trans ?_
  refine br_cong ?_ ?_
  · exact R_retI PT GX rfl rfl
  · refine br_cong ?_ ?_
    · refine (R_cx PT GX hRk PT_156 rfl rfl rfl rfl rfl).trans ?_
      refine bind_cong (fun q1 => ?_)
      refine (R_blk PT GX (k := 97) (code := cd97) rfl [] 400 _).trans ?_
      refine br_cong ?_ ?_
      · exact R_retI PT GX rfl rfl
      · refine br_cong ?_ ?_
        · exact R_retI PT GX rfl rfl
        · rfl
    · exact R_retI PT GX rfl rfl
set_option maxRecDepth 20000 in
theorem Da_order_61_eq (a1 : Int32) (a2 : Int32) (S : pS) : Da_order_61 a1 a2 S = (Dr_has_1 a1 S).bind (fun q1 => if q1.1 = 0 then (some (0, q1.2)) else ((Dr_has_1 a2 q1.2).bind (fun q2 => if q2.1 = 0 then (some (0, q2.2)) else (if inb a2 14 = true then (if inb a1 14 = true then (if inb a2 14 = true then (if inb a1 14 = true then (if inb a2 14 = true then (if inb a1 14 = true then (some (0, (wA (wA q2.2 62 a2 (if (rA q2.2 62 a2) < (rA q2.2 62 a1) then (rA q2.2 62 a1) else (rA q2.2 62 a2))) 63 a1 (if (rA q2.2 63 a2) < (rA q2.2 63 a1) then (rA q2.2 63 a2) else (rA q2.2 63 a1))))) else (none)) else (none)) else (none)) else (none)) else (none)) else (none))))) := by
  show Res PT GX (rkT 35) 35 (cd35, [.ref 61, .int a1, .int a2], [], S) = _
  refine (R_blk PT GX (k := 35) (code := cd35) rfl [] 400 _).trans ?_
  refine (R_cx PT GX hRk PT_38 rfl rfl rfl rfl rfl).trans ?_
  refine bind_cong (fun q1 => ?_)
  refine (R_blk PT GX (k := 35) (code := cd35) rfl [] 400 _).trans ?_
  refine br_cong ?_ ?_
  · exact R_retV PT GX rfl
  · refine (R_cx PT GX hRk PT_38 rfl rfl rfl rfl rfl).trans ?_
    refine bind_cong (fun q2 => ?_)
    refine (R_blk PT GX (k := 35) (code := cd35) rfl [] 400 _).trans ?_
    refine br_cong ?_ ?_
    · exact R_retV PT GX rfl
    · refine br_cong ?_ ?_
      · refine br_cong ?_ ?_
        · refine br_cong ?_ ?_
          · refine br_cong ?_ ?_
            · refine br_cong ?_ ?_
              · refine br_cong ?_ ?_
                · exact R_retV PT GX rfl
                · rfl
              · rfl
            · rfl
          · rfl
        · rfl
      · rfl
set_option maxRecDepth 20000 in
theorem Ci_learn_64_eq (S : pS) : Ci_learn_64 S = Ci_learn_64_c2 (0 : Int32) S := by
  show Res PT GX (rkT 20) 20 (cd20, [.ref 64, .null, .null, .null], [], S) = _
  exact (R_blk PT GX (k := 20) (code := cd20) rfl [2, 25] 400 _).trans rfl
set_option maxRecDepth 20000 in
theorem Ci_learn_64_c2_eq (l1 : Int32) (S : pS) : Ci_learn_64_c2 l1 S = if l1 < (12 : Int32) then (if inb l1 12 = true then (Ci_learn_64_c2 (l1 + (1 : Int32)) (wA S 65 l1 (0 : Int32))) else (none)) else (Ci_learn_64_c25 (0 : Int32) (0 : Int32) S) := by
  show Res PT GX (rkT 20) 20 (pCut cd20 2, [.ref 64, .int l1, .null, .null], [], S) = _
  refine (R_reg PT GX (k := 20) (code := cd20) rfl [2, 25] 400).trans ?_
  refine br_cong ?_ ?_
  · refine br_cong ?_ ?_
    · rfl
    · rfl
  · rfl
set_option maxRecDepth 20000 in
theorem Ci_learn_64_c25_eq (l1 : Int32) (l2 : Int32) (S : pS) : Ci_learn_64_c25 l1 l2 S = if l2 < (12 : Int32) then ((To_introducer_3 l2 S).bind (fun q1 => (C_within q1.1 (12 : Int32) q1.2).bind (fun q2 => if q2.1 = 0 then (Ci_learn_64_c25 l1 (l2 + (1 : Int32)) q2.2) else (if inb l2 12 = true then (if inb l2 12 = true then (if inb q1.1 12 = true then (if inb q1.1 12 = true then (Ci_learn_64_c25 (l1 ||| (((1 : Int32) <<< (l2 &&& 31)) ||| ((1 : Int32) <<< (q1.1 &&& 31)))) (l2 + (1 : Int32)) (wA (wA q2.2 65 l2 ((rA q2.2 65 l2) ||| ((1 : Int32) <<< (q1.1 &&& 31)))) 65 q1.1 ((rA (wA q2.2 65 l2 ((rA q2.2 65 l2) ||| ((1 : Int32) <<< (q1.1 &&& 31)))) 65 q1.1) ||| ((1 : Int32) <<< (l2 &&& 31))))) else (none)) else (none)) else (none)) else (none))))) else (some (l1, S)) := by
  show Res PT GX (rkT 20) 20 (pCut cd20 25, [.ref 64, .int l1, .int l2, .null], [], S) = _
  refine (R_reg PT GX (k := 20) (code := cd20) rfl [2, 25] 400).trans ?_
  refine br_cong ?_ ?_
  · refine (R_cx PT GX hRk PT_113 rfl rfl rfl rfl rfl).trans ?_
    refine bind_cong (fun q1 => ?_)
    refine (R_blk PT GX (k := 20) (code := cd20) rfl [2, 25] 400 _).trans ?_
    refine (R_cx PT GX hRk PT_156 rfl rfl rfl rfl rfl).trans ?_
    refine bind_cong (fun q2 => ?_)
    refine (R_blk PT GX (k := 20) (code := cd20) rfl [2, 25] 400 _).trans ?_
    refine br_cong ?_ ?_
    · rfl
    · refine br_cong ?_ ?_
      · refine br_cong ?_ ?_
        · refine br_cong ?_ ?_
          · refine br_cong ?_ ?_
            · rfl
            · rfl
          · rfl
        · rfl
      · rfl
  · exact R_retI PT GX rfl rfl
set_option maxRecDepth 20000 in
theorem Ci_measure_64_eq (a1 : Int32) (S : pS) : Ci_measure_64 a1 S = Ci_measure_64_c2 a1 (0 : Int32) S := by
  show Res PT GX (rkT 22) 22 (cd22, [.ref 64, .int a1, .null, .null, .null, .null], [], S) = _
  exact (R_blk PT GX (k := 22) (code := cd22) rfl [2, 30, 40] 400 _).trans rfl
set_option maxRecDepth 20000 in
theorem Ci_measure_64_c2_eq (l1 : Int32) (l2 : Int32) (S : pS) : Ci_measure_64_c2 l1 l2 S = if l2 < (12 : Int32) then (if inb l2 12 = true then (Ci_measure_64_c2 l1 (l2 + (1 : Int32)) (wA S 66 l2 (-1 : Int32))) else (none)) else (Ci_measure_64_c30 (0 : Int32) ((1 : Int32) <<< (l1 &&& 31)) (0 : Int32) S) := by
  show Res PT GX (rkT 22) 22 (pCut cd22 2, [.ref 64, .int l1, .int l2, .null, .null, .null], [], S) = _
  refine (R_reg PT GX (k := 22) (code := cd22) rfl [2, 30, 40] 400).trans ?_
  refine br_cong ?_ ?_
  · refine br_cong ?_ ?_
    · rfl
    · rfl
  · rfl
set_option maxRecDepth 20000 in
theorem Ci_measure_64_c30_eq (l2 : Int32) (l3 : Int32) (l4 : Int32) (S : pS) : Ci_measure_64_c30 l2 l3 l4 S = if l4 < (12 : Int32) then (Ci_measure_64_c40 l2 l3 l4 (0 : Int32) S) else (some (0, S)) := by
  show Res PT GX (rkT 22) 22 (pCut cd22 30, [.ref 64, .null, .int l2, .int l3, .int l4, .null], [], S) = _
  refine (R_reg PT GX (k := 22) (code := cd22) rfl [2, 30, 40] 400).trans ?_
  refine br_cong ?_ ?_
  · rfl
  · exact R_retV PT GX rfl
set_option maxRecDepth 20000 in
theorem Ci_measure_64_c40_eq (l2 : Int32) (l3 : Int32) (l4 : Int32) (l5 : Int32) (S : pS) : Ci_measure_64_c40 l2 l3 l4 l5 S = if l5 < (12 : Int32) then ((C_holdsBit l3 l5 S).bind (fun q1 => if q1.1 = 0 then (Ci_measure_64_c40 l2 l3 l4 (l5 + (1 : Int32)) q1.2) else (if inb l5 12 = true then (Ci_measure_64_c40 l2 l3 l4 (l5 + (1 : Int32)) (wA q1.2 66 l5 l4)) else (none)))) else ((Ci_besideSome_64 l3 S).bind (fun q2 => Ci_measure_64_c30 (l2 ||| l3) (q2.1 &&& ((l2 ||| l3) ^^^ (-1 : Int32))) (l4 + (1 : Int32)) q2.2)) := by
  show Res PT GX (rkT 22) 22 (pCut cd22 40, [.ref 64, .null, .int l2, .int l3, .int l4, .int l5], [], S) = _
  refine (R_reg PT GX (k := 22) (code := cd22) rfl [2, 30, 40] 400).trans ?_
  refine br_cong ?_ ?_
  · refine (R_cx PT GX hRk PT_157 rfl rfl rfl rfl rfl).trans ?_
    refine bind_cong (fun q1 => ?_)
    refine (R_blk PT GX (k := 22) (code := cd22) rfl [2, 30, 40] 400 _).trans ?_
    refine br_cong ?_ ?_
    · rfl
    · refine br_cong ?_ ?_
      · rfl
      · rfl
  · refine (R_cx PT GX hRk PT_21 rfl rfl rfl rfl rfl).trans ?_
    refine bind_cong (fun q2 => ?_)
    exact (R_blk PT GX (k := 22) (code := cd22) rfl [2, 30, 40] 400 _).trans rfl
set_option maxRecDepth 20000 in
theorem Dr_peopleOn_1_eq (a1 : Int32) (S : pS) : Dr_peopleOn_1 a1 S = Dr_peopleOn_1_c4 a1 (0 : Int32) (0 : Int32) S := by
  show Res PT GX (rkT 46) 46 (cd46, [.ref 1, .int a1, .null, .null], [], S) = _
  exact (R_blk PT GX (k := 46) (code := cd46) rfl [4] 400 _).trans rfl
set_option maxRecDepth 20000 in
theorem Dr_peopleOn_1_c4_eq (l1 : Int32) (l2 : Int32) (l3 : Int32) (S : pS) : Dr_peopleOn_1_c4 l1 l2 l3 S = if l3 < (rF S 1 1) then ((C_holdsBit l1 l3 S).bind (fun q1 => if q1.1 = 0 then (Dr_peopleOn_1_c4 l1 l2 (l3 + (1 : Int32)) q1.2) else ((Dr_read_1 l3 (0 : Int32) q1.2).bind (fun q2 => Dr_peopleOn_1_c4 l1 (l2 ||| ((1 : Int32) <<< (q2.1 &&& 31))) (l3 + (1 : Int32)) q2.2)))) else (some (l2, S)) := by
  show Res PT GX (rkT 46) 46 (pCut cd46 4, [.ref 1, .int l1, .int l2, .int l3], [], S) = _
  refine (R_reg PT GX (k := 46) (code := cd46) rfl [4] 400).trans ?_
  refine br_cong ?_ ?_
  · refine (R_cx PT GX hRk PT_157 rfl rfl rfl rfl rfl).trans ?_
    refine bind_cong (fun q1 => ?_)
    refine (R_blk PT GX (k := 46) (code := cd46) rfl [4] 400 _).trans ?_
    refine br_cong ?_ ?_
    · rfl
    · refine (R_cx PT GX hRk PT_40 rfl rfl rfl rfl rfl).trans ?_
      refine bind_cong (fun q2 => ?_)
      exact (R_blk PT GX (k := 46) (code := cd46) rfl [4] 400 _).trans rfl
  · exact R_retI PT GX rfl rfl
set_option maxRecDepth 20000 in
theorem Ci_firstOnTheWay_64_eq (S : pS) : Ci_firstOnTheWay_64 S = (Ci_measure_64 (rF S 64 5) S).bind (fun q1 => Ci_firstOnTheWay_64_c10 (0 : Int32) q1.2) := by
  show Res PT GX (rkT 24) 24 (cd24, [.ref 64, .null], [], S) = _
  refine (R_blk PT GX (k := 24) (code := cd24) rfl [10] 400 _).trans ?_
  refine (R_cx PT GX hRk PT_22 rfl rfl rfl rfl rfl).trans ?_
  refine bind_cong (fun q1 => ?_)
  exact (R_blk PT GX (k := 24) (code := cd24) rfl [10] 400 _).trans rfl
set_option maxRecDepth 20000 in
theorem Ci_firstOnTheWay_64_c10_eq (l1 : Int32) (S : pS) : Ci_firstOnTheWay_64_c10 l1 S = if l1 < (12 : Int32) then ((C_holdsBit (rA S 65 (0 : Int32)) l1 S).bind (fun q2 => if q2.1 = 0 then (Ci_firstOnTheWay_64_c10 (l1 + (1 : Int32)) q2.2) else (if inb l1 12 = true then (if (rA q2.2 66 l1) = ((rF q2.2 64 4) - (1 : Int32)) then (some (l1, q2.2)) else (Ci_firstOnTheWay_64_c10 (l1 + (1 : Int32)) q2.2)) else (none)))) else (some ((rF S 64 5), S)) := by
  show Res PT GX (rkT 24) 24 (pCut cd24 10, [.ref 64, .int l1], [], S) = _
  refine (R_reg PT GX (k := 24) (code := cd24) rfl [10] 400).trans ?_
  refine br_cong ?_ ?_
  · refine brT (by decide) ?_
    refine (R_cx PT GX hRk PT_157 rfl rfl rfl rfl rfl).trans ?_
    refine bind_cong (fun q2 => ?_)
    refine (R_blk PT GX (k := 24) (code := cd24) rfl [10] 400 _).trans ?_
    refine br_cong ?_ ?_
    · rfl
    · refine br_cong ?_ ?_
      · refine br_cong ?_ ?_
        · exact R_retI PT GX rfl rfl
        · rfl
      · rfl
  · exact R_retI PT GX rfl rfl
set_option maxRecDepth 20000 in
theorem Ci_isHeardByAll_64_eq (a1 : Int32) (a2 : Int32) (S : pS) : Ci_isHeardByAll_64 a1 a2 S = (Ci_besideSome_64 a1 S).bind (fun q1 => if (a2 &&& ((a1 ||| q1.1) ^^^ (-1 : Int32))) = 0 then (some ((1 : Int32), q1.2)) else (some ((0 : Int32), q1.2))) := by
  show Res PT GX (rkT 28) 28 (cd28, [.ref 64, .int a1, .int a2], [], S) = _
  refine (R_blk PT GX (k := 28) (code := cd28) rfl [] 400 _).trans ?_
  refine (R_cx PT GX hRk PT_21 rfl rfl rfl rfl rfl).trans ?_
  refine bind_cong (fun q1 => ?_)
  refine (R_blk PT GX (k := 28) (code := cd28) rfl [] 400 _).trans ?_
  refine br_cong ?_ ?_
  · exact R_retI PT GX rfl rfl
  · exact R_retI PT GX rfl rfl
set_option maxRecDepth 20000 in
theorem Ci_besideSome_64_eq (a1 : Int32) (S : pS) : Ci_besideSome_64 a1 S = Ci_besideSome_64_c4 a1 (0 : Int32) (0 : Int32) S := by
  show Res PT GX (rkT 21) 21 (cd21, [.ref 64, .int a1, .null, .null], [], S) = _
  exact (R_blk PT GX (k := 21) (code := cd21) rfl [4] 400 _).trans rfl
set_option maxRecDepth 20000 in
theorem Ci_besideSome_64_c4_eq (l1 : Int32) (l2 : Int32) (l3 : Int32) (S : pS) : Ci_besideSome_64_c4 l1 l2 l3 S = if l3 < (12 : Int32) then ((C_holdsBit l1 l3 S).bind (fun q1 => if q1.1 = 0 then (Ci_besideSome_64_c4 l1 l2 (l3 + (1 : Int32)) q1.2) else (if inb l3 12 = true then (Ci_besideSome_64_c4 l1 (l2 ||| (rA q1.2 65 l3)) (l3 + (1 : Int32)) q1.2) else (none)))) else (some (l2, S)) := by
  show Res PT GX (rkT 21) 21 (pCut cd21 4, [.ref 64, .int l1, .int l2, .int l3], [], S) = _
  refine (R_reg PT GX (k := 21) (code := cd21) rfl [4] 400).trans ?_
  refine br_cong ?_ ?_
  · refine (R_cx PT GX hRk PT_157 rfl rfl rfl rfl rfl).trans ?_
    refine bind_cong (fun q1 => ?_)
    refine (R_blk PT GX (k := 21) (code := cd21) rfl [4] 400 _).trans ?_
    refine br_cong ?_ ?_
    · rfl
    · refine br_cong ?_ ?_
      · rfl
      · rfl
  · exact R_retI PT GX rfl rfl
set_option maxRecDepth 20000 in
theorem Ch_tryCard_67_eq (a1 : Int32) (a2 : Int32) (S : pS) : Ch_tryCard_67 a1 a2 S = (Ch_questionsFor_67 a1 S).bind (fun q1 => if q1.1 = 0 then (some (0, q1.2)) else (Ch_tryCard_67_c14 a1 a2 q1.1 (0 : Int32) q1.2)) := by
  show Res PT GX (rkT 2) 2 (cd2, [.ref 67, .int a1, .int a2, .null, .null, .null, .null], [], S) = _
  refine (R_blk PT GX (k := 2) (code := cd2) rfl [14, 82] 400 _).trans ?_
  refine (R_cx PT GX hRk PT_5 rfl rfl rfl rfl rfl).trans ?_
  refine bind_cong (fun q1 => ?_)
  refine (R_blk PT GX (k := 2) (code := cd2) rfl [14, 82] 400 _).trans ?_
  refine br_cong ?_ ?_
  · exact R_retV PT GX rfl
  · rfl
set_option maxRecDepth 20000 in
theorem Ch_tryCard_67_c14_eq (l1 : Int32) (l2 : Int32) (l3 : Int32) (l4 : Int32) (S : pS) : Ch_tryCard_67_c14 l1 l2 l3 l4 S = if l4 < l2 then (if inb l4 1024 = true then (if (rA S 68 l4) = (-1 : Int32) then (Ch_tryCard_67_c14 l1 l2 l3 (l4 + (1 : Int32)) S) else (if inb l4 1024 = true then (if (l4 ||| l3) < l2 then (if inb (l4 ||| l3) 1024 = true then (if (rA S 68 (l4 ||| l3)) = (-1 : Int32) then (Ch_tryCard_67_c82 l1 l2 l3 l4 (l4 ||| l3) ((rA S 68 l4) ||| ((1 : Int32) <<< (l1 &&& 31))) S) else (if inb (l4 ||| l3) 1024 = true then ((Ch_isLess ((rA S 68 l4) ||| ((1 : Int32) <<< (l1 &&& 31))) (rA S 68 (l4 ||| l3)) S).bind (fun q2 => if q2.1 = 0 then (Ch_tryCard_67_c14 l1 l2 l3 (l4 + (1 : Int32)) q2.2) else (Ch_tryCard_67_c82 l1 l2 l3 l4 (l4 ||| l3) ((rA S 68 l4) ||| ((1 : Int32) <<< (l1 &&& 31))) q2.2))) else (none))) else (none)) else (Ch_tryCard_67_c14 l1 l2 l3 (l4 + (1 : Int32)) S)) else (none))) else (none)) else (some (0, S)) := by
  show Res PT GX (rkT 2) 2 (pCut cd2 14, [.ref 67, .int l1, .int l2, .int l3, .int l4, .null, .null], [], S) = _
  refine (R_reg PT GX (k := 2) (code := cd2) rfl [14, 82] 400).trans ?_
  refine br_cong ?_ ?_
  · refine br_cong ?_ ?_
    · refine br_cong ?_ ?_
      · rfl
      · refine br_cong ?_ ?_
        · refine br_cong ?_ ?_
          · refine br_cong ?_ ?_
            · refine br_cong ?_ ?_
              · rfl
              · refine br_cong ?_ ?_
                · refine (R_cx PT GX hRk PT_4 rfl rfl rfl rfl rfl).trans ?_
                  refine bind_cong (fun q2 => ?_)
                  refine (R_blk PT GX (k := 2) (code := cd2) rfl [14, 82] 400 _).trans ?_
                  refine br_cong ?_ ?_
                  · rfl
                  · rfl
                · rfl
            · rfl
          · rfl
        · rfl
    · rfl
  · exact R_retV PT GX rfl
set_option maxRecDepth 20000 in
theorem Ch_tryCard_67_c82_eq (l1 : Int32) (l2 : Int32) (l3 : Int32) (l4 : Int32) (l5 : Int32) (l6 : Int32) (S : pS) : Ch_tryCard_67_c82 l1 l2 l3 l4 l5 l6 S = if inb l5 1024 = true then (Ch_tryCard_67_c14 l1 l2 l3 (l4 + (1 : Int32)) (wA S 68 l5 l6)) else (none) := by
  show Res PT GX (rkT 2) 2 (pCut cd2 82, [.ref 67, .int l1, .int l2, .int l3, .int l4, .int l5, .int l6], [], S) = _
  refine (R_reg PT GX (k := 2) (code := cd2) rfl [14, 82] 400).trans ?_
  refine br_cong ?_ ?_
  · rfl
  · rfl
set_option maxRecDepth 20000 in
theorem Ch_takeIfBetter_67_eq (a1 : Int32) (a2 : Int32) (S : pS) : Ch_takeIfBetter_67 a1 a2 S = if a1 ≤ (rF S 67 3) then (if a1 = (rF S 67 3) then ((Ch_isLess a2 (rF S 67 4) S).bind (fun q1 => if q1.1 = 0 then (some (0, q1.2)) else (Ch_takeIfBetter_67_c27 a1 a2 q1.2))) else (some (0, S))) else (Ch_takeIfBetter_67_c27 a1 a2 S) := by
  show Res PT GX (rkT 3) 3 (cd3, [.ref 67, .int a1, .int a2], [], S) = _
  refine (R_blk PT GX (k := 3) (code := cd3) rfl [27] 400 _).trans ?_
  refine br_cong ?_ ?_
  · refine br_cong ?_ ?_
    · refine (R_cx PT GX hRk PT_4 rfl rfl rfl rfl rfl).trans ?_
      refine bind_cong (fun q1 => ?_)
      refine (R_blk PT GX (k := 3) (code := cd3) rfl [27] 400 _).trans ?_
      refine br_cong ?_ ?_
      · exact R_retV PT GX rfl
      · rfl
    · exact R_retV PT GX rfl
  · rfl
set_option maxRecDepth 20000 in
theorem Ch_takeIfBetter_67_c27_eq (l1 : Int32) (l2 : Int32) (S : pS) : Ch_takeIfBetter_67_c27 l1 l2 S = some (0, (wF (wF S 67 3 l1) 67 4 l2)) := by
  show Res PT GX (rkT 3) 3 (pCut cd3 27, [.ref 67, .int l1, .int l2], [], S) = _
  refine (R_reg PT GX (k := 3) (code := cd3) rfl [27] 400).trans ?_
  refine brT (Or.inl rfl) ?_
  refine brT (Or.inl rfl) ?_
  exact R_retV PT GX rfl
set_option maxRecDepth 20000 in
theorem Ro_at_19_eq (a1 : Int32) (a2 : Int32) (S : pS) : Ro_at_19 a1 a2 S = if a1 < 0 then (some ((-1 : Int32), S)) else (if a1 < (rF S 19 2) then ((C_within a2 (4 : Int32) S).bind (fun q1 => if q1.1 = 0 then (some ((-1 : Int32), q1.2)) else (if inb ((a1 * (4 : Int32)) + a2) 40 = true then (some ((rA q1.2 20 ((a1 * (4 : Int32)) + a2)), q1.2)) else (none)))) else (some ((-1 : Int32), S))) := by
  show Res PT GX (rkT 97) 97 (cd97, [.ref 19, .int a1, .int a2], [], S) = _
  refine (R_blk PT GX (k := 97) (code := cd97) rfl [] 400 _).trans ?_
  refine br_cong ?_ ?_
  · exact R_retI PT GX rfl rfl
  · refine br_cong ?_ ?_
    · refine (R_cx PT GX hRk PT_156 rfl rfl rfl rfl rfl).trans ?_
      refine bind_cong (fun q1 => ?_)
      refine (R_blk PT GX (k := 97) (code := cd97) rfl [] 400 _).trans ?_
      refine br_cong ?_ ?_
      · exact R_retI PT GX rfl rfl
      · refine br_cong ?_ ?_
        · exact R_retI PT GX rfl rfl
        · rfl
    · exact R_retI PT GX rfl rfl
set_option maxRecDepth 20000 in
theorem Ch_tellsApart_67_eq (a1 : Int32) (S : pS) : Ch_tellsApart_67 a1 S = Ch_tellsApart_67_c2 a1 (0 : Int32) S := by
  show Res PT GX (rkT 9) 9 (cd9, [.ref 67, .int a1, .null, .null], [], S) = _
  exact (R_blk PT GX (k := 9) (code := cd9) rfl [2, 15] 400 _).trans rfl
set_option maxRecDepth 20000 in
theorem Ch_tellsApart_67_c2_eq (l1 : Int32) (l2 : Int32) (S : pS) : Ch_tellsApart_67_c2 l1 l2 S = if l2 < (rF S 1 1) then (Ch_tellsApart_67_c15 l1 l2 (0 : Int32) S) else (some ((1 : Int32), S)) := by
  show Res PT GX (rkT 9) 9 (pCut cd9 2, [.ref 67, .int l1, .int l2, .null], [], S) = _
  refine (R_reg PT GX (k := 9) (code := cd9) rfl [2, 15] 400).trans ?_
  refine br_cong ?_ ?_
  · rfl
  · exact R_retI PT GX rfl rfl
set_option maxRecDepth 20000 in
theorem Ch_tellsApart_67_c15_eq (l1 : Int32) (l2 : Int32) (l3 : Int32) (S : pS) : Ch_tellsApart_67_c15 l1 l2 l3 S = if l3 < l2 then ((Dr_isKept_1 l2 S).bind (fun q1 => if q1.1 = 0 then (Ch_tellsApart_67_c15 l1 l2 (l3 + (1 : Int32)) q1.2) else ((Dr_isKept_1 l3 q1.2).bind (fun q2 => if q2.1 = 0 then (Ch_tellsApart_67_c15 l1 l2 (l3 + (1 : Int32)) q2.2) else ((Ch_isAlike_67 l2 l3 l1 q2.2).bind (fun q3 => if q3.1 = 0 then (Ch_tellsApart_67_c15 l1 l2 (l3 + (1 : Int32)) q3.2) else (some ((0 : Int32), q3.2)))))))) else (Ch_tellsApart_67_c2 l1 (l2 + (1 : Int32)) S) := by
  show Res PT GX (rkT 9) 9 (pCut cd9 15, [.ref 67, .int l1, .int l2, .int l3], [], S) = _
  refine (R_reg PT GX (k := 9) (code := cd9) rfl [2, 15] 400).trans ?_
  refine br_cong ?_ ?_
  · refine (R_cx PT GX hRk PT_39 rfl rfl rfl rfl rfl).trans ?_
    refine bind_cong (fun q1 => ?_)
    refine (R_blk PT GX (k := 9) (code := cd9) rfl [2, 15] 400 _).trans ?_
    refine br_cong ?_ ?_
    · rfl
    · refine (R_cx PT GX hRk PT_39 rfl rfl rfl rfl rfl).trans ?_
      refine bind_cong (fun q2 => ?_)
      refine (R_blk PT GX (k := 9) (code := cd9) rfl [2, 15] 400 _).trans ?_
      refine br_cong ?_ ?_
      · rfl
      · refine (R_cx PT GX hRk PT_10 rfl rfl rfl rfl rfl).trans ?_
        refine bind_cong (fun q3 => ?_)
        refine (R_blk PT GX (k := 9) (code := cd9) rfl [2, 15] 400 _).trans ?_
        refine br_cong ?_ ?_
        · rfl
        · exact R_retI PT GX rfl rfl
  · rfl
set_option maxRecDepth 20000 in
theorem Ch_hasSooner_67_eq (a1 : Int32) (S : pS) : Ch_hasSooner_67 a1 S = (Dr_read_1 a1 (3 : Int32) S).bind (fun q1 => Ch_hasSooner_67_c12 a1 q1.1 (0 : Int32) q1.2) := by
  show Res PT GX (rkT 12) 12 (cd12, [.ref 67, .int a1, .null, .null, .null], [], S) = _
  refine (R_blk PT GX (k := 12) (code := cd12) rfl [12] 400 _).trans ?_
  refine (R_cx PT GX hRk PT_40 rfl rfl rfl rfl rfl).trans ?_
  refine bind_cong (fun q1 => ?_)
  exact (R_blk PT GX (k := 12) (code := cd12) rfl [12] 400 _).trans rfl
set_option maxRecDepth 20000 in
theorem Ch_hasSooner_67_c12_eq (l1 : Int32) (l2 : Int32) (l3 : Int32) (S : pS) : Ch_hasSooner_67_c12 l1 l2 l3 S = if l3 < (rF S 1 1) then ((Dr_isKept_1 l3 S).bind (fun q2 => if q2.1 = 0 then (Ch_hasSooner_67_c12 l1 l2 (l3 + (1 : Int32)) q2.2) else ((Dr_read_1 l3 (0 : Int32) q2.2).bind (fun q3 => (Dr_read_1 l1 (0 : Int32) q3.2).bind (fun q4 => if q3.1 = q4.1 then ((Dr_read_1 l3 (3 : Int32) q4.2).bind (fun q5 => if q5.1 < l2 then (some ((1 : Int32), q5.2)) else (if q5.1 = l2 then (if l3 < l1 then (some ((1 : Int32), q5.2)) else (Ch_hasSooner_67_c12 l1 l2 (l3 + (1 : Int32)) q5.2)) else (Ch_hasSooner_67_c12 l1 l2 (l3 + (1 : Int32)) q5.2)))) else (Ch_hasSooner_67_c12 l1 l2 (l3 + (1 : Int32)) q4.2)))))) else (some ((0 : Int32), S)) := by
  show Res PT GX (rkT 12) 12 (pCut cd12 12, [.ref 67, .int l1, .int l2, .int l3, .null], [], S) = _
  refine (R_reg PT GX (k := 12) (code := cd12) rfl [12] 400).trans ?_
  refine br_cong ?_ ?_
  · refine (R_cx PT GX hRk PT_39 rfl rfl rfl rfl rfl).trans ?_
    refine bind_cong (fun q2 => ?_)
    refine (R_blk PT GX (k := 12) (code := cd12) rfl [12] 400 _).trans ?_
    refine br_cong ?_ ?_
    · rfl
    · refine (R_cx PT GX hRk PT_40 rfl rfl rfl rfl rfl).trans ?_
      refine bind_cong (fun q3 => ?_)
      refine (R_blk PT GX (k := 12) (code := cd12) rfl [12] 400 _).trans ?_
      refine (R_cx PT GX hRk PT_40 rfl rfl rfl rfl rfl).trans ?_
      refine bind_cong (fun q4 => ?_)
      refine (R_blk PT GX (k := 12) (code := cd12) rfl [12] 400 _).trans ?_
      refine br_cong ?_ ?_
      · refine (R_cx PT GX hRk PT_40 rfl rfl rfl rfl rfl).trans ?_
        refine bind_cong (fun q5 => ?_)
        refine (R_blk PT GX (k := 12) (code := cd12) rfl [12] 400 _).trans ?_
        refine br_cong ?_ ?_
        · exact R_retI PT GX rfl rfl
        · refine br_cong ?_ ?_
          · refine br_cong ?_ ?_
            · exact R_retI PT GX rfl rfl
            · rfl
          · rfl
      · rfl
  · exact R_retI PT GX rfl rfl
set_option maxRecDepth 20000 in
theorem Ro_at_21_eq (a1 : Int32) (a2 : Int32) (S : pS) : Ro_at_21 a1 a2 S = if a1 < 0 then (some ((-1 : Int32), S)) else (if a1 < (rF S 21 2) then ((C_within a2 (4 : Int32) S).bind (fun q1 => if q1.1 = 0 then (some ((-1 : Int32), q1.2)) else (if inb ((a1 * (4 : Int32)) + a2) 32 = true then (some ((rA q1.2 22 ((a1 * (4 : Int32)) + a2)), q1.2)) else (none)))) else (some ((-1 : Int32), S))) := by
  show Res PT GX (rkT 97) 97 (cd97, [.ref 21, .int a1, .int a2], [], S) = _
  refine (R_blk PT GX (k := 97) (code := cd97) rfl [] 400 _).trans ?_
  refine br_cong ?_ ?_
  · exact R_retI PT GX rfl rfl
  · refine br_cong ?_ ?_
    · refine (R_cx PT GX hRk PT_156 rfl rfl rfl rfl rfl).trans ?_
      refine bind_cong (fun q1 => ?_)
      refine (R_blk PT GX (k := 97) (code := cd97) rfl [] 400 _).trans ?_
      refine br_cong ?_ ?_
      · exact R_retI PT GX rfl rfl
      · refine br_cong ?_ ?_
        · exact R_retI PT GX rfl rfl
        · rfl
    · exact R_retI PT GX rfl rfl
set_option maxRecDepth 20000 in
theorem Ci_peopleFor_64_eq (a1 : Int32) (a2 : Int32) (S : pS) : Ci_peopleFor_64 a1 a2 S = if a1 = (0 : Int32) then ((Dr_keptWith_1 (2 : Int32) a2 S).bind (fun q7 => (Dr_peopleOn_1 q7.1 q7.2).bind (fun q8 => some (q8.1, q8.2)))) else (if a1 = (1 : Int32) then ((Dr_keptWith_1 (1 : Int32) a2 S).bind (fun q5 => (Dr_peopleOn_1 q5.1 q5.2).bind (fun q6 => some (q6.1, q6.2)))) else (if a1 = (2 : Int32) then ((Dr_keptWith_1 (4 : Int32) a2 S).bind (fun q3 => (Dr_peopleOn_1 q3.1 q3.2).bind (fun q4 => some (q4.1, q4.2)))) else ((C_within a2 (12 : Int32) S).bind (fun q1 => if q1.1 = 0 then (some ((0 : Int32), q1.2)) else ((Ci_ledBy_64 a2 q1.2).bind (fun q2 => some (q2.1, q2.2))))))) := by
  show Res PT GX (rkT 31) 31 (cd31, [.ref 64, .int a1, .int a2], [], S) = _
  refine (R_blk PT GX (k := 31) (code := cd31) rfl [] 400 _).trans ?_
  refine br_cong ?_ ?_
  · refine (R_cx PT GX hRk PT_45 rfl rfl rfl rfl rfl).trans ?_
    refine bind_cong (fun q7 => ?_)
    refine (R_blk PT GX (k := 31) (code := cd31) rfl [] 400 _).trans ?_
    refine (R_cx PT GX hRk PT_46 rfl rfl rfl rfl rfl).trans ?_
    refine bind_cong (fun q8 => ?_)
    refine (R_blk PT GX (k := 31) (code := cd31) rfl [] 400 _).trans ?_
    exact R_retI PT GX rfl rfl
  · refine br_cong ?_ ?_
    · refine (R_cx PT GX hRk PT_45 rfl rfl rfl rfl rfl).trans ?_
      refine bind_cong (fun q5 => ?_)
      refine (R_blk PT GX (k := 31) (code := cd31) rfl [] 400 _).trans ?_
      refine (R_cx PT GX hRk PT_46 rfl rfl rfl rfl rfl).trans ?_
      refine bind_cong (fun q6 => ?_)
      refine (R_blk PT GX (k := 31) (code := cd31) rfl [] 400 _).trans ?_
      exact R_retI PT GX rfl rfl
    · refine br_cong ?_ ?_
      · refine (R_cx PT GX hRk PT_45 rfl rfl rfl rfl rfl).trans ?_
        refine bind_cong (fun q3 => ?_)
        refine (R_blk PT GX (k := 31) (code := cd31) rfl [] 400 _).trans ?_
        refine (R_cx PT GX hRk PT_46 rfl rfl rfl rfl rfl).trans ?_
        refine bind_cong (fun q4 => ?_)
        refine (R_blk PT GX (k := 31) (code := cd31) rfl [] 400 _).trans ?_
        exact R_retI PT GX rfl rfl
      · refine (R_cx PT GX hRk PT_156 rfl rfl rfl rfl rfl).trans ?_
        refine bind_cong (fun q1 => ?_)
        refine (R_blk PT GX (k := 31) (code := cd31) rfl [] 400 _).trans ?_
        refine br_cong ?_ ?_
        · exact R_retI PT GX rfl rfl
        · refine (R_cx PT GX hRk PT_25 rfl rfl rfl rfl rfl).trans ?_
          refine bind_cong (fun q2 => ?_)
          refine (R_blk PT GX (k := 31) (code := cd31) rfl [] 400 _).trans ?_
          exact R_retI PT GX rfl rfl
set_option maxRecDepth 20000 in
theorem Ch_pile_67_eq (a1 : Int32) (S : pS) : Ch_pile_67 a1 S = (Dr_keptWith_1 (1 : Int32) a1 S).bind (fun q1 => (J_bitCount q1.1 q1.2).bind (fun q2 => some (q2.1, q2.2))) := by
  show Res PT GX (rkT 15) 15 (cd15, [.ref 67, .int a1], [], S) = _
  refine (R_blk PT GX (k := 15) (code := cd15) rfl [] 400 _).trans ?_
  refine (R_cx PT GX hRk PT_45 rfl rfl rfl rfl rfl).trans ?_
  refine bind_cong (fun q1 => ?_)
  refine (R_blk PT GX (k := 15) (code := cd15) rfl [] 400 _).trans ?_
  refine (R_cx PT GX hRk PT_288 rfl rfl rfl rfl rfl).trans ?_
  refine bind_cong (fun q2 => ?_)
  refine (R_blk PT GX (k := 15) (code := cd15) rfl [] 400 _).trans ?_
  exact R_retI PT GX rfl rfl
set_option maxRecDepth 20000 in
theorem Ch_leftToLose_67_eq (a1 : Int32) (S : pS) : Ch_leftToLose_67 a1 S = Ch_leftToLose_67_c4 a1 (0 : Int32) (0 : Int32) S := by
  show Res PT GX (rkT 16) 16 (cd16, [.ref 67, .int a1, .null, .null], [], S) = _
  exact (R_blk PT GX (k := 16) (code := cd16) rfl [4] 400 _).trans rfl
set_option maxRecDepth 20000 in
theorem Ch_leftToLose_67_c4_eq (l1 : Int32) (l2 : Int32) (l3 : Int32) (S : pS) : Ch_leftToLose_67_c4 l1 l2 l3 S = if l3 < (8 : Int32) then (if l3 = l1 then (Ch_leftToLose_67_c4 l1 l2 (l3 + (1 : Int32)) S) else ((Ch_pile_67 l3 S).bind (fun q1 => Ch_leftToLose_67_c4 l1 (l2 ^^^ q1.1) (l3 + (1 : Int32)) q1.2))) else (some (l2, S)) := by
  show Res PT GX (rkT 16) 16 (pCut cd16 4, [.ref 67, .int l1, .int l2, .int l3], [], S) = _
  refine (R_reg PT GX (k := 16) (code := cd16) rfl [4] 400).trans ?_
  refine br_cong ?_ ?_
  · refine br_cong ?_ ?_
    · rfl
    · refine (R_cx PT GX hRk PT_15 rfl rfl rfl rfl rfl).trans ?_
      refine bind_cong (fun q1 => ?_)
      exact (R_blk PT GX (k := 16) (code := cd16) rfl [4] 400 _).trans rfl
  · exact R_retI PT GX rfl rfl
set_option maxRecDepth 20000 in
theorem La_copyFrom_4_72_eq (S : pS) : La_copyFrom_4_72 S = if 0 ≤ (0 : Int32) ∧ 0 ≤ (0 : Int32) ∧ 0 ≤ (rF S 72 7) ∧ ((0 : Int32)).toNatClampNeg + ((rF S 72 7)).toNatClampNeg ≤ 400 ∧ ((0 : Int32)).toNatClampNeg + ((rF S 72 7)).toNatClampNeg ≤ 400 ∧ 0 ≤ 8 then (some (0, (wF (wF (wC (wC (wC (wC (wC S 73 (0 : Int32) 5 (0 : Int32) (rF S 72 7)) 74 (0 : Int32) 6 (0 : Int32) (16 : Int32)) 75 (0 : Int32) 7 (0 : Int32) (16 : Int32)) 76 (0 : Int32) 8 (0 : Int32) (16 : Int32)) 77 (0 : Int32) 9 (0 : Int32) (16 : Int32)) 4 7 (rF S 72 7)) 4 8 (rF S 72 8)))) else (none) := by
  show Res PT GX (rkT 68) 68 (cd68, [.ref 4, .ref 72], [], S) = _
  refine (R_blk PT GX (k := 68) (code := cd68) rfl [] 400 _).trans ?_
  refine br_cong ?_ ?_
  · refine brT ⟨by decide, by decide, by decide, by decide, by decide, Nat.le_of_ble_eq_true rfl⟩ ?_
    refine brT ⟨by decide, by decide, by decide, by decide, by decide, Nat.le_of_ble_eq_true rfl⟩ ?_
    refine brT ⟨by decide, by decide, by decide, by decide, by decide, Nat.le_of_ble_eq_true rfl⟩ ?_
    refine brT ⟨by decide, by decide, by decide, by decide, by decide, Nat.le_of_ble_eq_true rfl⟩ ?_
    refine brT (Or.inl rfl) ?_
    refine brT (Or.inl rfl) ?_
    exact R_retV PT GX rfl
  · rfl
set_option maxRecDepth 20000 in
theorem Ro_copyFrom_15_83_eq (S : pS) : Ro_copyFrom_15_83 S = if 0 ≤ (0 : Int32) ∧ 0 ≤ (0 : Int32) ∧ 0 ≤ (if ((rF S 83 2) * (4 : Int32)) < (64 : Int32) then ((rF S 83 2) * (4 : Int32)) else (64 : Int32)) ∧ ((0 : Int32)).toNatClampNeg + ((if ((rF S 83 2) * (4 : Int32)) < (64 : Int32) then ((rF S 83 2) * (4 : Int32)) else (64 : Int32))).toNatClampNeg ≤ 64 ∧ ((0 : Int32)).toNatClampNeg + ((if ((rF S 83 2) * (4 : Int32)) < (64 : Int32) then ((rF S 83 2) * (4 : Int32)) else (64 : Int32))).toNatClampNeg ≤ 64 ∧ 0 ≤ 8 then (some (0, (wF (wC S 84 (0 : Int32) 16 (0 : Int32) (if ((rF S 83 2) * (4 : Int32)) < (64 : Int32) then ((rF S 83 2) * (4 : Int32)) else (64 : Int32))) 15 2 (rF S 83 2)))) else (none) := by
  show Res PT GX (rkT 98) 98 (cd98, [.ref 15, .ref 83], [], S) = _
  refine (R_blk PT GX (k := 98) (code := cd98) rfl [] 400 _).trans ?_
  refine br_cong ?_ ?_
  · refine brT (Or.inl rfl) ?_
    exact R_retV PT GX rfl
  · rfl
set_option maxRecDepth 20000 in
theorem Ro_copyFrom_17_85_eq (S : pS) : Ro_copyFrom_17_85 S = if 0 ≤ (0 : Int32) ∧ 0 ≤ (0 : Int32) ∧ 0 ≤ (if ((rF S 85 2) * (4 : Int32)) < (48 : Int32) then ((rF S 85 2) * (4 : Int32)) else (48 : Int32)) ∧ ((0 : Int32)).toNatClampNeg + ((if ((rF S 85 2) * (4 : Int32)) < (48 : Int32) then ((rF S 85 2) * (4 : Int32)) else (48 : Int32))).toNatClampNeg ≤ 48 ∧ ((0 : Int32)).toNatClampNeg + ((if ((rF S 85 2) * (4 : Int32)) < (48 : Int32) then ((rF S 85 2) * (4 : Int32)) else (48 : Int32))).toNatClampNeg ≤ 48 ∧ 0 ≤ 8 then (some (0, (wF (wC S 86 (0 : Int32) 18 (0 : Int32) (if ((rF S 85 2) * (4 : Int32)) < (48 : Int32) then ((rF S 85 2) * (4 : Int32)) else (48 : Int32))) 17 2 (rF S 85 2)))) else (none) := by
  show Res PT GX (rkT 98) 98 (cd98, [.ref 17, .ref 85], [], S) = _
  refine (R_blk PT GX (k := 98) (code := cd98) rfl [] 400 _).trans ?_
  refine br_cong ?_ ?_
  · refine brT (Or.inl rfl) ?_
    exact R_retV PT GX rfl
  · rfl
set_option maxRecDepth 20000 in
theorem Ro_copyFrom_19_87_eq (S : pS) : Ro_copyFrom_19_87 S = if 0 ≤ (0 : Int32) ∧ 0 ≤ (0 : Int32) ∧ 0 ≤ (if ((rF S 87 2) * (4 : Int32)) < (40 : Int32) then ((rF S 87 2) * (4 : Int32)) else (40 : Int32)) ∧ ((0 : Int32)).toNatClampNeg + ((if ((rF S 87 2) * (4 : Int32)) < (40 : Int32) then ((rF S 87 2) * (4 : Int32)) else (40 : Int32))).toNatClampNeg ≤ 40 ∧ ((0 : Int32)).toNatClampNeg + ((if ((rF S 87 2) * (4 : Int32)) < (40 : Int32) then ((rF S 87 2) * (4 : Int32)) else (40 : Int32))).toNatClampNeg ≤ 40 ∧ 0 ≤ 8 then (some (0, (wF (wC S 88 (0 : Int32) 20 (0 : Int32) (if ((rF S 87 2) * (4 : Int32)) < (40 : Int32) then ((rF S 87 2) * (4 : Int32)) else (40 : Int32))) 19 2 (rF S 87 2)))) else (none) := by
  show Res PT GX (rkT 98) 98 (cd98, [.ref 19, .ref 87], [], S) = _
  refine (R_blk PT GX (k := 98) (code := cd98) rfl [] 400 _).trans ?_
  refine br_cong ?_ ?_
  · refine brT (Or.inl rfl) ?_
    exact R_retV PT GX rfl
  · rfl
set_option maxRecDepth 20000 in
theorem Ro_copyFrom_21_89_eq (S : pS) : Ro_copyFrom_21_89 S = if 0 ≤ (0 : Int32) ∧ 0 ≤ (0 : Int32) ∧ 0 ≤ (if ((rF S 89 2) * (4 : Int32)) < (32 : Int32) then ((rF S 89 2) * (4 : Int32)) else (32 : Int32)) ∧ ((0 : Int32)).toNatClampNeg + ((if ((rF S 89 2) * (4 : Int32)) < (32 : Int32) then ((rF S 89 2) * (4 : Int32)) else (32 : Int32))).toNatClampNeg ≤ 32 ∧ ((0 : Int32)).toNatClampNeg + ((if ((rF S 89 2) * (4 : Int32)) < (32 : Int32) then ((rF S 89 2) * (4 : Int32)) else (32 : Int32))).toNatClampNeg ≤ 32 ∧ 0 ≤ 8 then (some (0, (wF (wC S 90 (0 : Int32) 22 (0 : Int32) (if ((rF S 89 2) * (4 : Int32)) < (32 : Int32) then ((rF S 89 2) * (4 : Int32)) else (32 : Int32))) 21 2 (rF S 89 2)))) else (none) := by
  show Res PT GX (rkT 98) 98 (cd98, [.ref 21, .ref 89], [], S) = _
  refine (R_blk PT GX (k := 98) (code := cd98) rfl [] 400 _).trans ?_
  refine br_cong ?_ ?_
  · refine brT (Or.inl rfl) ?_
    exact R_retV PT GX rfl
  · rfl
set_option maxRecDepth 20000 in
theorem La_copyFrom_72_4_eq (S : pS) : La_copyFrom_72_4 S = if 0 ≤ (0 : Int32) ∧ 0 ≤ (0 : Int32) ∧ 0 ≤ (rF S 4 7) ∧ ((0 : Int32)).toNatClampNeg + ((rF S 4 7)).toNatClampNeg ≤ 400 ∧ ((0 : Int32)).toNatClampNeg + ((rF S 4 7)).toNatClampNeg ≤ 400 ∧ 0 ≤ 8 then (some (0, (wF (wF (wC (wC (wC (wC (wC S 5 (0 : Int32) 73 (0 : Int32) (rF S 4 7)) 6 (0 : Int32) 74 (0 : Int32) (16 : Int32)) 7 (0 : Int32) 75 (0 : Int32) (16 : Int32)) 8 (0 : Int32) 76 (0 : Int32) (16 : Int32)) 9 (0 : Int32) 77 (0 : Int32) (16 : Int32)) 72 7 (rF S 4 7)) 72 8 (rF S 4 8)))) else (none) := by
  show Res PT GX (rkT 68) 68 (cd68, [.ref 72, .ref 4], [], S) = _
  refine (R_blk PT GX (k := 68) (code := cd68) rfl [] 400 _).trans ?_
  refine br_cong ?_ ?_
  · refine brT ⟨by decide, by decide, by decide, by decide, by decide, Nat.le_of_ble_eq_true rfl⟩ ?_
    refine brT ⟨by decide, by decide, by decide, by decide, by decide, Nat.le_of_ble_eq_true rfl⟩ ?_
    refine brT ⟨by decide, by decide, by decide, by decide, by decide, Nat.le_of_ble_eq_true rfl⟩ ?_
    refine brT ⟨by decide, by decide, by decide, by decide, by decide, Nat.le_of_ble_eq_true rfl⟩ ?_
    refine brT (Or.inl rfl) ?_
    refine brT (Or.inl rfl) ?_
    exact R_retV PT GX rfl
  · rfl
set_option maxRecDepth 20000 in
theorem Ro_copyFrom_83_15_eq (S : pS) : Ro_copyFrom_83_15 S = if 0 ≤ (0 : Int32) ∧ 0 ≤ (0 : Int32) ∧ 0 ≤ (if ((rF S 15 2) * (4 : Int32)) < (64 : Int32) then ((rF S 15 2) * (4 : Int32)) else (64 : Int32)) ∧ ((0 : Int32)).toNatClampNeg + ((if ((rF S 15 2) * (4 : Int32)) < (64 : Int32) then ((rF S 15 2) * (4 : Int32)) else (64 : Int32))).toNatClampNeg ≤ 64 ∧ ((0 : Int32)).toNatClampNeg + ((if ((rF S 15 2) * (4 : Int32)) < (64 : Int32) then ((rF S 15 2) * (4 : Int32)) else (64 : Int32))).toNatClampNeg ≤ 64 ∧ 0 ≤ 8 then (some (0, (wF (wC S 16 (0 : Int32) 84 (0 : Int32) (if ((rF S 15 2) * (4 : Int32)) < (64 : Int32) then ((rF S 15 2) * (4 : Int32)) else (64 : Int32))) 83 2 (rF S 15 2)))) else (none) := by
  show Res PT GX (rkT 98) 98 (cd98, [.ref 83, .ref 15], [], S) = _
  refine (R_blk PT GX (k := 98) (code := cd98) rfl [] 400 _).trans ?_
  refine br_cong ?_ ?_
  · refine brT (Or.inl rfl) ?_
    exact R_retV PT GX rfl
  · rfl
set_option maxRecDepth 20000 in
theorem Ro_copyFrom_85_17_eq (S : pS) : Ro_copyFrom_85_17 S = if 0 ≤ (0 : Int32) ∧ 0 ≤ (0 : Int32) ∧ 0 ≤ (if ((rF S 17 2) * (4 : Int32)) < (48 : Int32) then ((rF S 17 2) * (4 : Int32)) else (48 : Int32)) ∧ ((0 : Int32)).toNatClampNeg + ((if ((rF S 17 2) * (4 : Int32)) < (48 : Int32) then ((rF S 17 2) * (4 : Int32)) else (48 : Int32))).toNatClampNeg ≤ 48 ∧ ((0 : Int32)).toNatClampNeg + ((if ((rF S 17 2) * (4 : Int32)) < (48 : Int32) then ((rF S 17 2) * (4 : Int32)) else (48 : Int32))).toNatClampNeg ≤ 48 ∧ 0 ≤ 8 then (some (0, (wF (wC S 18 (0 : Int32) 86 (0 : Int32) (if ((rF S 17 2) * (4 : Int32)) < (48 : Int32) then ((rF S 17 2) * (4 : Int32)) else (48 : Int32))) 85 2 (rF S 17 2)))) else (none) := by
  show Res PT GX (rkT 98) 98 (cd98, [.ref 85, .ref 17], [], S) = _
  refine (R_blk PT GX (k := 98) (code := cd98) rfl [] 400 _).trans ?_
  refine br_cong ?_ ?_
  · refine brT (Or.inl rfl) ?_
    exact R_retV PT GX rfl
  · rfl
set_option maxRecDepth 20000 in
theorem Ro_copyFrom_87_19_eq (S : pS) : Ro_copyFrom_87_19 S = if 0 ≤ (0 : Int32) ∧ 0 ≤ (0 : Int32) ∧ 0 ≤ (if ((rF S 19 2) * (4 : Int32)) < (40 : Int32) then ((rF S 19 2) * (4 : Int32)) else (40 : Int32)) ∧ ((0 : Int32)).toNatClampNeg + ((if ((rF S 19 2) * (4 : Int32)) < (40 : Int32) then ((rF S 19 2) * (4 : Int32)) else (40 : Int32))).toNatClampNeg ≤ 40 ∧ ((0 : Int32)).toNatClampNeg + ((if ((rF S 19 2) * (4 : Int32)) < (40 : Int32) then ((rF S 19 2) * (4 : Int32)) else (40 : Int32))).toNatClampNeg ≤ 40 ∧ 0 ≤ 8 then (some (0, (wF (wC S 20 (0 : Int32) 88 (0 : Int32) (if ((rF S 19 2) * (4 : Int32)) < (40 : Int32) then ((rF S 19 2) * (4 : Int32)) else (40 : Int32))) 87 2 (rF S 19 2)))) else (none) := by
  show Res PT GX (rkT 98) 98 (cd98, [.ref 87, .ref 19], [], S) = _
  refine (R_blk PT GX (k := 98) (code := cd98) rfl [] 400 _).trans ?_
  refine br_cong ?_ ?_
  · refine brT (Or.inl rfl) ?_
    exact R_retV PT GX rfl
  · rfl
set_option maxRecDepth 20000 in
theorem Ro_copyFrom_89_21_eq (S : pS) : Ro_copyFrom_89_21 S = if 0 ≤ (0 : Int32) ∧ 0 ≤ (0 : Int32) ∧ 0 ≤ (if ((rF S 21 2) * (4 : Int32)) < (32 : Int32) then ((rF S 21 2) * (4 : Int32)) else (32 : Int32)) ∧ ((0 : Int32)).toNatClampNeg + ((if ((rF S 21 2) * (4 : Int32)) < (32 : Int32) then ((rF S 21 2) * (4 : Int32)) else (32 : Int32))).toNatClampNeg ≤ 32 ∧ ((0 : Int32)).toNatClampNeg + ((if ((rF S 21 2) * (4 : Int32)) < (32 : Int32) then ((rF S 21 2) * (4 : Int32)) else (32 : Int32))).toNatClampNeg ≤ 32 ∧ 0 ≤ 8 then (some (0, (wF (wC S 22 (0 : Int32) 90 (0 : Int32) (if ((rF S 21 2) * (4 : Int32)) < (32 : Int32) then ((rF S 21 2) * (4 : Int32)) else (32 : Int32))) 89 2 (rF S 21 2)))) else (none) := by
  show Res PT GX (rkT 98) 98 (cd98, [.ref 89, .ref 21], [], S) = _
  refine (R_blk PT GX (k := 98) (code := cd98) rfl [] 400 _).trans ?_
  refine br_cong ?_ ?_
  · refine brT (Or.inl rfl) ?_
    exact R_retV PT GX rfl
  · rfl
set_option maxRecDepth 20000 in
theorem Dr_draw_1_eq (a1 : Int32) (S : pS) : Dr_draw_1 a1 S = if a1 ≤ 0 then (some ((0 : Int32), (wF S 1 7 (((rF S 1 7) * (1664525 : Int32)) + (1013904223 : Int32))))) else (if a1 = 0 then (none) else (some (((((((rF S 1 7) * (1664525 : Int32)) + (1013904223 : Int32))).toUInt32 >>> (((8 : Int32)).toUInt32 &&& Int32.toUInt32 31)).toInt32 - (((((rF S 1 7) * (1664525 : Int32)) + (1013904223 : Int32))).toUInt32 >>> (((8 : Int32)).toUInt32 &&& Int32.toUInt32 31)).toInt32 / a1 * a1), (wF S 1 7 (((rF S 1 7) * (1664525 : Int32)) + (1013904223 : Int32)))))) := by
  show Res PT GX (rkT 47) 47 (cd47, [.ref 1, .int a1], [], S) = _
  refine (R_blk PT GX (k := 47) (code := cd47) rfl [] 400 _).trans ?_
  refine brT (Or.inl rfl) ?_
  refine br_cong ?_ ?_
  · exact R_retI PT GX rfl rfl
  · refine br_cong ?_ ?_
    · rfl
    · exact R_retI PT GX rfl rfl
set_option maxRecDepth 20000 in
theorem Ro_add_23_eq (a1 : Int32) (a2 : Int32) (a3 : Int32) (a4 : Int32) (S : pS) : Ro_add_23 a1 a2 a3 a4 S = if (rF S 23 2) < (rF S 23 0) then (if inb ((rF S 23 2) * (4 : Int32)) 600 = true then (if inb (((rF S 23 2) * (4 : Int32)) + (1 : Int32)) 600 = true then (if inb (((rF S 23 2) * (4 : Int32)) + (2 : Int32)) 600 = true then (if inb (((rF S 23 2) * (4 : Int32)) + (3 : Int32)) 600 = true then (some (((rF S 23 2) + (1 : Int32)), (wF (wA (wA (wA (wA S 24 ((rF S 23 2) * (4 : Int32)) a1) 24 (((rF S 23 2) * (4 : Int32)) + (1 : Int32)) a2) 24 (((rF S 23 2) * (4 : Int32)) + (2 : Int32)) a3) 24 (((rF S 23 2) * (4 : Int32)) + (3 : Int32)) a4) 23 2 ((rF S 23 2) + (1 : Int32))))) else (none)) else (none)) else (none)) else (none)) else (some ((-1 : Int32), S)) := by
  show Res PT GX (rkT 95) 95 (cd95, [.ref 23, .int a1, .int a2, .int a3, .int a4, .null], [], S) = _
  refine (R_blk PT GX (k := 95) (code := cd95) rfl [] 400 _).trans ?_
  refine br_cong ?_ ?_
  · refine br_cong ?_ ?_
    · refine br_cong ?_ ?_
      · refine br_cong ?_ ?_
        · refine br_cong ?_ ?_
          · refine brT (Or.inl rfl) ?_
            exact R_retI PT GX rfl rfl
          · rfl
        · rfl
      · rfl
    · rfl
  · exact R_retI PT GX rfl rfl
set_option maxRecDepth 20000 in
theorem Dr_drop_1_eq (a1 : Int32) (S : pS) : Dr_drop_1 a1 S = some (0, (wF S 1 2 ((rF S 1 2) &&& (((1 : Int32) <<< (a1 &&& 31)) ^^^ (-1 : Int32))))) := by
  show Res PT GX (rkT 43) 43 (cd43, [.ref 1, .int a1], [], S) = _
  refine (R_blk PT GX (k := 43) (code := cd43) rfl [] 400 _).trans ?_
  refine brT (Or.inl rfl) ?_
  exact R_retV PT GX rfl
set_option maxRecDepth 20000 in
theorem Ta_isLetter_eq (a0 : Int32) (S : pS) : Ta_isLetter a0 S = if a0 < (97 : Int32) then (Ta_isLetter_c12 a0 S) else (if a0 ≤ (122 : Int32) then (some ((1 : Int32), S)) else (Ta_isLetter_c12 a0 S)) := by
  show Res PT GX (rkT 104) 104 (cd104, [.int a0], [], S) = _
  refine (R_blk PT GX (k := 104) (code := cd104) rfl [12] 400 _).trans ?_
  refine br_cong ?_ ?_
  · rfl
  · refine br_cong ?_ ?_
    · exact R_retI PT GX rfl rfl
    · rfl
set_option maxRecDepth 20000 in
theorem Ta_isLetter_c12_eq (l0 : Int32) (S : pS) : Ta_isLetter_c12 l0 S = if l0 < (65 : Int32) then (some ((0 : Int32), S)) else (if l0 ≤ (90 : Int32) then (some ((1 : Int32), S)) else (some ((0 : Int32), S))) := by
  show Res PT GX (rkT 104) 104 (pCut cd104 12, [.int l0], [], S) = _
  refine (R_reg PT GX (k := 104) (code := cd104) rfl [12] 400).trans ?_
  refine br_cong ?_ ?_
  · exact R_retI PT GX rfl rfl
  · refine br_cong ?_ ?_
    · exact R_retI PT GX rfl rfl
    · exact R_retI PT GX rfl rfl
set_option maxRecDepth 20000 in
theorem Ta_isDigit_eq (a0 : Int32) (S : pS) : Ta_isDigit a0 S = if a0 < (48 : Int32) then (some ((0 : Int32), S)) else (if a0 ≤ (57 : Int32) then (some ((1 : Int32), S)) else (some ((0 : Int32), S))) := by
  show Res PT GX (rkT 105) 105 (cd105, [.int a0], [], S) = _
  refine (R_blk PT GX (k := 105) (code := cd105) rfl [] 400 _).trans ?_
  refine br_cong ?_ ?_
  · exact R_retI PT GX rfl rfl
  · refine br_cong ?_ ?_
    · exact R_retI PT GX rfl rfl
    · exact R_retI PT GX rfl rfl
set_option maxRecDepth 20000 in
theorem J_indexOf_t1_eq (a1 : Int32) (S : pS) : J_indexOf_t1 a1 S = (J_indexOf2_t1 a1 (0 : Int32) S).bind (fun q1 => some (q1.1, q1.2)) := by
  show Res PT GX (rkT 294) 294 (cd294, [.float (UInt32.ofNat 1), .int a1], [], S) = _
  refine (R_blk PT GX (k := 294) (code := cd294) rfl [] 400 _).trans ?_
  refine (R_cx PT GX hRk PT_295 rfl rfl rfl rfl rfl).trans ?_
  refine bind_cong (fun q1 => ?_)
  refine (R_blk PT GX (k := 294) (code := cd294) rfl [] 400 _).trans ?_
  exact R_retI PT GX rfl rfl
set_option maxRecDepth 20000 in
theorem Ta_put_46_eq (a1 : Int32) (a2 : Int32) (S : pS) : Ta_put_46 a1 a2 S = if (rF S 46 3) ≤ (400 : Int32) then (if inb (rF S 46 3) 401 = true then (if inb (rF S 46 3) 401 = true then (some (0, (wF (wA (wA S 49 (rF S 46 3) a1) 48 (rF S 46 3) a2) 46 3 ((rF S 46 3) + (1 : Int32))))) else (none)) else (none)) else (some (0, S)) := by
  show Res PT GX (rkT 103) 103 (cd103, [.ref 46, .int a1, .int a2], [], S) = _
  refine (R_blk PT GX (k := 103) (code := cd103) rfl [] 400 _).trans ?_
  refine br_cong ?_ ?_
  · refine br_cong ?_ ?_
    · refine br_cong ?_ ?_
      · refine brT (Or.inl rfl) ?_
        exact R_retV PT GX rfl
      · rfl
    · rfl
  · exact R_retV PT GX rfl
set_option maxRecDepth 20000 in
theorem Ta_pastDigits_46_eq (a1 : Int32) (S : pS) : Ta_pastDigits_46 a1 S = Ta_pastDigits_46_c2 a1 S := by
  show Res PT GX (rkT 107) 107 (cd107, [.ref 46, .int a1, .null], [], S) = _
  exact (R_blk PT GX (k := 107) (code := cd107) rfl [2] 400 _).trans rfl
set_option maxRecDepth 20000 in
theorem Ta_pastDigits_46_c2_eq (l2 : Int32) (S : pS) : Ta_pastDigits_46_c2 l2 S = if l2 < (rF S 46 4) then (if inb l2 400 = true then ((Ta_isDigit (rA S 47 l2) S).bind (fun q1 => if q1.1 = 0 then (some (l2, q1.2)) else (Ta_pastDigits_46_c2 (l2 + (1 : Int32)) q1.2))) else (none)) else (some ((rF S 46 4), S)) := by
  show Res PT GX (rkT 107) 107 (pCut cd107 2, [.ref 46, .null, .int l2], [], S) = _
  refine (R_reg PT GX (k := 107) (code := cd107) rfl [2] 400).trans ?_
  refine br_cong ?_ ?_
  · refine br_cong ?_ ?_
    · refine (R_cx PT GX hRk PT_105 rfl rfl rfl rfl rfl).trans ?_
      refine bind_cong (fun q1 => ?_)
      refine (R_blk PT GX (k := 107) (code := cd107) rfl [2] 400 _).trans ?_
      refine br_cong ?_ ?_
      · exact R_retI PT GX rfl rfl
      · rfl
    · rfl
  · exact R_retI PT GX rfl rfl
