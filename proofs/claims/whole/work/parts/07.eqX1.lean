/-! Equations of methods (written by program). -/
set_option maxRecDepth 20000 in
theorem C_state_eq (a1 : Int32) (S : pS) : C_state a1 S = (Hi_forget_31 (wF S 1 7 a1)).bind (fun q1 => some ((rF S 1 7), q1.2)) := by
  show Res PT GX (rkT 120) 120 (cd120, [.ref 0, .int a1, .null], [], S) = _
  refine (R_blk PT GX (k := 120) (code := cd120) rfl [] 400 _).trans ?_
  refine brT (Or.inl rfl) ?_
  refine (R_cx PT GX hRk PT_49 rfl rfl rfl rfl rfl).trans ?_
  refine bind_cong (fun q1 => ?_)
  refine (R_blk PT GX (k := 120) (code := cd120) rfl [] 400 _).trans ?_
  exact R_retI PT GX rfl rfl
set_option maxRecDepth 20000 in
theorem C_card_eq (a1 : Int32) (a2 : Int32) (a3 : Int32) (a4 : Int32) (S : pS) : C_card a1 a2 a3 a4 S = (C_within a1 (12 : Int32) S).bind (fun q1 => if q1.1 = 0 then (some ((-1 : Int32), q1.2)) else ((C_within a2 (8 : Int32) q1.2).bind (fun q2 => if q2.1 = 0 then (some ((-1 : Int32), q2.2)) else ((C_within a3 (6 : Int32) q2.2).bind (fun q3 => if q3.1 = 0 then (some ((-1 : Int32), q3.2)) else ((C_within a4 (100 : Int32) q3.2).bind (fun q4 => if q4.1 = 0 then (some ((-1 : Int32), q4.2)) else (if (rF q4.2 1 1) < (14 : Int32) then ((Hi_forget_31 q4.2).bind (fun q5 => (Dr_put_1 a1 a2 a3 a4 q5.2).bind (fun q6 => some (q6.1, q6.2)))) else (some ((-1 : Int32), q4.2)))))))))) := by
  show Res PT GX (rkT 121) 121 (cd121, [.ref 0, .int a1, .int a2, .int a3, .int a4], [], S) = _
  refine (R_blk PT GX (k := 121) (code := cd121) rfl [] 400 _).trans ?_
  refine (R_cx PT GX hRk PT_156 rfl rfl rfl rfl rfl).trans ?_
  refine bind_cong (fun q1 => ?_)
  refine (R_blk PT GX (k := 121) (code := cd121) rfl [] 400 _).trans ?_
  refine br_cong ?_ ?_
  · exact R_retI PT GX rfl rfl
  · refine (R_cx PT GX hRk PT_156 rfl rfl rfl rfl rfl).trans ?_
    refine bind_cong (fun q2 => ?_)
    refine (R_blk PT GX (k := 121) (code := cd121) rfl [] 400 _).trans ?_
    refine br_cong ?_ ?_
    · exact R_retI PT GX rfl rfl
    · refine (R_cx PT GX hRk PT_156 rfl rfl rfl rfl rfl).trans ?_
      refine bind_cong (fun q3 => ?_)
      refine (R_blk PT GX (k := 121) (code := cd121) rfl [] 400 _).trans ?_
      refine br_cong ?_ ?_
      · exact R_retI PT GX rfl rfl
      · refine (R_cx PT GX hRk PT_156 rfl rfl rfl rfl rfl).trans ?_
        refine bind_cong (fun q4 => ?_)
        refine (R_blk PT GX (k := 121) (code := cd121) rfl [] 400 _).trans ?_
        refine br_cong ?_ ?_
        · exact R_retI PT GX rfl rfl
        · refine br_cong ?_ ?_
          · refine (R_cx PT GX hRk PT_49 rfl rfl rfl rfl rfl).trans ?_
            refine bind_cong (fun q5 => ?_)
            refine (R_blk PT GX (k := 121) (code := cd121) rfl [] 400 _).trans ?_
            refine (R_cx PT GX hRk PT_42 rfl rfl rfl rfl rfl).trans ?_
            refine bind_cong (fun q6 => ?_)
            refine (R_blk PT GX (k := 121) (code := cd121) rfl [] 400 _).trans ?_
            exact R_retI PT GX rfl rfl
          · exact R_retI PT GX rfl rfl
set_option maxRecDepth 20000 in
theorem C_set_eq (a1 : Int32) (a2 : Int32) (a3 : Int32) (S : pS) : C_set a1 a2 a3 S = if a1 = (2 : Int32) then (C_set_c13 a1 a2 a3 (100 : Int32) a3 S) else (C_set_c13 a1 a2 a3 (100 : Int32) a3 S) := by
  show Res PT GX (rkT 122) 122 (cd122, [.ref 0, .int a1, .int a2, .int a3], [], S) = _
  refine (R_blk PT GX (k := 122) (code := cd122) rfl [13, 46, 81] 400 _).trans ?_
  refine br_cong ?_ ?_
  · rfl
  · rfl
set_option maxRecDepth 20000 in
theorem C_set_c13_eq (l1 : Int32) (l2 : Int32) (l3 : Int32) (s0 : Int32) (s1 : Int32) (S : pS) : C_set_c13 l1 l2 l3 s0 s1 S = (C_within s1 s0 S).bind (fun q1 => if q1.1 = 0 then (some ((0 : Int32), q1.2)) else (if l1 = 0 then (C_set_c81 (wF q1.2 1 3 l3)) else (if l1 = (1 : Int32) then (C_set_c46 l1 l2 l3 q1.2) else (if l1 = (2 : Int32) then (C_set_c46 l1 l2 l3 q1.2) else (some ((0 : Int32), q1.2)))))) := by
  show Res PT GX (rkT 122) 122 (pCut cd122 13, [.ref 0, .int l1, .int l2, .int l3], [.int s0, .int s1], S) = _
  refine (R_reg PT GX (k := 122) (code := cd122) rfl [13, 46, 81] 400).trans ?_
  refine (R_cx PT GX hRk PT_156 rfl rfl rfl rfl rfl).trans ?_
  refine bind_cong (fun q1 => ?_)
  refine (R_blk PT GX (k := 122) (code := cd122) rfl [13, 46, 81] 400 _).trans ?_
  refine br_cong ?_ ?_
  · exact R_retI PT GX rfl rfl
  · refine br_cong ?_ ?_
    · refine brT (Or.inl rfl) ?_
      rfl
    · refine br_cong ?_ ?_
      · rfl
      · refine br_cong ?_ ?_
        · rfl
        · exact R_retI PT GX rfl rfl
set_option maxRecDepth 20000 in
theorem C_set_c81_eq (S : pS) : C_set_c81 S = (Hi_forget_31 S).bind (fun q2 => some ((1 : Int32), q2.2)) := by
  show Res PT GX (rkT 122) 122 (pCut cd122 81, [.ref 0, .null, .null, .null], [], S) = _
  refine (R_reg PT GX (k := 122) (code := cd122) rfl [13, 46, 81] 400).trans ?_
  refine (R_cx PT GX hRk PT_49 rfl rfl rfl rfl rfl).trans ?_
  refine bind_cong (fun q2 => ?_)
  refine (R_blk PT GX (k := 122) (code := cd122) rfl [13, 46, 81] 400 _).trans ?_
  exact R_retI PT GX rfl rfl
set_option maxRecDepth 20000 in
theorem C_set_c46_eq (l1 : Int32) (l2 : Int32) (l3 : Int32) (S : pS) : C_set_c46 l1 l2 l3 S = (Dr_has_1 l2 S).bind (fun q3 => if q3.1 = 0 then (some ((0 : Int32), q3.2)) else (if l1 = (1 : Int32) then ((Dr_write_1 l2 (3 : Int32) l3 q3.2).bind (fun q4 => C_set_c81 q4.2)) else ((Dr_write_1 l2 (5 : Int32) l3 q3.2).bind (fun q5 => C_set_c81 q5.2)))) := by
  show Res PT GX (rkT 122) 122 (pCut cd122 46, [.ref 0, .int l1, .int l2, .int l3], [], S) = _
  refine (R_reg PT GX (k := 122) (code := cd122) rfl [13, 46, 81] 400).trans ?_
  refine (R_cx PT GX hRk PT_38 rfl rfl rfl rfl rfl).trans ?_
  refine bind_cong (fun q3 => ?_)
  refine (R_blk PT GX (k := 122) (code := cd122) rfl [13, 46, 81] 400 _).trans ?_
  refine br_cong ?_ ?_
  · exact R_retI PT GX rfl rfl
  · refine br_cong ?_ ?_
    · refine (R_cx PT GX hRk PT_41 rfl rfl rfl rfl rfl).trans ?_
      refine bind_cong (fun q4 => ?_)
      exact (R_blk PT GX (k := 122) (code := cd122) rfl [13, 46, 81] 400 _).trans rfl
    · refine (R_cx PT GX hRk PT_41 rfl rfl rfl rfl rfl).trans ?_
      refine bind_cong (fun q5 => ?_)
      exact (R_blk PT GX (k := 122) (code := cd122) rfl [13, 46, 81] 400 _).trans rfl
set_option maxRecDepth 20000 in
theorem C_ring_eq (a1 : Int32) (S : pS) : C_ring a1 S = (C_within a1 (12 : Int32) S).bind (fun q1 => if q1.1 = 0 then (some ((-1 : Int32), q1.2)) else ((Dr_keptWith_1 (0 : Int32) a1 q1.2).bind (fun q2 => if q2.1 = 0 then (some ((-1 : Int32), q2.2)) else ((Hi_remember_31_1 (rF q2.2 23 2) q2.2).bind (fun q3 => (Ke_ringPerson_25 a1 q3.2).bind (fun q4 => some (q4.1, q4.2))))))) := by
  show Res PT GX (rkT 123) 123 (cd123, [.ref 0, .int a1], [], S) = _
  refine (R_blk PT GX (k := 123) (code := cd123) rfl [] 400 _).trans ?_
  refine (R_cx PT GX hRk PT_156 rfl rfl rfl rfl rfl).trans ?_
  refine bind_cong (fun q1 => ?_)
  refine (R_blk PT GX (k := 123) (code := cd123) rfl [] 400 _).trans ?_
  refine br_cong ?_ ?_
  · exact R_retI PT GX rfl rfl
  · refine (R_cx PT GX hRk PT_45 rfl rfl rfl rfl rfl).trans ?_
    refine bind_cong (fun q2 => ?_)
    refine (R_blk PT GX (k := 123) (code := cd123) rfl [] 400 _).trans ?_
    refine br_cong ?_ ?_
    · exact R_retI PT GX rfl rfl
    · refine (R_cx PT GX hRk PT_50 rfl rfl rfl rfl rfl).trans ?_
      refine bind_cong (fun q3 => ?_)
      refine (R_blk PT GX (k := 123) (code := cd123) rfl [] 400 _).trans ?_
      refine (R_cx PT GX hRk PT_58 rfl rfl rfl rfl rfl).trans ?_
      refine bind_cong (fun q4 => ?_)
      refine (R_blk PT GX (k := 123) (code := cd123) rfl [] 400 _).trans ?_
      exact R_retI PT GX rfl rfl
set_option maxRecDepth 20000 in
theorem C_toss_eq (a1 : Int32) (S : pS) : C_toss a1 S = if a1 < (1 : Int32) then (some ((-1 : Int32), S)) else (if a1 ≤ (14 : Int32) then ((Hi_remember_31_1 (rF S 23 2) S).bind (fun q1 => (Ke_throwCards_25 a1 q1.2).bind (fun q2 => some (q2.1, q2.2)))) else (some ((-1 : Int32), S))) := by
  show Res PT GX (rkT 124) 124 (cd124, [.ref 0, .int a1], [], S) = _
  refine (R_blk PT GX (k := 124) (code := cd124) rfl [] 400 _).trans ?_
  refine br_cong ?_ ?_
  · exact R_retI PT GX rfl rfl
  · refine br_cong ?_ ?_
    · refine (R_cx PT GX hRk PT_50 rfl rfl rfl rfl rfl).trans ?_
      refine bind_cong (fun q1 => ?_)
      refine (R_blk PT GX (k := 124) (code := cd124) rfl [] 400 _).trans ?_
      refine (R_cx PT GX hRk PT_59 rfl rfl rfl rfl rfl).trans ?_
      refine bind_cong (fun q2 => ?_)
      refine (R_blk PT GX (k := 124) (code := cd124) rfl [] 400 _).trans ?_
      exact R_retI PT GX rfl rfl
    · exact R_retI PT GX rfl rfl
set_option maxRecDepth 20000 in
theorem C_does_eq (a1 : Int32) (a2 : Int32) (S : pS) : C_does a1 a2 S = (Dr_has_1 a1 S).bind (fun q1 => if q1.1 = 0 then (some ((0 : Int32), q1.2)) else (if a2 = 0 then (C_does_c28 a1 a2 q1.2) else ((Dr_isKept_1 a1 q1.2).bind (fun q2 => if q2.1 = 0 then (C_does_c28 a1 a2 q2.2) else (some ((0 : Int32), q2.2)))))) := by
  show Res PT GX (rkT 125) 125 (cd125, [.ref 0, .int a1, .int a2], [], S) = _
  refine (R_blk PT GX (k := 125) (code := cd125) rfl [28] 400 _).trans ?_
  refine (R_cx PT GX hRk PT_38 rfl rfl rfl rfl rfl).trans ?_
  refine bind_cong (fun q1 => ?_)
  refine (R_blk PT GX (k := 125) (code := cd125) rfl [28] 400 _).trans ?_
  refine br_cong ?_ ?_
  · exact R_retI PT GX rfl rfl
  · refine br_cong ?_ ?_
    · rfl
    · refine (R_cx PT GX hRk PT_39 rfl rfl rfl rfl rfl).trans ?_
      refine bind_cong (fun q2 => ?_)
      refine (R_blk PT GX (k := 125) (code := cd125) rfl [28] 400 _).trans ?_
      refine br_cong ?_ ?_
      · rfl
      · exact R_retI PT GX rfl rfl
set_option maxRecDepth 20000 in
theorem C_does_c28_eq (l1 : Int32) (l2 : Int32) (S : pS) : C_does_c28 l1 l2 S = (Hi_remember_31_1 (rF S 23 2) S).bind (fun q3 => if l2 = 0 then ((Ke_bendCard_25 l1 q3.2).bind (fun q4 => some ((1 : Int32), q4.2))) else ((Ke_findCard_25 l1 q3.2).bind (fun q5 => some ((1 : Int32), q5.2)))) := by
  show Res PT GX (rkT 125) 125 (pCut cd125 28, [.ref 0, .int l1, .int l2], [], S) = _
  refine (R_reg PT GX (k := 125) (code := cd125) rfl [28] 400).trans ?_
  refine (R_cx PT GX hRk PT_50 rfl rfl rfl rfl rfl).trans ?_
  refine bind_cong (fun q3 => ?_)
  refine (R_blk PT GX (k := 125) (code := cd125) rfl [28] 400 _).trans ?_
  refine br_cong ?_ ?_
  · refine (R_cx PT GX hRk PT_61 rfl rfl rfl rfl rfl).trans ?_
    refine bind_cong (fun q4 => ?_)
    refine (R_blk PT GX (k := 125) (code := cd125) rfl [28] 400 _).trans ?_
    exact R_retI PT GX rfl rfl
  · refine (R_cx PT GX hRk PT_62 rfl rfl rfl rfl rfl).trans ?_
    refine bind_cong (fun q5 => ?_)
    refine (R_blk PT GX (k := 125) (code := cd125) rfl [28] 400 _).trans ?_
    exact R_retI PT GX rfl rfl
set_option maxRecDepth 20000 in
theorem C_years_eq (a1 : Int32) (S : pS) : C_years a1 S = if a1 < (1 : Int32) then (some ((-1 : Int32), S)) else (if a1 ≤ (30 : Int32) then (if ((rF S 1 3) + a1) ≤ (99 : Int32) then (C_years_c37 a1 (rF S 1 4) (0 : Int32) S) else (some ((-1 : Int32), S))) else (some ((-1 : Int32), S))) := by
  show Res PT GX (rkT 126) 126 (cd126, [.ref 0, .int a1, .null, .null], [], S) = _
  refine (R_blk PT GX (k := 126) (code := cd126) rfl [37] 400 _).trans ?_
  refine br_cong ?_ ?_
  · exact R_retI PT GX rfl rfl
  · refine br_cong ?_ ?_
    · refine br_cong ?_ ?_
      · rfl
      · exact R_retI PT GX rfl rfl
    · exact R_retI PT GX rfl rfl
set_option maxRecDepth 20000 in
theorem C_years_c37_eq (l1 : Int32) (l2 : Int32) (l3 : Int32) (S : pS) : C_years_c37 l1 l2 l3 S = if l3 < l1 then ((Hi_remember_31_1 (rF S 23 2) S).bind (fun q1 => (Ke_passYear_25 q1.2).bind (fun q2 => C_years_c37 l1 l2 (l3 + (1 : Int32)) q2.2))) else (some (((rF S 1 4) - l2), S)) := by
  show Res PT GX (rkT 126) 126 (pCut cd126 37, [.ref 0, .int l1, .int l2, .int l3], [], S) = _
  refine (R_reg PT GX (k := 126) (code := cd126) rfl [37] 400).trans ?_
  refine br_cong ?_ ?_
  · refine (R_cx PT GX hRk PT_50 rfl rfl rfl rfl rfl).trans ?_
    refine bind_cong (fun q1 => ?_)
    refine (R_blk PT GX (k := 126) (code := cd126) rfl [37] 400 _).trans ?_
    refine (R_cx PT GX hRk PT_63 rfl rfl rfl rfl rfl).trans ?_
    refine bind_cong (fun q2 => ?_)
    exact (R_blk PT GX (k := 126) (code := cd126) rfl [37] 400 _).trans rfl
  · exact R_retI PT GX rfl rfl
set_option maxRecDepth 20000 in
theorem C_feed_eq (a1 : Int32) (a2 : Int32) (a3 : Int32) (a4 : Int32) (a5 : Int32) (S : pS) : C_feed a1 a2 a3 a4 a5 S = (Ta_hasRoom_46 (20 : Int32) S).bind (fun q1 => if q1.1 = 0 then (some ((-1 : Int32), q1.2)) else ((Ta_append_46 a1 q1.2).bind (fun q2 => (Ta_append_46 a2 q2.2).bind (fun q3 => (Ta_append_46 a3 q3.2).bind (fun q4 => (Ta_append_46 a4 q4.2).bind (fun q5 => (Ta_append_46 a5 q5.2).bind (fun q6 => some ((rF q6.2 46 4), q6.2)))))))) := by
  show Res PT GX (rkT 127) 127 (cd127, [.ref 0, .int a1, .int a2, .int a3, .int a4, .int a5], [], S) = _
  refine (R_blk PT GX (k := 127) (code := cd127) rfl [] 400 _).trans ?_
  refine (R_cx PT GX hRk PT_100 rfl rfl rfl rfl rfl).trans ?_
  refine bind_cong (fun q1 => ?_)
  refine (R_blk PT GX (k := 127) (code := cd127) rfl [] 400 _).trans ?_
  refine br_cong ?_ ?_
  · exact R_retI PT GX rfl rfl
  · refine (R_cx PT GX hRk PT_101 rfl rfl rfl rfl rfl).trans ?_
    refine bind_cong (fun q2 => ?_)
    refine (R_blk PT GX (k := 127) (code := cd127) rfl [] 400 _).trans ?_
    refine (R_cx PT GX hRk PT_101 rfl rfl rfl rfl rfl).trans ?_
    refine bind_cong (fun q3 => ?_)
    refine (R_blk PT GX (k := 127) (code := cd127) rfl [] 400 _).trans ?_
    refine (R_cx PT GX hRk PT_101 rfl rfl rfl rfl rfl).trans ?_
    refine bind_cong (fun q4 => ?_)
    refine (R_blk PT GX (k := 127) (code := cd127) rfl [] 400 _).trans ?_
    refine (R_cx PT GX hRk PT_101 rfl rfl rfl rfl rfl).trans ?_
    refine bind_cong (fun q5 => ?_)
    refine (R_blk PT GX (k := 127) (code := cd127) rfl [] 400 _).trans ?_
    refine (R_cx PT GX hRk PT_101 rfl rfl rfl rfl rfl).trans ?_
    refine bind_cong (fun q6 => ?_)
    refine (R_blk PT GX (k := 127) (code := cd127) rfl [] 400 _).trans ?_
    exact R_retI PT GX rfl rfl
set_option maxRecDepth 20000 in
theorem C_end_eq (a1 : Int32) (S : pS) : C_end a1 S = if a1 < 0 then (some ((0 : Int32), S)) else (if a1 ≤ (rF S 46 4) then (some ((1 : Int32), (wF S 46 4 a1))) else (some ((0 : Int32), S))) := by
  show Res PT GX (rkT 128) 128 (cd128, [.ref 0, .int a1], [], S) = _
  refine (R_blk PT GX (k := 128) (code := cd128) rfl [] 400 _).trans ?_
  refine br_cong ?_ ?_
  · exact R_retI PT GX rfl rfl
  · refine br_cong ?_ ?_
    · refine brT (Or.inl rfl) ?_
      exact R_retI PT GX rfl rfl
    · exact R_retI PT GX rfl rfl
set_option maxRecDepth 20000 in
theorem C_text_eq (d : Nat) (hd : 100 ≤ d) (a1 : Int32) (S : pS) : C_text (d + 1) a1 S = (Re_read_50 d a1 (rF S 1 1) S).bind (fun q1 => if q1.1 = 0 then (some ((-1 : Int32), (wF q1.2 46 4 (0 : Int32)))) else ((To_take_3_50 a1 (wF q1.2 46 4 (0 : Int32))).bind (fun q2 => if a1 = (3 : Int32) then ((Hi_forget_31 q2.2).bind (fun q3 => some ((rF q3.2 50 3), q3.2))) else (some ((rF q2.2 50 3), q2.2))))) := by
  show Res PT GX (d + 1) 129 (cd129, [.ref 0, .int a1, .null], [], S) = _
  refine (R_blk PT GX (k := 129) (code := cd129) rfl [] 400 _).trans ?_
  refine (R_cd PT GX PT_78 rfl rfl rfl rfl).trans ?_
  refine bind_cong (fun q1 => ?_)
  refine (R_blk PT GX (k := 129) (code := cd129) rfl [] 400 _).trans ?_
  refine brT (Or.inl rfl) ?_
  refine br_cong ?_ ?_
  · exact R_retI PT GX rfl rfl
  · refine (R_cx PT GX hRk PT_116 rfl (dk_ok (by show 4 ≤ d; omega) rfl) rfl rfl rfl).trans ?_
    refine bind_cong (fun q2 => ?_)
    refine (R_blk PT GX (k := 129) (code := cd129) rfl [] 400 _).trans ?_
    refine br_cong ?_ ?_
    · refine (R_cx PT GX hRk PT_49 rfl (dk_ok (by show 1 ≤ d; omega) rfl) rfl rfl rfl).trans ?_
      refine bind_cong (fun q3 => ?_)
      refine (R_blk PT GX (k := 129) (code := cd129) rfl [] 400 _).trans ?_
      exact R_retI PT GX rfl rfl
    · exact R_retI PT GX rfl rfl
set_option maxRecDepth 20000 in
theorem C_fault_eq (a1 : Int32) (S : pS) : C_fault a1 S = if a1 = 0 then (some ((rF S 50 4), S)) else (if a1 = (1 : Int32) then (some ((rF S 50 5), S)) else (some ((-1 : Int32), S))) := by
  show Res PT GX (rkT 130) 130 (cd130, [.ref 0, .int a1], [], S) = _
  refine (R_blk PT GX (k := 130) (code := cd130) rfl [] 400 _).trans ?_
  refine br_cong ?_ ?_
  · exact R_retI PT GX rfl rfl
  · refine br_cong ?_ ?_
    · exact R_retI PT GX rfl rfl
    · exact R_retI PT GX rfl rfl
set_option maxRecDepth 20000 in
theorem C_of_eq (a1 : Int32) (a2 : Int32) (S : pS) : C_of a1 a2 S = (Dr_has_1 a1 S).bind (fun q1 => if q1.1 = 0 then (some ((-1 : Int32), q1.2)) else ((C_within a2 (7 : Int32) q1.2).bind (fun q2 => if q2.1 = 0 then (if a2 = (7 : Int32) then ((Dr_isKept_1 a1 q2.2).bind (fun q6 => if q6.1 = 0 then (some ((0 : Int32), q6.2)) else (some ((1 : Int32), q6.2)))) else (if a2 = (8 : Int32) then ((La_tell_4_1 a1 (0 : Int32) q2.2).bind (fun q5 => some (q5.1, q5.2))) else (if a2 = (9 : Int32) then ((La_tell_4_1 a1 (1 : Int32) q2.2).bind (fun q4 => some (q4.1, q4.2))) else (if a2 = (10 : Int32) then ((La_tell_4_1 a1 (2 : Int32) q2.2).bind (fun q3 => some (q3.1, q3.2))) else (some ((-1 : Int32), q2.2)))))) else ((Dr_read_1 a1 a2 q2.2).bind (fun q7 => some (q7.1, q7.2)))))) := by
  show Res PT GX (rkT 131) 131 (cd131, [.ref 0, .int a1, .int a2], [], S) = _
  refine (R_blk PT GX (k := 131) (code := cd131) rfl [] 400 _).trans ?_
  refine (R_cx PT GX hRk PT_38 rfl rfl rfl rfl rfl).trans ?_
  refine bind_cong (fun q1 => ?_)
  refine (R_blk PT GX (k := 131) (code := cd131) rfl [] 400 _).trans ?_
  refine br_cong ?_ ?_
  · exact R_retI PT GX rfl rfl
  · refine (R_cx PT GX hRk PT_156 rfl rfl rfl rfl rfl).trans ?_
    refine bind_cong (fun q2 => ?_)
    refine (R_blk PT GX (k := 131) (code := cd131) rfl [] 400 _).trans ?_
    refine br_cong ?_ ?_
    · refine br_cong ?_ ?_
      · refine (R_cx PT GX hRk PT_39 rfl rfl rfl rfl rfl).trans ?_
        refine bind_cong (fun q6 => ?_)
        refine (R_blk PT GX (k := 131) (code := cd131) rfl [] 400 _).trans ?_
        refine br_cong ?_ ?_
        · exact R_retI PT GX rfl rfl
        · exact R_retI PT GX rfl rfl
      · refine br_cong ?_ ?_
        · refine (R_cx PT GX hRk PT_72 rfl rfl rfl rfl rfl).trans ?_
          refine bind_cong (fun q5 => ?_)
          refine (R_blk PT GX (k := 131) (code := cd131) rfl [] 400 _).trans ?_
          exact R_retI PT GX rfl rfl
        · refine br_cong ?_ ?_
          · refine (R_cx PT GX hRk PT_72 rfl rfl rfl rfl rfl).trans ?_
            refine bind_cong (fun q4 => ?_)
            refine (R_blk PT GX (k := 131) (code := cd131) rfl [] 400 _).trans ?_
            exact R_retI PT GX rfl rfl
          · refine br_cong ?_ ?_
            · refine (R_cx PT GX hRk PT_72 rfl rfl rfl rfl rfl).trans ?_
              refine bind_cong (fun q3 => ?_)
              refine (R_blk PT GX (k := 131) (code := cd131) rfl [] 400 _).trans ?_
              exact R_retI PT GX rfl rfl
            · exact R_retI PT GX rfl rfl
    · refine (R_cx PT GX hRk PT_40 rfl rfl rfl rfl rfl).trans ?_
      refine bind_cong (fun q7 => ?_)
      refine (R_blk PT GX (k := 131) (code := cd131) rfl [] 400 _).trans ?_
      exact R_retI PT GX rfl rfl
set_option maxRecDepth 20000 in
theorem C_met_eq (a1 : Int32) (S : pS) : C_met a1 S = (To_introducer_3 a1 S).bind (fun q1 => some (q1.1, q1.2)) := by
  show Res PT GX (rkT 132) 132 (cd132, [.ref 0, .int a1], [], S) = _
  refine (R_blk PT GX (k := 132) (code := cd132) rfl [] 400 _).trans ?_
  refine (R_cx PT GX hRk PT_113 rfl rfl rfl rfl rfl).trans ?_
  refine bind_cong (fun q1 => ?_)
  refine (R_blk PT GX (k := 132) (code := cd132) rfl [] 400 _).trans ?_
  exact R_retI PT GX rfl rfl
set_option maxRecDepth 20000 in
theorem C_called_eq (a1 : Int32) (a2 : Int32) (S : pS) : C_called a1 a2 S = if a2 = 0 then ((To_firstYear_3 a1 S).bind (fun q1 => some (q1.1, q1.2))) else (if a2 = (1 : Int32) then ((To_lastYear_3 a1 S).bind (fun q2 => some (q2.1, q2.2))) else (some ((-1 : Int32), S))) := by
  show Res PT GX (rkT 133) 133 (cd133, [.ref 0, .int a1, .int a2], [], S) = _
  refine (R_blk PT GX (k := 133) (code := cd133) rfl [] 400 _).trans ?_
  refine br_cong ?_ ?_
  · refine (R_cx PT GX hRk PT_114 rfl rfl rfl rfl rfl).trans ?_
    refine bind_cong (fun q1 => ?_)
    refine (R_blk PT GX (k := 133) (code := cd133) rfl [] 400 _).trans ?_
    exact R_retI PT GX rfl rfl
  · refine br_cong ?_ ?_
    · refine (R_cx PT GX hRk PT_115 rfl rfl rfl rfl rfl).trans ?_
      refine bind_cong (fun q2 => ?_)
      refine (R_blk PT GX (k := 133) (code := cd133) rfl [] 400 _).trans ?_
      exact R_retI PT GX rfl rfl
    · exact R_retI PT GX rfl rfl
set_option maxRecDepth 20000 in
theorem C_book_eq (a1 : Int32) (a2 : Int32) (S : pS) : C_book a1 a2 S = (Ro_at_23 a1 a2 S).bind (fun q1 => some (q1.1, q1.2)) := by
  show Res PT GX (rkT 134) 134 (cd134, [.ref 0, .int a1, .int a2], [], S) = _
  refine (R_blk PT GX (k := 134) (code := cd134) rfl [] 400 _).trans ?_
  refine (R_cx PT GX hRk PT_97 rfl rfl rfl rfl rfl).trans ?_
  refine bind_cong (fun q1 => ?_)
  refine (R_blk PT GX (k := 134) (code := cd134) rfl [] 400 _).trans ?_
  exact R_retI PT GX rfl rfl
set_option maxRecDepth 20000 in
theorem C_goes_eq (a1 : Int32) (a2 : Int32) (S : pS) : C_goes a1 a2 S = if a1 < (1 : Int32) then (some ((-1 : Int32), S)) else (if a1 ≤ (60 : Int32) then ((C_within a2 (4 : Int32) S).bind (fun q1 => if q1.1 = 0 then (some ((-1 : Int32), q1.2)) else ((Dr_copyFrom_26_1 q1.2).bind (fun q2 => C_goes_c34 a1 a2 (0 : Int32) q2.2)))) else (some ((-1 : Int32), S))) := by
  show Res PT GX (rkT 135) 135 (cd135, [.ref 0, .int a1, .int a2, .null], [], S) = _
  refine (R_blk PT GX (k := 135) (code := cd135) rfl [34] 400 _).trans ?_
  refine br_cong ?_ ?_
  · exact R_retI PT GX rfl rfl
  · refine br_cong ?_ ?_
    · refine (R_cx PT GX hRk PT_156 rfl rfl rfl rfl rfl).trans ?_
      refine bind_cong (fun q1 => ?_)
      refine (R_blk PT GX (k := 135) (code := cd135) rfl [34] 400 _).trans ?_
      refine br_cong ?_ ?_
      · exact R_retI PT GX rfl rfl
      · refine (R_cx PT GX hRk PT_37 rfl rfl rfl rfl rfl).trans ?_
        refine bind_cong (fun q2 => ?_)
        exact (R_blk PT GX (k := 135) (code := cd135) rfl [34] 400 _).trans rfl
    · exact R_retI PT GX rfl rfl
set_option maxRecDepth 20000 in
theorem C_goes_c34_eq (l1 : Int32) (l2 : Int32) (l3 : Int32) (S : pS) : C_goes_c34 l1 l2 l3 S = if l3 < l1 then ((Ke_passYear_28 S).bind (fun q3 => C_goes_c34 l1 l2 (l3 + (1 : Int32)) q3.2)) else (if l2 = (0 : Int32) then (some ((rF S 26 4), S)) else (if l2 = (1 : Int32) then (some ((rF S 26 5), S)) else (if l2 = (2 : Int32) then (some ((rF S 26 6), S)) else ((J_bitCount (rF S 26 2) S).bind (fun q4 => some (q4.1, q4.2)))))) := by
  show Res PT GX (rkT 135) 135 (pCut cd135 34, [.ref 0, .int l1, .int l2, .int l3], [], S) = _
  refine (R_reg PT GX (k := 135) (code := cd135) rfl [34] 400).trans ?_
  refine br_cong ?_ ?_
  · refine (R_cx PT GX hRk PT_63 rfl rfl rfl rfl rfl).trans ?_
    refine bind_cong (fun q3 => ?_)
    exact (R_blk PT GX (k := 135) (code := cd135) rfl [34] 400 _).trans rfl
  · refine br_cong ?_ ?_
    · exact R_retI PT GX rfl rfl
    · refine br_cong ?_ ?_
      · exact R_retI PT GX rfl rfl
      · refine br_cong ?_ ?_
        · exact R_retI PT GX rfl rfl
        · refine (R_cx PT GX hRk PT_288 rfl rfl rfl rfl rfl).trans ?_
          refine bind_cong (fun q4 => ?_)
          refine (R_blk PT GX (k := 135) (code := cd135) rfl [34] 400 _).trans ?_
          exact R_retI PT GX rfl rfl
set_option maxRecDepth 20000 in
theorem C_ahead_eq (a1 : Int32) (a2 : Int32) (S : pS) : C_ahead a1 a2 S = if a1 = (-1 : Int32) then ((Ro_clear_17 S).bind (fun q1 => some (q1.1, q1.2))) else ((Dr_has_1 a1 S).bind (fun q2 => if q2.1 = 0 then (some ((-1 : Int32), q2.2)) else ((Dr_has_1 a2 q2.2).bind (fun q3 => if q3.1 = 0 then (some ((-1 : Int32), q3.2)) else (if a1 = a2 then (some ((-1 : Int32), q3.2)) else ((Ro_add_17 a1 a2 (0 : Int32) (0 : Int32) q3.2).bind (fun q4 => some (q4.1, q4.2)))))))) := by
  show Res PT GX (rkT 136) 136 (cd136, [.ref 0, .int a1, .int a2], [], S) = _
  refine (R_blk PT GX (k := 136) (code := cd136) rfl [] 400 _).trans ?_
  refine br_cong ?_ ?_
  · refine (R_cx PT GX hRk PT_96 rfl rfl rfl rfl rfl).trans ?_
    refine bind_cong (fun q1 => ?_)
    refine (R_blk PT GX (k := 136) (code := cd136) rfl [] 400 _).trans ?_
    exact R_retI PT GX rfl rfl
  · refine (R_cx PT GX hRk PT_38 rfl rfl rfl rfl rfl).trans ?_
    refine bind_cong (fun q2 => ?_)
    refine (R_blk PT GX (k := 136) (code := cd136) rfl [] 400 _).trans ?_
    refine br_cong ?_ ?_
    · exact R_retI PT GX rfl rfl
    · refine (R_cx PT GX hRk PT_38 rfl rfl rfl rfl rfl).trans ?_
      refine bind_cong (fun q3 => ?_)
      refine (R_blk PT GX (k := 136) (code := cd136) rfl [] 400 _).trans ?_
      refine br_cong ?_ ?_
      · exact R_retI PT GX rfl rfl
      · refine br_cong ?_ ?_
        · exact R_retI PT GX rfl rfl
        · refine (R_cx PT GX hRk PT_95 rfl rfl rfl rfl rfl).trans ?_
          refine bind_cong (fun q4 => ?_)
          refine (R_blk PT GX (k := 136) (code := cd136) rfl [] 400 _).trans ?_
          exact R_retI PT GX rfl rfl
set_option maxRecDepth 20000 in
theorem C_dated_eq (a1 : Int32) (a2 : Int32) (S : pS) : C_dated a1 a2 S = (Dr_has_1 a1 S).bind (fun q1 => if q1.1 = 0 then (some ((-1 : Int32), q1.2)) else ((C_within a2 (2 : Int32) q1.2).bind (fun q2 => if q2.1 = 0 then (some ((-1 : Int32), q2.2)) else ((Da_narrow_61 q2.2).bind (fun q3 => if q3.1 = 0 then (some ((-1 : Int32), q3.2)) else (if a2 = 0 then (if inb a1 14 = true then (some ((rA q3.2 62 a1), q3.2)) else (none)) else (if inb a1 14 = true then (some ((rA q3.2 63 a1), q3.2)) else (none)))))))) := by
  show Res PT GX (rkT 137) 137 (cd137, [.ref 0, .int a1, .int a2], [], S) = _
  refine (R_blk PT GX (k := 137) (code := cd137) rfl [] 400 _).trans ?_
  refine (R_cx PT GX hRk PT_38 rfl rfl rfl rfl rfl).trans ?_
  refine bind_cong (fun q1 => ?_)
  refine (R_blk PT GX (k := 137) (code := cd137) rfl [] 400 _).trans ?_
  refine br_cong ?_ ?_
  · exact R_retI PT GX rfl rfl
  · refine (R_cx PT GX hRk PT_156 rfl rfl rfl rfl rfl).trans ?_
    refine bind_cong (fun q2 => ?_)
    refine (R_blk PT GX (k := 137) (code := cd137) rfl [] 400 _).trans ?_
    refine br_cong ?_ ?_
    · exact R_retI PT GX rfl rfl
    · refine (R_cx PT GX hRk PT_34 rfl rfl rfl rfl rfl).trans ?_
      refine bind_cong (fun q3 => ?_)
      refine (R_blk PT GX (k := 137) (code := cd137) rfl [] 400 _).trans ?_
      refine br_cong ?_ ?_
      · exact R_retI PT GX rfl rfl
      · refine br_cong ?_ ?_
        · refine br_cong ?_ ?_
          · exact R_retI PT GX rfl rfl
          · rfl
        · refine br_cong ?_ ?_
          · exact R_retI PT GX rfl rfl
          · rfl
set_option maxRecDepth 20000 in
theorem C_hands_eq (a1 : Int32) (a2 : Int32) (S : pS) : C_hands a1 a2 S = (C_within a1 (6 : Int32) S).bind (fun q1 => if q1.1 = 0 then (some ((-1 : Int32), q1.2)) else ((C_within a2 (3 : Int32) q1.2).bind (fun q2 => if q2.1 = 0 then (some ((-1 : Int32), q2.2)) else ((Ci_seek_64 a1 q2.2).bind (fun q3 => if q3.1 = 0 then (some ((-1 : Int32), q3.2)) else (if a2 = 0 then (some ((rF q3.2 64 4), q3.2)) else (if a2 = (1 : Int32) then (some ((rF q3.2 64 5), q3.2)) else (some ((rF q3.2 64 6), q3.2))))))))) := by
  show Res PT GX (rkT 138) 138 (cd138, [.ref 0, .int a1, .int a2], [], S) = _
  refine (R_blk PT GX (k := 138) (code := cd138) rfl [] 400 _).trans ?_
  refine (R_cx PT GX hRk PT_156 rfl rfl rfl rfl rfl).trans ?_
  refine bind_cong (fun q1 => ?_)
  refine (R_blk PT GX (k := 138) (code := cd138) rfl [] 400 _).trans ?_
  refine br_cong ?_ ?_
  · exact R_retI PT GX rfl rfl
  · refine (R_cx PT GX hRk PT_156 rfl rfl rfl rfl rfl).trans ?_
    refine bind_cong (fun q2 => ?_)
    refine (R_blk PT GX (k := 138) (code := cd138) rfl [] 400 _).trans ?_
    refine br_cong ?_ ?_
    · exact R_retI PT GX rfl rfl
    · refine (R_cx PT GX hRk PT_23 rfl rfl rfl rfl rfl).trans ?_
      refine bind_cong (fun q3 => ?_)
      refine (R_blk PT GX (k := 138) (code := cd138) rfl [] 400 _).trans ?_
      refine br_cong ?_ ?_
      · exact R_retI PT GX rfl rfl
      · refine br_cong ?_ ?_
        · exact R_retI PT GX rfl rfl
        · refine br_cong ?_ ?_
          · exact R_retI PT GX rfl rfl
          · exact R_retI PT GX rfl rfl
set_option maxRecDepth 20000 in
theorem C_led_eq (a1 : Int32) (S : pS) : C_led a1 S = (C_within a1 (12 : Int32) S).bind (fun q1 => if q1.1 = 0 then (some ((-1 : Int32), q1.2)) else ((Ci_ledBy_64 a1 q1.2).bind (fun q2 => some (q2.1, q2.2)))) := by
  show Res PT GX (rkT 139) 139 (cd139, [.ref 0, .int a1], [], S) = _
  refine (R_blk PT GX (k := 139) (code := cd139) rfl [] 400 _).trans ?_
  refine (R_cx PT GX hRk PT_156 rfl rfl rfl rfl rfl).trans ?_
  refine bind_cong (fun q1 => ?_)
  refine (R_blk PT GX (k := 139) (code := cd139) rfl [] 400 _).trans ?_
  refine br_cong ?_ ?_
  · exact R_retI PT GX rfl rfl
  · refine (R_cx PT GX hRk PT_25 rfl rfl rfl rfl rfl).trans ?_
    refine bind_cong (fun q2 => ?_)
    refine (R_blk PT GX (k := 139) (code := cd139) rfl [] 400 _).trans ?_
    exact R_retI PT GX rfl rfl
set_option maxRecDepth 20000 in
theorem C_root_eq (a1 : Int32) (S : pS) : C_root a1 S = (C_within a1 (12 : Int32) S).bind (fun q1 => if q1.1 = 0 then (some ((-1 : Int32), q1.2)) else ((Ci_rootOf_64 a1 q1.2).bind (fun q2 => some (q2.1, q2.2)))) := by
  show Res PT GX (rkT 140) 140 (cd140, [.ref 0, .int a1], [], S) = _
  refine (R_blk PT GX (k := 140) (code := cd140) rfl [] 400 _).trans ?_
  refine (R_cx PT GX hRk PT_156 rfl rfl rfl rfl rfl).trans ?_
  refine bind_cong (fun q1 => ?_)
  refine (R_blk PT GX (k := 140) (code := cd140) rfl [] 400 _).trans ?_
  refine br_cong ?_ ?_
  · exact R_retI PT GX rfl rfl
  · refine (R_cx PT GX hRk PT_26 rfl rfl rfl rfl rfl).trans ?_
    refine bind_cong (fun q2 => ?_)
    refine (R_blk PT GX (k := 140) (code := cd140) rfl [] 400 _).trans ?_
    exact R_retI PT GX rfl rfl
set_option maxRecDepth 20000 in
theorem C_tells_eq (a1 : Int32) (S : pS) : C_tells a1 S = (C_within a1 (2 : Int32) S).bind (fun q1 => if q1.1 = 0 then (some ((-1 : Int32), q1.2)) else ((Ci_tellers_64 q1.2).bind (fun q2 => if a1 = 0 then ((J_bitCount q2.1 q2.2).bind (fun q3 => some (q3.1, q3.2))) else (some (q2.1, q2.2))))) := by
  show Res PT GX (rkT 141) 141 (cd141, [.ref 0, .int a1, .null], [], S) = _
  refine (R_blk PT GX (k := 141) (code := cd141) rfl [] 400 _).trans ?_
  refine (R_cx PT GX hRk PT_156 rfl rfl rfl rfl rfl).trans ?_
  refine bind_cong (fun q1 => ?_)
  refine (R_blk PT GX (k := 141) (code := cd141) rfl [] 400 _).trans ?_
  refine br_cong ?_ ?_
  · exact R_retI PT GX rfl rfl
  · refine (R_cx PT GX hRk PT_27 rfl rfl rfl rfl rfl).trans ?_
    refine bind_cong (fun q2 => ?_)
    refine (R_blk PT GX (k := 141) (code := cd141) rfl [] 400 _).trans ?_
    refine br_cong ?_ ?_
    · refine (R_cx PT GX hRk PT_288 rfl rfl rfl rfl rfl).trans ?_
      refine bind_cong (fun q3 => ?_)
      refine (R_blk PT GX (k := 141) (code := cd141) rfl [] 400 _).trans ?_
      exact R_retI PT GX rfl rfl
    · exact R_retI PT GX rfl rfl
set_option maxRecDepth 20000 in
theorem C_hears_eq (a1 : Int32) (a2 : Int32) (S : pS) : C_hears a1 a2 S = (C_within a1 (4096 : Int32) S).bind (fun q1 => if q1.1 = 0 then (some ((-1 : Int32), q1.2)) else ((C_within a2 (12 : Int32) q1.2).bind (fun q2 => if q2.1 = 0 then (some ((-1 : Int32), q2.2)) else ((C_holdsBit a1 a2 q2.2).bind (fun q3 => if q3.1 = 0 then ((Ci_hearers_64 a1 a2 q3.2).bind (fun q4 => some (q4.1, q4.2))) else (some ((-1 : Int32), q3.2))))))) := by
  show Res PT GX (rkT 142) 142 (cd142, [.ref 0, .int a1, .int a2], [], S) = _
  refine (R_blk PT GX (k := 142) (code := cd142) rfl [] 400 _).trans ?_
  refine (R_cx PT GX hRk PT_156 rfl rfl rfl rfl rfl).trans ?_
  refine bind_cong (fun q1 => ?_)
  refine (R_blk PT GX (k := 142) (code := cd142) rfl [] 400 _).trans ?_
  refine br_cong ?_ ?_
  · exact R_retI PT GX rfl rfl
  · refine (R_cx PT GX hRk PT_156 rfl rfl rfl rfl rfl).trans ?_
    refine bind_cong (fun q2 => ?_)
    refine (R_blk PT GX (k := 142) (code := cd142) rfl [] 400 _).trans ?_
    refine br_cong ?_ ?_
    · exact R_retI PT GX rfl rfl
    · refine (R_cx PT GX hRk PT_157 rfl rfl rfl rfl rfl).trans ?_
      refine bind_cong (fun q3 => ?_)
      refine (R_blk PT GX (k := 142) (code := cd142) rfl [] 400 _).trans ?_
      refine br_cong ?_ ?_
      · refine (R_cx PT GX hRk PT_29 rfl rfl rfl rfl rfl).trans ?_
        refine bind_cong (fun q4 => ?_)
        refine (R_blk PT GX (k := 142) (code := cd142) rfl [] 400 _).trans ?_
        exact R_retI PT GX rfl rfl
      · exact R_retI PT GX rfl rfl
set_option maxRecDepth 20000 in
theorem C_asks_eq (a1 : Int32) (a2 : Int32) (S : pS) : C_asks a1 a2 S = if a1 = (-1 : Int32) then ((Ro_clear_19 S).bind (fun q1 => some (q1.1, q1.2))) else ((C_within a1 (3 : Int32) S).bind (fun q2 => if q2.1 = 0 then (some ((-1 : Int32), q2.2)) else ((C_kinds a1 q2.2).bind (fun q3 => (C_within a2 q3.1 q3.2).bind (fun q4 => if q4.1 = 0 then (some ((-1 : Int32), q4.2)) else ((Ro_add_19 a1 a2 (0 : Int32) (0 : Int32) q4.2).bind (fun q5 => some (q5.1, q5.2)))))))) := by
  show Res PT GX (rkT 143) 143 (cd143, [.ref 0, .int a1, .int a2], [], S) = _
  refine (R_blk PT GX (k := 143) (code := cd143) rfl [] 400 _).trans ?_
  refine br_cong ?_ ?_
  · refine (R_cx PT GX hRk PT_96 rfl rfl rfl rfl rfl).trans ?_
    refine bind_cong (fun q1 => ?_)
    refine (R_blk PT GX (k := 143) (code := cd143) rfl [] 400 _).trans ?_
    exact R_retI PT GX rfl rfl
  · refine (R_cx PT GX hRk PT_156 rfl rfl rfl rfl rfl).trans ?_
    refine bind_cong (fun q2 => ?_)
    refine (R_blk PT GX (k := 143) (code := cd143) rfl [] 400 _).trans ?_
    refine br_cong ?_ ?_
    · exact R_retI PT GX rfl rfl
    · refine (R_cx PT GX hRk PT_158 rfl rfl rfl rfl rfl).trans ?_
      refine bind_cong (fun q3 => ?_)
      refine (R_blk PT GX (k := 143) (code := cd143) rfl [] 400 _).trans ?_
      refine (R_cx PT GX hRk PT_156 rfl rfl rfl rfl rfl).trans ?_
      refine bind_cong (fun q4 => ?_)
      refine (R_blk PT GX (k := 143) (code := cd143) rfl [] 400 _).trans ?_
      refine br_cong ?_ ?_
      · exact R_retI PT GX rfl rfl
      · refine (R_cx PT GX hRk PT_95 rfl rfl rfl rfl rfl).trans ?_
        refine bind_cong (fun q5 => ?_)
        refine (R_blk PT GX (k := 143) (code := cd143) rfl [] 400 _).trans ?_
        exact R_retI PT GX rfl rfl
set_option maxRecDepth 20000 in
theorem C_keeps_eq (a1 : Int32) (a2 : Int32) (S : pS) : C_keeps a1 a2 S = if a1 < 0 then (some ((-1 : Int32), S)) else (if a1 ≤ (14 : Int32) then ((C_within a2 (2 : Int32) S).bind (fun q1 => if q1.1 = 0 then (some ((-1 : Int32), q1.2)) else ((Ch_choose_67 a1 q1.2).bind (fun q2 => if a2 = 0 then (some ((rF q2.2 67 3), q2.2)) else (some ((rF q2.2 67 4), q2.2)))))) else (some ((-1 : Int32), S))) := by
  show Res PT GX (rkT 144) 144 (cd144, [.ref 0, .int a1, .int a2], [], S) = _
  refine (R_blk PT GX (k := 144) (code := cd144) rfl [] 400 _).trans ?_
  refine br_cong ?_ ?_
  · exact R_retI PT GX rfl rfl
  · refine br_cong ?_ ?_
    · refine (R_cx PT GX hRk PT_156 rfl rfl rfl rfl rfl).trans ?_
      refine bind_cong (fun q1 => ?_)
      refine (R_blk PT GX (k := 144) (code := cd144) rfl [] 400 _).trans ?_
      refine br_cong ?_ ?_
      · exact R_retI PT GX rfl rfl
      · refine (R_cx PT GX hRk PT_1 rfl rfl rfl rfl rfl).trans ?_
        refine bind_cong (fun q2 => ?_)
        refine (R_blk PT GX (k := 144) (code := cd144) rfl [] 400 _).trans ?_
        refine br_cong ?_ ?_
        · exact R_retI PT GX rfl rfl
        · exact R_retI PT GX rfl rfl
    · exact R_retI PT GX rfl rfl
set_option maxRecDepth 20000 in
theorem C_sorted_eq (a1 : Int32) (S : pS) : C_sorted a1 S = (C_within a1 (2 : Int32) S).bind (fun q1 => if q1.1 = 0 then (some ((-1 : Int32), q1.2)) else ((Ch_bestOrder_67 q1.2).bind (fun q2 => if a1 = 0 then (some (q2.1, q2.2)) else ((Ch_lookedAt_67 q2.1 q2.2).bind (fun q3 => some (q3.1, q3.2)))))) := by
  show Res PT GX (rkT 145) 145 (cd145, [.ref 0, .int a1, .null], [], S) = _
  refine (R_blk PT GX (k := 145) (code := cd145) rfl [] 400 _).trans ?_
  refine (R_cx PT GX hRk PT_156 rfl rfl rfl rfl rfl).trans ?_
  refine bind_cong (fun q1 => ?_)
  refine (R_blk PT GX (k := 145) (code := cd145) rfl [] 400 _).trans ?_
  refine br_cong ?_ ?_
  · exact R_retI PT GX rfl rfl
  · refine (R_cx PT GX hRk PT_6 rfl rfl rfl rfl rfl).trans ?_
    refine bind_cong (fun q2 => ?_)
    refine (R_blk PT GX (k := 145) (code := cd145) rfl [] 400 _).trans ?_
    refine br_cong ?_ ?_
    · exact R_retI PT GX rfl rfl
    · refine (R_cx PT GX hRk PT_7 rfl rfl rfl rfl rfl).trans ?_
      refine bind_cong (fun q3 => ?_)
      refine (R_blk PT GX (k := 145) (code := cd145) rfl [] 400 _).trans ?_
      exact R_retI PT GX rfl rfl
set_option maxRecDepth 20000 in
theorem C_apart_eq (S : pS) : C_apart S = (Ch_fewestApart_67 S).bind (fun q1 => some (q1.1, q1.2)) := by
  show Res PT GX (rkT 146) 146 (cd146, [.ref 0], [], S) = _
  refine (R_blk PT GX (k := 146) (code := cd146) rfl [] 400 _).trans ?_
  refine (R_cx PT GX hRk PT_8 rfl rfl rfl rfl rfl).trans ?_
  refine bind_cong (fun q1 => ?_)
  refine (R_blk PT GX (k := 146) (code := cd146) rfl [] 400 _).trans ?_
  exact R_retI PT GX rfl rfl
set_option maxRecDepth 20000 in
theorem C_seconds_eq (S : pS) : C_seconds S = (Ch_secondOnes_67 S).bind (fun q1 => some (q1.1, q1.2)) := by
  show Res PT GX (rkT 147) 147 (cd147, [.ref 0], [], S) = _
  refine (R_blk PT GX (k := 147) (code := cd147) rfl [] 400 _).trans ?_
  refine (R_cx PT GX hRk PT_11 rfl rfl rfl rfl rfl).trans ?_
  refine bind_cong (fun q1 => ?_)
  refine (R_blk PT GX (k := 147) (code := cd147) rfl [] 400 _).trans ?_
  exact R_retI PT GX rfl rfl
set_option maxRecDepth 20000 in
theorem C_beside_eq (a1 : Int32) (a2 : Int32) (S : pS) : C_beside a1 a2 S = (Dr_has_1 a1 S).bind (fun q1 => if q1.1 = 0 then (some ((-1 : Int32), q1.2)) else ((C_within a2 (2 : Int32) q1.2).bind (fun q2 => if q2.1 = 0 then (some ((-1 : Int32), q2.2)) else ((Ch_nearest_67 a1 q2.2).bind (fun q3 => if q3.1 = (-1 : Int32) then (some (q3.1, q3.2)) else (if a2 = 0 then (some (q3.1, q3.2)) else ((Ch_inCommon_67 a1 q3.1 q3.2).bind (fun q4 => some (q4.1, q4.2))))))))) := by
  show Res PT GX (rkT 148) 148 (cd148, [.ref 0, .int a1, .int a2, .null], [], S) = _
  refine (R_blk PT GX (k := 148) (code := cd148) rfl [] 400 _).trans ?_
  refine (R_cx PT GX hRk PT_38 rfl rfl rfl rfl rfl).trans ?_
  refine bind_cong (fun q1 => ?_)
  refine (R_blk PT GX (k := 148) (code := cd148) rfl [] 400 _).trans ?_
  refine br_cong ?_ ?_
  · exact R_retI PT GX rfl rfl
  · refine (R_cx PT GX hRk PT_156 rfl rfl rfl rfl rfl).trans ?_
    refine bind_cong (fun q2 => ?_)
    refine (R_blk PT GX (k := 148) (code := cd148) rfl [] 400 _).trans ?_
    refine br_cong ?_ ?_
    · exact R_retI PT GX rfl rfl
    · refine (R_cx PT GX hRk PT_13 rfl rfl rfl rfl rfl).trans ?_
      refine bind_cong (fun q3 => ?_)
      refine (R_blk PT GX (k := 148) (code := cd148) rfl [] 400 _).trans ?_
      refine br_cong ?_ ?_
      · exact R_retI PT GX rfl rfl
      · refine br_cong ?_ ?_
        · exact R_retI PT GX rfl rfl
        · refine (R_cx PT GX hRk PT_14 rfl rfl rfl rfl rfl).trans ?_
          refine bind_cong (fun q4 => ?_)
          refine (R_blk PT GX (k := 148) (code := cd148) rfl [] 400 _).trans ?_
          exact R_retI PT GX rfl rfl
set_option maxRecDepth 20000 in
theorem C_note_eq (a1 : Int32) (a2 : Int32) (a3 : Int32) (S : pS) : C_note a1 a2 a3 S = if a1 = (-1 : Int32) then ((Ro_clear_21 S).bind (fun q1 => some (q1.1, q1.2))) else ((C_within a1 (4 : Int32) S).bind (fun q2 => if q2.1 = 0 then (some ((-1 : Int32), q2.2)) else ((C_noteKinds a1 q2.2).bind (fun q3 => (C_within a2 q3.1 q3.2).bind (fun q4 => if q4.1 = 0 then (some ((-1 : Int32), q4.2)) else (if a3 = 0 then ((Ro_add_21 a1 a2 (0 : Int32) (0 : Int32) q4.2).bind (fun q5 => some (q5.1, q5.2))) else ((Ro_add_21 a1 a2 (1 : Int32) (0 : Int32) q4.2).bind (fun q6 => some (q6.1, q6.2))))))))) := by
  show Res PT GX (rkT 149) 149 (cd149, [.ref 0, .int a1, .int a2, .int a3], [], S) = _
  refine (R_blk PT GX (k := 149) (code := cd149) rfl [] 400 _).trans ?_
  refine br_cong ?_ ?_
  · refine (R_cx PT GX hRk PT_96 rfl rfl rfl rfl rfl).trans ?_
    refine bind_cong (fun q1 => ?_)
    refine (R_blk PT GX (k := 149) (code := cd149) rfl [] 400 _).trans ?_
    exact R_retI PT GX rfl rfl
  · refine (R_cx PT GX hRk PT_156 rfl rfl rfl rfl rfl).trans ?_
    refine bind_cong (fun q2 => ?_)
    refine (R_blk PT GX (k := 149) (code := cd149) rfl [] 400 _).trans ?_
    refine br_cong ?_ ?_
    · exact R_retI PT GX rfl rfl
    · refine (R_cx PT GX hRk PT_159 rfl rfl rfl rfl rfl).trans ?_
      refine bind_cong (fun q3 => ?_)
      refine (R_blk PT GX (k := 149) (code := cd149) rfl [] 400 _).trans ?_
      refine (R_cx PT GX hRk PT_156 rfl rfl rfl rfl rfl).trans ?_
      refine bind_cong (fun q4 => ?_)
      refine (R_blk PT GX (k := 149) (code := cd149) rfl [] 400 _).trans ?_
      refine br_cong ?_ ?_
      · exact R_retI PT GX rfl rfl
      · refine br_cong ?_ ?_
        · refine (R_cx PT GX hRk PT_95 rfl rfl rfl rfl rfl).trans ?_
          refine bind_cong (fun q5 => ?_)
          refine (R_blk PT GX (k := 149) (code := cd149) rfl [] 400 _).trans ?_
          exact R_retI PT GX rfl rfl
        · refine (R_cx PT GX hRk PT_95 rfl rfl rfl rfl rfl).trans ?_
          refine bind_cong (fun q6 => ?_)
          refine (R_blk PT GX (k := 149) (code := cd149) rfl [] 400 _).trans ?_
          exact R_retI PT GX rfl rfl
set_option maxRecDepth 20000 in
theorem C_whose_eq (a1 : Int32) (S : pS) : C_whose a1 S = (C_within a1 (2 : Int32) S).bind (fun q1 => if q1.1 = 0 then (some ((-1 : Int32), q1.2)) else ((Ci_writers_64 q1.2).bind (fun q2 => if a1 = 0 then (some (q2.1, q2.2)) else ((Ci_askNext_64 q2.1 q2.2).bind (fun q3 => some (q3.1, q3.2)))))) := by
  show Res PT GX (rkT 150) 150 (cd150, [.ref 0, .int a1, .null], [], S) = _
  refine (R_blk PT GX (k := 150) (code := cd150) rfl [] 400 _).trans ?_
  refine (R_cx PT GX hRk PT_156 rfl rfl rfl rfl rfl).trans ?_
  refine bind_cong (fun q1 => ?_)
  refine (R_blk PT GX (k := 150) (code := cd150) rfl [] 400 _).trans ?_
  refine br_cong ?_ ?_
  · exact R_retI PT GX rfl rfl
  · refine (R_cx PT GX hRk PT_30 rfl rfl rfl rfl rfl).trans ?_
    refine bind_cong (fun q2 => ?_)
    refine (R_blk PT GX (k := 150) (code := cd150) rfl [] 400 _).trans ?_
    refine br_cong ?_ ?_
    · exact R_retI PT GX rfl rfl
    · refine (R_cx PT GX hRk PT_32 rfl rfl rfl rfl rfl).trans ?_
      refine bind_cong (fun q3 => ?_)
      refine (R_blk PT GX (k := 150) (code := cd150) rfl [] 400 _).trans ?_
      exact R_retI PT GX rfl rfl
set_option maxRecDepth 20000 in
theorem C_uses_eq (a1 : Int32) (S : pS) : C_uses a1 S = if a1 = 0 then ((Ke_sumOfHolds_25 S).bind (fun q1 => some ((q1.1 / (1000 : Int32)), q1.2))) else (if a1 = (1 : Int32) then ((Ke_likeliest_25 (rF S 1 2) S).bind (fun q2 => some (q2.1, q2.2))) else (some ((-1 : Int32), S))) := by
  show Res PT GX (rkT 151) 151 (cd151, [.ref 0, .int a1], [], S) = _
  refine (R_blk PT GX (k := 151) (code := cd151) rfl [] 400 _).trans ?_
  refine br_cong ?_ ?_
  · refine (R_cx PT GX hRk PT_56 rfl rfl rfl rfl rfl).trans ?_
    refine bind_cong (fun q1 => ?_)
    refine (R_blk PT GX (k := 151) (code := cd151) rfl [] 400 _).trans ?_
    refine brF (by decide) ?_
    exact R_retI PT GX rfl rfl
  · refine br_cong ?_ ?_
    · refine (R_cx PT GX hRk PT_55 rfl rfl rfl rfl rfl).trans ?_
      refine bind_cong (fun q2 => ?_)
      refine (R_blk PT GX (k := 151) (code := cd151) rfl [] 400 _).trans ?_
      exact R_retI PT GX rfl rfl
    · exact R_retI PT GX rfl rfl
set_option maxRecDepth 20000 in
theorem C_game_eq (a1 : Int32) (S : pS) : C_game a1 S = (C_within a1 (2 : Int32) S).bind (fun q1 => if q1.1 = 0 then (some ((-1 : Int32), q1.2)) else ((Ch_firmToThrow_67 q1.2).bind (fun q2 => if q2.1 = (-1 : Int32) then (some (q2.1, q2.2)) else (if a1 = 0 then (some (q2.1, q2.2)) else ((Ch_cardsToThrow_67 q2.1 q2.2).bind (fun q3 => some (q3.1, q3.2))))))) := by
  show Res PT GX (rkT 152) 152 (cd152, [.ref 0, .int a1, .null], [], S) = _
  refine (R_blk PT GX (k := 152) (code := cd152) rfl [] 400 _).trans ?_
  refine (R_cx PT GX hRk PT_156 rfl rfl rfl rfl rfl).trans ?_
  refine bind_cong (fun q1 => ?_)
  refine (R_blk PT GX (k := 152) (code := cd152) rfl [] 400 _).trans ?_
  refine br_cong ?_ ?_
  · exact R_retI PT GX rfl rfl
  · refine (R_cx PT GX hRk PT_18 rfl rfl rfl rfl rfl).trans ?_
    refine bind_cong (fun q2 => ?_)
    refine (R_blk PT GX (k := 152) (code := cd152) rfl [] 400 _).trans ?_
    refine br_cong ?_ ?_
    · exact R_retI PT GX rfl rfl
    · refine br_cong ?_ ?_
      · exact R_retI PT GX rfl rfl
      · refine (R_cx PT GX hRk PT_17 rfl rfl rfl rfl rfl).trans ?_
        refine bind_cong (fun q3 => ?_)
        refine (R_blk PT GX (k := 152) (code := cd152) rfl [] 400 _).trans ?_
        exact R_retI PT GX rfl rfl
set_option maxRecDepth 20000 in
theorem C_undo_eq (S : pS) : C_undo S = (Hi_goBack_31_1_23 S).bind (fun q1 => if pBool 1 q1.1 = true then some (q1.1, q1.2) else none) := by
  show Res PT GX (rkT 153) 153 (cd153, [.ref 0], [], S) = _
  refine (R_blk PT GX (k := 153) (code := cd153) rfl [] 400 _).trans ?_
  refine (R_cx PT GX hRk PT_52 rfl rfl rfl rfl rfl).trans ?_
  refine bind_cong (fun q1 => ?_)
  refine (R_blk PT GX (k := 153) (code := cd153) rfl [] 400 _).trans ?_
  exact R_ret PT GX rfl
set_option maxRecDepth 20000 in
theorem C_image_eq (a1 : Int32) (S : pS) : C_image a1 S = if a1 = 0 then (if (rF S 0 15) = 0 then (if pBool 1 (rF S 0 15) = true then some ((rF S 0 15), S) else none) else ((Dr_copyFrom_1_69 S).bind (fun q1 => (To_copyFrom_3_71 q1.2).bind (fun q2 => (Ro_copyFrom_23_91 q2.2).bind (fun q3 => (Hi_forget_31 q3.2).bind (fun q4 => if pBool 1 (rF q4.2 0 15) = true then some ((rF q4.2 0 15), q4.2) else none)))))) else ((Dr_copyFrom_69_1 S).bind (fun q5 => (To_copyFrom_71_3 q5.2).bind (fun q6 => (Ro_copyFrom_91_23 q6.2).bind (fun q7 => some ((1 : Int32), (wF q7.2 0 15 (1 : Int32))))))) := by
  show Res PT GX (rkT 154) 154 (cd154, [.ref 0, .int a1], [], S) = _
  refine (R_blk PT GX (k := 154) (code := cd154) rfl [] 400 _).trans ?_
  refine br_cong ?_ ?_
  · refine br_cong ?_ ?_
    · exact R_ret PT GX rfl
    · refine (R_cx PT GX hRk PT_37 rfl rfl rfl rfl rfl).trans ?_
      refine bind_cong (fun q1 => ?_)
      refine (R_blk PT GX (k := 154) (code := cd154) rfl [] 400 _).trans ?_
      refine (R_cx PT GX hRk PT_112 rfl rfl rfl rfl rfl).trans ?_
      refine bind_cong (fun q2 => ?_)
      refine (R_blk PT GX (k := 154) (code := cd154) rfl [] 400 _).trans ?_
      refine (R_cx PT GX hRk PT_98 rfl rfl rfl rfl rfl).trans ?_
      refine bind_cong (fun q3 => ?_)
      refine (R_blk PT GX (k := 154) (code := cd154) rfl [] 400 _).trans ?_
      refine (R_cx PT GX hRk PT_49 rfl rfl rfl rfl rfl).trans ?_
      refine bind_cong (fun q4 => ?_)
      refine (R_blk PT GX (k := 154) (code := cd154) rfl [] 400 _).trans ?_
      exact R_ret PT GX rfl
  · refine (R_cx PT GX hRk PT_37 rfl rfl rfl rfl rfl).trans ?_
    refine bind_cong (fun q5 => ?_)
    refine (R_blk PT GX (k := 154) (code := cd154) rfl [] 400 _).trans ?_
    refine (R_cx PT GX hRk PT_112 rfl rfl rfl rfl rfl).trans ?_
    refine bind_cong (fun q6 => ?_)
    refine (R_blk PT GX (k := 154) (code := cd154) rfl [] 400 _).trans ?_
    refine (R_cx PT GX hRk PT_98 rfl rfl rfl rfl rfl).trans ?_
    refine bind_cong (fun q7 => ?_)
    refine (R_blk PT GX (k := 154) (code := cd154) rfl [] 400 _).trans ?_
    refine brT (by decide) ?_
    exact R_retI PT GX rfl rfl
set_option maxRecDepth 20000 in
theorem C_look_eq (a1 : Int32) (S : pS) : C_look a1 S = if a1 = (0 : Int32) then (some ((rF S 1 1), S)) else (if a1 = (1 : Int32) then (some ((rF S 1 3), S)) else (if a1 = (2 : Int32) then (some ((rF S 1 4), S)) else (if a1 = (3 : Int32) then (some ((rF S 1 5), S)) else (if a1 = (4 : Int32) then (some ((rF S 1 6), S)) else (if a1 = (5 : Int32) then (some ((rF S 1 2), S)) else (if a1 = (6 : Int32) then (some ((rF S 23 2), S)) else (if a1 = (7 : Int32) then (some ((rF S 1 7), S)) else (if a1 = (8 : Int32) then (some ((rF S 4 8), S)) else (if a1 = (9 : Int32) then (some ((rF S 3 8), S)) else (if a1 = (10 : Int32) then (some ((rF S 3 9), S)) else (if a1 = (11 : Int32) then (some ((rF S 15 2), S)) else (if a1 = (12 : Int32) then (some ((rF S 17 2), S)) else (if a1 = (13 : Int32) then (some ((rF S 19 2), S)) else (if a1 = (14 : Int32) then (some ((rF S 21 2), S)) else (if a1 = (15 : Int32) then (some ((rF S 31 2), S)) else (some ((-1 : Int32), S))))))))))))))))) := by
  show Res PT GX (rkT 155) 155 (cd155, [.ref 0, .int a1], [], S) = _
  refine (R_blk PT GX (k := 155) (code := cd155) rfl [] 400 _).trans ?_
  refine br_cong ?_ ?_
  · exact R_retI PT GX rfl rfl
  · refine br_cong ?_ ?_
    · exact R_retI PT GX rfl rfl
    · refine br_cong ?_ ?_
      · exact R_retI PT GX rfl rfl
      · refine br_cong ?_ ?_
        · exact R_retI PT GX rfl rfl
        · refine br_cong ?_ ?_
          · exact R_retI PT GX rfl rfl
          · refine br_cong ?_ ?_
            · exact R_retI PT GX rfl rfl
            · refine br_cong ?_ ?_
              · exact R_retI PT GX rfl rfl
              · refine br_cong ?_ ?_
                · exact R_retI PT GX rfl rfl
                · refine br_cong ?_ ?_
                  · exact R_retI PT GX rfl rfl
                  · refine br_cong ?_ ?_
                    · exact R_retI PT GX rfl rfl
                    · refine br_cong ?_ ?_
                      · exact R_retI PT GX rfl rfl
                      · refine br_cong ?_ ?_
                        · exact R_retI PT GX rfl rfl
                        · refine br_cong ?_ ?_
                          · exact R_retI PT GX rfl rfl
                          · refine br_cong ?_ ?_
                            · exact R_retI PT GX rfl rfl
                            · refine br_cong ?_ ?_
                              · exact R_retI PT GX rfl rfl
                              · refine br_cong ?_ ?_
                                · exact R_retI PT GX rfl rfl
                                · exact R_retI PT GX rfl rfl
set_option maxRecDepth 20000 in
theorem Hi_forget_31_eq (S : pS) : Hi_forget_31 S = some (0, (wF S 31 2 (0 : Int32))) := by
  show Res PT GX (rkT 49) 49 (cd49, [.ref 31], [], S) = _
  refine (R_blk PT GX (k := 49) (code := cd49) rfl [] 400 _).trans ?_
  refine brT (Or.inl rfl) ?_
  exact R_retV PT GX rfl
set_option maxRecDepth 20000 in
theorem C_within_eq (a0 : Int32) (a1 : Int32) (S : pS) : C_within a0 a1 S = if a0 < 0 then (some ((0 : Int32), S)) else (if a0 < a1 then (some ((1 : Int32), S)) else (some ((0 : Int32), S))) := by
  show Res PT GX (rkT 156) 156 (cd156, [.int a0, .int a1], [], S) = _
  refine (R_blk PT GX (k := 156) (code := cd156) rfl [] 400 _).trans ?_
  refine br_cong ?_ ?_
  · exact R_retI PT GX rfl rfl
  · refine br_cong ?_ ?_
    · exact R_retI PT GX rfl rfl
    · exact R_retI PT GX rfl rfl
set_option maxRecDepth 20000 in
theorem Dr_put_1_eq (a1 : Int32) (a2 : Int32) (a3 : Int32) (a4 : Int32) (S : pS) : Dr_put_1 a1 a2 a3 a4 S = (Dr_write_1 (rF S 1 1) (0 : Int32) a1 S).bind (fun q1 => (Dr_write_1 (rF S 1 1) (1 : Int32) a2 q1.2).bind (fun q2 => (Dr_write_1 (rF S 1 1) (2 : Int32) a3 q2.2).bind (fun q3 => (Dr_write_1 (rF S 1 1) (3 : Int32) a4 q3.2).bind (fun q4 => (Dr_write_1 (rF S 1 1) (4 : Int32) (0 : Int32) q4.2).bind (fun q5 => (Dr_write_1 (rF S 1 1) (5 : Int32) (0 : Int32) q5.2).bind (fun q6 => (Dr_write_1 (rF S 1 1) (6 : Int32) (0 : Int32) q6.2).bind (fun q7 => some ((rF S 1 1), (wF (wF q7.2 1 2 ((rF q7.2 1 2) ||| ((1 : Int32) <<< ((rF S 1 1) &&& 31)))) 1 1 ((rF q7.2 1 1) + (1 : Int32))))))))))) := by
  show Res PT GX (rkT 42) 42 (cd42, [.ref 1, .int a1, .int a2, .int a3, .int a4, .null], [], S) = _
  refine (R_blk PT GX (k := 42) (code := cd42) rfl [] 400 _).trans ?_
  refine (R_cx PT GX hRk PT_41 rfl rfl rfl rfl rfl).trans ?_
  refine bind_cong (fun q1 => ?_)
  refine (R_blk PT GX (k := 42) (code := cd42) rfl [] 400 _).trans ?_
  refine (R_cx PT GX hRk PT_41 rfl rfl rfl rfl rfl).trans ?_
  refine bind_cong (fun q2 => ?_)
  refine (R_blk PT GX (k := 42) (code := cd42) rfl [] 400 _).trans ?_
  refine (R_cx PT GX hRk PT_41 rfl rfl rfl rfl rfl).trans ?_
  refine bind_cong (fun q3 => ?_)
  refine (R_blk PT GX (k := 42) (code := cd42) rfl [] 400 _).trans ?_
  refine (R_cx PT GX hRk PT_41 rfl rfl rfl rfl rfl).trans ?_
  refine bind_cong (fun q4 => ?_)
  refine (R_blk PT GX (k := 42) (code := cd42) rfl [] 400 _).trans ?_
  refine (R_cx PT GX hRk PT_41 rfl rfl rfl rfl rfl).trans ?_
  refine bind_cong (fun q5 => ?_)
  refine (R_blk PT GX (k := 42) (code := cd42) rfl [] 400 _).trans ?_
  refine (R_cx PT GX hRk PT_41 rfl rfl rfl rfl rfl).trans ?_
  refine bind_cong (fun q6 => ?_)
  refine (R_blk PT GX (k := 42) (code := cd42) rfl [] 400 _).trans ?_
  refine (R_cx PT GX hRk PT_41 rfl rfl rfl rfl rfl).trans ?_
  refine bind_cong (fun q7 => ?_)
  refine (R_blk PT GX (k := 42) (code := cd42) rfl [] 400 _).trans ?_
  refine brT (Or.inl rfl) ?_
  refine brT (Or.inl rfl) ?_
  exact R_retI PT GX rfl rfl
set_option maxRecDepth 20000 in
theorem Dr_has_1_eq (a1 : Int32) (S : pS) : Dr_has_1 a1 S = if a1 < 0 then (some ((0 : Int32), S)) else (if a1 < (rF S 1 1) then (some ((1 : Int32), S)) else (some ((0 : Int32), S))) := by
  show Res PT GX (rkT 38) 38 (cd38, [.ref 1, .int a1], [], S) = _
  refine (R_blk PT GX (k := 38) (code := cd38) rfl [] 400 _).trans ?_
  refine br_cong ?_ ?_
  · exact R_retI PT GX rfl rfl
  · refine br_cong ?_ ?_
    · exact R_retI PT GX rfl rfl
    · exact R_retI PT GX rfl rfl
set_option maxRecDepth 20000 in
theorem Dr_write_1_eq (a1 : Int32) (a2 : Int32) (a3 : Int32) (S : pS) : Dr_write_1 a1 a2 a3 S = (C_within a1 (14 : Int32) S).bind (fun q1 => if q1.1 = 0 then (some (0, q1.2)) else ((C_within a2 (7 : Int32) q1.2).bind (fun q2 => if q2.1 = 0 then (some (0, q2.2)) else (if inb ((a2 * (14 : Int32)) + a1) 98 = true then (some (0, (wA q2.2 2 ((a2 * (14 : Int32)) + a1) a3))) else (none))))) := by
  show Res PT GX (rkT 41) 41 (cd41, [.ref 1, .int a1, .int a2, .int a3], [], S) = _
  refine (R_blk PT GX (k := 41) (code := cd41) rfl [] 400 _).trans ?_
  refine (R_cx PT GX hRk PT_156 rfl rfl rfl rfl rfl).trans ?_
  refine bind_cong (fun q1 => ?_)
  refine (R_blk PT GX (k := 41) (code := cd41) rfl [] 400 _).trans ?_
  refine br_cong ?_ ?_
  · exact R_retV PT GX rfl
  · refine (R_cx PT GX hRk PT_156 rfl rfl rfl rfl rfl).trans ?_
    refine bind_cong (fun q2 => ?_)
    refine (R_blk PT GX (k := 41) (code := cd41) rfl [] 400 _).trans ?_
    refine br_cong ?_ ?_
    · exact R_retV PT GX rfl
    · refine br_cong ?_ ?_
      · exact R_retV PT GX rfl
      · rfl
set_option maxRecDepth 20000 in
theorem Dr_keptWith_1_eq (a1 : Int32) (a2 : Int32) (S : pS) : Dr_keptWith_1 a1 a2 S = Dr_keptWith_1_c5 a1 a2 (0 : Int32) (0 : Int32) S := by
  show Res PT GX (rkT 45) 45 (cd45, [.ref 1, .int a1, .int a2, .null, .null], [], S) = _
  exact (R_blk PT GX (k := 45) (code := cd45) rfl [5] 400 _).trans rfl
set_option maxRecDepth 20000 in
theorem Dr_keptWith_1_c5_eq (l1 : Int32) (l2 : Int32) (l3 : Int32) (l4 : Int32) (S : pS) : Dr_keptWith_1_c5 l1 l2 l3 l4 S = if l4 < (rF S 1 1) then ((Dr_isKept_1 l4 S).bind (fun q1 => if q1.1 = 0 then (Dr_keptWith_1_c5 l1 l2 l3 (l4 + (1 : Int32)) q1.2) else ((Dr_read_1 l4 l1 q1.2).bind (fun q2 => if q2.1 = l2 then (Dr_keptWith_1_c5 l1 l2 (l3 ||| ((1 : Int32) <<< (l4 &&& 31))) (l4 + (1 : Int32)) q2.2) else (Dr_keptWith_1_c5 l1 l2 l3 (l4 + (1 : Int32)) q2.2))))) else (some (l3, S)) := by
  show Res PT GX (rkT 45) 45 (pCut cd45 5, [.ref 1, .int l1, .int l2, .int l3, .int l4], [], S) = _
  refine (R_reg PT GX (k := 45) (code := cd45) rfl [5] 400).trans ?_
  refine br_cong ?_ ?_
  · refine (R_cx PT GX hRk PT_39 rfl rfl rfl rfl rfl).trans ?_
    refine bind_cong (fun q1 => ?_)
    refine (R_blk PT GX (k := 45) (code := cd45) rfl [5] 400 _).trans ?_
    refine br_cong ?_ ?_
    · rfl
    · refine (R_cx PT GX hRk PT_40 rfl rfl rfl rfl rfl).trans ?_
      refine bind_cong (fun q2 => ?_)
      refine (R_blk PT GX (k := 45) (code := cd45) rfl [5] 400 _).trans ?_
      refine br_cong ?_ ?_
      · rfl
      · rfl
  · exact R_retI PT GX rfl rfl
set_option maxRecDepth 20000 in
theorem Hi_remember_31_1_eq (a2 : Int32) (S : pS) : Hi_remember_31_1 a2 S = if (rF S 31 2) = (6 : Int32) then ((Hi_dropOldest_31 S).bind (fun q1 => Hi_remember_31_1_c13 a2 q1.2)) else (Hi_remember_31_1_c13 a2 S) := by
  show Res PT GX (rkT 50) 50 (cd50, [.ref 31, .ref 1, .int a2], [], S) = _
  refine (R_blk PT GX (k := 50) (code := cd50) rfl [13] 400 _).trans ?_
  refine br_cong ?_ ?_
  · refine (R_cx PT GX hRk PT_51 rfl rfl rfl rfl rfl).trans ?_
    refine bind_cong (fun q1 => ?_)
    exact (R_blk PT GX (k := 50) (code := cd50) rfl [13] 400 _).trans rfl
  · rfl
set_option maxRecDepth 20000 in
theorem Hi_remember_31_1_c13_eq (l2 : Int32) (S : pS) : Hi_remember_31_1_c13 l2 S = if inb (rF S 31 2) 6 = true then ((S.2.2 32 ((rF S 31 2)).toNatClampNeg).bind (fun j2 => if pRcv GX 4 [.ref j2, .ref 1] = true then ((CallF PT GX rkT 37 [.ref j2, .ref 1] S).bind (fun q3 => if inb (rF q3.2 31 2) 6 = true then (some (0, (wF (wA q3.2 33 (rF q3.2 31 2) l2) 31 2 ((rF q3.2 31 2) + (1 : Int32))))) else (none))) else none)) else (none) := by
  show Res PT GX (rkT 50) 50 (pCut cd50 13, [.ref 31, .ref 1, .int l2], [], S) = _
  refine (R_reg PT GX (k := 50) (code := cd50) rfl [13] 400).trans ?_
  refine br_cong ?_ ?_
  · refine bind_cong (fun j2 => ?_)
    refine (R_cxg PT GX hRk PT_37 rfl rfl rfl rfl rfl).trans ?_
    refine ite_cong ?_ rfl
    refine bind_cong (fun q3 => ?_)
    refine (R_blk PT GX (k := 50) (code := cd50) rfl [13] 400 _).trans ?_
    refine br_cong ?_ ?_
    · refine brT (Or.inl rfl) ?_
      exact R_retV PT GX rfl
    · rfl
  · rfl
set_option maxRecDepth 20000 in
theorem Ke_ringPerson_25_eq (a1 : Int32) (S : pS) : Ke_ringPerson_25 a1 S = (Dr_keptWith_1 (0 : Int32) a1 S).bind (fun q1 => (Ke_likeliest_25 q1.1 q1.2).bind (fun q2 => if q2.1 = (-1 : Int32) then (some ((-1 : Int32), q2.2)) else ((Ke_reaches_25 q2.1 q2.2).bind (fun q3 => if q3.1 = 0 then (Ke_ringPerson_25_c37 q2.1 q3.1 (1 : Int32) q3.2) else (Ke_ringPerson_25_c37 q2.1 q3.1 (0 : Int32) q3.2))))) := by
  show Res PT GX (rkT 58) 58 (cd58, [.ref 25, .int a1, .null, .null], [], S) = _
  refine (R_blk PT GX (k := 58) (code := cd58) rfl [37] 400 _).trans ?_
  refine (R_cx PT GX hRk PT_45 rfl rfl rfl rfl rfl).trans ?_
  refine bind_cong (fun q1 => ?_)
  refine (R_blk PT GX (k := 58) (code := cd58) rfl [37] 400 _).trans ?_
  refine (R_cx PT GX hRk PT_55 rfl rfl rfl rfl rfl).trans ?_
  refine bind_cong (fun q2 => ?_)
  refine (R_blk PT GX (k := 58) (code := cd58) rfl [37] 400 _).trans ?_
  refine br_cong ?_ ?_
  · exact R_retI PT GX rfl rfl
  · refine (R_cx PT GX hRk PT_57 rfl rfl rfl rfl rfl).trans ?_
    refine bind_cong (fun q3 => ?_)
    refine (R_blk PT GX (k := 58) (code := cd58) rfl [37] 400 _).trans ?_
    refine br_cong ?_ ?_
    · rfl
    · rfl
set_option maxRecDepth 20000 in
theorem Ke_ringPerson_25_c37_eq (l2 : Int32) (l3 : Int32) (s0 : Int32) (S : pS) : Ke_ringPerson_25_c37 l2 l3 s0 S = (Ke_enter_25 s0 l2 (rF S 25 4) S).bind (fun q4 => if l3 = 0 then ((Dr_wear_1 l2 (9 : Int32) q4.2).bind (fun q5 => some ((0 : Int32), q5.2))) else ((Dr_write_1 l2 (3 : Int32) (rF q4.2 1 3) q4.2).bind (fun q6 => some ((1 : Int32), q6.2)))) := by
  show Res PT GX (rkT 58) 58 (pCut cd58 37, [.ref 25, .null, .int l2, .int l3], [.int s0, .ref 25], S) = _
  refine (R_reg PT GX (k := 58) (code := cd58) rfl [37] 400).trans ?_
  refine (R_cx PT GX hRk PT_54 rfl rfl rfl rfl rfl).trans ?_
  refine bind_cong (fun q4 => ?_)
  refine (R_blk PT GX (k := 58) (code := cd58) rfl [37] 400 _).trans ?_
  refine br_cong ?_ ?_
  · refine (R_cx PT GX hRk PT_44 rfl rfl rfl rfl rfl).trans ?_
    refine bind_cong (fun q5 => ?_)
    refine (R_blk PT GX (k := 58) (code := cd58) rfl [37] 400 _).trans ?_
    exact R_retI PT GX rfl rfl
  · refine (R_cx PT GX hRk PT_41 rfl rfl rfl rfl rfl).trans ?_
    refine bind_cong (fun q6 => ?_)
    refine (R_blk PT GX (k := 58) (code := cd58) rfl [37] 400 _).trans ?_
    exact R_retI PT GX rfl rfl
set_option maxRecDepth 20000 in
theorem Ke_throwCards_25_eq (a1 : Int32) (S : pS) : Ke_throwCards_25 a1 S = Ke_throwCards_25_c4 a1 (0 : Int32) (0 : Int32) S := by
  show Res PT GX (rkT 59) 59 (cd59, [.ref 25, .int a1, .null, .null], [], S) = _
  exact (R_blk PT GX (k := 59) (code := cd59) rfl [4] 400 _).trans rfl
set_option maxRecDepth 20000 in
theorem Ke_throwCards_25_c4_eq (l1 : Int32) (l2 : Int32) (l3 : Int32) (S : pS) : Ke_throwCards_25_c4 l1 l2 l3 S = if l3 < l1 then ((Ke_throwLeast_25 S).bind (fun q1 => if q1.1 = 0 then (some (l2, q1.2)) else (Ke_throwCards_25_c4 l1 (l2 + (1 : Int32)) (l3 + (1 : Int32)) q1.2))) else (some (l2, S)) := by
  show Res PT GX (rkT 59) 59 (pCut cd59 4, [.ref 25, .int l1, .int l2, .int l3], [], S) = _
  refine (R_reg PT GX (k := 59) (code := cd59) rfl [4] 400).trans ?_
  refine br_cong ?_ ?_
  · refine (R_cx PT GX hRk PT_60 rfl rfl rfl rfl rfl).trans ?_
    refine bind_cong (fun q1 => ?_)
    refine (R_blk PT GX (k := 59) (code := cd59) rfl [4] 400 _).trans ?_
    refine br_cong ?_ ?_
    · exact R_retI PT GX rfl rfl
    · rfl
  · exact R_retI PT GX rfl rfl
set_option maxRecDepth 20000 in
theorem Dr_isKept_1_eq (a1 : Int32) (S : pS) : Dr_isKept_1 a1 S = (C_holdsBit (rF S 1 2) a1 S).bind (fun q1 => if pBool 1 q1.1 = true then some (q1.1, q1.2) else none) := by
  show Res PT GX (rkT 39) 39 (cd39, [.ref 1, .int a1], [], S) = _
  refine (R_blk PT GX (k := 39) (code := cd39) rfl [] 400 _).trans ?_
  refine (R_cx PT GX hRk PT_157 rfl rfl rfl rfl rfl).trans ?_
  refine bind_cong (fun q1 => ?_)
  refine (R_blk PT GX (k := 39) (code := cd39) rfl [] 400 _).trans ?_
  exact R_ret PT GX rfl
set_option maxRecDepth 20000 in
theorem Ke_bendCard_25_eq (a1 : Int32) (S : pS) : Ke_bendCard_25 a1 S = (Dr_read_1 a1 (4 : Int32) S).bind (fun q1 => (Dr_write_1 a1 (4 : Int32) ((1 : Int32) - q1.1) q1.2).bind (fun q2 => (Ke_enter_25 (3 : Int32) a1 ((1 : Int32) - q1.1) q2.2).bind (fun q3 => some (0, q3.2)))) := by
  show Res PT GX (rkT 61) 61 (cd61, [.ref 25, .int a1, .null], [], S) = _
  refine (R_blk PT GX (k := 61) (code := cd61) rfl [] 400 _).trans ?_
  refine (R_cx PT GX hRk PT_40 rfl rfl rfl rfl rfl).trans ?_
  refine bind_cong (fun q1 => ?_)
  refine (R_blk PT GX (k := 61) (code := cd61) rfl [] 400 _).trans ?_
  refine (R_cx PT GX hRk PT_41 rfl rfl rfl rfl rfl).trans ?_
  refine bind_cong (fun q2 => ?_)
  refine (R_blk PT GX (k := 61) (code := cd61) rfl [] 400 _).trans ?_
  refine (R_cx PT GX hRk PT_54 rfl rfl rfl rfl rfl).trans ?_
  refine bind_cong (fun q3 => ?_)
  refine (R_blk PT GX (k := 61) (code := cd61) rfl [] 400 _).trans ?_
  exact R_retV PT GX rfl
set_option maxRecDepth 20000 in
theorem Ke_findCard_25_eq (a1 : Int32) (S : pS) : Ke_findCard_25 a1 S = (Dr_isKept_1 a1 S).bind (fun q1 => if q1.1 = 0 then ((Dr_write_1 a1 (5 : Int32) (0 : Int32) (wF q1.2 1 2 ((rF q1.2 1 2) ||| ((1 : Int32) <<< (a1 &&& 31))))).bind (fun q2 => (Ke_enter_25 (4 : Int32) a1 (0 : Int32) q2.2).bind (fun q3 => some (0, q3.2)))) else (some (0, q1.2))) := by
  show Res PT GX (rkT 62) 62 (cd62, [.ref 25, .int a1], [], S) = _
  refine (R_blk PT GX (k := 62) (code := cd62) rfl [] 400 _).trans ?_
  refine (R_cx PT GX hRk PT_39 rfl rfl rfl rfl rfl).trans ?_
  refine bind_cong (fun q1 => ?_)
  refine (R_blk PT GX (k := 62) (code := cd62) rfl [] 400 _).trans ?_
  refine br_cong ?_ ?_
  · refine brT (Or.inl rfl) ?_
    refine (R_cx PT GX hRk PT_41 rfl rfl rfl rfl rfl).trans ?_
    refine bind_cong (fun q2 => ?_)
    refine (R_blk PT GX (k := 62) (code := cd62) rfl [] 400 _).trans ?_
    refine (R_cx PT GX hRk PT_54 rfl rfl rfl rfl rfl).trans ?_
    refine bind_cong (fun q3 => ?_)
    refine (R_blk PT GX (k := 62) (code := cd62) rfl [] 400 _).trans ?_
    exact R_retV PT GX rfl
  · exact R_retV PT GX rfl
set_option maxRecDepth 20000 in
theorem Ke_passYear_25_eq (S : pS) : Ke_passYear_25 S = Ke_passYear_25_c2 (0 : Int32) S := by
  show Res PT GX (rkT 63) 63 (cd63, [.ref 25, .null], [], S) = _
  exact (R_blk PT GX (k := 63) (code := cd63) rfl [2, 78] 400 _).trans rfl
set_option maxRecDepth 20000 in
theorem Ke_passYear_25_c2_eq (l1 : Int32) (S : pS) : Ke_passYear_25_c2 l1 S = if l1 < (rF S 15 2) then ((Ro_at_15 l1 (0 : Int32) S).bind (fun q1 => if q1.1 = (rF q1.2 1 3) then ((Ro_at_15 l1 (1 : Int32) q1.2).bind (fun q2 => (Ro_at_15 l1 (2 : Int32) q2.2).bind (fun q3 => (Ke_carryOut_25 q2.1 q3.1 q3.2).bind (fun q4 => Ke_passYear_25_c2 (l1 + (1 : Int32)) q4.2)))) else (Ke_passYear_25_c2 (l1 + (1 : Int32)) q1.2))) else ((Ke_wantTrade_25 S).bind (fun q5 => Ke_passYear_25_c78 (0 : Int32) q5.2)) := by
  show Res PT GX (rkT 63) 63 (pCut cd63 2, [.ref 25, .int l1], [], S) = _
  refine (R_reg PT GX (k := 63) (code := cd63) rfl [2, 78] 400).trans ?_
  refine br_cong ?_ ?_
  · refine (R_cx PT GX hRk PT_97 rfl rfl rfl rfl rfl).trans ?_
    refine bind_cong (fun q1 => ?_)
    refine (R_blk PT GX (k := 63) (code := cd63) rfl [2, 78] 400 _).trans ?_
    refine br_cong ?_ ?_
    · refine (R_cx PT GX hRk PT_97 rfl rfl rfl rfl rfl).trans ?_
      refine bind_cong (fun q2 => ?_)
      refine (R_blk PT GX (k := 63) (code := cd63) rfl [2, 78] 400 _).trans ?_
      refine (R_cx PT GX hRk PT_97 rfl rfl rfl rfl rfl).trans ?_
      refine bind_cong (fun q3 => ?_)
      refine (R_blk PT GX (k := 63) (code := cd63) rfl [2, 78] 400 _).trans ?_
      refine (R_cx PT GX hRk PT_64 rfl rfl rfl rfl rfl).trans ?_
      refine bind_cong (fun q4 => ?_)
      exact (R_blk PT GX (k := 63) (code := cd63) rfl [2, 78] 400 _).trans rfl
    · rfl
  · refine (R_cx PT GX hRk PT_65 rfl rfl rfl rfl rfl).trans ?_
    refine bind_cong (fun q5 => ?_)
    exact (R_blk PT GX (k := 63) (code := cd63) rfl [2, 78] 400 _).trans rfl
set_option maxRecDepth 20000 in
theorem Ke_passYear_25_c78_eq (l1 : Int32) (S : pS) : Ke_passYear_25_c78 l1 S = if l1 < (rF S 1 1) then ((Dr_isKept_1 l1 S).bind (fun q6 => if q6.1 = 0 then (Ke_passYear_25_c78 (l1 + (1 : Int32)) q6.2) else ((Ke_wearCard_25 l1 q6.2).bind (fun q7 => Ke_passYear_25_c78 (l1 + (1 : Int32)) q7.2)))) else (some (0, (wF S 1 3 ((rF S 1 3) + (1 : Int32))))) := by
  show Res PT GX (rkT 63) 63 (pCut cd63 78, [.ref 25, .int l1], [], S) = _
  refine (R_reg PT GX (k := 63) (code := cd63) rfl [2, 78] 400).trans ?_
  refine br_cong ?_ ?_
  · refine (R_cx PT GX hRk PT_39 rfl rfl rfl rfl rfl).trans ?_
    refine bind_cong (fun q6 => ?_)
    refine (R_blk PT GX (k := 63) (code := cd63) rfl [2, 78] 400 _).trans ?_
    refine br_cong ?_ ?_
    · rfl
    · refine (R_cx PT GX hRk PT_66 rfl rfl rfl rfl rfl).trans ?_
      refine bind_cong (fun q7 => ?_)
      exact (R_blk PT GX (k := 63) (code := cd63) rfl [2, 78] 400 _).trans rfl
  · refine brT (Or.inl rfl) ?_
    exact R_retV PT GX rfl
set_option maxRecDepth 20000 in
theorem Ta_hasRoom_46_eq (a1 : Int32) (S : pS) : Ta_hasRoom_46 a1 S = if ((rF S 46 4) + a1) ≤ (400 : Int32) then (some ((1 : Int32), S)) else (some ((0 : Int32), S)) := by
  show Res PT GX (rkT 100) 100 (cd100, [.ref 46, .int a1], [], S) = _
  refine (R_blk PT GX (k := 100) (code := cd100) rfl [] 400 _).trans ?_
  refine br_cong ?_ ?_
  · exact R_retI PT GX rfl rfl
  · exact R_retI PT GX rfl rfl
set_option maxRecDepth 20000 in
theorem Ta_append_46_eq (a1 : Int32) (S : pS) : Ta_append_46 a1 S = Ta_append_46_c3 a1 (24 : Int32) S := by
  show Res PT GX (rkT 101) 101 (cd101, [.ref 46, .int a1, .null], [], S) = _
  exact (R_blk PT GX (k := 101) (code := cd101) rfl [3] 400 _).trans rfl
set_option maxRecDepth 20000 in
theorem Ta_append_46_c3_eq (l1 : Int32) (l2 : Int32) (S : pS) : Ta_append_46_c3 l1 l2 S = if l2 < 0 then (some (0, S)) else ((Ta_hasRoom_46 (1 : Int32) S).bind (fun q1 => if q1.1 = 0 then (some (0, q1.2)) else (if inb (rF q1.2 46 4) 400 = true then (Ta_append_46_c3 l1 (l2 + (-8 : Int32)) (wF (wA q1.2 47 (rF q1.2 46 4) (((l1).toUInt32 >>> ((l2).toUInt32 &&& Int32.toUInt32 31)).toInt32 &&& (255 : Int32))) 46 4 ((rF q1.2 46 4) + (1 : Int32)))) else (none)))) := by
  show Res PT GX (rkT 101) 101 (pCut cd101 3, [.ref 46, .int l1, .int l2], [], S) = _
  refine (R_reg PT GX (k := 101) (code := cd101) rfl [3] 400).trans ?_
  refine br_cong ?_ ?_
  · exact R_retV PT GX rfl
  · refine (R_cx PT GX hRk PT_100 rfl rfl rfl rfl rfl).trans ?_
    refine bind_cong (fun q1 => ?_)
    refine (R_blk PT GX (k := 101) (code := cd101) rfl [3] 400 _).trans ?_
    refine br_cong ?_ ?_
    · exact R_retV PT GX rfl
    · refine br_cong ?_ ?_
      · refine brT (Or.inl rfl) ?_
        rfl
      · rfl
set_option maxRecDepth 20000 in
theorem Re_read_50_eq (d : Nat) (hd : 100 ≤ d) (a1 : Int32) (a2 : Int32) (S : pS) : Re_read_50 (d + 1) a1 a2 S = (La_clear_51 (wF (wF (wF S 50 4 (0 : Int32)) 50 5 (-1 : Int32)) 50 3 (0 : Int32))).bind (fun q1 => (Ro_clear_59 q1.2).bind (fun q2 => (C_within a1 (4 : Int32) q2.2).bind (fun q3 => if q3.1 = 0 then (some ((0 : Int32), q3.2)) else ((Ta_scan_46 q3.2).bind (fun q4 => Re_read_50_c70 (d + 1) a1 a2 (1 : Int32) (0 : Int32) (wF (wF q4.2 50 6 (0 : Int32)) 50 7 (rA q4.2 48 (0 : Int32)))))))) := by
  show Res PT GX (d + 1) 78 (cd78, [.ref 50, .int a1, .int a2, .null, .null], [], S) = _
  refine (R_blk PT GX (k := 78) (code := cd78) rfl [70, 146] 400 _).trans ?_
  refine brT (Or.inl rfl) ?_
  refine brT (Or.inl rfl) ?_
  refine brT (Or.inl rfl) ?_
  refine (R_cx PT GX hRk PT_69 rfl (dk_ok (by show 1 ≤ d; omega) rfl) rfl rfl rfl).trans ?_
  refine bind_cong (fun q1 => ?_)
  refine (R_blk PT GX (k := 78) (code := cd78) rfl [70, 146] 400 _).trans ?_
  refine (R_cx PT GX hRk PT_96 rfl (dk_ok (by show 1 ≤ d; omega) rfl) rfl rfl rfl).trans ?_
  refine bind_cong (fun q2 => ?_)
  refine (R_blk PT GX (k := 78) (code := cd78) rfl [70, 146] 400 _).trans ?_
  refine (R_cx PT GX hRk PT_156 rfl (dk_ok (by show 1 ≤ d; omega) rfl) rfl rfl rfl).trans ?_
  refine bind_cong (fun q3 => ?_)
  refine (R_blk PT GX (k := 78) (code := cd78) rfl [70, 146] 400 _).trans ?_
  refine br_cong ?_ ?_
  · exact R_retI PT GX rfl rfl
  · refine (R_cx PT GX hRk PT_102 rfl (dk_ok (by show 7 ≤ d; omega) rfl) rfl rfl rfl).trans ?_
    refine bind_cong (fun q4 => ?_)
    refine (R_blk PT GX (k := 78) (code := cd78) rfl [70, 146] 400 _).trans ?_
    refine brT (Or.inl rfl) ?_
    refine brT (by decide) ?_
    refine brT (Or.inl rfl) ?_
    rfl
set_option maxRecDepth 20000 in
theorem Re_read_50_c70_eq (d : Nat) (hd : 100 ≤ d) (l1 : Int32) (l2 : Int32) (l3 : Int32) (l4 : Int32) (S : pS) : Re_read_50_c70 (d + 1) l1 l2 l3 l4 S = if l4 ≤ (16 : Int32) then (if l3 = 0 then (if pBool 1 l3 = true then some (l3, S) else none) else (if (rF S 50 7) = 0 then (if pBool 1 l3 = true then some (l3, S) else none) else (if l1 = (0 : Int32) then ((Re_lawLine_50 d S).bind (fun q8 => Re_read_50_c146 (d + 1) l1 l2 q8.1 l4 q8.2)) else (if l1 = (1 : Int32) then ((Re_metLine_50 S).bind (fun q7 => Re_read_50_c146 (d + 1) l1 l2 q7.1 l4 q7.2)) else (if l1 = (2 : Int32) then ((Re_calledLine_50 S).bind (fun q6 => Re_read_50_c146 (d + 1) l1 l2 q6.1 l4 q6.2)) else ((Re_planLine_50 l2 S).bind (fun q5 => Re_read_50_c146 (d + 1) l1 l2 q5.1 l4 q5.2))))))) else (if pBool 1 l3 = true then some (l3, S) else none) := by
  show Res PT GX (d + 1) 78 (pCut cd78 70, [.ref 50, .int l1, .int l2, .int l3, .int l4], [], S) = _
  refine (R_reg PT GX (k := 78) (code := cd78) rfl [70, 146] 400).trans ?_
  refine br_cong ?_ ?_
  · refine br_cong ?_ ?_
    · exact R_ret PT GX rfl
    · refine br_cong ?_ ?_
      · exact R_ret PT GX rfl
      · refine br_cong ?_ ?_
        · refine (R_cd PT GX PT_87 rfl rfl rfl rfl).trans ?_
          refine bind_cong (fun q8 => ?_)
          exact (R_blk PT GX (k := 78) (code := cd78) rfl [70, 146] 400 _).trans rfl
        · refine br_cong ?_ ?_
          · refine (R_cx PT GX hRk PT_84 rfl (dk_ok (by show 3 ≤ d; omega) rfl) rfl rfl rfl).trans ?_
            refine bind_cong (fun q7 => ?_)
            exact (R_blk PT GX (k := 78) (code := cd78) rfl [70, 146] 400 _).trans rfl
          · refine br_cong ?_ ?_
            · refine (R_cx PT GX hRk PT_85 rfl (dk_ok (by show 3 ≤ d; omega) rfl) rfl rfl rfl).trans ?_
              refine bind_cong (fun q6 => ?_)
              exact (R_blk PT GX (k := 78) (code := cd78) rfl [70, 146] 400 _).trans rfl
            · refine (R_cx PT GX hRk PT_86 rfl (dk_ok (by show 3 ≤ d; omega) rfl) rfl rfl rfl).trans ?_
              refine bind_cong (fun q5 => ?_)
              exact (R_blk PT GX (k := 78) (code := cd78) rfl [70, 146] 400 _).trans rfl
  · exact R_ret PT GX rfl
set_option maxRecDepth 20000 in
theorem Re_read_50_c146_eq (d : Nat) (hd : 100 ≤ d) (l1 : Int32) (l2 : Int32) (l3 : Int32) (l4 : Int32) (S : pS) : Re_read_50_c146 (d + 1) l1 l2 l3 l4 S = Re_read_50_c70 (d + 1) l1 l2 l3 (l4 + (1 : Int32)) (wF S 50 3 ((rF S 50 3) + (1 : Int32))) := by
  show Res PT GX (d + 1) 78 (pCut cd78 146, [.ref 50, .int l1, .int l2, .int l3, .int l4], [], S) = _
  refine (R_reg PT GX (k := 78) (code := cd78) rfl [70, 146] 400).trans ?_
  refine brT (Or.inl rfl) ?_
  rfl
set_option maxRecDepth 20000 in
theorem To_take_3_50_eq (a1 : Int32) (S : pS) : To_take_3_50 a1 S = if a1 = (0 : Int32) then ((La_copyFrom_4_51 S).bind (fun q4 => some (0, q4.2))) else (if a1 = (1 : Int32) then ((To_takeMet_3_59 S).bind (fun q3 => some (0, q3.2))) else (if a1 = (2 : Int32) then ((To_takeCalled_3_59 S).bind (fun q2 => some (0, q2.2))) else ((Ro_copyFrom_15_59 S).bind (fun q1 => some (0, q1.2))))) := by
  show Res PT GX (rkT 116) 116 (cd116, [.ref 3, .int a1, .ref 50], [], S) = _
  refine (R_blk PT GX (k := 116) (code := cd116) rfl [] 400 _).trans ?_
  refine br_cong ?_ ?_
  · refine (R_cx PT GX hRk PT_68 rfl rfl rfl rfl rfl).trans ?_
    refine bind_cong (fun q4 => ?_)
    refine (R_blk PT GX (k := 116) (code := cd116) rfl [] 400 _).trans ?_
    exact R_retV PT GX rfl
  · refine br_cong ?_ ?_
    · refine (R_cx PT GX hRk PT_117 rfl rfl rfl rfl rfl).trans ?_
      refine bind_cong (fun q3 => ?_)
      refine (R_blk PT GX (k := 116) (code := cd116) rfl [] 400 _).trans ?_
      exact R_retV PT GX rfl
    · refine br_cong ?_ ?_
      · refine (R_cx PT GX hRk PT_118 rfl rfl rfl rfl rfl).trans ?_
        refine bind_cong (fun q2 => ?_)
        refine (R_blk PT GX (k := 116) (code := cd116) rfl [] 400 _).trans ?_
        exact R_retV PT GX rfl
      · refine (R_cx PT GX hRk PT_98 rfl rfl rfl rfl rfl).trans ?_
        refine bind_cong (fun q1 => ?_)
        refine (R_blk PT GX (k := 116) (code := cd116) rfl [] 400 _).trans ?_
        exact R_retV PT GX rfl
