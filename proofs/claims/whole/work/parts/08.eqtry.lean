noncomputable def R_undo (S : pS) : Option (Int32 × pS) := CallF PT GR rkT 165 [.ref 0] S
noncomputable def R_undo_c26 (l1 : Int32) (S : pS) : Option (Int32 × pS) := Res PT GR (rkT 165) 165 (pCut cd165 26, [.ref 0, .int l1], [], S)
noncomputable def R_state (a1 : Int32) (S : pS) : Option (Int32 × pS) := CallF PT GR rkT 168 [.ref 0, .int a1] S
noncomputable def R_card (a1 : Int32) (a2 : Int32) (a3 : Int32) (a4 : Int32) (S : pS) : Option (Int32 × pS) := CallF PT GR rkT 175 [.ref 0, .int a1, .int a2, .int a3, .int a4] S
noncomputable def R_set (a1 : Int32) (a2 : Int32) (a3 : Int32) (S : pS) : Option (Int32 × pS) := CallF PT GR rkT 176 [.ref 0, .int a1, .int a2, .int a3] S
noncomputable def R_set_c40 (l1 : Int32) (l2 : Int32) (l3 : Int32) (S : pS) : Option (Int32 × pS) := Res PT GR (rkT 176) 176 (pCut cd176 40, [.ref 0, .int l1, .int l2, .int l3], [], S)
noncomputable def R_set_c51 (l1 : Int32) (l2 : Int32) (l3 : Int32) (S : pS) : Option (Int32 × pS) := Res PT GR (rkT 176) 176 (pCut cd176 51, [.ref 0, .int l1, .int l2, .int l3], [], S)
noncomputable def R_set_c66 (l1 : Int32) (l2 : Int32) (l3 : Int32) (S : pS) : Option (Int32 × pS) := Res PT GR (rkT 176) 176 (pCut cd176 66, [.ref 0, .int l1, .int l2, .int l3], [], S)
noncomputable def R_set_c81 (S : pS) : Option (Int32 × pS) := Res PT GR (rkT 176) 176 (pCut cd176 81, [.ref 0, .null, .null, .null], [], S)
noncomputable def R_feed (a1 : Int32) (a2 : Int32) (a3 : Int32) (a4 : Int32) (a5 : Int32) (S : pS) : Option (Int32 × pS) := CallF PT GR rkT 178 [.ref 0, .int a1, .int a2, .int a3, .int a4, .int a5] S
noncomputable def R_end (a1 : Int32) (S : pS) : Option (Int32 × pS) := CallF PT GR rkT 179 [.ref 0, .int a1] S
noncomputable def R_text (a1 : Int32) (S : pS) : Option (Int32 × pS) := CallF PT GR rkT 212 [.ref 0, .int a1] S
noncomputable def R_text_c69 (l1 : Int32) (l2 : Int32) (S : pS) : Option (Int32 × pS) := Res PT GR (rkT 212) 212 (pCut cd212 69, [.ref 0, .int l1, .int l2], [], S)
noncomputable def R_fault (a1 : Int32) (S : pS) : Option (Int32 × pS) := CallF PT GR rkT 213 [.ref 0, .int a1] S
noncomputable def R_ring (a1 : Int32) (S : pS) : Option (Int32 × pS) := CallF PT GR rkT 230 [.ref 0, .int a1] S
noncomputable def R_toss (a1 : Int32) (S : pS) : Option (Int32 × pS) := CallF PT GR rkT 231 [.ref 0, .int a1] S
noncomputable def R_does (a1 : Int32) (a2 : Int32) (S : pS) : Option (Int32 × pS) := CallF PT GR rkT 232 [.ref 0, .int a1, .int a2] S
noncomputable def R_does_c27 (l1 : Int32) (l2 : Int32) (S : pS) : Option (Int32 × pS) := Res PT GR (rkT 232) 232 (pCut cd232 27, [.ref 0, .int l1, .int l2], [], S)
noncomputable def R_years (a1 : Int32) (S : pS) : Option (Int32 × pS) := CallF PT GR rkT 237 [.ref 0, .int a1] S
noncomputable def R_years_c35 (l1 : Int32) (l2 : Int32) (l3 : Int32) (S : pS) : Option (Int32 × pS) := Res PT GR (rkT 237) 237 (pCut cd237 35, [.ref 0, .int l1, .int l2, .int l3], [], S)
noncomputable def R_of (a1 : Int32) (a2 : Int32) (S : pS) : Option (Int32 × pS) := CallF PT GR rkT 238 [.ref 0, .int a1, .int a2] S
noncomputable def R_met (a1 : Int32) (S : pS) : Option (Int32 × pS) := CallF PT GR rkT 239 [.ref 0, .int a1] S
noncomputable def R_called (a1 : Int32) (a2 : Int32) (S : pS) : Option (Int32 × pS) := CallF PT GR rkT 240 [.ref 0, .int a1, .int a2] S
noncomputable def R_book (a1 : Int32) (a2 : Int32) (S : pS) : Option (Int32 × pS) := CallF PT GR rkT 241 [.ref 0, .int a1, .int a2] S
noncomputable def R_goes (a1 : Int32) (a2 : Int32) (S : pS) : Option (Int32 × pS) := CallF PT GR rkT 242 [.ref 0, .int a1, .int a2] S
noncomputable def R_goes_c34 (l1 : Int32) (l2 : Int32) (l3 : Int32) (S : pS) : Option (Int32 × pS) := Res PT GR (rkT 242) 242 (pCut cd242 34, [.ref 0, .int l1, .int l2, .int l3], [], S)
noncomputable def R_goes_c74 (s0 : Int32) (S : pS) : Option (Int32 × pS) := Res PT GR (rkT 242) 242 (pCut cd242 74, [.ref 0, .null, .null, .null], [.int s0], S)
noncomputable def R_ahead (a1 : Int32) (a2 : Int32) (S : pS) : Option (Int32 × pS) := CallF PT GR rkT 243 [.ref 0, .int a1, .int a2] S
noncomputable def R_dated (a1 : Int32) (a2 : Int32) (S : pS) : Option (Int32 × pS) := CallF PT GR rkT 245 [.ref 0, .int a1, .int a2] S
noncomputable def R_hands (a1 : Int32) (a2 : Int32) (S : pS) : Option (Int32 × pS) := CallF PT GR rkT 250 [.ref 0, .int a1, .int a2] S
noncomputable def R_hands_c43 (l2 : Int32) (l3 : Int32) (l4 : Int32) (S : pS) : Option (Int32 × pS) := Res PT GR (rkT 250) 250 (pCut cd250 43, [.ref 0, .null, .int l2, .int l3, .int l4, .null, .null, .null], [], S)
noncomputable def R_hands_c143 (l4 : Int32) (l6 : Int32) (l7 : Int32) (S : pS) : Option (Int32 × pS) := Res PT GR (rkT 250) 250 (pCut cd250 143, [.ref 0, .null, .null, .null, .int l4, .null, .int l6, .int l7], [], S)
noncomputable def R_led (a1 : Int32) (S : pS) : Option (Int32 × pS) := CallF PT GR rkT 252 [.ref 0, .int a1] S
noncomputable def R_root (a1 : Int32) (S : pS) : Option (Int32 × pS) := CallF PT GR rkT 253 [.ref 0, .int a1] S
noncomputable def R_root_c21 (l2 : Int32) (l3 : Int32) (S : pS) : Option (Int32 × pS) := Res PT GR (rkT 253) 253 (pCut cd253 21, [.ref 0, .null, .int l2, .int l3], [], S)
noncomputable def R_tells (a1 : Int32) (S : pS) : Option (Int32 × pS) := CallF PT GR rkT 255 [.ref 0, .int a1] S
noncomputable def R_tells_c27 (l1 : Int32) (l2 : Int32) (l3 : Int32) (l4 : Int32) (S : pS) : Option (Int32 × pS) := Res PT GR (rkT 255) 255 (pCut cd255 27, [.ref 0, .int l1, .int l2, .int l3, .int l4], [], S)
noncomputable def R_tells_c61 (l1 : Int32) (l2 : Int32) (l3 : Int32) (l4 : Int32) (S : pS) : Option (Int32 × pS) := Res PT GR (rkT 255) 255 (pCut cd255 61, [.ref 0, .int l1, .int l2, .int l3, .int l4], [], S)
noncomputable def R_hears (a1 : Int32) (a2 : Int32) (S : pS) : Option (Int32 × pS) := CallF PT GR rkT 256 [.ref 0, .int a1, .int a2] S
noncomputable def R_hears_c43 (l1 : Int32) (l3 : Int32) (l4 : Int32) (S : pS) : Option (Int32 × pS) := Res PT GR (rkT 256) 256 (pCut cd256 43, [.ref 0, .int l1, .null, .int l3, .int l4], [], S)
noncomputable def R_asks (a1 : Int32) (a2 : Int32) (S : pS) : Option (Int32 × pS) := CallF PT GR rkT 257 [.ref 0, .int a1, .int a2] S
noncomputable def R_asks_c50 (l1 : Int32) (l2 : Int32) (s0 : Int32) (s1 : Int32) (s2 : Int32) (S : pS) : Option (Int32 × pS) := Res PT GR (rkT 257) 257 (pCut cd257 50, [.ref 0, .int l1, .int l2], [.int s0, .int s1, .int s2, .ref 0], S)
noncomputable def R_keeps (a1 : Int32) (a2 : Int32) (S : pS) : Option (Int32 × pS) := CallF PT GR rkT 261 [.ref 0, .int a1, .int a2] S
noncomputable def R_keeps_c42 (l1 : Int32) (l2 : Int32) (l3 : Int32) (l4 : Int32) (l5 : Int32) (l6 : Int32) (S : pS) : Option (Int32 × pS) := Res PT GR (rkT 261) 261 (pCut cd261 42, [.ref 0, .int l1, .int l2, .int l3, .int l4, .int l5, .int l6, .null], [], S)
noncomputable def R_sorted (a1 : Int32) (S : pS) : Option (Int32 × pS) := CallF PT GR rkT 263 [.ref 0, .int a1] S
noncomputable def R_sorted_c21 (l1 : Int32) (l2 : Int32) (l3 : Int32) (S : pS) : Option (Int32 × pS) := Res PT GR (rkT 263) 263 (pCut cd263 21, [.ref 0, .int l1, .int l2, .int l3], [], S)
noncomputable def R_apart (S : pS) : Option (Int32 × pS) := CallF PT GR rkT 266 [.ref 0] S
noncomputable def R_apart_c9 (l1 : Int32) (l2 : Int32) (S : pS) : Option (Int32 × pS) := Res PT GR (rkT 266) 266 (pCut cd266 9, [.ref 0, .int l1, .int l2], [], S)
noncomputable def R_apart_c33 (l1 : Int32) (l2 : Int32) (S : pS) : Option (Int32 × pS) := Res PT GR (rkT 266) 266 (pCut cd266 33, [.ref 0, .int l1, .int l2], [], S)
noncomputable def R_seconds (S : pS) : Option (Int32 × pS) := CallF PT GR rkT 268 [.ref 0] S
noncomputable def R_seconds_c9 (l1 : Int32) (l2 : Int32) (S : pS) : Option (Int32 × pS) := Res PT GR (rkT 268) 268 (pCut cd268 9, [.ref 0, .int l1, .int l2, .null], [], S)
noncomputable def R_seconds_c19 (l1 : Int32) (l2 : Int32) (l3 : Int32) (S : pS) : Option (Int32 × pS) := Res PT GR (rkT 268) 268 (pCut cd268 19, [.ref 0, .int l1, .int l2, .int l3], [], S)
noncomputable def R_beside (a1 : Int32) (a2 : Int32) (S : pS) : Option (Int32 × pS) := CallF PT GR rkT 270 [.ref 0, .int a1, .int a2] S
noncomputable def R_beside_c30 (l1 : Int32) (l2 : Int32) (l3 : Int32) (l4 : Int32) (S : pS) : Option (Int32 × pS) := Res PT GR (rkT 270) 270 (pCut cd270 30, [.ref 0, .int l1, .int l2, .int l3, .int l4], [], S)
noncomputable def R_note (a1 : Int32) (a2 : Int32) (a3 : Int32) (S : pS) : Option (Int32 × pS) := CallF PT GR rkT 271 [.ref 0, .int a1, .int a2, .int a3] S
noncomputable def R_note_c59 (l1 : Int32) (l2 : Int32) (l3 : Int32) (s0 : Int32) (s1 : Int32) (s2 : Int32) (S : pS) : Option (Int32 × pS) := Res PT GR (rkT 271) 271 (pCut cd271 59, [.ref 0, .int l1, .int l2, .int l3], [.int s0, .int s1, .int s2, .ref 0], S)
noncomputable def R_note_c113 (s0 : Int32) (s1 : Int32) (S : pS) : Option (Int32 × pS) := Res PT GR (rkT 271) 271 (pCut cd271 113, [.ref 0, .null, .null, .null], [.int s0, .int s1, .ref 33], S)
noncomputable def R_whose (a1 : Int32) (S : pS) : Option (Int32 × pS) := CallF PT GR rkT 275 [.ref 0, .int a1] S
noncomputable def R_whose_c52 (l2 : Int32) (l3 : Int32) (l4 : Int32) (l5 : Int32) (l6 : Int32) (S : pS) : Option (Int32 × pS) := Res PT GR (rkT 275) 275 (pCut cd275 52, [.ref 0, .null, .int l2, .int l3, .int l4, .int l5, .int l6, .null, .null], [], S)
noncomputable def R_whose_c99 (l2 : Int32) (l3 : Int32) (l5 : Int32) (l6 : Int32) (l8 : Int32) (s0 : Int32) (S : pS) : Option (Int32 × pS) := Res PT GR (rkT 275) 275 (pCut cd275 99, [.ref 0, .null, .int l2, .int l3, .null, .int l5, .int l6, .null, .int l8], [.int s0], S)
noncomputable def R_uses (a1 : Int32) (S : pS) : Option (Int32 × pS) := CallF PT GR rkT 276 [.ref 0, .int a1] S
noncomputable def R_uses_c24 (l1 : Int32) (l2 : Int32) (l3 : Int32) (l4 : Int32) (S : pS) : Option (Int32 × pS) := Res PT GR (rkT 276) 276 (pCut cd276 24, [.ref 0, .int l1, .int l2, .int l3, .int l4], [], S)
noncomputable def R_game (a1 : Int32) (S : pS) : Option (Int32 × pS) := CallF PT GR rkT 278 [.ref 0, .int a1] S
noncomputable def R_game_c21 (l1 : Int32) (l2 : Int32) (l3 : Int32) (S : pS) : Option (Int32 × pS) := Res PT GR (rkT 278) 278 (pCut cd278 21, [.ref 0, .int l1, .int l2, .int l3], [], S)
noncomputable def R_game_c43 (l1 : Int32) (l2 : Int32) (l3 : Int32) (S : pS) : Option (Int32 × pS) := Res PT GR (rkT 278) 278 (pCut cd278 43, [.ref 0, .int l1, .int l2, .int l3], [], S)
noncomputable def R_image (a1 : Int32) (S : pS) : Option (Int32 × pS) := CallF PT GR rkT 283 [.ref 0, .int a1] S
noncomputable def R_image_c18 (l1 : Int32) (S : pS) : Option (Int32 × pS) := Res PT GR (rkT 283) 283 (pCut cd283 18, [.ref 0, .int l1, .null], [], S)
noncomputable def R_image_c35 (l1 : Int32) (l2 : Int32) (S : pS) : Option (Int32 × pS) := Res PT GR (rkT 283) 283 (pCut cd283 35, [.ref 0, .int l1, .int l2], [], S)
noncomputable def R_image_c73 (l1 : Int32) (l2 : Int32) (S : pS) : Option (Int32 × pS) := Res PT GR (rkT 283) 283 (pCut cd283 73, [.ref 0, .int l1, .int l2], [], S)
noncomputable def R_look (a1 : Int32) (S : pS) : Option (Int32 × pS) := CallF PT GR rkT 284 [.ref 0, .int a1] S
noncomputable def R_isPerson (a1 : Int32) (S : pS) : Option (Int32 × pS) := CallF PT GR rkT 171 [.ref 0, .int a1] S
noncomputable def R_isIn (a1 : Int32) (a2 : Int32) (a3 : Int32) (S : pS) : Option (Int32 × pS) := CallF PT GR rkT 158 [.ref 0, .int a1, .int a2, .int a3] S
noncomputable def R_isCard (a1 : Int32) (S : pS) : Option (Int32 × pS) := CallF PT GR rkT 170 [.ref 0, .int a1] S
noncomputable def R_types (a1 : Int32) (S : pS) : Option (Int32 × pS) := CallF PT GR rkT 177 [.ref 0, .int a1] S
noncomputable def R_types_c3 (l1 : Int32) (l2 : Int32) (S : pS) : Option (Int32 × pS) := Res PT GR (rkT 177) 177 (pCut cd177 3, [.ref 0, .int l1, .int l2], [], S)
noncomputable def R_readsText (a1 : Int32) (S : pS) : Option (Int32 × pS) := CallF PT GR rkT 210 [.ref 0, .int a1] S
noncomputable def R_takesLaw (a1 : Int32) (S : pS) : Option (Int32 × pS) := CallF PT GR rkT 200 [.ref 0, .int a1] S
noncomputable def R_takesLaw_c2 (l1 : Int32) (l2 : Int32) (S : pS) : Option (Int32 × pS) := Res PT GR (rkT 200) 200 (pCut cd200 2, [.ref 0, .int l1, .int l2], [], S)
noncomputable def R_takesLaw_c107 (l1 : Int32) (l2 : Int32) (S : pS) : Option (Int32 × pS) := Res PT GR (rkT 200) 200 (pCut cd200 107, [.ref 0, .int l1, .int l2], [], S)
noncomputable def R_takesOther (a1 : Int32) (a2 : Int32) (S : pS) : Option (Int32 × pS) := CallF PT GR rkT 211 [.ref 0, .int a1, .int a2] S
noncomputable def R_takesOther_c7 (l2 : Int32) (l3 : Int32) (S : pS) : Option (Int32 × pS) := Res PT GR (rkT 211) 211 (pCut cd211 7, [.ref 0, .null, .int l2, .int l3], [], S)
noncomputable def R_takesOther_c49 (l2 : Int32) (l3 : Int32) (S : pS) : Option (Int32 × pS) := Res PT GR (rkT 211) 211 (pCut cd211 49, [.ref 0, .null, .int l2, .int l3], [], S)
noncomputable def R_takesOther_c101 (l2 : Int32) (l3 : Int32) (S : pS) : Option (Int32 × pS) := Res PT GR (rkT 211) 211 (pCut cd211 101, [.ref 0, .null, .int l2, .int l3], [], S)
noncomputable def R_bestCard (a1 : Int32) (a2 : Int32) (S : pS) : Option (Int32 × pS) := CallF PT GR rkT 223 [.ref 0, .int a1, .int a2] S
noncomputable def R_bestCard_c5 (l1 : Int32) (l2 : Int32) (l3 : Int32) (l4 : Int32) (S : pS) : Option (Int32 × pS) := Res PT GR (rkT 223) 223 (pCut cd223 5, [.ref 0, .int l1, .int l2, .int l3, .int l4], [], S)
noncomputable def R_bestCard_c56 (l1 : Int32) (l2 : Int32) (l3 : Int32) (l4 : Int32) (S : pS) : Option (Int32 × pS) := Res PT GR (rkT 223) 223 (pCut cd223 56, [.ref 0, .int l1, .int l2, .int l3, .int l4], [], S)
noncomputable def R_keepsAhead (S : pS) : Option (Int32 × pS) := CallF PT GR rkT 164 [.ref 0] S
noncomputable def R_keepsAhead_c21 (l1 : Int32) (S : pS) : Option (Int32 × pS) := Res PT GR (rkT 164) 164 (pCut cd164 21, [.ref 0, .int l1], [], S)
noncomputable def R_keepsAhead_c55 (l1 : Int32) (S : pS) : Option (Int32 × pS) := Res PT GR (rkT 164) 164 (pCut cd164 55, [.ref 0, .int l1], [], S)
noncomputable def R_rings (a1 : Int32) (S : pS) : Option (Int32 × pS) := CallF PT GR rkT 225 [.ref 0, .int a1] S
noncomputable def R_rings_c71 (l2 : Int32) (l3 : Int32) (l4 : Int32) (S : pS) : Option (Int32 × pS) := Res PT GR (rkT 225) 225 (pCut cd225 71, [.ref 0, .null, .int l2, .int l3, .int l4], [], S)
noncomputable def R_rings_c82 (l2 : Int32) (l3 : Int32) (l4 : Int32) (s0 : Int32) (S : pS) : Option (Int32 × pS) := Res PT GR (rkT 225) 225 (pCut cd225 82, [.null, .null, .int l2, .int l3, .int l4], [.int s0, .ref 0], S)
noncomputable def R_throwsSome (a1 : Int32) (S : pS) : Option (Int32 × pS) := CallF PT GR rkT 227 [.ref 0, .int a1] S
noncomputable def R_throwsSome_c4 (l1 : Int32) (l2 : Int32) (l3 : Int32) (S : pS) : Option (Int32 × pS) := Res PT GR (rkT 227) 227 (pCut cd227 4, [.ref 0, .int l1, .int l2, .int l3, .null], [], S)
noncomputable def R_isKept (a1 : Int32) (S : pS) : Option (Int32 × pS) := CallF PT GR rkT 172 [.ref 0, .int a1] S
noncomputable def R_bends (a1 : Int32) (S : pS) : Option (Int32 × pS) := CallF PT GR rkT 228 [.ref 0, .int a1] S
noncomputable def R_finds (a1 : Int32) (S : pS) : Option (Int32 × pS) := CallF PT GR rkT 229 [.ref 0, .int a1] S
noncomputable def R_goesBy (S : pS) : Option (Int32 × pS) := CallF PT GR rkT 236 [.ref 0] S
noncomputable def R_goesBy_c2 (l1 : Int32) (S : pS) : Option (Int32 × pS) := Res PT GR (rkT 236) 236 (pCut cd236 2, [.ref 0, .int l1, .null], [], S)
noncomputable def R_goesBy_c47 (l1 : Int32) (l2 : Int32) (S : pS) : Option (Int32 × pS) := Res PT GR (rkT 236) 236 (pCut cd236 47, [.ref 0, .int l1, .int l2], [], S)
noncomputable def R_holdsOf (a1 : Int32) (S : pS) : Option (Int32 × pS) := CallF PT GR rkT 219 [.ref 0, .int a1] S
noncomputable def R_dustOf (a1 : Int32) (S : pS) : Option (Int32 × pS) := CallF PT GR rkT 220 [.ref 0, .int a1] S
noncomputable def R_worthOf (a1 : Int32) (S : pS) : Option (Int32 × pS) := CallF PT GR rkT 221 [.ref 0, .int a1] S
noncomputable def R_introducer (a1 : Int32) (S : pS) : Option (Int32 × pS) := CallF PT GR rkT 174 [.ref 0, .int a1] S
noncomputable def R_thinks (S : pS) : Option (Int32 × pS) := CallF PT GR rkT 166 [.ref 0] S
noncomputable def R_thinks_c2 (l1 : Int32) (S : pS) : Option (Int32 × pS) := Res PT GR (rkT 166) 166 (pCut cd166 2, [.ref 0, .int l1], [], S)
noncomputable def R_keptSet (S : pS) : Option (Int32 × pS) := CallF PT GR rkT 173 [.ref 0] S
noncomputable def R_keptSet_c4 (l1 : Int32) (l2 : Int32) (S : pS) : Option (Int32 × pS) := Res PT GR (rkT 173) 173 (pCut cd173 4, [.ref 0, .int l1, .int l2], [], S)
noncomputable def R_onesOf (a1 : Int32) (S : pS) : Option (Int32 × pS) := CallF PT GR rkT 162 [.ref 0, .int a1] S
noncomputable def R_onesOf_c4 (l2 : Int32) (l3 : Int32) (S : pS) : Option (Int32 × pS) := Res PT GR (rkT 162) 162 (pCut cd162 4, [.null, .null, .int l2, .int l3], [], S)
noncomputable def R_endsThought (S : pS) : Option (Int32 × pS) := CallF PT GR rkT 167 [.ref 0] S
noncomputable def R_endsThought_c2 (l1 : Int32) (S : pS) : Option (Int32 × pS) := Res PT GR (rkT 167) 167 (pCut cd167 2, [.ref 0, .int l1], [], S)
noncomputable def R_canBeDated (S : pS) : Option (Int32 × pS) := CallF PT GR rkT 244 [.ref 0] S
noncomputable def R_canBeDated_c2 (l1 : Int32) (S : pS) : Option (Int32 × pS) := Res PT GR (rkT 244) 244 (pCut cd244 2, [.ref 0, .int l1, .null], [], S)
noncomputable def R_canBeDated_c55 (l1 : Int32) (S : pS) : Option (Int32 × pS) := Res PT GR (rkT 244) 244 (pCut cd244 55, [.ref 0, .int l1, .null], [], S)
noncomputable def R_canBeDated_c65 (l1 : Int32) (l2 : Int32) (S : pS) : Option (Int32 × pS) := Res PT GR (rkT 244) 244 (pCut cd244 65, [.ref 0, .int l1, .int l2], [], S)
noncomputable def R_canBeDated_c161 (l1 : Int32) (S : pS) : Option (Int32 × pS) := Res PT GR (rkT 244) 244 (pCut cd244 161, [.ref 0, .int l1, .null], [], S)
noncomputable def R_ownersOf (a1 : Int32) (S : pS) : Option (Int32 × pS) := CallF PT GR rkT 249 [.ref 0, .int a1] S
noncomputable def R_ownersOf_c4 (l1 : Int32) (l2 : Int32) (l3 : Int32) (S : pS) : Option (Int32 × pS) := Res PT GR (rkT 249) 249 (pCut cd249 4, [.ref 0, .int l1, .int l2, .int l3], [], S)
noncomputable def R_besideAll (a1 : Int32) (S : pS) : Option (Int32 × pS) := CallF PT GR rkT 247 [.ref 0, .int a1] S
noncomputable def R_besideAll_c4 (l1 : Int32) (l2 : Int32) (l3 : Int32) (S : pS) : Option (Int32 × pS) := Res PT GR (rkT 247) 247 (pCut cd247 4, [.ref 0, .int l1, .int l2, .int l3], [], S)
noncomputable def R_lowest (a1 : Int32) (S : pS) : Option (Int32 × pS) := CallF PT GR rkT 248 [.ref 0, .int a1] S
noncomputable def R_lowest_c2 (l1 : Int32) (l2 : Int32) (S : pS) : Option (Int32 × pS) := Res PT GR (rkT 248) 248 (pCut cd248 2, [.ref 0, .int l1, .int l2], [], S)
noncomputable def R_ledBy (a1 : Int32) (S : pS) : Option (Int32 × pS) := CallF PT GR rkT 251 [.ref 0, .int a1] S
noncomputable def R_ledBy_c4 (l1 : Int32) (l2 : Int32) (l3 : Int32) (S : pS) : Option (Int32 × pS) := Res PT GR (rkT 251) 251 (pCut cd251 4, [.ref 0, .int l1, .int l2, .int l3, .null], [], S)
noncomputable def R_ledBy_c14 (l1 : Int32) (l2 : Int32) (l3 : Int32) (l4 : Int32) (S : pS) : Option (Int32 × pS) := Res PT GR (rkT 251) 251 (pCut cd251 14, [.ref 0, .int l1, .int l2, .int l3, .int l4], [], S)
noncomputable def R_ledBy_c55 (l1 : Int32) (l2 : Int32) (l3 : Int32) (l4 : Int32) (S : pS) : Option (Int32 × pS) := Res PT GR (rkT 251) 251 (pCut cd251 55, [.ref 0, .int l1, .int l2, .int l3, .int l4], [], S)
noncomputable def R_has (a1 : Int32) (a2 : Int32) (S : pS) : Option (Int32 × pS) := CallF PT GR rkT 163 [.ref 0, .int a1, .int a2] S
noncomputable def R_known (S : pS) : Option (Int32 × pS) := CallF PT GR rkT 254 [.ref 0] S
noncomputable def R_known_c4 (l1 : Int32) (l2 : Int32) (S : pS) : Option (Int32 × pS) := Res PT GR (rkT 254) 254 (pCut cd254 4, [.ref 0, .int l1, .int l2], [], S)
noncomputable def R_known_c39 (l1 : Int32) (l2 : Int32) (S : pS) : Option (Int32 × pS) := Res PT GR (rkT 254) 254 (pCut cd254 39, [.ref 0, .int l1, .int l2], [], S)
noncomputable def R_foundBy (a1 : Int32) (S : pS) : Option (Int32 × pS) := CallF PT GR rkT 260 [.ref 0, .int a1] S
noncomputable def R_foundBy_c4 (l1 : Int32) (l2 : Int32) (l3 : Int32) (S : pS) : Option (Int32 × pS) := Res PT GR (rkT 260) 260 (pCut cd260 4, [.ref 0, .int l1, .int l2, .int l3], [], S)
noncomputable def R_lookedAt (a1 : Int32) (S : pS) : Option (Int32 × pS) := CallF PT GR rkT 262 [.ref 0, .int a1] S
noncomputable def R_lookedAt_c4 (l1 : Int32) (l2 : Int32) (l3 : Int32) (S : pS) : Option (Int32 × pS) := Res PT GR (rkT 262) 262 (pCut cd262 4, [.ref 0, .int l1, .int l2, .int l3], [], S)
noncomputable def R_tellsApart (a1 : Int32) (S : pS) : Option (Int32 × pS) := CallF PT GR rkT 265 [.ref 0, .int a1] S
noncomputable def R_tellsApart_c2 (l1 : Int32) (l2 : Int32) (S : pS) : Option (Int32 × pS) := Res PT GR (rkT 265) 265 (pCut cd265 2, [.ref 0, .int l1, .int l2, .null], [], S)
noncomputable def R_tellsApart_c12 (l1 : Int32) (l2 : Int32) (l3 : Int32) (S : pS) : Option (Int32 × pS) := Res PT GR (rkT 265) 265 (pCut cd265 12, [.ref 0, .int l1, .int l2, .int l3], [], S)
noncomputable def R_isAhead (a1 : Int32) (a2 : Int32) (S : pS) : Option (Int32 × pS) := CallF PT GR rkT 267 [.ref 0, .int a1, .int a2] S
noncomputable def R_inCommon (a1 : Int32) (a2 : Int32) (S : pS) : Option (Int32 × pS) := CallF PT GR rkT 269 [.ref 0, .int a1, .int a2] S
noncomputable def R_inCommon_c5 (l1 : Int32) (l2 : Int32) (l3 : Int32) (l4 : Int32) (S : pS) : Option (Int32 × pS) := Res PT GR (rkT 269) 269 (pCut cd269 5, [.ref 0, .int l1, .int l2, .int l3, .int l4], [], S)
noncomputable def R_writers (S : pS) : Option (Int32 × pS) := CallF PT GR rkT 274 [.ref 0] S
noncomputable def R_writers_c4 (l1 : Int32) (l2 : Int32) (S : pS) : Option (Int32 × pS) := Res PT GR (rkT 274) 274 (pCut cd274 4, [.ref 0, .int l1, .int l2, .null, .null], [], S)
noncomputable def R_writers_c21 (l1 : Int32) (l2 : Int32) (l3 : Int32) (l4 : Int32) (S : pS) : Option (Int32 × pS) := Res PT GR (rkT 274) 274 (pCut cd274 21, [.ref 0, .int l1, .int l2, .int l3, .int l4], [], S)
noncomputable def R_greater (a1 : Int32) (a2 : Int32) (S : pS) : Option (Int32 × pS) := CallF PT GR rkT 160 [.ref 0, .int a1, .int a2] S
noncomputable def R_lesser (a1 : Int32) (a2 : Int32) (S : pS) : Option (Int32 × pS) := CallF PT GR rkT 161 [.ref 0, .int a1, .int a2] S
noncomputable def R_heapOf (a1 : Int32) (S : pS) : Option (Int32 × pS) := CallF PT GR rkT 277 [.ref 0, .int a1] S
noncomputable def R_heapOf_c4 (l1 : Int32) (l2 : Int32) (l3 : Int32) (S : pS) : Option (Int32 × pS) := Res PT GR (rkT 277) 277 (pCut cd277 4, [.ref 0, .int l1, .int l2, .int l3], [], S)
noncomputable def R_keepsOne (a1 : Int32) (S : pS) : Option (Int32 × pS) := CallF PT GR rkT 279 [.ref 0, .int a1] S
noncomputable def R_keepsTold (S : pS) : Option (Int32 × pS) := CallF PT GR rkT 282 [.ref 0] S
noncomputable def R_keepsTold_c50 (l1 : Int32) (S : pS) : Option (Int32 × pS) := Res PT GR (rkT 282) 282 (pCut cd282 50, [.ref 0, .int l1], [], S)
noncomputable def R_keepsTold_c112 (l1 : Int32) (S : pS) : Option (Int32 × pS) := Res PT GR (rkT 282) 282 (pCut cd282 112, [.ref 0, .int l1], [], S)
noncomputable def R_keepsTold_c158 (l1 : Int32) (S : pS) : Option (Int32 × pS) := Res PT GR (rkT 282) 282 (pCut cd282 158, [.ref 0, .int l1], [], S)
noncomputable def R_keepsTold_c204 (l1 : Int32) (S : pS) : Option (Int32 × pS) := Res PT GR (rkT 282) 282 (pCut cd282 204, [.ref 0, .int l1], [], S)
noncomputable def R_keepsTexts (S : pS) : Option (Int32 × pS) := CallF PT GR rkT 281 [.ref 0] S
noncomputable def R_keepsTexts_c38 (l1 : Int32) (S : pS) : Option (Int32 × pS) := Res PT GR (rkT 281) 281 (pCut cd281 38, [.ref 0, .int l1], [], S)
noncomputable def R_keepsTexts_c68 (l1 : Int32) (S : pS) : Option (Int32 × pS) := Res PT GR (rkT 281) 281 (pCut cd281 68, [.ref 0, .int l1], [], S)
noncomputable def R_keepsTexts_c114 (l1 : Int32) (S : pS) : Option (Int32 × pS) := Res PT GR (rkT 281) 281 (pCut cd281 114, [.ref 0, .int l1], [], S)
noncomputable def R_keepsLaw (S : pS) : Option (Int32 × pS) := CallF PT GR rkT 280 [.ref 0] S
noncomputable def R_keepsLaw_c18 (l1 : Int32) (S : pS) : Option (Int32 × pS) := Res PT GR (rkT 280) 280 (pCut cd280 18, [.ref 0, .int l1], [], S)
noncomputable def R_keepsLaw_c96 (l1 : Int32) (S : pS) : Option (Int32 × pS) := Res PT GR (rkT 280) 280 (pCut cd280 96, [.ref 0, .int l1], [], S)
noncomputable def R_reads (S : pS) : Option (Int32 × pS) := CallF PT GR rkT 185 [.ref 0] S
noncomputable def R_reads_c0 (S : pS) : Option (Int32 × pS) := Res PT GR (rkT 185) 185 (pCut cd185 0, [.ref 0, .null], [], S)
noncomputable def R_reads_c26 (S : pS) : Option (Int32 × pS) := Res PT GR (rkT 185) 185 (pCut cd185 26, [.ref 0, .null], [], S)
noncomputable def R_reads_c171 (S : pS) : Option (Int32 × pS) := Res PT GR (rkT 185) 185 (pCut cd185 171, [.ref 0, .null], [], S)
noncomputable def R_reads_c95 (S : pS) : Option (Int32 × pS) := Res PT GR (rkT 185) 185 (pCut cd185 95, [.ref 0, .null], [], S)
noncomputable def R_reads_c223 (s0 : Int32) (S : pS) : Option (Int32 × pS) := Res PT GR (rkT 185) 185 (pCut cd185 223, [.ref 0, .null], [.int s0, .ref 0], S)
noncomputable def R_readMet (S : pS) : Option (Int32 × pS) := CallF PT GR rkT 205 [.ref 0] S
noncomputable def R_readMet_c2 (l1 : Int32) (S : pS) : Option (Int32 × pS) := Res PT GR (rkT 205) 205 (pCut cd205 2, [.ref 0, .int l1], [], S)
noncomputable def R_readMet_c26 (l1 : Int32) (S : pS) : Option (Int32 × pS) := Res PT GR (rkT 205) 205 (pCut cd205 26, [.ref 0, .int l1], [], S)
noncomputable def R_readCalled (S : pS) : Option (Int32 × pS) := CallF PT GR rkT 207 [.ref 0] S
noncomputable def R_readCalled_c2 (l1 : Int32) (S : pS) : Option (Int32 × pS) := Res PT GR (rkT 207) 207 (pCut cd207 2, [.ref 0, .int l1], [], S)
noncomputable def R_readCalled_c36 (l1 : Int32) (S : pS) : Option (Int32 × pS) := Res PT GR (rkT 207) 207 (pCut cd207 36, [.ref 0, .int l1], [], S)
noncomputable def R_readPlan (S : pS) : Option (Int32 × pS) := CallF PT GR rkT 209 [.ref 0] S
noncomputable def R_readPlan_c2 (l1 : Int32) (S : pS) : Option (Int32 × pS) := Res PT GR (rkT 209) 209 (pCut cd209 2, [.ref 0, .int l1], [], S)
noncomputable def R_readLaw (S : pS) : Option (Int32 × pS) := CallF PT GR rkT 199 [.ref 0] S
noncomputable def R_readLaw_c2 (l1 : Int32) (S : pS) : Option (Int32 × pS) := Res PT GR (rkT 199) 199 (pCut cd199 2, [.ref 0, .int l1, .null], [], S)
noncomputable def R_readLaw_c92 (l1 : Int32) (l2 : Int32) (S : pS) : Option (Int32 × pS) := Res PT GR (rkT 199) 199 (pCut cd199 92, [.ref 0, .int l1, .int l2], [], S)
noncomputable def R_doesHold (a1 : Int32) (a2 : Int32) (S : pS) : Option (Int32 × pS) := CallF PT GR rkT 224 [.ref 0, .int a1, .int a2] S
noncomputable def R_notes (a1 : Int32) (a2 : Int32) (a3 : Int32) (S : pS) : Option (Int32 × pS) := CallF PT GR rkT 222 [.ref 0, .int a1, .int a2, .int a3] S
noncomputable def R_leastWorth (S : pS) : Option (Int32 × pS) := CallF PT GR rkT 226 [.ref 0] S
noncomputable def R_leastWorth_c4 (l1 : Int32) (l2 : Int32) (S : pS) : Option (Int32 × pS) := Res PT GR (rkT 226) 226 (pCut cd226 4, [.ref 0, .int l1, .int l2], [], S)
noncomputable def R_doesDeed (a1 : Int32) (S : pS) : Option (Int32 × pS) := CallF PT GR rkT 233 [.ref 0, .int a1] S
noncomputable def R_doesDeed_c26 (l1 : Int32) (l2 : Int32) (S : pS) : Option (Int32 × pS) := Res PT GR (rkT 233) 233 (pCut cd233 26, [.ref 0, .int l1, .int l2], [], S)
noncomputable def R_doesDeed_c54 (l1 : Int32) (l2 : Int32) (S : pS) : Option (Int32 × pS) := Res PT GR (rkT 233) 233 (pCut cd233 54, [.ref 0, .int l1, .int l2], [], S)
noncomputable def R_doesDeed_c71 (l1 : Int32) (l2 : Int32) (S : pS) : Option (Int32 × pS) := Res PT GR (rkT 233) 233 (pCut cd233 71, [.ref 0, .int l1, .int l2], [], S)
noncomputable def R_isServed (S : pS) : Option (Int32 × pS) := CallF PT GR rkT 234 [.ref 0] S
noncomputable def R_isServed_c25 (s0 : Int32) (S : pS) : Option (Int32 × pS) := Res PT GR (rkT 234) 234 (pCut cd234 25, [.ref 0, .null, .null, .null, .null, .null], [.int s0], S)
noncomputable def R_isServed_c86 (l2 : Int32) (l3 : Int32) (l4 : Int32) (s0 : Int32) (S : pS) : Option (Int32 × pS) := Res PT GR (rkT 234) 234 (pCut cd234 86, [.ref 0, .null, .int l2, .int l3, .int l4, .null], [.int s0], S)
noncomputable def R_isServed_c116 (l2 : Int32) (l3 : Int32) (l4 : Int32) (s0 : Int32) (S : pS) : Option (Int32 × pS) := Res PT GR (rkT 234) 234 (pCut cd234 116, [.null, .null, .int l2, .int l3, .int l4, .null], [.int s0, .ref 0], S)
noncomputable def R_wears (a1 : Int32) (S : pS) : Option (Int32 × pS) := CallF PT GR rkT 235 [.ref 0, .int a1] S
noncomputable def R_ageOf (a1 : Int32) (S : pS) : Option (Int32 × pS) := CallF PT GR rkT 218 [.ref 0, .int a1] S
noncomputable def R_lawTells (a1 : Int32) (a2 : Int32) (a3 : Int32) (a4 : Int32) (S : pS) : Option (Int32 × pS) := CallF PT GR rkT 217 [.ref 0, .int a1, .int a2, .int a3, .int a4] S
noncomputable def R_besideOf (a1 : Int32) (S : pS) : Option (Int32 × pS) := CallF PT GR rkT 246 [.ref 0, .int a1] S
noncomputable def R_besideOf_c23 (l1 : Int32) (l2 : Int32) (l3 : Int32) (S : pS) : Option (Int32 × pS) := Res PT GR (rkT 246) 246 (pCut cd246 23, [.ref 0, .int l1, .int l2, .int l3], [], S)
noncomputable def R_answersIn (a1 : Int32) (a2 : Int32) (S : pS) : Option (Int32 × pS) := CallF PT GR rkT 259 [.ref 0, .int a1, .int a2] S
noncomputable def R_answersIn_c5 (l1 : Int32) (l2 : Int32) (l3 : Int32) (l4 : Int32) (S : pS) : Option (Int32 × pS) := Res PT GR (rkT 259) 259 (pCut cd259 5, [.ref 0, .int l1, .int l2, .int l3, .int l4], [], S)
noncomputable def R_areAlike (a1 : Int32) (a2 : Int32) (a3 : Int32) (S : pS) : Option (Int32 × pS) := CallF PT GR rkT 264 [.ref 0, .int a1, .int a2, .int a3] S
noncomputable def R_areAlike_c3 (l1 : Int32) (l2 : Int32) (l3 : Int32) (l4 : Int32) (S : pS) : Option (Int32 × pS) := Res PT GR (rkT 264) 264 (pCut cd264 3, [.ref 0, .int l1, .int l2, .int l3, .int l4], [], S)
noncomputable def R_factOf (a1 : Int32) (a2 : Int32) (S : pS) : Option (Int32 × pS) := CallF PT GR rkT 258 [.ref 0, .int a1, .int a2] S
noncomputable def R_hasSuch (a1 : Int32) (a2 : Int32) (a3 : Int32) (S : pS) : Option (Int32 × pS) := CallF PT GR rkT 272 [.ref 0, .int a1, .int a2, .int a3] S
noncomputable def R_hasSuch_c3 (l1 : Int32) (l2 : Int32) (l3 : Int32) (l4 : Int32) (S : pS) : Option (Int32 × pS) := Res PT GR (rkT 272) 272 (pCut cd272 3, [.ref 0, .int l1, .int l2, .int l3, .int l4], [], S)
noncomputable def R_isNoted (a1 : Int32) (a2 : Int32) (S : pS) : Option (Int32 × pS) := CallF PT GR rkT 273 [.ref 0, .int a1, .int a2] S
noncomputable def R_isNoted_c59 (l2 : Int32) (s0 : Int32) (S : pS) : Option (Int32 × pS) := Res PT GR (rkT 273) 273 (pCut cd273 59, [.ref 0, .null, .int l2, .null, .null], [.int s0], S)
noncomputable def R_isNoted_c50 (l2 : Int32) (s0 : Int32) (s1 : Int32) (S : pS) : Option (Int32 × pS) := Res PT GR (rkT 273) 273 (pCut cd273 50, [.ref 0, .null, .int l2, .null, .null], [.int s0, .int s1, .ref 0], S)
noncomputable def R_raw (a1 : Int32) (S : pS) : Option (Int32 × pS) := CallF PT GR rkT 180 [.ref 0, .int a1] S
noncomputable def R_isLetter (a1 : Int32) (S : pS) : Option (Int32 × pS) := CallF PT GR rkT 181 [.ref 0, .int a1] S
noncomputable def R_isDigit (a1 : Int32) (S : pS) : Option (Int32 × pS) := CallF PT GR rkT 182 [.ref 0, .int a1] S
noncomputable def R_isMarkSign (a1 : Int32) (S : pS) : Option (Int32 × pS) := CallF PT GR rkT 183 [.ref 0, .int a1] S
noncomputable def R_wordAt (a1 : Int32) (a2 : Int32) (S : pS) : Option (Int32 × pS) := CallF PT GR rkT 184 [.ref 0, .int a1, .int a2] S
noncomputable def R_wordAt_c5 (l1 : Int32) (l2 : Int32) (l3 : Int32) (l4 : Int32) (S : pS) : Option (Int32 × pS) := Res PT GR (rkT 184) 184 (pCut cd184 5, [.ref 0, .int l1, .int l2, .int l3, .int l4, .null], [], S)
noncomputable def R_wordAt_c19 (l1 : Int32) (l2 : Int32) (l3 : Int32) (l4 : Int32) (l5 : Int32) (S : pS) : Option (Int32 × pS) := Res PT GR (rkT 184) 184 (pCut cd184 19, [.ref 0, .int l1, .int l2, .int l3, .int l4, .int l5], [], S)
noncomputable def R_wordAt_c60 (l1 : Int32) (l2 : Int32) (l3 : Int32) (l4 : Int32) (l5 : Int32) (S : pS) : Option (Int32 × pS) := Res PT GR (rkT 184) 184 (pCut cd184 60, [.ref 0, .int l1, .int l2, .int l3, .int l4, .int l5], [], S)
noncomputable def R_wordAt_c93 (l1 : Int32) (l2 : Int32) (l3 : Int32) (l4 : Int32) (S : pS) : Option (Int32 × pS) := Res PT GR (rkT 184) 184 (pCut cd184 93, [.ref 0, .int l1, .int l2, .int l3, .int l4, .null], [], S)
noncomputable def R_isWord (a1 : Int32) (S : pS) : Option (Int32 × pS) := CallF PT GR rkT 187 [.ref 0, .int a1] S
noncomputable def R_errs (a1 : Int32) (S : pS) : Option (Int32 × pS) := CallF PT GR rkT 186 [.ref 0, .int a1] S
noncomputable def R_readMetLine (S : pS) : Option (Int32 × pS) := CallF PT GR rkT 204 [.ref 0] S
noncomputable def R_readMetLine_c58 (l1 : Int32) (S : pS) : Option (Int32 × pS) := Res PT GR (rkT 204) 204 (pCut cd204 58, [.ref 0, .int l1, .null], [], S)
noncomputable def R_readCalledLine (S : pS) : Option (Int32 × pS) := CallF PT GR rkT 206 [.ref 0] S
noncomputable def R_readDeed (a1 : Int32) (S : pS) : Option (Int32 × pS) := CallF PT GR rkT 208 [.ref 0, .int a1] S
noncomputable def R_readDeed_c43 (l1 : Int32) (s0 : Int32) (S : pS) : Option (Int32 × pS) := Res PT GR (rkT 208) 208 (pCut cd208 43, [.ref 0, .int l1, .null], [.int s0], S)
noncomputable def R_readDeed_c123 (l1 : Int32) (s0 : Int32) (s1 : Int32) (S : pS) : Option (Int32 × pS) := Res PT GR (rkT 208) 208 (pCut cd208 123, [.ref 0, .int l1, .null], [.int s0, .int s1, .ref 21], S)
noncomputable def R_isLineWord (S : pS) : Option (Int32 × pS) := CallF PT GR rkT 198 [.ref 0] S
noncomputable def R_readSum (S : pS) : Option (Int32 × pS) := CallF PT GR rkT 193 [.ref 0] S
noncomputable def R_readSum_c10 (S : pS) : Option (Int32 × pS) := Res PT GR (rkT 193) 193 (pCut cd193 10, [.ref 0, .null], [], S)
noncomputable def R_readSum_c28 (S : pS) : Option (Int32 × pS) := Res PT GR (rkT 193) 193 (pCut cd193 28, [.ref 0, .null], [], S)
noncomputable def R_readSum_c42 (s0 : Int32) (S : pS) : Option (Int32 × pS) := Res PT GR (rkT 193) 193 (pCut cd193 42, [.ref 0, .null], [.int s0], S)
noncomputable def R_readAny (S : pS) : Option (Int32 × pS) := CallF PT GR rkT 197 [.ref 0] S
noncomputable def R_readAny_c9 (l1 : Int32) (l2 : Int32) (S : pS) : Option (Int32 × pS) := Res PT GR (rkT 197) 197 (pCut cd197 9, [.ref 0, .int l1, .int l2, .null], [], S)
noncomputable def R_readAny_c33 (l1 : Int32) (l2 : Int32) (l3 : Int32) (S : pS) : Option (Int32 × pS) := Res PT GR (rkT 197) 197 (pCut cd197 33, [.ref 0, .int l1, .int l2, .int l3], [], S)
noncomputable def R_readAny_c66 (l1 : Int32) (l2 : Int32) (l3 : Int32) (S : pS) : Option (Int32 × pS) := Res PT GR (rkT 197) 197 (pCut cd197 66, [.ref 0, .int l1, .int l2, .int l3], [], S)
noncomputable def R_isSign (a1 : Int32) (S : pS) : Option (Int32 × pS) := CallF PT GR rkT 188 [.ref 0, .int a1] S
noncomputable def R_draw (a1 : Int32) (S : pS) : Option (Int32 × pS) := CallF PT GR rkT 169 [.ref 0, .int a1] S
noncomputable def R_lineOf (a1 : Int32) (S : pS) : Option (Int32 × pS) := CallF PT GR rkT 216 [.ref 0, .int a1] S
noncomputable def R_lineOf_c2 (l1 : Int32) (l2 : Int32) (S : pS) : Option (Int32 × pS) := Res PT GR (rkT 216) 216 (pCut cd216 2, [.ref 0, .int l1, .int l2], [], S)
noncomputable def R_held (a1 : Int32) (a2 : Int32) (a3 : Int32) (S : pS) : Option (Int32 × pS) := CallF PT GR rkT 159 [.ref 0, .int a1, .int a2, .int a3] S
noncomputable def R_runs (a1 : Int32) (a2 : Int32) (a3 : Int32) (S : pS) : Option (Int32 × pS) := CallF PT GR rkT 215 [.ref 0, .int a1, .int a2, .int a3] S
noncomputable def R_runs_c12 (l1 : Int32) (l3 : Int32) (l4 : Int32) (l5 : Int32) (S : pS) : Option (Int32 × pS) := Res PT GR (rkT 215) 215 (pCut cd215 12, [.ref 0, .int l1, .null, .int l3, .int l4, .int l5], [], S)
noncomputable def R_runs_c45 (l1 : Int32) (l3 : Int32) (l4 : Int32) (l5 : Int32) (S : pS) : Option (Int32 × pS) := Res PT GR (rkT 215) 215 (pCut cd215 45, [.ref 0, .int l1, .null, .int l3, .int l4, .int l5], [], S)
noncomputable def R_runs_c83 (l1 : Int32) (l3 : Int32) (l4 : Int32) (l5 : Int32) (s0 : Int32) (s1 : Int32) (S : pS) : Option (Int32 × pS) := Res PT GR (rkT 215) 215 (pCut cd215 83, [.ref 0, .int l1, .null, .int l3, .int l4, .int l5], [.int s0, .int s1, .ref 23], S)
noncomputable def R_readTold (a1 : Int32) (a2 : Int32) (a3 : Int32) (S : pS) : Option (Int32 × pS) := CallF PT GR rkT 203 [.ref 0, .int a1, .int a2, .int a3] S
noncomputable def R_readNumber (a1 : Int32) (a2 : Int32) (S : pS) : Option (Int32 × pS) := CallF PT GR rkT 201 [.ref 0, .int a1, .int a2] S
noncomputable def R_readMark (a1 : Int32) (S : pS) : Option (Int32 × pS) := CallF PT GR rkT 202 [.ref 0, .int a1] S
noncomputable def R_readProduct (S : pS) : Option (Int32 × pS) := CallF PT GR rkT 192 [.ref 0] S
noncomputable def R_readProduct_c10 (S : pS) : Option (Int32 × pS) := Res PT GR (rkT 192) 192 (pCut cd192 10, [.ref 0, .null], [], S)
noncomputable def R_readProduct_c28 (S : pS) : Option (Int32 × pS) := Res PT GR (rkT 192) 192 (pCut cd192 28, [.ref 0, .null], [], S)
noncomputable def R_readProduct_c57 (l1 : Int32) (S : pS) : Option (Int32 × pS) := Res PT GR (rkT 192) 192 (pCut cd192 57, [.ref 0, .int l1], [], S)
noncomputable def R_readProduct_c74 (l1 : Int32) (S : pS) : Option (Int32 × pS) := Res PT GR (rkT 192) 192 (pCut cd192 74, [.ref 0, .int l1], [], S)
noncomputable def R_emits (a1 : Int32) (a2 : Int32) (S : pS) : Option (Int32 × pS) := CallF PT GR rkT 189 [.ref 0, .int a1, .int a2] S
noncomputable def R_settles (a1 : Int32) (S : pS) : Option (Int32 × pS) := CallF PT GR rkT 196 [.ref 0, .int a1] S
noncomputable def R_settles_c0 (l1 : Int32) (S : pS) : Option (Int32 × pS) := Res PT GR (rkT 196) 196 (pCut cd196 0, [.ref 0, .int l1], [], S)
noncomputable def R_waits (a1 : Int32) (S : pS) : Option (Int32 × pS) := CallF PT GR rkT 195 [.ref 0, .int a1] S
noncomputable def R_readCompared (S : pS) : Option (Int32 × pS) := CallF PT GR rkT 194 [.ref 0] S
noncomputable def R_readCompared_c43 (S : pS) : Option (Int32 × pS) := Res PT GR (rkT 194) 194 (pCut cd194 43, [.ref 0, .null], [], S)
noncomputable def R_readCompared_c73 (s0 : Int32) (S : pS) : Option (Int32 × pS) := Res PT GR (rkT 194) 194 (pCut cd194 73, [.ref 0, .null], [.int s0], S)
noncomputable def R_twoOf (a1 : Int32) (a2 : Int32) (a3 : Int32) (S : pS) : Option (Int32 × pS) := CallF PT GR rkT 214 [.ref 0, .int a1, .int a2, .int a3] S
noncomputable def R_readUnit (S : pS) : Option (Int32 × pS) := CallF PT GR rkT 191 [.ref 0] S
noncomputable def R_readUnit_c24 (s0 : Int32) (S : pS) : Option (Int32 × pS) := Res PT GR (rkT 191) 191 (pCut cd191 24, [.ref 0, .null], [.int s0], S)
noncomputable def R_readUnit_c43 (l1 : Int32) (S : pS) : Option (Int32 × pS) := Res PT GR (rkT 191) 191 (pCut cd191 43, [.ref 0, .int l1], [], S)
noncomputable def R_readUnit_c53 (l1 : Int32) (s0 : Int32) (S : pS) : Option (Int32 × pS) := Res PT GR (rkT 191) 191 (pCut cd191 53, [.ref 0, .int l1], [.int s0, .ref 0], S)
noncomputable def R_readUnit_c71 (s0 : Int32) (s1 : Int32) (S : pS) : Option (Int32 × pS) := Res PT GR (rkT 191) 191 (pCut cd191 71, [.ref 0, .null], [.int s0, .int s1, .ref 0], S)
noncomputable def R_canAsk (a1 : Int32) (S : pS) : Option (Int32 × pS) := CallF PT GR rkT 190 [.ref 0, .int a1] S
noncomputable def C_state (a1 : Int32) (S : pS) : Option (Int32 × pS) := CallF PT GX rkT 117 [.ref 0, .int a1] S
noncomputable def C_card (a1 : Int32) (a2 : Int32) (a3 : Int32) (a4 : Int32) (S : pS) : Option (Int32 × pS) := CallF PT GX rkT 118 [.ref 0, .int a1, .int a2, .int a3, .int a4] S
noncomputable def C_set (a1 : Int32) (a2 : Int32) (a3 : Int32) (S : pS) : Option (Int32 × pS) := CallF PT GX rkT 119 [.ref 0, .int a1, .int a2, .int a3] S
noncomputable def C_set_c13 (l1 : Int32) (l2 : Int32) (l3 : Int32) (s0 : Int32) (s1 : Int32) (S : pS) : Option (Int32 × pS) := Res PT GX (rkT 119) 119 (pCut cd119 13, [.ref 0, .int l1, .int l2, .int l3], [.int s0, .int s1], S)
noncomputable def C_set_c81 (S : pS) : Option (Int32 × pS) := Res PT GX (rkT 119) 119 (pCut cd119 81, [.ref 0, .null, .null, .null], [], S)
noncomputable def C_set_c46 (l1 : Int32) (l2 : Int32) (l3 : Int32) (S : pS) : Option (Int32 × pS) := Res PT GX (rkT 119) 119 (pCut cd119 46, [.ref 0, .int l1, .int l2, .int l3], [], S)
noncomputable def C_ring (a1 : Int32) (S : pS) : Option (Int32 × pS) := CallF PT GX rkT 120 [.ref 0, .int a1] S
noncomputable def C_toss (a1 : Int32) (S : pS) : Option (Int32 × pS) := CallF PT GX rkT 121 [.ref 0, .int a1] S
noncomputable def C_does (a1 : Int32) (a2 : Int32) (S : pS) : Option (Int32 × pS) := CallF PT GX rkT 122 [.ref 0, .int a1, .int a2] S
noncomputable def C_does_c28 (l1 : Int32) (l2 : Int32) (S : pS) : Option (Int32 × pS) := Res PT GX (rkT 122) 122 (pCut cd122 28, [.ref 0, .int l1, .int l2], [], S)
noncomputable def C_years (a1 : Int32) (S : pS) : Option (Int32 × pS) := CallF PT GX rkT 123 [.ref 0, .int a1] S
noncomputable def C_years_c37 (l1 : Int32) (l2 : Int32) (l3 : Int32) (S : pS) : Option (Int32 × pS) := Res PT GX (rkT 123) 123 (pCut cd123 37, [.ref 0, .int l1, .int l2, .int l3], [], S)
noncomputable def C_feed (a1 : Int32) (a2 : Int32) (a3 : Int32) (a4 : Int32) (a5 : Int32) (S : pS) : Option (Int32 × pS) := CallF PT GX rkT 124 [.ref 0, .int a1, .int a2, .int a3, .int a4, .int a5] S
noncomputable def C_end (a1 : Int32) (S : pS) : Option (Int32 × pS) := CallF PT GX rkT 125 [.ref 0, .int a1] S
noncomputable def C_text (d : Nat) (a1 : Int32) (S : pS) : Option (Int32 × pS) := Res PT GX d 126 (cd126, [.ref 0, .int a1, .null], [], S)
noncomputable def C_fault (a1 : Int32) (S : pS) : Option (Int32 × pS) := CallF PT GX rkT 127 [.ref 0, .int a1] S
noncomputable def C_of (a1 : Int32) (a2 : Int32) (S : pS) : Option (Int32 × pS) := CallF PT GX rkT 128 [.ref 0, .int a1, .int a2] S
noncomputable def C_met (a1 : Int32) (S : pS) : Option (Int32 × pS) := CallF PT GX rkT 129 [.ref 0, .int a1] S
noncomputable def C_called (a1 : Int32) (a2 : Int32) (S : pS) : Option (Int32 × pS) := CallF PT GX rkT 130 [.ref 0, .int a1, .int a2] S
noncomputable def C_book (a1 : Int32) (a2 : Int32) (S : pS) : Option (Int32 × pS) := CallF PT GX rkT 131 [.ref 0, .int a1, .int a2] S
noncomputable def C_goes (a1 : Int32) (a2 : Int32) (S : pS) : Option (Int32 × pS) := CallF PT GX rkT 132 [.ref 0, .int a1, .int a2] S
noncomputable def C_goes_c34 (l1 : Int32) (l2 : Int32) (l3 : Int32) (S : pS) : Option (Int32 × pS) := Res PT GX (rkT 132) 132 (pCut cd132 34, [.ref 0, .int l1, .int l2, .int l3], [], S)
noncomputable def C_ahead (a1 : Int32) (a2 : Int32) (S : pS) : Option (Int32 × pS) := CallF PT GX rkT 133 [.ref 0, .int a1, .int a2] S
noncomputable def C_dated (a1 : Int32) (a2 : Int32) (S : pS) : Option (Int32 × pS) := CallF PT GX rkT 134 [.ref 0, .int a1, .int a2] S
noncomputable def C_hands (a1 : Int32) (a2 : Int32) (S : pS) : Option (Int32 × pS) := CallF PT GX rkT 135 [.ref 0, .int a1, .int a2] S
noncomputable def C_led (a1 : Int32) (S : pS) : Option (Int32 × pS) := CallF PT GX rkT 136 [.ref 0, .int a1] S
noncomputable def C_root (a1 : Int32) (S : pS) : Option (Int32 × pS) := CallF PT GX rkT 137 [.ref 0, .int a1] S
noncomputable def C_tells (a1 : Int32) (S : pS) : Option (Int32 × pS) := CallF PT GX rkT 138 [.ref 0, .int a1] S
noncomputable def C_hears (a1 : Int32) (a2 : Int32) (S : pS) : Option (Int32 × pS) := CallF PT GX rkT 139 [.ref 0, .int a1, .int a2] S
noncomputable def C_asks (a1 : Int32) (a2 : Int32) (S : pS) : Option (Int32 × pS) := CallF PT GX rkT 140 [.ref 0, .int a1, .int a2] S
noncomputable def C_keeps (a1 : Int32) (a2 : Int32) (S : pS) : Option (Int32 × pS) := CallF PT GX rkT 141 [.ref 0, .int a1, .int a2] S
noncomputable def C_sorted (a1 : Int32) (S : pS) : Option (Int32 × pS) := CallF PT GX rkT 142 [.ref 0, .int a1] S
noncomputable def C_apart (S : pS) : Option (Int32 × pS) := CallF PT GX rkT 143 [.ref 0] S
noncomputable def C_seconds (S : pS) : Option (Int32 × pS) := CallF PT GX rkT 144 [.ref 0] S
noncomputable def C_beside (a1 : Int32) (a2 : Int32) (S : pS) : Option (Int32 × pS) := CallF PT GX rkT 145 [.ref 0, .int a1, .int a2] S
noncomputable def C_note (a1 : Int32) (a2 : Int32) (a3 : Int32) (S : pS) : Option (Int32 × pS) := CallF PT GX rkT 146 [.ref 0, .int a1, .int a2, .int a3] S
noncomputable def C_whose (a1 : Int32) (S : pS) : Option (Int32 × pS) := CallF PT GX rkT 147 [.ref 0, .int a1] S
noncomputable def C_uses (a1 : Int32) (S : pS) : Option (Int32 × pS) := CallF PT GX rkT 148 [.ref 0, .int a1] S
noncomputable def C_game (a1 : Int32) (S : pS) : Option (Int32 × pS) := CallF PT GX rkT 149 [.ref 0, .int a1] S
noncomputable def C_undo (S : pS) : Option (Int32 × pS) := CallF PT GX rkT 150 [.ref 0] S
noncomputable def C_image (a1 : Int32) (S : pS) : Option (Int32 × pS) := CallF PT GX rkT 151 [.ref 0, .int a1] S
noncomputable def C_look (a1 : Int32) (S : pS) : Option (Int32 × pS) := CallF PT GX rkT 152 [.ref 0, .int a1] S
noncomputable def Hi_forget_31 (S : pS) : Option (Int32 × pS) := CallF PT GX rkT 49 [.ref 31] S
noncomputable def C_within (a0 : Int32) (a1 : Int32) (S : pS) : Option (Int32 × pS) := CallF PT GX rkT 153 [.int a0, .int a1] S
noncomputable def Dr_put_1 (a1 : Int32) (a2 : Int32) (a3 : Int32) (a4 : Int32) (S : pS) : Option (Int32 × pS) := CallF PT GX rkT 42 [.ref 1, .int a1, .int a2, .int a3, .int a4] S
noncomputable def Dr_has_1 (a1 : Int32) (S : pS) : Option (Int32 × pS) := CallF PT GX rkT 38 [.ref 1, .int a1] S
noncomputable def Dr_write_1 (a1 : Int32) (a2 : Int32) (a3 : Int32) (S : pS) : Option (Int32 × pS) := CallF PT GX rkT 41 [.ref 1, .int a1, .int a2, .int a3] S
noncomputable def Dr_keptWith_1 (a1 : Int32) (a2 : Int32) (S : pS) : Option (Int32 × pS) := CallF PT GX rkT 45 [.ref 1, .int a1, .int a2] S
noncomputable def Dr_keptWith_1_c5 (l1 : Int32) (l2 : Int32) (l3 : Int32) (l4 : Int32) (S : pS) : Option (Int32 × pS) := Res PT GX (rkT 45) 45 (pCut cd45 5, [.ref 1, .int l1, .int l2, .int l3, .int l4], [], S)
noncomputable def Hi_remember_31_1 (a2 : Int32) (S : pS) : Option (Int32 × pS) := CallF PT GX rkT 50 [.ref 31, .ref 1, .int a2] S
noncomputable def Hi_remember_31_1_c13 (l2 : Int32) (S : pS) : Option (Int32 × pS) := Res PT GX (rkT 50) 50 (pCut cd50 13, [.ref 31, .ref 1, .int l2], [], S)
noncomputable def Ke_ringPerson_25 (a1 : Int32) (S : pS) : Option (Int32 × pS) := CallF PT GX rkT 58 [.ref 25, .int a1] S
noncomputable def Ke_ringPerson_25_c37 (l2 : Int32) (l3 : Int32) (s0 : Int32) (S : pS) : Option (Int32 × pS) := Res PT GX (rkT 58) 58 (pCut cd58 37, [.ref 25, .null, .int l2, .int l3], [.int s0, .ref 25], S)
noncomputable def Ke_throwCards_25 (a1 : Int32) (S : pS) : Option (Int32 × pS) := CallF PT GX rkT 59 [.ref 25, .int a1] S
noncomputable def Ke_throwCards_25_c4 (l1 : Int32) (l2 : Int32) (l3 : Int32) (S : pS) : Option (Int32 × pS) := Res PT GX (rkT 59) 59 (pCut cd59 4, [.ref 25, .int l1, .int l2, .int l3], [], S)
noncomputable def Dr_isKept_1 (a1 : Int32) (S : pS) : Option (Int32 × pS) := CallF PT GX rkT 39 [.ref 1, .int a1] S
noncomputable def Ke_bendCard_25 (a1 : Int32) (S : pS) : Option (Int32 × pS) := CallF PT GX rkT 61 [.ref 25, .int a1] S
noncomputable def Ke_findCard_25 (a1 : Int32) (S : pS) : Option (Int32 × pS) := CallF PT GX rkT 62 [.ref 25, .int a1] S
noncomputable def Ke_passYear_25 (S : pS) : Option (Int32 × pS) := CallF PT GX rkT 63 [.ref 25] S
noncomputable def Ke_passYear_25_c2 (l1 : Int32) (S : pS) : Option (Int32 × pS) := Res PT GX (rkT 63) 63 (pCut cd63 2, [.ref 25, .int l1], [], S)
noncomputable def Ke_passYear_25_c78 (l1 : Int32) (S : pS) : Option (Int32 × pS) := Res PT GX (rkT 63) 63 (pCut cd63 78, [.ref 25, .int l1], [], S)
noncomputable def Ta_hasRoom_46 (a1 : Int32) (S : pS) : Option (Int32 × pS) := CallF PT GX rkT 100 [.ref 46, .int a1] S
noncomputable def Ta_append_46 (a1 : Int32) (S : pS) : Option (Int32 × pS) := CallF PT GX rkT 101 [.ref 46, .int a1] S
noncomputable def Ta_append_46_c3 (l1 : Int32) (l2 : Int32) (S : pS) : Option (Int32 × pS) := Res PT GX (rkT 101) 101 (pCut cd101 3, [.ref 46, .int l1, .int l2], [], S)
noncomputable def Re_read_50 (d : Nat) (a1 : Int32) (a2 : Int32) (S : pS) : Option (Int32 × pS) := Res PT GX d 78 (cd78, [.ref 50, .int a1, .int a2, .null, .null], [], S)
noncomputable def Re_read_50_c70 (d : Nat) (l1 : Int32) (l2 : Int32) (l3 : Int32) (l4 : Int32) (S : pS) : Option (Int32 × pS) := Res PT GX d 78 (pCut cd78 70, [.ref 50, .int l1, .int l2, .int l3, .int l4], [], S)
noncomputable def Re_read_50_c146 (d : Nat) (l1 : Int32) (l2 : Int32) (l3 : Int32) (l4 : Int32) (S : pS) : Option (Int32 × pS) := Res PT GX d 78 (pCut cd78 146, [.ref 50, .int l1, .int l2, .int l3, .int l4], [], S)
noncomputable def To_take_3_50 (a1 : Int32) (S : pS) : Option (Int32 × pS) := CallF PT GX rkT 113 [.ref 3, .int a1, .ref 50] S
noncomputable def La_tell_4_1 (a2 : Int32) (a3 : Int32) (S : pS) : Option (Int32 × pS) := CallF PT GX rkT 72 [.ref 4, .ref 1, .int a2, .int a3] S
noncomputable def La_tell_4_1_c3 (l2 : Int32) (l3 : Int32) (l4 : Int32) (S : pS) : Option (Int32 × pS) := Res PT GX (rkT 72) 72 (pCut cd72 3, [.ref 4, .ref 1, .int l2, .int l3, .int l4, .null, .null, .null], [], S)
noncomputable def La_tell_4_1_c70 (l3 : Int32) (l4 : Int32) (l5 : Int32) (S : pS) : Option (Int32 × pS) := Res PT GX (rkT 72) 72 (pCut cd72 70, [.ref 4, .null, .null, .int l3, .int l4, .int l5, .null, .null], [], S)
noncomputable def La_tell_4_1_c126 (l3 : Int32) (l5 : Int32) (l6 : Int32) (S : pS) : Option (Int32 × pS) := Res PT GX (rkT 72) 72 (pCut cd72 126, [.ref 4, .null, .null, .int l3, .null, .int l5, .int l6, .null], [], S)
noncomputable def Dr_read_1 (a1 : Int32) (a2 : Int32) (S : pS) : Option (Int32 × pS) := CallF PT GX rkT 40 [.ref 1, .int a1, .int a2] S
noncomputable def Ro_at_23 (a1 : Int32) (a2 : Int32) (S : pS) : Option (Int32 × pS) := CallF PT GX rkT 97 [.ref 23, .int a1, .int a2] S
noncomputable def Dr_copyFrom_26_1 (S : pS) : Option (Int32 × pS) := CallF PT GX rkT 37 [.ref 26, .ref 1] S
noncomputable def Ke_passYear_28 (S : pS) : Option (Int32 × pS) := CallF PT GX rkT 63 [.ref 28] S
noncomputable def Ke_passYear_28_c2 (l1 : Int32) (S : pS) : Option (Int32 × pS) := Res PT GX (rkT 63) 63 (pCut cd63 2, [.ref 28, .int l1], [], S)
noncomputable def Ke_passYear_28_c78 (l1 : Int32) (S : pS) : Option (Int32 × pS) := Res PT GX (rkT 63) 63 (pCut cd63 78, [.ref 28, .int l1], [], S)
noncomputable def JX_bitCount (a0 : Int32) (S : pS) : Option (Int32 × pS) := CallF PT GX rkT 285 [.int a0] S
noncomputable def Ro_clear_17 (S : pS) : Option (Int32 × pS) := CallF PT GX rkT 96 [.ref 17] S
noncomputable def Ro_add_17 (a1 : Int32) (a2 : Int32) (a3 : Int32) (a4 : Int32) (S : pS) : Option (Int32 × pS) := CallF PT GX rkT 95 [.ref 17, .int a1, .int a2, .int a3, .int a4] S
noncomputable def Da_narrow_61 (S : pS) : Option (Int32 × pS) := CallF PT GX rkT 34 [.ref 61] S
noncomputable def Da_narrow_61_c2 (l1 : Int32) (S : pS) : Option (Int32 × pS) := Res PT GX (rkT 34) 34 (pCut cd34 2, [.ref 61, .int l1, .null], [], S)
noncomputable def Da_narrow_61_c61 (l1 : Int32) (S : pS) : Option (Int32 × pS) := Res PT GX (rkT 34) 34 (pCut cd34 61, [.ref 61, .int l1, .null], [], S)
noncomputable def Da_narrow_61_c69 (l1 : Int32) (l2 : Int32) (S : pS) : Option (Int32 × pS) := Res PT GX (rkT 34) 34 (pCut cd34 69, [.ref 61, .int l1, .int l2], [], S)
noncomputable def Da_narrow_61_c125 (l1 : Int32) (S : pS) : Option (Int32 × pS) := Res PT GX (rkT 34) 34 (pCut cd34 125, [.ref 61, .int l1, .null], [], S)
noncomputable def Ci_seek_64 (a1 : Int32) (S : pS) : Option (Int32 × pS) := CallF PT GX rkT 23 [.ref 64, .int a1] S
noncomputable def Ci_seek_64_c40 (l2 : Int32) (l3 : Int32) (S : pS) : Option (Int32 × pS) := Res PT GX (rkT 23) 23 (pCut cd23 40, [.ref 64, .null, .int l2, .int l3], [], S)
noncomputable def Ci_ledBy_64 (a1 : Int32) (S : pS) : Option (Int32 × pS) := CallF PT GX rkT 25 [.ref 64, .int a1] S
noncomputable def Ci_ledBy_64_c6 (l1 : Int32) (l2 : Int32) (l3 : Int32) (S : pS) : Option (Int32 × pS) := Res PT GX (rkT 25) 25 (pCut cd25 6, [.ref 64, .int l1, .int l2, .int l3, .null, .null], [], S)
noncomputable def Ci_ledBy_64_c15 (l1 : Int32) (l2 : Int32) (l3 : Int32) (l4 : Int32) (S : pS) : Option (Int32 × pS) := Res PT GX (rkT 25) 25 (pCut cd25 15, [.ref 64, .int l1, .int l2, .int l3, .int l4, .null], [], S)
noncomputable def Ci_rootOf_64 (a1 : Int32) (S : pS) : Option (Int32 × pS) := CallF PT GX rkT 26 [.ref 64, .int a1] S
noncomputable def Ci_rootOf_64_c7 (l2 : Int32) (l3 : Int32) (l4 : Int32) (S : pS) : Option (Int32 × pS) := Res PT GX (rkT 26) 26 (pCut cd26 7, [.ref 64, .null, .int l2, .int l3, .int l4, .null], [], S)
noncomputable def Ci_tellers_64 (S : pS) : Option (Int32 × pS) := CallF PT GX rkT 27 [.ref 64] S
noncomputable def Ci_tellers_64_c30 (l1 : Int32) (l2 : Int32) (l3 : Int32) (l4 : Int32) (S : pS) : Option (Int32 × pS) := Res PT GX (rkT 27) 27 (pCut cd27 30, [.ref 64, .int l1, .int l2, .int l3, .int l4], [], S)
noncomputable def Ci_tellers_64_c65 (l1 : Int32) (l2 : Int32) (l3 : Int32) (l4 : Int32) (S : pS) : Option (Int32 × pS) := Res PT GX (rkT 27) 27 (pCut cd27 65, [.ref 64, .int l1, .int l2, .int l3, .int l4], [], S)
noncomputable def C_holdsBit (a0 : Int32) (a1 : Int32) (S : pS) : Option (Int32 × pS) := CallF PT GX rkT 154 [.int a0, .int a1] S
noncomputable def Ci_hearers_64 (a1 : Int32) (a2 : Int32) (S : pS) : Option (Int32 × pS) := CallF PT GX rkT 29 [.ref 64, .int a1, .int a2] S
noncomputable def Ci_hearers_64_c12 (l1 : Int32) (l3 : Int32) (l4 : Int32) (S : pS) : Option (Int32 × pS) := Res PT GX (rkT 29) 29 (pCut cd29 12, [.ref 64, .int l1, .null, .int l3, .int l4], [], S)
noncomputable def Ro_clear_19 (S : pS) : Option (Int32 × pS) := CallF PT GX rkT 96 [.ref 19] S
noncomputable def C_kinds (a0 : Int32) (S : pS) : Option (Int32 × pS) := CallF PT GX rkT 155 [.int a0] S
noncomputable def Ro_add_19 (a1 : Int32) (a2 : Int32) (a3 : Int32) (a4 : Int32) (S : pS) : Option (Int32 × pS) := CallF PT GX rkT 95 [.ref 19, .int a1, .int a2, .int a3, .int a4] S
noncomputable def Ch_choose_67 (a1 : Int32) (S : pS) : Option (Int32 × pS) := CallF PT GX rkT 1 [.ref 67, .int a1] S
noncomputable def Ch_choose_67_c23 (l1 : Int32) (l2 : Int32) (l3 : Int32) (S : pS) : Option (Int32 × pS) := Res PT GX (rkT 1) 1 (pCut cd1 23, [.ref 67, .int l1, .int l2, .int l3, .null], [], S)
noncomputable def Ch_choose_67_c50 (l1 : Int32) (l2 : Int32) (l3 : Int32) (S : pS) : Option (Int32 × pS) := Res PT GX (rkT 1) 1 (pCut cd1 50, [.ref 67, .int l1, .int l2, .int l3, .null], [], S)
noncomputable def Ch_choose_67_c96 (l1 : Int32) (l2 : Int32) (l3 : Int32) (S : pS) : Option (Int32 × pS) := Res PT GX (rkT 1) 1 (pCut cd1 96, [.ref 67, .int l1, .int l2, .int l3, .null], [], S)
noncomputable def Ch_bestOrder_67 (S : pS) : Option (Int32 × pS) := CallF PT GX rkT 6 [.ref 67] S
noncomputable def Ch_bestOrder_67_c4 (l1 : Int32) (l2 : Int32) (S : pS) : Option (Int32 × pS) := Res PT GX (rkT 6) 6 (pCut cd6 4, [.ref 67, .int l1, .int l2], [], S)
noncomputable def Ch_lookedAt_67 (a1 : Int32) (S : pS) : Option (Int32 × pS) := CallF PT GX rkT 7 [.ref 67, .int a1] S
noncomputable def Ch_lookedAt_67_c4 (l1 : Int32) (l2 : Int32) (l3 : Int32) (S : pS) : Option (Int32 × pS) := Res PT GX (rkT 7) 7 (pCut cd7 4, [.ref 67, .int l1, .int l2, .int l3, .null, .null], [], S)
noncomputable def Ch_lookedAt_67_c69 (l1 : Int32) (l2 : Int32) (l3 : Int32) (s0 : Int32) (S : pS) : Option (Int32 × pS) := Res PT GX (rkT 7) 7 (pCut cd7 69, [.ref 67, .int l1, .int l2, .int l3, .null, .null], [.int s0], S)
noncomputable def Ch_fewestApart_67 (S : pS) : Option (Int32 × pS) := CallF PT GX rkT 8 [.ref 67] S
noncomputable def Ch_fewestApart_67_c4 (l1 : Int32) (l2 : Int32) (S : pS) : Option (Int32 × pS) := Res PT GX (rkT 8) 8 (pCut cd8 4, [.ref 67, .int l1, .int l2, .null], [], S)
noncomputable def Ch_fewestApart_67_c31 (l1 : Int32) (l2 : Int32) (s0 : Int32) (S : pS) : Option (Int32 × pS) := Res PT GX (rkT 8) 8 (pCut cd8 31, [.ref 67, .int l1, .int l2, .null], [.int s0], S)
noncomputable def Ch_secondOnes_67 (S : pS) : Option (Int32 × pS) := CallF PT GX rkT 11 [.ref 67] S
noncomputable def Ch_secondOnes_67_c4 (l1 : Int32) (l2 : Int32) (S : pS) : Option (Int32 × pS) := Res PT GX (rkT 11) 11 (pCut cd11 4, [.ref 67, .int l1, .int l2], [], S)
noncomputable def Ch_nearest_67 (a1 : Int32) (S : pS) : Option (Int32 × pS) := CallF PT GX rkT 13 [.ref 67, .int a1] S
noncomputable def Ch_nearest_67_c4 (l1 : Int32) (l2 : Int32) (l3 : Int32) (S : pS) : Option (Int32 × pS) := Res PT GX (rkT 13) 13 (pCut cd13 4, [.ref 67, .int l1, .int l2, .int l3], [], S)
noncomputable def Ch_inCommon_67 (a1 : Int32) (a2 : Int32) (S : pS) : Option (Int32 × pS) := CallF PT GX rkT 14 [.ref 67, .int a1, .int a2] S
noncomputable def Ch_inCommon_67_c5 (l1 : Int32) (l2 : Int32) (l3 : Int32) (l4 : Int32) (S : pS) : Option (Int32 × pS) := Res PT GX (rkT 14) 14 (pCut cd14 5, [.ref 67, .int l1, .int l2, .int l3, .int l4], [], S)
noncomputable def Ro_clear_21 (S : pS) : Option (Int32 × pS) := CallF PT GX rkT 96 [.ref 21] S
noncomputable def C_noteKinds (a0 : Int32) (S : pS) : Option (Int32 × pS) := CallF PT GX rkT 156 [.int a0] S
noncomputable def Ro_add_21 (a1 : Int32) (a2 : Int32) (a3 : Int32) (a4 : Int32) (S : pS) : Option (Int32 × pS) := CallF PT GX rkT 95 [.ref 21, .int a1, .int a2, .int a3, .int a4] S
noncomputable def Ci_writers_64 (S : pS) : Option (Int32 × pS) := CallF PT GX rkT 30 [.ref 64] S
noncomputable def Ci_writers_64_c17 (l1 : Int32) (l2 : Int32) (S : pS) : Option (Int32 × pS) := Res PT GX (rkT 30) 30 (pCut cd30 17, [.ref 64, .int l1, .int l2, .null], [], S)
noncomputable def Ci_askNext_64 (a1 : Int32) (S : pS) : Option (Int32 × pS) := CallF PT GX rkT 32 [.ref 64, .int a1] S
noncomputable def Ci_askNext_64_c22 (l1 : Int32) (l2 : Int32) (l3 : Int32) (l4 : Int32) (l5 : Int32) (S : pS) : Option (Int32 × pS) := Res PT GX (rkT 32) 32 (pCut cd32 22, [.ref 64, .int l1, .int l2, .int l3, .int l4, .int l5, .null, .null], [], S)
noncomputable def Ke_sumOfHolds_25 (S : pS) : Option (Int32 × pS) := CallF PT GX rkT 56 [.ref 25] S
noncomputable def Ke_sumOfHolds_25_c4 (l1 : Int32) (l2 : Int32) (S : pS) : Option (Int32 × pS) := Res PT GX (rkT 56) 56 (pCut cd56 4, [.ref 25, .int l1, .int l2], [], S)
noncomputable def Ke_likeliest_25 (a1 : Int32) (S : pS) : Option (Int32 × pS) := CallF PT GX rkT 55 [.ref 25, .int a1] S
noncomputable def Ke_likeliest_25_c9 (l1 : Int32) (l2 : Int32) (l3 : Int32) (S : pS) : Option (Int32 × pS) := Res PT GX (rkT 55) 55 (pCut cd55 9, [.ref 25, .int l1, .int l2, .int l3, .null], [], S)
noncomputable def Ch_firmToThrow_67 (S : pS) : Option (Int32 × pS) := CallF PT GX rkT 18 [.ref 67] S
noncomputable def Ch_firmToThrow_67_c2 (l1 : Int32) (S : pS) : Option (Int32 × pS) := Res PT GX (rkT 18) 18 (pCut cd18 2, [.ref 67, .int l1], [], S)
noncomputable def Ch_cardsToThrow_67 (a1 : Int32) (S : pS) : Option (Int32 × pS) := CallF PT GX rkT 17 [.ref 67, .int a1] S
noncomputable def Hi_goBack_31_1_23 (S : pS) : Option (Int32 × pS) := CallF PT GX rkT 52 [.ref 31, .ref 1, .ref 23] S
noncomputable def Dr_copyFrom_1_69 (S : pS) : Option (Int32 × pS) := CallF PT GX rkT 37 [.ref 1, .ref 69] S
noncomputable def To_copyFrom_3_71 (S : pS) : Option (Int32 × pS) := CallF PT GX rkT 112 [.ref 3, .ref 71] S
noncomputable def Ro_copyFrom_23_91 (S : pS) : Option (Int32 × pS) := CallF PT GX rkT 98 [.ref 23, .ref 91] S
noncomputable def Dr_copyFrom_69_1 (S : pS) : Option (Int32 × pS) := CallF PT GX rkT 37 [.ref 69, .ref 1] S
noncomputable def To_copyFrom_71_3 (S : pS) : Option (Int32 × pS) := CallF PT GX rkT 112 [.ref 71, .ref 3] S
noncomputable def Ro_copyFrom_91_23 (S : pS) : Option (Int32 × pS) := CallF PT GX rkT 98 [.ref 91, .ref 23] S
noncomputable def Hi_dropOldest_31 (S : pS) : Option (Int32 × pS) := CallF PT GX rkT 51 [.ref 31] S
noncomputable def Hi_dropOldest_31_c9 (l1 : Nat) (l2 : Int32) (S : pS) : Option (Int32 × pS) := Res PT GX (rkT 51) 51 (pCut cd51 9, [.ref 31, .ref l1, .int l2], [], S)
noncomputable def Ke_reaches_25 (a1 : Int32) (S : pS) : Option (Int32 × pS) := CallF PT GX rkT 57 [.ref 25, .int a1] S
noncomputable def Ke_enter_25 (a1 : Int32) (a2 : Int32) (a3 : Int32) (S : pS) : Option (Int32 × pS) := CallF PT GX rkT 54 [.ref 25, .int a1, .int a2, .int a3] S
noncomputable def Dr_wear_1 (a1 : Int32) (a2 : Int32) (S : pS) : Option (Int32 × pS) := CallF PT GX rkT 44 [.ref 1, .int a1, .int a2] S
noncomputable def Ke_throwLeast_25 (S : pS) : Option (Int32 × pS) := CallF PT GX rkT 60 [.ref 25] S
noncomputable def Ke_throwLeast_25_c6 (l1 : Int32) (l2 : Int32) (l3 : Int32) (S : pS) : Option (Int32 × pS) := Res PT GX (rkT 60) 60 (pCut cd60 6, [.ref 25, .int l1, .int l2, .int l3, .null], [], S)
noncomputable def Ro_at_15 (a1 : Int32) (a2 : Int32) (S : pS) : Option (Int32 × pS) := CallF PT GX rkT 97 [.ref 15, .int a1, .int a2] S
noncomputable def Ke_carryOut_25 (a1 : Int32) (a2 : Int32) (S : pS) : Option (Int32 × pS) := CallF PT GX rkT 64 [.ref 25, .int a1, .int a2] S
noncomputable def Ke_wantTrade_25 (S : pS) : Option (Int32 × pS) := CallF PT GX rkT 65 [.ref 25] S
noncomputable def Ke_wantTrade_25_c29 (s0 : Int32) (S : pS) : Option (Int32 × pS) := Res PT GX (rkT 65) 65 (pCut cd65 29, [.ref 25, .null, .null], [.int s0], S)
noncomputable def Ke_wearCard_25 (a1 : Int32) (S : pS) : Option (Int32 × pS) := CallF PT GX rkT 66 [.ref 25, .int a1] S
noncomputable def La_clear_51 (S : pS) : Option (Int32 × pS) := CallF PT GX rkT 69 [.ref 51] S
noncomputable def Ro_clear_59 (S : pS) : Option (Int32 × pS) := CallF PT GX rkT 96 [.ref 59] S
noncomputable def Ta_scan_46 (S : pS) : Option (Int32 × pS) := CallF PT GX rkT 102 [.ref 46] S
noncomputable def Ta_scan_46_c9 (l1 : Int32) (l2 : Int32) (S : pS) : Option (Int32 × pS) := Res PT GX (rkT 102) 102 (pCut cd102 9, [.ref 46, .int l1, .int l2, .null, .null], [], S)
noncomputable def Ta_scan_46_c135 (S : pS) : Option (Int32 × pS) := Res PT GX (rkT 102) 102 (pCut cd102 135, [.ref 46, .null, .null, .null, .null], [], S)
noncomputable def Re_planLine_50 (a1 : Int32) (S : pS) : Option (Int32 × pS) := CallF PT GX rkT 86 [.ref 50, .int a1] S
noncomputable def Re_planLine_50_c71 (l1 : Int32) (l2 : Int32) (l3 : Int32) (s0 : Int32) (S : pS) : Option (Int32 × pS) := Res PT GX (rkT 86) 86 (pCut cd86 71, [.ref 50, .int l1, .int l2, .int l3, .null, .null], [.int s0], S)
noncomputable def Re_planLine_50_c100 (l2 : Int32) (l3 : Int32) (l4 : Int32) (s0 : Int32) (S : pS) : Option (Int32 × pS) := Res PT GX (rkT 86) 86 (pCut cd86 100, [.ref 50, .null, .int l2, .int l3, .int l4, .null], [.int s0], S)
noncomputable def Re_calledLine_50 (S : pS) : Option (Int32 × pS) := CallF PT GX rkT 85 [.ref 50] S
noncomputable def Re_metLine_50 (S : pS) : Option (Int32 × pS) := CallF PT GX rkT 84 [.ref 50] S
noncomputable def Re_lawLine_50 (d : Nat) (S : pS) : Option (Int32 × pS) := Res PT GX d 87 (cd87, [.ref 50, .null, .null, .null], [], S)
noncomputable def Re_lawLine_50_c71 (d : Nat) (l1 : Int32) (l2 : Int32) (l3 : Int32) (S : pS) : Option (Int32 × pS) := Res PT GX d 87 (pCut cd87 71, [.ref 50, .int l1, .int l2, .int l3], [], S)
noncomputable def Ro_copyFrom_15_59 (S : pS) : Option (Int32 × pS) := CallF PT GX rkT 98 [.ref 15, .ref 59] S
noncomputable def To_takeCalled_3_59 (S : pS) : Option (Int32 × pS) := CallF PT GX rkT 115 [.ref 3, .ref 59] S
noncomputable def To_takeCalled_3_59_c2 (l2 : Int32) (S : pS) : Option (Int32 × pS) := Res PT GX (rkT 115) 115 (pCut cd115 2, [.ref 3, .ref 59, .int l2, .null], [], S)
noncomputable def To_takeCalled_3_59_c31 (l2 : Int32) (S : pS) : Option (Int32 × pS) := Res PT GX (rkT 115) 115 (pCut cd115 31, [.ref 3, .ref 59, .int l2, .null], [], S)
noncomputable def To_takeMet_3_59 (S : pS) : Option (Int32 × pS) := CallF PT GX rkT 114 [.ref 3, .ref 59] S
noncomputable def To_takeMet_3_59_c2 (l2 : Int32) (S : pS) : Option (Int32 × pS) := Res PT GX (rkT 114) 114 (pCut cd114 2, [.ref 3, .ref 59, .int l2, .null], [], S)
noncomputable def To_takeMet_3_59_c23 (l2 : Int32) (S : pS) : Option (Int32 × pS) := Res PT GX (rkT 114) 114 (pCut cd114 23, [.ref 3, .ref 59, .int l2, .null], [], S)
noncomputable def La_copyFrom_4_51 (S : pS) : Option (Int32 × pS) := CallF PT GX rkT 68 [.ref 4, .ref 51] S
noncomputable def La_run_4 (a1 : Int32) (a2 : Int32) (S : pS) : Option (Int32 × pS) := CallF PT GX rkT 75 [.ref 4, .int a1, .int a2] S
noncomputable def La_run_4_c5 (l2 : Int32) (l3 : Int32) (l4 : Int32) (S : pS) : Option (Int32 × pS) := Res PT GX (rkT 75) 75 (pCut cd75 5, [.ref 4, .null, .int l2, .int l3, .int l4, .null], [], S)
noncomputable def La_run_4_c93 (l2 : Int32) (l3 : Int32) (l4 : Int32) (l5 : Int32) (S : pS) : Option (Int32 × pS) := Res PT GX (rkT 75) 75 (pCut cd75 93, [.ref 4, .null, .int l2, .int l3, .int l4, .int l5], [], S)
noncomputable def La_run_4_c44 (l2 : Int32) (l3 : Int32) (l4 : Int32) (l5 : Int32) (S : pS) : Option (Int32 × pS) := Res PT GX (rkT 75) 75 (pCut cd75 44, [.ref 4, .null, .int l2, .int l3, .int l4, .int l5], [], S)
noncomputable def La_unlessTold (a0 : Int32) (a1 : Int32) (S : pS) : Option (Int32 × pS) := CallF PT GX rkT 73 [.int a0, .int a1] S
noncomputable def La_held (a0 : Int32) (a1 : Int32) (S : pS) : Option (Int32 × pS) := CallF PT GX rkT 74 [.int a0, .int a1] S
noncomputable def La_held_c23 (l1 : Int32) (s0 : Int32) (S : pS) : Option (Int32 × pS) := Res PT GX (rkT 74) 74 (pCut cd74 23, [.null, .int l1, .null], [.int s0], S)
noncomputable def Ke_carryOut_28 (a1 : Int32) (a2 : Int32) (S : pS) : Option (Int32 × pS) := CallF PT GX rkT 64 [.ref 28, .int a1, .int a2] S
noncomputable def Ke_wantTrade_28 (S : pS) : Option (Int32 × pS) := CallF PT GX rkT 65 [.ref 28] S
noncomputable def Ke_wantTrade_28_c29 (s0 : Int32) (S : pS) : Option (Int32 × pS) := Res PT GX (rkT 65) 65 (pCut cd65 29, [.ref 28, .null, .null], [.int s0], S)
noncomputable def Dr_isKept_26 (a1 : Int32) (S : pS) : Option (Int32 × pS) := CallF PT GX rkT 39 [.ref 26, .int a1] S
noncomputable def Ke_wearCard_28 (a1 : Int32) (S : pS) : Option (Int32 × pS) := CallF PT GX rkT 66 [.ref 28, .int a1] S
noncomputable def Ro_at_17 (a1 : Int32) (a2 : Int32) (S : pS) : Option (Int32 × pS) := CallF PT GX rkT 97 [.ref 17, .int a1, .int a2] S
noncomputable def Da_order_61 (a1 : Int32) (a2 : Int32) (S : pS) : Option (Int32 × pS) := CallF PT GX rkT 35 [.ref 61, .int a1, .int a2] S
noncomputable def Ci_learn_64 (S : pS) : Option (Int32 × pS) := CallF PT GX rkT 20 [.ref 64] S
noncomputable def Ci_learn_64_c2 (l1 : Int32) (S : pS) : Option (Int32 × pS) := Res PT GX (rkT 20) 20 (pCut cd20 2, [.ref 64, .int l1, .null, .null], [], S)
noncomputable def Ci_learn_64_c25 (l1 : Int32) (l2 : Int32) (S : pS) : Option (Int32 × pS) := Res PT GX (rkT 20) 20 (pCut cd20 25, [.ref 64, .int l1, .int l2, .null], [], S)
noncomputable def Ci_measure_64 (a1 : Int32) (S : pS) : Option (Int32 × pS) := CallF PT GX rkT 22 [.ref 64, .int a1] S
noncomputable def Ci_measure_64_c2 (l1 : Int32) (l2 : Int32) (S : pS) : Option (Int32 × pS) := Res PT GX (rkT 22) 22 (pCut cd22 2, [.ref 64, .int l1, .int l2, .null, .null, .null], [], S)
noncomputable def Ci_measure_64_c30 (l2 : Int32) (l3 : Int32) (l4 : Int32) (S : pS) : Option (Int32 × pS) := Res PT GX (rkT 22) 22 (pCut cd22 30, [.ref 64, .null, .int l2, .int l3, .int l4, .null], [], S)
noncomputable def Ci_measure_64_c40 (l2 : Int32) (l3 : Int32) (l4 : Int32) (l5 : Int32) (S : pS) : Option (Int32 × pS) := Res PT GX (rkT 22) 22 (pCut cd22 40, [.ref 64, .null, .int l2, .int l3, .int l4, .int l5], [], S)
noncomputable def Dr_peopleOn_1 (a1 : Int32) (S : pS) : Option (Int32 × pS) := CallF PT GX rkT 46 [.ref 1, .int a1] S
noncomputable def Dr_peopleOn_1_c4 (l1 : Int32) (l2 : Int32) (l3 : Int32) (S : pS) : Option (Int32 × pS) := Res PT GX (rkT 46) 46 (pCut cd46 4, [.ref 1, .int l1, .int l2, .int l3], [], S)
noncomputable def Ci_firstOnTheWay_64 (S : pS) : Option (Int32 × pS) := CallF PT GX rkT 24 [.ref 64] S
noncomputable def Ci_firstOnTheWay_64_c10 (l1 : Int32) (S : pS) : Option (Int32 × pS) := Res PT GX (rkT 24) 24 (pCut cd24 10, [.ref 64, .int l1], [], S)
noncomputable def Ci_isHeardByAll_64 (a1 : Int32) (a2 : Int32) (S : pS) : Option (Int32 × pS) := CallF PT GX rkT 28 [.ref 64, .int a1, .int a2] S
noncomputable def Ci_besideSome_64 (a1 : Int32) (S : pS) : Option (Int32 × pS) := CallF PT GX rkT 21 [.ref 64, .int a1] S
noncomputable def Ci_besideSome_64_c4 (l1 : Int32) (l2 : Int32) (l3 : Int32) (S : pS) : Option (Int32 × pS) := Res PT GX (rkT 21) 21 (pCut cd21 4, [.ref 64, .int l1, .int l2, .int l3], [], S)
noncomputable def Ch_tryCard_67 (a1 : Int32) (a2 : Int32) (S : pS) : Option (Int32 × pS) := CallF PT GX rkT 2 [.ref 67, .int a1, .int a2] S
noncomputable def Ch_tryCard_67_c14 (l1 : Int32) (l2 : Int32) (l3 : Int32) (l4 : Int32) (S : pS) : Option (Int32 × pS) := Res PT GX (rkT 2) 2 (pCut cd2 14, [.ref 67, .int l1, .int l2, .int l3, .int l4, .null, .null], [], S)
noncomputable def Ch_tryCard_67_c82 (l1 : Int32) (l2 : Int32) (l3 : Int32) (l4 : Int32) (l5 : Int32) (l6 : Int32) (S : pS) : Option (Int32 × pS) := Res PT GX (rkT 2) 2 (pCut cd2 82, [.ref 67, .int l1, .int l2, .int l3, .int l4, .int l5, .int l6], [], S)
noncomputable def Ch_takeIfBetter_67 (a1 : Int32) (a2 : Int32) (S : pS) : Option (Int32 × pS) := CallF PT GX rkT 3 [.ref 67, .int a1, .int a2] S
noncomputable def Ch_takeIfBetter_67_c27 (l1 : Int32) (l2 : Int32) (S : pS) : Option (Int32 × pS) := Res PT GX (rkT 3) 3 (pCut cd3 27, [.ref 67, .int l1, .int l2], [], S)
noncomputable def Ro_at_19 (a1 : Int32) (a2 : Int32) (S : pS) : Option (Int32 × pS) := CallF PT GX rkT 97 [.ref 19, .int a1, .int a2] S
noncomputable def Ch_tellsApart_67 (a1 : Int32) (S : pS) : Option (Int32 × pS) := CallF PT GX rkT 9 [.ref 67, .int a1] S
noncomputable def Ch_tellsApart_67_c2 (l1 : Int32) (l2 : Int32) (S : pS) : Option (Int32 × pS) := Res PT GX (rkT 9) 9 (pCut cd9 2, [.ref 67, .int l1, .int l2, .null], [], S)
noncomputable def Ch_tellsApart_67_c15 (l1 : Int32) (l2 : Int32) (l3 : Int32) (S : pS) : Option (Int32 × pS) := Res PT GX (rkT 9) 9 (pCut cd9 15, [.ref 67, .int l1, .int l2, .int l3], [], S)
noncomputable def Ch_hasSooner_67 (a1 : Int32) (S : pS) : Option (Int32 × pS) := CallF PT GX rkT 12 [.ref 67, .int a1] S
noncomputable def Ch_hasSooner_67_c12 (l1 : Int32) (l2 : Int32) (l3 : Int32) (S : pS) : Option (Int32 × pS) := Res PT GX (rkT 12) 12 (pCut cd12 12, [.ref 67, .int l1, .int l2, .int l3, .null], [], S)
noncomputable def Ro_at_21 (a1 : Int32) (a2 : Int32) (S : pS) : Option (Int32 × pS) := CallF PT GX rkT 97 [.ref 21, .int a1, .int a2] S
noncomputable def Ci_peopleFor_64 (a1 : Int32) (a2 : Int32) (S : pS) : Option (Int32 × pS) := CallF PT GX rkT 31 [.ref 64, .int a1, .int a2] S
noncomputable def Ch_pile_67 (a1 : Int32) (S : pS) : Option (Int32 × pS) := CallF PT GX rkT 15 [.ref 67, .int a1] S
noncomputable def Ch_leftToLose_67 (a1 : Int32) (S : pS) : Option (Int32 × pS) := CallF PT GX rkT 16 [.ref 67, .int a1] S
noncomputable def Ch_leftToLose_67_c4 (l1 : Int32) (l2 : Int32) (l3 : Int32) (S : pS) : Option (Int32 × pS) := Res PT GX (rkT 16) 16 (pCut cd16 4, [.ref 67, .int l1, .int l2, .int l3], [], S)
noncomputable def La_copyFrom_4_72 (S : pS) : Option (Int32 × pS) := CallF PT GX rkT 68 [.ref 4, .ref 72] S
noncomputable def Ro_copyFrom_15_83 (S : pS) : Option (Int32 × pS) := CallF PT GX rkT 98 [.ref 15, .ref 83] S
noncomputable def Ro_copyFrom_17_85 (S : pS) : Option (Int32 × pS) := CallF PT GX rkT 98 [.ref 17, .ref 85] S
noncomputable def Ro_copyFrom_19_87 (S : pS) : Option (Int32 × pS) := CallF PT GX rkT 98 [.ref 19, .ref 87] S
noncomputable def Ro_copyFrom_21_89 (S : pS) : Option (Int32 × pS) := CallF PT GX rkT 98 [.ref 21, .ref 89] S
noncomputable def La_copyFrom_72_4 (S : pS) : Option (Int32 × pS) := CallF PT GX rkT 68 [.ref 72, .ref 4] S
noncomputable def Ro_copyFrom_83_15 (S : pS) : Option (Int32 × pS) := CallF PT GX rkT 98 [.ref 83, .ref 15] S
noncomputable def Ro_copyFrom_85_17 (S : pS) : Option (Int32 × pS) := CallF PT GX rkT 98 [.ref 85, .ref 17] S
noncomputable def Ro_copyFrom_87_19 (S : pS) : Option (Int32 × pS) := CallF PT GX rkT 98 [.ref 87, .ref 19] S
noncomputable def Ro_copyFrom_89_21 (S : pS) : Option (Int32 × pS) := CallF PT GX rkT 98 [.ref 89, .ref 21] S
noncomputable def Dr_draw_1 (a1 : Int32) (S : pS) : Option (Int32 × pS) := CallF PT GX rkT 47 [.ref 1, .int a1] S
noncomputable def Ro_add_23 (a1 : Int32) (a2 : Int32) (a3 : Int32) (a4 : Int32) (S : pS) : Option (Int32 × pS) := CallF PT GX rkT 95 [.ref 23, .int a1, .int a2, .int a3, .int a4] S
noncomputable def Dr_drop_1 (a1 : Int32) (S : pS) : Option (Int32 × pS) := CallF PT GX rkT 43 [.ref 1, .int a1] S
noncomputable def Ta_isLetter (a0 : Int32) (S : pS) : Option (Int32 × pS) := CallF PT GX rkT 104 [.int a0] S
noncomputable def Ta_isLetter_c12 (l0 : Int32) (S : pS) : Option (Int32 × pS) := Res PT GX (rkT 104) 104 (pCut cd104 12, [.int l0], [], S)
noncomputable def Ta_isDigit (a0 : Int32) (S : pS) : Option (Int32 × pS) := CallF PT GX rkT 105 [.int a0] S
noncomputable def Ta_put_46 (a1 : Int32) (a2 : Int32) (S : pS) : Option (Int32 × pS) := CallF PT GX rkT 103 [.ref 46, .int a1, .int a2] S
noncomputable def Ta_pastDigits_46 (a1 : Int32) (S : pS) : Option (Int32 × pS) := CallF PT GX rkT 107 [.ref 46, .int a1] S
noncomputable def Ta_pastDigits_46_c2 (l2 : Int32) (S : pS) : Option (Int32 × pS) := Res PT GX (rkT 107) 107 (pCut cd107 2, [.ref 46, .null, .int l2], [], S)
noncomputable def Ta_numberAt_46 (a1 : Int32) (a2 : Int32) (S : pS) : Option (Int32 × pS) := CallF PT GX rkT 110 [.ref 46, .int a1, .int a2] S
noncomputable def Ta_numberAt_46_c14 (l2 : Int32) (l3 : Int32) (l4 : Int32) (S : pS) : Option (Int32 × pS) := Res PT GX (rkT 110) 110 (pCut cd110 14, [.ref 46, .null, .int l2, .int l3, .int l4], [], S)
noncomputable def Ta_pastLetters_46 (a1 : Int32) (S : pS) : Option (Int32 × pS) := CallF PT GX rkT 106 [.ref 46, .int a1] S
noncomputable def Ta_pastLetters_46_c2 (l2 : Int32) (S : pS) : Option (Int32 × pS) := Res PT GX (rkT 106) 106 (pCut cd106 2, [.ref 46, .null, .int l2], [], S)
noncomputable def Ta_wordAt_46 (a1 : Int32) (a2 : Int32) (S : pS) : Option (Int32 × pS) := CallF PT GX rkT 108 [.ref 46, .int a1, .int a2] S
noncomputable def Ta_wordAt_46_c12 (l1 : Int32) (l2 : Int32) (l3 : Int32) (S : pS) : Option (Int32 × pS) := Res PT GX (rkT 108) 108 (pCut cd108 12, [.ref 46, .int l1, .int l2, .int l3], [], S)
noncomputable def Re_opens_50 (a1 : Int32) (a2 : Int32) (S : pS) : Option (Int32 × pS) := CallF PT GX rkT 82 [.ref 50, .int a1, .int a2] S
noncomputable def Re_passesNumber_50 (a1 : Int32) (a2 : Int32) (S : pS) : Option (Int32 × pS) := CallF PT GX rkT 83 [.ref 50, .int a1, .int a2] S
noncomputable def Re_fails_50 (a1 : Int32) (S : pS) : Option (Int32 × pS) := CallF PT GX rkT 80 [.ref 50, .int a1] S
noncomputable def Re_advance_50 (S : pS) : Option (Int32 × pS) := CallF PT GX rkT 79 [.ref 50] S
noncomputable def Re_advance_50_c20 (S : pS) : Option (Int32 × pS) := Res PT GX (rkT 79) 79 (pCut cd79 20, [.ref 50], [], S)
noncomputable def Ro_add_59 (a1 : Int32) (a2 : Int32) (a3 : Int32) (a4 : Int32) (S : pS) : Option (Int32 × pS) := CallF PT GX rkT 95 [.ref 59, .int a1, .int a2, .int a3, .int a4] S
noncomputable def Re_passes_50 (a1 : Int32) (S : pS) : Option (Int32 × pS) := CallF PT GX rkT 81 [.ref 50, .int a1] S
noncomputable def Re_sum_50 (S : pS) : Option (Int32 × pS) := CallF PT GX rkT 90 [.ref 50] S
noncomputable def Re_sum_50_c14 (l1 : Int32) (l2 : Int32) (S : pS) : Option (Int32 × pS) := Res PT GX (rkT 90) 90 (pCut cd90 14, [.ref 50, .int l1, .int l2, .null, .null], [], S)
noncomputable def Re_sum_50_c110 (l1 : Int32) (S : pS) : Option (Int32 × pS) := Res PT GX (rkT 90) 90 (pCut cd90 110, [.ref 50, .int l1, .null, .null, .null], [], S)
noncomputable def Re_sum_50_c53 (l1 : Int32) (l2 : Int32) (l3 : Int32) (s0 : Int32) (S : pS) : Option (Int32 × pS) := Res PT GX (rkT 90) 90 (pCut cd90 53, [.ref 50, .int l1, .int l2, .int l3, .null], [.int s0], S)
noncomputable def Re_sum_50_c67 (l1 : Int32) (l2 : Int32) (l3 : Int32) (l4 : Int32) (S : pS) : Option (Int32 × pS) := Res PT GX (rkT 90) 90 (pCut cd90 67, [.ref 50, .int l1, .int l2, .int l3, .int l4], [], S)
noncomputable def Re_sum_50_c83 (l1 : Int32) (l2 : Int32) (l3 : Int32) (l4 : Int32) (s0 : Int32) (S : pS) : Option (Int32 × pS) := Res PT GX (rkT 90) 90 (pCut cd90 83, [.ref 50, .int l1, .int l2, .int l3, .int l4], [.int s0, .ref 50], S)
noncomputable def Re_either_50 (d : Nat) (a1 : Int32) (S : pS) : Option (Int32 × pS) := Res PT GX d 88 (cd88, [.ref 50, .int a1, .null, .null, .null], [], S)
noncomputable def Re_either_50_c14 (d : Nat) (l1 : Int32) (l2 : Int32) (l3 : Int32) (S : pS) : Option (Int32 × pS) := Res PT GX d 88 (pCut cd88 14, [.ref 50, .int l1, .int l2, .int l3, .null], [], S)
noncomputable def Re_either_50_c41 (d : Nat) (l1 : Int32) (l2 : Int32) (l3 : Int32) (S : pS) : Option (Int32 × pS) := Res PT GX d 88 (pCut cd88 41, [.ref 50, .int l1, .int l2, .int l3, .null], [], S)
noncomputable def Re_either_50_c123 (d : Nat) (l2 : Int32) (S : pS) : Option (Int32 × pS) := Res PT GX d 88 (pCut cd88 123, [.ref 50, .null, .int l2, .null, .null], [], S)
noncomputable def Re_either_50_c69 (d : Nat) (l1 : Int32) (l2 : Int32) (l3 : Int32) (l4 : Int32) (S : pS) : Option (Int32 × pS) := Res PT GX d 88 (pCut cd88 69, [.ref 50, .int l1, .int l2, .int l3, .int l4], [], S)
noncomputable def Re_either_50_c83 (d : Nat) (l1 : Int32) (l3 : Int32) (l4 : Int32) (s0 : Int32) (s1 : Int32) (S : pS) : Option (Int32 × pS) := Res PT GX d 88 (pCut cd88 83, [.ref 50, .int l1, .null, .int l3, .int l4], [.int s0, .int s1], S)
noncomputable def La_addLine_51 (a1 : Int32) (a2 : Int32) (a3 : Int32) (S : pS) : Option (Int32 × pS) := CallF PT GX rkT 71 [.ref 51, .int a1, .int a2, .int a3] S
noncomputable def Ro_at_59 (a1 : Int32) (a2 : Int32) (S : pS) : Option (Int32 × pS) := CallF PT GX rkT 97 [.ref 59, .int a1, .int a2] S
noncomputable def La_joined (a0 : Int32) (a1 : Int32) (a2 : Int32) (S : pS) : Option (Int32 × pS) := CallF PT GX rkT 76 [.int a0, .int a1, .int a2] S
noncomputable def Ke_throwCards_28 (a1 : Int32) (S : pS) : Option (Int32 × pS) := CallF PT GX rkT 59 [.ref 28, .int a1] S
noncomputable def Ke_throwCards_28_c4 (l1 : Int32) (l2 : Int32) (l3 : Int32) (S : pS) : Option (Int32 × pS) := Res PT GX (rkT 59) 59 (pCut cd59 4, [.ref 28, .int l1, .int l2, .int l3], [], S)
noncomputable def Ke_ringPerson_28 (a1 : Int32) (S : pS) : Option (Int32 × pS) := CallF PT GX rkT 58 [.ref 28, .int a1] S
noncomputable def Ke_ringPerson_28_c37 (l2 : Int32) (l3 : Int32) (s0 : Int32) (S : pS) : Option (Int32 × pS) := Res PT GX (rkT 58) 58 (pCut cd58 37, [.ref 28, .null, .int l2, .int l3], [.int s0, .ref 28], S)
noncomputable def Dr_has_26 (a1 : Int32) (S : pS) : Option (Int32 × pS) := CallF PT GX rkT 38 [.ref 26, .int a1] S
noncomputable def Ke_bendCard_28 (a1 : Int32) (S : pS) : Option (Int32 × pS) := CallF PT GX rkT 61 [.ref 28, .int a1] S
noncomputable def Ke_findCard_28 (a1 : Int32) (S : pS) : Option (Int32 × pS) := CallF PT GX rkT 62 [.ref 28, .int a1] S
noncomputable def Dr_draw_26 (a1 : Int32) (S : pS) : Option (Int32 × pS) := CallF PT GX rkT 47 [.ref 26, .int a1] S
noncomputable def Dr_keptWith_26 (a1 : Int32) (a2 : Int32) (S : pS) : Option (Int32 × pS) := CallF PT GX rkT 45 [.ref 26, .int a1, .int a2] S
noncomputable def Dr_keptWith_26_c5 (l1 : Int32) (l2 : Int32) (l3 : Int32) (l4 : Int32) (S : pS) : Option (Int32 × pS) := Res PT GX (rkT 45) 45 (pCut cd45 5, [.ref 26, .int l1, .int l2, .int l3, .int l4], [], S)
noncomputable def Ke_likeliest_28 (a1 : Int32) (S : pS) : Option (Int32 × pS) := CallF PT GX rkT 55 [.ref 28, .int a1] S
noncomputable def Ke_likeliest_28_c9 (l1 : Int32) (l2 : Int32) (l3 : Int32) (S : pS) : Option (Int32 × pS) := Res PT GX (rkT 55) 55 (pCut cd55 9, [.ref 28, .int l1, .int l2, .int l3, .null], [], S)
noncomputable def Ke_enter_28 (a1 : Int32) (a2 : Int32) (a3 : Int32) (S : pS) : Option (Int32 × pS) := CallF PT GX rkT 54 [.ref 28, .int a1, .int a2, .int a3] S
noncomputable def Ke_reaches_28 (a1 : Int32) (S : pS) : Option (Int32 × pS) := CallF PT GX rkT 57 [.ref 28, .int a1] S
noncomputable def Dr_read_26 (a1 : Int32) (a2 : Int32) (S : pS) : Option (Int32 × pS) := CallF PT GX rkT 40 [.ref 26, .int a1, .int a2] S
noncomputable def La_tell_4_26 (a2 : Int32) (a3 : Int32) (S : pS) : Option (Int32 × pS) := CallF PT GX rkT 72 [.ref 4, .ref 26, .int a2, .int a3] S
noncomputable def La_tell_4_26_c3 (l2 : Int32) (l3 : Int32) (l4 : Int32) (S : pS) : Option (Int32 × pS) := Res PT GX (rkT 72) 72 (pCut cd72 3, [.ref 4, .ref 26, .int l2, .int l3, .int l4, .null, .null, .null], [], S)
noncomputable def La_tell_4_26_c70 (l3 : Int32) (l4 : Int32) (l5 : Int32) (S : pS) : Option (Int32 × pS) := Res PT GX (rkT 72) 72 (pCut cd72 70, [.ref 4, .null, .null, .int l3, .int l4, .int l5, .null, .null], [], S)
noncomputable def La_tell_4_26_c126 (l3 : Int32) (l5 : Int32) (l6 : Int32) (S : pS) : Option (Int32 × pS) := Res PT GX (rkT 72) 72 (pCut cd72 126, [.ref 4, .null, .null, .int l3, .null, .int l5, .int l6, .null], [], S)
noncomputable def Dr_wear_26 (a1 : Int32) (a2 : Int32) (S : pS) : Option (Int32 × pS) := CallF PT GX rkT 44 [.ref 26, .int a1, .int a2] S
noncomputable def Dr_drop_26 (a1 : Int32) (S : pS) : Option (Int32 × pS) := CallF PT GX rkT 43 [.ref 26, .int a1] S
noncomputable def Ch_questionsFor_67 (a1 : Int32) (S : pS) : Option (Int32 × pS) := CallF PT GX rkT 5 [.ref 67, .int a1] S
noncomputable def Ch_questionsFor_67_c4 (l1 : Int32) (l2 : Int32) (l3 : Int32) (S : pS) : Option (Int32 × pS) := Res PT GX (rkT 5) 5 (pCut cd5 4, [.ref 67, .int l1, .int l2, .int l3], [], S)
noncomputable def Ch_isLess (a0 : Int32) (a1 : Int32) (S : pS) : Option (Int32 × pS) := CallF PT GX rkT 4 [.int a0, .int a1] S
noncomputable def Ch_isAlike_67 (a1 : Int32) (a2 : Int32) (a3 : Int32) (S : pS) : Option (Int32 × pS) := CallF PT GX rkT 10 [.ref 67, .int a1, .int a2, .int a3] S
noncomputable def Ch_isAlike_67_c3 (l1 : Int32) (l2 : Int32) (l3 : Int32) (l4 : Int32) (S : pS) : Option (Int32 × pS) := Res PT GX (rkT 10) 10 (pCut cd10 3, [.ref 67, .int l1, .int l2, .int l3, .int l4], [], S)
noncomputable def Ta_isWord_46 (a1 : Int32) (a2 : Int32) (a3 : Int32) (S : pS) : Option (Int32 × pS) := CallF PT GX rkT 109 [.ref 46, .int a1, .int a2, .int a3] S
noncomputable def Ta_isWord_46_c3 (l1 : Int32) (l2 : Int32) (l3 : Int32) (l4 : Int32) (S : pS) : Option (Int32 × pS) := Res PT GX (rkT 109) 109 (pCut cd109 3, [.ref 46, .int l1, .int l2, .int l3, .int l4, .null], [], S)
noncomputable def Ta_isWord_46_c32 (l1 : Int32) (l2 : Int32) (l3 : Int32) (l4 : Int32) (s0 : Int32) (S : pS) : Option (Int32 × pS) := Res PT GX (rkT 109) 109 (pCut cd109 32, [.ref 46, .int l1, .int l2, .int l3, .int l4, .null], [.int s0], S)
noncomputable def Re_unit_50 (a1 : Int32) (S : pS) : Option (Int32 × pS) := CallF PT GX rkT 93 [.ref 50, .int a1] S
noncomputable def Re_unit_50_c15 (l1 : Int32) (s0 : Int32) (S : pS) : Option (Int32 × pS) := Res PT GX (rkT 93) 93 (pCut cd93 15, [.ref 50, .int l1, .null, .null], [.int s0], S)
noncomputable def Re_unit_50_c41 (l1 : Int32) (l2 : Int32) (s0 : Int32) (S : pS) : Option (Int32 × pS) := Res PT GX (rkT 93) 93 (pCut cd93 41, [.ref 50, .int l1, .int l2, .null], [.int s0], S)
noncomputable def Re_unit_50_c60 (l1 : Int32) (S : pS) : Option (Int32 × pS) := Res PT GX (rkT 93) 93 (pCut cd93 60, [.ref 50, .int l1, .null, .null], [], S)
noncomputable def Re_unit_50_c80 (S : pS) : Option (Int32 × pS) := Res PT GX (rkT 93) 93 (pCut cd93 80, [.ref 50, .null, .null, .null], [], S)
noncomputable def Re_isJoint (a0 : Int32) (S : pS) : Option (Int32 × pS) := CallF PT GX rkT 91 [.int a0] S
noncomputable def Re_addIfSign_50 (a1 : Int32) (S : pS) : Option (Int32 × pS) := CallF PT GX rkT 92 [.ref 50, .int a1] S
noncomputable def La_add_51 (a1 : Int32) (S : pS) : Option (Int32 × pS) := CallF PT GX rkT 70 [.ref 51, .int a1] S
noncomputable def Re_condition_50 (d : Nat) (a1 : Int32) (S : pS) : Option (Int32 × pS) := Res PT GX d 89 (cd89, [.ref 50, .int a1, .null, .null], [], S)
noncomputable def Re_condition_50_c18 (d : Nat) (l1 : Int32) (l2 : Int32) (S : pS) : Option (Int32 × pS) := Res PT GX d 89 (pCut cd89 18, [.ref 50, .int l1, .int l2, .null], [], S)
noncomputable def Re_condition_50_c127 (d : Nat) (l3 : Int32) (S : pS) : Option (Int32 × pS) := Res PT GX d 89 (pCut cd89 127, [.ref 50, .null, .null, .int l3], [], S)
noncomputable def Ke_throwLeast_28 (S : pS) : Option (Int32 × pS) := CallF PT GX rkT 60 [.ref 28] S
noncomputable def Ke_throwLeast_28_c6 (l1 : Int32) (l2 : Int32) (l3 : Int32) (S : pS) : Option (Int32 × pS) := Res PT GX (rkT 60) 60 (pCut cd60 6, [.ref 28, .int l1, .int l2, .int l3, .null], [], S)
noncomputable def Dr_write_26 (a1 : Int32) (a2 : Int32) (a3 : Int32) (S : pS) : Option (Int32 × pS) := CallF PT GX rkT 41 [.ref 26, .int a1, .int a2, .int a3] S
noncomputable def Ro_add_29 (a1 : Int32) (a2 : Int32) (a3 : Int32) (a4 : Int32) (S : pS) : Option (Int32 × pS) := CallF PT GX rkT 95 [.ref 29, .int a1, .int a2, .int a3, .int a4] S
theorem R_card_eq (a1 : Int32) (a2 : Int32) (a3 : Int32) (a4 : Int32) (S : pS) : R_card a1 a2 a3 a4 S = (R_isPerson a1 (wF S 0 0 (0 : Int32))).bind (fun q1 => if q1.1 = 0 then (some ((-1 : Int32), q1.2)) else ((R_isIn a2 (0 : Int32) (7 : Int32) q1.2).bind (fun q2 => if q2.1 = 0 then (some ((-1 : Int32), q2.2)) else ((R_isIn a3 (0 : Int32) (5 : Int32) q2.2).bind (fun q3 => if q3.1 = 0 then (some ((-1 : Int32), q3.2)) else ((R_isIn a4 (0 : Int32) (99 : Int32) q3.2).bind (fun q4 => if q4.1 = 0 then (some ((-1 : Int32), q4.2)) else (if (rF q4.2 0 6) = (14 : Int32) then (some ((-1 : Int32), q4.2)) else (if inb (rF q4.2 0 6) 14 = true then (if inb (rF q4.2 0 6) 14 = true then (if inb (rF q4.2 0 6) 14 = true then (if inb ((6 : Int32) + (rF q4.2 0 6)) 76 = true then (if inb ((20 : Int32) + (rF q4.2 0 6)) 76 = true then (if inb ((34 : Int32) + (rF q4.2 0 6)) 76 = true then (if inb ((48 : Int32) + (rF q4.2 0 6)) 76 = true then (if inb ((62 : Int32) + (rF q4.2 0 6)) 76 = true then (some ((((rF q4.2 0 6) + (1 : Int32)) - (1 : Int32)), (wF (wF (wA (wA (wA (wA (wA (wA (wA (wA q4.2 4 (rF q4.2 0 6) a1) 5 (rF q4.2 0 6) a2) 6 (rF q4.2 0 6) a3) 1 ((6 : Int32) + (rF q4.2 0 6)) a4) 1 ((20 : Int32) + (rF q4.2 0 6)) (0 : Int32)) 1 ((34 : Int32) + (rF q4.2 0 6)) (0 : Int32)) 1 ((48 : Int32) + (rF q4.2 0 6)) (0 : Int32)) 1 ((62 : Int32) + (rF q4.2 0 6)) (0 : Int32)) 0 6 ((rF q4.2 0 6) + (1 : Int32))) 0 3 (0 : Int32)))) else (none)) else (none)) else (none)) else (none)) else (none)) else (none)) else (none)) else (none)))))))))) := by
  show Res PT GR (rkT 175) 175 (cd175, [.ref 0, .int a1, .int a2, .int a3, .int a4], [], S) = _
  refine (R_blk PT GR (k := 175) (code := cd175) rfl [] 400 _).trans ?_
  refine (R_cx PT GR hRk PT_171 rfl rfl rfl rfl rfl).trans ?_
  refine bind_cong (fun q1 => ?_)
  refine (R_blk PT GR (k := 175) (code := cd175) rfl [] 400 _).trans ?_
  refine ite_cong ?_ ?_
  · exact R_retI PT GR rfl rfl
  · refine (R_cx PT GR hRk PT_158 rfl rfl rfl rfl rfl).trans ?_
    refine bind_cong (fun q2 => ?_)
    refine (R_blk PT GR (k := 175) (code := cd175) rfl [] 400 _).trans ?_
    refine ite_cong ?_ ?_
    · exact R_retI PT GR rfl rfl
    · refine (R_cx PT GR hRk PT_158 rfl rfl rfl rfl rfl).trans ?_
      refine bind_cong (fun q3 => ?_)
      refine (R_blk PT GR (k := 175) (code := cd175) rfl [] 400 _).trans ?_
      refine ite_cong ?_ ?_
      · exact R_retI PT GR rfl rfl
      · refine (R_cx PT GR hRk PT_158 rfl rfl rfl rfl rfl).trans ?_
        refine bind_cong (fun q4 => ?_)
        refine (R_blk PT GR (k := 175) (code := cd175) rfl [] 400 _).trans ?_
        refine ite_cong ?_ ?_
        · exact R_retI PT GR rfl rfl
        · refine ite_cong ?_ ?_
          · exact R_retI PT GR rfl rfl
          · refine ite_cong ?_ ?_
            · refine ite_cong ?_ ?_
              · refine ite_cong ?_ ?_
                · refine ite_cong ?_ ?_
                  · refine ite_cong ?_ ?_
                    · refine ite_cong ?_ ?_
                      · refine ite_cong ?_ ?_
                        · refine ite_cong ?_ ?_
                          · exact R_retI PT GR rfl rfl
                          · rfl
                        · rfl
                      · rfl
                    · rfl
                  · rfl
                · rfl
              · rfl
            · rfl
theorem R_isIn_eq (a1 : Int32) (a2 : Int32) (a3 : Int32) (S : pS) : R_isIn a1 a2 a3 S = if a1 < a2 then (some ((0 : Int32), S)) else (if a1 ≤ a3 then (some ((1 : Int32), S)) else (some ((0 : Int32), S))) := by
  show Res PT GR (rkT 158) 158 (cd158, [.ref 0, .int a1, .int a2, .int a3], [], S) = _
  refine (R_blk PT GR (k := 158) (code := cd158) rfl [] 400 _).trans ?_
  refine ite_cong ?_ ?_
  · exact R_retI PT GR rfl rfl
  · refine ite_cong ?_ ?_
    · exact R_retI PT GR rfl rfl
    · exact R_retI PT GR rfl rfl
theorem R_isKept_eq (a1 : Int32) (S : pS) : R_isKept a1 S = if inb ((48 : Int32) + a1) 76 = true then (if (rA S 1 ((48 : Int32) + a1)) = 0 then (some ((1 : Int32), S)) else (some ((0 : Int32), S))) else (none) := by
  show Res PT GR (rkT 172) 172 (cd172, [.ref 0, .int a1], [], S) = _
  refine (R_blk PT GR (k := 172) (code := cd172) rfl [] 400 _).trans ?_
  refine ite_cong ?_ ?_
  · refine ite_cong ?_ ?_
    · exact R_retI PT GR rfl rfl
    · exact R_retI PT GR rfl rfl
  · rfl
theorem R_keptSet_eq (S : pS) : R_keptSet S = R_keptSet_c4 (0 : Int32) (0 : Int32) S := by
  show Res PT GR (rkT 173) 173 (cd173, [.ref 0, .null, .null], [], S) = _
  exact (R_blk PT GR (k := 173) (code := cd173) rfl [4] 400 _).trans rfl
theorem R_keptSet_c4_eq (l1 : Int32) (l2 : Int32) (S : pS) : R_keptSet_c4 l1 l2 S = if l2 < (rF S 0 6) then ((R_isKept l2 S).bind (fun q1 => if q1.1 = 0 then (R_keptSet_c4 l1 (l2 + (1 : Int32)) q1.2) else (R_keptSet_c4 (l1 ||| ((1 : Int32) <<< (l2 &&& 31))) (l2 + (1 : Int32)) q1.2))) else (some (l1, S)) := by
  show Res PT GR (rkT 173) 173 (pCut cd173 4, [.ref 0, .int l1, .int l2], [], S) = _
  refine (R_reg PT GR (k := 173) (code := cd173) rfl [4] 400).trans ?_
  refine ite_cong ?_ ?_
  · refine (R_cx PT GR hRk PT_172 rfl rfl rfl rfl rfl).trans ?_
    refine bind_cong (fun q1 => ?_)
    refine (R_blk PT GR (k := 173) (code := cd173) rfl [4] 400 _).trans ?_
    refine ite_cong ?_ ?_
    · rfl
    · rfl
  · exact R_retI PT GR rfl rfl
theorem R_onesOf_eq (a1 : Int32) (S : pS) : R_onesOf a1 S = R_onesOf_c4 (0 : Int32) a1 S := by
  show Res PT GR (rkT 162) 162 (cd162, [.ref 0, .int a1, .null, .null], [], S) = _
  exact (R_blk PT GR (k := 162) (code := cd162) rfl [4] 400 _).trans rfl
theorem R_onesOf_c4_eq (l2 : Int32) (l3 : Int32) (S : pS) : R_onesOf_c4 l2 l3 S = if l3 = 0 then (some (l2, S)) else (R_onesOf_c4 (l2 + (1 : Int32)) (l3 &&& (l3 - (1 : Int32))) S) := by
  show Res PT GR (rkT 162) 162 (pCut cd162 4, [.null, .null, .int l2, .int l3], [], S) = _
  refine (R_reg PT GR (k := 162) (code := cd162) rfl [4] 400).trans ?_
  refine ite_cong ?_ ?_
  · exact R_retI PT GR rfl rfl
  · rfl
theorem Dr_read_1_eq (a1 : Int32) (a2 : Int32) (S : pS) : Dr_read_1 a1 a2 S = if inb ((a2 * (14 : Int32)) + a1) 98 = true then (some ((rA S 2 ((a2 * (14 : Int32)) + a1)), S)) else (none) := by
  show Res PT GX (rkT 40) 40 (cd40, [.ref 1, .int a1, .int a2], [], S) = _
  refine (R_blk PT GX (k := 40) (code := cd40) rfl [] 400 _).trans ?_
  refine ite_cong ?_ ?_
  · exact R_retI PT GX rfl rfl
  · rfl
