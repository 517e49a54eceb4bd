/-! The law's loop, and its start. -/
theorem dL_18 : decode code 18 = .ok (.iload_n 3, 1) := by decide +kernel
theorem dL_19 : decode code 19 = .ok (.aload_n 0, 1) := by decide +kernel
theorem dL_20 : decode code 20 = .ok (.arraylength, 1) := by decide +kernel
theorem dL_21 : decode code 21 = .ok (.bipush 6, 2) := by decide +kernel
theorem dL_23 : decode code 23 = .ok (.isub, 1) := by decide +kernel
theorem dL_24 : decode code 24 = .ok (.if_icmp .gt 1250, 3) := by decide +kernel
theorem dL_27 : decode code 27 = .ok (.aload_n 0, 1) := by decide +kernel
theorem dL_28 : decode code 28 = .ok (.iload_n 3, 1) := by decide +kernel
theorem dL_29 : decode code 29 = .ok (.iaload, 1) := by decide +kernel
theorem dL_30 : decode code 30 = .ok (.bipush 63, 2) := by decide +kernel
theorem dL_32 : decode code 32 = .ok (.iand, 1) := by decide +kernel
theorem dL_33 : decode code 33 = .ok (.tableswitch 1235 0 35 lawOffs, 159) := by decide +kernel
theorem dL_1268 : decode code 1268 = .ok (.iinc 3 6, 3) := by decide +kernel
theorem dL_1271 : decode code 1271 = .ok (.goto (-1253), 3) := by decide +kernel
theorem dL_1274 : decode code 1274 = .ok (.iconst 1, 1) := by decide +kernel
theorem dL_1275 : decode code 1275 = .ok (.ireturn, 1) := by decide +kernel
theorem dL_0 : decode code 0 = .ok (.new 7, 3) := by decide +kernel
theorem dL_3 : decode code 3 = .ok (.dup, 1) := by decide +kernel
theorem dL_4 : decode code 4 = .ok (.invokespecial 9, 3) := by decide +kernel
theorem dL_7 : decode code 7 = .ok (.astore_n 1, 1) := by decide +kernel
theorem dL_8 : decode code 8 = .ok (.new 10, 3) := by decide +kernel
theorem dL_11 : decode code 11 = .ok (.dup, 1) := by decide +kernel
theorem dL_12 : decode code 12 = .ok (.invokespecial 12, 3) := by decide +kernel
theorem dL_15 : decode code 15 = .ok (.astore_n 2, 1) := by decide +kernel
theorem dL_16 : decode code 16 = .ok (.iconst 0, 1) := by decide +kernel
theorem dL_17 : decode code 17 = .ok (.istore_n 3, 1) := by decide +kernel
set_option maxHeartbeats 2000000 in
theorem law_loop {p : Program} {l : Launch} {e : Env} {s : State} {m : MethodId} {below : List Frame} {meth : Method} {c : Code} {D : va_G} {tys : List (ClassId × FieldType)} {cI cD : ClassId} {adX adR : Nat → Nat} {tk : pTk} {b L : Nat} {xs : Nat → Int32} (hL : L ≤ 3072) (C0 : lw_At p s m meth c b L xs)
    (hK : va_K D cls tys s) (hX : pX tk (fun q => s.heap.size ≤ q) s) (ht0 : tys[0]? = some (cI, .int)) (ht1 : tys[1]? = some (cD, .object "CardDrawer$Drawer"))
    (hndX : ∀ i j, i < GX.length → j < GX.length → adX i = adX j → i = j) (hAX : ∀ i, i < GX.length → s.heap.size ≤ adX i) (hndR : ∀ i j, i < GR.length → j < GR.length → adR i = adR j → i = j) (hAR : ∀ i, i < GR.length → s.heap.size ≤ adR i) (hne : ∀ i j, i < GX.length → j < GR.length → adX i ≠ adR j) :
    ∀ (n i : Nat), i ≤ L → L + 1 ≤ i + n → ∀ (X R : pS), INV X R → ∀ (H : Heap) (locs : List Loc) (ls : Array Slot), lv_has ls 4 [(0, .ref b), (1, .ref (adX 0)), (2, .ref (adR 0)), (3, .int (nI i))] → va_P D cls (pWld cI cD adX GX X) H → va_P D cls (pWld cI cD adR GR R) H → va_S (fun q => s.heap.size ≤ q) s.heap H locs → W p l e room_1 s m #[Value.ref b] below meth c H locs 600000 7302250 (lw_Z below #[Value.ref b] s) (F0 m 18 ls []) := by
  obtain ⟨hx, hb, hr, hml, hown, htl, hXs, hbl, hlocks, hgv⟩ := C0
  have hts : ∀ w ∈ GW, w.before #[Value.ref b] s = true := fun w hw => htl w (List.mem_filter.mp hw).1
  have hbA : ¬ (fun q : Nat => s.heap.size ≤ q) b := Nat.not_le.mpr hbl
  intro n
  induction n with
  | zero => intro i h1 h2; exact absurd h2 (by omega)
  | succ n ih =>
    intro i hi hin X R hI H locs ls hl hPX hPR hS
    refine lv_iload_n hx hb dL_18 rfl (lv_at hl 3 rfl) ?_
    refine lv_aload_n hx hb dL_19 rfl (lv_at hl 0 rfl) ?_
    refine va_slen hx hb hXs hbl hbA hS dL_20 ?_
    refine lv_bipush (v := 6) hx hb dL_21 (by decide) ?_
    refine lv_isub hx hb dL_23 ?_
    refine lv_icmp_gt (tgt := 1274) hx hb dL_24 (by decide) (fun _ => ?_) (fun hc => ?_)
    · refine lv_iconst (v := 1) hx hb dL_1274 (by decide) ?_
      refine va_forget (fun q hq => hS.2.2 q hq) ?_
      exact lw_ret hx hb hr hlocks dL_1275
    · have hi6 : i + 6 ≤ L := by
        rw [fa_lt] at hc
        have e1 : (nI i).toInt = (i : Int) := nI_toInt (by omega)
        have e2 : (nI L).toInt = (L : Int) := nI_toInt (by omega)
        have e3 : (Int32.ofNat L - 6 : Int32).toInt = (L : Int) - 6 := by
          rw [Int32.toInt_sub, show (Int32.ofNat L).toInt = (L : Int) from e2, show (6 : Int32).toInt = 6 from rfl]
          exact Int.bmod_eq_of_le (by omega) (by omega)
        rw [e1, e3] at hc
        omega
      have hback : ∀ (H1 : Heap) (locs1 : List Loc) (X' R' : pS), INV X' R' → va_P D cls (pWld cI cD adX GX X') H1 → va_P D cls (pWld cI cD adR GR R') H1 → va_S (fun q => s.heap.size ≤ q) s.heap H1 locs1 → W p l e room_1 s m #[Value.ref b] below meth c H1 locs1 600000 7302250 (lw_Z below #[Value.ref b] s) (F0 m 1268 ls []) := by
        intro H1 locs1 X' R' hI' p1 p2 s1
        refine lv_iinc (v := nI (i + 6)) (lv' := [(3, .int (nI (i + 6))), (0, .ref b), (1, .ref (adX 0)), (2, .ref (adR 0))]) hx hb dL_1268 hl (k := 3) rfl (by rw [show Int32.ofInt 6 = nI 6 from by decide, nI_add]) (by decide) rfl (fun ls2 hl2 => ?_)
        refine lv_goto (tgt := 18) hx hb dL_1271 (by decide) ?_
        exact ih (i + 6) hi6 (by omega) X' R' hI' H1 locs1 ls2 (lv_sub hl2 [1, 2, 3, 0] rfl) p1 p2 s1
      refine lv_aload_n hx hb dL_27 rfl (lv_at hl 0 rfl) ?_
      refine lv_iload_n hx hb dL_28 rfl (lv_at hl 3 rfl) ?_
      refine va_sld hx hb hXs hbl hbA hS (vp_in_nI (n := i) (by omega) (by omega)) dL_29 ?_
      refine lv_bipush (v := 63) hx hb dL_30 (by decide) ?_
      refine lv_iand hx hb dL_32 ?_
      refine lv_topi (fun y _ => ?_)
      rcases i3 y 36 (by omega) with z | z | ⟨j, hj, rfl⟩
      · refine lv_tableOut (tgt := 1268) hx hb dL_33 (Or.inl (by rw [fa_lt] at z; exact z)) (by decide) ?_
        exact hback H locs X R hI hPX hPR hS
      · refine lv_tableOut (tgt := 1268) hx hb dL_33 (Or.inr (by rw [fa_le, nI_toInt (by omega)] at z; omega)) (by decide) ?_
        exact hback H locs X R hI hPX hPR hS
      · have hck := rw_ok j hj
        simp only [ckRow, Bool.and_eq_true, decide_eq_true_eq] at hck
        have ho := hck.2.2.2.2.2
        have ej : (nI j).toInt = (j : Int) := nI_toInt (by omega)
        refine lv_tableIn (tgt := rPc j) hx hb dL_33 (by rw [ej]; omega) (by rw [ej]; omega) (by rw [ej, show ((j : Int) - 0).toNat = j from by omega]; exact ho) (by show (33 : Int) + ((rPc j : Int) - 33) = (rPc j : Int); omega) ?_
        exact case_W hx hb hml hown hts hK hX ht0 ht1 hXs hbl hL hndX hAX hndR hAR hne hj hI hi6 hl hPX hPR hS hback
theorem GXl : GX.length = 93 := by decide +kernel
theorem GRl : GR.length = 35 := by decide +kernel
theorem GXs : (prT 11).length + (slG GX - slG [.inl (11, prT 11)]) ≤ 1000000 := by decide +kernel
theorem GRs : (prT 12).length + (slG GR - slG [.inl (12, prT 12)]) ≤ 1000000 := by decide +kernel
set_option maxHeartbeats 4000000 in
/-- THE LAW, from its entry -/
theorem whole_start {p : Program} {e : Env} {s : State} {m : MethodId} {below : List Frame} {meth : Method} {c : Code} (l : Launch) {b L : Nat} {xs : Nat → Int32} (hL : L ≤ 3072) (C0 : lw_At p s m meth c b L xs) : W p l e room_1 s m #[Value.ref b] below meth c s.heap [] 0 0 (lw_Z below #[Value.ref b] s) (entryFrame m ([Value.ref b] : List Value).toArray 4) := by
  obtain ⟨hx, hb, hr, hml, hown, htl, hXs, hbl, hlocks, hgv⟩ := id C0
  have hts : ∀ w ∈ GW, w.before #[Value.ref b] s = true := fun w hw => htl w (List.mem_filter.mp hw).1
  obtain ⟨tk, hX⟩ := st_X0 htl hgv
  obtain ⟨D, cI, cD, hK⟩ := st_K hts (htl _ (tb_in (w := 1219) (by decide +kernel)))
  have hl := lv_entry ([.ref b]) (n := 4) (Nat.le_of_ble_eq_true rfl)
  rw [lg_entry_eq]
  generalize (lg_sl ([.ref b]) ++ List.replicate (4 - (lg_sl ([.ref b])).length) Slot.unset).toArray = ls at hl ⊢
  have hl : lv_has ls 4 [(0, .ref b)] := hl
  have hP : va_P D cls (pWld cI cD (fun _ => 0) [] S00) s.heap := fun k q h => by simp [pWld] at h
  have hD : va_D (fun q : Nat => s.heap.size ≤ q) (pWld cI cD (fun _ => 0) [] S00) := ⟨fun i j p q h => by simp [pWld] at h, fun k q h => by simp [pWld] at h⟩
  have gx := GXl
  have gr := GRl
  have sx := GXs
  have sr := GRs
  refine law_new (ci := 11) (k := 119) (n := 6000) (d := 20) (G := GX) (S := SX0) (index := 7) (i := 9) (cells' := 93) (slots' := 1000000) hx hb hml hown hts hK hX rfl rfl (by omega) (by decide) (by decide) runX_eq (by omega) (GW_of (w := 1022) (by decide +kernel) rfl) (GW_of (w := 1024) (by decide +kernel) rfl) hl.1 hP hD va_S.rf (by omega) (by omega) ⟨by omega, by omega⟩ dL_0 dL_3 dL_4 (fun adX H1 locs1 pX1 nX aX _ _ s1 => ?_)
  refine lv_astore_n (lv' := [(1, .ref (adX 0)), (0, .ref b)]) hx hb dL_7 rfl hl (by decide) rfl (fun ls1 hl1 => ?_)
  refine law_new (ci := 12) (k := 160) (n := 6000) (d := 20) (G := GR) (S := SR0) (index := 10) (i := 12) (cells' := 600000) (slots' := 7302250) hx hb hml hown hts hK hX rfl rfl (by omega) (by decide) (by decide) runR_eq (by omega) (GW_of (w := 5227) (by decide +kernel) rfl) (GW_of (w := 5229) (by decide +kernel) rfl) hl1.1 pX1 (va_D_ad nX aX) s1 (by omega) (by omega) ⟨Nat.le_refl _, Nat.le_refl _⟩ dL_8 dL_11 dL_12 (fun adR H2 locs2 pR2 nR aR pX2 ne s2 => ?_)
  refine lv_astore_n (lv' := [(2, .ref (adR 0)), (1, .ref (adX 0)), (0, .ref b)]) hx hb dL_15 rfl hl1 (by decide) rfl (fun ls2 hl2 => ?_)
  refine lv_iconst (v := nI 0) hx hb dL_16 (by decide) ?_
  refine lv_istore_n (lv' := [(3, .int (nI 0)), (2, .ref (adR 0)), (1, .ref (adX 0)), (0, .ref b)]) hx hb dL_17 rfl hl2 (by decide) rfl (fun ls3 hl3 => ?_)
  exact law_loop hL C0 hK hX rfl rfl nX aX nR aR ne (L + 1) 0 (Nat.zero_le L) (by omega) SX0 SR0 INV_0 H2 locs2 ls3 (lv_sub hl3 [3, 2, 1, 0] rfl) pX2 pR2 s2
