/-! Two new objects are alike. -/
def iniX (X : pS) : Prop := (X.1 25 3 = 0 ∧ X.1 28 3 = 1 ∧ X.1 29 0 = 0 ∧ X.1 29 2 = 0 ∧ X.1 23 0 = nI 150 ∧ X.1 17 0 = nI 12 ∧ X.1 19 0 = nI 10 ∧ X.1 21 0 = nI 8 ∧ X.1 59 0 = nI 16) ∧ (X.1 0 15 = 0 ∧ X.1 46 4 = 0 ∧ X.1 50 4 = 0 ∧ X.1 50 5 = -1) ∧ (∀ k, k < 98 → X.2.1 2 k = 0) ∧ (∀ i, i < 8 → 1 ≤ i → X.1 1 i = 0) ∧ (X.1 23 2 = 0 ∧ X.1 4 8 = 0 ∧ X.1 4 7 = 0 ∧ X.1 3 8 = 0 ∧ X.1 3 9 = 0) ∧ (∀ p, p < 12 → X.2.1 12 p = -1) ∧ (∀ f, f < 8 → X.2.1 13 f = 0 ∧ X.2.1 14 f = nI 99) ∧ (X.1 15 2 = 0 ∧ X.1 17 2 = 0 ∧ X.1 19 2 = 0 ∧ X.1 21 2 = 0 ∧ X.1 31 2 = 0) ∧ ∀ i, i < 6 → X.2.2 32 i = some (34 + 2 * i)
def iniR (R : pS) : Prop := (R.1 0 5 = 0 ∧ ∀ i, i < 115 → R.2.1 9 i = nI (wds.getD i 0)) ∧ (R.1 0 57 = 0 ∧ R.1 0 12 = 0 ∧ R.1 0 32 = 0 ∧ R.1 0 33 = -1) ∧ (∀ c, c < 14 → R.2.1 4 c = 0 ∧ R.2.1 5 c = 0 ∧ R.2.1 6 c = 0) ∧ (∀ c, c < 76 → R.2.1 1 c = 0) ∧ (R.1 0 6 = 0 ∧ R.2.1 10 0 = 0 ∧ R.1 0 34 = 0 ∧ R.1 0 36 = 0 ∧ R.1 0 39 = 0 ∧ R.1 0 43 = 0 ∧ R.1 0 49 = 0 ∧ R.1 0 52 = 0 ∧ R.1 0 3 = 0) ∧ (∀ p, p < 12 → R.2.1 18 p = 0) ∧ ∀ f, f < 8 → R.2.1 19 f = 0 ∧ R.2.1 20 f = 0
def dIniX (X : pS) : Bool := decide (X.1 25 3 = 0 ∧ X.1 28 3 = 1 ∧ X.1 29 0 = 0 ∧ X.1 29 2 = 0 ∧ X.1 23 0 = nI 150 ∧ X.1 17 0 = nI 12 ∧ X.1 19 0 = nI 10 ∧ X.1 21 0 = nI 8 ∧ X.1 59 0 = nI 16) && (decide (X.1 0 15 = 0 ∧ X.1 46 4 = 0 ∧ X.1 50 4 = 0 ∧ X.1 50 5 = -1) && ((List.range 98).all (fun k => decide (X.2.1 2 k = 0)) && ((List.range 7).all (fun i => decide (X.1 1 (i + 1) = 0)) && (decide (X.1 23 2 = 0 ∧ X.1 4 8 = 0 ∧ X.1 4 7 = 0 ∧ X.1 3 8 = 0 ∧ X.1 3 9 = 0) && ((List.range 12).all (fun p => decide (X.2.1 12 p = -1)) && ((List.range 8).all (fun f => decide (X.2.1 13 f = 0 ∧ X.2.1 14 f = nI 99)) && (decide (X.1 15 2 = 0 ∧ X.1 17 2 = 0 ∧ X.1 19 2 = 0 ∧ X.1 21 2 = 0 ∧ X.1 31 2 = 0) && (List.range 6).all (fun i => decide (X.2.2 32 i = some (34 + 2 * i))))))))))
def dIniR (R : pS) : Bool := decide (R.1 0 5 = 0) && ((List.range 115).all (fun i => decide (R.2.1 9 i = nI (wds.getD i 0))) && (decide (R.1 0 57 = 0 ∧ R.1 0 12 = 0 ∧ R.1 0 32 = 0 ∧ R.1 0 33 = -1) && ((List.range 14).all (fun c => decide (R.2.1 4 c = 0 ∧ R.2.1 5 c = 0 ∧ R.2.1 6 c = 0)) && ((List.range 76).all (fun c => decide (R.2.1 1 c = 0)) && (decide (R.1 0 6 = 0 ∧ R.2.1 10 0 = 0 ∧ R.1 0 34 = 0 ∧ R.1 0 36 = 0 ∧ R.1 0 39 = 0 ∧ R.1 0 43 = 0 ∧ R.1 0 49 = 0 ∧ R.1 0 52 = 0 ∧ R.1 0 3 = 0) && ((List.range 12).all (fun p => decide (R.2.1 18 p = 0)) && (List.range 8).all (fun f => decide (R.2.1 19 f = 0 ∧ R.2.1 20 f = 0))))))))
theorem runX_i : runX.map (fun r => dIniX r.2) = some true := by decide +kernel
theorem runR_i : runR.map (fun r => dIniR r.2) = some true := by decide +kernel
theorem iniX_ok : iniX SX0 := by
  have h := runX_i
  rw [runX_eq] at h
  have h : dIniX SX0 = true := by simpa using h
  simp only [dIniX, Bool.and_eq_true, decide_eq_true_eq, List.all_eq_true, List.mem_range] at h
  obtain ⟨h1, h2, h3, h4, h5, h6, h7, h8, h9⟩ := h
  exact ⟨h1, h2, h3, fun i hi h0 => by have := h4 (i - 1) (by omega); rwa [show i - 1 + 1 = i from by omega] at this, h5, h6, h7, h8, h9⟩
theorem iniR_ok : iniR SR0 := by
  have h := runR_i
  rw [runR_eq] at h
  have h : dIniR SR0 = true := by simpa using h
  simp only [dIniR, Bool.and_eq_true, decide_eq_true_eq, List.all_eq_true, List.mem_range] at h
  obtain ⟨h1, h2, h3, h4, h5, h6, h7, h8⟩ := h
  exact ⟨⟨h1, h2⟩, h3, h4, h5, h6, h7, h8⟩
theorem INV_of {X R : pS} (x : iniX X) (r : iniR R) : INV X R := by
  obtain ⟨x1, ⟨x2, x3, x4, x5⟩, x6, x7, ⟨x8, x9, x10, x11, x12⟩, x13, x14, ⟨x15, x16, x17, x18, x19⟩, x20⟩ := x
  obtain ⟨r1, ⟨r2, r3, r4, r5⟩, r6, r7, ⟨r8, r9, r10, r11, r12, r13, r14, r15, r16⟩, r17, r18⟩ := r
  refine ⟨x1, r1, Or.inl ⟨x2, r2⟩, ⟨⟨0, fun _ => 0, by omega, x3, r3, fun i hi => by omega⟩, by rw [x4, r4], by rw [x5, r5]⟩, 0, fun _ _ => 0, (0, fun _ => 0), fun _ _ => 0, fun r _ => if r = 3 then 99 else 0, ⟨⟨by omega, rfl, low_0, fun c hc => by omega⟩, Nat.zero_le _, ⟨Nat.zero_le _, Nat.zero_le _, fun l hl => absurd hl (by simp)⟩, ⟨⟨Nat.zero_le _, Nat.zero_le _⟩, fun p hp => Nat.zero_le _, fun f hf => ⟨Nat.zero_le _, Nat.le_refl 99⟩, ⟨Nat.zero_le _, fun i hi => absurd hi (by simp)⟩, ⟨Nat.zero_le _, fun i hi => absurd hi (by simp)⟩, ⟨Nat.zero_le _, fun i hi => absurd hi (by simp)⟩, ⟨Nat.zero_le _, fun i hi => absurd hi (by simp)⟩⟩⟩, ⟨⟨fun r c h1 h2 => x6 _ (by omega), fun i h1 h2 => x7 i h2 h1⟩, ⟨x8, fun i hi => absurd hi (by simp)⟩, ⟨x9, x10, fun l hl => absurd hl (by simp), fun k hk => absurd hk (by simp)⟩, ⟨x11, x12, fun p hp => by rw [x13 p hp]; rfl, fun f hf => x14 f hf, ⟨x15, fun i hi => absurd hi (by simp)⟩, ⟨x16, fun i hi => absurd hi (by simp)⟩, ⟨x17, fun i hi => absurd hi (by simp)⟩, ⟨x18, fun i hi => absurd hi (by simp)⟩⟩⟩, ⟨⟨⟨fun c hc => ⟨(r6 c hc).1, (r6 c hc).2.1, (r6 c hc).2.2, r7 _ (by omega), r7 _ (by omega), r7 _ (by omega), r7 _ (by omega)⟩, fun c hc => by omega, r7 _ (by omega), r7 _ (by omega), r7 _ (by omega), r7 _ (by omega), r7 _ (by omega)⟩, r8⟩, ⟨r7 _ (by omega), fun i hi => absurd hi (by simp)⟩, ⟨r9, fun l hl => absurd hl (by simp), fun k hk => absurd hk (by simp)⟩, ⟨⟨r10, r11, r12, r13, r14, r15⟩, fun p hp => r17 p hp, fun f hf => ⟨(r18 f hf).1, by rw [(r18 f hf).2]; exact (show (0 : Int32) = nI 99 - 99 by decide)⟩, fun i hi => absurd hi (by simp), fun i hi => absurd hi (by simp), fun i hi => absurd hi (by simp), fun i hi => absurd hi (by simp)⟩⟩, ⟨⟨fun i hi => ⟨34 + 2 * i, x20 i hi, ?_⟩, fun i i' h1 h2 he => ?_⟩, 0, fun _ _ _ => 0, fun _ => 0, by omega, x19, r16, fun i j h1 h2 => by omega, fun i hi => by omega⟩⟩
  · unfold hj
    omega
  · rw [x20 i h1, x20 i' h2] at he
    have := Option.some.inj he
    omega
theorem INV_0 : INV SX0 SR0 := INV_of iniX_ok iniR_ok
