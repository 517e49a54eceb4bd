/-! The law's 36 calls, as a table: where, the class's method, its link, the link's place, the reference's, the arguments (place, is it a truth). -/
def lawT : List (Nat × Nat × Nat × Nat × Nat × Nat × Nat × List (Nat × Bool)) := [(192, 120, 13, 2185, 171, 17, 6178, [(1, false)]), (215, 121, 18, 2193, 178, 22, 6182, [(1, false), (2, false), (3, false), (4, false)]), (268, 122, 23, 2209, 179, 27, 6194, [(1, false), (2, false), (3, false)]), (311, 123, 28, 2218, 233, 31, 7110, [(1, false)]), (334, 124, 32, 3071, 234, 35, 7180, [(1, false)]), (357, 125, 36, 3088, 235, 40, 7196, [(1, false), (2, true)]), (406, 126, 41, 3101, 240, 44, 7208, [(1, false)]), (429, 127, 45, 3131, 181, 49, 6202, [(1, false), (2, false), (3, false), (4, false), (5, false)]), (492, 128, 50, 3144, 182, 54, 6210, [(1, false)]), (515, 129, 55, 3148, 215, 58, 6214, [(1, false)]), (538, 130, 59, 4157, 216, 62, 7106, [(1, false)]), (561, 131, 63, 4161, 241, 67, 7232, [(1, false), (2, false)]), (594, 132, 68, 4167, 242, 71, 7236, [(1, false)]), (617, 133, 72, 4175, 243, 75, 8004, [(1, false), (2, false)]), (650, 134, 76, 4187, 244, 79, 8008, [(1, false), (2, false)]), (683, 135, 80, 4192, 245, 83, 8012, [(1, false), (2, false)]), (716, 136, 84, 4203, 246, 87, 8032, [(1, false), (2, false)]), (749, 137, 88, 4209, 248, 91, 8036, [(1, false), (2, false)]), (782, 138, 92, 4228, 253, 95, 8044, [(1, false), (2, false)]), (815, 139, 96, 5020, 255, 99, 8068, [(1, false)]), (838, 140, 100, 5028, 256, 103, 8076, [(1, false)]), (861, 141, 104, 5036, 258, 107, 8080, [(1, false)]), (884, 142, 108, 5049, 259, 111, 8088, [(1, false), (2, false)]), (917, 143, 112, 5058, 260, 115, 8092, [(1, false), (2, false)]), (950, 144, 116, 5065, 264, 119, 8096, [(1, false), (2, false)]), (983, 145, 120, 5093, 266, 123, 8112, [(1, false)]), (1006, 146, 124, 5107, 269, 128, 8120, []), (1019, 147, 129, 5124, 271, 132, 8132, []), (1032, 148, 133, 5136, 273, 136, 8140, [(1, false), (2, false)]), (1065, 149, 137, 5149, 274, 141, 8148, [(1, false), (2, false), (3, true)]), (1124, 150, 142, 5156, 278, 145, 8152, [(1, false)]), (1147, 151, 146, 5175, 279, 149, 8169, [(1, false)]), (1170, 152, 150, 5184, 281, 153, 8173, [(1, false)]), (1193, 153, 154, 5205, 168, 158, 6174, []), (1206, 154, 159, 5213, 286, 163, 8181, [(1, true)]), (1245, 155, 164, 5223, 287, 167, 8201, [(1, false)])]
def rwT (j : Nat) : Nat × Nat × Nat × Nat × Nat × Nat × Nat × List (Nat × Bool) := lawT.getD j (0, 0, 0, 0, 0, 0, 0, [])
def rPc (j : Nat) : Nat := (rwT j).1
def rKX (j : Nat) : Nat := (rwT j).2.1
def rIX (j : Nat) : Nat := (rwT j).2.2.1
def rWX (j : Nat) : Nat := (rwT j).2.2.2.1
def rKR (j : Nat) : Nat := (rwT j).2.2.2.2.1
def rIR (j : Nat) : Nat := (rwT j).2.2.2.2.2.1
def rWR (j : Nat) : Nat := (rwT j).2.2.2.2.2.2.1
def rAs (j : Nat) : List (Nat × Bool) := (rwT j).2.2.2.2.2.2.2
def rDX (j : Nat) : Nat := if j = 9 then 121 else rkT (rKX j)
def rDR (j : Nat) : Nat := rkT (rKR j)
def lawOffs : Array Int := #[159, 182, 235, 278, 301, 324, 373, 396, 459, 482, 505, 528, 561, 584, 617, 650, 683, 716, 749, 782, 805, 828, 851, 884, 917, 950, 973, 986, 999, 1032, 1091, 1114, 1137, 1160, 1173, 1212]
def aLen (b : Bool) : Nat := if b then 13 else 5
/-- what an argument is: an int of the script, or whether it is not 0 -/
def vA (b : Bool) (v : Int32) : Int32 := if b then (if v = 0 then 0 else 1) else v
def ckArg (pc k : Nat) (bo : Bool) : Bool := decide (decode code pc = .ok (.aload_n 0, 1) ∧ decode code (pc + 1) = .ok (.iload_n 3, 1) ∧ decode code (pc + 2) = .ok (.iconst (k : Int), 1) ∧ decode code (pc + 3) = .ok (.iadd, 1) ∧ decode code (pc + 4) = .ok (.iaload, 1) ∧ Int32.ofInt (k : Int) = nI k ∧ k < 6) &&
  (!bo || decide (decode code (pc + 5) = .ok (.ifCond .eq 7, 3) ∧ decode code (pc + 8) = .ok (.iconst 1, 1) ∧ decode code (pc + 9) = .ok (.goto 4, 3) ∧ decode code (pc + 12) = .ok (.iconst 0, 1)))
def ckArgs (pc : Nat) : List (Nat × Bool) → Bool
  | [] => true
  | (k, bo) :: r => ckArg pc k bo && ckArgs (pc + aLen bo) r
def aEnd (pc : Nat) : List (Nat × Bool) → Nat
  | [] => pc
  | (_, bo) :: r => aEnd (pc + aLen bo) r
def ckCase (pc iX iR : Nat) (as : List (Nat × Bool)) : Bool := decide (decode code pc = .ok (.aload_n 1, 1)) && (ckArgs (pc + 1) as && (decide (decode code (aEnd (pc + 1) as) = .ok (.invokevirtual iX, 3)) && (decide (decode code (aEnd (pc + 1) as + 3) = .ok (.aload_n 2, 1)) && (ckArgs (aEnd (pc + 1) as + 4) as && (decide (decode code (aEnd (aEnd (pc + 1) as + 4) as) = .ok (.invokevirtual iR, 3)) && decide (decode code (aEnd (aEnd (pc + 1) as + 4) as + 3) = .ok (.if_icmp .eq ((1268 : Int) - ((aEnd (aEnd (pc + 1) as + 4) as + 3 : Nat) : Int)), 3)))))))
def ckM (k ci i w n : Nat) : Bool := decide ((IN k).2.2.2.2 = 0 ∧ (IN k).1.cls = cnm.getD ci "" ∧ n + 1 = (PT k).1 ∧ tbw w = some (.methodLink "CardDrawerLaw" i (IN k).1)) && ((IN k).2.2.2.1.isSome && !(PT k).2.2.2.isEmpty)
def ckRow (j : Nat) : Bool := ckCase (rPc j) (rIX j) (rIR j) (rAs j) && (ckM (rKX j) 11 (rIX j) (rWX j) (rAs j).length && (ckM (rKR j) 12 (rIR j) (rWR j) (rAs j).length && decide (rDX j ≤ 150 ∧ rDR j ≤ 150 ∧ lawOffs[j]? = some ((rPc j : Int) - 33))))
theorem ckR_0 : ckRow 0 = true := by decide +kernel
theorem ckR_1 : ckRow 1 = true := by decide +kernel
theorem ckR_2 : ckRow 2 = true := by decide +kernel
theorem ckR_3 : ckRow 3 = true := by decide +kernel
theorem ckR_4 : ckRow 4 = true := by decide +kernel
theorem ckR_5 : ckRow 5 = true := by decide +kernel
theorem ckR_6 : ckRow 6 = true := by decide +kernel
theorem ckR_7 : ckRow 7 = true := by decide +kernel
theorem ckR_8 : ckRow 8 = true := by decide +kernel
theorem ckR_9 : ckRow 9 = true := by decide +kernel
theorem ckR_10 : ckRow 10 = true := by decide +kernel
theorem ckR_11 : ckRow 11 = true := by decide +kernel
theorem ckR_12 : ckRow 12 = true := by decide +kernel
theorem ckR_13 : ckRow 13 = true := by decide +kernel
theorem ckR_14 : ckRow 14 = true := by decide +kernel
theorem ckR_15 : ckRow 15 = true := by decide +kernel
theorem ckR_16 : ckRow 16 = true := by decide +kernel
theorem ckR_17 : ckRow 17 = true := by decide +kernel
theorem ckR_18 : ckRow 18 = true := by decide +kernel
theorem ckR_19 : ckRow 19 = true := by decide +kernel
theorem ckR_20 : ckRow 20 = true := by decide +kernel
theorem ckR_21 : ckRow 21 = true := by decide +kernel
theorem ckR_22 : ckRow 22 = true := by decide +kernel
theorem ckR_23 : ckRow 23 = true := by decide +kernel
theorem ckR_24 : ckRow 24 = true := by decide +kernel
theorem ckR_25 : ckRow 25 = true := by decide +kernel
theorem ckR_26 : ckRow 26 = true := by decide +kernel
theorem ckR_27 : ckRow 27 = true := by decide +kernel
theorem ckR_28 : ckRow 28 = true := by decide +kernel
theorem ckR_29 : ckRow 29 = true := by decide +kernel
theorem ckR_30 : ckRow 30 = true := by decide +kernel
theorem ckR_31 : ckRow 31 = true := by decide +kernel
theorem ckR_32 : ckRow 32 = true := by decide +kernel
theorem ckR_33 : ckRow 33 = true := by decide +kernel
theorem ckR_34 : ckRow 34 = true := by decide +kernel
theorem ckR_35 : ckRow 35 = true := by decide +kernel
theorem rw_ok : ∀ j, j < 36 → ckRow j = true
  | 0, _ => ckR_0
  | 1, _ => ckR_1
  | 2, _ => ckR_2
  | 3, _ => ckR_3
  | 4, _ => ckR_4
  | 5, _ => ckR_5
  | 6, _ => ckR_6
  | 7, _ => ckR_7
  | 8, _ => ckR_8
  | 9, _ => ckR_9
  | 10, _ => ckR_10
  | 11, _ => ckR_11
  | 12, _ => ckR_12
  | 13, _ => ckR_13
  | 14, _ => ckR_14
  | 15, _ => ckR_15
  | 16, _ => ckR_16
  | 17, _ => ckR_17
  | 18, _ => ckR_18
  | 19, _ => ckR_19
  | 20, _ => ckR_20
  | 21, _ => ckR_21
  | 22, _ => ckR_22
  | 23, _ => ckR_23
  | 24, _ => ckR_24
  | 25, _ => ckR_25
  | 26, _ => ckR_26
  | 27, _ => ckR_27
  | 28, _ => ckR_28
  | 29, _ => ckR_29
  | 30, _ => ckR_30
  | 31, _ => ckR_31
  | 32, _ => ckR_32
  | 33, _ => ckR_33
  | 34, _ => ckR_34
  | 35, _ => ckR_35
  | j + 36, h => by omega
