/-! The law's 36 calls, as a table: where, the class's method, its link, the link's place, the reference's, the arguments (place, is it a truth). -/
def lawT : List (Nat × Nat × Nat × Nat × Nat × Nat × Nat × List (Nat × Bool)) := [(192, 117, 13, 2191, 168, 17, 6167, [(1, false)]), (215, 118, 18, 2199, 175, 22, 6171, [(1, false), (2, false), (3, false), (4, false)]), (268, 119, 23, 2214, 176, 27, 6183, [(1, false), (2, false), (3, false)]), (311, 120, 28, 2223, 230, 31, 7099, [(1, false)]), (334, 121, 32, 3076, 231, 35, 7169, [(1, false)]), (357, 122, 36, 3093, 232, 40, 7185, [(1, false), (2, true)]), (406, 123, 41, 3106, 237, 44, 7197, [(1, false)]), (429, 124, 45, 3136, 178, 49, 6191, [(1, false), (2, false), (3, false), (4, false), (5, false)]), (492, 125, 50, 3148, 179, 54, 6199, [(1, false)]), (515, 126, 55, 3152, 212, 58, 6203, [(1, false)]), (538, 127, 59, 4161, 213, 62, 7095, [(1, false)]), (561, 128, 63, 4165, 238, 67, 7221, [(1, false), (2, false)]), (594, 129, 68, 4171, 239, 71, 7225, [(1, false)]), (617, 130, 72, 4175, 240, 75, 7233, [(1, false), (2, false)]), (650, 131, 76, 4179, 241, 79, 7237, [(1, false), (2, false)]), (683, 132, 80, 4184, 242, 83, 8001, [(1, false), (2, false)]), (716, 133, 84, 4195, 243, 87, 8021, [(1, false), (2, false)]), (749, 134, 88, 4201, 245, 91, 8025, [(1, false), (2, false)]), (782, 135, 92, 4218, 250, 95, 8033, [(1, false), (2, false)]), (815, 136, 96, 5009, 252, 99, 8057, [(1, false)]), (838, 137, 100, 5017, 253, 103, 8065, [(1, false)]), (861, 138, 104, 5025, 255, 107, 8069, [(1, false)]), (884, 139, 108, 5038, 256, 111, 8077, [(1, false), (2, false)]), (917, 140, 112, 5047, 257, 115, 8081, [(1, false), (2, false)]), (950, 141, 116, 5054, 261, 119, 8085, [(1, false), (2, false)]), (983, 142, 120, 5082, 263, 123, 8101, [(1, false)]), (1006, 143, 124, 5096, 266, 128, 8109, []), (1019, 144, 129, 5113, 268, 132, 8121, []), (1032, 145, 133, 5125, 270, 136, 8129, [(1, false), (2, false)]), (1065, 146, 137, 5138, 271, 141, 8137, [(1, false), (2, false), (3, true)]), (1124, 147, 142, 5145, 275, 145, 8141, [(1, false)]), (1147, 148, 146, 5164, 276, 149, 8158, [(1, false)]), (1170, 149, 150, 5173, 278, 153, 8162, [(1, false)]), (1193, 150, 154, 5194, 165, 158, 6163, []), (1206, 151, 159, 5202, 283, 163, 8170, [(1, true)]), (1245, 152, 164, 5212, 284, 167, 8190, [(1, false)])]
def rwT (j : Nat) : Nat × Nat × Nat × Nat × Nat × Nat × Nat × List (Nat × Bool) := lawT.getD j (0, 0, 0, 0, 0, 0, 0, [])
def rPc (j : Nat) : Nat := (rwT j).1
def rKX (j : Nat) : Nat := (rwT j).2.1
def rIX (j : Nat) : Nat := (rwT j).2.2.1
def rWX (j : Nat) : Nat := (rwT j).2.2.2.1
def rKR (j : Nat) : Nat := (rwT j).2.2.2.2.1
def rIR (j : Nat) : Nat := (rwT j).2.2.2.2.2.1
def rWR (j : Nat) : Nat := (rwT j).2.2.2.2.2.2.1
def rAs (j : Nat) : List (Nat × Bool) := (rwT j).2.2.2.2.2.2.2
def rDX (j : Nat) : Nat := if j = 9 then 121 else rkT (rKX j)
def rDR (j : Nat) : Nat := rkT (rKR j)
def lawOffs : Array Int := #[159, 182, 235, 278, 301, 324, 373, 396, 459, 482, 505, 528, 561, 584, 617, 650, 683, 716, 749, 782, 805, 828, 851, 884, 917, 950, 973, 986, 999, 1032, 1091, 1114, 1137, 1160, 1173, 1212]
def aLen (b : Bool) : Nat := if b then 13 else 5
/-- what an argument is: an int of the script, or whether it is not 0 -/
def vA (b : Bool) (v : Int32) : Int32 := if b then (if v = 0 then 0 else 1) else v
def ckArg (pc k : Nat) (bo : Bool) : Bool := decide (decode code pc = .ok (.aload_n 0, 1) ∧ decode code (pc + 1) = .ok (.iload_n 3, 1) ∧ decode code (pc + 2) = .ok (.iconst (k : Int), 1) ∧ decode code (pc + 3) = .ok (.iadd, 1) ∧ decode code (pc + 4) = .ok (.iaload, 1) ∧ Int32.ofInt (k : Int) = nI k ∧ k < 6) &&
  (!bo || decide (decode code (pc + 5) = .ok (.ifCond .eq 7, 3) ∧ decode code (pc + 8) = .ok (.iconst 1, 1) ∧ decode code (pc + 9) = .ok (.goto 4, 3) ∧ decode code (pc + 12) = .ok (.iconst 0, 1)))
def ckArgs (pc : Nat) : List (Nat × Bool) → Bool
  | [] => true
  | (k, bo) :: r => ckArg pc k bo && ckArgs (pc + aLen bo) r
def aEnd (pc : Nat) : List (Nat × Bool) → Nat
  | [] => pc
  | (_, bo) :: r => aEnd (pc + aLen bo) r
def ckCase (pc iX iR : Nat) (as : List (Nat × Bool)) : Bool := decide (decode code pc = .ok (.aload_n 1, 1)) && (ckArgs (pc + 1) as && (decide (decode code (aEnd (pc + 1) as) = .ok (.invokevirtual iX, 3)) && (decide (decode code (aEnd (pc + 1) as + 3) = .ok (.aload_n 2, 1)) && (ckArgs (aEnd (pc + 1) as + 4) as && (decide (decode code (aEnd (aEnd (pc + 1) as + 4) as) = .ok (.invokevirtual iR, 3)) && decide (decode code (aEnd (aEnd (pc + 1) as + 4) as + 3) = .ok (.if_icmp .eq ((1268 : Int) - ((aEnd (aEnd (pc + 1) as + 4) as + 3 : Nat) : Int)), 3)))))))
def ckM (k ci i w n : Nat) : Bool := decide ((IN k).2.2.2.2 = 0 ∧ (IN k).1.cls = cnm.getD ci "" ∧ n + 1 = (PT k).1 ∧ tbw w = some (.methodLink "CardDrawerLaw" i (IN k).1)) && ((IN k).2.2.2.1.isSome && !(PT k).2.2.2.isEmpty)
def ckRow (j : Nat) : Bool := ckCase (rPc j) (rIX j) (rIR j) (rAs j) && (ckM (rKX j) 11 (rIX j) (rWX j) (rAs j).length && (ckM (rKR j) 12 (rIR j) (rWR j) (rAs j).length && decide (rDX j ≤ 150 ∧ rDR j ≤ 150 ∧ lawOffs[j]? = some ((rPc j : Int) - 33))))
theorem ckR_0 : ckRow 0 = true := by decide +kernel
theorem ckR_1 : ckRow 1 = true := by decide +kernel
theorem ckR_2 : ckRow 2 = true := by decide +kernel
theorem ckR_3 : ckRow 3 = true := by decide +kernel
theorem ckR_4 : ckRow 4 = true := by decide +kernel
theorem ckR_5 : ckRow 5 = true := by decide +kernel
theorem ckR_6 : ckRow 6 = true := by decide +kernel
theorem ckR_7 : ckRow 7 = true := by decide +kernel
theorem ckR_8 : ckRow 8 = true := by decide +kernel
theorem ckR_9 : ckRow 9 = true := by decide +kernel
theorem ckR_10 : ckRow 10 = true := by decide +kernel
theorem ckR_11 : ckRow 11 = true := by decide +kernel
theorem ckR_12 : ckRow 12 = true := by decide +kernel
theorem ckR_13 : ckRow 13 = true := by decide +kernel
theorem ckR_14 : ckRow 14 = true := by decide +kernel
theorem ckR_15 : ckRow 15 = true := by decide +kernel
theorem ckR_16 : ckRow 16 = true := by decide +kernel
theorem ckR_17 : ckRow 17 = true := by decide +kernel
theorem ckR_18 : ckRow 18 = true := by decide +kernel
theorem ckR_19 : ckRow 19 = true := by decide +kernel
theorem ckR_20 : ckRow 20 = true := by decide +kernel
theorem ckR_21 : ckRow 21 = true := by decide +kernel
theorem ckR_22 : ckRow 22 = true := by decide +kernel
theorem ckR_23 : ckRow 23 = true := by decide +kernel
theorem ckR_24 : ckRow 24 = true := by decide +kernel
theorem ckR_25 : ckRow 25 = true := by decide +kernel
theorem ckR_26 : ckRow 26 = true := by decide +kernel
theorem ckR_27 : ckRow 27 = true := by decide +kernel
theorem ckR_28 : ckRow 28 = true := by decide +kernel
theorem ckR_29 : ckRow 29 = true := by decide +kernel
theorem ckR_30 : ckRow 30 = true := by decide +kernel
theorem ckR_31 : ckRow 31 = true := by decide +kernel
theorem ckR_32 : ckRow 32 = true := by decide +kernel
theorem ckR_33 : ckRow 33 = true := by decide +kernel
theorem ckR_34 : ckRow 34 = true := by decide +kernel
theorem ckR_35 : ckRow 35 = true := by decide +kernel
theorem rw_ok : ∀ j, j < 36 → ckRow j = true
  | 0, _ => ckR_0
  | 1, _ => ckR_1
  | 2, _ => ckR_2
  | 3, _ => ckR_3
  | 4, _ => ckR_4
  | 5, _ => ckR_5
  | 6, _ => ckR_6
  | 7, _ => ckR_7
  | 8, _ => ckR_8
  | 9, _ => ckR_9
  | 10, _ => ckR_10
  | 11, _ => ckR_11
  | 12, _ => ckR_12
  | 13, _ => ckR_13
  | 14, _ => ckR_14
  | 15, _ => ckR_15
  | 16, _ => ckR_16
  | 17, _ => ckR_17
  | 18, _ => ckR_18
  | 19, _ => ckR_19
  | 20, _ => ckR_20
  | 21, _ => ckR_21
  | 22, _ => ckR_22
  | 23, _ => ckR_23
  | 24, _ => ckR_24
  | 25, _ => ckR_25
  | 26, _ => ckR_26
  | 27, _ => ckR_27
  | 28, _ => ckR_28
  | 29, _ => ckR_29
  | 30, _ => ckR_30
  | 31, _ => ckR_31
  | 32, _ => ckR_32
  | 33, _ => ckR_33
  | 34, _ => ckR_34
  | 35, _ => ckR_35
  | j + 36, h => by omega
