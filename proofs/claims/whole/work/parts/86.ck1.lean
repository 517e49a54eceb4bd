/-! Each instruction of each method, checked (written by program). -/
theorem bL_1 : bL 1 cd1 = true := by decide +kernel
theorem bL_2 : bL 2 cd2 = true := by decide +kernel
theorem bL_3 : bL 3 cd3 = true := by decide +kernel
theorem bL_4 : bL 4 cd4 = true := by decide +kernel
theorem bL_5 : bL 5 cd5 = true := by decide +kernel
theorem bL_6 : bL 6 cd6 = true := by decide +kernel
theorem bL_7 : bL 7 cd7 = true := by decide +kernel
theorem bL_8 : bL 8 cd8 = true := by decide +kernel
theorem bL_9 : bL 9 cd9 = true := by decide +kernel
theorem bL_10 : bL 10 cd10 = true := by decide +kernel
theorem bL_11 : bL 11 cd11 = true := by decide +kernel
theorem bL_12 : bL 12 cd12 = true := by decide +kernel
theorem bL_13 : bL 13 cd13 = true := by decide +kernel
theorem bL_14 : bL 14 cd14 = true := by decide +kernel
theorem bL_15 : bL 15 cd15 = true := by decide +kernel
theorem bL_16 : bL 16 cd16 = true := by decide +kernel
theorem bL_17 : bL 17 cd17 = true := by decide +kernel
theorem bL_18 : bL 18 cd18 = true := by decide +kernel
theorem bL_20 : bL 20 cd20 = true := by decide +kernel
theorem bL_21 : bL 21 cd21 = true := by decide +kernel
theorem bL_22 : bL 22 cd22 = true := by decide +kernel
theorem bL_23 : bL 23 cd23 = true := by decide +kernel
theorem bL_24 : bL 24 cd24 = true := by decide +kernel
theorem bL_25 : bL 25 cd25 = true := by decide +kernel
theorem bL_26 : bL 26 cd26 = true := by decide +kernel
theorem bL_27 : bL 27 cd27 = true := by decide +kernel
theorem bL_28 : bL 28 cd28 = true := by decide +kernel
theorem bL_29 : bL 29 cd29 = true := by decide +kernel
theorem bL_30 : bL 30 cd30 = true := by decide +kernel
theorem bL_31 : bL 31 cd31 = true := by decide +kernel
theorem bL_32 : bL 32 cd32 = true := by decide +kernel
theorem bL_34 : bL 34 cd34 = true := by decide +kernel
theorem bL_35 : bL 35 cd35 = true := by decide +kernel
theorem bL_37 : bL 37 cd37 = true := by decide +kernel
theorem bL_38 : bL 38 cd38 = true := by decide +kernel
theorem bL_39 : bL 39 cd39 = true := by decide +kernel
theorem bL_40 : bL 40 cd40 = true := by decide +kernel
theorem bL_41 : bL 41 cd41 = true := by decide +kernel
theorem bL_42 : bL 42 cd42 = true := by decide +kernel
theorem bL_43 : bL 43 cd43 = true := by decide +kernel
theorem bL_44 : bL 44 cd44 = true := by decide +kernel
theorem bL_45 : bL 45 cd45 = true := by decide +kernel
theorem bL_46 : bL 46 cd46 = true := by decide +kernel
theorem bL_47 : bL 47 cd47 = true := by decide +kernel
theorem bL_49 : bL 49 cd49 = true := by decide +kernel
theorem bL_50 : bL 50 cd50 = true := by decide +kernel
theorem bL_51 : bL 51 cd51 = true := by decide +kernel
theorem bL_52 : bL 52 cd52 = true := by decide +kernel
theorem bL_54 : bL 54 cd54 = true := by decide +kernel
theorem bM_1 : bM 1 = true := by decide +kernel
theorem bM_2 : bM 2 = true := by decide +kernel
theorem bM_3 : bM 3 = true := by decide +kernel
theorem bM_4 : bM 4 = true := by decide +kernel
theorem bM_5 : bM 5 = true := by decide +kernel
theorem bM_6 : bM 6 = true := by decide +kernel
theorem bM_7 : bM 7 = true := by decide +kernel
theorem bM_8 : bM 8 = true := by decide +kernel
theorem bM_9 : bM 9 = true := by decide +kernel
theorem bM_10 : bM 10 = true := by decide +kernel
theorem bM_11 : bM 11 = true := by decide +kernel
theorem bM_12 : bM 12 = true := by decide +kernel
theorem bM_13 : bM 13 = true := by decide +kernel
theorem bM_14 : bM 14 = true := by decide +kernel
theorem bM_15 : bM 15 = true := by decide +kernel
theorem bM_16 : bM 16 = true := by decide +kernel
theorem bM_17 : bM 17 = true := by decide +kernel
theorem bM_18 : bM 18 = true := by decide +kernel
theorem bM_20 : bM 20 = true := by decide +kernel
theorem bM_21 : bM 21 = true := by decide +kernel
theorem bM_22 : bM 22 = true := by decide +kernel
theorem bM_23 : bM 23 = true := by decide +kernel
theorem bM_24 : bM 24 = true := by decide +kernel
theorem bM_25 : bM 25 = true := by decide +kernel
theorem bM_26 : bM 26 = true := by decide +kernel
theorem bM_27 : bM 27 = true := by decide +kernel
theorem bM_28 : bM 28 = true := by decide +kernel
theorem bM_29 : bM 29 = true := by decide +kernel
theorem bM_30 : bM 30 = true := by decide +kernel
theorem bM_31 : bM 31 = true := by decide +kernel
theorem bM_32 : bM 32 = true := by decide +kernel
theorem bM_34 : bM 34 = true := by decide +kernel
theorem bM_35 : bM 35 = true := by decide +kernel
theorem bM_37 : bM 37 = true := by decide +kernel
theorem bM_38 : bM 38 = true := by decide +kernel
theorem bM_39 : bM 39 = true := by decide +kernel
theorem bM_40 : bM 40 = true := by decide +kernel
theorem bM_41 : bM 41 = true := by decide +kernel
theorem bM_42 : bM 42 = true := by decide +kernel
theorem bM_43 : bM 43 = true := by decide +kernel
theorem bM_44 : bM 44 = true := by decide +kernel
theorem bM_45 : bM 45 = true := by decide +kernel
theorem bM_46 : bM 46 = true := by decide +kernel
theorem bM_47 : bM 47 = true := by decide +kernel
theorem bM_49 : bM 49 = true := by decide +kernel
theorem bM_50 : bM 50 = true := by decide +kernel
theorem bM_51 : bM 51 = true := by decide +kernel
theorem bM_52 : bM 52 = true := by decide +kernel
theorem bM_54 : bM 54 = true := by decide +kernel
