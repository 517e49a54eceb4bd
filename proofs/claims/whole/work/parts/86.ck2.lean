/-! Each instruction of each method, checked (written by program). -/
theorem bL_55 : bL 55 cd55 = true := by decide +kernel
theorem bL_56 : bL 56 cd56 = true := by decide +kernel
theorem bL_57 : bL 57 cd57 = true := by decide +kernel
theorem bL_58 : bL 58 cd58 = true := by decide +kernel
theorem bL_59 : bL 59 cd59 = true := by decide +kernel
theorem bL_60 : bL 60 cd60 = true := by decide +kernel
theorem bL_61 : bL 61 cd61 = true := by decide +kernel
theorem bL_62 : bL 62 cd62 = true := by decide +kernel
theorem bL_63 : bL 63 cd63 = true := by decide +kernel
theorem bL_64 : bL 64 cd64 = true := by decide +kernel
theorem bL_65 : bL 65 cd65 = true := by decide +kernel
theorem bL_66 : bL 66 cd66 = true := by decide +kernel
theorem bL_68 : bL 68 cd68 = true := by decide +kernel
theorem bL_69 : bL 69 cd69 = true := by decide +kernel
theorem bL_70 : bL 70 cd70 = true := by decide +kernel
theorem bL_71 : bL 71 cd71 = true := by decide +kernel
theorem bL_72 : bL 72 cd72 = true := by decide +kernel
theorem bL_73 : bL 73 cd73 = true := by decide +kernel
theorem bL_74 : bL 74 cd74 = true := by decide +kernel
theorem bL_75 : bL 75 cd75 = true := by decide +kernel
theorem bL_76 : bL 76 cd76 = true := by decide +kernel
theorem bL_78 : bL 78 cd78 = true := by decide +kernel
theorem bL_79 : bL 79 cd79 = true := by decide +kernel
theorem bL_80 : bL 80 cd80 = true := by decide +kernel
theorem bL_81 : bL 81 cd81 = true := by decide +kernel
theorem bL_82 : bL 82 cd82 = true := by decide +kernel
theorem bL_83 : bL 83 cd83 = true := by decide +kernel
theorem bL_84 : bL 84 cd84 = true := by decide +kernel
theorem bL_85 : bL 85 cd85 = true := by decide +kernel
theorem bL_86 : bL 86 cd86 = true := by decide +kernel
theorem bL_87 : bL 87 cd87 = true := by decide +kernel
theorem bL_88 : bL 88 cd88 = true := by decide +kernel
theorem bL_89 : bL 89 cd89 = true := by decide +kernel
theorem bL_90 : bL 90 cd90 = true := by decide +kernel
theorem bL_91 : bL 91 cd91 = true := by decide +kernel
theorem bL_92 : bL 92 cd92 = true := by decide +kernel
theorem bL_93 : bL 93 cd93 = true := by decide +kernel
theorem bL_95 : bL 95 cd95 = true := by decide +kernel
theorem bL_96 : bL 96 cd96 = true := by decide +kernel
theorem bL_97 : bL 97 cd97 = true := by decide +kernel
theorem bM_55 : bM 55 = true := by decide +kernel
theorem bM_56 : bM 56 = true := by decide +kernel
theorem bM_57 : bM 57 = true := by decide +kernel
theorem bM_58 : bM 58 = true := by decide +kernel
theorem bM_59 : bM 59 = true := by decide +kernel
theorem bM_60 : bM 60 = true := by decide +kernel
theorem bM_61 : bM 61 = true := by decide +kernel
theorem bM_62 : bM 62 = true := by decide +kernel
theorem bM_63 : bM 63 = true := by decide +kernel
theorem bM_64 : bM 64 = true := by decide +kernel
theorem bM_65 : bM 65 = true := by decide +kernel
theorem bM_66 : bM 66 = true := by decide +kernel
theorem bM_68 : bM 68 = true := by decide +kernel
theorem bM_69 : bM 69 = true := by decide +kernel
theorem bM_70 : bM 70 = true := by decide +kernel
theorem bM_71 : bM 71 = true := by decide +kernel
theorem bM_72 : bM 72 = true := by decide +kernel
theorem bM_73 : bM 73 = true := by decide +kernel
theorem bM_74 : bM 74 = true := by decide +kernel
theorem bM_75 : bM 75 = true := by decide +kernel
theorem bM_76 : bM 76 = true := by decide +kernel
theorem bM_78 : bM 78 = true := by decide +kernel
theorem bM_79 : bM 79 = true := by decide +kernel
theorem bM_80 : bM 80 = true := by decide +kernel
theorem bM_81 : bM 81 = true := by decide +kernel
theorem bM_82 : bM 82 = true := by decide +kernel
theorem bM_83 : bM 83 = true := by decide +kernel
theorem bM_84 : bM 84 = true := by decide +kernel
theorem bM_85 : bM 85 = true := by decide +kernel
theorem bM_86 : bM 86 = true := by decide +kernel
theorem bM_87 : bM 87 = true := by decide +kernel
theorem bM_88 : bM 88 = true := by decide +kernel
theorem bM_89 : bM 89 = true := by decide +kernel
theorem bM_90 : bM 90 = true := by decide +kernel
theorem bM_91 : bM 91 = true := by decide +kernel
theorem bM_92 : bM 92 = true := by decide +kernel
theorem bM_93 : bM 93 = true := by decide +kernel
theorem bM_95 : bM 95 = true := by decide +kernel
theorem bM_96 : bM 96 = true := by decide +kernel
theorem bM_97 : bM 97 = true := by decide +kernel
