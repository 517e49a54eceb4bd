def inis : List Nat := [0, 19, 33, 36, 48, 53, 67, 77, 94, 99, 111, 119, 160]
theorem PT_out {k : Nat} (h : 301 ≤ k) : (PT k).2.2.2 = [] := by
  have : PTL.length = 301 := by decide +kernel
  unfold PT
  rw [List.getD_eq_getElem?_getD, List.getElem?_eq_none (by omega)]
  rfl
theorem cks_0 {k : Nat} (h1 : 0 ≤ k) (h2 : k < 20) (hi : pIn k inis = false) : bL k (PT k).2.2.2 = true ∧ bM k = true := by
  have : k = 0 ∨ k = 1 ∨ k = 2 ∨ k = 3 ∨ k = 4 ∨ k = 5 ∨ k = 6 ∨ k = 7 ∨ k = 8 ∨ k = 9 ∨ k = 10 ∨ k = 11 ∨ k = 12 ∨ k = 13 ∨ k = 14 ∨ k = 15 ∨ k = 16 ∨ k = 17 ∨ k = 18 ∨ k = 19 := by omega
  rcases this with rfl | rfl | rfl | rfl | rfl | rfl | rfl | rfl | rfl | rfl | rfl | rfl | rfl | rfl | rfl | rfl | rfl | rfl | rfl | rfl
  · exact absurd hi (by decide)
  · exact ⟨bL_1, bM_1⟩
  · exact ⟨bL_2, bM_2⟩
  · exact ⟨bL_3, bM_3⟩
  · exact ⟨bL_4, bM_4⟩
  · exact ⟨bL_5, bM_5⟩
  · exact ⟨bL_6, bM_6⟩
  · exact ⟨bL_7, bM_7⟩
  · exact ⟨bL_8, bM_8⟩
  · exact ⟨bL_9, bM_9⟩
  · exact ⟨bL_10, bM_10⟩
  · exact ⟨bL_11, bM_11⟩
  · exact ⟨bL_12, bM_12⟩
  · exact ⟨bL_13, bM_13⟩
  · exact ⟨bL_14, bM_14⟩
  · exact ⟨bL_15, bM_15⟩
  · exact ⟨bL_16, bM_16⟩
  · exact ⟨bL_17, bM_17⟩
  · exact ⟨bL_18, bM_18⟩
  · exact absurd hi (by decide)
theorem cks_1 {k : Nat} (h1 : 20 ≤ k) (h2 : k < 40) (hi : pIn k inis = false) : bL k (PT k).2.2.2 = true ∧ bM k = true := by
  have : k = 20 ∨ k = 21 ∨ k = 22 ∨ k = 23 ∨ k = 24 ∨ k = 25 ∨ k = 26 ∨ k = 27 ∨ k = 28 ∨ k = 29 ∨ k = 30 ∨ k = 31 ∨ k = 32 ∨ k = 33 ∨ k = 34 ∨ k = 35 ∨ k = 36 ∨ k = 37 ∨ k = 38 ∨ k = 39 := by omega
  rcases this with rfl | rfl | rfl | rfl | rfl | rfl | rfl | rfl | rfl | rfl | rfl | rfl | rfl | rfl | rfl | rfl | rfl | rfl | rfl | rfl
  · exact ⟨bL_20, bM_20⟩
  · exact ⟨bL_21, bM_21⟩
  · exact ⟨bL_22, bM_22⟩
  · exact ⟨bL_23, bM_23⟩
  · exact ⟨bL_24, bM_24⟩
  · exact ⟨bL_25, bM_25⟩
  · exact ⟨bL_26, bM_26⟩
  · exact ⟨bL_27, bM_27⟩
  · exact ⟨bL_28, bM_28⟩
  · exact ⟨bL_29, bM_29⟩
  · exact ⟨bL_30, bM_30⟩
  · exact ⟨bL_31, bM_31⟩
  · exact ⟨bL_32, bM_32⟩
  · exact absurd hi (by decide)
  · exact ⟨bL_34, bM_34⟩
  · exact ⟨bL_35, bM_35⟩
  · exact absurd hi (by decide)
  · exact ⟨bL_37, bM_37⟩
  · exact ⟨bL_38, bM_38⟩
  · exact ⟨bL_39, bM_39⟩
theorem cks_2 {k : Nat} (h1 : 40 ≤ k) (h2 : k < 60) (hi : pIn k inis = false) : bL k (PT k).2.2.2 = true ∧ bM k = true := by
  have : k = 40 ∨ k = 41 ∨ k = 42 ∨ k = 43 ∨ k = 44 ∨ k = 45 ∨ k = 46 ∨ k = 47 ∨ k = 48 ∨ k = 49 ∨ k = 50 ∨ k = 51 ∨ k = 52 ∨ k = 53 ∨ k = 54 ∨ k = 55 ∨ k = 56 ∨ k = 57 ∨ k = 58 ∨ k = 59 := by omega
  rcases this with rfl | rfl | rfl | rfl | rfl | rfl | rfl | rfl | rfl | rfl | rfl | rfl | rfl | rfl | rfl | rfl | rfl | rfl | rfl | rfl
  · exact ⟨bL_40, bM_40⟩
  · exact ⟨bL_41, bM_41⟩
  · exact ⟨bL_42, bM_42⟩
  · exact ⟨bL_43, bM_43⟩
  · exact ⟨bL_44, bM_44⟩
  · exact ⟨bL_45, bM_45⟩
  · exact ⟨bL_46, bM_46⟩
  · exact ⟨bL_47, bM_47⟩
  · exact absurd hi (by decide)
  · exact ⟨bL_49, bM_49⟩
  · exact ⟨bL_50, bM_50⟩
  · exact ⟨bL_51, bM_51⟩
  · exact ⟨bL_52, bM_52⟩
  · exact absurd hi (by decide)
  · exact ⟨bL_54, bM_54⟩
  · exact ⟨bL_55, bM_55⟩
  · exact ⟨bL_56, bM_56⟩
  · exact ⟨bL_57, bM_57⟩
  · exact ⟨bL_58, bM_58⟩
  · exact ⟨bL_59, bM_59⟩
theorem cks_3 {k : Nat} (h1 : 60 ≤ k) (h2 : k < 80) (hi : pIn k inis = false) : bL k (PT k).2.2.2 = true ∧ bM k = true := by
  have : k = 60 ∨ k = 61 ∨ k = 62 ∨ k = 63 ∨ k = 64 ∨ k = 65 ∨ k = 66 ∨ k = 67 ∨ k = 68 ∨ k = 69 ∨ k = 70 ∨ k = 71 ∨ k = 72 ∨ k = 73 ∨ k = 74 ∨ k = 75 ∨ k = 76 ∨ k = 77 ∨ k = 78 ∨ k = 79 := by omega
  rcases this with rfl | rfl | rfl | rfl | rfl | rfl | rfl | rfl | rfl | rfl | rfl | rfl | rfl | rfl | rfl | rfl | rfl | rfl | rfl | rfl
  · exact ⟨bL_60, bM_60⟩
  · exact ⟨bL_61, bM_61⟩
  · exact ⟨bL_62, bM_62⟩
  · exact ⟨bL_63, bM_63⟩
  · exact ⟨bL_64, bM_64⟩
  · exact ⟨bL_65, bM_65⟩
  · exact ⟨bL_66, bM_66⟩
  · exact absurd hi (by decide)
  · exact ⟨bL_68, bM_68⟩
  · exact ⟨bL_69, bM_69⟩
  · exact ⟨bL_70, bM_70⟩
  · exact ⟨bL_71, bM_71⟩
  · exact ⟨bL_72, bM_72⟩
  · exact ⟨bL_73, bM_73⟩
  · exact ⟨bL_74, bM_74⟩
  · exact ⟨bL_75, bM_75⟩
  · exact ⟨bL_76, bM_76⟩
  · exact absurd hi (by decide)
  · exact ⟨bL_78, bM_78⟩
  · exact ⟨bL_79, bM_79⟩
theorem cks_4 {k : Nat} (h1 : 80 ≤ k) (h2 : k < 100) (hi : pIn k inis = false) : bL k (PT k).2.2.2 = true ∧ bM k = true := by
  have : k = 80 ∨ k = 81 ∨ k = 82 ∨ k = 83 ∨ k = 84 ∨ k = 85 ∨ k = 86 ∨ k = 87 ∨ k = 88 ∨ k = 89 ∨ k = 90 ∨ k = 91 ∨ k = 92 ∨ k = 93 ∨ k = 94 ∨ k = 95 ∨ k = 96 ∨ k = 97 ∨ k = 98 ∨ k = 99 := by omega
  rcases this with rfl | rfl | rfl | rfl | rfl | rfl | rfl | rfl | rfl | rfl | rfl | rfl | rfl | rfl | rfl | rfl | rfl | rfl | rfl | rfl
  · exact ⟨bL_80, bM_80⟩
  · exact ⟨bL_81, bM_81⟩
  · exact ⟨bL_82, bM_82⟩
  · exact ⟨bL_83, bM_83⟩
  · exact ⟨bL_84, bM_84⟩
  · exact ⟨bL_85, bM_85⟩
  · exact ⟨bL_86, bM_86⟩
  · exact ⟨bL_87, bM_87⟩
  · exact ⟨bL_88, bM_88⟩
  · exact ⟨bL_89, bM_89⟩
  · exact ⟨bL_90, bM_90⟩
  · exact ⟨bL_91, bM_91⟩
  · exact ⟨bL_92, bM_92⟩
  · exact ⟨bL_93, bM_93⟩
  · exact absurd hi (by decide)
  · exact ⟨bL_95, bM_95⟩
  · exact ⟨bL_96, bM_96⟩
  · exact ⟨bL_97, bM_97⟩
  · exact ⟨bL_98, bM_98⟩
  · exact absurd hi (by decide)
theorem cks_5 {k : Nat} (h1 : 100 ≤ k) (h2 : k < 120) (hi : pIn k inis = false) : bL k (PT k).2.2.2 = true ∧ bM k = true := by
  have : k = 100 ∨ k = 101 ∨ k = 102 ∨ k = 103 ∨ k = 104 ∨ k = 105 ∨ k = 106 ∨ k = 107 ∨ k = 108 ∨ k = 109 ∨ k = 110 ∨ k = 111 ∨ k = 112 ∨ k = 113 ∨ k = 114 ∨ k = 115 ∨ k = 116 ∨ k = 117 ∨ k = 118 ∨ k = 119 := by omega
  rcases this with rfl | rfl | rfl | rfl | rfl | rfl | rfl | rfl | rfl | rfl | rfl | rfl | rfl | rfl | rfl | rfl | rfl | rfl | rfl | rfl
  · exact ⟨bL_100, bM_100⟩
  · exact ⟨bL_101, bM_101⟩
  · exact ⟨bL_102, bM_102⟩
  · exact ⟨bL_103, bM_103⟩
  · exact ⟨bL_104, bM_104⟩
  · exact ⟨bL_105, bM_105⟩
  · exact ⟨bL_106, bM_106⟩
  · exact ⟨bL_107, bM_107⟩
  · exact ⟨bL_108, bM_108⟩
  · exact ⟨bL_109, bM_109⟩
  · exact ⟨bL_110, bM_110⟩
  · exact absurd hi (by decide)
  · exact ⟨bL_112, bM_112⟩
  · exact ⟨bL_113, bM_113⟩
  · exact ⟨bL_114, bM_114⟩
  · exact ⟨bL_115, bM_115⟩
  · exact ⟨bL_116, bM_116⟩
  · exact ⟨bL_117, bM_117⟩
  · exact ⟨bL_118, bM_118⟩
  · exact absurd hi (by decide)
theorem cks_6 {k : Nat} (h1 : 120 ≤ k) (h2 : k < 140) (hi : pIn k inis = false) : bL k (PT k).2.2.2 = true ∧ bM k = true := by
  have : k = 120 ∨ k = 121 ∨ k = 122 ∨ k = 123 ∨ k = 124 ∨ k = 125 ∨ k = 126 ∨ k = 127 ∨ k = 128 ∨ k = 129 ∨ k = 130 ∨ k = 131 ∨ k = 132 ∨ k = 133 ∨ k = 134 ∨ k = 135 ∨ k = 136 ∨ k = 137 ∨ k = 138 ∨ k = 139 := by omega
  rcases this with rfl | rfl | rfl | rfl | rfl | rfl | rfl | rfl | rfl | rfl | rfl | rfl | rfl | rfl | rfl | rfl | rfl | rfl | rfl | rfl
  · exact ⟨bL_120, bM_120⟩
  · exact ⟨bL_121, bM_121⟩
  · exact ⟨bL_122, bM_122⟩
  · exact ⟨bL_123, bM_123⟩
  · exact ⟨bL_124, bM_124⟩
  · exact ⟨bL_125, bM_125⟩
  · exact ⟨bL_126, bM_126⟩
  · exact ⟨bL_127, bM_127⟩
  · exact ⟨bL_128, bM_128⟩
  · exact ⟨bL_129, bM_129⟩
  · exact ⟨bL_130, bM_130⟩
  · exact ⟨bL_131, bM_131⟩
  · exact ⟨bL_132, bM_132⟩
  · exact ⟨bL_133, bM_133⟩
  · exact ⟨bL_134, bM_134⟩
  · exact ⟨bL_135, bM_135⟩
  · exact ⟨bL_136, bM_136⟩
  · exact ⟨bL_137, bM_137⟩
  · exact ⟨bL_138, bM_138⟩
  · exact ⟨bL_139, bM_139⟩
theorem cks_7 {k : Nat} (h1 : 140 ≤ k) (h2 : k < 160) (hi : pIn k inis = false) : bL k (PT k).2.2.2 = true ∧ bM k = true := by
  have : k = 140 ∨ k = 141 ∨ k = 142 ∨ k = 143 ∨ k = 144 ∨ k = 145 ∨ k = 146 ∨ k = 147 ∨ k = 148 ∨ k = 149 ∨ k = 150 ∨ k = 151 ∨ k = 152 ∨ k = 153 ∨ k = 154 ∨ k = 155 ∨ k = 156 ∨ k = 157 ∨ k = 158 ∨ k = 159 := by omega
  rcases this with rfl | rfl | rfl | rfl | rfl | rfl | rfl | rfl | rfl | rfl | rfl | rfl | rfl | rfl | rfl | rfl | rfl | rfl | rfl | rfl
  · exact ⟨bL_140, bM_140⟩
  · exact ⟨bL_141, bM_141⟩
  · exact ⟨bL_142, bM_142⟩
  · exact ⟨bL_143, bM_143⟩
  · exact ⟨bL_144, bM_144⟩
  · exact ⟨bL_145, bM_145⟩
  · exact ⟨bL_146, bM_146⟩
  · exact ⟨bL_147, bM_147⟩
  · exact ⟨bL_148, bM_148⟩
  · exact ⟨bL_149, bM_149⟩
  · exact ⟨bL_150, bM_150⟩
  · exact ⟨bL_151, bM_151⟩
  · exact ⟨bL_152, bM_152⟩
  · exact ⟨bL_153, bM_153⟩
  · exact ⟨bL_154, bM_154⟩
  · exact ⟨bL_155, bM_155⟩
  · exact ⟨bL_156, bM_156⟩
  · exact ⟨bL_157, bM_157⟩
  · exact ⟨bL_158, bM_158⟩
  · exact ⟨bL_159, bM_159⟩
theorem cks_8 {k : Nat} (h1 : 160 ≤ k) (h2 : k < 180) (hi : pIn k inis = false) : bL k (PT k).2.2.2 = true ∧ bM k = true := by
  have : k = 160 ∨ k = 161 ∨ k = 162 ∨ k = 163 ∨ k = 164 ∨ k = 165 ∨ k = 166 ∨ k = 167 ∨ k = 168 ∨ k = 169 ∨ k = 170 ∨ k = 171 ∨ k = 172 ∨ k = 173 ∨ k = 174 ∨ k = 175 ∨ k = 176 ∨ k = 177 ∨ k = 178 ∨ k = 179 := by omega
  rcases this with rfl | rfl | rfl | rfl | rfl | rfl | rfl | rfl | rfl | rfl | rfl | rfl | rfl | rfl | rfl | rfl | rfl | rfl | rfl | rfl
  · exact absurd hi (by decide)
  · exact ⟨bL_161, bM_161⟩
  · exact ⟨bL_162, bM_162⟩
  · exact ⟨bL_163, bM_163⟩
  · exact ⟨bL_164, bM_164⟩
  · exact ⟨bL_165, bM_165⟩
  · exact ⟨bL_166, bM_166⟩
  · exact ⟨bL_167, bM_167⟩
  · exact ⟨bL_168, bM_168⟩
  · exact ⟨bL_169, bM_169⟩
  · exact ⟨bL_170, bM_170⟩
  · exact ⟨bL_171, bM_171⟩
  · exact ⟨bL_172, bM_172⟩
  · exact ⟨bL_173, bM_173⟩
  · exact ⟨bL_174, bM_174⟩
  · exact ⟨bL_175, bM_175⟩
  · exact ⟨bL_176, bM_176⟩
  · exact ⟨bL_177, bM_177⟩
  · exact ⟨bL_178, bM_178⟩
  · exact ⟨bL_179, bM_179⟩
theorem cks_9 {k : Nat} (h1 : 180 ≤ k) (h2 : k < 200) (hi : pIn k inis = false) : bL k (PT k).2.2.2 = true ∧ bM k = true := by
  have : k = 180 ∨ k = 181 ∨ k = 182 ∨ k = 183 ∨ k = 184 ∨ k = 185 ∨ k = 186 ∨ k = 187 ∨ k = 188 ∨ k = 189 ∨ k = 190 ∨ k = 191 ∨ k = 192 ∨ k = 193 ∨ k = 194 ∨ k = 195 ∨ k = 196 ∨ k = 197 ∨ k = 198 ∨ k = 199 := by omega
  rcases this with rfl | rfl | rfl | rfl | rfl | rfl | rfl | rfl | rfl | rfl | rfl | rfl | rfl | rfl | rfl | rfl | rfl | rfl | rfl | rfl
  · exact ⟨bL_180, bM_180⟩
  · exact ⟨bL_181, bM_181⟩
  · exact ⟨bL_182, bM_182⟩
  · exact ⟨bL_183, bM_183⟩
  · exact ⟨bL_184, bM_184⟩
  · exact ⟨bL_185, bM_185⟩
  · exact ⟨bL_186, bM_186⟩
  · exact ⟨bL_187, bM_187⟩
  · exact ⟨bL_188, bM_188⟩
  · exact ⟨bL_189, bM_189⟩
  · exact ⟨bL_190, bM_190⟩
  · exact ⟨bL_191, bM_191⟩
  · exact ⟨bL_192, bM_192⟩
  · exact ⟨bL_193, bM_193⟩
  · exact ⟨bL_194, bM_194⟩
  · exact ⟨bL_195, bM_195⟩
  · exact ⟨bL_196, bM_196⟩
  · exact ⟨bL_197, bM_197⟩
  · exact ⟨bL_198, bM_198⟩
  · exact ⟨bL_199, bM_199⟩
theorem cks_10 {k : Nat} (h1 : 200 ≤ k) (h2 : k < 220) (hi : pIn k inis = false) : bL k (PT k).2.2.2 = true ∧ bM k = true := by
  have : k = 200 ∨ k = 201 ∨ k = 202 ∨ k = 203 ∨ k = 204 ∨ k = 205 ∨ k = 206 ∨ k = 207 ∨ k = 208 ∨ k = 209 ∨ k = 210 ∨ k = 211 ∨ k = 212 ∨ k = 213 ∨ k = 214 ∨ k = 215 ∨ k = 216 ∨ k = 217 ∨ k = 218 ∨ k = 219 := by omega
  rcases this with rfl | rfl | rfl | rfl | rfl | rfl | rfl | rfl | rfl | rfl | rfl | rfl | rfl | rfl | rfl | rfl | rfl | rfl | rfl | rfl
  · exact ⟨bL_200, bM_200⟩
  · exact ⟨bL_201, bM_201⟩
  · exact ⟨bL_202, bM_202⟩
  · exact ⟨bL_203, bM_203⟩
  · exact ⟨bL_204, bM_204⟩
  · exact ⟨bL_205, bM_205⟩
  · exact ⟨bL_206, bM_206⟩
  · exact ⟨bL_207, bM_207⟩
  · exact ⟨bL_208, bM_208⟩
  · exact ⟨bL_209, bM_209⟩
  · exact ⟨bL_210, bM_210⟩
  · exact ⟨bL_211, bM_211⟩
  · exact ⟨bL_212, bM_212⟩
  · exact ⟨bL_213, bM_213⟩
  · exact ⟨bL_214, bM_214⟩
  · exact ⟨bL_215, bM_215⟩
  · exact ⟨bL_216, bM_216⟩
  · exact ⟨bL_217, bM_217⟩
  · exact ⟨bL_218, bM_218⟩
  · exact ⟨bL_219, bM_219⟩
theorem cks_11 {k : Nat} (h1 : 220 ≤ k) (h2 : k < 240) (hi : pIn k inis = false) : bL k (PT k).2.2.2 = true ∧ bM k = true := by
  have : k = 220 ∨ k = 221 ∨ k = 222 ∨ k = 223 ∨ k = 224 ∨ k = 225 ∨ k = 226 ∨ k = 227 ∨ k = 228 ∨ k = 229 ∨ k = 230 ∨ k = 231 ∨ k = 232 ∨ k = 233 ∨ k = 234 ∨ k = 235 ∨ k = 236 ∨ k = 237 ∨ k = 238 ∨ k = 239 := by omega
  rcases this with rfl | rfl | rfl | rfl | rfl | rfl | rfl | rfl | rfl | rfl | rfl | rfl | rfl | rfl | rfl | rfl | rfl | rfl | rfl | rfl
  · exact ⟨bL_220, bM_220⟩
  · exact ⟨bL_221, bM_221⟩
  · exact ⟨bL_222, bM_222⟩
  · exact ⟨bL_223, bM_223⟩
  · exact ⟨bL_224, bM_224⟩
  · exact ⟨bL_225, bM_225⟩
  · exact ⟨bL_226, bM_226⟩
  · exact ⟨bL_227, bM_227⟩
  · exact ⟨bL_228, bM_228⟩
  · exact ⟨bL_229, bM_229⟩
  · exact ⟨bL_230, bM_230⟩
  · exact ⟨bL_231, bM_231⟩
  · exact ⟨bL_232, bM_232⟩
  · exact ⟨bL_233, bM_233⟩
  · exact ⟨bL_234, bM_234⟩
  · exact ⟨bL_235, bM_235⟩
  · exact ⟨bL_236, bM_236⟩
  · exact ⟨bL_237, bM_237⟩
  · exact ⟨bL_238, bM_238⟩
  · exact ⟨bL_239, bM_239⟩
theorem cks_12 {k : Nat} (h1 : 240 ≤ k) (h2 : k < 260) (hi : pIn k inis = false) : bL k (PT k).2.2.2 = true ∧ bM k = true := by
  have : k = 240 ∨ k = 241 ∨ k = 242 ∨ k = 243 ∨ k = 244 ∨ k = 245 ∨ k = 246 ∨ k = 247 ∨ k = 248 ∨ k = 249 ∨ k = 250 ∨ k = 251 ∨ k = 252 ∨ k = 253 ∨ k = 254 ∨ k = 255 ∨ k = 256 ∨ k = 257 ∨ k = 258 ∨ k = 259 := by omega
  rcases this with rfl | rfl | rfl | rfl | rfl | rfl | rfl | rfl | rfl | rfl | rfl | rfl | rfl | rfl | rfl | rfl | rfl | rfl | rfl | rfl
  · exact ⟨bL_240, bM_240⟩
  · exact ⟨bL_241, bM_241⟩
  · exact ⟨bL_242, bM_242⟩
  · exact ⟨bL_243, bM_243⟩
  · exact ⟨bL_244, bM_244⟩
  · exact ⟨bL_245, bM_245⟩
  · exact ⟨bL_246, bM_246⟩
  · exact ⟨bL_247, bM_247⟩
  · exact ⟨bL_248, bM_248⟩
  · exact ⟨bL_249, bM_249⟩
  · exact ⟨bL_250, bM_250⟩
  · exact ⟨bL_251, bM_251⟩
  · exact ⟨bL_252, bM_252⟩
  · exact ⟨bL_253, bM_253⟩
  · exact ⟨bL_254, bM_254⟩
  · exact ⟨bL_255, bM_255⟩
  · exact ⟨bL_256, bM_256⟩
  · exact ⟨bL_257, bM_257⟩
  · exact ⟨bL_258, bM_258⟩
  · exact ⟨bL_259, bM_259⟩
theorem cks_13 {k : Nat} (h1 : 260 ≤ k) (h2 : k < 280) (hi : pIn k inis = false) : bL k (PT k).2.2.2 = true ∧ bM k = true := by
  have : k = 260 ∨ k = 261 ∨ k = 262 ∨ k = 263 ∨ k = 264 ∨ k = 265 ∨ k = 266 ∨ k = 267 ∨ k = 268 ∨ k = 269 ∨ k = 270 ∨ k = 271 ∨ k = 272 ∨ k = 273 ∨ k = 274 ∨ k = 275 ∨ k = 276 ∨ k = 277 ∨ k = 278 ∨ k = 279 := by omega
  rcases this with rfl | rfl | rfl | rfl | rfl | rfl | rfl | rfl | rfl | rfl | rfl | rfl | rfl | rfl | rfl | rfl | rfl | rfl | rfl | rfl
  · exact ⟨bL_260, bM_260⟩
  · exact ⟨bL_261, bM_261⟩
  · exact ⟨bL_262, bM_262⟩
  · exact ⟨bL_263, bM_263⟩
  · exact ⟨bL_264, bM_264⟩
  · exact ⟨bL_265, bM_265⟩
  · exact ⟨bL_266, bM_266⟩
  · exact ⟨bL_267, bM_267⟩
  · exact ⟨bL_268, bM_268⟩
  · exact ⟨bL_269, bM_269⟩
  · exact ⟨bL_270, bM_270⟩
  · exact ⟨bL_271, bM_271⟩
  · exact ⟨bL_272, bM_272⟩
  · exact ⟨bL_273, bM_273⟩
  · exact ⟨bL_274, bM_274⟩
  · exact ⟨bL_275, bM_275⟩
  · exact ⟨bL_276, bM_276⟩
  · exact ⟨bL_277, bM_277⟩
  · exact ⟨bL_278, bM_278⟩
  · exact ⟨bL_279, bM_279⟩
theorem cks_14 {k : Nat} (h1 : 280 ≤ k) (h2 : k < 300) (hi : pIn k inis = false) : bL k (PT k).2.2.2 = true ∧ bM k = true := by
  have : k = 280 ∨ k = 281 ∨ k = 282 ∨ k = 283 ∨ k = 284 ∨ k = 285 ∨ k = 286 ∨ k = 287 ∨ k = 288 ∨ k = 289 ∨ k = 290 ∨ k = 291 ∨ k = 292 ∨ k = 293 ∨ k = 294 ∨ k = 295 ∨ k = 296 ∨ k = 297 ∨ k = 298 ∨ k = 299 := by omega
  rcases this with rfl | rfl | rfl | rfl | rfl | rfl | rfl | rfl | rfl | rfl | rfl | rfl | rfl | rfl | rfl | rfl | rfl | rfl | rfl | rfl
  · exact ⟨bL_280, bM_280⟩
  · exact ⟨bL_281, bM_281⟩
  · exact ⟨bL_282, bM_282⟩
  · exact ⟨bL_283, bM_283⟩
  · exact ⟨bL_284, bM_284⟩
  · exact ⟨bL_285, bM_285⟩
  · exact ⟨bL_286, bM_286⟩
  · exact ⟨bL_287, bM_287⟩
  · exact ⟨bL_288, bM_288⟩
  · exact ⟨bL_289, bM_289⟩
  · exact ⟨bL_290, bM_290⟩
  · exact ⟨bL_291, bM_291⟩
  · exact ⟨bL_292, bM_292⟩
  · exact ⟨bL_293, bM_293⟩
  · exact ⟨bL_294, bM_294⟩
  · exact ⟨bL_295, bM_295⟩
  · exact ⟨bL_296, bM_296⟩
  · exact ⟨bL_297, bM_297⟩
  · exact ⟨bL_298, bM_298⟩
  · exact ⟨bL_299, bM_299⟩
theorem cks_15 {k : Nat} (h1 : 300 ≤ k) (h2 : k < 301) (hi : pIn k inis = false) : bL k (PT k).2.2.2 = true ∧ bM k = true := by
  have : k = 300 := by omega
  rcases this with rfl
  · exact ⟨bL_300, bM_300⟩
theorem cks {k : Nat} (h2 : k < 301) (hi : pIn k inis = false) : bL k (PT k).2.2.2 = true ∧ bM k = true := by
  by_cases h0 : k < 20
  · exact cks_0 (by omega) h0 hi
  by_cases h1 : k < 40
  · exact cks_1 (by omega) h1 hi
  by_cases h2 : k < 60
  · exact cks_2 (by omega) h2 hi
  by_cases h3 : k < 80
  · exact cks_3 (by omega) h3 hi
  by_cases h4 : k < 100
  · exact cks_4 (by omega) h4 hi
  by_cases h5 : k < 120
  · exact cks_5 (by omega) h5 hi
  by_cases h6 : k < 140
  · exact cks_6 (by omega) h6 hi
  by_cases h7 : k < 160
  · exact cks_7 (by omega) h7 hi
  by_cases h8 : k < 180
  · exact cks_8 (by omega) h8 hi
  by_cases h9 : k < 200
  · exact cks_9 (by omega) h9 hi
  by_cases h10 : k < 220
  · exact cks_10 (by omega) h10 hi
  by_cases h11 : k < 240
  · exact cks_11 (by omega) h11 hi
  by_cases h12 : k < 260
  · exact cks_12 (by omega) h12 hi
  by_cases h13 : k < 280
  · exact cks_13 (by omega) h13 hi
  by_cases h14 : k < 300
  · exact cks_14 (by omega) h14 hi
  by_cases h15 : k < 301
  · exact cks_15 (by omega) h15 hi
  omega
/-- EVERY METHOD THAT IS NO CONSTRUCTOR -/
theorem hMok {tys : List (ClassId × FieldType)} {cD : ClassId} (ht : tys[1]? = some (cD, .object "CardDrawer$Drawer")) {k : Nat} (hk : k < 301) (hi : pIn k inis = false) : MOk PT IN GW cls tys cD k :=
  bM_ok (cks hk hi).2 (bL_ok ht (cks hk hi).1)
