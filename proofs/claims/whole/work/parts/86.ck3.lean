/-! Each instruction of each method, checked (written by program). -/
theorem bL_98 : bL 98 cd98 = true := by decide +kernel
theorem bL_100 : bL 100 cd100 = true := by decide +kernel
theorem bL_101 : bL 101 cd101 = true := by decide +kernel
theorem bL_102 : bL 102 cd102 = true := by decide +kernel
theorem bL_103 : bL 103 cd103 = true := by decide +kernel
theorem bL_104 : bL 104 cd104 = true := by decide +kernel
theorem bL_105 : bL 105 cd105 = true := by decide +kernel
theorem bL_106 : bL 106 cd106 = true := by decide +kernel
theorem bL_107 : bL 107 cd107 = true := by decide +kernel
theorem bL_108 : bL 108 cd108 = true := by decide +kernel
theorem bL_109 : bL 109 cd109 = true := by decide +kernel
theorem bL_110 : bL 110 cd110 = true := by decide +kernel
theorem bL_112 : bL 112 cd112 = true := by decide +kernel
theorem bL_113 : bL 113 cd113 = true := by decide +kernel
theorem bL_114 : bL 114 cd114 = true := by decide +kernel
theorem bL_115 : bL 115 cd115 = true := by decide +kernel
theorem bL_116 : bL 116 cd116 = true := by decide +kernel
theorem bL_117 : bL 117 cd117 = true := by decide +kernel
theorem bL_118 : bL 118 cd118 = true := by decide +kernel
theorem bL_120 : bL 120 cd120 = true := by decide +kernel
theorem bL_121 : bL 121 cd121 = true := by decide +kernel
theorem bL_122 : bL 122 cd122 = true := by decide +kernel
theorem bL_123 : bL 123 cd123 = true := by decide +kernel
theorem bL_124 : bL 124 cd124 = true := by decide +kernel
theorem bL_125 : bL 125 cd125 = true := by decide +kernel
theorem bL_126 : bL 126 cd126 = true := by decide +kernel
theorem bL_127 : bL 127 cd127 = true := by decide +kernel
theorem bL_128 : bL 128 cd128 = true := by decide +kernel
theorem bL_129 : bL 129 cd129 = true := by decide +kernel
theorem bL_130 : bL 130 cd130 = true := by decide +kernel
theorem bL_131 : bL 131 cd131 = true := by decide +kernel
theorem bL_132 : bL 132 cd132 = true := by decide +kernel
theorem bL_133 : bL 133 cd133 = true := by decide +kernel
theorem bL_134 : bL 134 cd134 = true := by decide +kernel
theorem bL_135 : bL 135 cd135 = true := by decide +kernel
theorem bL_136 : bL 136 cd136 = true := by decide +kernel
theorem bL_137 : bL 137 cd137 = true := by decide +kernel
theorem bL_138 : bL 138 cd138 = true := by decide +kernel
theorem bL_139 : bL 139 cd139 = true := by decide +kernel
theorem bL_140 : bL 140 cd140 = true := by decide +kernel
theorem bL_141 : bL 141 cd141 = true := by decide +kernel
theorem bL_142 : bL 142 cd142 = true := by decide +kernel
theorem bL_143 : bL 143 cd143 = true := by decide +kernel
theorem bL_144 : bL 144 cd144 = true := by decide +kernel
theorem bL_145 : bL 145 cd145 = true := by decide +kernel
theorem bL_146 : bL 146 cd146 = true := by decide +kernel
theorem bL_147 : bL 147 cd147 = true := by decide +kernel
theorem bL_148 : bL 148 cd148 = true := by decide +kernel
theorem bL_149 : bL 149 cd149 = true := by decide +kernel
theorem bL_150 : bL 150 cd150 = true := by decide +kernel
theorem bL_151 : bL 151 cd151 = true := by decide +kernel
theorem bL_152 : bL 152 cd152 = true := by decide +kernel
theorem bL_153 : bL 153 cd153 = true := by decide +kernel
theorem bL_154 : bL 154 cd154 = true := by decide +kernel
theorem bL_155 : bL 155 cd155 = true := by decide +kernel
theorem bL_156 : bL 156 cd156 = true := by decide +kernel
theorem bL_157 : bL 157 cd157 = true := by decide +kernel
theorem bL_158 : bL 158 cd158 = true := by decide +kernel
theorem bL_159 : bL 159 cd159 = true := by decide +kernel
theorem bL_161 : bL 161 cd161 = true := by decide +kernel
theorem bL_162 : bL 162 cd162 = true := by decide +kernel
theorem bL_163 : bL 163 cd163 = true := by decide +kernel
theorem bL_164 : bL 164 cd164 = true := by decide +kernel
theorem bL_165 : bL 165 cd165 = true := by decide +kernel
theorem bL_166 : bL 166 cd166 = true := by decide +kernel
theorem bM_98 : bM 98 = true := by decide +kernel
theorem bM_100 : bM 100 = true := by decide +kernel
theorem bM_101 : bM 101 = true := by decide +kernel
theorem bM_102 : bM 102 = true := by decide +kernel
theorem bM_103 : bM 103 = true := by decide +kernel
theorem bM_104 : bM 104 = true := by decide +kernel
theorem bM_105 : bM 105 = true := by decide +kernel
theorem bM_106 : bM 106 = true := by decide +kernel
theorem bM_107 : bM 107 = true := by decide +kernel
theorem bM_108 : bM 108 = true := by decide +kernel
theorem bM_109 : bM 109 = true := by decide +kernel
theorem bM_110 : bM 110 = true := by decide +kernel
theorem bM_112 : bM 112 = true := by decide +kernel
theorem bM_113 : bM 113 = true := by decide +kernel
theorem bM_114 : bM 114 = true := by decide +kernel
theorem bM_115 : bM 115 = true := by decide +kernel
theorem bM_116 : bM 116 = true := by decide +kernel
theorem bM_117 : bM 117 = true := by decide +kernel
theorem bM_118 : bM 118 = true := by decide +kernel
theorem bM_120 : bM 120 = true := by decide +kernel
theorem bM_121 : bM 121 = true := by decide +kernel
theorem bM_122 : bM 122 = true := by decide +kernel
theorem bM_123 : bM 123 = true := by decide +kernel
theorem bM_124 : bM 124 = true := by decide +kernel
theorem bM_125 : bM 125 = true := by decide +kernel
theorem bM_126 : bM 126 = true := by decide +kernel
theorem bM_127 : bM 127 = true := by decide +kernel
theorem bM_128 : bM 128 = true := by decide +kernel
theorem bM_129 : bM 129 = true := by decide +kernel
theorem bM_130 : bM 130 = true := by decide +kernel
theorem bM_131 : bM 131 = true := by decide +kernel
theorem bM_132 : bM 132 = true := by decide +kernel
theorem bM_133 : bM 133 = true := by decide +kernel
theorem bM_134 : bM 134 = true := by decide +kernel
theorem bM_135 : bM 135 = true := by decide +kernel
theorem bM_136 : bM 136 = true := by decide +kernel
theorem bM_137 : bM 137 = true := by decide +kernel
theorem bM_138 : bM 138 = true := by decide +kernel
theorem bM_139 : bM 139 = true := by decide +kernel
theorem bM_140 : bM 140 = true := by decide +kernel
theorem bM_141 : bM 141 = true := by decide +kernel
theorem bM_142 : bM 142 = true := by decide +kernel
theorem bM_143 : bM 143 = true := by decide +kernel
theorem bM_144 : bM 144 = true := by decide +kernel
theorem bM_145 : bM 145 = true := by decide +kernel
theorem bM_146 : bM 146 = true := by decide +kernel
theorem bM_147 : bM 147 = true := by decide +kernel
theorem bM_148 : bM 148 = true := by decide +kernel
theorem bM_149 : bM 149 = true := by decide +kernel
theorem bM_150 : bM 150 = true := by decide +kernel
theorem bM_151 : bM 151 = true := by decide +kernel
theorem bM_152 : bM 152 = true := by decide +kernel
theorem bM_153 : bM 153 = true := by decide +kernel
theorem bM_154 : bM 154 = true := by decide +kernel
theorem bM_155 : bM 155 = true := by decide +kernel
theorem bM_156 : bM 156 = true := by decide +kernel
theorem bM_157 : bM 157 = true := by decide +kernel
theorem bM_158 : bM 158 = true := by decide +kernel
theorem bM_159 : bM 159 = true := by decide +kernel
theorem bM_161 : bM 161 = true := by decide +kernel
theorem bM_162 : bM 162 = true := by decide +kernel
theorem bM_163 : bM 163 = true := by decide +kernel
theorem bM_164 : bM 164 = true := by decide +kernel
theorem bM_165 : bM 165 = true := by decide +kernel
theorem bM_166 : bM 166 = true := by decide +kernel
