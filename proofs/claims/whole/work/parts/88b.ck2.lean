/-! The tables hold: decided by the kernel. -/
set_option maxRecDepth 100000 in
theorem ck_107 : (chkM 107 && chkR 107 && (List.range (cln 107)).all (fun pc => chkP 107 pc)) = true := by decide +kernel
set_option maxRecDepth 100000 in
theorem ck_108 : (chkM 108 && chkR 108 && (List.range (cln 108)).all (fun pc => chkP 108 pc)) = true := by decide +kernel
set_option maxRecDepth 100000 in
theorem ck_109 : (chkM 109 && chkR 109 && (List.range (cln 109)).all (fun pc => chkP 109 pc)) = true := by decide +kernel
set_option maxRecDepth 100000 in
theorem ck_110 : (chkM 110 && chkR 110 && (List.range (cln 110)).all (fun pc => chkP 110 pc)) = true := by decide +kernel
set_option maxRecDepth 100000 in
theorem ck_111 : (chkM 111 && chkR 111 && (List.range (cln 111)).all (fun pc => chkP 111 pc)) = true := by decide +kernel
set_option maxRecDepth 100000 in
theorem ck_112 : (chkM 112 && chkR 112 && (List.range (cln 112)).all (fun pc => chkP 112 pc)) = true := by decide +kernel
set_option maxRecDepth 100000 in
theorem ck_113 : (chkM 113 && chkR 113 && (List.range (cln 113)).all (fun pc => chkP 113 pc)) = true := by decide +kernel
set_option maxRecDepth 100000 in
theorem ck_114 : (chkM 114 && chkR 114 && (List.range (cln 114)).all (fun pc => chkP 114 pc)) = true := by decide +kernel
set_option maxRecDepth 100000 in
theorem ck_115 : (chkM 115 && chkR 115 && (List.range (cln 115)).all (fun pc => chkP 115 pc)) = true := by decide +kernel
set_option maxRecDepth 100000 in
theorem ck_116 : (chkM 116 && chkR 116 && (List.range (cln 116)).all (fun pc => chkP 116 pc)) = true := by decide +kernel
set_option maxRecDepth 100000 in
theorem ck_117 : (chkM 117 && chkR 117 && (List.range (cln 117)).all (fun pc => chkP 117 pc)) = true := by decide +kernel
set_option maxRecDepth 100000 in
theorem ck_118 : (chkM 118 && chkR 118 && (List.range (cln 118)).all (fun pc => chkP 118 pc)) = true := by decide +kernel
set_option maxRecDepth 100000 in
theorem ck_119 : (chkM 119 && chkR 119 && (List.range (cln 119)).all (fun pc => chkP 119 pc)) = true := by decide +kernel
set_option maxRecDepth 100000 in
theorem ck_120 : (chkM 120 && chkR 120 && (List.range (cln 120)).all (fun pc => chkP 120 pc)) = true := by decide +kernel
set_option maxRecDepth 100000 in
theorem ck_121 : (chkM 121 && chkR 121 && (List.range (cln 121)).all (fun pc => chkP 121 pc)) = true := by decide +kernel
set_option maxRecDepth 100000 in
theorem ck_122 : (chkM 122 && chkR 122 && (List.range (cln 122)).all (fun pc => chkP 122 pc)) = true := by decide +kernel
set_option maxRecDepth 100000 in
theorem ck_123 : (chkM 123 && chkR 123 && (List.range (cln 123)).all (fun pc => chkP 123 pc)) = true := by decide +kernel
set_option maxRecDepth 100000 in
theorem ck_124 : (chkM 124 && chkR 124 && (List.range (cln 124)).all (fun pc => chkP 124 pc)) = true := by decide +kernel
set_option maxRecDepth 100000 in
theorem ck_125 : (chkM 125 && chkR 125 && (List.range (cln 125)).all (fun pc => chkP 125 pc)) = true := by decide +kernel
set_option maxRecDepth 100000 in
theorem ck_126 : (chkM 126 && chkR 126 && (List.range (cln 126)).all (fun pc => chkP 126 pc)) = true := by decide +kernel
set_option maxRecDepth 100000 in
theorem ck_127 : (chkM 127 && chkR 127 && (List.range (cln 127)).all (fun pc => chkP 127 pc)) = true := by decide +kernel
set_option maxRecDepth 100000 in
theorem ck_128 : (chkM 128 && chkR 128 && (List.range (cln 128)).all (fun pc => chkP 128 pc)) = true := by decide +kernel
set_option maxRecDepth 100000 in
theorem ck_129 : (chkM 129 && chkR 129 && (List.range (cln 129)).all (fun pc => chkP 129 pc)) = true := by decide +kernel
set_option maxRecDepth 100000 in
theorem ck_130 : (chkM 130 && chkR 130 && (List.range (cln 130)).all (fun pc => chkP 130 pc)) = true := by decide +kernel
set_option maxRecDepth 100000 in
theorem ck_131 : (chkM 131 && chkR 131 && (List.range (cln 131)).all (fun pc => chkP 131 pc)) = true := by decide +kernel
set_option maxRecDepth 100000 in
theorem ck_132 : (chkM 132 && chkR 132 && (List.range (cln 132)).all (fun pc => chkP 132 pc)) = true := by decide +kernel
set_option maxRecDepth 100000 in
theorem ck_133 : (chkM 133 && chkR 133 && (List.range (cln 133)).all (fun pc => chkP 133 pc)) = true := by decide +kernel
set_option maxRecDepth 100000 in
theorem ck_134 : (chkM 134 && chkR 134 && (List.range (cln 134)).all (fun pc => chkP 134 pc)) = true := by decide +kernel
set_option maxRecDepth 100000 in
theorem ck_135 : (chkM 135 && chkR 135 && (List.range (cln 135)).all (fun pc => chkP 135 pc)) = true := by decide +kernel
set_option maxRecDepth 100000 in
theorem ck_136 : (chkM 136 && chkR 136 && (List.range (cln 136)).all (fun pc => chkP 136 pc)) = true := by decide +kernel
set_option maxRecDepth 100000 in
theorem ck_137 : (chkM 137 && chkR 137 && (List.range (cln 137)).all (fun pc => chkP 137 pc)) = true := by decide +kernel
set_option maxRecDepth 100000 in
theorem ck_138 : (chkM 138 && chkR 138 && (List.range (cln 138)).all (fun pc => chkP 138 pc)) = true := by decide +kernel
set_option maxRecDepth 100000 in
theorem ck_139 : (chkM 139 && chkR 139 && (List.range (cln 139)).all (fun pc => chkP 139 pc)) = true := by decide +kernel
set_option maxRecDepth 100000 in
theorem ck_140 : (chkM 140 && chkR 140 && (List.range (cln 140)).all (fun pc => chkP 140 pc)) = true := by decide +kernel
set_option maxRecDepth 100000 in
theorem ck_141 : (chkM 141 && chkR 141 && (List.range (cln 141)).all (fun pc => chkP 141 pc)) = true := by decide +kernel
set_option maxRecDepth 100000 in
theorem ck_142 : (chkM 142 && chkR 142 && (List.range (cln 142)).all (fun pc => chkP 142 pc)) = true := by decide +kernel
set_option maxRecDepth 100000 in
theorem ck_143 : (chkM 143 && chkR 143 && (List.range (cln 143)).all (fun pc => chkP 143 pc)) = true := by decide +kernel
set_option maxRecDepth 100000 in
theorem ck_144 : (chkM 144 && chkR 144 && (List.range (cln 144)).all (fun pc => chkP 144 pc)) = true := by decide +kernel
set_option maxRecDepth 100000 in
theorem ck_145 : (chkM 145 && chkR 145 && (List.range (cln 145)).all (fun pc => chkP 145 pc)) = true := by decide +kernel
set_option maxRecDepth 100000 in
theorem ck_146 : (chkM 146 && chkR 146 && (List.range (cln 146)).all (fun pc => chkP 146 pc)) = true := by decide +kernel
set_option maxRecDepth 100000 in
theorem ck_147 : (chkM 147 && chkR 147 && (List.range (cln 147)).all (fun pc => chkP 147 pc)) = true := by decide +kernel
set_option maxRecDepth 100000 in
theorem ck_148 : (chkM 148 && chkR 148 && (List.range (cln 148)).all (fun pc => chkP 148 pc)) = true := by decide +kernel
set_option maxRecDepth 100000 in
theorem ck_149 : (chkM 149 && chkR 149 && (List.range (cln 149)).all (fun pc => chkP 149 pc)) = true := by decide +kernel
set_option maxRecDepth 100000 in
theorem ck_150 : (chkM 150 && chkR 150 && (List.range (cln 150)).all (fun pc => chkP 150 pc)) = true := by decide +kernel
set_option maxRecDepth 100000 in
theorem ck_151 : (chkM 151 && chkR 151 && (List.range (cln 151)).all (fun pc => chkP 151 pc)) = true := by decide +kernel
set_option maxRecDepth 100000 in
theorem ck_152 : (chkM 152 && chkR 152 && (List.range (cln 152)).all (fun pc => chkP 152 pc)) = true := by decide +kernel
set_option maxRecDepth 100000 in
theorem ck_153 : (chkM 153 && chkR 153 && (List.range (cln 153)).all (fun pc => chkP 153 pc)) = true := by decide +kernel
set_option maxRecDepth 100000 in
theorem ck_154 : (chkM 154 && chkR 154 && (List.range (cln 154)).all (fun pc => chkP 154 pc)) = true := by decide +kernel
set_option maxRecDepth 100000 in
theorem ck_155 : (chkM 155 && chkR 155 && (List.range (cln 155)).all (fun pc => chkP 155 pc)) = true := by decide +kernel
set_option maxRecDepth 100000 in
theorem ck_156 : (chkM 156 && chkR 156 && (List.range (cln 156)).all (fun pc => chkP 156 pc)) = true := by decide +kernel
set_option maxRecDepth 100000 in
theorem ck_157 : (chkM 157 && chkR 157 && (List.range (cln 157)).all (fun pc => chkP 157 pc)) = true := by decide +kernel
set_option maxRecDepth 100000 in
theorem ck_158 : (chkM 158 && chkR 158 && (List.range (cln 158)).all (fun pc => chkP 158 pc)) = true := by decide +kernel
set_option maxRecDepth 100000 in
theorem ck_159 : (chkM 159 && chkR 159 && (List.range (cln 159)).all (fun pc => chkP 159 pc)) = true := by decide +kernel
set_option maxRecDepth 100000 in
theorem ck_160 : (chkM 160 && chkR 160 && (List.range (cln 160)).all (fun pc => chkP 160 pc)) = true := by decide +kernel
set_option maxRecDepth 100000 in
theorem ck_161 : (chkM 161 && chkR 161 && (List.range (cln 161)).all (fun pc => chkP 161 pc)) = true := by decide +kernel
set_option maxRecDepth 100000 in
theorem ck_162 : (chkM 162 && chkR 162 && (List.range (cln 162)).all (fun pc => chkP 162 pc)) = true := by decide +kernel
set_option maxRecDepth 100000 in
theorem ck_163 : (chkM 163 && chkR 163 && (List.range (cln 163)).all (fun pc => chkP 163 pc)) = true := by decide +kernel
set_option maxRecDepth 100000 in
theorem ck_164 : (chkM 164 && chkR 164 && (List.range (cln 164)).all (fun pc => chkP 164 pc)) = true := by decide +kernel
set_option maxRecDepth 100000 in
theorem ck_165 : (chkM 165 && chkR 165 && (List.range (cln 165)).all (fun pc => chkP 165 pc)) = true := by decide +kernel
set_option maxRecDepth 100000 in
theorem ck_166 : (chkM 166 && chkR 166 && (List.range (cln 166)).all (fun pc => chkP 166 pc)) = true := by decide +kernel
set_option maxRecDepth 100000 in
theorem ck_167 : (chkM 167 && chkR 167 && (List.range (cln 167)).all (fun pc => chkP 167 pc)) = true := by decide +kernel
set_option maxRecDepth 100000 in
theorem ck_168 : (chkM 168 && chkR 168 && (List.range (cln 168)).all (fun pc => chkP 168 pc)) = true := by decide +kernel
set_option maxRecDepth 100000 in
theorem ck_169 : (chkM 169 && chkR 169 && (List.range (cln 169)).all (fun pc => chkP 169 pc)) = true := by decide +kernel
set_option maxRecDepth 100000 in
theorem ck_170 : (chkM 170 && chkR 170 && (List.range (cln 170)).all (fun pc => chkP 170 pc)) = true := by decide +kernel
set_option maxRecDepth 100000 in
theorem ck_171 : (chkM 171 && chkR 171 && (List.range (cln 171)).all (fun pc => chkP 171 pc)) = true := by decide +kernel
set_option maxRecDepth 100000 in
theorem ck_172 : (chkM 172 && chkR 172 && (List.range (cln 172)).all (fun pc => chkP 172 pc)) = true := by decide +kernel
set_option maxRecDepth 100000 in
theorem ck_173 : (chkM 173 && chkR 173 && (List.range (cln 173)).all (fun pc => chkP 173 pc)) = true := by decide +kernel
set_option maxRecDepth 100000 in
theorem ck_174 : (chkM 174 && chkR 174 && (List.range (cln 174)).all (fun pc => chkP 174 pc)) = true := by decide +kernel
set_option maxRecDepth 100000 in
theorem ck_175 : (chkM 175 && chkR 175 && (List.range (cln 175)).all (fun pc => chkP 175 pc)) = true := by decide +kernel
set_option maxRecDepth 100000 in
theorem ck_176 : (chkM 176 && chkR 176 && (List.range (cln 176)).all (fun pc => chkP 176 pc)) = true := by decide +kernel
set_option maxRecDepth 100000 in
theorem ck_177 : (chkM 177 && chkR 177 && (List.range (cln 177)).all (fun pc => chkP 177 pc)) = true := by decide +kernel
set_option maxRecDepth 100000 in
theorem ck_178 : (chkM 178 && chkR 178 && (List.range (cln 178)).all (fun pc => chkP 178 pc)) = true := by decide +kernel
set_option maxRecDepth 100000 in
theorem ck_179 : (chkM 179 && chkR 179 && (List.range (cln 179)).all (fun pc => chkP 179 pc)) = true := by decide +kernel
set_option maxRecDepth 100000 in
theorem ck_180 : (chkM 180 && chkR 180 && (List.range (cln 180)).all (fun pc => chkP 180 pc)) = true := by decide +kernel
set_option maxRecDepth 100000 in
theorem ck_181 : (chkM 181 && chkR 181 && (List.range (cln 181)).all (fun pc => chkP 181 pc)) = true := by decide +kernel
set_option maxRecDepth 100000 in
theorem ck_182 : (chkM 182 && chkR 182 && (List.range (cln 182)).all (fun pc => chkP 182 pc)) = true := by decide +kernel
set_option maxRecDepth 100000 in
theorem ck_183 : (chkM 183 && chkR 183 && (List.range (cln 183)).all (fun pc => chkP 183 pc)) = true := by decide +kernel
set_option maxRecDepth 100000 in
theorem ck_184 : (chkM 184 && chkR 184 && (List.range (cln 184)).all (fun pc => chkP 184 pc)) = true := by decide +kernel
set_option maxRecDepth 100000 in
theorem ck_185 : (chkM 185 && chkR 185 && (List.range (cln 185)).all (fun pc => chkP 185 pc)) = true := by decide +kernel
set_option maxRecDepth 100000 in
theorem ck_186 : (chkM 186 && chkR 186 && (List.range (cln 186)).all (fun pc => chkP 186 pc)) = true := by decide +kernel
set_option maxRecDepth 100000 in
theorem ck_187 : (chkM 187 && chkR 187 && (List.range (cln 187)).all (fun pc => chkP 187 pc)) = true := by decide +kernel
set_option maxRecDepth 100000 in
theorem ck_188 : (chkM 188 && chkR 188 && (List.range (cln 188)).all (fun pc => chkP 188 pc)) = true := by decide +kernel
set_option maxRecDepth 100000 in
theorem ck_189 : (chkM 189 && chkR 189 && (List.range (cln 189)).all (fun pc => chkP 189 pc)) = true := by decide +kernel
set_option maxRecDepth 100000 in
theorem ck_190 : (chkM 190 && chkR 190 && (List.range (cln 190)).all (fun pc => chkP 190 pc)) = true := by decide +kernel
set_option maxRecDepth 100000 in
theorem ck_191 : (chkM 191 && chkR 191 && (List.range (cln 191)).all (fun pc => chkP 191 pc)) = true := by decide +kernel
set_option maxRecDepth 100000 in
theorem ck_192 : (chkM 192 && chkR 192 && (List.range (cln 192)).all (fun pc => chkP 192 pc)) = true := by decide +kernel
set_option maxRecDepth 100000 in
theorem ck_193 : (chkM 193 && chkR 193 && (List.range (cln 193)).all (fun pc => chkP 193 pc)) = true := by decide +kernel
set_option maxRecDepth 100000 in
theorem ck_194 : (chkM 194 && chkR 194 && (List.range (cln 194)).all (fun pc => chkP 194 pc)) = true := by decide +kernel
set_option maxRecDepth 100000 in
theorem ck_195 : (chkM 195 && chkR 195 && (List.range (cln 195)).all (fun pc => chkP 195 pc)) = true := by decide +kernel
set_option maxRecDepth 100000 in
theorem ck_196 : (chkM 196 && chkR 196 && (List.range (cln 196)).all (fun pc => chkP 196 pc)) = true := by decide +kernel
set_option maxRecDepth 100000 in
theorem ck_197 : (chkM 197 && chkR 197 && (List.range (cln 197)).all (fun pc => chkP 197 pc)) = true := by decide +kernel
set_option maxRecDepth 100000 in
theorem ck_198 : (chkM 198 && chkR 198 && (List.range (cln 198)).all (fun pc => chkP 198 pc)) = true := by decide +kernel
set_option maxRecDepth 100000 in
theorem ck_199 : (chkM 199 && chkR 199 && (List.range (cln 199)).all (fun pc => chkP 199 pc)) = true := by decide +kernel
set_option maxRecDepth 100000 in
theorem ck_200 : (chkM 200 && chkR 200 && (List.range (cln 200)).all (fun pc => chkP 200 pc)) = true := by decide +kernel
set_option maxRecDepth 100000 in
theorem ck_201 : (chkM 201 && chkR 201 && (List.range (cln 201)).all (fun pc => chkP 201 pc)) = true := by decide +kernel
set_option maxRecDepth 100000 in
theorem ck_202 : (chkM 202 && chkR 202 && (List.range (cln 202)).all (fun pc => chkP 202 pc)) = true := by decide +kernel
set_option maxRecDepth 100000 in
theorem ck_203 : (chkM 203 && chkR 203 && (List.range (cln 203)).all (fun pc => chkP 203 pc)) = true := by decide +kernel
set_option maxRecDepth 100000 in
theorem ck_204 : (chkM 204 && chkR 204 && (List.range (cln 204)).all (fun pc => chkP 204 pc)) = true := by decide +kernel
set_option maxRecDepth 100000 in
theorem ck_205 : (chkM 205 && chkR 205 && (List.range (cln 205)).all (fun pc => chkP 205 pc)) = true := by decide +kernel
set_option maxRecDepth 100000 in
theorem ck_206 : (chkM 206 && chkR 206 && (List.range (cln 206)).all (fun pc => chkP 206 pc)) = true := by decide +kernel
set_option maxRecDepth 100000 in
theorem ck_207 : (chkM 207 && chkR 207 && (List.range (cln 207)).all (fun pc => chkP 207 pc)) = true := by decide +kernel
set_option maxRecDepth 100000 in
theorem ck_208 : (chkM 208 && chkR 208 && (List.range (cln 208)).all (fun pc => chkP 208 pc)) = true := by decide +kernel
set_option maxRecDepth 100000 in
theorem ck_209 : (chkM 209 && chkR 209 && (List.range (cln 209)).all (fun pc => chkP 209 pc)) = true := by decide +kernel
set_option maxRecDepth 100000 in
theorem ck_210 : (chkM 210 && chkR 210 && (List.range (cln 210)).all (fun pc => chkP 210 pc)) = true := by decide +kernel
set_option maxRecDepth 100000 in
theorem ck_211 : (chkM 211 && chkR 211 && (List.range (cln 211)).all (fun pc => chkP 211 pc)) = true := by decide +kernel
set_option maxRecDepth 100000 in
theorem ck_212 : (chkM 212 && chkR 212 && (List.range (cln 212)).all (fun pc => chkP 212 pc)) = true := by decide +kernel
set_option maxRecDepth 100000 in
theorem ck_213 : (chkM 213 && chkR 213 && (List.range (cln 213)).all (fun pc => chkP 213 pc)) = true := by decide +kernel
set_option maxRecDepth 100000 in
theorem ck_214 : (chkM 214 && chkR 214 && (List.range (cln 214)).all (fun pc => chkP 214 pc)) = true := by decide +kernel
