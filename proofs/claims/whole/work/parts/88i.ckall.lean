/-! All the tables hold. -/
def CP (mn : Nat) : Prop := (chkM mn && chkR mn && (List.range (cln mn)).all (fun pc => chkP mn pc)) = true
theorem ckc_0 : ∀ mn, 0 ≤ mn → mn < 10 → CP mn := fun mn h0 h1 => by
  rcases (show mn = 0 ∨ mn = 1 ∨ mn = 2 ∨ mn = 3 ∨ mn = 4 ∨ mn = 5 ∨ mn = 6 ∨ mn = 7 ∨ mn = 8 ∨ mn = 9 by omega) with h | h | h | h | h | h | h | h | h | h
  · rw [h]; exact ck_0
  · rw [h]; exact ck_1
  · rw [h]; exact ck_2
  · rw [h]; exact ck_3
  · rw [h]; exact ck_4
  · rw [h]; exact ck_5
  · rw [h]; exact ck_6
  · rw [h]; exact ck_7
  · rw [h]; exact ck_8
  · rw [h]; exact ck_9
theorem ckc_10 : ∀ mn, 10 ≤ mn → mn < 20 → CP mn := fun mn h0 h1 => by
  rcases (show mn = 10 ∨ mn = 11 ∨ mn = 12 ∨ mn = 13 ∨ mn = 14 ∨ mn = 15 ∨ mn = 16 ∨ mn = 17 ∨ mn = 18 ∨ mn = 19 by omega) with h | h | h | h | h | h | h | h | h | h
  · rw [h]; exact ck_10
  · rw [h]; exact ck_11
  · rw [h]; exact ck_12
  · rw [h]; exact ck_13
  · rw [h]; exact ck_14
  · rw [h]; exact ck_15
  · rw [h]; exact ck_16
  · rw [h]; exact ck_17
  · rw [h]; exact ck_18
  · rw [h]; exact ck_19
theorem ckc_20 : ∀ mn, 20 ≤ mn → mn < 30 → CP mn := fun mn h0 h1 => by
  rcases (show mn = 20 ∨ mn = 21 ∨ mn = 22 ∨ mn = 23 ∨ mn = 24 ∨ mn = 25 ∨ mn = 26 ∨ mn = 27 ∨ mn = 28 ∨ mn = 29 by omega) with h | h | h | h | h | h | h | h | h | h
  · rw [h]; exact ck_20
  · rw [h]; exact ck_21
  · rw [h]; exact ck_22
  · rw [h]; exact ck_23
  · rw [h]; exact ck_24
  · rw [h]; exact ck_25
  · rw [h]; exact ck_26
  · rw [h]; exact ck_27
  · rw [h]; exact ck_28
  · rw [h]; exact ck_29
theorem ckc_30 : ∀ mn, 30 ≤ mn → mn < 40 → CP mn := fun mn h0 h1 => by
  rcases (show mn = 30 ∨ mn = 31 ∨ mn = 32 ∨ mn = 33 ∨ mn = 34 ∨ mn = 35 ∨ mn = 36 ∨ mn = 37 ∨ mn = 38 ∨ mn = 39 by omega) with h | h | h | h | h | h | h | h | h | h
  · rw [h]; exact ck_30
  · rw [h]; exact ck_31
  · rw [h]; exact ck_32
  · rw [h]; exact ck_33
  · rw [h]; exact ck_34
  · rw [h]; exact ck_35
  · rw [h]; exact ck_36
  · rw [h]; exact ck_37
  · rw [h]; exact ck_38
  · rw [h]; exact ck_39
theorem ckc_40 : ∀ mn, 40 ≤ mn → mn < 50 → CP mn := fun mn h0 h1 => by
  rcases (show mn = 40 ∨ mn = 41 ∨ mn = 42 ∨ mn = 43 ∨ mn = 44 ∨ mn = 45 ∨ mn = 46 ∨ mn = 47 ∨ mn = 48 ∨ mn = 49 by omega) with h | h | h | h | h | h | h | h | h | h
  · rw [h]; exact ck_40
  · rw [h]; exact ck_41
  · rw [h]; exact ck_42
  · rw [h]; exact ck_43
  · rw [h]; exact ck_44
  · rw [h]; exact ck_45
  · rw [h]; exact ck_46
  · rw [h]; exact ck_47
  · rw [h]; exact ck_48
  · rw [h]; exact ck_49
theorem ckc_50 : ∀ mn, 50 ≤ mn → mn < 60 → CP mn := fun mn h0 h1 => by
  rcases (show mn = 50 ∨ mn = 51 ∨ mn = 52 ∨ mn = 53 ∨ mn = 54 ∨ mn = 55 ∨ mn = 56 ∨ mn = 57 ∨ mn = 58 ∨ mn = 59 by omega) with h | h | h | h | h | h | h | h | h | h
  · rw [h]; exact ck_50
  · rw [h]; exact ck_51
  · rw [h]; exact ck_52
  · rw [h]; exact ck_53
  · rw [h]; exact ck_54
  · rw [h]; exact ck_55
  · rw [h]; exact ck_56
  · rw [h]; exact ck_57
  · rw [h]; exact ck_58
  · rw [h]; exact ck_59
theorem ckc_60 : ∀ mn, 60 ≤ mn → mn < 70 → CP mn := fun mn h0 h1 => by
  rcases (show mn = 60 ∨ mn = 61 ∨ mn = 62 ∨ mn = 63 ∨ mn = 64 ∨ mn = 65 ∨ mn = 66 ∨ mn = 67 ∨ mn = 68 ∨ mn = 69 by omega) with h | h | h | h | h | h | h | h | h | h
  · rw [h]; exact ck_60
  · rw [h]; exact ck_61
  · rw [h]; exact ck_62
  · rw [h]; exact ck_63
  · rw [h]; exact ck_64
  · rw [h]; exact ck_65
  · rw [h]; exact ck_66
  · rw [h]; exact ck_67
  · rw [h]; exact ck_68
  · rw [h]; exact ck_69
theorem ckc_70 : ∀ mn, 70 ≤ mn → mn < 80 → CP mn := fun mn h0 h1 => by
  rcases (show mn = 70 ∨ mn = 71 ∨ mn = 72 ∨ mn = 73 ∨ mn = 74 ∨ mn = 75 ∨ mn = 76 ∨ mn = 77 ∨ mn = 78 ∨ mn = 79 by omega) with h | h | h | h | h | h | h | h | h | h
  · rw [h]; exact ck_70
  · rw [h]; exact ck_71
  · rw [h]; exact ck_72
  · rw [h]; exact ck_73
  · rw [h]; exact ck_74
  · rw [h]; exact ck_75
  · rw [h]; exact ck_76
  · rw [h]; exact ck_77
  · rw [h]; exact ck_78
  · rw [h]; exact ck_79
theorem ckc_80 : ∀ mn, 80 ≤ mn → mn < 90 → CP mn := fun mn h0 h1 => by
  rcases (show mn = 80 ∨ mn = 81 ∨ mn = 82 ∨ mn = 83 ∨ mn = 84 ∨ mn = 85 ∨ mn = 86 ∨ mn = 87 ∨ mn = 88 ∨ mn = 89 by omega) with h | h | h | h | h | h | h | h | h | h
  · rw [h]; exact ck_80
  · rw [h]; exact ck_81
  · rw [h]; exact ck_82
  · rw [h]; exact ck_83
  · rw [h]; exact ck_84
  · rw [h]; exact ck_85
  · rw [h]; exact ck_86
  · rw [h]; exact ck_87
  · rw [h]; exact ck_88
  · rw [h]; exact ck_89
theorem ckc_90 : ∀ mn, 90 ≤ mn → mn < 100 → CP mn := fun mn h0 h1 => by
  rcases (show mn = 90 ∨ mn = 91 ∨ mn = 92 ∨ mn = 93 ∨ mn = 94 ∨ mn = 95 ∨ mn = 96 ∨ mn = 97 ∨ mn = 98 ∨ mn = 99 by omega) with h | h | h | h | h | h | h | h | h | h
  · rw [h]; exact ck_90
  · rw [h]; exact ck_91
  · rw [h]; exact ck_92
  · rw [h]; exact ck_93
  · rw [h]; exact ck_94
  · rw [h]; exact ck_95
  · rw [h]; exact ck_96
  · rw [h]; exact ck_97
  · rw [h]; exact ck_98
  · rw [h]; exact ck_99
theorem ckc_100 : ∀ mn, 100 ≤ mn → mn < 110 → CP mn := fun mn h0 h1 => by
  rcases (show mn = 100 ∨ mn = 101 ∨ mn = 102 ∨ mn = 103 ∨ mn = 104 ∨ mn = 105 ∨ mn = 106 ∨ mn = 107 ∨ mn = 108 ∨ mn = 109 by omega) with h | h | h | h | h | h | h | h | h | h
  · rw [h]; exact ck_100
  · rw [h]; exact ck_101
  · rw [h]; exact ck_102
  · rw [h]; exact ck_103
  · rw [h]; exact ck_104
  · rw [h]; exact ck_105
  · rw [h]; exact ck_106
  · rw [h]; exact ck_107
  · rw [h]; exact ck_108
  · rw [h]; exact ck_109
theorem ckc_110 : ∀ mn, 110 ≤ mn → mn < 120 → CP mn := fun mn h0 h1 => by
  rcases (show mn = 110 ∨ mn = 111 ∨ mn = 112 ∨ mn = 113 ∨ mn = 114 ∨ mn = 115 ∨ mn = 116 ∨ mn = 117 ∨ mn = 118 ∨ mn = 119 by omega) with h | h | h | h | h | h | h | h | h | h
  · rw [h]; exact ck_110
  · rw [h]; exact ck_111
  · rw [h]; exact ck_112
  · rw [h]; exact ck_113
  · rw [h]; exact ck_114
  · rw [h]; exact ck_115
  · rw [h]; exact ck_116
  · rw [h]; exact ck_117
  · rw [h]; exact ck_118
  · rw [h]; exact ck_119
theorem ckc_120 : ∀ mn, 120 ≤ mn → mn < 130 → CP mn := fun mn h0 h1 => by
  rcases (show mn = 120 ∨ mn = 121 ∨ mn = 122 ∨ mn = 123 ∨ mn = 124 ∨ mn = 125 ∨ mn = 126 ∨ mn = 127 ∨ mn = 128 ∨ mn = 129 by omega) with h | h | h | h | h | h | h | h | h | h
  · rw [h]; exact ck_120
  · rw [h]; exact ck_121
  · rw [h]; exact ck_122
  · rw [h]; exact ck_123
  · rw [h]; exact ck_124
  · rw [h]; exact ck_125
  · rw [h]; exact ck_126
  · rw [h]; exact ck_127
  · rw [h]; exact ck_128
  · rw [h]; exact ck_129
theorem ckc_130 : ∀ mn, 130 ≤ mn → mn < 140 → CP mn := fun mn h0 h1 => by
  rcases (show mn = 130 ∨ mn = 131 ∨ mn = 132 ∨ mn = 133 ∨ mn = 134 ∨ mn = 135 ∨ mn = 136 ∨ mn = 137 ∨ mn = 138 ∨ mn = 139 by omega) with h | h | h | h | h | h | h | h | h | h
  · rw [h]; exact ck_130
  · rw [h]; exact ck_131
  · rw [h]; exact ck_132
  · rw [h]; exact ck_133
  · rw [h]; exact ck_134
  · rw [h]; exact ck_135
  · rw [h]; exact ck_136
  · rw [h]; exact ck_137
  · rw [h]; exact ck_138
  · rw [h]; exact ck_139
theorem ckc_140 : ∀ mn, 140 ≤ mn → mn < 150 → CP mn := fun mn h0 h1 => by
  rcases (show mn = 140 ∨ mn = 141 ∨ mn = 142 ∨ mn = 143 ∨ mn = 144 ∨ mn = 145 ∨ mn = 146 ∨ mn = 147 ∨ mn = 148 ∨ mn = 149 by omega) with h | h | h | h | h | h | h | h | h | h
  · rw [h]; exact ck_140
  · rw [h]; exact ck_141
  · rw [h]; exact ck_142
  · rw [h]; exact ck_143
  · rw [h]; exact ck_144
  · rw [h]; exact ck_145
  · rw [h]; exact ck_146
  · rw [h]; exact ck_147
  · rw [h]; exact ck_148
  · rw [h]; exact ck_149
theorem ckc_150 : ∀ mn, 150 ≤ mn → mn < 160 → CP mn := fun mn h0 h1 => by
  rcases (show mn = 150 ∨ mn = 151 ∨ mn = 152 ∨ mn = 153 ∨ mn = 154 ∨ mn = 155 ∨ mn = 156 ∨ mn = 157 ∨ mn = 158 ∨ mn = 159 by omega) with h | h | h | h | h | h | h | h | h | h
  · rw [h]; exact ck_150
  · rw [h]; exact ck_151
  · rw [h]; exact ck_152
  · rw [h]; exact ck_153
  · rw [h]; exact ck_154
  · rw [h]; exact ck_155
  · rw [h]; exact ck_156
  · rw [h]; exact ck_157
  · rw [h]; exact ck_158
  · rw [h]; exact ck_159
theorem ckc_160 : ∀ mn, 160 ≤ mn → mn < 170 → CP mn := fun mn h0 h1 => by
  rcases (show mn = 160 ∨ mn = 161 ∨ mn = 162 ∨ mn = 163 ∨ mn = 164 ∨ mn = 165 ∨ mn = 166 ∨ mn = 167 ∨ mn = 168 ∨ mn = 169 by omega) with h | h | h | h | h | h | h | h | h | h
  · rw [h]; exact ck_160
  · rw [h]; exact ck_161
  · rw [h]; exact ck_162
  · rw [h]; exact ck_163
  · rw [h]; exact ck_164
  · rw [h]; exact ck_165
  · rw [h]; exact ck_166
  · rw [h]; exact ck_167
  · rw [h]; exact ck_168
  · rw [h]; exact ck_169
theorem ckc_170 : ∀ mn, 170 ≤ mn → mn < 180 → CP mn := fun mn h0 h1 => by
  rcases (show mn = 170 ∨ mn = 171 ∨ mn = 172 ∨ mn = 173 ∨ mn = 174 ∨ mn = 175 ∨ mn = 176 ∨ mn = 177 ∨ mn = 178 ∨ mn = 179 by omega) with h | h | h | h | h | h | h | h | h | h
  · rw [h]; exact ck_170
  · rw [h]; exact ck_171
  · rw [h]; exact ck_172
  · rw [h]; exact ck_173
  · rw [h]; exact ck_174
  · rw [h]; exact ck_175
  · rw [h]; exact ck_176
  · rw [h]; exact ck_177
  · rw [h]; exact ck_178
  · rw [h]; exact ck_179
theorem ckc_180 : ∀ mn, 180 ≤ mn → mn < 190 → CP mn := fun mn h0 h1 => by
  rcases (show mn = 180 ∨ mn = 181 ∨ mn = 182 ∨ mn = 183 ∨ mn = 184 ∨ mn = 185 ∨ mn = 186 ∨ mn = 187 ∨ mn = 188 ∨ mn = 189 by omega) with h | h | h | h | h | h | h | h | h | h
  · rw [h]; exact ck_180
  · rw [h]; exact ck_181
  · rw [h]; exact ck_182
  · rw [h]; exact ck_183
  · rw [h]; exact ck_184
  · rw [h]; exact ck_185
  · rw [h]; exact ck_186
  · rw [h]; exact ck_187
  · rw [h]; exact ck_188
  · rw [h]; exact ck_189
theorem ckc_190 : ∀ mn, 190 ≤ mn → mn < 200 → CP mn := fun mn h0 h1 => by
  rcases (show mn = 190 ∨ mn = 191 ∨ mn = 192 ∨ mn = 193 ∨ mn = 194 ∨ mn = 195 ∨ mn = 196 ∨ mn = 197 ∨ mn = 198 ∨ mn = 199 by omega) with h | h | h | h | h | h | h | h | h | h
  · rw [h]; exact ck_190
  · rw [h]; exact ck_191
  · rw [h]; exact ck_192
  · rw [h]; exact ck_193
  · rw [h]; exact ck_194
  · rw [h]; exact ck_195
  · rw [h]; exact ck_196
  · rw [h]; exact ck_197
  · rw [h]; exact ck_198
  · rw [h]; exact ck_199
theorem ckc_200 : ∀ mn, 200 ≤ mn → mn < 210 → CP mn := fun mn h0 h1 => by
  rcases (show mn = 200 ∨ mn = 201 ∨ mn = 202 ∨ mn = 203 ∨ mn = 204 ∨ mn = 205 ∨ mn = 206 ∨ mn = 207 ∨ mn = 208 ∨ mn = 209 by omega) with h | h | h | h | h | h | h | h | h | h
  · rw [h]; exact ck_200
  · rw [h]; exact ck_201
  · rw [h]; exact ck_202
  · rw [h]; exact ck_203
  · rw [h]; exact ck_204
  · rw [h]; exact ck_205
  · rw [h]; exact ck_206
  · rw [h]; exact ck_207
  · rw [h]; exact ck_208
  · rw [h]; exact ck_209
theorem ckc_210 : ∀ mn, 210 ≤ mn → mn < 220 → CP mn := fun mn h0 h1 => by
  rcases (show mn = 210 ∨ mn = 211 ∨ mn = 212 ∨ mn = 213 ∨ mn = 214 ∨ mn = 215 ∨ mn = 216 ∨ mn = 217 ∨ mn = 218 ∨ mn = 219 by omega) with h | h | h | h | h | h | h | h | h | h
  · rw [h]; exact ck_210
  · rw [h]; exact ck_211
  · rw [h]; exact ck_212
  · rw [h]; exact ck_213
  · rw [h]; exact ck_214
  · rw [h]; exact ck_215
  · rw [h]; exact ck_216
  · rw [h]; exact ck_217
  · rw [h]; exact ck_218
  · rw [h]; exact ck_219
theorem ckc_220 : ∀ mn, 220 ≤ mn → mn < 230 → CP mn := fun mn h0 h1 => by
  rcases (show mn = 220 ∨ mn = 221 ∨ mn = 222 ∨ mn = 223 ∨ mn = 224 ∨ mn = 225 ∨ mn = 226 ∨ mn = 227 ∨ mn = 228 ∨ mn = 229 by omega) with h | h | h | h | h | h | h | h | h | h
  · rw [h]; exact ck_220
  · rw [h]; exact ck_221
  · rw [h]; exact ck_222
  · rw [h]; exact ck_223
  · rw [h]; exact ck_224
  · rw [h]; exact ck_225
  · rw [h]; exact ck_226
  · rw [h]; exact ck_227
  · rw [h]; exact ck_228
  · rw [h]; exact ck_229
theorem ckc_230 : ∀ mn, 230 ≤ mn → mn < 240 → CP mn := fun mn h0 h1 => by
  rcases (show mn = 230 ∨ mn = 231 ∨ mn = 232 ∨ mn = 233 ∨ mn = 234 ∨ mn = 235 ∨ mn = 236 ∨ mn = 237 ∨ mn = 238 ∨ mn = 239 by omega) with h | h | h | h | h | h | h | h | h | h
  · rw [h]; exact ck_230
  · rw [h]; exact ck_231
  · rw [h]; exact ck_232
  · rw [h]; exact ck_233
  · rw [h]; exact ck_234
  · rw [h]; exact ck_235
  · rw [h]; exact ck_236
  · rw [h]; exact ck_237
  · rw [h]; exact ck_238
  · rw [h]; exact ck_239
theorem ckc_240 : ∀ mn, 240 ≤ mn → mn < 250 → CP mn := fun mn h0 h1 => by
  rcases (show mn = 240 ∨ mn = 241 ∨ mn = 242 ∨ mn = 243 ∨ mn = 244 ∨ mn = 245 ∨ mn = 246 ∨ mn = 247 ∨ mn = 248 ∨ mn = 249 by omega) with h | h | h | h | h | h | h | h | h | h
  · rw [h]; exact ck_240
  · rw [h]; exact ck_241
  · rw [h]; exact ck_242
  · rw [h]; exact ck_243
  · rw [h]; exact ck_244
  · rw [h]; exact ck_245
  · rw [h]; exact ck_246
  · rw [h]; exact ck_247
  · rw [h]; exact ck_248
  · rw [h]; exact ck_249
theorem ckc_250 : ∀ mn, 250 ≤ mn → mn < 260 → CP mn := fun mn h0 h1 => by
  rcases (show mn = 250 ∨ mn = 251 ∨ mn = 252 ∨ mn = 253 ∨ mn = 254 ∨ mn = 255 ∨ mn = 256 ∨ mn = 257 ∨ mn = 258 ∨ mn = 259 by omega) with h | h | h | h | h | h | h | h | h | h
  · rw [h]; exact ck_250
  · rw [h]; exact ck_251
  · rw [h]; exact ck_252
  · rw [h]; exact ck_253
  · rw [h]; exact ck_254
  · rw [h]; exact ck_255
  · rw [h]; exact ck_256
  · rw [h]; exact ck_257
  · rw [h]; exact ck_258
  · rw [h]; exact ck_259
theorem ckc_260 : ∀ mn, 260 ≤ mn → mn < 270 → CP mn := fun mn h0 h1 => by
  rcases (show mn = 260 ∨ mn = 261 ∨ mn = 262 ∨ mn = 263 ∨ mn = 264 ∨ mn = 265 ∨ mn = 266 ∨ mn = 267 ∨ mn = 268 ∨ mn = 269 by omega) with h | h | h | h | h | h | h | h | h | h
  · rw [h]; exact ck_260
  · rw [h]; exact ck_261
  · rw [h]; exact ck_262
  · rw [h]; exact ck_263
  · rw [h]; exact ck_264
  · rw [h]; exact ck_265
  · rw [h]; exact ck_266
  · rw [h]; exact ck_267
  · rw [h]; exact ck_268
  · rw [h]; exact ck_269
theorem ckc_270 : ∀ mn, 270 ≤ mn → mn < 280 → CP mn := fun mn h0 h1 => by
  rcases (show mn = 270 ∨ mn = 271 ∨ mn = 272 ∨ mn = 273 ∨ mn = 274 ∨ mn = 275 ∨ mn = 276 ∨ mn = 277 ∨ mn = 278 ∨ mn = 279 by omega) with h | h | h | h | h | h | h | h | h | h
  · rw [h]; exact ck_270
  · rw [h]; exact ck_271
  · rw [h]; exact ck_272
  · rw [h]; exact ck_273
  · rw [h]; exact ck_274
  · rw [h]; exact ck_275
  · rw [h]; exact ck_276
  · rw [h]; exact ck_277
  · rw [h]; exact ck_278
  · rw [h]; exact ck_279
theorem ckc_280 : ∀ mn, 280 ≤ mn → mn < 290 → CP mn := fun mn h0 h1 => by
  rcases (show mn = 280 ∨ mn = 281 ∨ mn = 282 ∨ mn = 283 ∨ mn = 284 ∨ mn = 285 ∨ mn = 286 ∨ mn = 287 ∨ mn = 288 ∨ mn = 289 by omega) with h | h | h | h | h | h | h | h | h | h
  · rw [h]; exact ck_280
  · rw [h]; exact ck_281
  · rw [h]; exact ck_282
  · rw [h]; exact ck_283
  · rw [h]; exact ck_284
  · rw [h]; exact ck_285
  · rw [h]; exact ck_286
  · rw [h]; exact ck_287
  · rw [h]; exact ck_288
  · rw [h]; exact ck_289
theorem ckc_290 : ∀ mn, 290 ≤ mn → mn < 300 → CP mn := fun mn h0 h1 => by
  rcases (show mn = 290 ∨ mn = 291 ∨ mn = 292 ∨ mn = 293 ∨ mn = 294 ∨ mn = 295 ∨ mn = 296 ∨ mn = 297 ∨ mn = 298 ∨ mn = 299 by omega) with h | h | h | h | h | h | h | h | h | h
  · rw [h]; exact ck_290
  · rw [h]; exact ck_291
  · rw [h]; exact ck_292
  · rw [h]; exact ck_293
  · rw [h]; exact ck_294
  · rw [h]; exact ck_295
  · rw [h]; exact ck_296
  · rw [h]; exact ck_297
  · rw [h]; exact ck_298
  · rw [h]; exact ck_299
theorem ckc_300 : ∀ mn, 300 ≤ mn → mn < 310 → CP mn := fun mn h0 h1 => by
  rcases (show mn = 300 ∨ mn = 301 ∨ mn = 302 ∨ mn = 303 ∨ mn = 304 ∨ mn = 305 ∨ mn = 306 ∨ mn = 307 ∨ mn = 308 ∨ mn = 309 by omega) with h | h | h | h | h | h | h | h | h | h
  · rw [h]; exact ck_300
  · rw [h]; exact ck_301
  · rw [h]; exact ck_302
  · rw [h]; exact ck_303
  · rw [h]; exact ck_304
  · rw [h]; exact ck_305
  · rw [h]; exact ck_306
  · rw [h]; exact ck_307
  · rw [h]; exact ck_308
  · rw [h]; exact ck_309
theorem ckc_310 : ∀ mn, 310 ≤ mn → mn < 317 → CP mn := fun mn h0 h1 => by
  rcases (show mn = 310 ∨ mn = 311 ∨ mn = 312 ∨ mn = 313 ∨ mn = 314 ∨ mn = 315 ∨ mn = 316 by omega) with h | h | h | h | h | h | h
  · rw [h]; exact ck_310
  · rw [h]; exact ck_311
  · rw [h]; exact ck_312
  · rw [h]; exact ck_313
  · rw [h]; exact ck_314
  · rw [h]; exact ck_315
  · rw [h]; exact ck_316
theorem ck_at (mn : Nat) (hm : mn < 317) : CP mn := by
  rcases Nat.lt_or_ge mn 10 with h10 | h10
  · exact ckc_0 mn (Nat.zero_le _) h10
  rcases Nat.lt_or_ge mn 20 with h20 | h20
  · exact ckc_10 mn h10 h20
  rcases Nat.lt_or_ge mn 30 with h30 | h30
  · exact ckc_20 mn h20 h30
  rcases Nat.lt_or_ge mn 40 with h40 | h40
  · exact ckc_30 mn h30 h40
  rcases Nat.lt_or_ge mn 50 with h50 | h50
  · exact ckc_40 mn h40 h50
  rcases Nat.lt_or_ge mn 60 with h60 | h60
  · exact ckc_50 mn h50 h60
  rcases Nat.lt_or_ge mn 70 with h70 | h70
  · exact ckc_60 mn h60 h70
  rcases Nat.lt_or_ge mn 80 with h80 | h80
  · exact ckc_70 mn h70 h80
  rcases Nat.lt_or_ge mn 90 with h90 | h90
  · exact ckc_80 mn h80 h90
  rcases Nat.lt_or_ge mn 100 with h100 | h100
  · exact ckc_90 mn h90 h100
  rcases Nat.lt_or_ge mn 110 with h110 | h110
  · exact ckc_100 mn h100 h110
  rcases Nat.lt_or_ge mn 120 with h120 | h120
  · exact ckc_110 mn h110 h120
  rcases Nat.lt_or_ge mn 130 with h130 | h130
  · exact ckc_120 mn h120 h130
  rcases Nat.lt_or_ge mn 140 with h140 | h140
  · exact ckc_130 mn h130 h140
  rcases Nat.lt_or_ge mn 150 with h150 | h150
  · exact ckc_140 mn h140 h150
  rcases Nat.lt_or_ge mn 160 with h160 | h160
  · exact ckc_150 mn h150 h160
  rcases Nat.lt_or_ge mn 170 with h170 | h170
  · exact ckc_160 mn h160 h170
  rcases Nat.lt_or_ge mn 180 with h180 | h180
  · exact ckc_170 mn h170 h180
  rcases Nat.lt_or_ge mn 190 with h190 | h190
  · exact ckc_180 mn h180 h190
  rcases Nat.lt_or_ge mn 200 with h200 | h200
  · exact ckc_190 mn h190 h200
  rcases Nat.lt_or_ge mn 210 with h210 | h210
  · exact ckc_200 mn h200 h210
  rcases Nat.lt_or_ge mn 220 with h220 | h220
  · exact ckc_210 mn h210 h220
  rcases Nat.lt_or_ge mn 230 with h230 | h230
  · exact ckc_220 mn h220 h230
  rcases Nat.lt_or_ge mn 240 with h240 | h240
  · exact ckc_230 mn h230 h240
  rcases Nat.lt_or_ge mn 250 with h250 | h250
  · exact ckc_240 mn h240 h250
  rcases Nat.lt_or_ge mn 260 with h260 | h260
  · exact ckc_250 mn h250 h260
  rcases Nat.lt_or_ge mn 270 with h270 | h270
  · exact ckc_260 mn h260 h270
  rcases Nat.lt_or_ge mn 280 with h280 | h280
  · exact ckc_270 mn h270 h280
  rcases Nat.lt_or_ge mn 290 with h290 | h290
  · exact ckc_280 mn h280 h290
  rcases Nat.lt_or_ge mn 300 with h300 | h300
  · exact ckc_290 mn h290 h300
  rcases Nat.lt_or_ge mn 310 with h310 | h310
  · exact ckc_300 mn h300 h310
  exact ckc_310 mn h310 hm
theorem ckl_at (pc : Nat) (hp : pc < 2528) : chkP 317 pc = true := by
  rcases Nat.lt_or_ge pc 200 with h200 | h200
  · exact List.all_eq_true.mp ckl_0 pc (List.mem_range'_1.mpr ⟨Nat.zero_le _, h200⟩)
  rcases Nat.lt_or_ge pc 400 with h400 | h400
  · exact List.all_eq_true.mp ckl_200 pc (List.mem_range'_1.mpr ⟨h200, h400⟩)
  rcases Nat.lt_or_ge pc 600 with h600 | h600
  · exact List.all_eq_true.mp ckl_400 pc (List.mem_range'_1.mpr ⟨h400, h600⟩)
  rcases Nat.lt_or_ge pc 700 with h700 | h700
  · exact List.all_eq_true.mp ckl_600 pc (List.mem_range'_1.mpr ⟨h600, h700⟩)
  rcases Nat.lt_or_ge pc 800 with h800 | h800
  · exact List.all_eq_true.mp ckl_700 pc (List.mem_range'_1.mpr ⟨h700, h800⟩)
  rcases Nat.lt_or_ge pc 900 with h900 | h900
  · exact List.all_eq_true.mp ckl_800 pc (List.mem_range'_1.mpr ⟨h800, h900⟩)
  rcases Nat.lt_or_ge pc 1000 with h1000 | h1000
  · exact List.all_eq_true.mp ckl_900 pc (List.mem_range'_1.mpr ⟨h900, h1000⟩)
  rcases Nat.lt_or_ge pc 1100 with h1100 | h1100
  · exact List.all_eq_true.mp ckl_1000 pc (List.mem_range'_1.mpr ⟨h1000, h1100⟩)
  rcases Nat.lt_or_ge pc 1200 with h1200 | h1200
  · exact List.all_eq_true.mp ckl_1100 pc (List.mem_range'_1.mpr ⟨h1100, h1200⟩)
  rcases Nat.lt_or_ge pc 1250 with h1250 | h1250
  · exact List.all_eq_true.mp ckl_1200 pc (List.mem_range'_1.mpr ⟨h1200, h1250⟩)
  rcases Nat.lt_or_ge pc 1300 with h1300 | h1300
  · exact List.all_eq_true.mp ckl_1250 pc (List.mem_range'_1.mpr ⟨h1250, h1300⟩)
  rcases Nat.lt_or_ge pc 1350 with h1350 | h1350
  · exact List.all_eq_true.mp ckl_1300 pc (List.mem_range'_1.mpr ⟨h1300, h1350⟩)
  rcases Nat.lt_or_ge pc 1400 with h1400 | h1400
  · exact List.all_eq_true.mp ckl_1350 pc (List.mem_range'_1.mpr ⟨h1350, h1400⟩)
  rcases Nat.lt_or_ge pc 1450 with h1450 | h1450
  · exact List.all_eq_true.mp ckl_1400 pc (List.mem_range'_1.mpr ⟨h1400, h1450⟩)
  rcases Nat.lt_or_ge pc 1500 with h1500 | h1500
  · exact List.all_eq_true.mp ckl_1450 pc (List.mem_range'_1.mpr ⟨h1450, h1500⟩)
  rcases Nat.lt_or_ge pc 1550 with h1550 | h1550
  · exact List.all_eq_true.mp ckl_1500 pc (List.mem_range'_1.mpr ⟨h1500, h1550⟩)
  rcases Nat.lt_or_ge pc 1600 with h1600 | h1600
  · exact List.all_eq_true.mp ckl_1550 pc (List.mem_range'_1.mpr ⟨h1550, h1600⟩)
  rcases Nat.lt_or_ge pc 1650 with h1650 | h1650
  · exact List.all_eq_true.mp ckl_1600 pc (List.mem_range'_1.mpr ⟨h1600, h1650⟩)
  rcases Nat.lt_or_ge pc 1700 with h1700 | h1700
  · exact List.all_eq_true.mp ckl_1650 pc (List.mem_range'_1.mpr ⟨h1650, h1700⟩)
  rcases Nat.lt_or_ge pc 1750 with h1750 | h1750
  · exact List.all_eq_true.mp ckl_1700 pc (List.mem_range'_1.mpr ⟨h1700, h1750⟩)
  rcases Nat.lt_or_ge pc 1800 with h1800 | h1800
  · exact List.all_eq_true.mp ckl_1750 pc (List.mem_range'_1.mpr ⟨h1750, h1800⟩)
  rcases Nat.lt_or_ge pc 1850 with h1850 | h1850
  · exact List.all_eq_true.mp ckl_1800 pc (List.mem_range'_1.mpr ⟨h1800, h1850⟩)
  rcases Nat.lt_or_ge pc 1900 with h1900 | h1900
  · exact List.all_eq_true.mp ckl_1850 pc (List.mem_range'_1.mpr ⟨h1850, h1900⟩)
  rcases Nat.lt_or_ge pc 1950 with h1950 | h1950
  · exact List.all_eq_true.mp ckl_1900 pc (List.mem_range'_1.mpr ⟨h1900, h1950⟩)
  rcases Nat.lt_or_ge pc 2000 with h2000 | h2000
  · exact List.all_eq_true.mp ckl_1950 pc (List.mem_range'_1.mpr ⟨h1950, h2000⟩)
  rcases Nat.lt_or_ge pc 2050 with h2050 | h2050
  · exact List.all_eq_true.mp ckl_2000 pc (List.mem_range'_1.mpr ⟨h2000, h2050⟩)
  rcases Nat.lt_or_ge pc 2100 with h2100 | h2100
  · exact List.all_eq_true.mp ckl_2050 pc (List.mem_range'_1.mpr ⟨h2050, h2100⟩)
  rcases Nat.lt_or_ge pc 2150 with h2150 | h2150
  · exact List.all_eq_true.mp ckl_2100 pc (List.mem_range'_1.mpr ⟨h2100, h2150⟩)
  rcases Nat.lt_or_ge pc 2200 with h2200 | h2200
  · exact List.all_eq_true.mp ckl_2150 pc (List.mem_range'_1.mpr ⟨h2150, h2200⟩)
  rcases Nat.lt_or_ge pc 2250 with h2250 | h2250
  · exact List.all_eq_true.mp ckl_2200 pc (List.mem_range'_1.mpr ⟨h2200, h2250⟩)
  rcases Nat.lt_or_ge pc 2300 with h2300 | h2300
  · exact List.all_eq_true.mp ckl_2250 pc (List.mem_range'_1.mpr ⟨h2250, h2300⟩)
  rcases Nat.lt_or_ge pc 2350 with h2350 | h2350
  · exact List.all_eq_true.mp ckl_2300 pc (List.mem_range'_1.mpr ⟨h2300, h2350⟩)
  rcases Nat.lt_or_ge pc 2400 with h2400 | h2400
  · exact List.all_eq_true.mp ckl_2350 pc (List.mem_range'_1.mpr ⟨h2350, h2400⟩)
  rcases Nat.lt_or_ge pc 2450 with h2450 | h2450
  · exact List.all_eq_true.mp ckl_2400 pc (List.mem_range'_1.mpr ⟨h2400, h2450⟩)
  rcases Nat.lt_or_ge pc 2500 with h2500 | h2500
  · exact List.all_eq_true.mp ckl_2450 pc (List.mem_range'_1.mpr ⟨h2450, h2500⟩)
  exact List.all_eq_true.mp ckl_2500 pc (List.mem_range'_1.mpr ⟨h2500, hp⟩)
theorem cx_at (mn : Nat) (hm : mn < 318) : (List.range (cln mn)).all (fun pc => chkXP mn pc) = true := by
  rcases Nat.lt_or_ge mn 20 with h20 | h20
  · exact List.all_eq_true.mp cx_0 mn (List.mem_range'_1.mpr ⟨Nat.zero_le _, h20⟩)
  rcases Nat.lt_or_ge mn 40 with h40 | h40
  · exact List.all_eq_true.mp cx_20 mn (List.mem_range'_1.mpr ⟨h20, h40⟩)
  rcases Nat.lt_or_ge mn 60 with h60 | h60
  · exact List.all_eq_true.mp cx_40 mn (List.mem_range'_1.mpr ⟨h40, h60⟩)
  rcases Nat.lt_or_ge mn 80 with h80 | h80
  · exact List.all_eq_true.mp cx_60 mn (List.mem_range'_1.mpr ⟨h60, h80⟩)
  rcases Nat.lt_or_ge mn 100 with h100 | h100
  · exact List.all_eq_true.mp cx_80 mn (List.mem_range'_1.mpr ⟨h80, h100⟩)
  rcases Nat.lt_or_ge mn 120 with h120 | h120
  · exact List.all_eq_true.mp cx_100 mn (List.mem_range'_1.mpr ⟨h100, h120⟩)
  rcases Nat.lt_or_ge mn 140 with h140 | h140
  · exact List.all_eq_true.mp cx_120 mn (List.mem_range'_1.mpr ⟨h120, h140⟩)
  rcases Nat.lt_or_ge mn 160 with h160 | h160
  · exact List.all_eq_true.mp cx_140 mn (List.mem_range'_1.mpr ⟨h140, h160⟩)
  rcases Nat.lt_or_ge mn 180 with h180 | h180
  · exact List.all_eq_true.mp cx_160 mn (List.mem_range'_1.mpr ⟨h160, h180⟩)
  rcases Nat.lt_or_ge mn 200 with h200 | h200
  · exact List.all_eq_true.mp cx_180 mn (List.mem_range'_1.mpr ⟨h180, h200⟩)
  rcases Nat.lt_or_ge mn 220 with h220 | h220
  · exact List.all_eq_true.mp cx_200 mn (List.mem_range'_1.mpr ⟨h200, h220⟩)
  rcases Nat.lt_or_ge mn 240 with h240 | h240
  · exact List.all_eq_true.mp cx_220 mn (List.mem_range'_1.mpr ⟨h220, h240⟩)
  rcases Nat.lt_or_ge mn 260 with h260 | h260
  · exact List.all_eq_true.mp cx_240 mn (List.mem_range'_1.mpr ⟨h240, h260⟩)
  rcases Nat.lt_or_ge mn 280 with h280 | h280
  · exact List.all_eq_true.mp cx_260 mn (List.mem_range'_1.mpr ⟨h260, h280⟩)
  rcases Nat.lt_or_ge mn 300 with h300 | h300
  · exact List.all_eq_true.mp cx_280 mn (List.mem_range'_1.mpr ⟨h280, h300⟩)
  exact List.all_eq_true.mp cx_300 mn (List.mem_range'_1.mpr ⟨h300, hm⟩)
theorem cln_317 : cln 317 = 2528 := by decide +kernel
theorem cd_ltp {mn pc : Nat} {e : Ent} (h : cd mn pc = some e) : pc < cln mn := by
  have hm : mn < NM := cd_lt h
  unfold cd at h
  rw [show Nat.blt mn NM = true from Nat.blt_eq.mpr hm] at h
  cases hb : Nat.blt pc (cln mn) with
  | true => exact Nat.blt_eq.mp hb
  | false => rw [hb] at h; cases h
theorem CK_all : CKall := by
  refine ⟨fun mn pc e h => ?_, fun mn hm => ?_⟩
  · have hm : mn < 318 := cd_lt h
    have hp := cd_ltp h
    have kx : chkXP mn pc = true := List.all_eq_true.mp (cx_at mn hm) pc (List.mem_range.mpr hp)
    have kp : chkP mn pc = true := by
      by_cases q : mn = 317
      · rw [q] at hp ⊢
        rw [cln_317] at hp
        exact ckl_at pc hp
      · have k := ck_at mn (by omega)
        unfold CP at k
        rw [Bool.and_eq_true] at k
        exact List.all_eq_true.mp k.2 pc (List.mem_range.mpr hp)
    unfold chkP at kp
    unfold chkXP at kx
    rw [h] at kp kx
    exact ⟨kp, kx⟩
  · have k := ck_at mn hm
    unfold CP at k
    rw [Bool.and_eq_true, Bool.and_eq_true] at k
    exact k.1
