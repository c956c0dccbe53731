set_option maxRecDepth 100000 in
theorem ck_236_0 : (((cde 236).drop 0).take 60).all (chkI (mO 236) (mB 236)) = true := by decide +kernel
set_option maxRecDepth 100000 in
theorem ck_236_1 : (((cde 236).drop 60).take 60).all (chkI (mO 236) (mB 236)) = true := by decide +kernel
set_option maxRecDepth 100000 in
theorem ck_236_2 : (((cde 236).drop 120).take 60).all (chkI (mO 236) (mB 236)) = true := by decide +kernel
set_option maxRecDepth 100000 in
theorem ck_236_3 : (((cde 236).drop 180).take 60).all (chkI (mO 236) (mB 236)) = true := by decide +kernel
set_option maxRecDepth 100000 in
theorem ck_236_4 : (((cde 236).drop 240).take 60).all (chkI (mO 236) (mB 236)) = true := by decide +kernel
set_option maxRecDepth 100000 in
theorem ck_236_5 : (((cde 236).drop 300).take 60).all (chkI (mO 236) (mB 236)) = true := by decide +kernel
set_option maxRecDepth 100000 in
theorem ck_236_6 : (((cde 236).drop 360).take 60).all (chkI (mO 236) (mB 236)) = true := by decide +kernel
set_option maxRecDepth 100000 in
theorem ck_236_7 : (((cde 236).drop 420).take 60).all (chkI (mO 236) (mB 236)) = true := by decide +kernel
set_option maxRecDepth 100000 in
theorem ck_236_8 : (((cde 236).drop 480).take 60).all (chkI (mO 236) (mB 236)) = true := by decide +kernel
set_option maxRecDepth 100000 in
theorem ck_236_9 : (((cde 236).drop 540).take 60).all (chkI (mO 236) (mB 236)) = true := by decide +kernel
set_option maxRecDepth 100000 in
theorem ck_236_10 : (((cde 236).drop 600).take 60).all (chkI (mO 236) (mB 236)) = true := by decide +kernel
set_option maxRecDepth 100000 in
theorem ck_236_11 : (((cde 236).drop 660).take 60).all (chkI (mO 236) (mB 236)) = true := by decide +kernel
set_option maxRecDepth 100000 in
theorem ck_236_12 : (((cde 236).drop 720).take 60).all (chkI (mO 236) (mB 236)) = true := by decide +kernel
set_option maxRecDepth 100000 in
theorem ck_236_13 : (((cde 236).drop 780).take 60).all (chkI (mO 236) (mB 236)) = true := by decide +kernel
set_option maxRecDepth 100000 in
theorem ck_236_14 : (((cde 236).drop 840).take 60).all (chkI (mO 236) (mB 236)) = true := by decide +kernel
set_option maxRecDepth 100000 in
theorem ck_236_15 : (((cde 236).drop 900).take 60).all (chkI (mO 236) (mB 236)) = true := by decide +kernel
set_option maxRecDepth 100000 in
theorem ck_236_16 : (((cde 236).drop 960).take 60).all (chkI (mO 236) (mB 236)) = true := by decide +kernel
theorem ck_236 : chkM 236 = true := ck_join (cde 236) (chkI (mO 236) (mB 236)) 60 17 (by decide +kernel) (fun i hi => match i, hi with
  | 0, _ => ck_236_0
  | 1, _ => ck_236_1
  | 2, _ => ck_236_2
  | 3, _ => ck_236_3
  | 4, _ => ck_236_4
  | 5, _ => ck_236_5
  | 6, _ => ck_236_6
  | 7, _ => ck_236_7
  | 8, _ => ck_236_8
  | 9, _ => ck_236_9
  | 10, _ => ck_236_10
  | 11, _ => ck_236_11
  | 12, _ => ck_236_12
  | 13, _ => ck_236_13
  | 14, _ => ck_236_14
  | 15, _ => ck_236_15
  | 16, _ => ck_236_16
  | i + 17, h => absurd h (by omega))
theorem chk_all : ∀ m, m < 237 → chkM m = true := fun m h => match m, h with
  | 0, _ => ck_0
  | 1, _ => ck_1
  | 2, _ => ck_2
  | 3, _ => ck_3
  | 4, _ => ck_4
  | 5, _ => ck_5
  | 6, _ => ck_6
  | 7, _ => ck_7
  | 8, _ => ck_8
  | 9, _ => ck_9
  | 10, _ => ck_10
  | 11, _ => ck_11
  | 12, _ => ck_12
  | 13, _ => ck_13
  | 14, _ => ck_14
  | 15, _ => ck_15
  | 16, _ => ck_16
  | 17, _ => ck_17
  | 18, _ => ck_18
  | 19, _ => ck_19
  | 20, _ => ck_20
  | 21, _ => ck_21
  | 22, _ => ck_22
  | 23, _ => ck_23
  | 24, _ => ck_24
  | 25, _ => ck_25
  | 26, _ => ck_26
  | 27, _ => ck_27
  | 28, _ => ck_28
  | 29, _ => ck_29
  | 30, _ => ck_30
  | 31, _ => ck_31
  | 32, _ => ck_32
  | 33, _ => ck_33
  | 34, _ => ck_34
  | 35, _ => ck_35
  | 36, _ => ck_36
  | 37, _ => ck_37
  | 38, _ => ck_38
  | 39, _ => ck_39
  | 40, _ => ck_40
  | 41, _ => ck_41
  | 42, _ => ck_42
  | 43, _ => ck_43
  | 44, _ => ck_44
  | 45, _ => ck_45
  | 46, _ => ck_46
  | 47, _ => ck_47
  | 48, _ => ck_48
  | 49, _ => ck_49
  | 50, _ => ck_50
  | 51, _ => ck_51
  | 52, _ => ck_52
  | 53, _ => ck_53
  | 54, _ => ck_54
  | 55, _ => ck_55
  | 56, _ => ck_56
  | 57, _ => ck_57
  | 58, _ => ck_58
  | 59, _ => ck_59
  | 60, _ => ck_60
  | 61, _ => ck_61
  | 62, _ => ck_62
  | 63, _ => ck_63
  | 64, _ => ck_64
  | 65, _ => ck_65
  | 66, _ => ck_66
  | 67, _ => ck_67
  | 68, _ => ck_68
  | 69, _ => ck_69
  | 70, _ => ck_70
  | 71, _ => ck_71
  | 72, _ => ck_72
  | 73, _ => ck_73
  | 74, _ => ck_74
  | 75, _ => ck_75
  | 76, _ => ck_76
  | 77, _ => ck_77
  | 78, _ => ck_78
  | 79, _ => ck_79
  | 80, _ => ck_80
  | 81, _ => ck_81
  | 82, _ => ck_82
  | 83, _ => ck_83
  | 84, _ => ck_84
  | 85, _ => ck_85
  | 86, _ => ck_86
  | 87, _ => ck_87
  | 88, _ => ck_88
  | 89, _ => ck_89
  | 90, _ => ck_90
  | 91, _ => ck_91
  | 92, _ => ck_92
  | 93, _ => ck_93
  | 94, _ => ck_94
  | 95, _ => ck_95
  | 96, _ => ck_96
  | 97, _ => ck_97
  | 98, _ => ck_98
  | 99, _ => ck_99
  | 100, _ => ck_100
  | 101, _ => ck_101
  | 102, _ => ck_102
  | 103, _ => ck_103
  | 104, _ => ck_104
  | 105, _ => ck_105
  | 106, _ => ck_106
  | 107, _ => ck_107
  | 108, _ => ck_108
  | 109, _ => ck_109
  | 110, _ => ck_110
  | 111, _ => ck_111
  | 112, _ => ck_112
  | 113, _ => ck_113
  | 114, _ => ck_114
  | 115, _ => ck_115
  | 116, _ => ck_116
  | 117, _ => ck_117
  | 118, _ => ck_118
  | 119, _ => ck_119
  | 120, _ => ck_120
  | 121, _ => ck_121
  | 122, _ => ck_122
  | 123, _ => ck_123
  | 124, _ => ck_124
  | 125, _ => ck_125
  | 126, _ => ck_126
  | 127, _ => ck_127
  | 128, _ => ck_128
  | 129, _ => ck_129
  | 130, _ => ck_130
  | 131, _ => ck_131
  | 132, _ => ck_132
  | 133, _ => ck_133
  | 134, _ => ck_134
  | 135, _ => ck_135
  | 136, _ => ck_136
  | 137, _ => ck_137
  | 138, _ => ck_138
  | 139, _ => ck_139
  | 140, _ => ck_140
  | 141, _ => ck_141
  | 142, _ => ck_142
  | 143, _ => ck_143
  | 144, _ => ck_144
  | 145, _ => ck_145
  | 146, _ => ck_146
  | 147, _ => ck_147
  | 148, _ => ck_148
  | 149, _ => ck_149
  | 150, _ => ck_150
  | 151, _ => ck_151
  | 152, _ => ck_152
  | 153, _ => ck_153
  | 154, _ => ck_154
  | 155, _ => ck_155
  | 156, _ => ck_156
  | 157, _ => ck_157
  | 158, _ => ck_158
  | 159, _ => ck_159
  | 160, _ => ck_160
  | 161, _ => ck_161
  | 162, _ => ck_162
  | 163, _ => ck_163
  | 164, _ => ck_164
  | 165, _ => ck_165
  | 166, _ => ck_166
  | 167, _ => ck_167
  | 168, _ => ck_168
  | 169, _ => ck_169
  | 170, _ => ck_170
  | 171, _ => ck_171
  | 172, _ => ck_172
  | 173, _ => ck_173
  | 174, _ => ck_174
  | 175, _ => ck_175
  | 176, _ => ck_176
  | 177, _ => ck_177
  | 178, _ => ck_178
  | 179, _ => ck_179
  | 180, _ => ck_180
  | 181, _ => ck_181
  | 182, _ => ck_182
  | 183, _ => ck_183
  | 184, _ => ck_184
  | 185, _ => ck_185
  | 186, _ => ck_186
  | 187, _ => ck_187
  | 188, _ => ck_188
  | 189, _ => ck_189
  | 190, _ => ck_190
  | 191, _ => ck_191
  | 192, _ => ck_192
  | 193, _ => ck_193
  | 194, _ => ck_194
  | 195, _ => ck_195
  | 196, _ => ck_196
  | 197, _ => ck_197
  | 198, _ => ck_198
  | 199, _ => ck_199
  | 200, _ => ck_200
  | 201, _ => ck_201
  | 202, _ => ck_202
  | 203, _ => ck_203
  | 204, _ => ck_204
  | 205, _ => ck_205
  | 206, _ => ck_206
  | 207, _ => ck_207
  | 208, _ => ck_208
  | 209, _ => ck_209
  | 210, _ => ck_210
  | 211, _ => ck_211
  | 212, _ => ck_212
  | 213, _ => ck_213
  | 214, _ => ck_214
  | 215, _ => ck_215
  | 216, _ => ck_216
  | 217, _ => ck_217
  | 218, _ => ck_218
  | 219, _ => ck_219
  | 220, _ => ck_220
  | 221, _ => ck_221
  | 222, _ => ck_222
  | 223, _ => ck_223
  | 224, _ => ck_224
  | 225, _ => ck_225
  | 226, _ => ck_226
  | 227, _ => ck_227
  | 228, _ => ck_228
  | 229, _ => ck_229
  | 230, _ => ck_230
  | 231, _ => ck_231
  | 232, _ => ck_232
  | 233, _ => ck_233
  | 234, _ => ck_234
  | 235, _ => ck_235
  | 236, _ => ck_236
  | m + 237, h => absurd h (by omega)
