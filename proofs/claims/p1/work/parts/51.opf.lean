/-! one call on a fresh object: the calls -/
/- needs: 0 1 20 21 22 23 24 25 26 27 28 29 30 32 40 41 42 50 -/
def zI_90 (xs : Nat → Int32) : mmI := mm_up (mm_I0 6 (mm_xat xs 1 0)) 33 3 0
def zI_91 (xs : Nat → Int32) : mmI := mm_up (zI_90 xs) 37 3 0
def zI_92 (xs : Nat → Int32) : mmI := mm_up (zI_91 xs) 40 3 0
def zI_93 (xs : Nat → Int32) : mmI := mm_up (zI_92 xs) 32 6 0
def zI_94 (xs : Nat → Int32) : mmI := mm_up (zI_93 xs) 32 7 (-1)
def zI_95 (xs : Nat → Int32) : mmI := mm_up (zI_94 xs) 32 8 0
def zI_96 (xs : Nat → Int32) : mmI := mm_up (zI_95 xs) 45 0 0
def zI_97 (xs : Nat → Int32) : mmI := mm_up (zI_96 xs) 45 1 1
def zI_98 (xs : Nat → Int32) : mmI := mm_up (zI_97 xs) 45 2 0
def zI_99 (xs : Nat → Int32) : mmI := mm_up (zI_98 xs) 32 10 0
def zI_100 (xs : Nat → Int32) : mmI := mm_up (zI_99 xs) 32 11 (-2)
def zI_101 (xs : Nat → Int32) : mmI := mm_up (zI_100 xs) 1 2 0
def zI_102 (xs : Nat → Int32) : mmI := mm_up (zI_101 xs) 1 1 0
def zI_103 (xs : Nat → Int32) : mmI := mm_up (zI_102 xs) 1 5 0
def zI_104 (xs : Nat → Int32) : mmI := mm_up (zI_103 xs) 1 12 0
def zI_105 (xs : Nat → Int32) : mmI := mm_up (zI_104 xs) 1 14 0
def zI_106 (xs : Nat → Int32) : mmI := mm_up (zI_105 xs) 1 4 0
def zI_107 (xs : Nat → Int32) : mmI := mm_up (zI_106 xs) 1 3 0
def zI_108 (xs : Nat → Int32) : mmI := mm_up (zI_107 xs) 1 14 1
def zI_109 (xs : Nat → Int32) : mmI := mm_up (zI_108 xs) 0 8 1
def zI_110 (xs : Nat → Int32) : mmI := mm_up (zI_109 xs) 0 9 0
def zI_111 (xs : Nat → Int32) : mmI := mm_up (zI_110 xs) 0 7 4
def zI_112 (xs : Nat → Int32) : mmI := mm_up (zI_111 xs) 46 0 0
def zI_113 (xs : Nat → Int32) : mmI := mm_up (zI_112 xs) 46 11 0
def zI_114 (xs : Nat → Int32) : mmI := mm_up (zI_113 xs) 46 2 0
def zI_115 (xs : Nat → Int32) : mmI := mm_up (zI_114 xs) 46 9 0
def zI_116 (xs : Nat → Int32) : mmI := mm_up (zI_115 xs) 46 13 0
def zI_117 (xs : Nat → Int32) : mmI := mm_up (zI_116 xs) 50 0 0
def zI_118 (xs : Nat → Int32) : mmI := mm_up (zI_117 xs) 50 1 0
def zI_119 (xs : Nat → Int32) : mmI := mm_up (zI_118 xs) 50 2 0
def zI_120 (xs : Nat → Int32) : mmI := mm_up (zI_119 xs) 50 3 0
def zI_121 (xs : Nat → Int32) : mmI := mm_up (zI_120 xs) 50 4 0
def zI_122 (xs : Nat → Int32) : mmI := mm_up (zI_121 xs) 50 5 0
def zI_123 (xs : Nat → Int32) : mmI := mm_up (zI_122 xs) 50 6 0
def zI_124 (xs : Nat → Int32) : mmI := mm_up (zI_123 xs) 50 7 0
def zI_125 (xs : Nat → Int32) : mmI := mm_up (zI_124 xs) 50 8 0
def zI_126 (xs : Nat → Int32) : mmI := mm_up (zI_125 xs) 50 9 0
def zI_127 (xs : Nat → Int32) : mmI := mm_up (zI_126 xs) 50 10 0
def zI_128 (xs : Nat → Int32) : mmI := mm_up (zI_127 xs) 50 11 0
def zI_129 (xs : Nat → Int32) : mmI := mm_up (zI_128 xs) 50 12 0
def zI_130 (xs : Nat → Int32) : mmI := mm_up (zI_129 xs) 50 13 0
def zI_131 (xs : Nat → Int32) : mmI := mm_up (zI_130 xs) 50 14 0
def zI_132 (xs : Nat → Int32) : mmI := mm_up (zI_131 xs) 50 15 0
def zI_133 (xs : Nat → Int32) : mmI := mm_up (zI_132 xs) 50 16 0
def zI_134 (xs : Nat → Int32) : mmI := mm_up (zI_133 xs) 50 17 0
def zI_135 (xs : Nat → Int32) : mmI := mm_up (zI_134 xs) 50 18 0
def zI_136 (xs : Nat → Int32) : mmI := mm_up (zI_135 xs) 50 19 0
def zI_137 (xs : Nat → Int32) : mmI := mm_up (zI_136 xs) 50 20 0
def zI_138 (xs : Nat → Int32) : mmI := mm_up (zI_137 xs) 50 21 0
def zI_139 (xs : Nat → Int32) : mmI := mm_up (zI_138 xs) 50 22 0
def zI_140 (xs : Nat → Int32) : mmI := mm_up (zI_139 xs) 50 23 0
def zI_141 (xs : Nat → Int32) : mmI := mm_up (zI_140 xs) 50 24 0
def zI_142 (xs : Nat → Int32) : mmI := mm_up (zI_141 xs) 50 25 0
def zI_143 (xs : Nat → Int32) : mmI := mm_up (zI_142 xs) 50 26 0
def zI_144 (xs : Nat → Int32) : mmI := mm_up (zI_143 xs) 50 27 0
def zI_145 (xs : Nat → Int32) : mmI := mm_up (zI_144 xs) 50 28 0
def zI_146 (xs : Nat → Int32) : mmI := mm_up (zI_145 xs) 50 29 0
def zI_147 (xs : Nat → Int32) : mmI := mm_up (zI_146 xs) 50 30 0
def zI_148 (xs : Nat → Int32) : mmI := mm_up (zI_147 xs) 50 31 0
def zI_149 (xs : Nat → Int32) : mmI := mm_up (zI_148 xs) 50 32 0
def zI_150 (xs : Nat → Int32) : mmI := mm_up (zI_149 xs) 50 33 0
def zI_151 (xs : Nat → Int32) : mmI := mm_up (zI_150 xs) 50 34 0
def zI_152 (xs : Nat → Int32) : mmI := mm_up (zI_151 xs) 50 35 0
def zI_153 (xs : Nat → Int32) : mmI := mm_up (zI_152 xs) 50 36 0
def zI_154 (xs : Nat → Int32) : mmI := mm_up (zI_153 xs) 50 37 0
def zI_155 (xs : Nat → Int32) : mmI := mm_up (zI_154 xs) 50 38 0
def zI_156 (xs : Nat → Int32) : mmI := mm_up (zI_155 xs) 50 39 0
def zI_157 (xs : Nat → Int32) : mmI := mm_up (zI_156 xs) 50 40 0
def zI_158 (xs : Nat → Int32) : mmI := mm_up (zI_157 xs) 50 41 0
def zI_159 (xs : Nat → Int32) : mmI := mm_up (zI_158 xs) 50 42 0
def zI_160 (xs : Nat → Int32) : mmI := mm_up (zI_159 xs) 50 43 0
def zI_161 (xs : Nat → Int32) : mmI := mm_up (zI_160 xs) 50 44 0
def zI_162 (xs : Nat → Int32) : mmI := mm_up (zI_161 xs) 50 45 0
def zI_163 (xs : Nat → Int32) : mmI := mm_up (zI_162 xs) 50 46 0
def zI_164 (xs : Nat → Int32) : mmI := mm_up (zI_163 xs) 50 47 0
def zI_165 (xs : Nat → Int32) : mmI := mm_up (zI_164 xs) 50 48 0
def zI_166 (xs : Nat → Int32) : mmI := mm_up (zI_165 xs) 50 49 0
def zI_167 (xs : Nat → Int32) : mmI := mm_up (zI_166 xs) 50 50 0
def zI_168 (xs : Nat → Int32) : mmI := mm_up (zI_167 xs) 50 51 0
def zI_169 (xs : Nat → Int32) : mmI := mm_up (zI_168 xs) 50 52 0
def zI_170 (xs : Nat → Int32) : mmI := mm_up (zI_169 xs) 50 53 0
def zI_171 (xs : Nat → Int32) : mmI := mm_up (zI_170 xs) 50 54 0
def zI_172 (xs : Nat → Int32) : mmI := mm_up (zI_171 xs) 50 55 0
def zI_173 (xs : Nat → Int32) : mmI := mm_up (zI_172 xs) 50 56 0
def zI_174 (xs : Nat → Int32) : mmI := mm_up (zI_173 xs) 50 57 0
def zI_175 (xs : Nat → Int32) : mmI := mm_up (zI_174 xs) 50 58 0
def zI_176 (xs : Nat → Int32) : mmI := mm_up (zI_175 xs) 50 59 0
def zI_177 (xs : Nat → Int32) : mmI := mm_up (zI_176 xs) 50 60 0
def zI_178 (xs : Nat → Int32) : mmI := mm_up (zI_177 xs) 50 61 0
def zI_179 (xs : Nat → Int32) : mmI := mm_up (zI_178 xs) 50 62 0
def zI_180 (xs : Nat → Int32) : mmI := mm_up (zI_179 xs) 50 63 0
def zI_181 (xs : Nat → Int32) : mmI := mm_up (zI_180 xs) 50 64 0
def zI_182 (xs : Nat → Int32) : mmI := mm_up (zI_181 xs) 50 65 0
def zI_183 (xs : Nat → Int32) : mmI := mm_up (zI_182 xs) 50 66 0
def zI_184 (xs : Nat → Int32) : mmI := mm_up (zI_183 xs) 50 67 0
def zI_185 (xs : Nat → Int32) : mmI := mm_up (zI_184 xs) 50 68 0
def zI_186 (xs : Nat → Int32) : mmI := mm_up (zI_185 xs) 50 69 0
def zI_187 (xs : Nat → Int32) : mmI := mm_up (zI_186 xs) 50 70 0
def zI_188 (xs : Nat → Int32) : mmI := mm_up (zI_187 xs) 50 71 0
def zI_189 (xs : Nat → Int32) : mmI := mm_up (zI_188 xs) 50 72 0
def zI_190 (xs : Nat → Int32) : mmI := mm_up (zI_189 xs) 50 73 0
def zI_191 (xs : Nat → Int32) : mmI := mm_up (zI_190 xs) 50 74 0
def zI_192 (xs : Nat → Int32) : mmI := mm_up (zI_191 xs) 50 75 0
def zI_193 (xs : Nat → Int32) : mmI := mm_up (zI_192 xs) 50 76 0
def zI_194 (xs : Nat → Int32) : mmI := mm_up (zI_193 xs) 50 77 0
def zI_195 (xs : Nat → Int32) : mmI := mm_up (zI_194 xs) 50 78 0
def zI_196 (xs : Nat → Int32) : mmI := mm_up (zI_195 xs) 50 79 0
def zI_197 (xs : Nat → Int32) : mmI := mm_up (zI_196 xs) 50 80 0
def zI_198 (xs : Nat → Int32) : mmI := mm_up (zI_197 xs) 50 81 0
def zI_199 (xs : Nat → Int32) : mmI := mm_up (zI_198 xs) 50 82 0
def zI_200 (xs : Nat → Int32) : mmI := mm_up (zI_199 xs) 50 83 0
def zI_201 (xs : Nat → Int32) : mmI := mm_up (zI_200 xs) 50 84 0
def zI_202 (xs : Nat → Int32) : mmI := mm_up (zI_201 xs) 50 85 0
def zI_203 (xs : Nat → Int32) : mmI := mm_up (zI_202 xs) 50 86 0
def zI_204 (xs : Nat → Int32) : mmI := mm_up (zI_203 xs) 50 87 0
def zI_205 (xs : Nat → Int32) : mmI := mm_up (zI_204 xs) 50 88 0
def zI_206 (xs : Nat → Int32) : mmI := mm_up (zI_205 xs) 50 89 0
def zI_207 (xs : Nat → Int32) : mmI := mm_up (zI_206 xs) 50 90 0
def zI_208 (xs : Nat → Int32) : mmI := mm_up (zI_207 xs) 50 91 0
def zI_209 (xs : Nat → Int32) : mmI := mm_up (zI_208 xs) 50 92 0
def zI_210 (xs : Nat → Int32) : mmI := mm_up (zI_209 xs) 50 93 0
def zI_211 (xs : Nat → Int32) : mmI := mm_up (zI_210 xs) 50 94 0
def zI_212 (xs : Nat → Int32) : mmI := mm_up (zI_211 xs) 50 95 0
def zI_213 (xs : Nat → Int32) : mmI := mm_up (zI_212 xs) 50 96 0
def zI_214 (xs : Nat → Int32) : mmI := mm_up (zI_213 xs) 50 97 0
def zI_215 (xs : Nat → Int32) : mmI := mm_up (zI_214 xs) 50 98 0
def zI_216 (xs : Nat → Int32) : mmI := mm_up (zI_215 xs) 50 99 0
def zI_217 (xs : Nat → Int32) : mmI := mm_up (zI_216 xs) 50 100 0
def zI_218 (xs : Nat → Int32) : mmI := mm_up (zI_217 xs) 50 101 0
def zI_219 (xs : Nat → Int32) : mmI := mm_up (zI_218 xs) 50 102 0
def zI_220 (xs : Nat → Int32) : mmI := mm_up (zI_219 xs) 50 103 0
def zI_221 (xs : Nat → Int32) : mmI := mm_up (zI_220 xs) 50 104 0
def zI_222 (xs : Nat → Int32) : mmI := mm_up (zI_221 xs) 50 105 0
def zI_223 (xs : Nat → Int32) : mmI := mm_up (zI_222 xs) 50 106 0
def zI_224 (xs : Nat → Int32) : mmI := mm_up (zI_223 xs) 50 107 0
def zI_225 (xs : Nat → Int32) : mmI := mm_up (zI_224 xs) 50 108 0
def zI_226 (xs : Nat → Int32) : mmI := mm_up (zI_225 xs) 50 109 0
def zI_227 (xs : Nat → Int32) : mmI := mm_up (zI_226 xs) 50 110 0
def zI_228 (xs : Nat → Int32) : mmI := mm_up (zI_227 xs) 50 111 0
def zI_229 (xs : Nat → Int32) : mmI := mm_up (zI_228 xs) 50 112 0
def zI_230 (xs : Nat → Int32) : mmI := mm_up (zI_229 xs) 50 113 0
def zI_231 (xs : Nat → Int32) : mmI := mm_up (zI_230 xs) 50 114 0
def zI_232 (xs : Nat → Int32) : mmI := mm_up (zI_231 xs) 50 115 0
def zI_233 (xs : Nat → Int32) : mmI := mm_up (zI_232 xs) 50 116 0
def zI_234 (xs : Nat → Int32) : mmI := mm_up (zI_233 xs) 50 117 0
def zI_235 (xs : Nat → Int32) : mmI := mm_up (zI_234 xs) 50 118 0
def zI_236 (xs : Nat → Int32) : mmI := mm_up (zI_235 xs) 50 119 0
def zI_237 (xs : Nat → Int32) : mmI := mm_up (zI_236 xs) 50 120 0
def zI_238 (xs : Nat → Int32) : mmI := mm_up (zI_237 xs) 50 121 0
def zI_239 (xs : Nat → Int32) : mmI := mm_up (zI_238 xs) 50 122 0
def zI_240 (xs : Nat → Int32) : mmI := mm_up (zI_239 xs) 50 123 0
def zI_241 (xs : Nat → Int32) : mmI := mm_up (zI_240 xs) 50 124 0
def zI_242 (xs : Nat → Int32) : mmI := mm_up (zI_241 xs) 50 125 0
def zI_243 (xs : Nat → Int32) : mmI := mm_up (zI_242 xs) 50 126 0
def zI_244 (xs : Nat → Int32) : mmI := mm_up (zI_243 xs) 50 127 0
def zI_245 (xs : Nat → Int32) : mmI := mm_up (zI_244 xs) 50 128 0
def zI_246 (xs : Nat → Int32) : mmI := mm_up (zI_245 xs) 50 129 0
def zI_247 (xs : Nat → Int32) : mmI := mm_up (zI_246 xs) 50 130 0
def zI_248 (xs : Nat → Int32) : mmI := mm_up (zI_247 xs) 50 131 0
def zI_249 (xs : Nat → Int32) : mmI := mm_up (zI_248 xs) 50 132 0
def zI_250 (xs : Nat → Int32) : mmI := mm_up (zI_249 xs) 50 133 0
def zI_251 (xs : Nat → Int32) : mmI := mm_up (zI_250 xs) 50 134 0
def zI_252 (xs : Nat → Int32) : mmI := mm_up (zI_251 xs) 50 135 0
def zI_253 (xs : Nat → Int32) : mmI := mm_up (zI_252 xs) 50 136 0
def zI_254 (xs : Nat → Int32) : mmI := mm_up (zI_253 xs) 50 137 0
def zI_255 (xs : Nat → Int32) : mmI := mm_up (zI_254 xs) 50 138 0
def zI_256 (xs : Nat → Int32) : mmI := mm_up (zI_255 xs) 50 139 0
def zI_257 (xs : Nat → Int32) : mmI := mm_up (zI_256 xs) 50 140 0
def zI_258 (xs : Nat → Int32) : mmI := mm_up (zI_257 xs) 50 141 0
def zI_259 (xs : Nat → Int32) : mmI := mm_up (zI_258 xs) 50 142 0
def zI_260 (xs : Nat → Int32) : mmI := mm_up (zI_259 xs) 50 143 0
def zI_261 (xs : Nat → Int32) : mmI := mm_up (zI_260 xs) 50 144 0
def zI_262 (xs : Nat → Int32) : mmI := mm_up (zI_261 xs) 50 145 0
def zI_263 (xs : Nat → Int32) : mmI := mm_up (zI_262 xs) 50 146 0
def zI_264 (xs : Nat → Int32) : mmI := mm_up (zI_263 xs) 50 147 0
def zI_265 (xs : Nat → Int32) : mmI := mm_up (zI_264 xs) 50 148 0
def zI_266 (xs : Nat → Int32) : mmI := mm_up (zI_265 xs) 50 149 0
def zI_267 (xs : Nat → Int32) : mmI := mm_up (zI_266 xs) 50 150 0
def zI_268 (xs : Nat → Int32) : mmI := mm_up (zI_267 xs) 50 151 0
def zI_269 (xs : Nat → Int32) : mmI := mm_up (zI_268 xs) 50 152 0
def zI_270 (xs : Nat → Int32) : mmI := mm_up (zI_269 xs) 50 153 0
def zI_271 (xs : Nat → Int32) : mmI := mm_up (zI_270 xs) 50 154 0
def zI_272 (xs : Nat → Int32) : mmI := mm_up (zI_271 xs) 50 155 0
def zI_273 (xs : Nat → Int32) : mmI := mm_up (zI_272 xs) 50 156 0
def zI_274 (xs : Nat → Int32) : mmI := mm_up (zI_273 xs) 50 157 0
def zI_275 (xs : Nat → Int32) : mmI := mm_up (zI_274 xs) 50 158 0
def zI_276 (xs : Nat → Int32) : mmI := mm_up (zI_275 xs) 50 159 0
def zI_277 (xs : Nat → Int32) : mmI := mm_up (zI_276 xs) 50 160 0
def zI_278 (xs : Nat → Int32) : mmI := mm_up (zI_277 xs) 50 161 0
def zI_279 (xs : Nat → Int32) : mmI := mm_up (zI_278 xs) 50 162 0
def zI_280 (xs : Nat → Int32) : mmI := mm_up (zI_279 xs) 50 163 0
def zI_281 (xs : Nat → Int32) : mmI := mm_up (zI_280 xs) 50 164 0
def zI_282 (xs : Nat → Int32) : mmI := mm_up (zI_281 xs) 50 165 0
def zI_283 (xs : Nat → Int32) : mmI := mm_up (zI_282 xs) 50 166 0
def zI_284 (xs : Nat → Int32) : mmI := mm_up (zI_283 xs) 50 167 0
def zI_285 (xs : Nat → Int32) : mmI := mm_up (zI_284 xs) 50 168 0
def zI_286 (xs : Nat → Int32) : mmI := mm_up (zI_285 xs) 50 169 0
def zI_287 (xs : Nat → Int32) : mmI := mm_up (zI_286 xs) 50 170 0
def zI_288 (xs : Nat → Int32) : mmI := mm_up (zI_287 xs) 50 171 0
def zI_289 (xs : Nat → Int32) : mmI := mm_up (zI_288 xs) 50 172 0
def zI_290 (xs : Nat → Int32) : mmI := mm_up (zI_289 xs) 50 173 0
def zI_291 (xs : Nat → Int32) : mmI := mm_up (zI_290 xs) 50 174 0
def zI_292 (xs : Nat → Int32) : mmI := mm_up (zI_291 xs) 50 175 0
def zI_293 (xs : Nat → Int32) : mmI := mm_up (zI_292 xs) 50 176 0
def zI_294 (xs : Nat → Int32) : mmI := mm_up (zI_293 xs) 50 177 0
def zI_295 (xs : Nat → Int32) : mmI := mm_up (zI_294 xs) 50 178 0
def zI_296 (xs : Nat → Int32) : mmI := mm_up (zI_295 xs) 50 179 0
def zI_297 (xs : Nat → Int32) : mmI := mm_up (zI_296 xs) 50 180 0
def zI_298 (xs : Nat → Int32) : mmI := mm_up (zI_297 xs) 50 181 0
def zI_299 (xs : Nat → Int32) : mmI := mm_up (zI_298 xs) 50 182 0
def zI_300 (xs : Nat → Int32) : mmI := mm_up (zI_299 xs) 50 183 0
def zI_301 (xs : Nat → Int32) : mmI := mm_up (zI_300 xs) 50 184 0
def zI_302 (xs : Nat → Int32) : mmI := mm_up (zI_301 xs) 50 185 0
def zI_303 (xs : Nat → Int32) : mmI := mm_up (zI_302 xs) 50 186 0
def zI_304 (xs : Nat → Int32) : mmI := mm_up (zI_303 xs) 50 187 0
def zI_305 (xs : Nat → Int32) : mmI := mm_up (zI_304 xs) 50 188 0
def zI_306 (xs : Nat → Int32) : mmI := mm_up (zI_305 xs) 50 189 0
def zI_307 (xs : Nat → Int32) : mmI := mm_up (zI_306 xs) 50 190 0
def zI_308 (xs : Nat → Int32) : mmI := mm_up (zI_307 xs) 50 191 0
def zI_309 (xs : Nat → Int32) : mmI := mm_up (zI_308 xs) 50 192 0
def zI_310 (xs : Nat → Int32) : mmI := mm_up (zI_309 xs) 50 193 0
def zI_311 (xs : Nat → Int32) : mmI := mm_up (zI_310 xs) 50 194 0
def zI_312 (xs : Nat → Int32) : mmI := mm_up (zI_311 xs) 50 195 0
def zI_313 (xs : Nat → Int32) : mmI := mm_up (zI_312 xs) 50 196 0
def zI_314 (xs : Nat → Int32) : mmI := mm_up (zI_313 xs) 50 197 0
def zI_315 (xs : Nat → Int32) : mmI := mm_up (zI_314 xs) 50 198 0
def zI_316 (xs : Nat → Int32) : mmI := mm_up (zI_315 xs) 50 199 0
def zI_317 (xs : Nat → Int32) : mmI := mm_up (zI_316 xs) 50 200 0
def zI_318 (xs : Nat → Int32) : mmI := mm_up (zI_317 xs) 50 201 0
def zI_319 (xs : Nat → Int32) : mmI := mm_up (zI_318 xs) 50 202 0
def zI_320 (xs : Nat → Int32) : mmI := mm_up (zI_319 xs) 50 203 0
def zI_321 (xs : Nat → Int32) : mmI := mm_up (zI_320 xs) 50 204 0
def zI_322 (xs : Nat → Int32) : mmI := mm_up (zI_321 xs) 50 205 0
def zI_323 (xs : Nat → Int32) : mmI := mm_up (zI_322 xs) 50 206 0
def zI_324 (xs : Nat → Int32) : mmI := mm_up (zI_323 xs) 50 207 0
def zI_325 (xs : Nat → Int32) : mmI := mm_up (zI_324 xs) 50 208 0
def zI_326 (xs : Nat → Int32) : mmI := mm_up (zI_325 xs) 50 209 0
def zI_327 (xs : Nat → Int32) : mmI := mm_up (zI_326 xs) 50 210 0
def zI_328 (xs : Nat → Int32) : mmI := mm_up (zI_327 xs) 50 211 0
def zI_329 (xs : Nat → Int32) : mmI := mm_up (zI_328 xs) 50 212 0
def zI_330 (xs : Nat → Int32) : mmI := mm_up (zI_329 xs) 50 213 0
def zI_331 (xs : Nat → Int32) : mmI := mm_up (zI_330 xs) 50 214 0
def zI_332 (xs : Nat → Int32) : mmI := mm_up (zI_331 xs) 50 215 0
def zI_333 (xs : Nat → Int32) : mmI := mm_up (zI_332 xs) 50 216 0
def zI_334 (xs : Nat → Int32) : mmI := mm_up (zI_333 xs) 50 217 0
def zI_335 (xs : Nat → Int32) : mmI := mm_up (zI_334 xs) 50 218 0
def zI_336 (xs : Nat → Int32) : mmI := mm_up (zI_335 xs) 50 219 0
def zI_337 (xs : Nat → Int32) : mmI := mm_up (zI_336 xs) 50 220 0
def zI_338 (xs : Nat → Int32) : mmI := mm_up (zI_337 xs) 50 221 0
def zI_339 (xs : Nat → Int32) : mmI := mm_up (zI_338 xs) 50 222 0
def zI_340 (xs : Nat → Int32) : mmI := mm_up (zI_339 xs) 50 223 0
def zI_341 (xs : Nat → Int32) : mmI := mm_up (zI_340 xs) 50 224 0
def zI_342 (xs : Nat → Int32) : mmI := mm_up (zI_341 xs) 50 225 0
def zI_343 (xs : Nat → Int32) : mmI := mm_up (zI_342 xs) 50 226 0
def zI_344 (xs : Nat → Int32) : mmI := mm_up (zI_343 xs) 50 227 0
def zI_345 (xs : Nat → Int32) : mmI := mm_up (zI_344 xs) 50 228 0
def zI_346 (xs : Nat → Int32) : mmI := mm_up (zI_345 xs) 50 229 0
def zI_347 (xs : Nat → Int32) : mmI := mm_up (zI_346 xs) 50 230 0
def zI_348 (xs : Nat → Int32) : mmI := mm_up (zI_347 xs) 50 231 0
def zI_349 (xs : Nat → Int32) : mmI := mm_up (zI_348 xs) 50 232 0
def zI_350 (xs : Nat → Int32) : mmI := mm_up (zI_349 xs) 50 233 0
def zI_351 (xs : Nat → Int32) : mmI := mm_up (zI_350 xs) 50 234 0
def zI_352 (xs : Nat → Int32) : mmI := mm_up (zI_351 xs) 50 235 0
def zI_353 (xs : Nat → Int32) : mmI := mm_up (zI_352 xs) 50 236 0
def zI_354 (xs : Nat → Int32) : mmI := mm_up (zI_353 xs) 50 237 0
def zI_355 (xs : Nat → Int32) : mmI := mm_up (zI_354 xs) 50 238 0
def zI_356 (xs : Nat → Int32) : mmI := mm_up (zI_355 xs) 50 239 0
def zI_357 (xs : Nat → Int32) : mmI := mm_up (zI_356 xs) 50 240 0
def zI_358 (xs : Nat → Int32) : mmI := mm_up (zI_357 xs) 50 241 0
def zI_359 (xs : Nat → Int32) : mmI := mm_up (zI_358 xs) 50 242 0
def zI_360 (xs : Nat → Int32) : mmI := mm_up (zI_359 xs) 50 243 0
def zI_361 (xs : Nat → Int32) : mmI := mm_up (zI_360 xs) 50 244 0
def zI_362 (xs : Nat → Int32) : mmI := mm_up (zI_361 xs) 50 245 0
def zI_363 (xs : Nat → Int32) : mmI := mm_up (zI_362 xs) 50 246 0
def zI_364 (xs : Nat → Int32) : mmI := mm_up (zI_363 xs) 50 247 0
def zI_365 (xs : Nat → Int32) : mmI := mm_up (zI_364 xs) 50 248 0
def zI_366 (xs : Nat → Int32) : mmI := mm_up (zI_365 xs) 50 249 0
def zI_367 (xs : Nat → Int32) : mmI := mm_up (zI_366 xs) 50 250 0
def zI_368 (xs : Nat → Int32) : mmI := mm_up (zI_367 xs) 50 251 0
def zI_369 (xs : Nat → Int32) : mmI := mm_up (zI_368 xs) 50 252 0
def zI_370 (xs : Nat → Int32) : mmI := mm_up (zI_369 xs) 50 253 0
def zI_371 (xs : Nat → Int32) : mmI := mm_up (zI_370 xs) 50 254 0
def zI_372 (xs : Nat → Int32) : mmI := mm_up (zI_371 xs) 50 255 0
def zI_373 (xs : Nat → Int32) : mmI := mm_up (zI_372 xs) 50 256 0
def zI_374 (xs : Nat → Int32) : mmI := mm_up (zI_373 xs) 50 257 0
def zI_375 (xs : Nat → Int32) : mmI := mm_up (zI_374 xs) 50 258 0
def zI_376 (xs : Nat → Int32) : mmI := mm_up (zI_375 xs) 50 259 0
def zI_377 (xs : Nat → Int32) : mmI := mm_up (zI_376 xs) 50 260 0
def zI_378 (xs : Nat → Int32) : mmI := mm_up (zI_377 xs) 50 261 0
def zI_379 (xs : Nat → Int32) : mmI := mm_up (zI_378 xs) 50 262 0
def zI_380 (xs : Nat → Int32) : mmI := mm_up (zI_379 xs) 50 263 0
def zI_381 (xs : Nat → Int32) : mmI := mm_up (zI_380 xs) 50 264 0
def zI_382 (xs : Nat → Int32) : mmI := mm_up (zI_381 xs) 50 265 0
def zI_383 (xs : Nat → Int32) : mmI := mm_up (zI_382 xs) 50 266 0
def zI_384 (xs : Nat → Int32) : mmI := mm_up (zI_383 xs) 50 267 0
def zI_385 (xs : Nat → Int32) : mmI := mm_up (zI_384 xs) 50 268 0
def zI_386 (xs : Nat → Int32) : mmI := mm_up (zI_385 xs) 50 269 0
def zI_387 (xs : Nat → Int32) : mmI := mm_up (zI_386 xs) 50 270 0
def zI_388 (xs : Nat → Int32) : mmI := mm_up (zI_387 xs) 50 271 0
def zI_389 (xs : Nat → Int32) : mmI := mm_up (zI_388 xs) 50 272 0
def zI_390 (xs : Nat → Int32) : mmI := mm_up (zI_389 xs) 50 273 0
def zI_391 (xs : Nat → Int32) : mmI := mm_up (zI_390 xs) 50 274 0
def zI_392 (xs : Nat → Int32) : mmI := mm_up (zI_391 xs) 50 275 0
def zI_393 (xs : Nat → Int32) : mmI := mm_up (zI_392 xs) 50 276 0
def zI_394 (xs : Nat → Int32) : mmI := mm_up (zI_393 xs) 50 277 0
def zI_395 (xs : Nat → Int32) : mmI := mm_up (zI_394 xs) 50 278 0
def zI_396 (xs : Nat → Int32) : mmI := mm_up (zI_395 xs) 46 3 0
def zI_397 (xs : Nat → Int32) : mmI := mm_up (zI_396 xs) 46 5 0
def zI_398 (xs : Nat → Int32) : mmI := mm_up (zI_397 xs) 46 4 0
def zI_399 (xs : Nat → Int32) : mmI := mm_up (zI_398 xs) 46 8 0
def zI_400 (xs : Nat → Int32) : mmI := mm_up (zI_399 xs) 46 7 0
def zI_401 (xs : Nat → Int32) : mmI := mm_up (zI_400 xs) 46 6 0
def zI_402 (xs : Nat → Int32) : mmI := mm_up (zI_401 xs) 46 5 0
def zI_403 (xs : Nat → Int32) : mmI := mm_up (zI_402 xs) 46 13 1
def zI_404 (xs : Nat → Int32) : mmI := mm_up (zI_403 xs) 46 9 1
def zI_405 (xs : Nat → Int32) : mmI := mm_up (zI_404 xs) 46 10 0
def zI_406 (xs : Nat → Int32) : mmI := mm_up (zI_405 xs) 46 11 4
set_option maxRecDepth 20000 in
set_option maxHeartbeats 4000000 in
theorem op_1b (ad : Nat → Nat) (xs : Nat → Int32) : mm_w (fun v _ => v = some (.int 1)) (mm_wc 210) bk_law 297 [some (.ref 68), some (.ref 0), some (.ref 46), some (.ref 65), some (.int 0), none, none] [] (mm_s0 ad 6 (mm_xat xs 1 0)) := by
  refine mm_go [] 600 ?_
  refine mm_ob (P := vp_in 1 (nI 6).toNatClampNeg) (mm_inl (by decide)) ?_
  show mm_b _ _ _ _ _ [some (.ref 68), some (.ref 0), some (.ref 46), some (.ref 65), some (.int 0), none, none] [.int 0, .ref 0] ((fun _ => false, 599936, 6869426, true, false, ad), (mm_I0 6 (mm_xat xs 1 0)), (fun _ _ => 0))
  refine mm_e1 ?_
  refine mm_iv 600 (by rfl) ?_
  show mm_k _ _ _ _ _ [some (.ref 0), some (.int 0), none] [] ((fun _ => false, 0, 0, true, false, ad), (mm_I0 6 (mm_xat xs 1 0)), (fun _ _ => 0))
  refine mm_el (c := (0 : Int32) < 0) (d := ¬ (0 : Int32) < 0) (by decide) ?_
  show mm_b _ _ _ _ _ [some (.ref 0), some (.int 0), none] [] ((fun _ => false, 0, 0, true, false, ad), (mm_I0 6 (mm_xat xs 1 0)), (fun _ _ => 0))
  refine mm_tk (c := (0 : Int32) ≤ 0) (d := ¬ (0 : Int32) ≤ 0) (by decide) ?_
  show mm_u _ _ _ _ _ _ [some (.ref 0), some (.int 0), none] [] ((fun _ => false, 0, 0, true, false, ad), (mm_I0 6 (mm_xat xs 1 0)), (fun _ _ => 0))
  refine mm_iv 600 (by rfl) ?_
  show mm_k _ _ _ _ _ [some (.ref 1), some (.int 0), none, none] [] ((fun _ => false, 0, 0, true, false, ad), (mm_I0 6 (mm_xat xs 1 0)), (fun _ _ => 0))
  refine mm_iv 600 (by rfl) ?_
  show mm_k _ _ _ _ _ [some (.ref 32)] [] ((fun _ => false, 0, 0, true, false, ad), (mm_I0 6 (mm_xat xs 1 0)), (fun _ _ => 0))
  refine mm_ob (P := vp_in 0 3) (mm_inl (by decide)) ?_
  show mm_b _ _ _ _ _ [some (.ref 32)] [] ((fun _ => false, 0, 0, true, false, ad), (zI_96 xs), (fun _ _ => 0))
  refine mm_ob (P := vp_in 1 3) (mm_inl (by decide)) ?_
  show mm_b _ _ _ _ _ [some (.ref 32)] [] ((fun _ => false, 0, 0, true, false, ad), (zI_97 xs), (fun _ _ => 0))
  refine mm_ob (P := vp_in 2 3) (mm_inl (by decide)) ?_
  show mm_b _ _ _ _ _ [some (.ref 32)] [] ((fun _ => false, 0, 0, true, false, ad), (zI_98 xs), (fun _ _ => 0))
  refine mm_ob (P := (0 : Int32) = 0 ∨ (0 : Int32) = 1) (by decide) ?_
  refine mm_q0 ⟨rfl, ?_⟩
  show mm_b _ _ _ _ _ [some (.ref 1), some (.int 0), none, none] [] ((fun _ => false, 0, 0, true, false, ad), (zI_100 xs), (fun _ _ => 0))
  refine mm_q1 (r := if 0 < 0 then 0 else 0) ⟨rfl, ?_⟩
  show mm_b _ _ _ _ _ [some (.ref 1), some (.int 0), none, none] [.int 0, .ref 1] ((fun _ => false, 0, 0, true, false, ad), (zI_100 xs), (fun _ _ => 0))
  refine mm_iv 600 (by rfl) ?_
  show mm_k _ _ _ _ _ [some (.ref 1)] [] ((fun _ => false, 0, 0, true, false, ad), (zI_105 xs), (fun _ _ => 0))
  refine mm_tk (c := (0 : Int32) ≤ 0) (d := ¬ (0 : Int32) ≤ 0) (by decide) ?_
  show mm_u _ _ _ _ _ _ [some (.ref 1)] [] ((fun _ => false, 0, 0, true, false, ad), (zI_105 xs), (fun _ _ => 0))
  refine mm_el (c := (0 : Int32) < 0) (d := ¬ (0 : Int32) < 0) (by decide) ?_
  show mm_b _ _ _ _ _ [some (.ref 1)] [] ((fun _ => false, 0, 0, true, false, ad), (zI_106 xs), (fun _ _ => 0))
  refine mm_q0 ⟨rfl, ?_⟩
  show mm_b _ _ _ _ _ [some (.ref 1), some (.int 0), none, none] [] ((fun _ => false, 0, 0, true, false, ad), (zI_107 xs), (fun _ _ => 0))
  refine mm_iv 600 (by rfl) ?_
  show mm_k _ _ _ _ _ [some (.ref 1)] [] ((fun _ => false, 0, 0, true, false, ad), (zI_107 xs), (fun _ _ => 0))
  refine mm_iv 600 (by rfl) ?_
  show mm_k _ _ _ _ _ [some (.ref 1), some (.ref 98), none] [] ((fun _ => false, 0, 0, true, false, ad), (zI_107 xs), (fun _ _ => 0))
  refine mm_tk (c := ¬ (0 : Int32) = 1) (d := (0 : Int32) = 1) (by decide) ?_
  show mm_u _ _ _ _ _ _ [some (.ref 1), some (.ref 98), none] [] ((fun _ => false, 0, 0, true, false, ad), (zI_107 xs), (fun _ _ => 0))
  refine mm_ob (P := (0 : Int32) = 0 ∨ (0 : Int32) = 1) (by decide) ?_
  refine mm_q1 (r := 0) ⟨rfl, ?_⟩
  show mm_b _ _ _ _ _ [some (.ref 1)] [.int 0] ((fun _ => false, 0, 0, true, false, ad), (zI_107 xs), (fun _ _ => 0))
  refine mm_tk (c := (0 : Int32) = 0) (d := ¬ (0 : Int32) = 0) (by decide) ?_
  show mm_u _ _ _ _ _ _ [some (.ref 1)] [] ((fun _ => false, 0, 0, true, false, ad), (zI_107 xs), (fun _ _ => 0))
  refine mm_iv 600 (by rfl) ?_
  show mm_k _ _ _ _ _ [some (.ref 1), some (.ref 101), none] [] ((fun _ => false, 0, 0, true, false, ad), (zI_107 xs), (fun _ _ => 0))
  refine mm_tk (c := ¬ (0 : Int32) = 1) (d := (0 : Int32) = 1) (by decide) ?_
  show mm_u _ _ _ _ _ _ [some (.ref 1), some (.ref 101), none] [] ((fun _ => false, 0, 0, true, false, ad), (zI_107 xs), (fun _ _ => 0))
  refine mm_ob (P := (0 : Int32) = 0 ∨ (0 : Int32) = 1) (by decide) ?_
  refine mm_q1 (r := 0) ⟨rfl, ?_⟩
  show mm_b _ _ _ _ _ [some (.ref 1)] [.int 0] ((fun _ => false, 0, 0, true, false, ad), (zI_107 xs), (fun _ _ => 0))
  refine mm_tk (c := (0 : Int32) = 0) (d := ¬ (0 : Int32) = 0) (by decide) ?_
  show mm_u _ _ _ _ _ _ [some (.ref 1)] [] ((fun _ => false, 0, 0, true, false, ad), (zI_107 xs), (fun _ _ => 0))
  refine mm_iv 600 (by rfl) ?_
  show mm_k _ _ _ _ _ [some (.ref 1), some (.ref 102), none] [] ((fun _ => false, 0, 0, true, false, ad), (zI_107 xs), (fun _ _ => 0))
  refine mm_tk (c := ¬ (0 : Int32) = 1) (d := (0 : Int32) = 1) (by decide) ?_
  show mm_u _ _ _ _ _ _ [some (.ref 1), some (.ref 102), none] [] ((fun _ => false, 0, 0, true, false, ad), (zI_107 xs), (fun _ _ => 0))
  refine mm_ob (P := (0 : Int32) = 0 ∨ (0 : Int32) = 1) (by decide) ?_
  refine mm_q1 (r := 0) ⟨rfl, ?_⟩
  show mm_b _ _ _ _ _ [some (.ref 1)] [.int 0] ((fun _ => false, 0, 0, true, false, ad), (zI_107 xs), (fun _ _ => 0))
  refine mm_tk (c := (0 : Int32) = 0) (d := ¬ (0 : Int32) = 0) (by decide) ?_
  show mm_u _ _ _ _ _ _ [some (.ref 1)] [] ((fun _ => false, 0, 0, true, false, ad), (zI_107 xs), (fun _ _ => 0))
  refine mm_iv 600 (by rfl) ?_
  show mm_k _ _ _ _ _ [some (.ref 1), some (.ref 103), none] [] ((fun _ => false, 0, 0, true, false, ad), (zI_107 xs), (fun _ _ => 0))
  refine mm_tk (c := ¬ (0 : Int32) = 1) (d := (0 : Int32) = 1) (by decide) ?_
  show mm_u _ _ _ _ _ _ [some (.ref 1), some (.ref 103), none] [] ((fun _ => false, 0, 0, true, false, ad), (zI_107 xs), (fun _ _ => 0))
  refine mm_ob (P := (0 : Int32) = 0 ∨ (0 : Int32) = 1) (by decide) ?_
  refine mm_q1 (r := 0) ⟨rfl, ?_⟩
  show mm_b _ _ _ _ _ [some (.ref 1)] [.int 0] ((fun _ => false, 0, 0, true, false, ad), (zI_107 xs), (fun _ _ => 0))
  refine mm_tk (c := (0 : Int32) = 0) (d := ¬ (0 : Int32) = 0) (by decide) ?_
  show mm_u _ _ _ _ _ _ [some (.ref 1)] [] ((fun _ => false, 0, 0, true, false, ad), (zI_107 xs), (fun _ _ => 0))
  refine mm_iv 600 (by rfl) ?_
  show mm_k _ _ _ _ _ [some (.ref 1), some (.ref 104), none] [] ((fun _ => false, 0, 0, true, false, ad), (zI_107 xs), (fun _ _ => 0))
  refine mm_tk (c := ¬ (0 : Int32) = 1) (d := (0 : Int32) = 1) (by decide) ?_
  show mm_u _ _ _ _ _ _ [some (.ref 1), some (.ref 104), none] [] ((fun _ => false, 0, 0, true, false, ad), (zI_107 xs), (fun _ _ => 0))
  refine mm_ob (P := (0 : Int32) = 0 ∨ (0 : Int32) = 1) (by decide) ?_
  refine mm_q1 (r := 0) ⟨rfl, ?_⟩
  show mm_b _ _ _ _ _ [some (.ref 1)] [.int 0] ((fun _ => false, 0, 0, true, false, ad), (zI_107 xs), (fun _ _ => 0))
  refine mm_tk (c := (0 : Int32) = 0) (d := ¬ (0 : Int32) = 0) (by decide) ?_
  show mm_u _ _ _ _ _ _ [some (.ref 1)] [] ((fun _ => false, 0, 0, true, false, ad), (zI_107 xs), (fun _ _ => 0))
  refine mm_iv 600 (by rfl) ?_
  show mm_k _ _ _ _ _ [some (.ref 1), some (.ref 105), none] [] ((fun _ => false, 0, 0, true, false, ad), (zI_107 xs), (fun _ _ => 0))
  refine mm_tk (c := ¬ (0 : Int32) = 1) (d := (0 : Int32) = 1) (by decide) ?_
  show mm_u _ _ _ _ _ _ [some (.ref 1), some (.ref 105), none] [] ((fun _ => false, 0, 0, true, false, ad), (zI_107 xs), (fun _ _ => 0))
  refine mm_ob (P := (0 : Int32) = 0 ∨ (0 : Int32) = 1) (by decide) ?_
  refine mm_q1 (r := 0) ⟨rfl, ?_⟩
  show mm_b _ _ _ _ _ [some (.ref 1)] [.int 0] ((fun _ => false, 0, 0, true, false, ad), (zI_107 xs), (fun _ _ => 0))
  refine mm_tk (c := (0 : Int32) = 0) (d := ¬ (0 : Int32) = 0) (by decide) ?_
  show mm_u _ _ _ _ _ _ [some (.ref 1)] [] ((fun _ => false, 0, 0, true, false, ad), (zI_107 xs), (fun _ _ => 0))
  refine mm_iv 600 (by rfl) ?_
  show mm_k _ _ _ _ _ [some (.ref 1), some (.ref 106), none] [] ((fun _ => false, 0, 0, true, false, ad), (zI_107 xs), (fun _ _ => 0))
  refine mm_tk (c := ¬ (0 : Int32) = 1) (d := (0 : Int32) = 1) (by decide) ?_
  show mm_u _ _ _ _ _ _ [some (.ref 1), some (.ref 106), none] [] ((fun _ => false, 0, 0, true, false, ad), (zI_107 xs), (fun _ _ => 0))
  refine mm_ob (P := (0 : Int32) = 0 ∨ (0 : Int32) = 1) (by decide) ?_
  refine mm_q1 (r := 0) ⟨rfl, ?_⟩
  show mm_b _ _ _ _ _ [some (.ref 1)] [.int 0] ((fun _ => false, 0, 0, true, false, ad), (zI_107 xs), (fun _ _ => 0))
  refine mm_tk (c := (0 : Int32) = 0) (d := ¬ (0 : Int32) = 0) (by decide) ?_
  show mm_u _ _ _ _ _ _ [some (.ref 1)] [] ((fun _ => false, 0, 0, true, false, ad), (zI_107 xs), (fun _ _ => 0))
  refine mm_iv 600 (by rfl) ?_
  show mm_k _ _ _ _ _ [some (.ref 1), some (.int 1)] [] ((fun _ => false, 0, 0, true, false, ad), (zI_107 xs), (fun _ _ => 0))
  refine mm_ob (P := (0 : Int32) = 0 ∨ (0 : Int32) = 1) (by decide) ?_
  refine mm_q1 (r := 0) ⟨rfl, ?_⟩
  show mm_b _ _ _ _ _ [some (.ref 1)] [.int 0] ((fun _ => false, 0, 0, true, false, ad), (zI_108 xs), (fun _ _ => 0))
  refine mm_ob (P := (0 : Int32) = 0 ∨ (0 : Int32) = 1) (by decide) ?_
  refine mm_q1 (r := 0) ⟨rfl, ?_⟩
  show mm_b _ _ _ _ _ [some (.ref 1), some (.int 0), none, none] [.int 0] ((fun _ => false, 0, 0, true, false, ad), (zI_108 xs), (fun _ _ => 0))
  refine mm_tk (c := (0 : Int32) ≤ 0) (d := ¬ (0 : Int32) ≤ 0) (by decide) ?_
  show mm_u _ _ _ _ _ _ [some (.ref 1), none, some (.int 0), some (.int 0)] [] ((fun _ => false, 0, 0, true, false, ad), (zI_108 xs), (fun _ _ => 0))
  refine mm_tk (c := (0 : Int32) = 0) (d := ¬ (0 : Int32) = 0) (by decide) ?_
  show mm_u _ _ _ _ _ _ [some (.ref 1), none, some (.int 0), none] [] ((fun _ => false, 0, 0, true, false, ad), (zI_108 xs), (fun _ _ => 0))
  refine mm_q1 (r := 1) ⟨rfl, ?_⟩
  show mm_b _ _ _ _ _ [some (.ref 0), some (.int 0), none] [.int 1, .ref 0] ((fun _ => false, 0, 0, true, false, ad), (zI_108 xs), (fun _ _ => 0))
  refine mm_iv 600 (by rfl) ?_
  show mm_k _ _ _ _ _ [some (.ref 1)] [] ((fun _ => false, 0, 0, true, false, ad), (zI_109 xs), (fun _ _ => 0))
  refine mm_q1 (r := 0) ⟨rfl, ?_⟩
  show mm_b _ _ _ _ _ [some (.ref 0), some (.int 0), none] [.int 0, .ref 0] ((fun _ => false, 0, 0, true, false, ad), (zI_109 xs), (fun _ _ => 0))
  refine mm_el (c := (1 : Int32) = 0) (d := ¬ (1 : Int32) = 0) (by decide) ?_
  show mm_b _ _ _ _ _ [some (.ref 0), some (.int 0), none] [] ((fun _ => false, 0, 0, true, false, ad), (zI_110 xs), (fun _ _ => 0))
  refine mm_iv 600 (by rfl) ?_
  show mm_k _ _ _ _ _ [some (.ref 0), some (.int 4)] [] ((fun _ => false, 0, 0, true, false, ad), (zI_110 xs), (fun _ _ => 0))
  refine mm_q1 (r := (-1)) ⟨rfl, ?_⟩
  show mm_b _ _ _ _ _ [some (.ref 0), some (.int 0), none] [.int (-1)] ((fun _ => false, 0, 0, true, false, ad), (zI_111 xs), (fun _ _ => 0))
  refine mm_q1 (r := (-1)) ?_
  show mm_b _ _ _ _ _ [some (.ref 68), some (.ref 0), some (.ref 46), some (.ref 65), some (.int 0), none, none] [.int (-1)] ((fun _ => false, 599936, 6869426, true, false, ad), (zI_111 xs), (fun _ _ => 0))
  refine mm_ob (P := vp_in 1 (nI 6).toNatClampNeg) (mm_inl (by decide)) ?_
  show mm_b _ _ _ _ _ [some (.ref 68), some (.ref 0), some (.ref 46), some (.ref 65), some (.int 0), none, none] [.int 0, .ref 46, .int (-1)] ((fun _ => false, 599936, 6869426, true, false, ad), (zI_111 xs), (fun _ _ => 0))
  refine mm_e1 ?_
  refine mm_iv 600 (by rfl) ?_
  show mm_k _ _ _ _ _ [some (.ref 46), some (.int 0), none] [] ((fun _ => false, 0, 0, true, false, ad), (zI_111 xs), (fun _ _ => 0))
  refine mm_iv 600 (by rfl) ?_
  show mm_k _ _ _ _ _ [some (.ref 46)] [] ((fun _ => false, 0, 0, true, false, ad), (zI_111 xs), (fun _ _ => 0))
  refine mm_q0 ⟨rfl, ?_⟩
  show mm_b _ _ _ _ _ [some (.ref 46), some (.int 0), none] [] ((fun _ => false, 0, 0, true, false, ad), (zI_113 xs), (fun _ _ => 0))
  refine mm_iv 600 (by rfl) ?_
  show mm_k _ _ _ _ _ [some (.int 0), some (.int 0), some (.int 0)] [] ((fun _ => false, 0, 0, true, false, ad), (zI_113 xs), (fun _ _ => 0))
  refine mm_el (c := (0 : Int32) < 0) (d := ¬ (0 : Int32) < 0) (by decide) ?_
  show mm_b _ _ _ _ _ [some (.int 0), some (.int 0), some (.int 0)] [] ((fun _ => false, 0, 0, true, false, ad), (zI_113 xs), (fun _ _ => 0))
  refine mm_el (c := (0 : Int32) < 0) (d := ¬ (0 : Int32) < 0) (by decide) ?_
  show mm_b _ _ _ _ _ [some (.int 0), some (.int 0), some (.int 0)] [] ((fun _ => false, 0, 0, true, false, ad), (zI_113 xs), (fun _ _ => 0))
  refine mm_ob (P := (1 : Int32) = 0 ∨ (1 : Int32) = 1) (by decide) ?_
  refine mm_q1 (r := 1) ⟨rfl, ?_⟩
  show mm_b _ _ _ _ _ [some (.ref 46), some (.int 0), none] [.int 1] ((fun _ => false, 0, 0, true, false, ad), (zI_113 xs), (fun _ _ => 0))
  refine mm_tk (c := ¬ (1 : Int32) = 0) (d := (1 : Int32) = 0) (by decide) ?_
  show mm_u _ _ _ _ _ _ [some (.ref 46), some (.int 0), none] [] ((fun _ => false, 0, 0, true, false, ad), (zI_113 xs), (fun _ _ => 0))
  refine mm_ob (P := (0 : Int32) = 0 ∨ (0 : Int32) = 1) (by decide) ?_
  refine mm_el (c := (279 : Int32) ≤ 0) (d := ¬ (279 : Int32) ≤ 0) (by decide) ?_
  show mm_b _ _ _ _ _ [some (.ref 46), some (.int 0), some (.int 0)] [] ((fun _ => false, 0, 0, true, false, ad), (zI_116 xs), (fun _ _ => 0))
  refine mm_ob (P := vp_in 0 279) (mm_inl (by decide)) ?_
  show mm_b _ _ _ _ _ [some (.ref 46), some (.int 0), some (.int 0)] [] ((fun _ => false, 0, 0, true, false, ad), (zI_117 xs), (fun _ _ => 0))
  refine mm_el (c := (279 : Int32) ≤ 1) (d := ¬ (279 : Int32) ≤ 1) (by decide) ?_
  show mm_b _ _ _ _ _ [some (.ref 46), some (.int 0), some (.int 1)] [] ((fun _ => false, 0, 0, true, false, ad), (zI_117 xs), (fun _ _ => 0))
  refine mm_ob (P := vp_in 1 279) (mm_inl (by decide)) ?_
  show mm_b _ _ _ _ _ [some (.ref 46), some (.int 0), some (.int 1)] [] ((fun _ => false, 0, 0, true, false, ad), (zI_118 xs), (fun _ _ => 0))
  refine mm_el (c := (279 : Int32) ≤ 2) (d := ¬ (279 : Int32) ≤ 2) (by decide) ?_
  show mm_b _ _ _ _ _ [some (.ref 46), some (.int 0), some (.int 2)] [] ((fun _ => false, 0, 0, true, false, ad), (zI_118 xs), (fun _ _ => 0))
  refine mm_ob (P := vp_in 2 279) (mm_inl (by decide)) ?_
  show mm_b _ _ _ _ _ [some (.ref 46), some (.int 0), some (.int 2)] [] ((fun _ => false, 0, 0, true, false, ad), (zI_119 xs), (fun _ _ => 0))
  refine mm_el (c := (279 : Int32) ≤ 3) (d := ¬ (279 : Int32) ≤ 3) (by decide) ?_
  show mm_b _ _ _ _ _ [some (.ref 46), some (.int 0), some (.int 3)] [] ((fun _ => false, 0, 0, true, false, ad), (zI_119 xs), (fun _ _ => 0))
  refine mm_ob (P := vp_in 3 279) (mm_inl (by decide)) ?_
  show mm_b _ _ _ _ _ [some (.ref 46), some (.int 0), some (.int 3)] [] ((fun _ => false, 0, 0, true, false, ad), (zI_120 xs), (fun _ _ => 0))
  refine mm_el (c := (279 : Int32) ≤ 4) (d := ¬ (279 : Int32) ≤ 4) (by decide) ?_
  show mm_b _ _ _ _ _ [some (.ref 46), some (.int 0), some (.int 4)] [] ((fun _ => false, 0, 0, true, false, ad), (zI_120 xs), (fun _ _ => 0))
  refine mm_ob (P := vp_in 4 279) (mm_inl (by decide)) ?_
  show mm_b _ _ _ _ _ [some (.ref 46), some (.int 0), some (.int 4)] [] ((fun _ => false, 0, 0, true, false, ad), (zI_121 xs), (fun _ _ => 0))
  refine mm_el (c := (279 : Int32) ≤ 5) (d := ¬ (279 : Int32) ≤ 5) (by decide) ?_
  show mm_b _ _ _ _ _ [some (.ref 46), some (.int 0), some (.int 5)] [] ((fun _ => false, 0, 0, true, false, ad), (zI_121 xs), (fun _ _ => 0))
  refine mm_ob (P := vp_in 5 279) (mm_inl (by decide)) ?_
  show mm_b _ _ _ _ _ [some (.ref 46), some (.int 0), some (.int 5)] [] ((fun _ => false, 0, 0, true, false, ad), (zI_122 xs), (fun _ _ => 0))
  refine mm_el (c := (279 : Int32) ≤ 6) (d := ¬ (279 : Int32) ≤ 6) (by decide) ?_
  show mm_b _ _ _ _ _ [some (.ref 46), some (.int 0), some (.int 6)] [] ((fun _ => false, 0, 0, true, false, ad), (zI_122 xs), (fun _ _ => 0))
  refine mm_ob (P := vp_in 6 279) (mm_inl (by decide)) ?_
  show mm_b _ _ _ _ _ [some (.ref 46), some (.int 0), some (.int 6)] [] ((fun _ => false, 0, 0, true, false, ad), (zI_123 xs), (fun _ _ => 0))
  refine mm_el (c := (279 : Int32) ≤ 7) (d := ¬ (279 : Int32) ≤ 7) (by decide) ?_
  show mm_b _ _ _ _ _ [some (.ref 46), some (.int 0), some (.int 7)] [] ((fun _ => false, 0, 0, true, false, ad), (zI_123 xs), (fun _ _ => 0))
  refine mm_ob (P := vp_in 7 279) (mm_inl (by decide)) ?_
  show mm_b _ _ _ _ _ [some (.ref 46), some (.int 0), some (.int 7)] [] ((fun _ => false, 0, 0, true, false, ad), (zI_124 xs), (fun _ _ => 0))
  refine mm_el (c := (279 : Int32) ≤ 8) (d := ¬ (279 : Int32) ≤ 8) (by decide) ?_
  show mm_b _ _ _ _ _ [some (.ref 46), some (.int 0), some (.int 8)] [] ((fun _ => false, 0, 0, true, false, ad), (zI_124 xs), (fun _ _ => 0))
  refine mm_ob (P := vp_in 8 279) (mm_inl (by decide)) ?_
  show mm_b _ _ _ _ _ [some (.ref 46), some (.int 0), some (.int 8)] [] ((fun _ => false, 0, 0, true, false, ad), (zI_125 xs), (fun _ _ => 0))
  refine mm_el (c := (279 : Int32) ≤ 9) (d := ¬ (279 : Int32) ≤ 9) (by decide) ?_
  show mm_b _ _ _ _ _ [some (.ref 46), some (.int 0), some (.int 9)] [] ((fun _ => false, 0, 0, true, false, ad), (zI_125 xs), (fun _ _ => 0))
  refine mm_ob (P := vp_in 9 279) (mm_inl (by decide)) ?_
  show mm_b _ _ _ _ _ [some (.ref 46), some (.int 0), some (.int 9)] [] ((fun _ => false, 0, 0, true, false, ad), (zI_126 xs), (fun _ _ => 0))
  refine mm_el (c := (279 : Int32) ≤ 10) (d := ¬ (279 : Int32) ≤ 10) (by decide) ?_
  show mm_b _ _ _ _ _ [some (.ref 46), some (.int 0), some (.int 10)] [] ((fun _ => false, 0, 0, true, false, ad), (zI_126 xs), (fun _ _ => 0))
  refine mm_ob (P := vp_in 10 279) (mm_inl (by decide)) ?_
  show mm_b _ _ _ _ _ [some (.ref 46), some (.int 0), some (.int 10)] [] ((fun _ => false, 0, 0, true, false, ad), (zI_127 xs), (fun _ _ => 0))
  refine mm_el (c := (279 : Int32) ≤ 11) (d := ¬ (279 : Int32) ≤ 11) (by decide) ?_
  show mm_b _ _ _ _ _ [some (.ref 46), some (.int 0), some (.int 11)] [] ((fun _ => false, 0, 0, true, false, ad), (zI_127 xs), (fun _ _ => 0))
  refine mm_ob (P := vp_in 11 279) (mm_inl (by decide)) ?_
  show mm_b _ _ _ _ _ [some (.ref 46), some (.int 0), some (.int 11)] [] ((fun _ => false, 0, 0, true, false, ad), (zI_128 xs), (fun _ _ => 0))
  refine mm_el (c := (279 : Int32) ≤ 12) (d := ¬ (279 : Int32) ≤ 12) (by decide) ?_
  show mm_b _ _ _ _ _ [some (.ref 46), some (.int 0), some (.int 12)] [] ((fun _ => false, 0, 0, true, false, ad), (zI_128 xs), (fun _ _ => 0))
  refine mm_ob (P := vp_in 12 279) (mm_inl (by decide)) ?_
  show mm_b _ _ _ _ _ [some (.ref 46), some (.int 0), some (.int 12)] [] ((fun _ => false, 0, 0, true, false, ad), (zI_129 xs), (fun _ _ => 0))
  refine mm_el (c := (279 : Int32) ≤ 13) (d := ¬ (279 : Int32) ≤ 13) (by decide) ?_
  show mm_b _ _ _ _ _ [some (.ref 46), some (.int 0), some (.int 13)] [] ((fun _ => false, 0, 0, true, false, ad), (zI_129 xs), (fun _ _ => 0))
  refine mm_ob (P := vp_in 13 279) (mm_inl (by decide)) ?_
  show mm_b _ _ _ _ _ [some (.ref 46), some (.int 0), some (.int 13)] [] ((fun _ => false, 0, 0, true, false, ad), (zI_130 xs), (fun _ _ => 0))
  refine mm_el (c := (279 : Int32) ≤ 14) (d := ¬ (279 : Int32) ≤ 14) (by decide) ?_
  show mm_b _ _ _ _ _ [some (.ref 46), some (.int 0), some (.int 14)] [] ((fun _ => false, 0, 0, true, false, ad), (zI_130 xs), (fun _ _ => 0))
  refine mm_ob (P := vp_in 14 279) (mm_inl (by decide)) ?_
  show mm_b _ _ _ _ _ [some (.ref 46), some (.int 0), some (.int 14)] [] ((fun _ => false, 0, 0, true, false, ad), (zI_131 xs), (fun _ _ => 0))
  refine mm_el (c := (279 : Int32) ≤ 15) (d := ¬ (279 : Int32) ≤ 15) (by decide) ?_
  show mm_b _ _ _ _ _ [some (.ref 46), some (.int 0), some (.int 15)] [] ((fun _ => false, 0, 0, true, false, ad), (zI_131 xs), (fun _ _ => 0))
  refine mm_ob (P := vp_in 15 279) (mm_inl (by decide)) ?_
  show mm_b _ _ _ _ _ [some (.ref 46), some (.int 0), some (.int 15)] [] ((fun _ => false, 0, 0, true, false, ad), (zI_132 xs), (fun _ _ => 0))
  refine mm_el (c := (279 : Int32) ≤ 16) (d := ¬ (279 : Int32) ≤ 16) (by decide) ?_
  show mm_b _ _ _ _ _ [some (.ref 46), some (.int 0), some (.int 16)] [] ((fun _ => false, 0, 0, true, false, ad), (zI_132 xs), (fun _ _ => 0))
  refine mm_ob (P := vp_in 16 279) (mm_inl (by decide)) ?_
  show mm_b _ _ _ _ _ [some (.ref 46), some (.int 0), some (.int 16)] [] ((fun _ => false, 0, 0, true, false, ad), (zI_133 xs), (fun _ _ => 0))
  refine mm_el (c := (279 : Int32) ≤ 17) (d := ¬ (279 : Int32) ≤ 17) (by decide) ?_
  show mm_b _ _ _ _ _ [some (.ref 46), some (.int 0), some (.int 17)] [] ((fun _ => false, 0, 0, true, false, ad), (zI_133 xs), (fun _ _ => 0))
  refine mm_ob (P := vp_in 17 279) (mm_inl (by decide)) ?_
  show mm_b _ _ _ _ _ [some (.ref 46), some (.int 0), some (.int 17)] [] ((fun _ => false, 0, 0, true, false, ad), (zI_134 xs), (fun _ _ => 0))
  refine mm_el (c := (279 : Int32) ≤ 18) (d := ¬ (279 : Int32) ≤ 18) (by decide) ?_
  show mm_b _ _ _ _ _ [some (.ref 46), some (.int 0), some (.int 18)] [] ((fun _ => false, 0, 0, true, false, ad), (zI_134 xs), (fun _ _ => 0))
  refine mm_ob (P := vp_in 18 279) (mm_inl (by decide)) ?_
  show mm_b _ _ _ _ _ [some (.ref 46), some (.int 0), some (.int 18)] [] ((fun _ => false, 0, 0, true, false, ad), (zI_135 xs), (fun _ _ => 0))
  refine mm_el (c := (279 : Int32) ≤ 19) (d := ¬ (279 : Int32) ≤ 19) (by decide) ?_
  show mm_b _ _ _ _ _ [some (.ref 46), some (.int 0), some (.int 19)] [] ((fun _ => false, 0, 0, true, false, ad), (zI_135 xs), (fun _ _ => 0))
  refine mm_ob (P := vp_in 19 279) (mm_inl (by decide)) ?_
  show mm_b _ _ _ _ _ [some (.ref 46), some (.int 0), some (.int 19)] [] ((fun _ => false, 0, 0, true, false, ad), (zI_136 xs), (fun _ _ => 0))
  refine mm_el (c := (279 : Int32) ≤ 20) (d := ¬ (279 : Int32) ≤ 20) (by decide) ?_
  show mm_b _ _ _ _ _ [some (.ref 46), some (.int 0), some (.int 20)] [] ((fun _ => false, 0, 0, true, false, ad), (zI_136 xs), (fun _ _ => 0))
  refine mm_ob (P := vp_in 20 279) (mm_inl (by decide)) ?_
  show mm_b _ _ _ _ _ [some (.ref 46), some (.int 0), some (.int 20)] [] ((fun _ => false, 0, 0, true, false, ad), (zI_137 xs), (fun _ _ => 0))
  refine mm_el (c := (279 : Int32) ≤ 21) (d := ¬ (279 : Int32) ≤ 21) (by decide) ?_
  show mm_b _ _ _ _ _ [some (.ref 46), some (.int 0), some (.int 21)] [] ((fun _ => false, 0, 0, true, false, ad), (zI_137 xs), (fun _ _ => 0))
  refine mm_ob (P := vp_in 21 279) (mm_inl (by decide)) ?_
  show mm_b _ _ _ _ _ [some (.ref 46), some (.int 0), some (.int 21)] [] ((fun _ => false, 0, 0, true, false, ad), (zI_138 xs), (fun _ _ => 0))
  refine mm_el (c := (279 : Int32) ≤ 22) (d := ¬ (279 : Int32) ≤ 22) (by decide) ?_
  show mm_b _ _ _ _ _ [some (.ref 46), some (.int 0), some (.int 22)] [] ((fun _ => false, 0, 0, true, false, ad), (zI_138 xs), (fun _ _ => 0))
  refine mm_ob (P := vp_in 22 279) (mm_inl (by decide)) ?_
  show mm_b _ _ _ _ _ [some (.ref 46), some (.int 0), some (.int 22)] [] ((fun _ => false, 0, 0, true, false, ad), (zI_139 xs), (fun _ _ => 0))
  refine mm_el (c := (279 : Int32) ≤ 23) (d := ¬ (279 : Int32) ≤ 23) (by decide) ?_
  show mm_b _ _ _ _ _ [some (.ref 46), some (.int 0), some (.int 23)] [] ((fun _ => false, 0, 0, true, false, ad), (zI_139 xs), (fun _ _ => 0))
  refine mm_ob (P := vp_in 23 279) (mm_inl (by decide)) ?_
  show mm_b _ _ _ _ _ [some (.ref 46), some (.int 0), some (.int 23)] [] ((fun _ => false, 0, 0, true, false, ad), (zI_140 xs), (fun _ _ => 0))
  refine mm_el (c := (279 : Int32) ≤ 24) (d := ¬ (279 : Int32) ≤ 24) (by decide) ?_
  show mm_b _ _ _ _ _ [some (.ref 46), some (.int 0), some (.int 24)] [] ((fun _ => false, 0, 0, true, false, ad), (zI_140 xs), (fun _ _ => 0))
  refine mm_ob (P := vp_in 24 279) (mm_inl (by decide)) ?_
  show mm_b _ _ _ _ _ [some (.ref 46), some (.int 0), some (.int 24)] [] ((fun _ => false, 0, 0, true, false, ad), (zI_141 xs), (fun _ _ => 0))
  refine mm_el (c := (279 : Int32) ≤ 25) (d := ¬ (279 : Int32) ≤ 25) (by decide) ?_
  show mm_b _ _ _ _ _ [some (.ref 46), some (.int 0), some (.int 25)] [] ((fun _ => false, 0, 0, true, false, ad), (zI_141 xs), (fun _ _ => 0))
  refine mm_ob (P := vp_in 25 279) (mm_inl (by decide)) ?_
  show mm_b _ _ _ _ _ [some (.ref 46), some (.int 0), some (.int 25)] [] ((fun _ => false, 0, 0, true, false, ad), (zI_142 xs), (fun _ _ => 0))
  refine mm_el (c := (279 : Int32) ≤ 26) (d := ¬ (279 : Int32) ≤ 26) (by decide) ?_
  show mm_b _ _ _ _ _ [some (.ref 46), some (.int 0), some (.int 26)] [] ((fun _ => false, 0, 0, true, false, ad), (zI_142 xs), (fun _ _ => 0))
  refine mm_ob (P := vp_in 26 279) (mm_inl (by decide)) ?_
  show mm_b _ _ _ _ _ [some (.ref 46), some (.int 0), some (.int 26)] [] ((fun _ => false, 0, 0, true, false, ad), (zI_143 xs), (fun _ _ => 0))
  refine mm_el (c := (279 : Int32) ≤ 27) (d := ¬ (279 : Int32) ≤ 27) (by decide) ?_
  show mm_b _ _ _ _ _ [some (.ref 46), some (.int 0), some (.int 27)] [] ((fun _ => false, 0, 0, true, false, ad), (zI_143 xs), (fun _ _ => 0))
  refine mm_ob (P := vp_in 27 279) (mm_inl (by decide)) ?_
  show mm_b _ _ _ _ _ [some (.ref 46), some (.int 0), some (.int 27)] [] ((fun _ => false, 0, 0, true, false, ad), (zI_144 xs), (fun _ _ => 0))
  refine mm_el (c := (279 : Int32) ≤ 28) (d := ¬ (279 : Int32) ≤ 28) (by decide) ?_
  show mm_b _ _ _ _ _ [some (.ref 46), some (.int 0), some (.int 28)] [] ((fun _ => false, 0, 0, true, false, ad), (zI_144 xs), (fun _ _ => 0))
  refine mm_ob (P := vp_in 28 279) (mm_inl (by decide)) ?_
  show mm_b _ _ _ _ _ [some (.ref 46), some (.int 0), some (.int 28)] [] ((fun _ => false, 0, 0, true, false, ad), (zI_145 xs), (fun _ _ => 0))
  refine mm_el (c := (279 : Int32) ≤ 29) (d := ¬ (279 : Int32) ≤ 29) (by decide) ?_
  show mm_b _ _ _ _ _ [some (.ref 46), some (.int 0), some (.int 29)] [] ((fun _ => false, 0, 0, true, false, ad), (zI_145 xs), (fun _ _ => 0))
  refine mm_ob (P := vp_in 29 279) (mm_inl (by decide)) ?_
  show mm_b _ _ _ _ _ [some (.ref 46), some (.int 0), some (.int 29)] [] ((fun _ => false, 0, 0, true, false, ad), (zI_146 xs), (fun _ _ => 0))
  refine mm_el (c := (279 : Int32) ≤ 30) (d := ¬ (279 : Int32) ≤ 30) (by decide) ?_
  show mm_b _ _ _ _ _ [some (.ref 46), some (.int 0), some (.int 30)] [] ((fun _ => false, 0, 0, true, false, ad), (zI_146 xs), (fun _ _ => 0))
  refine mm_ob (P := vp_in 30 279) (mm_inl (by decide)) ?_
  show mm_b _ _ _ _ _ [some (.ref 46), some (.int 0), some (.int 30)] [] ((fun _ => false, 0, 0, true, false, ad), (zI_147 xs), (fun _ _ => 0))
  refine mm_el (c := (279 : Int32) ≤ 31) (d := ¬ (279 : Int32) ≤ 31) (by decide) ?_
  show mm_b _ _ _ _ _ [some (.ref 46), some (.int 0), some (.int 31)] [] ((fun _ => false, 0, 0, true, false, ad), (zI_147 xs), (fun _ _ => 0))
  refine mm_ob (P := vp_in 31 279) (mm_inl (by decide)) ?_
  show mm_b _ _ _ _ _ [some (.ref 46), some (.int 0), some (.int 31)] [] ((fun _ => false, 0, 0, true, false, ad), (zI_148 xs), (fun _ _ => 0))
  refine mm_el (c := (279 : Int32) ≤ 32) (d := ¬ (279 : Int32) ≤ 32) (by decide) ?_
  show mm_b _ _ _ _ _ [some (.ref 46), some (.int 0), some (.int 32)] [] ((fun _ => false, 0, 0, true, false, ad), (zI_148 xs), (fun _ _ => 0))
  refine mm_ob (P := vp_in 32 279) (mm_inl (by decide)) ?_
  show mm_b _ _ _ _ _ [some (.ref 46), some (.int 0), some (.int 32)] [] ((fun _ => false, 0, 0, true, false, ad), (zI_149 xs), (fun _ _ => 0))
  refine mm_el (c := (279 : Int32) ≤ 33) (d := ¬ (279 : Int32) ≤ 33) (by decide) ?_
  show mm_b _ _ _ _ _ [some (.ref 46), some (.int 0), some (.int 33)] [] ((fun _ => false, 0, 0, true, false, ad), (zI_149 xs), (fun _ _ => 0))
  refine mm_ob (P := vp_in 33 279) (mm_inl (by decide)) ?_
  show mm_b _ _ _ _ _ [some (.ref 46), some (.int 0), some (.int 33)] [] ((fun _ => false, 0, 0, true, false, ad), (zI_150 xs), (fun _ _ => 0))
  refine mm_el (c := (279 : Int32) ≤ 34) (d := ¬ (279 : Int32) ≤ 34) (by decide) ?_
  show mm_b _ _ _ _ _ [some (.ref 46), some (.int 0), some (.int 34)] [] ((fun _ => false, 0, 0, true, false, ad), (zI_150 xs), (fun _ _ => 0))
  refine mm_ob (P := vp_in 34 279) (mm_inl (by decide)) ?_
  show mm_b _ _ _ _ _ [some (.ref 46), some (.int 0), some (.int 34)] [] ((fun _ => false, 0, 0, true, false, ad), (zI_151 xs), (fun _ _ => 0))
  refine mm_el (c := (279 : Int32) ≤ 35) (d := ¬ (279 : Int32) ≤ 35) (by decide) ?_
  show mm_b _ _ _ _ _ [some (.ref 46), some (.int 0), some (.int 35)] [] ((fun _ => false, 0, 0, true, false, ad), (zI_151 xs), (fun _ _ => 0))
  refine mm_ob (P := vp_in 35 279) (mm_inl (by decide)) ?_
  show mm_b _ _ _ _ _ [some (.ref 46), some (.int 0), some (.int 35)] [] ((fun _ => false, 0, 0, true, false, ad), (zI_152 xs), (fun _ _ => 0))
  refine mm_el (c := (279 : Int32) ≤ 36) (d := ¬ (279 : Int32) ≤ 36) (by decide) ?_
  show mm_b _ _ _ _ _ [some (.ref 46), some (.int 0), some (.int 36)] [] ((fun _ => false, 0, 0, true, false, ad), (zI_152 xs), (fun _ _ => 0))
  refine mm_ob (P := vp_in 36 279) (mm_inl (by decide)) ?_
  show mm_b _ _ _ _ _ [some (.ref 46), some (.int 0), some (.int 36)] [] ((fun _ => false, 0, 0, true, false, ad), (zI_153 xs), (fun _ _ => 0))
  refine mm_el (c := (279 : Int32) ≤ 37) (d := ¬ (279 : Int32) ≤ 37) (by decide) ?_
  show mm_b _ _ _ _ _ [some (.ref 46), some (.int 0), some (.int 37)] [] ((fun _ => false, 0, 0, true, false, ad), (zI_153 xs), (fun _ _ => 0))
  refine mm_ob (P := vp_in 37 279) (mm_inl (by decide)) ?_
  show mm_b _ _ _ _ _ [some (.ref 46), some (.int 0), some (.int 37)] [] ((fun _ => false, 0, 0, true, false, ad), (zI_154 xs), (fun _ _ => 0))
  refine mm_el (c := (279 : Int32) ≤ 38) (d := ¬ (279 : Int32) ≤ 38) (by decide) ?_
  show mm_b _ _ _ _ _ [some (.ref 46), some (.int 0), some (.int 38)] [] ((fun _ => false, 0, 0, true, false, ad), (zI_154 xs), (fun _ _ => 0))
  refine mm_ob (P := vp_in 38 279) (mm_inl (by decide)) ?_
  show mm_b _ _ _ _ _ [some (.ref 46), some (.int 0), some (.int 38)] [] ((fun _ => false, 0, 0, true, false, ad), (zI_155 xs), (fun _ _ => 0))
  refine mm_el (c := (279 : Int32) ≤ 39) (d := ¬ (279 : Int32) ≤ 39) (by decide) ?_
  show mm_b _ _ _ _ _ [some (.ref 46), some (.int 0), some (.int 39)] [] ((fun _ => false, 0, 0, true, false, ad), (zI_155 xs), (fun _ _ => 0))
  refine mm_ob (P := vp_in 39 279) (mm_inl (by decide)) ?_
  show mm_b _ _ _ _ _ [some (.ref 46), some (.int 0), some (.int 39)] [] ((fun _ => false, 0, 0, true, false, ad), (zI_156 xs), (fun _ _ => 0))
  refine mm_el (c := (279 : Int32) ≤ 40) (d := ¬ (279 : Int32) ≤ 40) (by decide) ?_
  show mm_b _ _ _ _ _ [some (.ref 46), some (.int 0), some (.int 40)] [] ((fun _ => false, 0, 0, true, false, ad), (zI_156 xs), (fun _ _ => 0))
  refine mm_ob (P := vp_in 40 279) (mm_inl (by decide)) ?_
  show mm_b _ _ _ _ _ [some (.ref 46), some (.int 0), some (.int 40)] [] ((fun _ => false, 0, 0, true, false, ad), (zI_157 xs), (fun _ _ => 0))
  refine mm_el (c := (279 : Int32) ≤ 41) (d := ¬ (279 : Int32) ≤ 41) (by decide) ?_
  show mm_b _ _ _ _ _ [some (.ref 46), some (.int 0), some (.int 41)] [] ((fun _ => false, 0, 0, true, false, ad), (zI_157 xs), (fun _ _ => 0))
  refine mm_ob (P := vp_in 41 279) (mm_inl (by decide)) ?_
  show mm_b _ _ _ _ _ [some (.ref 46), some (.int 0), some (.int 41)] [] ((fun _ => false, 0, 0, true, false, ad), (zI_158 xs), (fun _ _ => 0))
  refine mm_el (c := (279 : Int32) ≤ 42) (d := ¬ (279 : Int32) ≤ 42) (by decide) ?_
  show mm_b _ _ _ _ _ [some (.ref 46), some (.int 0), some (.int 42)] [] ((fun _ => false, 0, 0, true, false, ad), (zI_158 xs), (fun _ _ => 0))
  refine mm_ob (P := vp_in 42 279) (mm_inl (by decide)) ?_
  show mm_b _ _ _ _ _ [some (.ref 46), some (.int 0), some (.int 42)] [] ((fun _ => false, 0, 0, true, false, ad), (zI_159 xs), (fun _ _ => 0))
  refine mm_el (c := (279 : Int32) ≤ 43) (d := ¬ (279 : Int32) ≤ 43) (by decide) ?_
  show mm_b _ _ _ _ _ [some (.ref 46), some (.int 0), some (.int 43)] [] ((fun _ => false, 0, 0, true, false, ad), (zI_159 xs), (fun _ _ => 0))
  refine mm_ob (P := vp_in 43 279) (mm_inl (by decide)) ?_
  show mm_b _ _ _ _ _ [some (.ref 46), some (.int 0), some (.int 43)] [] ((fun _ => false, 0, 0, true, false, ad), (zI_160 xs), (fun _ _ => 0))
  refine mm_el (c := (279 : Int32) ≤ 44) (d := ¬ (279 : Int32) ≤ 44) (by decide) ?_
  show mm_b _ _ _ _ _ [some (.ref 46), some (.int 0), some (.int 44)] [] ((fun _ => false, 0, 0, true, false, ad), (zI_160 xs), (fun _ _ => 0))
  refine mm_ob (P := vp_in 44 279) (mm_inl (by decide)) ?_
  show mm_b _ _ _ _ _ [some (.ref 46), some (.int 0), some (.int 44)] [] ((fun _ => false, 0, 0, true, false, ad), (zI_161 xs), (fun _ _ => 0))
  refine mm_el (c := (279 : Int32) ≤ 45) (d := ¬ (279 : Int32) ≤ 45) (by decide) ?_
  show mm_b _ _ _ _ _ [some (.ref 46), some (.int 0), some (.int 45)] [] ((fun _ => false, 0, 0, true, false, ad), (zI_161 xs), (fun _ _ => 0))
  refine mm_ob (P := vp_in 45 279) (mm_inl (by decide)) ?_
  show mm_b _ _ _ _ _ [some (.ref 46), some (.int 0), some (.int 45)] [] ((fun _ => false, 0, 0, true, false, ad), (zI_162 xs), (fun _ _ => 0))
  refine mm_el (c := (279 : Int32) ≤ 46) (d := ¬ (279 : Int32) ≤ 46) (by decide) ?_
  show mm_b _ _ _ _ _ [some (.ref 46), some (.int 0), some (.int 46)] [] ((fun _ => false, 0, 0, true, false, ad), (zI_162 xs), (fun _ _ => 0))
  refine mm_ob (P := vp_in 46 279) (mm_inl (by decide)) ?_
  show mm_b _ _ _ _ _ [some (.ref 46), some (.int 0), some (.int 46)] [] ((fun _ => false, 0, 0, true, false, ad), (zI_163 xs), (fun _ _ => 0))
  refine mm_el (c := (279 : Int32) ≤ 47) (d := ¬ (279 : Int32) ≤ 47) (by decide) ?_
  show mm_b _ _ _ _ _ [some (.ref 46), some (.int 0), some (.int 47)] [] ((fun _ => false, 0, 0, true, false, ad), (zI_163 xs), (fun _ _ => 0))
  refine mm_ob (P := vp_in 47 279) (mm_inl (by decide)) ?_
  show mm_b _ _ _ _ _ [some (.ref 46), some (.int 0), some (.int 47)] [] ((fun _ => false, 0, 0, true, false, ad), (zI_164 xs), (fun _ _ => 0))
  refine mm_el (c := (279 : Int32) ≤ 48) (d := ¬ (279 : Int32) ≤ 48) (by decide) ?_
  show mm_b _ _ _ _ _ [some (.ref 46), some (.int 0), some (.int 48)] [] ((fun _ => false, 0, 0, true, false, ad), (zI_164 xs), (fun _ _ => 0))
  refine mm_ob (P := vp_in 48 279) (mm_inl (by decide)) ?_
  show mm_b _ _ _ _ _ [some (.ref 46), some (.int 0), some (.int 48)] [] ((fun _ => false, 0, 0, true, false, ad), (zI_165 xs), (fun _ _ => 0))
  refine mm_el (c := (279 : Int32) ≤ 49) (d := ¬ (279 : Int32) ≤ 49) (by decide) ?_
  show mm_b _ _ _ _ _ [some (.ref 46), some (.int 0), some (.int 49)] [] ((fun _ => false, 0, 0, true, false, ad), (zI_165 xs), (fun _ _ => 0))
  refine mm_ob (P := vp_in 49 279) (mm_inl (by decide)) ?_
  show mm_b _ _ _ _ _ [some (.ref 46), some (.int 0), some (.int 49)] [] ((fun _ => false, 0, 0, true, false, ad), (zI_166 xs), (fun _ _ => 0))
  refine mm_el (c := (279 : Int32) ≤ 50) (d := ¬ (279 : Int32) ≤ 50) (by decide) ?_
  show mm_b _ _ _ _ _ [some (.ref 46), some (.int 0), some (.int 50)] [] ((fun _ => false, 0, 0, true, false, ad), (zI_166 xs), (fun _ _ => 0))
  refine mm_ob (P := vp_in 50 279) (mm_inl (by decide)) ?_
  show mm_b _ _ _ _ _ [some (.ref 46), some (.int 0), some (.int 50)] [] ((fun _ => false, 0, 0, true, false, ad), (zI_167 xs), (fun _ _ => 0))
  refine mm_el (c := (279 : Int32) ≤ 51) (d := ¬ (279 : Int32) ≤ 51) (by decide) ?_
  show mm_b _ _ _ _ _ [some (.ref 46), some (.int 0), some (.int 51)] [] ((fun _ => false, 0, 0, true, false, ad), (zI_167 xs), (fun _ _ => 0))
  refine mm_ob (P := vp_in 51 279) (mm_inl (by decide)) ?_
  show mm_b _ _ _ _ _ [some (.ref 46), some (.int 0), some (.int 51)] [] ((fun _ => false, 0, 0, true, false, ad), (zI_168 xs), (fun _ _ => 0))
  refine mm_el (c := (279 : Int32) ≤ 52) (d := ¬ (279 : Int32) ≤ 52) (by decide) ?_
  show mm_b _ _ _ _ _ [some (.ref 46), some (.int 0), some (.int 52)] [] ((fun _ => false, 0, 0, true, false, ad), (zI_168 xs), (fun _ _ => 0))
  refine mm_ob (P := vp_in 52 279) (mm_inl (by decide)) ?_
  show mm_b _ _ _ _ _ [some (.ref 46), some (.int 0), some (.int 52)] [] ((fun _ => false, 0, 0, true, false, ad), (zI_169 xs), (fun _ _ => 0))
  refine mm_el (c := (279 : Int32) ≤ 53) (d := ¬ (279 : Int32) ≤ 53) (by decide) ?_
  show mm_b _ _ _ _ _ [some (.ref 46), some (.int 0), some (.int 53)] [] ((fun _ => false, 0, 0, true, false, ad), (zI_169 xs), (fun _ _ => 0))
  refine mm_ob (P := vp_in 53 279) (mm_inl (by decide)) ?_
  show mm_b _ _ _ _ _ [some (.ref 46), some (.int 0), some (.int 53)] [] ((fun _ => false, 0, 0, true, false, ad), (zI_170 xs), (fun _ _ => 0))
  refine mm_el (c := (279 : Int32) ≤ 54) (d := ¬ (279 : Int32) ≤ 54) (by decide) ?_
  show mm_b _ _ _ _ _ [some (.ref 46), some (.int 0), some (.int 54)] [] ((fun _ => false, 0, 0, true, false, ad), (zI_170 xs), (fun _ _ => 0))
  refine mm_ob (P := vp_in 54 279) (mm_inl (by decide)) ?_
  show mm_b _ _ _ _ _ [some (.ref 46), some (.int 0), some (.int 54)] [] ((fun _ => false, 0, 0, true, false, ad), (zI_171 xs), (fun _ _ => 0))
  refine mm_el (c := (279 : Int32) ≤ 55) (d := ¬ (279 : Int32) ≤ 55) (by decide) ?_
  show mm_b _ _ _ _ _ [some (.ref 46), some (.int 0), some (.int 55)] [] ((fun _ => false, 0, 0, true, false, ad), (zI_171 xs), (fun _ _ => 0))
  refine mm_ob (P := vp_in 55 279) (mm_inl (by decide)) ?_
  show mm_b _ _ _ _ _ [some (.ref 46), some (.int 0), some (.int 55)] [] ((fun _ => false, 0, 0, true, false, ad), (zI_172 xs), (fun _ _ => 0))
  refine mm_el (c := (279 : Int32) ≤ 56) (d := ¬ (279 : Int32) ≤ 56) (by decide) ?_
  show mm_b _ _ _ _ _ [some (.ref 46), some (.int 0), some (.int 56)] [] ((fun _ => false, 0, 0, true, false, ad), (zI_172 xs), (fun _ _ => 0))
  refine mm_ob (P := vp_in 56 279) (mm_inl (by decide)) ?_
  show mm_b _ _ _ _ _ [some (.ref 46), some (.int 0), some (.int 56)] [] ((fun _ => false, 0, 0, true, false, ad), (zI_173 xs), (fun _ _ => 0))
  refine mm_el (c := (279 : Int32) ≤ 57) (d := ¬ (279 : Int32) ≤ 57) (by decide) ?_
  show mm_b _ _ _ _ _ [some (.ref 46), some (.int 0), some (.int 57)] [] ((fun _ => false, 0, 0, true, false, ad), (zI_173 xs), (fun _ _ => 0))
  refine mm_ob (P := vp_in 57 279) (mm_inl (by decide)) ?_
  show mm_b _ _ _ _ _ [some (.ref 46), some (.int 0), some (.int 57)] [] ((fun _ => false, 0, 0, true, false, ad), (zI_174 xs), (fun _ _ => 0))
  refine mm_el (c := (279 : Int32) ≤ 58) (d := ¬ (279 : Int32) ≤ 58) (by decide) ?_
  show mm_b _ _ _ _ _ [some (.ref 46), some (.int 0), some (.int 58)] [] ((fun _ => false, 0, 0, true, false, ad), (zI_174 xs), (fun _ _ => 0))
  refine mm_ob (P := vp_in 58 279) (mm_inl (by decide)) ?_
  show mm_b _ _ _ _ _ [some (.ref 46), some (.int 0), some (.int 58)] [] ((fun _ => false, 0, 0, true, false, ad), (zI_175 xs), (fun _ _ => 0))
  refine mm_el (c := (279 : Int32) ≤ 59) (d := ¬ (279 : Int32) ≤ 59) (by decide) ?_
  show mm_b _ _ _ _ _ [some (.ref 46), some (.int 0), some (.int 59)] [] ((fun _ => false, 0, 0, true, false, ad), (zI_175 xs), (fun _ _ => 0))
  refine mm_ob (P := vp_in 59 279) (mm_inl (by decide)) ?_
  show mm_b _ _ _ _ _ [some (.ref 46), some (.int 0), some (.int 59)] [] ((fun _ => false, 0, 0, true, false, ad), (zI_176 xs), (fun _ _ => 0))
  refine mm_el (c := (279 : Int32) ≤ 60) (d := ¬ (279 : Int32) ≤ 60) (by decide) ?_
  show mm_b _ _ _ _ _ [some (.ref 46), some (.int 0), some (.int 60)] [] ((fun _ => false, 0, 0, true, false, ad), (zI_176 xs), (fun _ _ => 0))
  refine mm_ob (P := vp_in 60 279) (mm_inl (by decide)) ?_
  show mm_b _ _ _ _ _ [some (.ref 46), some (.int 0), some (.int 60)] [] ((fun _ => false, 0, 0, true, false, ad), (zI_177 xs), (fun _ _ => 0))
  refine mm_el (c := (279 : Int32) ≤ 61) (d := ¬ (279 : Int32) ≤ 61) (by decide) ?_
  show mm_b _ _ _ _ _ [some (.ref 46), some (.int 0), some (.int 61)] [] ((fun _ => false, 0, 0, true, false, ad), (zI_177 xs), (fun _ _ => 0))
  refine mm_ob (P := vp_in 61 279) (mm_inl (by decide)) ?_
  show mm_b _ _ _ _ _ [some (.ref 46), some (.int 0), some (.int 61)] [] ((fun _ => false, 0, 0, true, false, ad), (zI_178 xs), (fun _ _ => 0))
  refine mm_el (c := (279 : Int32) ≤ 62) (d := ¬ (279 : Int32) ≤ 62) (by decide) ?_
  show mm_b _ _ _ _ _ [some (.ref 46), some (.int 0), some (.int 62)] [] ((fun _ => false, 0, 0, true, false, ad), (zI_178 xs), (fun _ _ => 0))
  refine mm_ob (P := vp_in 62 279) (mm_inl (by decide)) ?_
  show mm_b _ _ _ _ _ [some (.ref 46), some (.int 0), some (.int 62)] [] ((fun _ => false, 0, 0, true, false, ad), (zI_179 xs), (fun _ _ => 0))
  refine mm_el (c := (279 : Int32) ≤ 63) (d := ¬ (279 : Int32) ≤ 63) (by decide) ?_
  show mm_b _ _ _ _ _ [some (.ref 46), some (.int 0), some (.int 63)] [] ((fun _ => false, 0, 0, true, false, ad), (zI_179 xs), (fun _ _ => 0))
  refine mm_ob (P := vp_in 63 279) (mm_inl (by decide)) ?_
  show mm_b _ _ _ _ _ [some (.ref 46), some (.int 0), some (.int 63)] [] ((fun _ => false, 0, 0, true, false, ad), (zI_180 xs), (fun _ _ => 0))
  refine mm_el (c := (279 : Int32) ≤ 64) (d := ¬ (279 : Int32) ≤ 64) (by decide) ?_
  show mm_b _ _ _ _ _ [some (.ref 46), some (.int 0), some (.int 64)] [] ((fun _ => false, 0, 0, true, false, ad), (zI_180 xs), (fun _ _ => 0))
  refine mm_ob (P := vp_in 64 279) (mm_inl (by decide)) ?_
  show mm_b _ _ _ _ _ [some (.ref 46), some (.int 0), some (.int 64)] [] ((fun _ => false, 0, 0, true, false, ad), (zI_181 xs), (fun _ _ => 0))
  refine mm_el (c := (279 : Int32) ≤ 65) (d := ¬ (279 : Int32) ≤ 65) (by decide) ?_
  show mm_b _ _ _ _ _ [some (.ref 46), some (.int 0), some (.int 65)] [] ((fun _ => false, 0, 0, true, false, ad), (zI_181 xs), (fun _ _ => 0))
  refine mm_ob (P := vp_in 65 279) (mm_inl (by decide)) ?_
  show mm_b _ _ _ _ _ [some (.ref 46), some (.int 0), some (.int 65)] [] ((fun _ => false, 0, 0, true, false, ad), (zI_182 xs), (fun _ _ => 0))
  refine mm_el (c := (279 : Int32) ≤ 66) (d := ¬ (279 : Int32) ≤ 66) (by decide) ?_
  show mm_b _ _ _ _ _ [some (.ref 46), some (.int 0), some (.int 66)] [] ((fun _ => false, 0, 0, true, false, ad), (zI_182 xs), (fun _ _ => 0))
  refine mm_ob (P := vp_in 66 279) (mm_inl (by decide)) ?_
  show mm_b _ _ _ _ _ [some (.ref 46), some (.int 0), some (.int 66)] [] ((fun _ => false, 0, 0, true, false, ad), (zI_183 xs), (fun _ _ => 0))
  refine mm_el (c := (279 : Int32) ≤ 67) (d := ¬ (279 : Int32) ≤ 67) (by decide) ?_
  show mm_b _ _ _ _ _ [some (.ref 46), some (.int 0), some (.int 67)] [] ((fun _ => false, 0, 0, true, false, ad), (zI_183 xs), (fun _ _ => 0))
  refine mm_ob (P := vp_in 67 279) (mm_inl (by decide)) ?_
  show mm_b _ _ _ _ _ [some (.ref 46), some (.int 0), some (.int 67)] [] ((fun _ => false, 0, 0, true, false, ad), (zI_184 xs), (fun _ _ => 0))
  refine mm_el (c := (279 : Int32) ≤ 68) (d := ¬ (279 : Int32) ≤ 68) (by decide) ?_
  show mm_b _ _ _ _ _ [some (.ref 46), some (.int 0), some (.int 68)] [] ((fun _ => false, 0, 0, true, false, ad), (zI_184 xs), (fun _ _ => 0))
  refine mm_ob (P := vp_in 68 279) (mm_inl (by decide)) ?_
  show mm_b _ _ _ _ _ [some (.ref 46), some (.int 0), some (.int 68)] [] ((fun _ => false, 0, 0, true, false, ad), (zI_185 xs), (fun _ _ => 0))
  refine mm_el (c := (279 : Int32) ≤ 69) (d := ¬ (279 : Int32) ≤ 69) (by decide) ?_
  show mm_b _ _ _ _ _ [some (.ref 46), some (.int 0), some (.int 69)] [] ((fun _ => false, 0, 0, true, false, ad), (zI_185 xs), (fun _ _ => 0))
  refine mm_ob (P := vp_in 69 279) (mm_inl (by decide)) ?_
  show mm_b _ _ _ _ _ [some (.ref 46), some (.int 0), some (.int 69)] [] ((fun _ => false, 0, 0, true, false, ad), (zI_186 xs), (fun _ _ => 0))
  refine mm_el (c := (279 : Int32) ≤ 70) (d := ¬ (279 : Int32) ≤ 70) (by decide) ?_
  show mm_b _ _ _ _ _ [some (.ref 46), some (.int 0), some (.int 70)] [] ((fun _ => false, 0, 0, true, false, ad), (zI_186 xs), (fun _ _ => 0))
  refine mm_ob (P := vp_in 70 279) (mm_inl (by decide)) ?_
  show mm_b _ _ _ _ _ [some (.ref 46), some (.int 0), some (.int 70)] [] ((fun _ => false, 0, 0, true, false, ad), (zI_187 xs), (fun _ _ => 0))
  refine mm_el (c := (279 : Int32) ≤ 71) (d := ¬ (279 : Int32) ≤ 71) (by decide) ?_
  show mm_b _ _ _ _ _ [some (.ref 46), some (.int 0), some (.int 71)] [] ((fun _ => false, 0, 0, true, false, ad), (zI_187 xs), (fun _ _ => 0))
  refine mm_ob (P := vp_in 71 279) (mm_inl (by decide)) ?_
  show mm_b _ _ _ _ _ [some (.ref 46), some (.int 0), some (.int 71)] [] ((fun _ => false, 0, 0, true, false, ad), (zI_188 xs), (fun _ _ => 0))
  refine mm_el (c := (279 : Int32) ≤ 72) (d := ¬ (279 : Int32) ≤ 72) (by decide) ?_
  show mm_b _ _ _ _ _ [some (.ref 46), some (.int 0), some (.int 72)] [] ((fun _ => false, 0, 0, true, false, ad), (zI_188 xs), (fun _ _ => 0))
  refine mm_ob (P := vp_in 72 279) (mm_inl (by decide)) ?_
  show mm_b _ _ _ _ _ [some (.ref 46), some (.int 0), some (.int 72)] [] ((fun _ => false, 0, 0, true, false, ad), (zI_189 xs), (fun _ _ => 0))
  refine mm_el (c := (279 : Int32) ≤ 73) (d := ¬ (279 : Int32) ≤ 73) (by decide) ?_
  show mm_b _ _ _ _ _ [some (.ref 46), some (.int 0), some (.int 73)] [] ((fun _ => false, 0, 0, true, false, ad), (zI_189 xs), (fun _ _ => 0))
  refine mm_ob (P := vp_in 73 279) (mm_inl (by decide)) ?_
  show mm_b _ _ _ _ _ [some (.ref 46), some (.int 0), some (.int 73)] [] ((fun _ => false, 0, 0, true, false, ad), (zI_190 xs), (fun _ _ => 0))
  refine mm_el (c := (279 : Int32) ≤ 74) (d := ¬ (279 : Int32) ≤ 74) (by decide) ?_
  show mm_b _ _ _ _ _ [some (.ref 46), some (.int 0), some (.int 74)] [] ((fun _ => false, 0, 0, true, false, ad), (zI_190 xs), (fun _ _ => 0))
  refine mm_ob (P := vp_in 74 279) (mm_inl (by decide)) ?_
  show mm_b _ _ _ _ _ [some (.ref 46), some (.int 0), some (.int 74)] [] ((fun _ => false, 0, 0, true, false, ad), (zI_191 xs), (fun _ _ => 0))
  refine mm_el (c := (279 : Int32) ≤ 75) (d := ¬ (279 : Int32) ≤ 75) (by decide) ?_
  show mm_b _ _ _ _ _ [some (.ref 46), some (.int 0), some (.int 75)] [] ((fun _ => false, 0, 0, true, false, ad), (zI_191 xs), (fun _ _ => 0))
  refine mm_ob (P := vp_in 75 279) (mm_inl (by decide)) ?_
  show mm_b _ _ _ _ _ [some (.ref 46), some (.int 0), some (.int 75)] [] ((fun _ => false, 0, 0, true, false, ad), (zI_192 xs), (fun _ _ => 0))
  refine mm_el (c := (279 : Int32) ≤ 76) (d := ¬ (279 : Int32) ≤ 76) (by decide) ?_
  show mm_b _ _ _ _ _ [some (.ref 46), some (.int 0), some (.int 76)] [] ((fun _ => false, 0, 0, true, false, ad), (zI_192 xs), (fun _ _ => 0))
  refine mm_ob (P := vp_in 76 279) (mm_inl (by decide)) ?_
  show mm_b _ _ _ _ _ [some (.ref 46), some (.int 0), some (.int 76)] [] ((fun _ => false, 0, 0, true, false, ad), (zI_193 xs), (fun _ _ => 0))
  refine mm_el (c := (279 : Int32) ≤ 77) (d := ¬ (279 : Int32) ≤ 77) (by decide) ?_
  show mm_b _ _ _ _ _ [some (.ref 46), some (.int 0), some (.int 77)] [] ((fun _ => false, 0, 0, true, false, ad), (zI_193 xs), (fun _ _ => 0))
  refine mm_ob (P := vp_in 77 279) (mm_inl (by decide)) ?_
  show mm_b _ _ _ _ _ [some (.ref 46), some (.int 0), some (.int 77)] [] ((fun _ => false, 0, 0, true, false, ad), (zI_194 xs), (fun _ _ => 0))
  refine mm_el (c := (279 : Int32) ≤ 78) (d := ¬ (279 : Int32) ≤ 78) (by decide) ?_
  show mm_b _ _ _ _ _ [some (.ref 46), some (.int 0), some (.int 78)] [] ((fun _ => false, 0, 0, true, false, ad), (zI_194 xs), (fun _ _ => 0))
  refine mm_ob (P := vp_in 78 279) (mm_inl (by decide)) ?_
  show mm_b _ _ _ _ _ [some (.ref 46), some (.int 0), some (.int 78)] [] ((fun _ => false, 0, 0, true, false, ad), (zI_195 xs), (fun _ _ => 0))
  refine mm_el (c := (279 : Int32) ≤ 79) (d := ¬ (279 : Int32) ≤ 79) (by decide) ?_
  show mm_b _ _ _ _ _ [some (.ref 46), some (.int 0), some (.int 79)] [] ((fun _ => false, 0, 0, true, false, ad), (zI_195 xs), (fun _ _ => 0))
  refine mm_ob (P := vp_in 79 279) (mm_inl (by decide)) ?_
  show mm_b _ _ _ _ _ [some (.ref 46), some (.int 0), some (.int 79)] [] ((fun _ => false, 0, 0, true, false, ad), (zI_196 xs), (fun _ _ => 0))
  refine mm_el (c := (279 : Int32) ≤ 80) (d := ¬ (279 : Int32) ≤ 80) (by decide) ?_
  show mm_b _ _ _ _ _ [some (.ref 46), some (.int 0), some (.int 80)] [] ((fun _ => false, 0, 0, true, false, ad), (zI_196 xs), (fun _ _ => 0))
  refine mm_ob (P := vp_in 80 279) (mm_inl (by decide)) ?_
  show mm_b _ _ _ _ _ [some (.ref 46), some (.int 0), some (.int 80)] [] ((fun _ => false, 0, 0, true, false, ad), (zI_197 xs), (fun _ _ => 0))
  refine mm_el (c := (279 : Int32) ≤ 81) (d := ¬ (279 : Int32) ≤ 81) (by decide) ?_
  show mm_b _ _ _ _ _ [some (.ref 46), some (.int 0), some (.int 81)] [] ((fun _ => false, 0, 0, true, false, ad), (zI_197 xs), (fun _ _ => 0))
  refine mm_ob (P := vp_in 81 279) (mm_inl (by decide)) ?_
  show mm_b _ _ _ _ _ [some (.ref 46), some (.int 0), some (.int 81)] [] ((fun _ => false, 0, 0, true, false, ad), (zI_198 xs), (fun _ _ => 0))
  refine mm_el (c := (279 : Int32) ≤ 82) (d := ¬ (279 : Int32) ≤ 82) (by decide) ?_
  show mm_b _ _ _ _ _ [some (.ref 46), some (.int 0), some (.int 82)] [] ((fun _ => false, 0, 0, true, false, ad), (zI_198 xs), (fun _ _ => 0))
  refine mm_ob (P := vp_in 82 279) (mm_inl (by decide)) ?_
  show mm_b _ _ _ _ _ [some (.ref 46), some (.int 0), some (.int 82)] [] ((fun _ => false, 0, 0, true, false, ad), (zI_199 xs), (fun _ _ => 0))
  refine mm_el (c := (279 : Int32) ≤ 83) (d := ¬ (279 : Int32) ≤ 83) (by decide) ?_
  show mm_b _ _ _ _ _ [some (.ref 46), some (.int 0), some (.int 83)] [] ((fun _ => false, 0, 0, true, false, ad), (zI_199 xs), (fun _ _ => 0))
  refine mm_ob (P := vp_in 83 279) (mm_inl (by decide)) ?_
  show mm_b _ _ _ _ _ [some (.ref 46), some (.int 0), some (.int 83)] [] ((fun _ => false, 0, 0, true, false, ad), (zI_200 xs), (fun _ _ => 0))
  refine mm_el (c := (279 : Int32) ≤ 84) (d := ¬ (279 : Int32) ≤ 84) (by decide) ?_
  show mm_b _ _ _ _ _ [some (.ref 46), some (.int 0), some (.int 84)] [] ((fun _ => false, 0, 0, true, false, ad), (zI_200 xs), (fun _ _ => 0))
  refine mm_ob (P := vp_in 84 279) (mm_inl (by decide)) ?_
  show mm_b _ _ _ _ _ [some (.ref 46), some (.int 0), some (.int 84)] [] ((fun _ => false, 0, 0, true, false, ad), (zI_201 xs), (fun _ _ => 0))
  refine mm_el (c := (279 : Int32) ≤ 85) (d := ¬ (279 : Int32) ≤ 85) (by decide) ?_
  show mm_b _ _ _ _ _ [some (.ref 46), some (.int 0), some (.int 85)] [] ((fun _ => false, 0, 0, true, false, ad), (zI_201 xs), (fun _ _ => 0))
  refine mm_ob (P := vp_in 85 279) (mm_inl (by decide)) ?_
  show mm_b _ _ _ _ _ [some (.ref 46), some (.int 0), some (.int 85)] [] ((fun _ => false, 0, 0, true, false, ad), (zI_202 xs), (fun _ _ => 0))
  refine mm_el (c := (279 : Int32) ≤ 86) (d := ¬ (279 : Int32) ≤ 86) (by decide) ?_
  show mm_b _ _ _ _ _ [some (.ref 46), some (.int 0), some (.int 86)] [] ((fun _ => false, 0, 0, true, false, ad), (zI_202 xs), (fun _ _ => 0))
  refine mm_ob (P := vp_in 86 279) (mm_inl (by decide)) ?_
  show mm_b _ _ _ _ _ [some (.ref 46), some (.int 0), some (.int 86)] [] ((fun _ => false, 0, 0, true, false, ad), (zI_203 xs), (fun _ _ => 0))
  refine mm_el (c := (279 : Int32) ≤ 87) (d := ¬ (279 : Int32) ≤ 87) (by decide) ?_
  show mm_b _ _ _ _ _ [some (.ref 46), some (.int 0), some (.int 87)] [] ((fun _ => false, 0, 0, true, false, ad), (zI_203 xs), (fun _ _ => 0))
  refine mm_ob (P := vp_in 87 279) (mm_inl (by decide)) ?_
  show mm_b _ _ _ _ _ [some (.ref 46), some (.int 0), some (.int 87)] [] ((fun _ => false, 0, 0, true, false, ad), (zI_204 xs), (fun _ _ => 0))
  refine mm_el (c := (279 : Int32) ≤ 88) (d := ¬ (279 : Int32) ≤ 88) (by decide) ?_
  show mm_b _ _ _ _ _ [some (.ref 46), some (.int 0), some (.int 88)] [] ((fun _ => false, 0, 0, true, false, ad), (zI_204 xs), (fun _ _ => 0))
  refine mm_ob (P := vp_in 88 279) (mm_inl (by decide)) ?_
  show mm_b _ _ _ _ _ [some (.ref 46), some (.int 0), some (.int 88)] [] ((fun _ => false, 0, 0, true, false, ad), (zI_205 xs), (fun _ _ => 0))
  refine mm_el (c := (279 : Int32) ≤ 89) (d := ¬ (279 : Int32) ≤ 89) (by decide) ?_
  show mm_b _ _ _ _ _ [some (.ref 46), some (.int 0), some (.int 89)] [] ((fun _ => false, 0, 0, true, false, ad), (zI_205 xs), (fun _ _ => 0))
  refine mm_ob (P := vp_in 89 279) (mm_inl (by decide)) ?_
  show mm_b _ _ _ _ _ [some (.ref 46), some (.int 0), some (.int 89)] [] ((fun _ => false, 0, 0, true, false, ad), (zI_206 xs), (fun _ _ => 0))
  refine mm_el (c := (279 : Int32) ≤ 90) (d := ¬ (279 : Int32) ≤ 90) (by decide) ?_
  show mm_b _ _ _ _ _ [some (.ref 46), some (.int 0), some (.int 90)] [] ((fun _ => false, 0, 0, true, false, ad), (zI_206 xs), (fun _ _ => 0))
  refine mm_ob (P := vp_in 90 279) (mm_inl (by decide)) ?_
  show mm_b _ _ _ _ _ [some (.ref 46), some (.int 0), some (.int 90)] [] ((fun _ => false, 0, 0, true, false, ad), (zI_207 xs), (fun _ _ => 0))
  refine mm_el (c := (279 : Int32) ≤ 91) (d := ¬ (279 : Int32) ≤ 91) (by decide) ?_
  show mm_b _ _ _ _ _ [some (.ref 46), some (.int 0), some (.int 91)] [] ((fun _ => false, 0, 0, true, false, ad), (zI_207 xs), (fun _ _ => 0))
  refine mm_ob (P := vp_in 91 279) (mm_inl (by decide)) ?_
  show mm_b _ _ _ _ _ [some (.ref 46), some (.int 0), some (.int 91)] [] ((fun _ => false, 0, 0, true, false, ad), (zI_208 xs), (fun _ _ => 0))
  refine mm_el (c := (279 : Int32) ≤ 92) (d := ¬ (279 : Int32) ≤ 92) (by decide) ?_
  show mm_b _ _ _ _ _ [some (.ref 46), some (.int 0), some (.int 92)] [] ((fun _ => false, 0, 0, true, false, ad), (zI_208 xs), (fun _ _ => 0))
  refine mm_ob (P := vp_in 92 279) (mm_inl (by decide)) ?_
  show mm_b _ _ _ _ _ [some (.ref 46), some (.int 0), some (.int 92)] [] ((fun _ => false, 0, 0, true, false, ad), (zI_209 xs), (fun _ _ => 0))
  refine mm_el (c := (279 : Int32) ≤ 93) (d := ¬ (279 : Int32) ≤ 93) (by decide) ?_
  show mm_b _ _ _ _ _ [some (.ref 46), some (.int 0), some (.int 93)] [] ((fun _ => false, 0, 0, true, false, ad), (zI_209 xs), (fun _ _ => 0))
  refine mm_ob (P := vp_in 93 279) (mm_inl (by decide)) ?_
  show mm_b _ _ _ _ _ [some (.ref 46), some (.int 0), some (.int 93)] [] ((fun _ => false, 0, 0, true, false, ad), (zI_210 xs), (fun _ _ => 0))
  refine mm_el (c := (279 : Int32) ≤ 94) (d := ¬ (279 : Int32) ≤ 94) (by decide) ?_
  show mm_b _ _ _ _ _ [some (.ref 46), some (.int 0), some (.int 94)] [] ((fun _ => false, 0, 0, true, false, ad), (zI_210 xs), (fun _ _ => 0))
  refine mm_ob (P := vp_in 94 279) (mm_inl (by decide)) ?_
  show mm_b _ _ _ _ _ [some (.ref 46), some (.int 0), some (.int 94)] [] ((fun _ => false, 0, 0, true, false, ad), (zI_211 xs), (fun _ _ => 0))
  refine mm_el (c := (279 : Int32) ≤ 95) (d := ¬ (279 : Int32) ≤ 95) (by decide) ?_
  show mm_b _ _ _ _ _ [some (.ref 46), some (.int 0), some (.int 95)] [] ((fun _ => false, 0, 0, true, false, ad), (zI_211 xs), (fun _ _ => 0))
  refine mm_ob (P := vp_in 95 279) (mm_inl (by decide)) ?_
  show mm_b _ _ _ _ _ [some (.ref 46), some (.int 0), some (.int 95)] [] ((fun _ => false, 0, 0, true, false, ad), (zI_212 xs), (fun _ _ => 0))
  refine mm_el (c := (279 : Int32) ≤ 96) (d := ¬ (279 : Int32) ≤ 96) (by decide) ?_
  show mm_b _ _ _ _ _ [some (.ref 46), some (.int 0), some (.int 96)] [] ((fun _ => false, 0, 0, true, false, ad), (zI_212 xs), (fun _ _ => 0))
  refine mm_ob (P := vp_in 96 279) (mm_inl (by decide)) ?_
  show mm_b _ _ _ _ _ [some (.ref 46), some (.int 0), some (.int 96)] [] ((fun _ => false, 0, 0, true, false, ad), (zI_213 xs), (fun _ _ => 0))
  refine mm_el (c := (279 : Int32) ≤ 97) (d := ¬ (279 : Int32) ≤ 97) (by decide) ?_
  show mm_b _ _ _ _ _ [some (.ref 46), some (.int 0), some (.int 97)] [] ((fun _ => false, 0, 0, true, false, ad), (zI_213 xs), (fun _ _ => 0))
  refine mm_ob (P := vp_in 97 279) (mm_inl (by decide)) ?_
  show mm_b _ _ _ _ _ [some (.ref 46), some (.int 0), some (.int 97)] [] ((fun _ => false, 0, 0, true, false, ad), (zI_214 xs), (fun _ _ => 0))
  refine mm_el (c := (279 : Int32) ≤ 98) (d := ¬ (279 : Int32) ≤ 98) (by decide) ?_
  show mm_b _ _ _ _ _ [some (.ref 46), some (.int 0), some (.int 98)] [] ((fun _ => false, 0, 0, true, false, ad), (zI_214 xs), (fun _ _ => 0))
  refine mm_ob (P := vp_in 98 279) (mm_inl (by decide)) ?_
  show mm_b _ _ _ _ _ [some (.ref 46), some (.int 0), some (.int 98)] [] ((fun _ => false, 0, 0, true, false, ad), (zI_215 xs), (fun _ _ => 0))
  refine mm_el (c := (279 : Int32) ≤ 99) (d := ¬ (279 : Int32) ≤ 99) (by decide) ?_
  show mm_b _ _ _ _ _ [some (.ref 46), some (.int 0), some (.int 99)] [] ((fun _ => false, 0, 0, true, false, ad), (zI_215 xs), (fun _ _ => 0))
  refine mm_ob (P := vp_in 99 279) (mm_inl (by decide)) ?_
  show mm_b _ _ _ _ _ [some (.ref 46), some (.int 0), some (.int 99)] [] ((fun _ => false, 0, 0, true, false, ad), (zI_216 xs), (fun _ _ => 0))
  refine mm_el (c := (279 : Int32) ≤ 100) (d := ¬ (279 : Int32) ≤ 100) (by decide) ?_
  show mm_b _ _ _ _ _ [some (.ref 46), some (.int 0), some (.int 100)] [] ((fun _ => false, 0, 0, true, false, ad), (zI_216 xs), (fun _ _ => 0))
  refine mm_ob (P := vp_in 100 279) (mm_inl (by decide)) ?_
  show mm_b _ _ _ _ _ [some (.ref 46), some (.int 0), some (.int 100)] [] ((fun _ => false, 0, 0, true, false, ad), (zI_217 xs), (fun _ _ => 0))
  refine mm_el (c := (279 : Int32) ≤ 101) (d := ¬ (279 : Int32) ≤ 101) (by decide) ?_
  show mm_b _ _ _ _ _ [some (.ref 46), some (.int 0), some (.int 101)] [] ((fun _ => false, 0, 0, true, false, ad), (zI_217 xs), (fun _ _ => 0))
  refine mm_ob (P := vp_in 101 279) (mm_inl (by decide)) ?_
  show mm_b _ _ _ _ _ [some (.ref 46), some (.int 0), some (.int 101)] [] ((fun _ => false, 0, 0, true, false, ad), (zI_218 xs), (fun _ _ => 0))
  refine mm_el (c := (279 : Int32) ≤ 102) (d := ¬ (279 : Int32) ≤ 102) (by decide) ?_
  show mm_b _ _ _ _ _ [some (.ref 46), some (.int 0), some (.int 102)] [] ((fun _ => false, 0, 0, true, false, ad), (zI_218 xs), (fun _ _ => 0))
  refine mm_ob (P := vp_in 102 279) (mm_inl (by decide)) ?_
  show mm_b _ _ _ _ _ [some (.ref 46), some (.int 0), some (.int 102)] [] ((fun _ => false, 0, 0, true, false, ad), (zI_219 xs), (fun _ _ => 0))
  refine mm_el (c := (279 : Int32) ≤ 103) (d := ¬ (279 : Int32) ≤ 103) (by decide) ?_
  show mm_b _ _ _ _ _ [some (.ref 46), some (.int 0), some (.int 103)] [] ((fun _ => false, 0, 0, true, false, ad), (zI_219 xs), (fun _ _ => 0))
  refine mm_ob (P := vp_in 103 279) (mm_inl (by decide)) ?_
  show mm_b _ _ _ _ _ [some (.ref 46), some (.int 0), some (.int 103)] [] ((fun _ => false, 0, 0, true, false, ad), (zI_220 xs), (fun _ _ => 0))
  refine mm_el (c := (279 : Int32) ≤ 104) (d := ¬ (279 : Int32) ≤ 104) (by decide) ?_
  show mm_b _ _ _ _ _ [some (.ref 46), some (.int 0), some (.int 104)] [] ((fun _ => false, 0, 0, true, false, ad), (zI_220 xs), (fun _ _ => 0))
  refine mm_ob (P := vp_in 104 279) (mm_inl (by decide)) ?_
  show mm_b _ _ _ _ _ [some (.ref 46), some (.int 0), some (.int 104)] [] ((fun _ => false, 0, 0, true, false, ad), (zI_221 xs), (fun _ _ => 0))
  refine mm_el (c := (279 : Int32) ≤ 105) (d := ¬ (279 : Int32) ≤ 105) (by decide) ?_
  show mm_b _ _ _ _ _ [some (.ref 46), some (.int 0), some (.int 105)] [] ((fun _ => false, 0, 0, true, false, ad), (zI_221 xs), (fun _ _ => 0))
  refine mm_ob (P := vp_in 105 279) (mm_inl (by decide)) ?_
  show mm_b _ _ _ _ _ [some (.ref 46), some (.int 0), some (.int 105)] [] ((fun _ => false, 0, 0, true, false, ad), (zI_222 xs), (fun _ _ => 0))
  refine mm_el (c := (279 : Int32) ≤ 106) (d := ¬ (279 : Int32) ≤ 106) (by decide) ?_
  show mm_b _ _ _ _ _ [some (.ref 46), some (.int 0), some (.int 106)] [] ((fun _ => false, 0, 0, true, false, ad), (zI_222 xs), (fun _ _ => 0))
  refine mm_ob (P := vp_in 106 279) (mm_inl (by decide)) ?_
  show mm_b _ _ _ _ _ [some (.ref 46), some (.int 0), some (.int 106)] [] ((fun _ => false, 0, 0, true, false, ad), (zI_223 xs), (fun _ _ => 0))
  refine mm_el (c := (279 : Int32) ≤ 107) (d := ¬ (279 : Int32) ≤ 107) (by decide) ?_
  show mm_b _ _ _ _ _ [some (.ref 46), some (.int 0), some (.int 107)] [] ((fun _ => false, 0, 0, true, false, ad), (zI_223 xs), (fun _ _ => 0))
  refine mm_ob (P := vp_in 107 279) (mm_inl (by decide)) ?_
  show mm_b _ _ _ _ _ [some (.ref 46), some (.int 0), some (.int 107)] [] ((fun _ => false, 0, 0, true, false, ad), (zI_224 xs), (fun _ _ => 0))
  refine mm_el (c := (279 : Int32) ≤ 108) (d := ¬ (279 : Int32) ≤ 108) (by decide) ?_
  show mm_b _ _ _ _ _ [some (.ref 46), some (.int 0), some (.int 108)] [] ((fun _ => false, 0, 0, true, false, ad), (zI_224 xs), (fun _ _ => 0))
  refine mm_ob (P := vp_in 108 279) (mm_inl (by decide)) ?_
  show mm_b _ _ _ _ _ [some (.ref 46), some (.int 0), some (.int 108)] [] ((fun _ => false, 0, 0, true, false, ad), (zI_225 xs), (fun _ _ => 0))
  refine mm_el (c := (279 : Int32) ≤ 109) (d := ¬ (279 : Int32) ≤ 109) (by decide) ?_
  show mm_b _ _ _ _ _ [some (.ref 46), some (.int 0), some (.int 109)] [] ((fun _ => false, 0, 0, true, false, ad), (zI_225 xs), (fun _ _ => 0))
  refine mm_ob (P := vp_in 109 279) (mm_inl (by decide)) ?_
  show mm_b _ _ _ _ _ [some (.ref 46), some (.int 0), some (.int 109)] [] ((fun _ => false, 0, 0, true, false, ad), (zI_226 xs), (fun _ _ => 0))
  refine mm_el (c := (279 : Int32) ≤ 110) (d := ¬ (279 : Int32) ≤ 110) (by decide) ?_
  show mm_b _ _ _ _ _ [some (.ref 46), some (.int 0), some (.int 110)] [] ((fun _ => false, 0, 0, true, false, ad), (zI_226 xs), (fun _ _ => 0))
  refine mm_ob (P := vp_in 110 279) (mm_inl (by decide)) ?_
  show mm_b _ _ _ _ _ [some (.ref 46), some (.int 0), some (.int 110)] [] ((fun _ => false, 0, 0, true, false, ad), (zI_227 xs), (fun _ _ => 0))
  refine mm_el (c := (279 : Int32) ≤ 111) (d := ¬ (279 : Int32) ≤ 111) (by decide) ?_
  show mm_b _ _ _ _ _ [some (.ref 46), some (.int 0), some (.int 111)] [] ((fun _ => false, 0, 0, true, false, ad), (zI_227 xs), (fun _ _ => 0))
  refine mm_ob (P := vp_in 111 279) (mm_inl (by decide)) ?_
  show mm_b _ _ _ _ _ [some (.ref 46), some (.int 0), some (.int 111)] [] ((fun _ => false, 0, 0, true, false, ad), (zI_228 xs), (fun _ _ => 0))
  refine mm_el (c := (279 : Int32) ≤ 112) (d := ¬ (279 : Int32) ≤ 112) (by decide) ?_
  show mm_b _ _ _ _ _ [some (.ref 46), some (.int 0), some (.int 112)] [] ((fun _ => false, 0, 0, true, false, ad), (zI_228 xs), (fun _ _ => 0))
  refine mm_ob (P := vp_in 112 279) (mm_inl (by decide)) ?_
  show mm_b _ _ _ _ _ [some (.ref 46), some (.int 0), some (.int 112)] [] ((fun _ => false, 0, 0, true, false, ad), (zI_229 xs), (fun _ _ => 0))
  refine mm_el (c := (279 : Int32) ≤ 113) (d := ¬ (279 : Int32) ≤ 113) (by decide) ?_
  show mm_b _ _ _ _ _ [some (.ref 46), some (.int 0), some (.int 113)] [] ((fun _ => false, 0, 0, true, false, ad), (zI_229 xs), (fun _ _ => 0))
  refine mm_ob (P := vp_in 113 279) (mm_inl (by decide)) ?_
  show mm_b _ _ _ _ _ [some (.ref 46), some (.int 0), some (.int 113)] [] ((fun _ => false, 0, 0, true, false, ad), (zI_230 xs), (fun _ _ => 0))
  refine mm_el (c := (279 : Int32) ≤ 114) (d := ¬ (279 : Int32) ≤ 114) (by decide) ?_
  show mm_b _ _ _ _ _ [some (.ref 46), some (.int 0), some (.int 114)] [] ((fun _ => false, 0, 0, true, false, ad), (zI_230 xs), (fun _ _ => 0))
  refine mm_ob (P := vp_in 114 279) (mm_inl (by decide)) ?_
  show mm_b _ _ _ _ _ [some (.ref 46), some (.int 0), some (.int 114)] [] ((fun _ => false, 0, 0, true, false, ad), (zI_231 xs), (fun _ _ => 0))
  refine mm_el (c := (279 : Int32) ≤ 115) (d := ¬ (279 : Int32) ≤ 115) (by decide) ?_
  show mm_b _ _ _ _ _ [some (.ref 46), some (.int 0), some (.int 115)] [] ((fun _ => false, 0, 0, true, false, ad), (zI_231 xs), (fun _ _ => 0))
  refine mm_ob (P := vp_in 115 279) (mm_inl (by decide)) ?_
  show mm_b _ _ _ _ _ [some (.ref 46), some (.int 0), some (.int 115)] [] ((fun _ => false, 0, 0, true, false, ad), (zI_232 xs), (fun _ _ => 0))
  refine mm_el (c := (279 : Int32) ≤ 116) (d := ¬ (279 : Int32) ≤ 116) (by decide) ?_
  show mm_b _ _ _ _ _ [some (.ref 46), some (.int 0), some (.int 116)] [] ((fun _ => false, 0, 0, true, false, ad), (zI_232 xs), (fun _ _ => 0))
  refine mm_ob (P := vp_in 116 279) (mm_inl (by decide)) ?_
  show mm_b _ _ _ _ _ [some (.ref 46), some (.int 0), some (.int 116)] [] ((fun _ => false, 0, 0, true, false, ad), (zI_233 xs), (fun _ _ => 0))
  refine mm_el (c := (279 : Int32) ≤ 117) (d := ¬ (279 : Int32) ≤ 117) (by decide) ?_
  show mm_b _ _ _ _ _ [some (.ref 46), some (.int 0), some (.int 117)] [] ((fun _ => false, 0, 0, true, false, ad), (zI_233 xs), (fun _ _ => 0))
  refine mm_ob (P := vp_in 117 279) (mm_inl (by decide)) ?_
  show mm_b _ _ _ _ _ [some (.ref 46), some (.int 0), some (.int 117)] [] ((fun _ => false, 0, 0, true, false, ad), (zI_234 xs), (fun _ _ => 0))
  refine mm_el (c := (279 : Int32) ≤ 118) (d := ¬ (279 : Int32) ≤ 118) (by decide) ?_
  show mm_b _ _ _ _ _ [some (.ref 46), some (.int 0), some (.int 118)] [] ((fun _ => false, 0, 0, true, false, ad), (zI_234 xs), (fun _ _ => 0))
  refine mm_ob (P := vp_in 118 279) (mm_inl (by decide)) ?_
  show mm_b _ _ _ _ _ [some (.ref 46), some (.int 0), some (.int 118)] [] ((fun _ => false, 0, 0, true, false, ad), (zI_235 xs), (fun _ _ => 0))
  refine mm_el (c := (279 : Int32) ≤ 119) (d := ¬ (279 : Int32) ≤ 119) (by decide) ?_
  show mm_b _ _ _ _ _ [some (.ref 46), some (.int 0), some (.int 119)] [] ((fun _ => false, 0, 0, true, false, ad), (zI_235 xs), (fun _ _ => 0))
  refine mm_ob (P := vp_in 119 279) (mm_inl (by decide)) ?_
  show mm_b _ _ _ _ _ [some (.ref 46), some (.int 0), some (.int 119)] [] ((fun _ => false, 0, 0, true, false, ad), (zI_236 xs), (fun _ _ => 0))
  refine mm_el (c := (279 : Int32) ≤ 120) (d := ¬ (279 : Int32) ≤ 120) (by decide) ?_
  show mm_b _ _ _ _ _ [some (.ref 46), some (.int 0), some (.int 120)] [] ((fun _ => false, 0, 0, true, false, ad), (zI_236 xs), (fun _ _ => 0))
  refine mm_ob (P := vp_in 120 279) (mm_inl (by decide)) ?_
  show mm_b _ _ _ _ _ [some (.ref 46), some (.int 0), some (.int 120)] [] ((fun _ => false, 0, 0, true, false, ad), (zI_237 xs), (fun _ _ => 0))
  refine mm_el (c := (279 : Int32) ≤ 121) (d := ¬ (279 : Int32) ≤ 121) (by decide) ?_
  show mm_b _ _ _ _ _ [some (.ref 46), some (.int 0), some (.int 121)] [] ((fun _ => false, 0, 0, true, false, ad), (zI_237 xs), (fun _ _ => 0))
  refine mm_ob (P := vp_in 121 279) (mm_inl (by decide)) ?_
  show mm_b _ _ _ _ _ [some (.ref 46), some (.int 0), some (.int 121)] [] ((fun _ => false, 0, 0, true, false, ad), (zI_238 xs), (fun _ _ => 0))
  refine mm_el (c := (279 : Int32) ≤ 122) (d := ¬ (279 : Int32) ≤ 122) (by decide) ?_
  show mm_b _ _ _ _ _ [some (.ref 46), some (.int 0), some (.int 122)] [] ((fun _ => false, 0, 0, true, false, ad), (zI_238 xs), (fun _ _ => 0))
  refine mm_ob (P := vp_in 122 279) (mm_inl (by decide)) ?_
  show mm_b _ _ _ _ _ [some (.ref 46), some (.int 0), some (.int 122)] [] ((fun _ => false, 0, 0, true, false, ad), (zI_239 xs), (fun _ _ => 0))
  refine mm_el (c := (279 : Int32) ≤ 123) (d := ¬ (279 : Int32) ≤ 123) (by decide) ?_
  show mm_b _ _ _ _ _ [some (.ref 46), some (.int 0), some (.int 123)] [] ((fun _ => false, 0, 0, true, false, ad), (zI_239 xs), (fun _ _ => 0))
  refine mm_ob (P := vp_in 123 279) (mm_inl (by decide)) ?_
  show mm_b _ _ _ _ _ [some (.ref 46), some (.int 0), some (.int 123)] [] ((fun _ => false, 0, 0, true, false, ad), (zI_240 xs), (fun _ _ => 0))
  refine mm_el (c := (279 : Int32) ≤ 124) (d := ¬ (279 : Int32) ≤ 124) (by decide) ?_
  show mm_b _ _ _ _ _ [some (.ref 46), some (.int 0), some (.int 124)] [] ((fun _ => false, 0, 0, true, false, ad), (zI_240 xs), (fun _ _ => 0))
  refine mm_ob (P := vp_in 124 279) (mm_inl (by decide)) ?_
  show mm_b _ _ _ _ _ [some (.ref 46), some (.int 0), some (.int 124)] [] ((fun _ => false, 0, 0, true, false, ad), (zI_241 xs), (fun _ _ => 0))
  refine mm_el (c := (279 : Int32) ≤ 125) (d := ¬ (279 : Int32) ≤ 125) (by decide) ?_
  show mm_b _ _ _ _ _ [some (.ref 46), some (.int 0), some (.int 125)] [] ((fun _ => false, 0, 0, true, false, ad), (zI_241 xs), (fun _ _ => 0))
  refine mm_ob (P := vp_in 125 279) (mm_inl (by decide)) ?_
  show mm_b _ _ _ _ _ [some (.ref 46), some (.int 0), some (.int 125)] [] ((fun _ => false, 0, 0, true, false, ad), (zI_242 xs), (fun _ _ => 0))
  refine mm_el (c := (279 : Int32) ≤ 126) (d := ¬ (279 : Int32) ≤ 126) (by decide) ?_
  show mm_b _ _ _ _ _ [some (.ref 46), some (.int 0), some (.int 126)] [] ((fun _ => false, 0, 0, true, false, ad), (zI_242 xs), (fun _ _ => 0))
  refine mm_ob (P := vp_in 126 279) (mm_inl (by decide)) ?_
  show mm_b _ _ _ _ _ [some (.ref 46), some (.int 0), some (.int 126)] [] ((fun _ => false, 0, 0, true, false, ad), (zI_243 xs), (fun _ _ => 0))
  refine mm_el (c := (279 : Int32) ≤ 127) (d := ¬ (279 : Int32) ≤ 127) (by decide) ?_
  show mm_b _ _ _ _ _ [some (.ref 46), some (.int 0), some (.int 127)] [] ((fun _ => false, 0, 0, true, false, ad), (zI_243 xs), (fun _ _ => 0))
  refine mm_ob (P := vp_in 127 279) (mm_inl (by decide)) ?_
  show mm_b _ _ _ _ _ [some (.ref 46), some (.int 0), some (.int 127)] [] ((fun _ => false, 0, 0, true, false, ad), (zI_244 xs), (fun _ _ => 0))
  refine mm_el (c := (279 : Int32) ≤ 128) (d := ¬ (279 : Int32) ≤ 128) (by decide) ?_
  show mm_b _ _ _ _ _ [some (.ref 46), some (.int 0), some (.int 128)] [] ((fun _ => false, 0, 0, true, false, ad), (zI_244 xs), (fun _ _ => 0))
  refine mm_ob (P := vp_in 128 279) (mm_inl (by decide)) ?_
  show mm_b _ _ _ _ _ [some (.ref 46), some (.int 0), some (.int 128)] [] ((fun _ => false, 0, 0, true, false, ad), (zI_245 xs), (fun _ _ => 0))
  refine mm_el (c := (279 : Int32) ≤ 129) (d := ¬ (279 : Int32) ≤ 129) (by decide) ?_
  show mm_b _ _ _ _ _ [some (.ref 46), some (.int 0), some (.int 129)] [] ((fun _ => false, 0, 0, true, false, ad), (zI_245 xs), (fun _ _ => 0))
  refine mm_ob (P := vp_in 129 279) (mm_inl (by decide)) ?_
  show mm_b _ _ _ _ _ [some (.ref 46), some (.int 0), some (.int 129)] [] ((fun _ => false, 0, 0, true, false, ad), (zI_246 xs), (fun _ _ => 0))
  refine mm_el (c := (279 : Int32) ≤ 130) (d := ¬ (279 : Int32) ≤ 130) (by decide) ?_
  show mm_b _ _ _ _ _ [some (.ref 46), some (.int 0), some (.int 130)] [] ((fun _ => false, 0, 0, true, false, ad), (zI_246 xs), (fun _ _ => 0))
  refine mm_ob (P := vp_in 130 279) (mm_inl (by decide)) ?_
  show mm_b _ _ _ _ _ [some (.ref 46), some (.int 0), some (.int 130)] [] ((fun _ => false, 0, 0, true, false, ad), (zI_247 xs), (fun _ _ => 0))
  refine mm_el (c := (279 : Int32) ≤ 131) (d := ¬ (279 : Int32) ≤ 131) (by decide) ?_
  show mm_b _ _ _ _ _ [some (.ref 46), some (.int 0), some (.int 131)] [] ((fun _ => false, 0, 0, true, false, ad), (zI_247 xs), (fun _ _ => 0))
  refine mm_ob (P := vp_in 131 279) (mm_inl (by decide)) ?_
  show mm_b _ _ _ _ _ [some (.ref 46), some (.int 0), some (.int 131)] [] ((fun _ => false, 0, 0, true, false, ad), (zI_248 xs), (fun _ _ => 0))
  refine mm_el (c := (279 : Int32) ≤ 132) (d := ¬ (279 : Int32) ≤ 132) (by decide) ?_
  show mm_b _ _ _ _ _ [some (.ref 46), some (.int 0), some (.int 132)] [] ((fun _ => false, 0, 0, true, false, ad), (zI_248 xs), (fun _ _ => 0))
  refine mm_ob (P := vp_in 132 279) (mm_inl (by decide)) ?_
  show mm_b _ _ _ _ _ [some (.ref 46), some (.int 0), some (.int 132)] [] ((fun _ => false, 0, 0, true, false, ad), (zI_249 xs), (fun _ _ => 0))
  refine mm_el (c := (279 : Int32) ≤ 133) (d := ¬ (279 : Int32) ≤ 133) (by decide) ?_
  show mm_b _ _ _ _ _ [some (.ref 46), some (.int 0), some (.int 133)] [] ((fun _ => false, 0, 0, true, false, ad), (zI_249 xs), (fun _ _ => 0))
  refine mm_ob (P := vp_in 133 279) (mm_inl (by decide)) ?_
  show mm_b _ _ _ _ _ [some (.ref 46), some (.int 0), some (.int 133)] [] ((fun _ => false, 0, 0, true, false, ad), (zI_250 xs), (fun _ _ => 0))
  refine mm_el (c := (279 : Int32) ≤ 134) (d := ¬ (279 : Int32) ≤ 134) (by decide) ?_
  show mm_b _ _ _ _ _ [some (.ref 46), some (.int 0), some (.int 134)] [] ((fun _ => false, 0, 0, true, false, ad), (zI_250 xs), (fun _ _ => 0))
  refine mm_ob (P := vp_in 134 279) (mm_inl (by decide)) ?_
  show mm_b _ _ _ _ _ [some (.ref 46), some (.int 0), some (.int 134)] [] ((fun _ => false, 0, 0, true, false, ad), (zI_251 xs), (fun _ _ => 0))
  refine mm_el (c := (279 : Int32) ≤ 135) (d := ¬ (279 : Int32) ≤ 135) (by decide) ?_
  show mm_b _ _ _ _ _ [some (.ref 46), some (.int 0), some (.int 135)] [] ((fun _ => false, 0, 0, true, false, ad), (zI_251 xs), (fun _ _ => 0))
  refine mm_ob (P := vp_in 135 279) (mm_inl (by decide)) ?_
  show mm_b _ _ _ _ _ [some (.ref 46), some (.int 0), some (.int 135)] [] ((fun _ => false, 0, 0, true, false, ad), (zI_252 xs), (fun _ _ => 0))
  refine mm_el (c := (279 : Int32) ≤ 136) (d := ¬ (279 : Int32) ≤ 136) (by decide) ?_
  show mm_b _ _ _ _ _ [some (.ref 46), some (.int 0), some (.int 136)] [] ((fun _ => false, 0, 0, true, false, ad), (zI_252 xs), (fun _ _ => 0))
  refine mm_ob (P := vp_in 136 279) (mm_inl (by decide)) ?_
  show mm_b _ _ _ _ _ [some (.ref 46), some (.int 0), some (.int 136)] [] ((fun _ => false, 0, 0, true, false, ad), (zI_253 xs), (fun _ _ => 0))
  refine mm_el (c := (279 : Int32) ≤ 137) (d := ¬ (279 : Int32) ≤ 137) (by decide) ?_
  show mm_b _ _ _ _ _ [some (.ref 46), some (.int 0), some (.int 137)] [] ((fun _ => false, 0, 0, true, false, ad), (zI_253 xs), (fun _ _ => 0))
  refine mm_ob (P := vp_in 137 279) (mm_inl (by decide)) ?_
  show mm_b _ _ _ _ _ [some (.ref 46), some (.int 0), some (.int 137)] [] ((fun _ => false, 0, 0, true, false, ad), (zI_254 xs), (fun _ _ => 0))
  refine mm_el (c := (279 : Int32) ≤ 138) (d := ¬ (279 : Int32) ≤ 138) (by decide) ?_
  show mm_b _ _ _ _ _ [some (.ref 46), some (.int 0), some (.int 138)] [] ((fun _ => false, 0, 0, true, false, ad), (zI_254 xs), (fun _ _ => 0))
  refine mm_ob (P := vp_in 138 279) (mm_inl (by decide)) ?_
  show mm_b _ _ _ _ _ [some (.ref 46), some (.int 0), some (.int 138)] [] ((fun _ => false, 0, 0, true, false, ad), (zI_255 xs), (fun _ _ => 0))
  refine mm_el (c := (279 : Int32) ≤ 139) (d := ¬ (279 : Int32) ≤ 139) (by decide) ?_
  show mm_b _ _ _ _ _ [some (.ref 46), some (.int 0), some (.int 139)] [] ((fun _ => false, 0, 0, true, false, ad), (zI_255 xs), (fun _ _ => 0))
  refine mm_ob (P := vp_in 139 279) (mm_inl (by decide)) ?_
  show mm_b _ _ _ _ _ [some (.ref 46), some (.int 0), some (.int 139)] [] ((fun _ => false, 0, 0, true, false, ad), (zI_256 xs), (fun _ _ => 0))
  refine mm_el (c := (279 : Int32) ≤ 140) (d := ¬ (279 : Int32) ≤ 140) (by decide) ?_
  show mm_b _ _ _ _ _ [some (.ref 46), some (.int 0), some (.int 140)] [] ((fun _ => false, 0, 0, true, false, ad), (zI_256 xs), (fun _ _ => 0))
  refine mm_ob (P := vp_in 140 279) (mm_inl (by decide)) ?_
  show mm_b _ _ _ _ _ [some (.ref 46), some (.int 0), some (.int 140)] [] ((fun _ => false, 0, 0, true, false, ad), (zI_257 xs), (fun _ _ => 0))
  refine mm_el (c := (279 : Int32) ≤ 141) (d := ¬ (279 : Int32) ≤ 141) (by decide) ?_
  show mm_b _ _ _ _ _ [some (.ref 46), some (.int 0), some (.int 141)] [] ((fun _ => false, 0, 0, true, false, ad), (zI_257 xs), (fun _ _ => 0))
  refine mm_ob (P := vp_in 141 279) (mm_inl (by decide)) ?_
  show mm_b _ _ _ _ _ [some (.ref 46), some (.int 0), some (.int 141)] [] ((fun _ => false, 0, 0, true, false, ad), (zI_258 xs), (fun _ _ => 0))
  refine mm_el (c := (279 : Int32) ≤ 142) (d := ¬ (279 : Int32) ≤ 142) (by decide) ?_
  show mm_b _ _ _ _ _ [some (.ref 46), some (.int 0), some (.int 142)] [] ((fun _ => false, 0, 0, true, false, ad), (zI_258 xs), (fun _ _ => 0))
  refine mm_ob (P := vp_in 142 279) (mm_inl (by decide)) ?_
  show mm_b _ _ _ _ _ [some (.ref 46), some (.int 0), some (.int 142)] [] ((fun _ => false, 0, 0, true, false, ad), (zI_259 xs), (fun _ _ => 0))
  refine mm_el (c := (279 : Int32) ≤ 143) (d := ¬ (279 : Int32) ≤ 143) (by decide) ?_
  show mm_b _ _ _ _ _ [some (.ref 46), some (.int 0), some (.int 143)] [] ((fun _ => false, 0, 0, true, false, ad), (zI_259 xs), (fun _ _ => 0))
  refine mm_ob (P := vp_in 143 279) (mm_inl (by decide)) ?_
  show mm_b _ _ _ _ _ [some (.ref 46), some (.int 0), some (.int 143)] [] ((fun _ => false, 0, 0, true, false, ad), (zI_260 xs), (fun _ _ => 0))
  refine mm_el (c := (279 : Int32) ≤ 144) (d := ¬ (279 : Int32) ≤ 144) (by decide) ?_
  show mm_b _ _ _ _ _ [some (.ref 46), some (.int 0), some (.int 144)] [] ((fun _ => false, 0, 0, true, false, ad), (zI_260 xs), (fun _ _ => 0))
  refine mm_ob (P := vp_in 144 279) (mm_inl (by decide)) ?_
  show mm_b _ _ _ _ _ [some (.ref 46), some (.int 0), some (.int 144)] [] ((fun _ => false, 0, 0, true, false, ad), (zI_261 xs), (fun _ _ => 0))
  refine mm_el (c := (279 : Int32) ≤ 145) (d := ¬ (279 : Int32) ≤ 145) (by decide) ?_
  show mm_b _ _ _ _ _ [some (.ref 46), some (.int 0), some (.int 145)] [] ((fun _ => false, 0, 0, true, false, ad), (zI_261 xs), (fun _ _ => 0))
  refine mm_ob (P := vp_in 145 279) (mm_inl (by decide)) ?_
  show mm_b _ _ _ _ _ [some (.ref 46), some (.int 0), some (.int 145)] [] ((fun _ => false, 0, 0, true, false, ad), (zI_262 xs), (fun _ _ => 0))
  refine mm_el (c := (279 : Int32) ≤ 146) (d := ¬ (279 : Int32) ≤ 146) (by decide) ?_
  show mm_b _ _ _ _ _ [some (.ref 46), some (.int 0), some (.int 146)] [] ((fun _ => false, 0, 0, true, false, ad), (zI_262 xs), (fun _ _ => 0))
  refine mm_ob (P := vp_in 146 279) (mm_inl (by decide)) ?_
  show mm_b _ _ _ _ _ [some (.ref 46), some (.int 0), some (.int 146)] [] ((fun _ => false, 0, 0, true, false, ad), (zI_263 xs), (fun _ _ => 0))
  refine mm_el (c := (279 : Int32) ≤ 147) (d := ¬ (279 : Int32) ≤ 147) (by decide) ?_
  show mm_b _ _ _ _ _ [some (.ref 46), some (.int 0), some (.int 147)] [] ((fun _ => false, 0, 0, true, false, ad), (zI_263 xs), (fun _ _ => 0))
  refine mm_ob (P := vp_in 147 279) (mm_inl (by decide)) ?_
  show mm_b _ _ _ _ _ [some (.ref 46), some (.int 0), some (.int 147)] [] ((fun _ => false, 0, 0, true, false, ad), (zI_264 xs), (fun _ _ => 0))
  refine mm_el (c := (279 : Int32) ≤ 148) (d := ¬ (279 : Int32) ≤ 148) (by decide) ?_
  show mm_b _ _ _ _ _ [some (.ref 46), some (.int 0), some (.int 148)] [] ((fun _ => false, 0, 0, true, false, ad), (zI_264 xs), (fun _ _ => 0))
  refine mm_ob (P := vp_in 148 279) (mm_inl (by decide)) ?_
  show mm_b _ _ _ _ _ [some (.ref 46), some (.int 0), some (.int 148)] [] ((fun _ => false, 0, 0, true, false, ad), (zI_265 xs), (fun _ _ => 0))
  refine mm_el (c := (279 : Int32) ≤ 149) (d := ¬ (279 : Int32) ≤ 149) (by decide) ?_
  show mm_b _ _ _ _ _ [some (.ref 46), some (.int 0), some (.int 149)] [] ((fun _ => false, 0, 0, true, false, ad), (zI_265 xs), (fun _ _ => 0))
  refine mm_ob (P := vp_in 149 279) (mm_inl (by decide)) ?_
  show mm_b _ _ _ _ _ [some (.ref 46), some (.int 0), some (.int 149)] [] ((fun _ => false, 0, 0, true, false, ad), (zI_266 xs), (fun _ _ => 0))
  refine mm_el (c := (279 : Int32) ≤ 150) (d := ¬ (279 : Int32) ≤ 150) (by decide) ?_
  show mm_b _ _ _ _ _ [some (.ref 46), some (.int 0), some (.int 150)] [] ((fun _ => false, 0, 0, true, false, ad), (zI_266 xs), (fun _ _ => 0))
  refine mm_ob (P := vp_in 150 279) (mm_inl (by decide)) ?_
  show mm_b _ _ _ _ _ [some (.ref 46), some (.int 0), some (.int 150)] [] ((fun _ => false, 0, 0, true, false, ad), (zI_267 xs), (fun _ _ => 0))
  refine mm_el (c := (279 : Int32) ≤ 151) (d := ¬ (279 : Int32) ≤ 151) (by decide) ?_
  show mm_b _ _ _ _ _ [some (.ref 46), some (.int 0), some (.int 151)] [] ((fun _ => false, 0, 0, true, false, ad), (zI_267 xs), (fun _ _ => 0))
  refine mm_ob (P := vp_in 151 279) (mm_inl (by decide)) ?_
  show mm_b _ _ _ _ _ [some (.ref 46), some (.int 0), some (.int 151)] [] ((fun _ => false, 0, 0, true, false, ad), (zI_268 xs), (fun _ _ => 0))
  refine mm_el (c := (279 : Int32) ≤ 152) (d := ¬ (279 : Int32) ≤ 152) (by decide) ?_
  show mm_b _ _ _ _ _ [some (.ref 46), some (.int 0), some (.int 152)] [] ((fun _ => false, 0, 0, true, false, ad), (zI_268 xs), (fun _ _ => 0))
  refine mm_ob (P := vp_in 152 279) (mm_inl (by decide)) ?_
  show mm_b _ _ _ _ _ [some (.ref 46), some (.int 0), some (.int 152)] [] ((fun _ => false, 0, 0, true, false, ad), (zI_269 xs), (fun _ _ => 0))
  refine mm_el (c := (279 : Int32) ≤ 153) (d := ¬ (279 : Int32) ≤ 153) (by decide) ?_
  show mm_b _ _ _ _ _ [some (.ref 46), some (.int 0), some (.int 153)] [] ((fun _ => false, 0, 0, true, false, ad), (zI_269 xs), (fun _ _ => 0))
  refine mm_ob (P := vp_in 153 279) (mm_inl (by decide)) ?_
  show mm_b _ _ _ _ _ [some (.ref 46), some (.int 0), some (.int 153)] [] ((fun _ => false, 0, 0, true, false, ad), (zI_270 xs), (fun _ _ => 0))
  refine mm_el (c := (279 : Int32) ≤ 154) (d := ¬ (279 : Int32) ≤ 154) (by decide) ?_
  show mm_b _ _ _ _ _ [some (.ref 46), some (.int 0), some (.int 154)] [] ((fun _ => false, 0, 0, true, false, ad), (zI_270 xs), (fun _ _ => 0))
  refine mm_ob (P := vp_in 154 279) (mm_inl (by decide)) ?_
  show mm_b _ _ _ _ _ [some (.ref 46), some (.int 0), some (.int 154)] [] ((fun _ => false, 0, 0, true, false, ad), (zI_271 xs), (fun _ _ => 0))
  refine mm_el (c := (279 : Int32) ≤ 155) (d := ¬ (279 : Int32) ≤ 155) (by decide) ?_
  show mm_b _ _ _ _ _ [some (.ref 46), some (.int 0), some (.int 155)] [] ((fun _ => false, 0, 0, true, false, ad), (zI_271 xs), (fun _ _ => 0))
  refine mm_ob (P := vp_in 155 279) (mm_inl (by decide)) ?_
  show mm_b _ _ _ _ _ [some (.ref 46), some (.int 0), some (.int 155)] [] ((fun _ => false, 0, 0, true, false, ad), (zI_272 xs), (fun _ _ => 0))
  refine mm_el (c := (279 : Int32) ≤ 156) (d := ¬ (279 : Int32) ≤ 156) (by decide) ?_
  show mm_b _ _ _ _ _ [some (.ref 46), some (.int 0), some (.int 156)] [] ((fun _ => false, 0, 0, true, false, ad), (zI_272 xs), (fun _ _ => 0))
  refine mm_ob (P := vp_in 156 279) (mm_inl (by decide)) ?_
  show mm_b _ _ _ _ _ [some (.ref 46), some (.int 0), some (.int 156)] [] ((fun _ => false, 0, 0, true, false, ad), (zI_273 xs), (fun _ _ => 0))
  refine mm_el (c := (279 : Int32) ≤ 157) (d := ¬ (279 : Int32) ≤ 157) (by decide) ?_
  show mm_b _ _ _ _ _ [some (.ref 46), some (.int 0), some (.int 157)] [] ((fun _ => false, 0, 0, true, false, ad), (zI_273 xs), (fun _ _ => 0))
  refine mm_ob (P := vp_in 157 279) (mm_inl (by decide)) ?_
  show mm_b _ _ _ _ _ [some (.ref 46), some (.int 0), some (.int 157)] [] ((fun _ => false, 0, 0, true, false, ad), (zI_274 xs), (fun _ _ => 0))
  refine mm_el (c := (279 : Int32) ≤ 158) (d := ¬ (279 : Int32) ≤ 158) (by decide) ?_
  show mm_b _ _ _ _ _ [some (.ref 46), some (.int 0), some (.int 158)] [] ((fun _ => false, 0, 0, true, false, ad), (zI_274 xs), (fun _ _ => 0))
  refine mm_ob (P := vp_in 158 279) (mm_inl (by decide)) ?_
  show mm_b _ _ _ _ _ [some (.ref 46), some (.int 0), some (.int 158)] [] ((fun _ => false, 0, 0, true, false, ad), (zI_275 xs), (fun _ _ => 0))
  refine mm_el (c := (279 : Int32) ≤ 159) (d := ¬ (279 : Int32) ≤ 159) (by decide) ?_
  show mm_b _ _ _ _ _ [some (.ref 46), some (.int 0), some (.int 159)] [] ((fun _ => false, 0, 0, true, false, ad), (zI_275 xs), (fun _ _ => 0))
  refine mm_ob (P := vp_in 159 279) (mm_inl (by decide)) ?_
  show mm_b _ _ _ _ _ [some (.ref 46), some (.int 0), some (.int 159)] [] ((fun _ => false, 0, 0, true, false, ad), (zI_276 xs), (fun _ _ => 0))
  refine mm_el (c := (279 : Int32) ≤ 160) (d := ¬ (279 : Int32) ≤ 160) (by decide) ?_
  show mm_b _ _ _ _ _ [some (.ref 46), some (.int 0), some (.int 160)] [] ((fun _ => false, 0, 0, true, false, ad), (zI_276 xs), (fun _ _ => 0))
  refine mm_ob (P := vp_in 160 279) (mm_inl (by decide)) ?_
  show mm_b _ _ _ _ _ [some (.ref 46), some (.int 0), some (.int 160)] [] ((fun _ => false, 0, 0, true, false, ad), (zI_277 xs), (fun _ _ => 0))
  refine mm_el (c := (279 : Int32) ≤ 161) (d := ¬ (279 : Int32) ≤ 161) (by decide) ?_
  show mm_b _ _ _ _ _ [some (.ref 46), some (.int 0), some (.int 161)] [] ((fun _ => false, 0, 0, true, false, ad), (zI_277 xs), (fun _ _ => 0))
  refine mm_ob (P := vp_in 161 279) (mm_inl (by decide)) ?_
  show mm_b _ _ _ _ _ [some (.ref 46), some (.int 0), some (.int 161)] [] ((fun _ => false, 0, 0, true, false, ad), (zI_278 xs), (fun _ _ => 0))
  refine mm_el (c := (279 : Int32) ≤ 162) (d := ¬ (279 : Int32) ≤ 162) (by decide) ?_
  show mm_b _ _ _ _ _ [some (.ref 46), some (.int 0), some (.int 162)] [] ((fun _ => false, 0, 0, true, false, ad), (zI_278 xs), (fun _ _ => 0))
  refine mm_ob (P := vp_in 162 279) (mm_inl (by decide)) ?_
  show mm_b _ _ _ _ _ [some (.ref 46), some (.int 0), some (.int 162)] [] ((fun _ => false, 0, 0, true, false, ad), (zI_279 xs), (fun _ _ => 0))
  refine mm_el (c := (279 : Int32) ≤ 163) (d := ¬ (279 : Int32) ≤ 163) (by decide) ?_
  show mm_b _ _ _ _ _ [some (.ref 46), some (.int 0), some (.int 163)] [] ((fun _ => false, 0, 0, true, false, ad), (zI_279 xs), (fun _ _ => 0))
  refine mm_ob (P := vp_in 163 279) (mm_inl (by decide)) ?_
  show mm_b _ _ _ _ _ [some (.ref 46), some (.int 0), some (.int 163)] [] ((fun _ => false, 0, 0, true, false, ad), (zI_280 xs), (fun _ _ => 0))
  refine mm_el (c := (279 : Int32) ≤ 164) (d := ¬ (279 : Int32) ≤ 164) (by decide) ?_
  show mm_b _ _ _ _ _ [some (.ref 46), some (.int 0), some (.int 164)] [] ((fun _ => false, 0, 0, true, false, ad), (zI_280 xs), (fun _ _ => 0))
  refine mm_ob (P := vp_in 164 279) (mm_inl (by decide)) ?_
  show mm_b _ _ _ _ _ [some (.ref 46), some (.int 0), some (.int 164)] [] ((fun _ => false, 0, 0, true, false, ad), (zI_281 xs), (fun _ _ => 0))
  refine mm_el (c := (279 : Int32) ≤ 165) (d := ¬ (279 : Int32) ≤ 165) (by decide) ?_
  show mm_b _ _ _ _ _ [some (.ref 46), some (.int 0), some (.int 165)] [] ((fun _ => false, 0, 0, true, false, ad), (zI_281 xs), (fun _ _ => 0))
  refine mm_ob (P := vp_in 165 279) (mm_inl (by decide)) ?_
  show mm_b _ _ _ _ _ [some (.ref 46), some (.int 0), some (.int 165)] [] ((fun _ => false, 0, 0, true, false, ad), (zI_282 xs), (fun _ _ => 0))
  refine mm_el (c := (279 : Int32) ≤ 166) (d := ¬ (279 : Int32) ≤ 166) (by decide) ?_
  show mm_b _ _ _ _ _ [some (.ref 46), some (.int 0), some (.int 166)] [] ((fun _ => false, 0, 0, true, false, ad), (zI_282 xs), (fun _ _ => 0))
  refine mm_ob (P := vp_in 166 279) (mm_inl (by decide)) ?_
  show mm_b _ _ _ _ _ [some (.ref 46), some (.int 0), some (.int 166)] [] ((fun _ => false, 0, 0, true, false, ad), (zI_283 xs), (fun _ _ => 0))
  refine mm_el (c := (279 : Int32) ≤ 167) (d := ¬ (279 : Int32) ≤ 167) (by decide) ?_
  show mm_b _ _ _ _ _ [some (.ref 46), some (.int 0), some (.int 167)] [] ((fun _ => false, 0, 0, true, false, ad), (zI_283 xs), (fun _ _ => 0))
  refine mm_ob (P := vp_in 167 279) (mm_inl (by decide)) ?_
  show mm_b _ _ _ _ _ [some (.ref 46), some (.int 0), some (.int 167)] [] ((fun _ => false, 0, 0, true, false, ad), (zI_284 xs), (fun _ _ => 0))
  refine mm_el (c := (279 : Int32) ≤ 168) (d := ¬ (279 : Int32) ≤ 168) (by decide) ?_
  show mm_b _ _ _ _ _ [some (.ref 46), some (.int 0), some (.int 168)] [] ((fun _ => false, 0, 0, true, false, ad), (zI_284 xs), (fun _ _ => 0))
  refine mm_ob (P := vp_in 168 279) (mm_inl (by decide)) ?_
  show mm_b _ _ _ _ _ [some (.ref 46), some (.int 0), some (.int 168)] [] ((fun _ => false, 0, 0, true, false, ad), (zI_285 xs), (fun _ _ => 0))
  refine mm_el (c := (279 : Int32) ≤ 169) (d := ¬ (279 : Int32) ≤ 169) (by decide) ?_
  show mm_b _ _ _ _ _ [some (.ref 46), some (.int 0), some (.int 169)] [] ((fun _ => false, 0, 0, true, false, ad), (zI_285 xs), (fun _ _ => 0))
  refine mm_ob (P := vp_in 169 279) (mm_inl (by decide)) ?_
  show mm_b _ _ _ _ _ [some (.ref 46), some (.int 0), some (.int 169)] [] ((fun _ => false, 0, 0, true, false, ad), (zI_286 xs), (fun _ _ => 0))
  refine mm_el (c := (279 : Int32) ≤ 170) (d := ¬ (279 : Int32) ≤ 170) (by decide) ?_
  show mm_b _ _ _ _ _ [some (.ref 46), some (.int 0), some (.int 170)] [] ((fun _ => false, 0, 0, true, false, ad), (zI_286 xs), (fun _ _ => 0))
  refine mm_ob (P := vp_in 170 279) (mm_inl (by decide)) ?_
  show mm_b _ _ _ _ _ [some (.ref 46), some (.int 0), some (.int 170)] [] ((fun _ => false, 0, 0, true, false, ad), (zI_287 xs), (fun _ _ => 0))
  refine mm_el (c := (279 : Int32) ≤ 171) (d := ¬ (279 : Int32) ≤ 171) (by decide) ?_
  show mm_b _ _ _ _ _ [some (.ref 46), some (.int 0), some (.int 171)] [] ((fun _ => false, 0, 0, true, false, ad), (zI_287 xs), (fun _ _ => 0))
  refine mm_ob (P := vp_in 171 279) (mm_inl (by decide)) ?_
  show mm_b _ _ _ _ _ [some (.ref 46), some (.int 0), some (.int 171)] [] ((fun _ => false, 0, 0, true, false, ad), (zI_288 xs), (fun _ _ => 0))
  refine mm_el (c := (279 : Int32) ≤ 172) (d := ¬ (279 : Int32) ≤ 172) (by decide) ?_
  show mm_b _ _ _ _ _ [some (.ref 46), some (.int 0), some (.int 172)] [] ((fun _ => false, 0, 0, true, false, ad), (zI_288 xs), (fun _ _ => 0))
  refine mm_ob (P := vp_in 172 279) (mm_inl (by decide)) ?_
  show mm_b _ _ _ _ _ [some (.ref 46), some (.int 0), some (.int 172)] [] ((fun _ => false, 0, 0, true, false, ad), (zI_289 xs), (fun _ _ => 0))
  refine mm_el (c := (279 : Int32) ≤ 173) (d := ¬ (279 : Int32) ≤ 173) (by decide) ?_
  show mm_b _ _ _ _ _ [some (.ref 46), some (.int 0), some (.int 173)] [] ((fun _ => false, 0, 0, true, false, ad), (zI_289 xs), (fun _ _ => 0))
  refine mm_ob (P := vp_in 173 279) (mm_inl (by decide)) ?_
  show mm_b _ _ _ _ _ [some (.ref 46), some (.int 0), some (.int 173)] [] ((fun _ => false, 0, 0, true, false, ad), (zI_290 xs), (fun _ _ => 0))
  refine mm_el (c := (279 : Int32) ≤ 174) (d := ¬ (279 : Int32) ≤ 174) (by decide) ?_
  show mm_b _ _ _ _ _ [some (.ref 46), some (.int 0), some (.int 174)] [] ((fun _ => false, 0, 0, true, false, ad), (zI_290 xs), (fun _ _ => 0))
  refine mm_ob (P := vp_in 174 279) (mm_inl (by decide)) ?_
  show mm_b _ _ _ _ _ [some (.ref 46), some (.int 0), some (.int 174)] [] ((fun _ => false, 0, 0, true, false, ad), (zI_291 xs), (fun _ _ => 0))
  refine mm_el (c := (279 : Int32) ≤ 175) (d := ¬ (279 : Int32) ≤ 175) (by decide) ?_
  show mm_b _ _ _ _ _ [some (.ref 46), some (.int 0), some (.int 175)] [] ((fun _ => false, 0, 0, true, false, ad), (zI_291 xs), (fun _ _ => 0))
  refine mm_ob (P := vp_in 175 279) (mm_inl (by decide)) ?_
  show mm_b _ _ _ _ _ [some (.ref 46), some (.int 0), some (.int 175)] [] ((fun _ => false, 0, 0, true, false, ad), (zI_292 xs), (fun _ _ => 0))
  refine mm_el (c := (279 : Int32) ≤ 176) (d := ¬ (279 : Int32) ≤ 176) (by decide) ?_
  show mm_b _ _ _ _ _ [some (.ref 46), some (.int 0), some (.int 176)] [] ((fun _ => false, 0, 0, true, false, ad), (zI_292 xs), (fun _ _ => 0))
  refine mm_ob (P := vp_in 176 279) (mm_inl (by decide)) ?_
  show mm_b _ _ _ _ _ [some (.ref 46), some (.int 0), some (.int 176)] [] ((fun _ => false, 0, 0, true, false, ad), (zI_293 xs), (fun _ _ => 0))
  refine mm_el (c := (279 : Int32) ≤ 177) (d := ¬ (279 : Int32) ≤ 177) (by decide) ?_
  show mm_b _ _ _ _ _ [some (.ref 46), some (.int 0), some (.int 177)] [] ((fun _ => false, 0, 0, true, false, ad), (zI_293 xs), (fun _ _ => 0))
  refine mm_ob (P := vp_in 177 279) (mm_inl (by decide)) ?_
  show mm_b _ _ _ _ _ [some (.ref 46), some (.int 0), some (.int 177)] [] ((fun _ => false, 0, 0, true, false, ad), (zI_294 xs), (fun _ _ => 0))
  refine mm_el (c := (279 : Int32) ≤ 178) (d := ¬ (279 : Int32) ≤ 178) (by decide) ?_
  show mm_b _ _ _ _ _ [some (.ref 46), some (.int 0), some (.int 178)] [] ((fun _ => false, 0, 0, true, false, ad), (zI_294 xs), (fun _ _ => 0))
  refine mm_ob (P := vp_in 178 279) (mm_inl (by decide)) ?_
  show mm_b _ _ _ _ _ [some (.ref 46), some (.int 0), some (.int 178)] [] ((fun _ => false, 0, 0, true, false, ad), (zI_295 xs), (fun _ _ => 0))
  refine mm_el (c := (279 : Int32) ≤ 179) (d := ¬ (279 : Int32) ≤ 179) (by decide) ?_
  show mm_b _ _ _ _ _ [some (.ref 46), some (.int 0), some (.int 179)] [] ((fun _ => false, 0, 0, true, false, ad), (zI_295 xs), (fun _ _ => 0))
  refine mm_ob (P := vp_in 179 279) (mm_inl (by decide)) ?_
  show mm_b _ _ _ _ _ [some (.ref 46), some (.int 0), some (.int 179)] [] ((fun _ => false, 0, 0, true, false, ad), (zI_296 xs), (fun _ _ => 0))
  refine mm_el (c := (279 : Int32) ≤ 180) (d := ¬ (279 : Int32) ≤ 180) (by decide) ?_
  show mm_b _ _ _ _ _ [some (.ref 46), some (.int 0), some (.int 180)] [] ((fun _ => false, 0, 0, true, false, ad), (zI_296 xs), (fun _ _ => 0))
  refine mm_ob (P := vp_in 180 279) (mm_inl (by decide)) ?_
  show mm_b _ _ _ _ _ [some (.ref 46), some (.int 0), some (.int 180)] [] ((fun _ => false, 0, 0, true, false, ad), (zI_297 xs), (fun _ _ => 0))
  refine mm_el (c := (279 : Int32) ≤ 181) (d := ¬ (279 : Int32) ≤ 181) (by decide) ?_
  show mm_b _ _ _ _ _ [some (.ref 46), some (.int 0), some (.int 181)] [] ((fun _ => false, 0, 0, true, false, ad), (zI_297 xs), (fun _ _ => 0))
  refine mm_ob (P := vp_in 181 279) (mm_inl (by decide)) ?_
  show mm_b _ _ _ _ _ [some (.ref 46), some (.int 0), some (.int 181)] [] ((fun _ => false, 0, 0, true, false, ad), (zI_298 xs), (fun _ _ => 0))
  refine mm_el (c := (279 : Int32) ≤ 182) (d := ¬ (279 : Int32) ≤ 182) (by decide) ?_
  show mm_b _ _ _ _ _ [some (.ref 46), some (.int 0), some (.int 182)] [] ((fun _ => false, 0, 0, true, false, ad), (zI_298 xs), (fun _ _ => 0))
  refine mm_ob (P := vp_in 182 279) (mm_inl (by decide)) ?_
  show mm_b _ _ _ _ _ [some (.ref 46), some (.int 0), some (.int 182)] [] ((fun _ => false, 0, 0, true, false, ad), (zI_299 xs), (fun _ _ => 0))
  refine mm_el (c := (279 : Int32) ≤ 183) (d := ¬ (279 : Int32) ≤ 183) (by decide) ?_
  show mm_b _ _ _ _ _ [some (.ref 46), some (.int 0), some (.int 183)] [] ((fun _ => false, 0, 0, true, false, ad), (zI_299 xs), (fun _ _ => 0))
  refine mm_ob (P := vp_in 183 279) (mm_inl (by decide)) ?_
  show mm_b _ _ _ _ _ [some (.ref 46), some (.int 0), some (.int 183)] [] ((fun _ => false, 0, 0, true, false, ad), (zI_300 xs), (fun _ _ => 0))
  refine mm_el (c := (279 : Int32) ≤ 184) (d := ¬ (279 : Int32) ≤ 184) (by decide) ?_
  show mm_b _ _ _ _ _ [some (.ref 46), some (.int 0), some (.int 184)] [] ((fun _ => false, 0, 0, true, false, ad), (zI_300 xs), (fun _ _ => 0))
  refine mm_ob (P := vp_in 184 279) (mm_inl (by decide)) ?_
  show mm_b _ _ _ _ _ [some (.ref 46), some (.int 0), some (.int 184)] [] ((fun _ => false, 0, 0, true, false, ad), (zI_301 xs), (fun _ _ => 0))
  refine mm_el (c := (279 : Int32) ≤ 185) (d := ¬ (279 : Int32) ≤ 185) (by decide) ?_
  show mm_b _ _ _ _ _ [some (.ref 46), some (.int 0), some (.int 185)] [] ((fun _ => false, 0, 0, true, false, ad), (zI_301 xs), (fun _ _ => 0))
  refine mm_ob (P := vp_in 185 279) (mm_inl (by decide)) ?_
  show mm_b _ _ _ _ _ [some (.ref 46), some (.int 0), some (.int 185)] [] ((fun _ => false, 0, 0, true, false, ad), (zI_302 xs), (fun _ _ => 0))
  refine mm_el (c := (279 : Int32) ≤ 186) (d := ¬ (279 : Int32) ≤ 186) (by decide) ?_
  show mm_b _ _ _ _ _ [some (.ref 46), some (.int 0), some (.int 186)] [] ((fun _ => false, 0, 0, true, false, ad), (zI_302 xs), (fun _ _ => 0))
  refine mm_ob (P := vp_in 186 279) (mm_inl (by decide)) ?_
  show mm_b _ _ _ _ _ [some (.ref 46), some (.int 0), some (.int 186)] [] ((fun _ => false, 0, 0, true, false, ad), (zI_303 xs), (fun _ _ => 0))
  refine mm_el (c := (279 : Int32) ≤ 187) (d := ¬ (279 : Int32) ≤ 187) (by decide) ?_
  show mm_b _ _ _ _ _ [some (.ref 46), some (.int 0), some (.int 187)] [] ((fun _ => false, 0, 0, true, false, ad), (zI_303 xs), (fun _ _ => 0))
  refine mm_ob (P := vp_in 187 279) (mm_inl (by decide)) ?_
  show mm_b _ _ _ _ _ [some (.ref 46), some (.int 0), some (.int 187)] [] ((fun _ => false, 0, 0, true, false, ad), (zI_304 xs), (fun _ _ => 0))
  refine mm_el (c := (279 : Int32) ≤ 188) (d := ¬ (279 : Int32) ≤ 188) (by decide) ?_
  show mm_b _ _ _ _ _ [some (.ref 46), some (.int 0), some (.int 188)] [] ((fun _ => false, 0, 0, true, false, ad), (zI_304 xs), (fun _ _ => 0))
  refine mm_ob (P := vp_in 188 279) (mm_inl (by decide)) ?_
  show mm_b _ _ _ _ _ [some (.ref 46), some (.int 0), some (.int 188)] [] ((fun _ => false, 0, 0, true, false, ad), (zI_305 xs), (fun _ _ => 0))
  refine mm_el (c := (279 : Int32) ≤ 189) (d := ¬ (279 : Int32) ≤ 189) (by decide) ?_
  show mm_b _ _ _ _ _ [some (.ref 46), some (.int 0), some (.int 189)] [] ((fun _ => false, 0, 0, true, false, ad), (zI_305 xs), (fun _ _ => 0))
  refine mm_ob (P := vp_in 189 279) (mm_inl (by decide)) ?_
  show mm_b _ _ _ _ _ [some (.ref 46), some (.int 0), some (.int 189)] [] ((fun _ => false, 0, 0, true, false, ad), (zI_306 xs), (fun _ _ => 0))
  refine mm_el (c := (279 : Int32) ≤ 190) (d := ¬ (279 : Int32) ≤ 190) (by decide) ?_
  show mm_b _ _ _ _ _ [some (.ref 46), some (.int 0), some (.int 190)] [] ((fun _ => false, 0, 0, true, false, ad), (zI_306 xs), (fun _ _ => 0))
  refine mm_ob (P := vp_in 190 279) (mm_inl (by decide)) ?_
  show mm_b _ _ _ _ _ [some (.ref 46), some (.int 0), some (.int 190)] [] ((fun _ => false, 0, 0, true, false, ad), (zI_307 xs), (fun _ _ => 0))
  refine mm_el (c := (279 : Int32) ≤ 191) (d := ¬ (279 : Int32) ≤ 191) (by decide) ?_
  show mm_b _ _ _ _ _ [some (.ref 46), some (.int 0), some (.int 191)] [] ((fun _ => false, 0, 0, true, false, ad), (zI_307 xs), (fun _ _ => 0))
  refine mm_ob (P := vp_in 191 279) (mm_inl (by decide)) ?_
  show mm_b _ _ _ _ _ [some (.ref 46), some (.int 0), some (.int 191)] [] ((fun _ => false, 0, 0, true, false, ad), (zI_308 xs), (fun _ _ => 0))
  refine mm_el (c := (279 : Int32) ≤ 192) (d := ¬ (279 : Int32) ≤ 192) (by decide) ?_
  show mm_b _ _ _ _ _ [some (.ref 46), some (.int 0), some (.int 192)] [] ((fun _ => false, 0, 0, true, false, ad), (zI_308 xs), (fun _ _ => 0))
  refine mm_ob (P := vp_in 192 279) (mm_inl (by decide)) ?_
  show mm_b _ _ _ _ _ [some (.ref 46), some (.int 0), some (.int 192)] [] ((fun _ => false, 0, 0, true, false, ad), (zI_309 xs), (fun _ _ => 0))
  refine mm_el (c := (279 : Int32) ≤ 193) (d := ¬ (279 : Int32) ≤ 193) (by decide) ?_
  show mm_b _ _ _ _ _ [some (.ref 46), some (.int 0), some (.int 193)] [] ((fun _ => false, 0, 0, true, false, ad), (zI_309 xs), (fun _ _ => 0))
  refine mm_ob (P := vp_in 193 279) (mm_inl (by decide)) ?_
  show mm_b _ _ _ _ _ [some (.ref 46), some (.int 0), some (.int 193)] [] ((fun _ => false, 0, 0, true, false, ad), (zI_310 xs), (fun _ _ => 0))
  refine mm_el (c := (279 : Int32) ≤ 194) (d := ¬ (279 : Int32) ≤ 194) (by decide) ?_
  show mm_b _ _ _ _ _ [some (.ref 46), some (.int 0), some (.int 194)] [] ((fun _ => false, 0, 0, true, false, ad), (zI_310 xs), (fun _ _ => 0))
  refine mm_ob (P := vp_in 194 279) (mm_inl (by decide)) ?_
  show mm_b _ _ _ _ _ [some (.ref 46), some (.int 0), some (.int 194)] [] ((fun _ => false, 0, 0, true, false, ad), (zI_311 xs), (fun _ _ => 0))
  refine mm_el (c := (279 : Int32) ≤ 195) (d := ¬ (279 : Int32) ≤ 195) (by decide) ?_
  show mm_b _ _ _ _ _ [some (.ref 46), some (.int 0), some (.int 195)] [] ((fun _ => false, 0, 0, true, false, ad), (zI_311 xs), (fun _ _ => 0))
  refine mm_ob (P := vp_in 195 279) (mm_inl (by decide)) ?_
  show mm_b _ _ _ _ _ [some (.ref 46), some (.int 0), some (.int 195)] [] ((fun _ => false, 0, 0, true, false, ad), (zI_312 xs), (fun _ _ => 0))
  refine mm_el (c := (279 : Int32) ≤ 196) (d := ¬ (279 : Int32) ≤ 196) (by decide) ?_
  show mm_b _ _ _ _ _ [some (.ref 46), some (.int 0), some (.int 196)] [] ((fun _ => false, 0, 0, true, false, ad), (zI_312 xs), (fun _ _ => 0))
  refine mm_ob (P := vp_in 196 279) (mm_inl (by decide)) ?_
  show mm_b _ _ _ _ _ [some (.ref 46), some (.int 0), some (.int 196)] [] ((fun _ => false, 0, 0, true, false, ad), (zI_313 xs), (fun _ _ => 0))
  refine mm_el (c := (279 : Int32) ≤ 197) (d := ¬ (279 : Int32) ≤ 197) (by decide) ?_
  show mm_b _ _ _ _ _ [some (.ref 46), some (.int 0), some (.int 197)] [] ((fun _ => false, 0, 0, true, false, ad), (zI_313 xs), (fun _ _ => 0))
  refine mm_ob (P := vp_in 197 279) (mm_inl (by decide)) ?_
  show mm_b _ _ _ _ _ [some (.ref 46), some (.int 0), some (.int 197)] [] ((fun _ => false, 0, 0, true, false, ad), (zI_314 xs), (fun _ _ => 0))
  refine mm_el (c := (279 : Int32) ≤ 198) (d := ¬ (279 : Int32) ≤ 198) (by decide) ?_
  show mm_b _ _ _ _ _ [some (.ref 46), some (.int 0), some (.int 198)] [] ((fun _ => false, 0, 0, true, false, ad), (zI_314 xs), (fun _ _ => 0))
  refine mm_ob (P := vp_in 198 279) (mm_inl (by decide)) ?_
  show mm_b _ _ _ _ _ [some (.ref 46), some (.int 0), some (.int 198)] [] ((fun _ => false, 0, 0, true, false, ad), (zI_315 xs), (fun _ _ => 0))
  refine mm_el (c := (279 : Int32) ≤ 199) (d := ¬ (279 : Int32) ≤ 199) (by decide) ?_
  show mm_b _ _ _ _ _ [some (.ref 46), some (.int 0), some (.int 199)] [] ((fun _ => false, 0, 0, true, false, ad), (zI_315 xs), (fun _ _ => 0))
  refine mm_ob (P := vp_in 199 279) (mm_inl (by decide)) ?_
  show mm_b _ _ _ _ _ [some (.ref 46), some (.int 0), some (.int 199)] [] ((fun _ => false, 0, 0, true, false, ad), (zI_316 xs), (fun _ _ => 0))
  refine mm_el (c := (279 : Int32) ≤ 200) (d := ¬ (279 : Int32) ≤ 200) (by decide) ?_
  show mm_b _ _ _ _ _ [some (.ref 46), some (.int 0), some (.int 200)] [] ((fun _ => false, 0, 0, true, false, ad), (zI_316 xs), (fun _ _ => 0))
  refine mm_ob (P := vp_in 200 279) (mm_inl (by decide)) ?_
  show mm_b _ _ _ _ _ [some (.ref 46), some (.int 0), some (.int 200)] [] ((fun _ => false, 0, 0, true, false, ad), (zI_317 xs), (fun _ _ => 0))
  refine mm_el (c := (279 : Int32) ≤ 201) (d := ¬ (279 : Int32) ≤ 201) (by decide) ?_
  show mm_b _ _ _ _ _ [some (.ref 46), some (.int 0), some (.int 201)] [] ((fun _ => false, 0, 0, true, false, ad), (zI_317 xs), (fun _ _ => 0))
  refine mm_ob (P := vp_in 201 279) (mm_inl (by decide)) ?_
  show mm_b _ _ _ _ _ [some (.ref 46), some (.int 0), some (.int 201)] [] ((fun _ => false, 0, 0, true, false, ad), (zI_318 xs), (fun _ _ => 0))
  refine mm_el (c := (279 : Int32) ≤ 202) (d := ¬ (279 : Int32) ≤ 202) (by decide) ?_
  show mm_b _ _ _ _ _ [some (.ref 46), some (.int 0), some (.int 202)] [] ((fun _ => false, 0, 0, true, false, ad), (zI_318 xs), (fun _ _ => 0))
  refine mm_ob (P := vp_in 202 279) (mm_inl (by decide)) ?_
  show mm_b _ _ _ _ _ [some (.ref 46), some (.int 0), some (.int 202)] [] ((fun _ => false, 0, 0, true, false, ad), (zI_319 xs), (fun _ _ => 0))
  refine mm_el (c := (279 : Int32) ≤ 203) (d := ¬ (279 : Int32) ≤ 203) (by decide) ?_
  show mm_b _ _ _ _ _ [some (.ref 46), some (.int 0), some (.int 203)] [] ((fun _ => false, 0, 0, true, false, ad), (zI_319 xs), (fun _ _ => 0))
  refine mm_ob (P := vp_in 203 279) (mm_inl (by decide)) ?_
  show mm_b _ _ _ _ _ [some (.ref 46), some (.int 0), some (.int 203)] [] ((fun _ => false, 0, 0, true, false, ad), (zI_320 xs), (fun _ _ => 0))
  refine mm_el (c := (279 : Int32) ≤ 204) (d := ¬ (279 : Int32) ≤ 204) (by decide) ?_
  show mm_b _ _ _ _ _ [some (.ref 46), some (.int 0), some (.int 204)] [] ((fun _ => false, 0, 0, true, false, ad), (zI_320 xs), (fun _ _ => 0))
  refine mm_ob (P := vp_in 204 279) (mm_inl (by decide)) ?_
  show mm_b _ _ _ _ _ [some (.ref 46), some (.int 0), some (.int 204)] [] ((fun _ => false, 0, 0, true, false, ad), (zI_321 xs), (fun _ _ => 0))
  refine mm_el (c := (279 : Int32) ≤ 205) (d := ¬ (279 : Int32) ≤ 205) (by decide) ?_
  show mm_b _ _ _ _ _ [some (.ref 46), some (.int 0), some (.int 205)] [] ((fun _ => false, 0, 0, true, false, ad), (zI_321 xs), (fun _ _ => 0))
  refine mm_ob (P := vp_in 205 279) (mm_inl (by decide)) ?_
  show mm_b _ _ _ _ _ [some (.ref 46), some (.int 0), some (.int 205)] [] ((fun _ => false, 0, 0, true, false, ad), (zI_322 xs), (fun _ _ => 0))
  refine mm_el (c := (279 : Int32) ≤ 206) (d := ¬ (279 : Int32) ≤ 206) (by decide) ?_
  show mm_b _ _ _ _ _ [some (.ref 46), some (.int 0), some (.int 206)] [] ((fun _ => false, 0, 0, true, false, ad), (zI_322 xs), (fun _ _ => 0))
  refine mm_ob (P := vp_in 206 279) (mm_inl (by decide)) ?_
  show mm_b _ _ _ _ _ [some (.ref 46), some (.int 0), some (.int 206)] [] ((fun _ => false, 0, 0, true, false, ad), (zI_323 xs), (fun _ _ => 0))
  refine mm_el (c := (279 : Int32) ≤ 207) (d := ¬ (279 : Int32) ≤ 207) (by decide) ?_
  show mm_b _ _ _ _ _ [some (.ref 46), some (.int 0), some (.int 207)] [] ((fun _ => false, 0, 0, true, false, ad), (zI_323 xs), (fun _ _ => 0))
  refine mm_ob (P := vp_in 207 279) (mm_inl (by decide)) ?_
  show mm_b _ _ _ _ _ [some (.ref 46), some (.int 0), some (.int 207)] [] ((fun _ => false, 0, 0, true, false, ad), (zI_324 xs), (fun _ _ => 0))
  refine mm_el (c := (279 : Int32) ≤ 208) (d := ¬ (279 : Int32) ≤ 208) (by decide) ?_
  show mm_b _ _ _ _ _ [some (.ref 46), some (.int 0), some (.int 208)] [] ((fun _ => false, 0, 0, true, false, ad), (zI_324 xs), (fun _ _ => 0))
  refine mm_ob (P := vp_in 208 279) (mm_inl (by decide)) ?_
  show mm_b _ _ _ _ _ [some (.ref 46), some (.int 0), some (.int 208)] [] ((fun _ => false, 0, 0, true, false, ad), (zI_325 xs), (fun _ _ => 0))
  refine mm_el (c := (279 : Int32) ≤ 209) (d := ¬ (279 : Int32) ≤ 209) (by decide) ?_
  show mm_b _ _ _ _ _ [some (.ref 46), some (.int 0), some (.int 209)] [] ((fun _ => false, 0, 0, true, false, ad), (zI_325 xs), (fun _ _ => 0))
  refine mm_ob (P := vp_in 209 279) (mm_inl (by decide)) ?_
  show mm_b _ _ _ _ _ [some (.ref 46), some (.int 0), some (.int 209)] [] ((fun _ => false, 0, 0, true, false, ad), (zI_326 xs), (fun _ _ => 0))
  refine mm_el (c := (279 : Int32) ≤ 210) (d := ¬ (279 : Int32) ≤ 210) (by decide) ?_
  show mm_b _ _ _ _ _ [some (.ref 46), some (.int 0), some (.int 210)] [] ((fun _ => false, 0, 0, true, false, ad), (zI_326 xs), (fun _ _ => 0))
  refine mm_ob (P := vp_in 210 279) (mm_inl (by decide)) ?_
  show mm_b _ _ _ _ _ [some (.ref 46), some (.int 0), some (.int 210)] [] ((fun _ => false, 0, 0, true, false, ad), (zI_327 xs), (fun _ _ => 0))
  refine mm_el (c := (279 : Int32) ≤ 211) (d := ¬ (279 : Int32) ≤ 211) (by decide) ?_
  show mm_b _ _ _ _ _ [some (.ref 46), some (.int 0), some (.int 211)] [] ((fun _ => false, 0, 0, true, false, ad), (zI_327 xs), (fun _ _ => 0))
  refine mm_ob (P := vp_in 211 279) (mm_inl (by decide)) ?_
  show mm_b _ _ _ _ _ [some (.ref 46), some (.int 0), some (.int 211)] [] ((fun _ => false, 0, 0, true, false, ad), (zI_328 xs), (fun _ _ => 0))
  refine mm_el (c := (279 : Int32) ≤ 212) (d := ¬ (279 : Int32) ≤ 212) (by decide) ?_
  show mm_b _ _ _ _ _ [some (.ref 46), some (.int 0), some (.int 212)] [] ((fun _ => false, 0, 0, true, false, ad), (zI_328 xs), (fun _ _ => 0))
  refine mm_ob (P := vp_in 212 279) (mm_inl (by decide)) ?_
  show mm_b _ _ _ _ _ [some (.ref 46), some (.int 0), some (.int 212)] [] ((fun _ => false, 0, 0, true, false, ad), (zI_329 xs), (fun _ _ => 0))
  refine mm_el (c := (279 : Int32) ≤ 213) (d := ¬ (279 : Int32) ≤ 213) (by decide) ?_
  show mm_b _ _ _ _ _ [some (.ref 46), some (.int 0), some (.int 213)] [] ((fun _ => false, 0, 0, true, false, ad), (zI_329 xs), (fun _ _ => 0))
  refine mm_ob (P := vp_in 213 279) (mm_inl (by decide)) ?_
  show mm_b _ _ _ _ _ [some (.ref 46), some (.int 0), some (.int 213)] [] ((fun _ => false, 0, 0, true, false, ad), (zI_330 xs), (fun _ _ => 0))
  refine mm_el (c := (279 : Int32) ≤ 214) (d := ¬ (279 : Int32) ≤ 214) (by decide) ?_
  show mm_b _ _ _ _ _ [some (.ref 46), some (.int 0), some (.int 214)] [] ((fun _ => false, 0, 0, true, false, ad), (zI_330 xs), (fun _ _ => 0))
  refine mm_ob (P := vp_in 214 279) (mm_inl (by decide)) ?_
  show mm_b _ _ _ _ _ [some (.ref 46), some (.int 0), some (.int 214)] [] ((fun _ => false, 0, 0, true, false, ad), (zI_331 xs), (fun _ _ => 0))
  refine mm_el (c := (279 : Int32) ≤ 215) (d := ¬ (279 : Int32) ≤ 215) (by decide) ?_
  show mm_b _ _ _ _ _ [some (.ref 46), some (.int 0), some (.int 215)] [] ((fun _ => false, 0, 0, true, false, ad), (zI_331 xs), (fun _ _ => 0))
  refine mm_ob (P := vp_in 215 279) (mm_inl (by decide)) ?_
  show mm_b _ _ _ _ _ [some (.ref 46), some (.int 0), some (.int 215)] [] ((fun _ => false, 0, 0, true, false, ad), (zI_332 xs), (fun _ _ => 0))
  refine mm_el (c := (279 : Int32) ≤ 216) (d := ¬ (279 : Int32) ≤ 216) (by decide) ?_
  show mm_b _ _ _ _ _ [some (.ref 46), some (.int 0), some (.int 216)] [] ((fun _ => false, 0, 0, true, false, ad), (zI_332 xs), (fun _ _ => 0))
  refine mm_ob (P := vp_in 216 279) (mm_inl (by decide)) ?_
  show mm_b _ _ _ _ _ [some (.ref 46), some (.int 0), some (.int 216)] [] ((fun _ => false, 0, 0, true, false, ad), (zI_333 xs), (fun _ _ => 0))
  refine mm_el (c := (279 : Int32) ≤ 217) (d := ¬ (279 : Int32) ≤ 217) (by decide) ?_
  show mm_b _ _ _ _ _ [some (.ref 46), some (.int 0), some (.int 217)] [] ((fun _ => false, 0, 0, true, false, ad), (zI_333 xs), (fun _ _ => 0))
  refine mm_ob (P := vp_in 217 279) (mm_inl (by decide)) ?_
  show mm_b _ _ _ _ _ [some (.ref 46), some (.int 0), some (.int 217)] [] ((fun _ => false, 0, 0, true, false, ad), (zI_334 xs), (fun _ _ => 0))
  refine mm_el (c := (279 : Int32) ≤ 218) (d := ¬ (279 : Int32) ≤ 218) (by decide) ?_
  show mm_b _ _ _ _ _ [some (.ref 46), some (.int 0), some (.int 218)] [] ((fun _ => false, 0, 0, true, false, ad), (zI_334 xs), (fun _ _ => 0))
  refine mm_ob (P := vp_in 218 279) (mm_inl (by decide)) ?_
  show mm_b _ _ _ _ _ [some (.ref 46), some (.int 0), some (.int 218)] [] ((fun _ => false, 0, 0, true, false, ad), (zI_335 xs), (fun _ _ => 0))
  refine mm_el (c := (279 : Int32) ≤ 219) (d := ¬ (279 : Int32) ≤ 219) (by decide) ?_
  show mm_b _ _ _ _ _ [some (.ref 46), some (.int 0), some (.int 219)] [] ((fun _ => false, 0, 0, true, false, ad), (zI_335 xs), (fun _ _ => 0))
  refine mm_ob (P := vp_in 219 279) (mm_inl (by decide)) ?_
  show mm_b _ _ _ _ _ [some (.ref 46), some (.int 0), some (.int 219)] [] ((fun _ => false, 0, 0, true, false, ad), (zI_336 xs), (fun _ _ => 0))
  refine mm_el (c := (279 : Int32) ≤ 220) (d := ¬ (279 : Int32) ≤ 220) (by decide) ?_
  show mm_b _ _ _ _ _ [some (.ref 46), some (.int 0), some (.int 220)] [] ((fun _ => false, 0, 0, true, false, ad), (zI_336 xs), (fun _ _ => 0))
  refine mm_ob (P := vp_in 220 279) (mm_inl (by decide)) ?_
  show mm_b _ _ _ _ _ [some (.ref 46), some (.int 0), some (.int 220)] [] ((fun _ => false, 0, 0, true, false, ad), (zI_337 xs), (fun _ _ => 0))
  refine mm_el (c := (279 : Int32) ≤ 221) (d := ¬ (279 : Int32) ≤ 221) (by decide) ?_
  show mm_b _ _ _ _ _ [some (.ref 46), some (.int 0), some (.int 221)] [] ((fun _ => false, 0, 0, true, false, ad), (zI_337 xs), (fun _ _ => 0))
  refine mm_ob (P := vp_in 221 279) (mm_inl (by decide)) ?_
  show mm_b _ _ _ _ _ [some (.ref 46), some (.int 0), some (.int 221)] [] ((fun _ => false, 0, 0, true, false, ad), (zI_338 xs), (fun _ _ => 0))
  refine mm_el (c := (279 : Int32) ≤ 222) (d := ¬ (279 : Int32) ≤ 222) (by decide) ?_
  show mm_b _ _ _ _ _ [some (.ref 46), some (.int 0), some (.int 222)] [] ((fun _ => false, 0, 0, true, false, ad), (zI_338 xs), (fun _ _ => 0))
  refine mm_ob (P := vp_in 222 279) (mm_inl (by decide)) ?_
  show mm_b _ _ _ _ _ [some (.ref 46), some (.int 0), some (.int 222)] [] ((fun _ => false, 0, 0, true, false, ad), (zI_339 xs), (fun _ _ => 0))
  refine mm_el (c := (279 : Int32) ≤ 223) (d := ¬ (279 : Int32) ≤ 223) (by decide) ?_
  show mm_b _ _ _ _ _ [some (.ref 46), some (.int 0), some (.int 223)] [] ((fun _ => false, 0, 0, true, false, ad), (zI_339 xs), (fun _ _ => 0))
  refine mm_ob (P := vp_in 223 279) (mm_inl (by decide)) ?_
  show mm_b _ _ _ _ _ [some (.ref 46), some (.int 0), some (.int 223)] [] ((fun _ => false, 0, 0, true, false, ad), (zI_340 xs), (fun _ _ => 0))
  refine mm_el (c := (279 : Int32) ≤ 224) (d := ¬ (279 : Int32) ≤ 224) (by decide) ?_
  show mm_b _ _ _ _ _ [some (.ref 46), some (.int 0), some (.int 224)] [] ((fun _ => false, 0, 0, true, false, ad), (zI_340 xs), (fun _ _ => 0))
  refine mm_ob (P := vp_in 224 279) (mm_inl (by decide)) ?_
  show mm_b _ _ _ _ _ [some (.ref 46), some (.int 0), some (.int 224)] [] ((fun _ => false, 0, 0, true, false, ad), (zI_341 xs), (fun _ _ => 0))
  refine mm_el (c := (279 : Int32) ≤ 225) (d := ¬ (279 : Int32) ≤ 225) (by decide) ?_
  show mm_b _ _ _ _ _ [some (.ref 46), some (.int 0), some (.int 225)] [] ((fun _ => false, 0, 0, true, false, ad), (zI_341 xs), (fun _ _ => 0))
  refine mm_ob (P := vp_in 225 279) (mm_inl (by decide)) ?_
  show mm_b _ _ _ _ _ [some (.ref 46), some (.int 0), some (.int 225)] [] ((fun _ => false, 0, 0, true, false, ad), (zI_342 xs), (fun _ _ => 0))
  refine mm_el (c := (279 : Int32) ≤ 226) (d := ¬ (279 : Int32) ≤ 226) (by decide) ?_
  show mm_b _ _ _ _ _ [some (.ref 46), some (.int 0), some (.int 226)] [] ((fun _ => false, 0, 0, true, false, ad), (zI_342 xs), (fun _ _ => 0))
  refine mm_ob (P := vp_in 226 279) (mm_inl (by decide)) ?_
  show mm_b _ _ _ _ _ [some (.ref 46), some (.int 0), some (.int 226)] [] ((fun _ => false, 0, 0, true, false, ad), (zI_343 xs), (fun _ _ => 0))
  refine mm_el (c := (279 : Int32) ≤ 227) (d := ¬ (279 : Int32) ≤ 227) (by decide) ?_
  show mm_b _ _ _ _ _ [some (.ref 46), some (.int 0), some (.int 227)] [] ((fun _ => false, 0, 0, true, false, ad), (zI_343 xs), (fun _ _ => 0))
  refine mm_ob (P := vp_in 227 279) (mm_inl (by decide)) ?_
  show mm_b _ _ _ _ _ [some (.ref 46), some (.int 0), some (.int 227)] [] ((fun _ => false, 0, 0, true, false, ad), (zI_344 xs), (fun _ _ => 0))
  refine mm_el (c := (279 : Int32) ≤ 228) (d := ¬ (279 : Int32) ≤ 228) (by decide) ?_
  show mm_b _ _ _ _ _ [some (.ref 46), some (.int 0), some (.int 228)] [] ((fun _ => false, 0, 0, true, false, ad), (zI_344 xs), (fun _ _ => 0))
  refine mm_ob (P := vp_in 228 279) (mm_inl (by decide)) ?_
  show mm_b _ _ _ _ _ [some (.ref 46), some (.int 0), some (.int 228)] [] ((fun _ => false, 0, 0, true, false, ad), (zI_345 xs), (fun _ _ => 0))
  refine mm_el (c := (279 : Int32) ≤ 229) (d := ¬ (279 : Int32) ≤ 229) (by decide) ?_
  show mm_b _ _ _ _ _ [some (.ref 46), some (.int 0), some (.int 229)] [] ((fun _ => false, 0, 0, true, false, ad), (zI_345 xs), (fun _ _ => 0))
  refine mm_ob (P := vp_in 229 279) (mm_inl (by decide)) ?_
  show mm_b _ _ _ _ _ [some (.ref 46), some (.int 0), some (.int 229)] [] ((fun _ => false, 0, 0, true, false, ad), (zI_346 xs), (fun _ _ => 0))
  refine mm_el (c := (279 : Int32) ≤ 230) (d := ¬ (279 : Int32) ≤ 230) (by decide) ?_
  show mm_b _ _ _ _ _ [some (.ref 46), some (.int 0), some (.int 230)] [] ((fun _ => false, 0, 0, true, false, ad), (zI_346 xs), (fun _ _ => 0))
  refine mm_ob (P := vp_in 230 279) (mm_inl (by decide)) ?_
  show mm_b _ _ _ _ _ [some (.ref 46), some (.int 0), some (.int 230)] [] ((fun _ => false, 0, 0, true, false, ad), (zI_347 xs), (fun _ _ => 0))
  refine mm_el (c := (279 : Int32) ≤ 231) (d := ¬ (279 : Int32) ≤ 231) (by decide) ?_
  show mm_b _ _ _ _ _ [some (.ref 46), some (.int 0), some (.int 231)] [] ((fun _ => false, 0, 0, true, false, ad), (zI_347 xs), (fun _ _ => 0))
  refine mm_ob (P := vp_in 231 279) (mm_inl (by decide)) ?_
  show mm_b _ _ _ _ _ [some (.ref 46), some (.int 0), some (.int 231)] [] ((fun _ => false, 0, 0, true, false, ad), (zI_348 xs), (fun _ _ => 0))
  refine mm_el (c := (279 : Int32) ≤ 232) (d := ¬ (279 : Int32) ≤ 232) (by decide) ?_
  show mm_b _ _ _ _ _ [some (.ref 46), some (.int 0), some (.int 232)] [] ((fun _ => false, 0, 0, true, false, ad), (zI_348 xs), (fun _ _ => 0))
  refine mm_ob (P := vp_in 232 279) (mm_inl (by decide)) ?_
  show mm_b _ _ _ _ _ [some (.ref 46), some (.int 0), some (.int 232)] [] ((fun _ => false, 0, 0, true, false, ad), (zI_349 xs), (fun _ _ => 0))
  refine mm_el (c := (279 : Int32) ≤ 233) (d := ¬ (279 : Int32) ≤ 233) (by decide) ?_
  show mm_b _ _ _ _ _ [some (.ref 46), some (.int 0), some (.int 233)] [] ((fun _ => false, 0, 0, true, false, ad), (zI_349 xs), (fun _ _ => 0))
  refine mm_ob (P := vp_in 233 279) (mm_inl (by decide)) ?_
  show mm_b _ _ _ _ _ [some (.ref 46), some (.int 0), some (.int 233)] [] ((fun _ => false, 0, 0, true, false, ad), (zI_350 xs), (fun _ _ => 0))
  refine mm_el (c := (279 : Int32) ≤ 234) (d := ¬ (279 : Int32) ≤ 234) (by decide) ?_
  show mm_b _ _ _ _ _ [some (.ref 46), some (.int 0), some (.int 234)] [] ((fun _ => false, 0, 0, true, false, ad), (zI_350 xs), (fun _ _ => 0))
  refine mm_ob (P := vp_in 234 279) (mm_inl (by decide)) ?_
  show mm_b _ _ _ _ _ [some (.ref 46), some (.int 0), some (.int 234)] [] ((fun _ => false, 0, 0, true, false, ad), (zI_351 xs), (fun _ _ => 0))
  refine mm_el (c := (279 : Int32) ≤ 235) (d := ¬ (279 : Int32) ≤ 235) (by decide) ?_
  show mm_b _ _ _ _ _ [some (.ref 46), some (.int 0), some (.int 235)] [] ((fun _ => false, 0, 0, true, false, ad), (zI_351 xs), (fun _ _ => 0))
  refine mm_ob (P := vp_in 235 279) (mm_inl (by decide)) ?_
  show mm_b _ _ _ _ _ [some (.ref 46), some (.int 0), some (.int 235)] [] ((fun _ => false, 0, 0, true, false, ad), (zI_352 xs), (fun _ _ => 0))
  refine mm_el (c := (279 : Int32) ≤ 236) (d := ¬ (279 : Int32) ≤ 236) (by decide) ?_
  show mm_b _ _ _ _ _ [some (.ref 46), some (.int 0), some (.int 236)] [] ((fun _ => false, 0, 0, true, false, ad), (zI_352 xs), (fun _ _ => 0))
  refine mm_ob (P := vp_in 236 279) (mm_inl (by decide)) ?_
  show mm_b _ _ _ _ _ [some (.ref 46), some (.int 0), some (.int 236)] [] ((fun _ => false, 0, 0, true, false, ad), (zI_353 xs), (fun _ _ => 0))
  refine mm_el (c := (279 : Int32) ≤ 237) (d := ¬ (279 : Int32) ≤ 237) (by decide) ?_
  show mm_b _ _ _ _ _ [some (.ref 46), some (.int 0), some (.int 237)] [] ((fun _ => false, 0, 0, true, false, ad), (zI_353 xs), (fun _ _ => 0))
  refine mm_ob (P := vp_in 237 279) (mm_inl (by decide)) ?_
  show mm_b _ _ _ _ _ [some (.ref 46), some (.int 0), some (.int 237)] [] ((fun _ => false, 0, 0, true, false, ad), (zI_354 xs), (fun _ _ => 0))
  refine mm_el (c := (279 : Int32) ≤ 238) (d := ¬ (279 : Int32) ≤ 238) (by decide) ?_
  show mm_b _ _ _ _ _ [some (.ref 46), some (.int 0), some (.int 238)] [] ((fun _ => false, 0, 0, true, false, ad), (zI_354 xs), (fun _ _ => 0))
  refine mm_ob (P := vp_in 238 279) (mm_inl (by decide)) ?_
  show mm_b _ _ _ _ _ [some (.ref 46), some (.int 0), some (.int 238)] [] ((fun _ => false, 0, 0, true, false, ad), (zI_355 xs), (fun _ _ => 0))
  refine mm_el (c := (279 : Int32) ≤ 239) (d := ¬ (279 : Int32) ≤ 239) (by decide) ?_
  show mm_b _ _ _ _ _ [some (.ref 46), some (.int 0), some (.int 239)] [] ((fun _ => false, 0, 0, true, false, ad), (zI_355 xs), (fun _ _ => 0))
  refine mm_ob (P := vp_in 239 279) (mm_inl (by decide)) ?_
  show mm_b _ _ _ _ _ [some (.ref 46), some (.int 0), some (.int 239)] [] ((fun _ => false, 0, 0, true, false, ad), (zI_356 xs), (fun _ _ => 0))
  refine mm_el (c := (279 : Int32) ≤ 240) (d := ¬ (279 : Int32) ≤ 240) (by decide) ?_
  show mm_b _ _ _ _ _ [some (.ref 46), some (.int 0), some (.int 240)] [] ((fun _ => false, 0, 0, true, false, ad), (zI_356 xs), (fun _ _ => 0))
  refine mm_ob (P := vp_in 240 279) (mm_inl (by decide)) ?_
  show mm_b _ _ _ _ _ [some (.ref 46), some (.int 0), some (.int 240)] [] ((fun _ => false, 0, 0, true, false, ad), (zI_357 xs), (fun _ _ => 0))
  refine mm_el (c := (279 : Int32) ≤ 241) (d := ¬ (279 : Int32) ≤ 241) (by decide) ?_
  show mm_b _ _ _ _ _ [some (.ref 46), some (.int 0), some (.int 241)] [] ((fun _ => false, 0, 0, true, false, ad), (zI_357 xs), (fun _ _ => 0))
  refine mm_ob (P := vp_in 241 279) (mm_inl (by decide)) ?_
  show mm_b _ _ _ _ _ [some (.ref 46), some (.int 0), some (.int 241)] [] ((fun _ => false, 0, 0, true, false, ad), (zI_358 xs), (fun _ _ => 0))
  refine mm_el (c := (279 : Int32) ≤ 242) (d := ¬ (279 : Int32) ≤ 242) (by decide) ?_
  show mm_b _ _ _ _ _ [some (.ref 46), some (.int 0), some (.int 242)] [] ((fun _ => false, 0, 0, true, false, ad), (zI_358 xs), (fun _ _ => 0))
  refine mm_ob (P := vp_in 242 279) (mm_inl (by decide)) ?_
  show mm_b _ _ _ _ _ [some (.ref 46), some (.int 0), some (.int 242)] [] ((fun _ => false, 0, 0, true, false, ad), (zI_359 xs), (fun _ _ => 0))
  refine mm_el (c := (279 : Int32) ≤ 243) (d := ¬ (279 : Int32) ≤ 243) (by decide) ?_
  show mm_b _ _ _ _ _ [some (.ref 46), some (.int 0), some (.int 243)] [] ((fun _ => false, 0, 0, true, false, ad), (zI_359 xs), (fun _ _ => 0))
  refine mm_ob (P := vp_in 243 279) (mm_inl (by decide)) ?_
  show mm_b _ _ _ _ _ [some (.ref 46), some (.int 0), some (.int 243)] [] ((fun _ => false, 0, 0, true, false, ad), (zI_360 xs), (fun _ _ => 0))
  refine mm_el (c := (279 : Int32) ≤ 244) (d := ¬ (279 : Int32) ≤ 244) (by decide) ?_
  show mm_b _ _ _ _ _ [some (.ref 46), some (.int 0), some (.int 244)] [] ((fun _ => false, 0, 0, true, false, ad), (zI_360 xs), (fun _ _ => 0))
  refine mm_ob (P := vp_in 244 279) (mm_inl (by decide)) ?_
  show mm_b _ _ _ _ _ [some (.ref 46), some (.int 0), some (.int 244)] [] ((fun _ => false, 0, 0, true, false, ad), (zI_361 xs), (fun _ _ => 0))
  refine mm_el (c := (279 : Int32) ≤ 245) (d := ¬ (279 : Int32) ≤ 245) (by decide) ?_
  show mm_b _ _ _ _ _ [some (.ref 46), some (.int 0), some (.int 245)] [] ((fun _ => false, 0, 0, true, false, ad), (zI_361 xs), (fun _ _ => 0))
  refine mm_ob (P := vp_in 245 279) (mm_inl (by decide)) ?_
  show mm_b _ _ _ _ _ [some (.ref 46), some (.int 0), some (.int 245)] [] ((fun _ => false, 0, 0, true, false, ad), (zI_362 xs), (fun _ _ => 0))
  refine mm_el (c := (279 : Int32) ≤ 246) (d := ¬ (279 : Int32) ≤ 246) (by decide) ?_
  show mm_b _ _ _ _ _ [some (.ref 46), some (.int 0), some (.int 246)] [] ((fun _ => false, 0, 0, true, false, ad), (zI_362 xs), (fun _ _ => 0))
  refine mm_ob (P := vp_in 246 279) (mm_inl (by decide)) ?_
  show mm_b _ _ _ _ _ [some (.ref 46), some (.int 0), some (.int 246)] [] ((fun _ => false, 0, 0, true, false, ad), (zI_363 xs), (fun _ _ => 0))
  refine mm_el (c := (279 : Int32) ≤ 247) (d := ¬ (279 : Int32) ≤ 247) (by decide) ?_
  show mm_b _ _ _ _ _ [some (.ref 46), some (.int 0), some (.int 247)] [] ((fun _ => false, 0, 0, true, false, ad), (zI_363 xs), (fun _ _ => 0))
  refine mm_ob (P := vp_in 247 279) (mm_inl (by decide)) ?_
  show mm_b _ _ _ _ _ [some (.ref 46), some (.int 0), some (.int 247)] [] ((fun _ => false, 0, 0, true, false, ad), (zI_364 xs), (fun _ _ => 0))
  refine mm_el (c := (279 : Int32) ≤ 248) (d := ¬ (279 : Int32) ≤ 248) (by decide) ?_
  show mm_b _ _ _ _ _ [some (.ref 46), some (.int 0), some (.int 248)] [] ((fun _ => false, 0, 0, true, false, ad), (zI_364 xs), (fun _ _ => 0))
  refine mm_ob (P := vp_in 248 279) (mm_inl (by decide)) ?_
  show mm_b _ _ _ _ _ [some (.ref 46), some (.int 0), some (.int 248)] [] ((fun _ => false, 0, 0, true, false, ad), (zI_365 xs), (fun _ _ => 0))
  refine mm_el (c := (279 : Int32) ≤ 249) (d := ¬ (279 : Int32) ≤ 249) (by decide) ?_
  show mm_b _ _ _ _ _ [some (.ref 46), some (.int 0), some (.int 249)] [] ((fun _ => false, 0, 0, true, false, ad), (zI_365 xs), (fun _ _ => 0))
  refine mm_ob (P := vp_in 249 279) (mm_inl (by decide)) ?_
  show mm_b _ _ _ _ _ [some (.ref 46), some (.int 0), some (.int 249)] [] ((fun _ => false, 0, 0, true, false, ad), (zI_366 xs), (fun _ _ => 0))
  refine mm_el (c := (279 : Int32) ≤ 250) (d := ¬ (279 : Int32) ≤ 250) (by decide) ?_
  show mm_b _ _ _ _ _ [some (.ref 46), some (.int 0), some (.int 250)] [] ((fun _ => false, 0, 0, true, false, ad), (zI_366 xs), (fun _ _ => 0))
  refine mm_ob (P := vp_in 250 279) (mm_inl (by decide)) ?_
  show mm_b _ _ _ _ _ [some (.ref 46), some (.int 0), some (.int 250)] [] ((fun _ => false, 0, 0, true, false, ad), (zI_367 xs), (fun _ _ => 0))
  refine mm_el (c := (279 : Int32) ≤ 251) (d := ¬ (279 : Int32) ≤ 251) (by decide) ?_
  show mm_b _ _ _ _ _ [some (.ref 46), some (.int 0), some (.int 251)] [] ((fun _ => false, 0, 0, true, false, ad), (zI_367 xs), (fun _ _ => 0))
  refine mm_ob (P := vp_in 251 279) (mm_inl (by decide)) ?_
  show mm_b _ _ _ _ _ [some (.ref 46), some (.int 0), some (.int 251)] [] ((fun _ => false, 0, 0, true, false, ad), (zI_368 xs), (fun _ _ => 0))
  refine mm_el (c := (279 : Int32) ≤ 252) (d := ¬ (279 : Int32) ≤ 252) (by decide) ?_
  show mm_b _ _ _ _ _ [some (.ref 46), some (.int 0), some (.int 252)] [] ((fun _ => false, 0, 0, true, false, ad), (zI_368 xs), (fun _ _ => 0))
  refine mm_ob (P := vp_in 252 279) (mm_inl (by decide)) ?_
  show mm_b _ _ _ _ _ [some (.ref 46), some (.int 0), some (.int 252)] [] ((fun _ => false, 0, 0, true, false, ad), (zI_369 xs), (fun _ _ => 0))
  refine mm_el (c := (279 : Int32) ≤ 253) (d := ¬ (279 : Int32) ≤ 253) (by decide) ?_
  show mm_b _ _ _ _ _ [some (.ref 46), some (.int 0), some (.int 253)] [] ((fun _ => false, 0, 0, true, false, ad), (zI_369 xs), (fun _ _ => 0))
  refine mm_ob (P := vp_in 253 279) (mm_inl (by decide)) ?_
  show mm_b _ _ _ _ _ [some (.ref 46), some (.int 0), some (.int 253)] [] ((fun _ => false, 0, 0, true, false, ad), (zI_370 xs), (fun _ _ => 0))
  refine mm_el (c := (279 : Int32) ≤ 254) (d := ¬ (279 : Int32) ≤ 254) (by decide) ?_
  show mm_b _ _ _ _ _ [some (.ref 46), some (.int 0), some (.int 254)] [] ((fun _ => false, 0, 0, true, false, ad), (zI_370 xs), (fun _ _ => 0))
  refine mm_ob (P := vp_in 254 279) (mm_inl (by decide)) ?_
  show mm_b _ _ _ _ _ [some (.ref 46), some (.int 0), some (.int 254)] [] ((fun _ => false, 0, 0, true, false, ad), (zI_371 xs), (fun _ _ => 0))
  refine mm_el (c := (279 : Int32) ≤ 255) (d := ¬ (279 : Int32) ≤ 255) (by decide) ?_
  show mm_b _ _ _ _ _ [some (.ref 46), some (.int 0), some (.int 255)] [] ((fun _ => false, 0, 0, true, false, ad), (zI_371 xs), (fun _ _ => 0))
  refine mm_ob (P := vp_in 255 279) (mm_inl (by decide)) ?_
  show mm_b _ _ _ _ _ [some (.ref 46), some (.int 0), some (.int 255)] [] ((fun _ => false, 0, 0, true, false, ad), (zI_372 xs), (fun _ _ => 0))
  refine mm_el (c := (279 : Int32) ≤ 256) (d := ¬ (279 : Int32) ≤ 256) (by decide) ?_
  show mm_b _ _ _ _ _ [some (.ref 46), some (.int 0), some (.int 256)] [] ((fun _ => false, 0, 0, true, false, ad), (zI_372 xs), (fun _ _ => 0))
  refine mm_ob (P := vp_in 256 279) (mm_inl (by decide)) ?_
  show mm_b _ _ _ _ _ [some (.ref 46), some (.int 0), some (.int 256)] [] ((fun _ => false, 0, 0, true, false, ad), (zI_373 xs), (fun _ _ => 0))
  refine mm_el (c := (279 : Int32) ≤ 257) (d := ¬ (279 : Int32) ≤ 257) (by decide) ?_
  show mm_b _ _ _ _ _ [some (.ref 46), some (.int 0), some (.int 257)] [] ((fun _ => false, 0, 0, true, false, ad), (zI_373 xs), (fun _ _ => 0))
  refine mm_ob (P := vp_in 257 279) (mm_inl (by decide)) ?_
  show mm_b _ _ _ _ _ [some (.ref 46), some (.int 0), some (.int 257)] [] ((fun _ => false, 0, 0, true, false, ad), (zI_374 xs), (fun _ _ => 0))
  refine mm_el (c := (279 : Int32) ≤ 258) (d := ¬ (279 : Int32) ≤ 258) (by decide) ?_
  show mm_b _ _ _ _ _ [some (.ref 46), some (.int 0), some (.int 258)] [] ((fun _ => false, 0, 0, true, false, ad), (zI_374 xs), (fun _ _ => 0))
  refine mm_ob (P := vp_in 258 279) (mm_inl (by decide)) ?_
  show mm_b _ _ _ _ _ [some (.ref 46), some (.int 0), some (.int 258)] [] ((fun _ => false, 0, 0, true, false, ad), (zI_375 xs), (fun _ _ => 0))
  refine mm_el (c := (279 : Int32) ≤ 259) (d := ¬ (279 : Int32) ≤ 259) (by decide) ?_
  show mm_b _ _ _ _ _ [some (.ref 46), some (.int 0), some (.int 259)] [] ((fun _ => false, 0, 0, true, false, ad), (zI_375 xs), (fun _ _ => 0))
  refine mm_ob (P := vp_in 259 279) (mm_inl (by decide)) ?_
  show mm_b _ _ _ _ _ [some (.ref 46), some (.int 0), some (.int 259)] [] ((fun _ => false, 0, 0, true, false, ad), (zI_376 xs), (fun _ _ => 0))
  refine mm_el (c := (279 : Int32) ≤ 260) (d := ¬ (279 : Int32) ≤ 260) (by decide) ?_
  show mm_b _ _ _ _ _ [some (.ref 46), some (.int 0), some (.int 260)] [] ((fun _ => false, 0, 0, true, false, ad), (zI_376 xs), (fun _ _ => 0))
  refine mm_ob (P := vp_in 260 279) (mm_inl (by decide)) ?_
  show mm_b _ _ _ _ _ [some (.ref 46), some (.int 0), some (.int 260)] [] ((fun _ => false, 0, 0, true, false, ad), (zI_377 xs), (fun _ _ => 0))
  refine mm_el (c := (279 : Int32) ≤ 261) (d := ¬ (279 : Int32) ≤ 261) (by decide) ?_
  show mm_b _ _ _ _ _ [some (.ref 46), some (.int 0), some (.int 261)] [] ((fun _ => false, 0, 0, true, false, ad), (zI_377 xs), (fun _ _ => 0))
  refine mm_ob (P := vp_in 261 279) (mm_inl (by decide)) ?_
  show mm_b _ _ _ _ _ [some (.ref 46), some (.int 0), some (.int 261)] [] ((fun _ => false, 0, 0, true, false, ad), (zI_378 xs), (fun _ _ => 0))
  refine mm_el (c := (279 : Int32) ≤ 262) (d := ¬ (279 : Int32) ≤ 262) (by decide) ?_
  show mm_b _ _ _ _ _ [some (.ref 46), some (.int 0), some (.int 262)] [] ((fun _ => false, 0, 0, true, false, ad), (zI_378 xs), (fun _ _ => 0))
  refine mm_ob (P := vp_in 262 279) (mm_inl (by decide)) ?_
  show mm_b _ _ _ _ _ [some (.ref 46), some (.int 0), some (.int 262)] [] ((fun _ => false, 0, 0, true, false, ad), (zI_379 xs), (fun _ _ => 0))
  refine mm_el (c := (279 : Int32) ≤ 263) (d := ¬ (279 : Int32) ≤ 263) (by decide) ?_
  show mm_b _ _ _ _ _ [some (.ref 46), some (.int 0), some (.int 263)] [] ((fun _ => false, 0, 0, true, false, ad), (zI_379 xs), (fun _ _ => 0))
  refine mm_ob (P := vp_in 263 279) (mm_inl (by decide)) ?_
  show mm_b _ _ _ _ _ [some (.ref 46), some (.int 0), some (.int 263)] [] ((fun _ => false, 0, 0, true, false, ad), (zI_380 xs), (fun _ _ => 0))
  refine mm_el (c := (279 : Int32) ≤ 264) (d := ¬ (279 : Int32) ≤ 264) (by decide) ?_
  show mm_b _ _ _ _ _ [some (.ref 46), some (.int 0), some (.int 264)] [] ((fun _ => false, 0, 0, true, false, ad), (zI_380 xs), (fun _ _ => 0))
  refine mm_ob (P := vp_in 264 279) (mm_inl (by decide)) ?_
  show mm_b _ _ _ _ _ [some (.ref 46), some (.int 0), some (.int 264)] [] ((fun _ => false, 0, 0, true, false, ad), (zI_381 xs), (fun _ _ => 0))
  refine mm_el (c := (279 : Int32) ≤ 265) (d := ¬ (279 : Int32) ≤ 265) (by decide) ?_
  show mm_b _ _ _ _ _ [some (.ref 46), some (.int 0), some (.int 265)] [] ((fun _ => false, 0, 0, true, false, ad), (zI_381 xs), (fun _ _ => 0))
  refine mm_ob (P := vp_in 265 279) (mm_inl (by decide)) ?_
  show mm_b _ _ _ _ _ [some (.ref 46), some (.int 0), some (.int 265)] [] ((fun _ => false, 0, 0, true, false, ad), (zI_382 xs), (fun _ _ => 0))
  refine mm_el (c := (279 : Int32) ≤ 266) (d := ¬ (279 : Int32) ≤ 266) (by decide) ?_
  show mm_b _ _ _ _ _ [some (.ref 46), some (.int 0), some (.int 266)] [] ((fun _ => false, 0, 0, true, false, ad), (zI_382 xs), (fun _ _ => 0))
  refine mm_ob (P := vp_in 266 279) (mm_inl (by decide)) ?_
  show mm_b _ _ _ _ _ [some (.ref 46), some (.int 0), some (.int 266)] [] ((fun _ => false, 0, 0, true, false, ad), (zI_383 xs), (fun _ _ => 0))
  refine mm_el (c := (279 : Int32) ≤ 267) (d := ¬ (279 : Int32) ≤ 267) (by decide) ?_
  show mm_b _ _ _ _ _ [some (.ref 46), some (.int 0), some (.int 267)] [] ((fun _ => false, 0, 0, true, false, ad), (zI_383 xs), (fun _ _ => 0))
  refine mm_ob (P := vp_in 267 279) (mm_inl (by decide)) ?_
  show mm_b _ _ _ _ _ [some (.ref 46), some (.int 0), some (.int 267)] [] ((fun _ => false, 0, 0, true, false, ad), (zI_384 xs), (fun _ _ => 0))
  refine mm_el (c := (279 : Int32) ≤ 268) (d := ¬ (279 : Int32) ≤ 268) (by decide) ?_
  show mm_b _ _ _ _ _ [some (.ref 46), some (.int 0), some (.int 268)] [] ((fun _ => false, 0, 0, true, false, ad), (zI_384 xs), (fun _ _ => 0))
  refine mm_ob (P := vp_in 268 279) (mm_inl (by decide)) ?_
  show mm_b _ _ _ _ _ [some (.ref 46), some (.int 0), some (.int 268)] [] ((fun _ => false, 0, 0, true, false, ad), (zI_385 xs), (fun _ _ => 0))
  refine mm_el (c := (279 : Int32) ≤ 269) (d := ¬ (279 : Int32) ≤ 269) (by decide) ?_
  show mm_b _ _ _ _ _ [some (.ref 46), some (.int 0), some (.int 269)] [] ((fun _ => false, 0, 0, true, false, ad), (zI_385 xs), (fun _ _ => 0))
  refine mm_ob (P := vp_in 269 279) (mm_inl (by decide)) ?_
  show mm_b _ _ _ _ _ [some (.ref 46), some (.int 0), some (.int 269)] [] ((fun _ => false, 0, 0, true, false, ad), (zI_386 xs), (fun _ _ => 0))
  refine mm_el (c := (279 : Int32) ≤ 270) (d := ¬ (279 : Int32) ≤ 270) (by decide) ?_
  show mm_b _ _ _ _ _ [some (.ref 46), some (.int 0), some (.int 270)] [] ((fun _ => false, 0, 0, true, false, ad), (zI_386 xs), (fun _ _ => 0))
  refine mm_ob (P := vp_in 270 279) (mm_inl (by decide)) ?_
  show mm_b _ _ _ _ _ [some (.ref 46), some (.int 0), some (.int 270)] [] ((fun _ => false, 0, 0, true, false, ad), (zI_387 xs), (fun _ _ => 0))
  refine mm_el (c := (279 : Int32) ≤ 271) (d := ¬ (279 : Int32) ≤ 271) (by decide) ?_
  show mm_b _ _ _ _ _ [some (.ref 46), some (.int 0), some (.int 271)] [] ((fun _ => false, 0, 0, true, false, ad), (zI_387 xs), (fun _ _ => 0))
  refine mm_ob (P := vp_in 271 279) (mm_inl (by decide)) ?_
  show mm_b _ _ _ _ _ [some (.ref 46), some (.int 0), some (.int 271)] [] ((fun _ => false, 0, 0, true, false, ad), (zI_388 xs), (fun _ _ => 0))
  refine mm_el (c := (279 : Int32) ≤ 272) (d := ¬ (279 : Int32) ≤ 272) (by decide) ?_
  show mm_b _ _ _ _ _ [some (.ref 46), some (.int 0), some (.int 272)] [] ((fun _ => false, 0, 0, true, false, ad), (zI_388 xs), (fun _ _ => 0))
  refine mm_ob (P := vp_in 272 279) (mm_inl (by decide)) ?_
  show mm_b _ _ _ _ _ [some (.ref 46), some (.int 0), some (.int 272)] [] ((fun _ => false, 0, 0, true, false, ad), (zI_389 xs), (fun _ _ => 0))
  refine mm_el (c := (279 : Int32) ≤ 273) (d := ¬ (279 : Int32) ≤ 273) (by decide) ?_
  show mm_b _ _ _ _ _ [some (.ref 46), some (.int 0), some (.int 273)] [] ((fun _ => false, 0, 0, true, false, ad), (zI_389 xs), (fun _ _ => 0))
  refine mm_ob (P := vp_in 273 279) (mm_inl (by decide)) ?_
  show mm_b _ _ _ _ _ [some (.ref 46), some (.int 0), some (.int 273)] [] ((fun _ => false, 0, 0, true, false, ad), (zI_390 xs), (fun _ _ => 0))
  refine mm_el (c := (279 : Int32) ≤ 274) (d := ¬ (279 : Int32) ≤ 274) (by decide) ?_
  show mm_b _ _ _ _ _ [some (.ref 46), some (.int 0), some (.int 274)] [] ((fun _ => false, 0, 0, true, false, ad), (zI_390 xs), (fun _ _ => 0))
  refine mm_ob (P := vp_in 274 279) (mm_inl (by decide)) ?_
  show mm_b _ _ _ _ _ [some (.ref 46), some (.int 0), some (.int 274)] [] ((fun _ => false, 0, 0, true, false, ad), (zI_391 xs), (fun _ _ => 0))
  refine mm_el (c := (279 : Int32) ≤ 275) (d := ¬ (279 : Int32) ≤ 275) (by decide) ?_
  show mm_b _ _ _ _ _ [some (.ref 46), some (.int 0), some (.int 275)] [] ((fun _ => false, 0, 0, true, false, ad), (zI_391 xs), (fun _ _ => 0))
  refine mm_ob (P := vp_in 275 279) (mm_inl (by decide)) ?_
  show mm_b _ _ _ _ _ [some (.ref 46), some (.int 0), some (.int 275)] [] ((fun _ => false, 0, 0, true, false, ad), (zI_392 xs), (fun _ _ => 0))
  refine mm_el (c := (279 : Int32) ≤ 276) (d := ¬ (279 : Int32) ≤ 276) (by decide) ?_
  show mm_b _ _ _ _ _ [some (.ref 46), some (.int 0), some (.int 276)] [] ((fun _ => false, 0, 0, true, false, ad), (zI_392 xs), (fun _ _ => 0))
  refine mm_ob (P := vp_in 276 279) (mm_inl (by decide)) ?_
  show mm_b _ _ _ _ _ [some (.ref 46), some (.int 0), some (.int 276)] [] ((fun _ => false, 0, 0, true, false, ad), (zI_393 xs), (fun _ _ => 0))
  refine mm_el (c := (279 : Int32) ≤ 277) (d := ¬ (279 : Int32) ≤ 277) (by decide) ?_
  show mm_b _ _ _ _ _ [some (.ref 46), some (.int 0), some (.int 277)] [] ((fun _ => false, 0, 0, true, false, ad), (zI_393 xs), (fun _ _ => 0))
  refine mm_ob (P := vp_in 277 279) (mm_inl (by decide)) ?_
  show mm_b _ _ _ _ _ [some (.ref 46), some (.int 0), some (.int 277)] [] ((fun _ => false, 0, 0, true, false, ad), (zI_394 xs), (fun _ _ => 0))
  refine mm_el (c := (279 : Int32) ≤ 278) (d := ¬ (279 : Int32) ≤ 278) (by decide) ?_
  show mm_b _ _ _ _ _ [some (.ref 46), some (.int 0), some (.int 278)] [] ((fun _ => false, 0, 0, true, false, ad), (zI_394 xs), (fun _ _ => 0))
  refine mm_ob (P := vp_in 278 279) (mm_inl (by decide)) ?_
  show mm_b _ _ _ _ _ [some (.ref 46), some (.int 0), some (.int 278)] [] ((fun _ => false, 0, 0, true, false, ad), (zI_395 xs), (fun _ _ => 0))
  refine mm_tk (c := (279 : Int32) ≤ 279) (d := ¬ (279 : Int32) ≤ 279) (by decide) ?_
  show mm_u _ _ _ _ _ _ [some (.ref 46), some (.int 0), some (.int 279)] [] ((fun _ => false, 0, 0, true, false, ad), (zI_395 xs), (fun _ _ => 0))
  refine mm_iv 600 (by rfl) ?_
  show mm_k _ _ _ _ _ [some (.ref 46), none, none, none] [] ((fun _ => false, 0, 0, true, false, ad), (zI_397 xs), (fun _ _ => 0))
  refine mm_iv 600 (by rfl) ?_
  show mm_k _ _ _ _ _ [some (.ref 46), some (.int 0)] [] ((fun _ => false, 0, 0, true, false, ad), (zI_397 xs), (fun _ _ => 0))
  refine mm_tk (c := (0 : Int32) ≤ 0) (d := ¬ (0 : Int32) ≤ 0) (by decide) ?_
  show mm_u _ _ _ _ _ _ [some (.ref 46), some (.int 0)] [] ((fun _ => false, 0, 0, true, false, ad), (zI_397 xs), (fun _ _ => 0))
  refine mm_q1 (r := (-1)) ⟨rfl, ?_⟩
  show mm_b _ _ _ _ _ [some (.ref 46), some (.int 0), none, none] [.int (-1)] ((fun _ => false, 0, 0, true, false, ad), (zI_397 xs), (fun _ _ => 0))
  refine mm_tk (c := ¬ ((-1) : Int32) = 32) (d := ((-1) : Int32) = 32) (by decide) ?_
  show mm_u _ _ _ _ _ _ [some (.ref 46), some (.int 0), none, none] [] ((fun _ => false, 0, 0, true, false, ad), (zI_397 xs), (fun _ _ => 0))
  refine mm_iv 600 (by rfl) ?_
  show mm_k _ _ _ _ _ [some (.ref 46), some (.int 0)] [] ((fun _ => false, 0, 0, true, false, ad), (zI_398 xs), (fun _ _ => 0))
  refine mm_tk (c := (0 : Int32) ≤ 0) (d := ¬ (0 : Int32) ≤ 0) (by decide) ?_
  show mm_u _ _ _ _ _ _ [some (.ref 46), some (.int 0)] [] ((fun _ => false, 0, 0, true, false, ad), (zI_398 xs), (fun _ _ => 0))
  refine mm_q1 (r := (-1)) ⟨rfl, ?_⟩
  show mm_b _ _ _ _ _ [some (.ref 46), some (.int 0), none, none] [.int (-1)] ((fun _ => false, 0, 0, true, false, ad), (zI_398 xs), (fun _ _ => 0))
  refine mm_el (c := ¬ ((-1) : Int32) = (-1)) (d := ((-1) : Int32) = (-1)) (by decide) ?_
  show mm_b _ _ _ _ _ [some (.ref 46), some (.int 0), some (.int (-1)), none] [] ((fun _ => false, 0, 0, true, false, ad), (zI_400 xs), (fun _ _ => 0))
  refine mm_q0 ⟨rfl, ?_⟩
  show mm_b _ _ _ _ _ [some (.ref 46), some (.int 0), none] [] ((fun _ => false, 0, 0, true, false, ad), (zI_402 xs), (fun _ _ => 0))
  refine mm_iv 600 (by rfl) ?_
  show mm_k _ _ _ _ _ [some (.ref 46)] [] ((fun _ => false, 0, 0, true, false, ad), (zI_402 xs), (fun _ _ => 0))
  refine mm_ob (P := vp_in 0 279) (mm_inl (by decide)) ?_
  show mm_b _ _ _ _ _ [some (.ref 46)] [.int 0, .ref 98, .ref 46] ((fun _ => false, 0, 0, true, false, ad), (zI_402 xs), (fun _ _ => 0))
  refine mm_el (c := ¬ (0 : Int32) = 0) (d := (0 : Int32) = 0) (by decide) ?_
  show mm_b _ _ _ _ _ [some (.ref 46)] [.ref 98, .ref 46] ((fun _ => false, 0, 0, true, false, ad), (zI_402 xs), (fun _ _ => 0))
  refine mm_iv 600 (by rfl) ?_
  show mm_k _ _ _ _ _ [some (.ref 46), some (.ref 98), some (.int 1), some (.int 3)] [] ((fun _ => false, 0, 0, true, false, ad), (zI_402 xs), (fun _ _ => 0))
  refine mm_iv 600 (by rfl) ?_
  show mm_k _ _ _ _ _ [some (.ref 46), some (.ref 98), none, none] [] ((fun _ => false, 0, 0, true, false, ad), (zI_402 xs), (fun _ _ => 0))
  refine mm_el (c := ¬ (0 : Int32) = 0) (d := (0 : Int32) = 0) (by decide) ?_
  show mm_b _ _ _ _ _ [some (.ref 46), some (.ref 98), none, none] [] ((fun _ => false, 0, 0, true, false, ad), (zI_402 xs), (fun _ _ => 0))
  refine mm_tk (c := ¬ (0 : Int32) = 2) (d := (0 : Int32) = 2) (by decide) ?_
  show mm_u _ _ _ _ _ _ [some (.ref 46), some (.ref 98), none, none] [] ((fun _ => false, 0, 0, true, false, ad), (zI_402 xs), (fun _ _ => 0))
  refine mm_ob (P := (0 : Int32) = 0 ∨ (0 : Int32) = 1) (by decide) ?_
  refine mm_q1 (r := 0) ⟨rfl, ?_⟩
  show mm_b _ _ _ _ _ [some (.ref 46), some (.ref 98), some (.int 1), some (.int 3)] [.int 0] ((fun _ => false, 0, 0, true, false, ad), (zI_402 xs), (fun _ _ => 0))
  refine mm_el (c := ¬ (0 : Int32) = 0) (d := (0 : Int32) = 0) (by decide) ?_
  show mm_b _ _ _ _ _ [some (.ref 46), some (.ref 98), some (.int 1), some (.int 3)] [] ((fun _ => false, 0, 0, true, false, ad), (zI_402 xs), (fun _ _ => 0))
  refine mm_ob (P := (0 : Int32) = 0 ∨ (0 : Int32) = 1) (by decide) ?_
  refine mm_q1 (r := 0) ⟨rfl, ?_⟩
  show mm_b _ _ _ _ _ [some (.ref 46)] [.int 0] ((fun _ => false, 0, 0, true, false, ad), (zI_402 xs), (fun _ _ => 0))
  refine mm_tk (c := (0 : Int32) = 0) (d := ¬ (0 : Int32) = 0) (by decide) ?_
  show mm_u _ _ _ _ _ _ [some (.ref 46)] [] ((fun _ => false, 0, 0, true, false, ad), (zI_402 xs), (fun _ _ => 0))
  refine mm_ob (P := vp_in 3 279) (mm_inl (by decide)) ?_
  show mm_b _ _ _ _ _ [some (.ref 46)] [.int 0, .ref 101, .ref 46] ((fun _ => false, 0, 0, true, false, ad), (zI_402 xs), (fun _ _ => 0))
  refine mm_el (c := (10 : Int32) ≤ 0) (d := ¬ (10 : Int32) ≤ 0) (by decide) ?_
  show mm_b _ _ _ _ _ [some (.ref 46)] [.ref 101, .ref 46] ((fun _ => false, 0, 0, true, false, ad), (zI_402 xs), (fun _ _ => 0))
  refine mm_iv 600 (by rfl) ?_
  show mm_k _ _ _ _ _ [some (.ref 46), some (.ref 101), some (.int 1), some (.int 5)] [] ((fun _ => false, 0, 0, true, false, ad), (zI_402 xs), (fun _ _ => 0))
  refine mm_iv 600 (by rfl) ?_
  show mm_k _ _ _ _ _ [some (.ref 46), some (.ref 101), none, none] [] ((fun _ => false, 0, 0, true, false, ad), (zI_402 xs), (fun _ _ => 0))
  refine mm_el (c := ¬ (0 : Int32) = 0) (d := (0 : Int32) = 0) (by decide) ?_
  show mm_b _ _ _ _ _ [some (.ref 46), some (.ref 101), none, none] [] ((fun _ => false, 0, 0, true, false, ad), (zI_402 xs), (fun _ _ => 0))
  refine mm_tk (c := ¬ (0 : Int32) = 2) (d := (0 : Int32) = 2) (by decide) ?_
  show mm_u _ _ _ _ _ _ [some (.ref 46), some (.ref 101), none, none] [] ((fun _ => false, 0, 0, true, false, ad), (zI_402 xs), (fun _ _ => 0))
  refine mm_ob (P := (0 : Int32) = 0 ∨ (0 : Int32) = 1) (by decide) ?_
  refine mm_q1 (r := 0) ⟨rfl, ?_⟩
  show mm_b _ _ _ _ _ [some (.ref 46), some (.ref 101), some (.int 1), some (.int 5)] [.int 0] ((fun _ => false, 0, 0, true, false, ad), (zI_402 xs), (fun _ _ => 0))
  refine mm_el (c := ¬ (0 : Int32) = 0) (d := (0 : Int32) = 0) (by decide) ?_
  show mm_b _ _ _ _ _ [some (.ref 46), some (.ref 101), some (.int 1), some (.int 5)] [] ((fun _ => false, 0, 0, true, false, ad), (zI_402 xs), (fun _ _ => 0))
  refine mm_ob (P := (0 : Int32) = 0 ∨ (0 : Int32) = 1) (by decide) ?_
  refine mm_q1 (r := 0) ⟨rfl, ?_⟩
  show mm_b _ _ _ _ _ [some (.ref 46)] [.int 0] ((fun _ => false, 0, 0, true, false, ad), (zI_402 xs), (fun _ _ => 0))
  refine mm_tk (c := (0 : Int32) = 0) (d := ¬ (0 : Int32) = 0) (by decide) ?_
  show mm_u _ _ _ _ _ _ [some (.ref 46)] [] ((fun _ => false, 0, 0, true, false, ad), (zI_402 xs), (fun _ _ => 0))
  refine mm_ob (P := vp_in 4 279) (mm_inl (by decide)) ?_
  show mm_b _ _ _ _ _ [some (.ref 46)] [.int 0, .ref 102, .ref 46] ((fun _ => false, 0, 0, true, false, ad), (zI_402 xs), (fun _ _ => 0))
  refine mm_el (c := (5 : Int32) ≤ 0) (d := ¬ (5 : Int32) ≤ 0) (by decide) ?_
  show mm_b _ _ _ _ _ [some (.ref 46)] [.ref 102, .ref 46] ((fun _ => false, 0, 0, true, false, ad), (zI_402 xs), (fun _ _ => 0))
  refine mm_iv 600 (by rfl) ?_
  show mm_k _ _ _ _ _ [some (.ref 46), some (.ref 102), some (.int 1), some (.int 5)] [] ((fun _ => false, 0, 0, true, false, ad), (zI_402 xs), (fun _ _ => 0))
  refine mm_iv 600 (by rfl) ?_
  show mm_k _ _ _ _ _ [some (.ref 46), some (.ref 102), none, none] [] ((fun _ => false, 0, 0, true, false, ad), (zI_402 xs), (fun _ _ => 0))
  refine mm_el (c := ¬ (0 : Int32) = 0) (d := (0 : Int32) = 0) (by decide) ?_
  show mm_b _ _ _ _ _ [some (.ref 46), some (.ref 102), none, none] [] ((fun _ => false, 0, 0, true, false, ad), (zI_402 xs), (fun _ _ => 0))
  refine mm_tk (c := ¬ (0 : Int32) = 2) (d := (0 : Int32) = 2) (by decide) ?_
  show mm_u _ _ _ _ _ _ [some (.ref 46), some (.ref 102), none, none] [] ((fun _ => false, 0, 0, true, false, ad), (zI_402 xs), (fun _ _ => 0))
  refine mm_ob (P := (0 : Int32) = 0 ∨ (0 : Int32) = 1) (by decide) ?_
  refine mm_q1 (r := 0) ⟨rfl, ?_⟩
  show mm_b _ _ _ _ _ [some (.ref 46), some (.ref 102), some (.int 1), some (.int 5)] [.int 0] ((fun _ => false, 0, 0, true, false, ad), (zI_402 xs), (fun _ _ => 0))
  refine mm_el (c := ¬ (0 : Int32) = 0) (d := (0 : Int32) = 0) (by decide) ?_
  show mm_b _ _ _ _ _ [some (.ref 46), some (.ref 102), some (.int 1), some (.int 5)] [] ((fun _ => false, 0, 0, true, false, ad), (zI_402 xs), (fun _ _ => 0))
  refine mm_ob (P := (0 : Int32) = 0 ∨ (0 : Int32) = 1) (by decide) ?_
  refine mm_q1 (r := 0) ⟨rfl, ?_⟩
  show mm_b _ _ _ _ _ [some (.ref 46)] [.int 0] ((fun _ => false, 0, 0, true, false, ad), (zI_402 xs), (fun _ _ => 0))
  refine mm_tk (c := (0 : Int32) = 0) (d := ¬ (0 : Int32) = 0) (by decide) ?_
  show mm_u _ _ _ _ _ _ [some (.ref 46)] [] ((fun _ => false, 0, 0, true, false, ad), (zI_402 xs), (fun _ _ => 0))
  refine mm_ob (P := vp_in 5 279) (mm_inl (by decide)) ?_
  show mm_b _ _ _ _ _ [some (.ref 46)] [.int 0, .ref 103, .ref 46] ((fun _ => false, 0, 0, true, false, ad), (zI_402 xs), (fun _ _ => 0))
  refine mm_el (c := (4 : Int32) ≤ 0) (d := ¬ (4 : Int32) ≤ 0) (by decide) ?_
  show mm_b _ _ _ _ _ [some (.ref 46)] [.ref 103, .ref 46] ((fun _ => false, 0, 0, true, false, ad), (zI_402 xs), (fun _ _ => 0))
  refine mm_iv 600 (by rfl) ?_
  show mm_k _ _ _ _ _ [some (.ref 46), some (.ref 103), some (.int 1), some (.int 5)] [] ((fun _ => false, 0, 0, true, false, ad), (zI_402 xs), (fun _ _ => 0))
  refine mm_iv 600 (by rfl) ?_
  show mm_k _ _ _ _ _ [some (.ref 46), some (.ref 103), none, none] [] ((fun _ => false, 0, 0, true, false, ad), (zI_402 xs), (fun _ _ => 0))
  refine mm_el (c := ¬ (0 : Int32) = 0) (d := (0 : Int32) = 0) (by decide) ?_
  show mm_b _ _ _ _ _ [some (.ref 46), some (.ref 103), none, none] [] ((fun _ => false, 0, 0, true, false, ad), (zI_402 xs), (fun _ _ => 0))
  refine mm_tk (c := ¬ (0 : Int32) = 2) (d := (0 : Int32) = 2) (by decide) ?_
  show mm_u _ _ _ _ _ _ [some (.ref 46), some (.ref 103), none, none] [] ((fun _ => false, 0, 0, true, false, ad), (zI_402 xs), (fun _ _ => 0))
  refine mm_ob (P := (0 : Int32) = 0 ∨ (0 : Int32) = 1) (by decide) ?_
  refine mm_q1 (r := 0) ⟨rfl, ?_⟩
  show mm_b _ _ _ _ _ [some (.ref 46), some (.ref 103), some (.int 1), some (.int 5)] [.int 0] ((fun _ => false, 0, 0, true, false, ad), (zI_402 xs), (fun _ _ => 0))
  refine mm_el (c := ¬ (0 : Int32) = 0) (d := (0 : Int32) = 0) (by decide) ?_
  show mm_b _ _ _ _ _ [some (.ref 46), some (.ref 103), some (.int 1), some (.int 5)] [] ((fun _ => false, 0, 0, true, false, ad), (zI_402 xs), (fun _ _ => 0))
  refine mm_ob (P := (0 : Int32) = 0 ∨ (0 : Int32) = 1) (by decide) ?_
  refine mm_q1 (r := 0) ⟨rfl, ?_⟩
  show mm_b _ _ _ _ _ [some (.ref 46)] [.int 0] ((fun _ => false, 0, 0, true, false, ad), (zI_402 xs), (fun _ _ => 0))
  refine mm_tk (c := (0 : Int32) = 0) (d := ¬ (0 : Int32) = 0) (by decide) ?_
  show mm_u _ _ _ _ _ _ [some (.ref 46)] [] ((fun _ => false, 0, 0, true, false, ad), (zI_402 xs), (fun _ _ => 0))
  refine mm_ob (P := vp_in 6 279) (mm_inl (by decide)) ?_
  show mm_b _ _ _ _ _ [some (.ref 46)] [.int 0, .ref 104, .ref 46] ((fun _ => false, 0, 0, true, false, ad), (zI_402 xs), (fun _ _ => 0))
  refine mm_el (c := (4 : Int32) ≤ 0) (d := ¬ (4 : Int32) ≤ 0) (by decide) ?_
  show mm_b _ _ _ _ _ [some (.ref 46)] [.ref 104, .ref 46] ((fun _ => false, 0, 0, true, false, ad), (zI_402 xs), (fun _ _ => 0))
  refine mm_iv 600 (by rfl) ?_
  show mm_k _ _ _ _ _ [some (.ref 46), some (.ref 104), some (.int 1), some (.int 5)] [] ((fun _ => false, 0, 0, true, false, ad), (zI_402 xs), (fun _ _ => 0))
  refine mm_iv 600 (by rfl) ?_
  show mm_k _ _ _ _ _ [some (.ref 46), some (.ref 104), none, none] [] ((fun _ => false, 0, 0, true, false, ad), (zI_402 xs), (fun _ _ => 0))
  refine mm_el (c := ¬ (0 : Int32) = 0) (d := (0 : Int32) = 0) (by decide) ?_
  show mm_b _ _ _ _ _ [some (.ref 46), some (.ref 104), none, none] [] ((fun _ => false, 0, 0, true, false, ad), (zI_402 xs), (fun _ _ => 0))
  refine mm_tk (c := ¬ (0 : Int32) = 2) (d := (0 : Int32) = 2) (by decide) ?_
  show mm_u _ _ _ _ _ _ [some (.ref 46), some (.ref 104), none, none] [] ((fun _ => false, 0, 0, true, false, ad), (zI_402 xs), (fun _ _ => 0))
  refine mm_ob (P := (0 : Int32) = 0 ∨ (0 : Int32) = 1) (by decide) ?_
  refine mm_q1 (r := 0) ⟨rfl, ?_⟩
  show mm_b _ _ _ _ _ [some (.ref 46), some (.ref 104), some (.int 1), some (.int 5)] [.int 0] ((fun _ => false, 0, 0, true, false, ad), (zI_402 xs), (fun _ _ => 0))
  refine mm_el (c := ¬ (0 : Int32) = 0) (d := (0 : Int32) = 0) (by decide) ?_
  show mm_b _ _ _ _ _ [some (.ref 46), some (.ref 104), some (.int 1), some (.int 5)] [] ((fun _ => false, 0, 0, true, false, ad), (zI_402 xs), (fun _ _ => 0))
  refine mm_ob (P := (0 : Int32) = 0 ∨ (0 : Int32) = 1) (by decide) ?_
  refine mm_q1 (r := 0) ⟨rfl, ?_⟩
  show mm_b _ _ _ _ _ [some (.ref 46)] [.int 0] ((fun _ => false, 0, 0, true, false, ad), (zI_402 xs), (fun _ _ => 0))
  refine mm_tk (c := (0 : Int32) = 0) (d := ¬ (0 : Int32) = 0) (by decide) ?_
  show mm_u _ _ _ _ _ _ [some (.ref 46)] [] ((fun _ => false, 0, 0, true, false, ad), (zI_402 xs), (fun _ _ => 0))
  refine mm_ob (P := vp_in 7 279) (mm_inl (by decide)) ?_
  show mm_b _ _ _ _ _ [some (.ref 46)] [.int 0, .ref 105, .ref 46] ((fun _ => false, 0, 0, true, false, ad), (zI_402 xs), (fun _ _ => 0))
  refine mm_el (c := ¬ (0 : Int32) = 0) (d := (0 : Int32) = 0) (by decide) ?_
  show mm_b _ _ _ _ _ [some (.ref 46)] [.ref 105, .ref 46] ((fun _ => false, 0, 0, true, false, ad), (zI_402 xs), (fun _ _ => 0))
  refine mm_iv 600 (by rfl) ?_
  show mm_k _ _ _ _ _ [some (.ref 46), some (.ref 105), some (.int 1), some (.int 3)] [] ((fun _ => false, 0, 0, true, false, ad), (zI_402 xs), (fun _ _ => 0))
  refine mm_iv 600 (by rfl) ?_
  show mm_k _ _ _ _ _ [some (.ref 46), some (.ref 105), none, none] [] ((fun _ => false, 0, 0, true, false, ad), (zI_402 xs), (fun _ _ => 0))
  refine mm_el (c := ¬ (0 : Int32) = 0) (d := (0 : Int32) = 0) (by decide) ?_
  show mm_b _ _ _ _ _ [some (.ref 46), some (.ref 105), none, none] [] ((fun _ => false, 0, 0, true, false, ad), (zI_402 xs), (fun _ _ => 0))
  refine mm_tk (c := ¬ (0 : Int32) = 2) (d := (0 : Int32) = 2) (by decide) ?_
  show mm_u _ _ _ _ _ _ [some (.ref 46), some (.ref 105), none, none] [] ((fun _ => false, 0, 0, true, false, ad), (zI_402 xs), (fun _ _ => 0))
  refine mm_ob (P := (0 : Int32) = 0 ∨ (0 : Int32) = 1) (by decide) ?_
  refine mm_q1 (r := 0) ⟨rfl, ?_⟩
  show mm_b _ _ _ _ _ [some (.ref 46), some (.ref 105), some (.int 1), some (.int 3)] [.int 0] ((fun _ => false, 0, 0, true, false, ad), (zI_402 xs), (fun _ _ => 0))
  refine mm_el (c := ¬ (0 : Int32) = 0) (d := (0 : Int32) = 0) (by decide) ?_
  show mm_b _ _ _ _ _ [some (.ref 46), some (.ref 105), some (.int 1), some (.int 3)] [] ((fun _ => false, 0, 0, true, false, ad), (zI_402 xs), (fun _ _ => 0))
  refine mm_ob (P := (0 : Int32) = 0 ∨ (0 : Int32) = 1) (by decide) ?_
  refine mm_q1 (r := 0) ⟨rfl, ?_⟩
  show mm_b _ _ _ _ _ [some (.ref 46)] [.int 0] ((fun _ => false, 0, 0, true, false, ad), (zI_402 xs), (fun _ _ => 0))
  refine mm_tk (c := (0 : Int32) = 0) (d := ¬ (0 : Int32) = 0) (by decide) ?_
  show mm_u _ _ _ _ _ _ [some (.ref 46)] [] ((fun _ => false, 0, 0, true, false, ad), (zI_402 xs), (fun _ _ => 0))
  refine mm_ob (P := vp_in 8 279) (mm_inl (by decide)) ?_
  show mm_b _ _ _ _ _ [some (.ref 46)] [.int 0, .ref 106, .ref 46] ((fun _ => false, 0, 0, true, false, ad), (zI_402 xs), (fun _ _ => 0))
  refine mm_el (c := ¬ (0 : Int32) = 0) (d := (0 : Int32) = 0) (by decide) ?_
  show mm_b _ _ _ _ _ [some (.ref 46)] [.ref 106, .ref 46] ((fun _ => false, 0, 0, true, false, ad), (zI_402 xs), (fun _ _ => 0))
  refine mm_iv 600 (by rfl) ?_
  show mm_k _ _ _ _ _ [some (.ref 46), some (.ref 106), some (.int 1), some (.int 3)] [] ((fun _ => false, 0, 0, true, false, ad), (zI_402 xs), (fun _ _ => 0))
  refine mm_iv 600 (by rfl) ?_
  show mm_k _ _ _ _ _ [some (.ref 46), some (.ref 106), none, none] [] ((fun _ => false, 0, 0, true, false, ad), (zI_402 xs), (fun _ _ => 0))
  refine mm_el (c := ¬ (0 : Int32) = 0) (d := (0 : Int32) = 0) (by decide) ?_
  show mm_b _ _ _ _ _ [some (.ref 46), some (.ref 106), none, none] [] ((fun _ => false, 0, 0, true, false, ad), (zI_402 xs), (fun _ _ => 0))
  refine mm_tk (c := ¬ (0 : Int32) = 2) (d := (0 : Int32) = 2) (by decide) ?_
  show mm_u _ _ _ _ _ _ [some (.ref 46), some (.ref 106), none, none] [] ((fun _ => false, 0, 0, true, false, ad), (zI_402 xs), (fun _ _ => 0))
  refine mm_ob (P := (0 : Int32) = 0 ∨ (0 : Int32) = 1) (by decide) ?_
  refine mm_q1 (r := 0) ⟨rfl, ?_⟩
  show mm_b _ _ _ _ _ [some (.ref 46), some (.ref 106), some (.int 1), some (.int 3)] [.int 0] ((fun _ => false, 0, 0, true, false, ad), (zI_402 xs), (fun _ _ => 0))
  refine mm_el (c := ¬ (0 : Int32) = 0) (d := (0 : Int32) = 0) (by decide) ?_
  show mm_b _ _ _ _ _ [some (.ref 46), some (.ref 106), some (.int 1), some (.int 3)] [] ((fun _ => false, 0, 0, true, false, ad), (zI_402 xs), (fun _ _ => 0))
  refine mm_ob (P := (0 : Int32) = 0 ∨ (0 : Int32) = 1) (by decide) ?_
  refine mm_q1 (r := 0) ⟨rfl, ?_⟩
  show mm_b _ _ _ _ _ [some (.ref 46)] [.int 0] ((fun _ => false, 0, 0, true, false, ad), (zI_402 xs), (fun _ _ => 0))
  refine mm_tk (c := (0 : Int32) = 0) (d := ¬ (0 : Int32) = 0) (by decide) ?_
  show mm_u _ _ _ _ _ _ [some (.ref 46)] [] ((fun _ => false, 0, 0, true, false, ad), (zI_402 xs), (fun _ _ => 0))
  refine mm_iv 600 (by rfl) ?_
  show mm_k _ _ _ _ _ [some (.ref 46), some (.int 1), some (.int 0)] [] ((fun _ => false, 0, 0, true, false, ad), (zI_402 xs), (fun _ _ => 0))
  refine mm_tk (c := (0 : Int32) = 0) (d := ¬ (0 : Int32) = 0) (by decide) ?_
  show mm_u _ _ _ _ _ _ [some (.ref 46), some (.int 1), some (.int 0)] [] ((fun _ => false, 0, 0, true, false, ad), (zI_402 xs), (fun _ _ => 0))
  refine mm_ob (P := (1 : Int32) = 0 ∨ (1 : Int32) = 1) (by decide) ?_
  refine mm_q0 ⟨rfl, ?_⟩
  show mm_b _ _ _ _ _ [some (.ref 46)] [] ((fun _ => false, 0, 0, true, false, ad), (zI_405 xs), (fun _ _ => 0))
  refine mm_q0 ⟨rfl, ?_⟩
  show mm_b _ _ _ _ _ [some (.ref 46), some (.int 0), none] [] ((fun _ => false, 0, 0, true, false, ad), (zI_405 xs), (fun _ _ => 0))
  refine mm_tk (c := ¬ (1 : Int32) = 0) (d := (1 : Int32) = 0) (by decide) ?_
  show mm_u _ _ _ _ _ _ [some (.ref 46), none, none] [] ((fun _ => false, 0, 0, true, false, ad), (zI_405 xs), (fun _ _ => 0))
  refine mm_tk (c := ¬ (1 : Int32) = 0) (d := (1 : Int32) = 0) (by decide) ?_
  show mm_u _ _ _ _ _ _ [some (.ref 46), none, none] [] ((fun _ => false, 0, 0, true, false, ad), (zI_405 xs), (fun _ _ => 0))
  refine mm_tk (c := ¬ (1 : Int32) = 0) (d := (1 : Int32) = 0) (by decide) ?_
  show mm_u _ _ _ _ _ _ [some (.ref 46), none, none] [] ((fun _ => false, 0, 0, true, false, ad), (zI_405 xs), (fun _ _ => 0))
  refine mm_el (c := (1 : Int32) = 0) (d := ¬ (1 : Int32) = 0) (by decide) ?_
  show mm_b _ _ _ _ _ [some (.ref 46), none, none] [] ((fun _ => false, 0, 0, true, false, ad), (zI_405 xs), (fun _ _ => 0))
  refine mm_iv 600 (by rfl) ?_
  show mm_k _ _ _ _ _ [some (.ref 46), some (.int 4)] [] ((fun _ => false, 0, 0, true, false, ad), (zI_405 xs), (fun _ _ => 0))
  refine mm_q1 (r := (-1)) ⟨rfl, ?_⟩
  show mm_b _ _ _ _ _ [some (.ref 46), none, none] [.int (-1)] ((fun _ => false, 0, 0, true, false, ad), (zI_406 xs), (fun _ _ => 0))
  refine mm_q1 (r := (-1)) ?_
  show mm_b _ _ _ _ _ [some (.ref 68), some (.ref 0), some (.ref 46), some (.ref 65), some (.int 0), none, none] [.int (-1), .int (-1)] ((fun _ => false, 599936, 6869426, true, false, ad), (zI_406 xs), (fun _ _ => 0))
  refine mm_tk (c := ((-1) : Int32) = (-1)) (d := ¬ ((-1) : Int32) = (-1)) (by decide) ?_
  show mm_u _ _ _ _ _ _ [some (.ref 68), some (.ref 0), some (.ref 46), some (.ref 65), some (.int 0), none, none] [] ((fun _ => false, 599936, 6869426, true, false, ad), (zI_406 xs), (fun _ _ => 0))
  refine mm_tk (c := (((nI 6) - 6) : Int32) < 6) (d := ¬ (((nI 6) - 6) : Int32) < 6) (by decide) ?_
  show mm_u _ _ _ _ _ _ [some (.ref 68), some (.ref 0), some (.ref 46), some (.ref 65), some (.int 6), none, none] [] ((fun _ => false, 599936, 6869426, true, false, ad), (zI_406 xs), (fun _ _ => 0))
  refine mm_ob (P := (1 : Int32) = 0 ∨ (1 : Int32) = 1) (by decide) ?_
  exact rfl
