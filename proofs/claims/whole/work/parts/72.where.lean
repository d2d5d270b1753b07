/-! where the objects and rows lie, and how long they are -/
theorem ll_2 : xl xS0 2 = 8 := by decide +kernel
theorem ll_5 : xl xS0 5 = 12 := by decide +kernel
theorem ll_43 : xl xS0 43 = 72 := by decide +kernel
theorem ll_44 : xl xS0 44 = 32 := by decide +kernel
theorem ll_45 : xl xS0 45 = 8 := by decide +kernel
theorem ll_46 : xl xS0 46 = 64 := by decide +kernel
theorem ll_47 : xl xS0 47 = 64 := by decide +kernel
theorem ll_193 : xl xS0 193 = 200 := by decide +kernel
theorem ll_196 : xl xS0 196 = 16 := by decide +kernel
theorem ll_197 : xl xS0 197 = 16 := by decide +kernel
theorem ll_198 : xl xS0 198 = 16 := by decide +kernel
theorem ll_199 : xl xS0 199 = 16 := by decide +kernel
theorem ll_200 : xl xS0 200 = 16 := by decide +kernel
theorem ll_201 : xl xS0 201 = 16 := by decide +kernel
theorem ll_205 : xl xS0 205 = 4000 := by decide +kernel
theorem ll_206 : xl xS0 206 = 2000 := by decide +kernel
theorem ll_208 : xl xS0 208 = 2000 := by decide +kernel
theorem ll_209 : xl xS0 209 = 2000 := by decide +kernel
theorem ll_210 : xl xS0 210 = 2000 := by decide +kernel
theorem ll_211 : xl xS0 211 = 2000 := by decide +kernel
theorem ll_213 : xl xS0 213 = 64 := by decide +kernel
theorem ll_214 : xl xS0 214 = 256 := by decide +kernel
theorem ll_215 : xl xS0 215 = 64 := by decide +kernel
theorem ll_216 : xl xS0 216 = 64 := by decide +kernel
theorem ll_218 : xl xS0 218 = 2000 := by decide +kernel
theorem ll_219 : xl xS0 219 = 150 := by decide +kernel
theorem ll_221 : xl xS0 221 = 2000 := by decide +kernel
theorem ll_223 : xl xS0 223 = 6 := by decide +kernel
theorem ll_225 : xl xS0 225 = 2400 := by decide +kernel
theorem ll_226 : xl xS0 226 = 2400 := by decide +kernel
theorem ll_227 : xl xS0 227 = 2400 := by decide +kernel
theorem ll_228 : xl xS0 228 = 2400 := by decide +kernel
theorem ll_229 : xl xS0 229 = 13 := by decide +kernel
theorem ll_230 : xl xS0 230 = 4096 := by decide +kernel
theorem ll_231 : xl xS0 231 = 2000 := by decide +kernel
theorem ll_232 : xl xS0 232 = 2400 := by decide +kernel
theorem ll_233 : xl xS0 233 = 1664 := by decide +kernel
theorem ll_234 : xl xS0 234 = 128 := by decide +kernel
theorem ll_235 : xl xS0 235 = 128 := by decide +kernel
theorem ll_236 : xl xS0 236 = 128 := by decide +kernel
theorem ll_237 : xl xS0 237 = 128 := by decide +kernel
theorem ll_238 : xl xS0 238 = 4 := by decide +kernel
theorem ll_239 : xl xS0 239 = 64 := by decide +kernel
theorem ll_242 : xl xS0 242 = 64 := by decide +kernel
theorem ll_243 : xl xS0 243 = 256 := by decide +kernel
theorem ll_244 : xl xS0 244 = 12 := by decide +kernel
theorem ll_245 : xl xS0 245 = 768 := by decide +kernel
theorem ll_246 : xl xS0 246 = 3072 := by decide +kernel
theorem ll_247 : xl xS0 247 = 92800 := by decide +kernel
theorem ll_248 : xl xS0 248 = 92800 := by decide +kernel
theorem ll_249 : xl xS0 249 = 92800 := by decide +kernel
theorem ll_250 : xl xS0 250 = 92800 := by decide +kernel
theorem ll_251 : xl xS0 251 = 92800 := by decide +kernel
theorem ll_252 : xl xS0 252 = 200 := by decide +kernel
theorem ll_253 : xl xS0 253 = 20000 := by decide +kernel
theorem ll_255 : xl xS0 255 = 64 := by decide +kernel
theorem ll_256 : xl xS0 256 = 256 := by decide +kernel
theorem ll_257 : xl xS0 257 = 8 := by decide +kernel
theorem ll_258 : xl xS0 258 = 64 := by decide +kernel
theorem ll_259 : xl xS0 259 = 32 := by decide +kernel
theorem ll_260 : xl xS0 260 = 8 := by decide +kernel
theorem ll_261 : xl xS0 261 = 64 := by decide +kernel
theorem ll_262 : xl xS0 262 = 64 := by decide +kernel
theorem ll_263 : xl xS0 263 = 64 := by decide +kernel
theorem ll_264 : xl xS0 264 = 64 := by decide +kernel
theorem ll_265 : xl xS0 265 = 64 := by decide +kernel
theorem ll_266 : xl xS0 266 = 64 := by decide +kernel
theorem ll_267 : xl xS0 267 = 2100 := by decide +kernel
theorem ll_268 : xl xS0 268 = 8192 := by decide +kernel
theorem ll_269 : xl xS0 269 = 8192 := by decide +kernel
theorem ll_270 : xl xS0 270 = 8192 := by decide +kernel
theorem ll_271 : xl xS0 271 = 8192 := by decide +kernel
theorem ll_272 : xl xS0 272 = 8000 := by decide +kernel
theorem rr_0_0 : xr xS0 0 0 = 1 := by decide +kernel
theorem rr_0_1 : xr xS0 0 1 = 4 := by decide +kernel
theorem rr_0_2 : xr xS0 0 2 = 42 := by decide +kernel
theorem rr_0_3 : xr xS0 0 3 = 192 := by decide +kernel
theorem rr_0_4 : xr xS0 0 4 = 202 := by decide +kernel
theorem rr_0_5 : xr xS0 0 5 = 204 := by decide +kernel
theorem rr_0_6 : xr xS0 0 6 = 207 := by decide +kernel
theorem rr_0_7 : xr xS0 0 7 = 212 := by decide +kernel
theorem rr_0_8 : xr xS0 0 8 = 217 := by decide +kernel
theorem rr_0_9 : xr xS0 0 9 = 222 := by decide +kernel
theorem rr_0_10 : xr xS0 0 10 = 239 := by decide +kernel
theorem rr_0_11 : xr xS0 0 11 = 240 := by decide +kernel
theorem rr_1_1 : xr xS0 1 1 = 2 := by decide +kernel
theorem rr_4_0 : xr xS0 4 0 = 5 := by decide +kernel
theorem rr_42_1 : xr xS0 42 1 = 43 := by decide +kernel
theorem rr_42_2 : xr xS0 42 2 = 44 := by decide +kernel
theorem rr_42_3 : xr xS0 42 3 = 45 := by decide +kernel
theorem rr_42_4 : xr xS0 42 4 = 46 := by decide +kernel
theorem rr_42_5 : xr xS0 42 5 = 47 := by decide +kernel
theorem rr_192_0 : xr xS0 192 0 = 193 := by decide +kernel
theorem rr_192_2 : xr xS0 192 2 = 194 := by decide +kernel
theorem rr_192_3 : xr xS0 192 3 = 196 := by decide +kernel
theorem rr_192_4 : xr xS0 192 4 = 197 := by decide +kernel
theorem rr_192_5 : xr xS0 192 5 = 198 := by decide +kernel
theorem rr_192_6 : xr xS0 192 6 = 199 := by decide +kernel
theorem rr_192_7 : xr xS0 192 7 = 200 := by decide +kernel
theorem rr_192_8 : xr xS0 192 8 = 201 := by decide +kernel
theorem rr_204_0 : xr xS0 204 0 = 205 := by decide +kernel
theorem rr_204_2 : xr xS0 204 2 = 206 := by decide +kernel
theorem rr_207_0 : xr xS0 207 0 = 208 := by decide +kernel
theorem rr_207_1 : xr xS0 207 1 = 209 := by decide +kernel
theorem rr_207_2 : xr xS0 207 2 = 210 := by decide +kernel
theorem rr_207_3 : xr xS0 207 3 = 211 := by decide +kernel
theorem rr_212_0 : xr xS0 212 0 = 213 := by decide +kernel
theorem rr_212_1 : xr xS0 212 1 = 214 := by decide +kernel
theorem rr_212_2 : xr xS0 212 2 = 215 := by decide +kernel
theorem rr_212_3 : xr xS0 212 3 = 216 := by decide +kernel
theorem rr_217_0 : xr xS0 217 0 = 218 := by decide +kernel
theorem rr_217_1 : xr xS0 217 1 = 219 := by decide +kernel
theorem rr_217_2 : xr xS0 217 2 = 220 := by decide +kernel
theorem rr_220_0 : xr xS0 220 0 = 221 := by decide +kernel
theorem rr_222_0 : xr xS0 222 0 = 223 := by decide +kernel
theorem rr_222_1 : xr xS0 222 1 = 224 := by decide +kernel
theorem rr_222_2 : xr xS0 222 2 = 232 := by decide +kernel
theorem rr_222_3 : xr xS0 222 3 = 233 := by decide +kernel
theorem rr_222_4 : xr xS0 222 4 = 234 := by decide +kernel
theorem rr_222_5 : xr xS0 222 5 = 235 := by decide +kernel
theorem rr_222_6 : xr xS0 222 6 = 236 := by decide +kernel
theorem rr_222_7 : xr xS0 222 7 = 237 := by decide +kernel
theorem rr_222_8 : xr xS0 222 8 = 238 := by decide +kernel
theorem rr_224_0 : xr xS0 224 0 = 225 := by decide +kernel
theorem rr_224_1 : xr xS0 224 1 = 226 := by decide +kernel
theorem rr_224_2 : xr xS0 224 2 = 227 := by decide +kernel
theorem rr_224_3 : xr xS0 224 3 = 228 := by decide +kernel
theorem rr_224_4 : xr xS0 224 4 = 229 := by decide +kernel
theorem rr_224_5 : xr xS0 224 5 = 230 := by decide +kernel
theorem rr_224_6 : xr xS0 224 6 = 231 := by decide +kernel
theorem rr_241_2 : xr xS0 241 2 = 242 := by decide +kernel
theorem rr_241_3 : xr xS0 241 3 = 243 := by decide +kernel
theorem rr_241_4 : xr xS0 241 4 = 244 := by decide +kernel
theorem rr_241_5 : xr xS0 241 5 = 245 := by decide +kernel
theorem rr_241_6 : xr xS0 241 6 = 246 := by decide +kernel
theorem rr_241_8 : xr xS0 241 8 = 247 := by decide +kernel
theorem rr_241_9 : xr xS0 241 9 = 248 := by decide +kernel
theorem rr_241_10 : xr xS0 241 10 = 249 := by decide +kernel
theorem rr_241_11 : xr xS0 241 11 = 250 := by decide +kernel
theorem rr_241_12 : xr xS0 241 12 = 251 := by decide +kernel
theorem rr_241_15 : xr xS0 241 15 = 252 := by decide +kernel
theorem rr_241_20 : xr xS0 241 20 = 253 := by decide +kernel
theorem rr_241_22 : xr xS0 241 22 = 254 := by decide +kernel
theorem rr_241_23 : xr xS0 241 23 = 255 := by decide +kernel
theorem rr_241_24 : xr xS0 241 24 = 256 := by decide +kernel
theorem rr_241_26 : xr xS0 241 26 = 257 := by decide +kernel
theorem rr_241_27 : xr xS0 241 27 = 258 := by decide +kernel
theorem rr_241_28 : xr xS0 241 28 = 259 := by decide +kernel
theorem rr_241_29 : xr xS0 241 29 = 260 := by decide +kernel
theorem rr_241_30 : xr xS0 241 30 = 261 := by decide +kernel
theorem rr_241_31 : xr xS0 241 31 = 262 := by decide +kernel
theorem rr_241_32 : xr xS0 241 32 = 263 := by decide +kernel
theorem rr_241_33 : xr xS0 241 33 = 264 := by decide +kernel
theorem rr_241_34 : xr xS0 241 34 = 265 := by decide +kernel
theorem rr_241_35 : xr xS0 241 35 = 266 := by decide +kernel
theorem rr_241_37 : xr xS0 241 37 = 267 := by decide +kernel
theorem rr_241_39 : xr xS0 241 39 = 268 := by decide +kernel
theorem rr_241_40 : xr xS0 241 40 = 269 := by decide +kernel
theorem rr_241_41 : xr xS0 241 41 = 270 := by decide +kernel
theorem rr_241_42 : xr xS0 241 42 = 271 := by decide +kernel
theorem rr_241_43 : xr xS0 241 43 = 272 := by decide +kernel
