def bdX12_holds_204 : ByteArray := .mk #[42, 89, 180, 1, 18, 4, 96, 181, 1, 18, 132, 5, 3, 167, 0, 140, 21, 6, 7, 160, 0, 39, 42, 180, 0, 52, 42, 180, 1, 18, 4]
theorem wdX12_holds_204 : LocW cX12_holds 204 bdX12_holds_204 := loc_of (by decide +kernel)
theorem adX12_holds_204 : De bdX12_holds_204 0 (.aload_n 0) 1 ∧ De bdX12_holds_204 1 (.dup) 1 ∧ De bdX12_holds_204 2 (.getfield 274) 3 ∧ De bdX12_holds_204 5 (.iconst 1) 1 ∧ De bdX12_holds_204 6 (.iadd) 1 ∧ De bdX12_holds_204 7 (.putfield 274) 3 ∧ De bdX12_holds_204 10 (.iinc 5 3) 3 ∧ De bdX12_holds_204 13 (.goto 140) 3 ∧ De bdX12_holds_204 16 (.iload 6) 2 ∧ De bdX12_holds_204 18 (.iconst 4) 1 ∧ De bdX12_holds_204 19 (.if_icmp .ne 39) 3 ∧ De bdX12_holds_204 22 (.aload_n 0) 1 ∧ De bdX12_holds_204 23 (.getfield 52) 3 ∧ De bdX12_holds_204 26 (.aload_n 0) 1 ∧ De bdX12_holds_204 27 (.getfield 274) 3 ∧ De bdX12_holds_204 30 (.iconst 1) 1 := by decide +kernel
theorem dX12_holds_204 : decode cX12_holds 204 = .ok (.aload_n 0, 1) := dAt wdX12_holds_204 adX12_holds_204.1 rfl
theorem dX12_holds_205 : decode cX12_holds 205 = .ok (.dup, 1) := dAt wdX12_holds_204 adX12_holds_204.2.1 rfl
theorem dX12_holds_206 : decode cX12_holds 206 = .ok (.getfield 274, 3) := dAt wdX12_holds_204 adX12_holds_204.2.2.1 rfl
theorem dX12_holds_209 : decode cX12_holds 209 = .ok (.iconst 1, 1) := dAt wdX12_holds_204 adX12_holds_204.2.2.2.1 rfl
theorem dX12_holds_210 : decode cX12_holds 210 = .ok (.iadd, 1) := dAt wdX12_holds_204 adX12_holds_204.2.2.2.2.1 rfl
theorem dX12_holds_211 : decode cX12_holds 211 = .ok (.putfield 274, 3) := dAt wdX12_holds_204 adX12_holds_204.2.2.2.2.2.1 rfl
theorem dX12_holds_214 : decode cX12_holds 214 = .ok (.iinc 5 3, 3) := dAt wdX12_holds_204 adX12_holds_204.2.2.2.2.2.2.1 rfl
theorem dX12_holds_217 : decode cX12_holds 217 = .ok (.goto 140, 3) := dAt wdX12_holds_204 adX12_holds_204.2.2.2.2.2.2.2.1 rfl
theorem dX12_holds_220 : decode cX12_holds 220 = .ok (.iload 6, 2) := dAt wdX12_holds_204 adX12_holds_204.2.2.2.2.2.2.2.2.1 rfl
theorem dX12_holds_222 : decode cX12_holds 222 = .ok (.iconst 4, 1) := dAt wdX12_holds_204 adX12_holds_204.2.2.2.2.2.2.2.2.2.1 rfl
theorem dX12_holds_223 : decode cX12_holds 223 = .ok (.if_icmp .ne 39, 3) := dAt wdX12_holds_204 adX12_holds_204.2.2.2.2.2.2.2.2.2.2.1 rfl
theorem dX12_holds_226 : decode cX12_holds 226 = .ok (.aload_n 0, 1) := dAt wdX12_holds_204 adX12_holds_204.2.2.2.2.2.2.2.2.2.2.2.1 rfl
theorem dX12_holds_227 : decode cX12_holds 227 = .ok (.getfield 52, 3) := dAt wdX12_holds_204 adX12_holds_204.2.2.2.2.2.2.2.2.2.2.2.2.1 rfl
theorem dX12_holds_230 : decode cX12_holds 230 = .ok (.aload_n 0, 1) := dAt wdX12_holds_204 adX12_holds_204.2.2.2.2.2.2.2.2.2.2.2.2.2.1 rfl
theorem dX12_holds_231 : decode cX12_holds 231 = .ok (.getfield 274, 3) := dAt wdX12_holds_204 adX12_holds_204.2.2.2.2.2.2.2.2.2.2.2.2.2.2.1 rfl
theorem dX12_holds_234 : decode cX12_holds 234 = .ok (.iconst 1, 1) := dAt wdX12_holds_204 adX12_holds_204.2.2.2.2.2.2.2.2.2.2.2.2.2.2.2 rfl
def bdX12_holds_235 : ByteArray := .mk #[100, 42, 180, 0, 52, 42, 180, 1, 18, 4, 100, 51, 154, 0, 7, 4, 167, 0, 4, 3, 84, 132, 5, 1, 167, 0, 98, 42]
theorem wdX12_holds_235 : LocW cX12_holds 235 bdX12_holds_235 := loc_of (by decide +kernel)
theorem adX12_holds_235 : De bdX12_holds_235 0 (.isub) 1 ∧ De bdX12_holds_235 1 (.aload_n 0) 1 ∧ De bdX12_holds_235 2 (.getfield 52) 3 ∧ De bdX12_holds_235 5 (.aload_n 0) 1 ∧ De bdX12_holds_235 6 (.getfield 274) 3 ∧ De bdX12_holds_235 9 (.iconst 1) 1 ∧ De bdX12_holds_235 10 (.isub) 1 ∧ De bdX12_holds_235 11 (.baload) 1 ∧ De bdX12_holds_235 12 (.ifCond .ne 7) 3 ∧ De bdX12_holds_235 15 (.iconst 1) 1 ∧ De bdX12_holds_235 16 (.goto 4) 3 ∧ De bdX12_holds_235 19 (.iconst 0) 1 ∧ De bdX12_holds_235 20 (.bastore) 1 ∧ De bdX12_holds_235 21 (.iinc 5 1) 3 ∧ De bdX12_holds_235 24 (.goto 98) 3 ∧ De bdX12_holds_235 27 (.aload_n 0) 1 := by decide +kernel
theorem dX12_holds_235 : decode cX12_holds 235 = .ok (.isub, 1) := dAt wdX12_holds_235 adX12_holds_235.1 rfl
theorem dX12_holds_236 : decode cX12_holds 236 = .ok (.aload_n 0, 1) := dAt wdX12_holds_235 adX12_holds_235.2.1 rfl
theorem dX12_holds_237 : decode cX12_holds 237 = .ok (.getfield 52, 3) := dAt wdX12_holds_235 adX12_holds_235.2.2.1 rfl
theorem dX12_holds_240 : decode cX12_holds 240 = .ok (.aload_n 0, 1) := dAt wdX12_holds_235 adX12_holds_235.2.2.2.1 rfl
theorem dX12_holds_241 : decode cX12_holds 241 = .ok (.getfield 274, 3) := dAt wdX12_holds_235 adX12_holds_235.2.2.2.2.1 rfl
theorem dX12_holds_244 : decode cX12_holds 244 = .ok (.iconst 1, 1) := dAt wdX12_holds_235 adX12_holds_235.2.2.2.2.2.1 rfl
theorem dX12_holds_245 : decode cX12_holds 245 = .ok (.isub, 1) := dAt wdX12_holds_235 adX12_holds_235.2.2.2.2.2.2.1 rfl
theorem dX12_holds_246 : decode cX12_holds 246 = .ok (.baload, 1) := dAt wdX12_holds_235 adX12_holds_235.2.2.2.2.2.2.2.1 rfl
theorem dX12_holds_247 : decode cX12_holds 247 = .ok (.ifCond .ne 7, 3) := dAt wdX12_holds_235 adX12_holds_235.2.2.2.2.2.2.2.2.1 rfl
theorem dX12_holds_250 : decode cX12_holds 250 = .ok (.iconst 1, 1) := dAt wdX12_holds_235 adX12_holds_235.2.2.2.2.2.2.2.2.2.1 rfl
theorem dX12_holds_251 : decode cX12_holds 251 = .ok (.goto 4, 3) := dAt wdX12_holds_235 adX12_holds_235.2.2.2.2.2.2.2.2.2.2.1 rfl
theorem dX12_holds_254 : decode cX12_holds 254 = .ok (.iconst 0, 1) := dAt wdX12_holds_235 adX12_holds_235.2.2.2.2.2.2.2.2.2.2.2.1 rfl
theorem dX12_holds_255 : decode cX12_holds 255 = .ok (.bastore, 1) := dAt wdX12_holds_235 adX12_holds_235.2.2.2.2.2.2.2.2.2.2.2.2.1 rfl
theorem dX12_holds_256 : decode cX12_holds 256 = .ok (.iinc 5 1, 3) := dAt wdX12_holds_235 adX12_holds_235.2.2.2.2.2.2.2.2.2.2.2.2.2.1 rfl
theorem dX12_holds_259 : decode cX12_holds 259 = .ok (.goto 98, 3) := dAt wdX12_holds_235 adX12_holds_235.2.2.2.2.2.2.2.2.2.2.2.2.2.2.1 rfl
theorem dX12_holds_262 : decode cX12_holds 262 = .ok (.aload_n 0, 1) := dAt wdX12_holds_235 adX12_holds_235.2.2.2.2.2.2.2.2.2.2.2.2.2.2.2 rfl
def bdX12_holds_263 : ByteArray := .mk #[89, 180, 1, 18, 4, 100, 181, 1, 18, 42, 180, 0, 52, 42, 180, 1, 18, 4, 100, 21, 6, 8, 160, 0, 37, 42, 180, 0, 52]
theorem wdX12_holds_263 : LocW cX12_holds 263 bdX12_holds_263 := loc_of (by decide +kernel)
theorem adX12_holds_263 : De bdX12_holds_263 0 (.dup) 1 ∧ De bdX12_holds_263 1 (.getfield 274) 3 ∧ De bdX12_holds_263 4 (.iconst 1) 1 ∧ De bdX12_holds_263 5 (.isub) 1 ∧ De bdX12_holds_263 6 (.putfield 274) 3 ∧ De bdX12_holds_263 9 (.aload_n 0) 1 ∧ De bdX12_holds_263 10 (.getfield 52) 3 ∧ De bdX12_holds_263 13 (.aload_n 0) 1 ∧ De bdX12_holds_263 14 (.getfield 274) 3 ∧ De bdX12_holds_263 17 (.iconst 1) 1 ∧ De bdX12_holds_263 18 (.isub) 1 ∧ De bdX12_holds_263 19 (.iload 6) 2 ∧ De bdX12_holds_263 21 (.iconst 5) 1 ∧ De bdX12_holds_263 22 (.if_icmp .ne 37) 3 ∧ De bdX12_holds_263 25 (.aload_n 0) 1 ∧ De bdX12_holds_263 26 (.getfield 52) 3 := by decide +kernel
theorem dX12_holds_263 : decode cX12_holds 263 = .ok (.dup, 1) := dAt wdX12_holds_263 adX12_holds_263.1 rfl
theorem dX12_holds_264 : decode cX12_holds 264 = .ok (.getfield 274, 3) := dAt wdX12_holds_263 adX12_holds_263.2.1 rfl
theorem dX12_holds_267 : decode cX12_holds 267 = .ok (.iconst 1, 1) := dAt wdX12_holds_263 adX12_holds_263.2.2.1 rfl
theorem dX12_holds_268 : decode cX12_holds 268 = .ok (.isub, 1) := dAt wdX12_holds_263 adX12_holds_263.2.2.2.1 rfl
theorem dX12_holds_269 : decode cX12_holds 269 = .ok (.putfield 274, 3) := dAt wdX12_holds_263 adX12_holds_263.2.2.2.2.1 rfl
theorem dX12_holds_272 : decode cX12_holds 272 = .ok (.aload_n 0, 1) := dAt wdX12_holds_263 adX12_holds_263.2.2.2.2.2.1 rfl
theorem dX12_holds_273 : decode cX12_holds 273 = .ok (.getfield 52, 3) := dAt wdX12_holds_263 adX12_holds_263.2.2.2.2.2.2.1 rfl
theorem dX12_holds_276 : decode cX12_holds 276 = .ok (.aload_n 0, 1) := dAt wdX12_holds_263 adX12_holds_263.2.2.2.2.2.2.2.1 rfl
theorem dX12_holds_277 : decode cX12_holds 277 = .ok (.getfield 274, 3) := dAt wdX12_holds_263 adX12_holds_263.2.2.2.2.2.2.2.2.1 rfl
theorem dX12_holds_280 : decode cX12_holds 280 = .ok (.iconst 1, 1) := dAt wdX12_holds_263 adX12_holds_263.2.2.2.2.2.2.2.2.2.1 rfl
theorem dX12_holds_281 : decode cX12_holds 281 = .ok (.isub, 1) := dAt wdX12_holds_263 adX12_holds_263.2.2.2.2.2.2.2.2.2.2.1 rfl
theorem dX12_holds_282 : decode cX12_holds 282 = .ok (.iload 6, 2) := dAt wdX12_holds_263 adX12_holds_263.2.2.2.2.2.2.2.2.2.2.2.1 rfl
theorem dX12_holds_284 : decode cX12_holds 284 = .ok (.iconst 5, 1) := dAt wdX12_holds_263 adX12_holds_263.2.2.2.2.2.2.2.2.2.2.2.2.1 rfl
theorem dX12_holds_285 : decode cX12_holds 285 = .ok (.if_icmp .ne 37, 3) := dAt wdX12_holds_263 adX12_holds_263.2.2.2.2.2.2.2.2.2.2.2.2.2.1 rfl
theorem dX12_holds_288 : decode cX12_holds 288 = .ok (.aload_n 0, 1) := dAt wdX12_holds_263 adX12_holds_263.2.2.2.2.2.2.2.2.2.2.2.2.2.2.1 rfl
theorem dX12_holds_289 : decode cX12_holds 289 = .ok (.getfield 52, 3) := dAt wdX12_holds_263 adX12_holds_263.2.2.2.2.2.2.2.2.2.2.2.2.2.2.2 rfl
def bdX12_holds_292 : ByteArray := .mk #[42, 180, 1, 18, 4, 100, 51, 153, 0, 19, 42, 180, 0, 52, 42, 180, 1, 18, 51, 153, 0, 7, 4, 167, 0, 38, 3, 167, 0, 34]
theorem wdX12_holds_292 : LocW cX12_holds 292 bdX12_holds_292 := loc_of (by decide +kernel)
theorem adX12_holds_292 : De bdX12_holds_292 0 (.aload_n 0) 1 ∧ De bdX12_holds_292 1 (.getfield 274) 3 ∧ De bdX12_holds_292 4 (.iconst 1) 1 ∧ De bdX12_holds_292 5 (.isub) 1 ∧ De bdX12_holds_292 6 (.baload) 1 ∧ De bdX12_holds_292 7 (.ifCond .eq 19) 3 ∧ De bdX12_holds_292 10 (.aload_n 0) 1 ∧ De bdX12_holds_292 11 (.getfield 52) 3 ∧ De bdX12_holds_292 14 (.aload_n 0) 1 ∧ De bdX12_holds_292 15 (.getfield 274) 3 ∧ De bdX12_holds_292 18 (.baload) 1 ∧ De bdX12_holds_292 19 (.ifCond .eq 7) 3 ∧ De bdX12_holds_292 22 (.iconst 1) 1 ∧ De bdX12_holds_292 23 (.goto 38) 3 ∧ De bdX12_holds_292 26 (.iconst 0) 1 ∧ De bdX12_holds_292 27 (.goto 34) 3 := by decide +kernel
theorem dX12_holds_292 : decode cX12_holds 292 = .ok (.aload_n 0, 1) := dAt wdX12_holds_292 adX12_holds_292.1 rfl
theorem dX12_holds_293 : decode cX12_holds 293 = .ok (.getfield 274, 3) := dAt wdX12_holds_292 adX12_holds_292.2.1 rfl
theorem dX12_holds_296 : decode cX12_holds 296 = .ok (.iconst 1, 1) := dAt wdX12_holds_292 adX12_holds_292.2.2.1 rfl
theorem dX12_holds_297 : decode cX12_holds 297 = .ok (.isub, 1) := dAt wdX12_holds_292 adX12_holds_292.2.2.2.1 rfl
theorem dX12_holds_298 : decode cX12_holds 298 = .ok (.baload, 1) := dAt wdX12_holds_292 adX12_holds_292.2.2.2.2.1 rfl
theorem dX12_holds_299 : decode cX12_holds 299 = .ok (.ifCond .eq 19, 3) := dAt wdX12_holds_292 adX12_holds_292.2.2.2.2.2.1 rfl
theorem dX12_holds_302 : decode cX12_holds 302 = .ok (.aload_n 0, 1) := dAt wdX12_holds_292 adX12_holds_292.2.2.2.2.2.2.1 rfl
theorem dX12_holds_303 : decode cX12_holds 303 = .ok (.getfield 52, 3) := dAt wdX12_holds_292 adX12_holds_292.2.2.2.2.2.2.2.1 rfl
theorem dX12_holds_306 : decode cX12_holds 306 = .ok (.aload_n 0, 1) := dAt wdX12_holds_292 adX12_holds_292.2.2.2.2.2.2.2.2.1 rfl
theorem dX12_holds_307 : decode cX12_holds 307 = .ok (.getfield 274, 3) := dAt wdX12_holds_292 adX12_holds_292.2.2.2.2.2.2.2.2.2.1 rfl
theorem dX12_holds_310 : decode cX12_holds 310 = .ok (.baload, 1) := dAt wdX12_holds_292 adX12_holds_292.2.2.2.2.2.2.2.2.2.2.1 rfl
theorem dX12_holds_311 : decode cX12_holds 311 = .ok (.ifCond .eq 7, 3) := dAt wdX12_holds_292 adX12_holds_292.2.2.2.2.2.2.2.2.2.2.2.1 rfl
theorem dX12_holds_314 : decode cX12_holds 314 = .ok (.iconst 1, 1) := dAt wdX12_holds_292 adX12_holds_292.2.2.2.2.2.2.2.2.2.2.2.2.1 rfl
theorem dX12_holds_315 : decode cX12_holds 315 = .ok (.goto 38, 3) := dAt wdX12_holds_292 adX12_holds_292.2.2.2.2.2.2.2.2.2.2.2.2.2.1 rfl
theorem dX12_holds_318 : decode cX12_holds 318 = .ok (.iconst 0, 1) := dAt wdX12_holds_292 adX12_holds_292.2.2.2.2.2.2.2.2.2.2.2.2.2.2.1 rfl
theorem dX12_holds_319 : decode cX12_holds 319 = .ok (.goto 34, 3) := dAt wdX12_holds_292 adX12_holds_292.2.2.2.2.2.2.2.2.2.2.2.2.2.2.2 rfl
def bdX12_holds_322 : ByteArray := .mk #[42, 180, 0, 52, 42, 180, 1, 18, 4, 100, 51, 154, 0, 15, 42, 180, 0, 52, 42, 180, 1, 18, 51, 153, 0, 7, 4, 167, 0, 4]
theorem wdX12_holds_322 : LocW cX12_holds 322 bdX12_holds_322 := loc_of (by decide +kernel)
theorem adX12_holds_322 : De bdX12_holds_322 0 (.aload_n 0) 1 ∧ De bdX12_holds_322 1 (.getfield 52) 3 ∧ De bdX12_holds_322 4 (.aload_n 0) 1 ∧ De bdX12_holds_322 5 (.getfield 274) 3 ∧ De bdX12_holds_322 8 (.iconst 1) 1 ∧ De bdX12_holds_322 9 (.isub) 1 ∧ De bdX12_holds_322 10 (.baload) 1 ∧ De bdX12_holds_322 11 (.ifCond .ne 15) 3 ∧ De bdX12_holds_322 14 (.aload_n 0) 1 ∧ De bdX12_holds_322 15 (.getfield 52) 3 ∧ De bdX12_holds_322 18 (.aload_n 0) 1 ∧ De bdX12_holds_322 19 (.getfield 274) 3 ∧ De bdX12_holds_322 22 (.baload) 1 ∧ De bdX12_holds_322 23 (.ifCond .eq 7) 3 ∧ De bdX12_holds_322 26 (.iconst 1) 1 ∧ De bdX12_holds_322 27 (.goto 4) 3 := by decide +kernel
theorem dX12_holds_322 : decode cX12_holds 322 = .ok (.aload_n 0, 1) := dAt wdX12_holds_322 adX12_holds_322.1 rfl
theorem dX12_holds_323 : decode cX12_holds 323 = .ok (.getfield 52, 3) := dAt wdX12_holds_322 adX12_holds_322.2.1 rfl
theorem dX12_holds_326 : decode cX12_holds 326 = .ok (.aload_n 0, 1) := dAt wdX12_holds_322 adX12_holds_322.2.2.1 rfl
theorem dX12_holds_327 : decode cX12_holds 327 = .ok (.getfield 274, 3) := dAt wdX12_holds_322 adX12_holds_322.2.2.2.1 rfl
theorem dX12_holds_330 : decode cX12_holds 330 = .ok (.iconst 1, 1) := dAt wdX12_holds_322 adX12_holds_322.2.2.2.2.1 rfl
theorem dX12_holds_331 : decode cX12_holds 331 = .ok (.isub, 1) := dAt wdX12_holds_322 adX12_holds_322.2.2.2.2.2.1 rfl
theorem dX12_holds_332 : decode cX12_holds 332 = .ok (.baload, 1) := dAt wdX12_holds_322 adX12_holds_322.2.2.2.2.2.2.1 rfl
theorem dX12_holds_333 : decode cX12_holds 333 = .ok (.ifCond .ne 15, 3) := dAt wdX12_holds_322 adX12_holds_322.2.2.2.2.2.2.2.1 rfl
theorem dX12_holds_336 : decode cX12_holds 336 = .ok (.aload_n 0, 1) := dAt wdX12_holds_322 adX12_holds_322.2.2.2.2.2.2.2.2.1 rfl
theorem dX12_holds_337 : decode cX12_holds 337 = .ok (.getfield 52, 3) := dAt wdX12_holds_322 adX12_holds_322.2.2.2.2.2.2.2.2.2.1 rfl
theorem dX12_holds_340 : decode cX12_holds 340 = .ok (.aload_n 0, 1) := dAt wdX12_holds_322 adX12_holds_322.2.2.2.2.2.2.2.2.2.2.1 rfl
theorem dX12_holds_341 : decode cX12_holds 341 = .ok (.getfield 274, 3) := dAt wdX12_holds_322 adX12_holds_322.2.2.2.2.2.2.2.2.2.2.2.1 rfl
theorem dX12_holds_344 : decode cX12_holds 344 = .ok (.baload, 1) := dAt wdX12_holds_322 adX12_holds_322.2.2.2.2.2.2.2.2.2.2.2.2.1 rfl
theorem dX12_holds_345 : decode cX12_holds 345 = .ok (.ifCond .eq 7, 3) := dAt wdX12_holds_322 adX12_holds_322.2.2.2.2.2.2.2.2.2.2.2.2.2.1 rfl
theorem dX12_holds_348 : decode cX12_holds 348 = .ok (.iconst 1, 1) := dAt wdX12_holds_322 adX12_holds_322.2.2.2.2.2.2.2.2.2.2.2.2.2.2.1 rfl
theorem dX12_holds_349 : decode cX12_holds 349 = .ok (.goto 4, 3) := dAt wdX12_holds_322 adX12_holds_322.2.2.2.2.2.2.2.2.2.2.2.2.2.2.2 rfl
def bdX12_holds_352 : ByteArray := .mk #[3, 84, 132, 5, 1, 167, 254, 201, 42, 180, 0, 52, 3, 51, 172]
theorem wdX12_holds_352 : LocW cX12_holds 352 bdX12_holds_352 := loc_of (by decide +kernel)
theorem adX12_holds_352 : De bdX12_holds_352 0 (.iconst 0) 1 ∧ De bdX12_holds_352 1 (.bastore) 1 ∧ De bdX12_holds_352 2 (.iinc 5 1) 3 ∧ De bdX12_holds_352 5 (.goto (-311)) 3 ∧ De bdX12_holds_352 8 (.aload_n 0) 1 ∧ De bdX12_holds_352 9 (.getfield 52) 3 ∧ De bdX12_holds_352 12 (.iconst 0) 1 ∧ De bdX12_holds_352 13 (.baload) 1 ∧ De bdX12_holds_352 14 (.ireturn) 1 := by decide +kernel
theorem dX12_holds_352 : decode cX12_holds 352 = .ok (.iconst 0, 1) := dAt wdX12_holds_352 adX12_holds_352.1 rfl
theorem dX12_holds_353 : decode cX12_holds 353 = .ok (.bastore, 1) := dAt wdX12_holds_352 adX12_holds_352.2.1 rfl
theorem dX12_holds_354 : decode cX12_holds 354 = .ok (.iinc 5 1, 3) := dAt wdX12_holds_352 adX12_holds_352.2.2.1 rfl
theorem dX12_holds_357 : decode cX12_holds 357 = .ok (.goto (-311), 3) := dAt wdX12_holds_352 adX12_holds_352.2.2.2.1 rfl
theorem dX12_holds_360 : decode cX12_holds 360 = .ok (.aload_n 0, 1) := dAt wdX12_holds_352 adX12_holds_352.2.2.2.2.1 rfl
theorem dX12_holds_361 : decode cX12_holds 361 = .ok (.getfield 52, 3) := dAt wdX12_holds_352 adX12_holds_352.2.2.2.2.2.1 rfl
theorem dX12_holds_364 : decode cX12_holds 364 = .ok (.iconst 0, 1) := dAt wdX12_holds_352 adX12_holds_352.2.2.2.2.2.2.1 rfl
theorem dX12_holds_365 : decode cX12_holds 365 = .ok (.baload, 1) := dAt wdX12_holds_352 adX12_holds_352.2.2.2.2.2.2.2.1 rfl
theorem dX12_holds_366 : decode cX12_holds 366 = .ok (.ireturn, 1) := dAt wdX12_holds_352 adX12_holds_352.2.2.2.2.2.2.2.2 rfl
def bdX12_lastRule_0 : ByteArray := .mk #[2, 62, 3, 54, 4, 27, 2, 159, 0, 52, 21, 4, 42, 180, 0, 8, 27, 4, 96, 46, 162, 0, 39, 42]
theorem wdX12_lastRule_0 : LocW cX12_lastRule 0 bdX12_lastRule_0 := loc_of (by decide +kernel)
theorem adX12_lastRule_0 : De bdX12_lastRule_0 0 (.iconst (-1)) 1 ∧ De bdX12_lastRule_0 1 (.istore_n 3) 1 ∧ De bdX12_lastRule_0 2 (.iconst 0) 1 ∧ De bdX12_lastRule_0 3 (.istore 4) 2 ∧ De bdX12_lastRule_0 5 (.iload_n 1) 1 ∧ De bdX12_lastRule_0 6 (.iconst (-1)) 1 ∧ De bdX12_lastRule_0 7 (.if_icmp .eq 52) 3 ∧ De bdX12_lastRule_0 10 (.iload 4) 2 ∧ De bdX12_lastRule_0 12 (.aload_n 0) 1 ∧ De bdX12_lastRule_0 13 (.getfield 8) 3 ∧ De bdX12_lastRule_0 16 (.iload_n 1) 1 ∧ De bdX12_lastRule_0 17 (.iconst 1) 1 ∧ De bdX12_lastRule_0 18 (.iadd) 1 ∧ De bdX12_lastRule_0 19 (.iaload) 1 ∧ De bdX12_lastRule_0 20 (.if_icmp .ge 39) 3 ∧ De bdX12_lastRule_0 23 (.aload_n 0) 1 := by decide +kernel
theorem dX12_lastRule_0 : decode cX12_lastRule 0 = .ok (.iconst (-1), 1) := dAt wdX12_lastRule_0 adX12_lastRule_0.1 rfl
theorem dX12_lastRule_1 : decode cX12_lastRule 1 = .ok (.istore_n 3, 1) := dAt wdX12_lastRule_0 adX12_lastRule_0.2.1 rfl
theorem dX12_lastRule_2 : decode cX12_lastRule 2 = .ok (.iconst 0, 1) := dAt wdX12_lastRule_0 adX12_lastRule_0.2.2.1 rfl
theorem dX12_lastRule_3 : decode cX12_lastRule 3 = .ok (.istore 4, 2) := dAt wdX12_lastRule_0 adX12_lastRule_0.2.2.2.1 rfl
theorem dX12_lastRule_5 : decode cX12_lastRule 5 = .ok (.iload_n 1, 1) := dAt wdX12_lastRule_0 adX12_lastRule_0.2.2.2.2.1 rfl
theorem dX12_lastRule_6 : decode cX12_lastRule 6 = .ok (.iconst (-1), 1) := dAt wdX12_lastRule_0 adX12_lastRule_0.2.2.2.2.2.1 rfl
theorem dX12_lastRule_7 : decode cX12_lastRule 7 = .ok (.if_icmp .eq 52, 3) := dAt wdX12_lastRule_0 adX12_lastRule_0.2.2.2.2.2.2.1 rfl
theorem dX12_lastRule_10 : decode cX12_lastRule 10 = .ok (.iload 4, 2) := dAt wdX12_lastRule_0 adX12_lastRule_0.2.2.2.2.2.2.2.1 rfl
theorem dX12_lastRule_12 : decode cX12_lastRule 12 = .ok (.aload_n 0, 1) := dAt wdX12_lastRule_0 adX12_lastRule_0.2.2.2.2.2.2.2.2.1 rfl
theorem dX12_lastRule_13 : decode cX12_lastRule 13 = .ok (.getfield 8, 3) := dAt wdX12_lastRule_0 adX12_lastRule_0.2.2.2.2.2.2.2.2.2.1 rfl
theorem dX12_lastRule_16 : decode cX12_lastRule 16 = .ok (.iload_n 1, 1) := dAt wdX12_lastRule_0 adX12_lastRule_0.2.2.2.2.2.2.2.2.2.2.1 rfl
theorem dX12_lastRule_17 : decode cX12_lastRule 17 = .ok (.iconst 1, 1) := dAt wdX12_lastRule_0 adX12_lastRule_0.2.2.2.2.2.2.2.2.2.2.2.1 rfl
theorem dX12_lastRule_18 : decode cX12_lastRule 18 = .ok (.iadd, 1) := dAt wdX12_lastRule_0 adX12_lastRule_0.2.2.2.2.2.2.2.2.2.2.2.2.1 rfl
theorem dX12_lastRule_19 : decode cX12_lastRule 19 = .ok (.iaload, 1) := dAt wdX12_lastRule_0 adX12_lastRule_0.2.2.2.2.2.2.2.2.2.2.2.2.2.1 rfl
theorem dX12_lastRule_20 : decode cX12_lastRule 20 = .ok (.if_icmp .ge 39, 3) := dAt wdX12_lastRule_0 adX12_lastRule_0.2.2.2.2.2.2.2.2.2.2.2.2.2.2.1 rfl
theorem dX12_lastRule_23 : decode cX12_lastRule 23 = .ok (.aload_n 0, 1) := dAt wdX12_lastRule_0 adX12_lastRule_0.2.2.2.2.2.2.2.2.2.2.2.2.2.2.2 rfl
def bdX12_lastRule_24 : ByteArray := .mk #[180, 0, 8, 27, 5, 96, 8, 21, 4, 104, 96, 46, 28, 160, 0, 16, 42, 27, 21, 4, 182, 1, 21, 153, 0, 6]
theorem wdX12_lastRule_24 : LocW cX12_lastRule 24 bdX12_lastRule_24 := loc_of (by decide +kernel)
theorem adX12_lastRule_24 : De bdX12_lastRule_24 0 (.getfield 8) 3 ∧ De bdX12_lastRule_24 3 (.iload_n 1) 1 ∧ De bdX12_lastRule_24 4 (.iconst 2) 1 ∧ De bdX12_lastRule_24 5 (.iadd) 1 ∧ De bdX12_lastRule_24 6 (.iconst 5) 1 ∧ De bdX12_lastRule_24 7 (.iload 4) 2 ∧ De bdX12_lastRule_24 9 (.imul) 1 ∧ De bdX12_lastRule_24 10 (.iadd) 1 ∧ De bdX12_lastRule_24 11 (.iaload) 1 ∧ De bdX12_lastRule_24 12 (.iload_n 2) 1 ∧ De bdX12_lastRule_24 13 (.if_icmp .ne 16) 3 ∧ De bdX12_lastRule_24 16 (.aload_n 0) 1 ∧ De bdX12_lastRule_24 17 (.iload_n 1) 1 ∧ De bdX12_lastRule_24 18 (.iload 4) 2 ∧ De bdX12_lastRule_24 20 (.invokevirtual 277) 3 ∧ De bdX12_lastRule_24 23 (.ifCond .eq 6) 3 := by decide +kernel
theorem dX12_lastRule_24 : decode cX12_lastRule 24 = .ok (.getfield 8, 3) := dAt wdX12_lastRule_24 adX12_lastRule_24.1 rfl
theorem dX12_lastRule_27 : decode cX12_lastRule 27 = .ok (.iload_n 1, 1) := dAt wdX12_lastRule_24 adX12_lastRule_24.2.1 rfl
theorem dX12_lastRule_28 : decode cX12_lastRule 28 = .ok (.iconst 2, 1) := dAt wdX12_lastRule_24 adX12_lastRule_24.2.2.1 rfl
theorem dX12_lastRule_29 : decode cX12_lastRule 29 = .ok (.iadd, 1) := dAt wdX12_lastRule_24 adX12_lastRule_24.2.2.2.1 rfl
theorem dX12_lastRule_30 : decode cX12_lastRule 30 = .ok (.iconst 5, 1) := dAt wdX12_lastRule_24 adX12_lastRule_24.2.2.2.2.1 rfl
theorem dX12_lastRule_31 : decode cX12_lastRule 31 = .ok (.iload 4, 2) := dAt wdX12_lastRule_24 adX12_lastRule_24.2.2.2.2.2.1 rfl
theorem dX12_lastRule_33 : decode cX12_lastRule 33 = .ok (.imul, 1) := dAt wdX12_lastRule_24 adX12_lastRule_24.2.2.2.2.2.2.1 rfl
theorem dX12_lastRule_34 : decode cX12_lastRule 34 = .ok (.iadd, 1) := dAt wdX12_lastRule_24 adX12_lastRule_24.2.2.2.2.2.2.2.1 rfl
theorem dX12_lastRule_35 : decode cX12_lastRule 35 = .ok (.iaload, 1) := dAt wdX12_lastRule_24 adX12_lastRule_24.2.2.2.2.2.2.2.2.1 rfl
theorem dX12_lastRule_36 : decode cX12_lastRule 36 = .ok (.iload_n 2, 1) := dAt wdX12_lastRule_24 adX12_lastRule_24.2.2.2.2.2.2.2.2.2.1 rfl
theorem dX12_lastRule_37 : decode cX12_lastRule 37 = .ok (.if_icmp .ne 16, 3) := dAt wdX12_lastRule_24 adX12_lastRule_24.2.2.2.2.2.2.2.2.2.2.1 rfl
theorem dX12_lastRule_40 : decode cX12_lastRule 40 = .ok (.aload_n 0, 1) := dAt wdX12_lastRule_24 adX12_lastRule_24.2.2.2.2.2.2.2.2.2.2.2.1 rfl
theorem dX12_lastRule_41 : decode cX12_lastRule 41 = .ok (.iload_n 1, 1) := dAt wdX12_lastRule_24 adX12_lastRule_24.2.2.2.2.2.2.2.2.2.2.2.2.1 rfl
theorem dX12_lastRule_42 : decode cX12_lastRule 42 = .ok (.iload 4, 2) := dAt wdX12_lastRule_24 adX12_lastRule_24.2.2.2.2.2.2.2.2.2.2.2.2.2.1 rfl
theorem dX12_lastRule_44 : decode cX12_lastRule 44 = .ok (.invokevirtual 277, 3) := dAt wdX12_lastRule_24 adX12_lastRule_24.2.2.2.2.2.2.2.2.2.2.2.2.2.2.1 rfl
theorem dX12_lastRule_47 : decode cX12_lastRule 47 = .ok (.ifCond .eq 6, 3) := dAt wdX12_lastRule_24 adX12_lastRule_24.2.2.2.2.2.2.2.2.2.2.2.2.2.2.2 rfl
def bdX12_lastRule_50 : ByteArray := .mk #[21, 4, 62, 132, 4, 1, 167, 255, 205, 29, 172]
theorem wdX12_lastRule_50 : LocW cX12_lastRule 50 bdX12_lastRule_50 := loc_of (by decide +kernel)
theorem adX12_lastRule_50 : De bdX12_lastRule_50 0 (.iload 4) 2 ∧ De bdX12_lastRule_50 2 (.istore_n 3) 1 ∧ De bdX12_lastRule_50 3 (.iinc 4 1) 3 ∧ De bdX12_lastRule_50 6 (.goto (-51)) 3 ∧ De bdX12_lastRule_50 9 (.iload_n 3) 1 ∧ De bdX12_lastRule_50 10 (.ireturn) 1 := by decide +kernel
theorem dX12_lastRule_50 : decode cX12_lastRule 50 = .ok (.iload 4, 2) := dAt wdX12_lastRule_50 adX12_lastRule_50.1 rfl
theorem dX12_lastRule_52 : decode cX12_lastRule 52 = .ok (.istore_n 3, 1) := dAt wdX12_lastRule_50 adX12_lastRule_50.2.1 rfl
theorem dX12_lastRule_53 : decode cX12_lastRule 53 = .ok (.iinc 4 1, 3) := dAt wdX12_lastRule_50 adX12_lastRule_50.2.2.1 rfl
theorem dX12_lastRule_56 : decode cX12_lastRule 56 = .ok (.goto (-51), 3) := dAt wdX12_lastRule_50 adX12_lastRule_50.2.2.2.1 rfl
theorem dX12_lastRule_59 : decode cX12_lastRule 59 = .ok (.iload_n 3, 1) := dAt wdX12_lastRule_50 adX12_lastRule_50.2.2.2.2.1 rfl
theorem dX12_lastRule_60 : decode cX12_lastRule 60 = .ok (.ireturn, 1) := dAt wdX12_lastRule_50 adX12_lastRule_50.2.2.2.2.2 rfl
def bdX12_said_0 : ByteArray := .mk #[28, 2, 160, 0, 8, 21, 4, 167, 0, 17, 42, 180, 0, 8, 27, 5, 96, 8, 28, 104, 96, 29, 96]
theorem wdX12_said_0 : LocW cX12_said 0 bdX12_said_0 := loc_of (by decide +kernel)
theorem adX12_said_0 : De bdX12_said_0 0 (.iload_n 2) 1 ∧ De bdX12_said_0 1 (.iconst (-1)) 1 ∧ De bdX12_said_0 2 (.if_icmp .ne 8) 3 ∧ De bdX12_said_0 5 (.iload 4) 2 ∧ De bdX12_said_0 7 (.goto 17) 3 ∧ De bdX12_said_0 10 (.aload_n 0) 1 ∧ De bdX12_said_0 11 (.getfield 8) 3 ∧ De bdX12_said_0 14 (.iload_n 1) 1 ∧ De bdX12_said_0 15 (.iconst 2) 1 ∧ De bdX12_said_0 16 (.iadd) 1 ∧ De bdX12_said_0 17 (.iconst 5) 1 ∧ De bdX12_said_0 18 (.iload_n 2) 1 ∧ De bdX12_said_0 19 (.imul) 1 ∧ De bdX12_said_0 20 (.iadd) 1 ∧ De bdX12_said_0 21 (.iload_n 3) 1 ∧ De bdX12_said_0 22 (.iadd) 1 := by decide +kernel
theorem dX12_said_0 : decode cX12_said 0 = .ok (.iload_n 2, 1) := dAt wdX12_said_0 adX12_said_0.1 rfl
theorem dX12_said_1 : decode cX12_said 1 = .ok (.iconst (-1), 1) := dAt wdX12_said_0 adX12_said_0.2.1 rfl
theorem dX12_said_2 : decode cX12_said 2 = .ok (.if_icmp .ne 8, 3) := dAt wdX12_said_0 adX12_said_0.2.2.1 rfl
theorem dX12_said_5 : decode cX12_said 5 = .ok (.iload 4, 2) := dAt wdX12_said_0 adX12_said_0.2.2.2.1 rfl
theorem dX12_said_7 : decode cX12_said 7 = .ok (.goto 17, 3) := dAt wdX12_said_0 adX12_said_0.2.2.2.2.1 rfl
theorem dX12_said_10 : decode cX12_said 10 = .ok (.aload_n 0, 1) := dAt wdX12_said_0 adX12_said_0.2.2.2.2.2.1 rfl
theorem dX12_said_11 : decode cX12_said 11 = .ok (.getfield 8, 3) := dAt wdX12_said_0 adX12_said_0.2.2.2.2.2.2.1 rfl
theorem dX12_said_14 : decode cX12_said 14 = .ok (.iload_n 1, 1) := dAt wdX12_said_0 adX12_said_0.2.2.2.2.2.2.2.1 rfl
theorem dX12_said_15 : decode cX12_said 15 = .ok (.iconst 2, 1) := dAt wdX12_said_0 adX12_said_0.2.2.2.2.2.2.2.2.1 rfl
theorem dX12_said_16 : decode cX12_said 16 = .ok (.iadd, 1) := dAt wdX12_said_0 adX12_said_0.2.2.2.2.2.2.2.2.2.1 rfl
theorem dX12_said_17 : decode cX12_said 17 = .ok (.iconst 5, 1) := dAt wdX12_said_0 adX12_said_0.2.2.2.2.2.2.2.2.2.2.1 rfl
theorem dX12_said_18 : decode cX12_said 18 = .ok (.iload_n 2, 1) := dAt wdX12_said_0 adX12_said_0.2.2.2.2.2.2.2.2.2.2.2.1 rfl
theorem dX12_said_19 : decode cX12_said 19 = .ok (.imul, 1) := dAt wdX12_said_0 adX12_said_0.2.2.2.2.2.2.2.2.2.2.2.2.1 rfl
theorem dX12_said_20 : decode cX12_said 20 = .ok (.iadd, 1) := dAt wdX12_said_0 adX12_said_0.2.2.2.2.2.2.2.2.2.2.2.2.2.1 rfl
theorem dX12_said_21 : decode cX12_said 21 = .ok (.iload_n 3, 1) := dAt wdX12_said_0 adX12_said_0.2.2.2.2.2.2.2.2.2.2.2.2.2.2.1 rfl
theorem dX12_said_22 : decode cX12_said 22 = .ok (.iadd, 1) := dAt wdX12_said_0 adX12_said_0.2.2.2.2.2.2.2.2.2.2.2.2.2.2.2 rfl
def bdX12_said_23 : ByteArray := .mk #[46, 172]
theorem wdX12_said_23 : LocW cX12_said 23 bdX12_said_23 := loc_of (by decide +kernel)
theorem adX12_said_23 : De bdX12_said_23 0 (.iaload) 1 ∧ De bdX12_said_23 1 (.ireturn) 1 := by decide +kernel
theorem dX12_said_23 : decode cX12_said 23 = .ok (.iaload, 1) := dAt wdX12_said_23 adX12_said_23.1 rfl
theorem dX12_said_24 : decode cX12_said 24 = .ok (.ireturn, 1) := dAt wdX12_said_23 adX12_said_23.2 rfl
def bdX12_factsOf_0 : ByteArray := .mk #[27, 184, 0, 164, 62, 42, 180, 0, 8, 16, 90, 27, 8, 108, 96, 46, 54, 4, 42, 180, 0, 45, 3, 42]
theorem wdX12_factsOf_0 : LocW cX12_factsOf 0 bdX12_factsOf_0 := loc_of (by decide +kernel)
theorem adX12_factsOf_0 : De bdX12_factsOf_0 0 (.iload_n 1) 1 ∧ De bdX12_factsOf_0 1 (.invokestatic 164) 3 ∧ De bdX12_factsOf_0 4 (.istore_n 3) 1 ∧ De bdX12_factsOf_0 5 (.aload_n 0) 1 ∧ De bdX12_factsOf_0 6 (.getfield 8) 3 ∧ De bdX12_factsOf_0 9 (.bipush 90) 2 ∧ De bdX12_factsOf_0 11 (.iload_n 1) 1 ∧ De bdX12_factsOf_0 12 (.iconst 5) 1 ∧ De bdX12_factsOf_0 13 (.idiv) 1 ∧ De bdX12_factsOf_0 14 (.iadd) 1 ∧ De bdX12_factsOf_0 15 (.iaload) 1 ∧ De bdX12_factsOf_0 16 (.istore 4) 2 ∧ De bdX12_factsOf_0 18 (.aload_n 0) 1 ∧ De bdX12_factsOf_0 19 (.getfield 45) 3 ∧ De bdX12_factsOf_0 22 (.iconst 0) 1 ∧ De bdX12_factsOf_0 23 (.aload_n 0) 1 := by decide +kernel
theorem dX12_factsOf_0 : decode cX12_factsOf 0 = .ok (.iload_n 1, 1) := dAt wdX12_factsOf_0 adX12_factsOf_0.1 rfl
theorem dX12_factsOf_1 : decode cX12_factsOf 1 = .ok (.invokestatic 164, 3) := dAt wdX12_factsOf_0 adX12_factsOf_0.2.1 rfl
theorem dX12_factsOf_4 : decode cX12_factsOf 4 = .ok (.istore_n 3, 1) := dAt wdX12_factsOf_0 adX12_factsOf_0.2.2.1 rfl
theorem dX12_factsOf_5 : decode cX12_factsOf 5 = .ok (.aload_n 0, 1) := dAt wdX12_factsOf_0 adX12_factsOf_0.2.2.2.1 rfl
theorem dX12_factsOf_6 : decode cX12_factsOf 6 = .ok (.getfield 8, 3) := dAt wdX12_factsOf_0 adX12_factsOf_0.2.2.2.2.1 rfl
theorem dX12_factsOf_9 : decode cX12_factsOf 9 = .ok (.bipush 90, 2) := dAt wdX12_factsOf_0 adX12_factsOf_0.2.2.2.2.2.1 rfl
theorem dX12_factsOf_11 : decode cX12_factsOf 11 = .ok (.iload_n 1, 1) := dAt wdX12_factsOf_0 adX12_factsOf_0.2.2.2.2.2.2.1 rfl
theorem dX12_factsOf_12 : decode cX12_factsOf 12 = .ok (.iconst 5, 1) := dAt wdX12_factsOf_0 adX12_factsOf_0.2.2.2.2.2.2.2.1 rfl
theorem dX12_factsOf_13 : decode cX12_factsOf 13 = .ok (.idiv, 1) := dAt wdX12_factsOf_0 adX12_factsOf_0.2.2.2.2.2.2.2.2.1 rfl
theorem dX12_factsOf_14 : decode cX12_factsOf 14 = .ok (.iadd, 1) := dAt wdX12_factsOf_0 adX12_factsOf_0.2.2.2.2.2.2.2.2.2.1 rfl
theorem dX12_factsOf_15 : decode cX12_factsOf 15 = .ok (.iaload, 1) := dAt wdX12_factsOf_0 adX12_factsOf_0.2.2.2.2.2.2.2.2.2.2.1 rfl
theorem dX12_factsOf_16 : decode cX12_factsOf 16 = .ok (.istore 4, 2) := dAt wdX12_factsOf_0 adX12_factsOf_0.2.2.2.2.2.2.2.2.2.2.2.1 rfl
theorem dX12_factsOf_18 : decode cX12_factsOf 18 = .ok (.aload_n 0, 1) := dAt wdX12_factsOf_0 adX12_factsOf_0.2.2.2.2.2.2.2.2.2.2.2.2.1 rfl
theorem dX12_factsOf_19 : decode cX12_factsOf 19 = .ok (.getfield 45, 3) := dAt wdX12_factsOf_0 adX12_factsOf_0.2.2.2.2.2.2.2.2.2.2.2.2.2.1 rfl
theorem dX12_factsOf_22 : decode cX12_factsOf 22 = .ok (.iconst 0, 1) := dAt wdX12_factsOf_0 adX12_factsOf_0.2.2.2.2.2.2.2.2.2.2.2.2.2.2.1 rfl
theorem dX12_factsOf_23 : decode cX12_factsOf 23 = .ok (.aload_n 0, 1) := dAt wdX12_factsOf_0 adX12_factsOf_0.2.2.2.2.2.2.2.2.2.2.2.2.2.2.2 rfl
def bdX12_factsOf_24 : ByteArray := .mk #[180, 0, 8, 16, 70, 27, 8, 108, 96, 46, 4, 160, 0, 7, 4, 167, 0, 4, 3, 84, 42, 180, 0, 45, 4]
theorem wdX12_factsOf_24 : LocW cX12_factsOf 24 bdX12_factsOf_24 := loc_of (by decide +kernel)
theorem adX12_factsOf_24 : De bdX12_factsOf_24 0 (.getfield 8) 3 ∧ De bdX12_factsOf_24 3 (.bipush 70) 2 ∧ De bdX12_factsOf_24 5 (.iload_n 1) 1 ∧ De bdX12_factsOf_24 6 (.iconst 5) 1 ∧ De bdX12_factsOf_24 7 (.idiv) 1 ∧ De bdX12_factsOf_24 8 (.iadd) 1 ∧ De bdX12_factsOf_24 9 (.iaload) 1 ∧ De bdX12_factsOf_24 10 (.iconst 1) 1 ∧ De bdX12_factsOf_24 11 (.if_icmp .ne 7) 3 ∧ De bdX12_factsOf_24 14 (.iconst 1) 1 ∧ De bdX12_factsOf_24 15 (.goto 4) 3 ∧ De bdX12_factsOf_24 18 (.iconst 0) 1 ∧ De bdX12_factsOf_24 19 (.bastore) 1 ∧ De bdX12_factsOf_24 20 (.aload_n 0) 1 ∧ De bdX12_factsOf_24 21 (.getfield 45) 3 ∧ De bdX12_factsOf_24 24 (.iconst 1) 1 := by decide +kernel
theorem dX12_factsOf_24 : decode cX12_factsOf 24 = .ok (.getfield 8, 3) := dAt wdX12_factsOf_24 adX12_factsOf_24.1 rfl
theorem dX12_factsOf_27 : decode cX12_factsOf 27 = .ok (.bipush 70, 2) := dAt wdX12_factsOf_24 adX12_factsOf_24.2.1 rfl
theorem dX12_factsOf_29 : decode cX12_factsOf 29 = .ok (.iload_n 1, 1) := dAt wdX12_factsOf_24 adX12_factsOf_24.2.2.1 rfl
theorem dX12_factsOf_30 : decode cX12_factsOf 30 = .ok (.iconst 5, 1) := dAt wdX12_factsOf_24 adX12_factsOf_24.2.2.2.1 rfl
theorem dX12_factsOf_31 : decode cX12_factsOf 31 = .ok (.idiv, 1) := dAt wdX12_factsOf_24 adX12_factsOf_24.2.2.2.2.1 rfl
theorem dX12_factsOf_32 : decode cX12_factsOf 32 = .ok (.iadd, 1) := dAt wdX12_factsOf_24 adX12_factsOf_24.2.2.2.2.2.1 rfl
theorem dX12_factsOf_33 : decode cX12_factsOf 33 = .ok (.iaload, 1) := dAt wdX12_factsOf_24 adX12_factsOf_24.2.2.2.2.2.2.1 rfl
theorem dX12_factsOf_34 : decode cX12_factsOf 34 = .ok (.iconst 1, 1) := dAt wdX12_factsOf_24 adX12_factsOf_24.2.2.2.2.2.2.2.1 rfl
theorem dX12_factsOf_35 : decode cX12_factsOf 35 = .ok (.if_icmp .ne 7, 3) := dAt wdX12_factsOf_24 adX12_factsOf_24.2.2.2.2.2.2.2.2.1 rfl
theorem dX12_factsOf_38 : decode cX12_factsOf 38 = .ok (.iconst 1, 1) := dAt wdX12_factsOf_24 adX12_factsOf_24.2.2.2.2.2.2.2.2.2.1 rfl
theorem dX12_factsOf_39 : decode cX12_factsOf 39 = .ok (.goto 4, 3) := dAt wdX12_factsOf_24 adX12_factsOf_24.2.2.2.2.2.2.2.2.2.2.1 rfl
theorem dX12_factsOf_42 : decode cX12_factsOf 42 = .ok (.iconst 0, 1) := dAt wdX12_factsOf_24 adX12_factsOf_24.2.2.2.2.2.2.2.2.2.2.2.1 rfl
theorem dX12_factsOf_43 : decode cX12_factsOf 43 = .ok (.bastore, 1) := dAt wdX12_factsOf_24 adX12_factsOf_24.2.2.2.2.2.2.2.2.2.2.2.2.1 rfl
theorem dX12_factsOf_44 : decode cX12_factsOf 44 = .ok (.aload_n 0, 1) := dAt wdX12_factsOf_24 adX12_factsOf_24.2.2.2.2.2.2.2.2.2.2.2.2.2.1 rfl
theorem dX12_factsOf_45 : decode cX12_factsOf 45 = .ok (.getfield 45, 3) := dAt wdX12_factsOf_24 adX12_factsOf_24.2.2.2.2.2.2.2.2.2.2.2.2.2.2.1 rfl
theorem dX12_factsOf_48 : decode cX12_factsOf 48 = .ok (.iconst 1, 1) := dAt wdX12_factsOf_24 adX12_factsOf_24.2.2.2.2.2.2.2.2.2.2.2.2.2.2.2 rfl
def bdX12_factsOf_49 : ByteArray := .mk #[28, 21, 4, 164, 0, 7, 4, 167, 0, 4, 3, 84, 42, 180, 0, 45, 5, 3, 84, 42, 180, 0, 49, 3, 42]
theorem wdX12_factsOf_49 : LocW cX12_factsOf 49 bdX12_factsOf_49 := loc_of (by decide +kernel)
theorem adX12_factsOf_49 : De bdX12_factsOf_49 0 (.iload_n 2) 1 ∧ De bdX12_factsOf_49 1 (.iload 4) 2 ∧ De bdX12_factsOf_49 3 (.if_icmp .le 7) 3 ∧ De bdX12_factsOf_49 6 (.iconst 1) 1 ∧ De bdX12_factsOf_49 7 (.goto 4) 3 ∧ De bdX12_factsOf_49 10 (.iconst 0) 1 ∧ De bdX12_factsOf_49 11 (.bastore) 1 ∧ De bdX12_factsOf_49 12 (.aload_n 0) 1 ∧ De bdX12_factsOf_49 13 (.getfield 45) 3 ∧ De bdX12_factsOf_49 16 (.iconst 2) 1 ∧ De bdX12_factsOf_49 17 (.iconst 0) 1 ∧ De bdX12_factsOf_49 18 (.bastore) 1 ∧ De bdX12_factsOf_49 19 (.aload_n 0) 1 ∧ De bdX12_factsOf_49 20 (.getfield 49) 3 ∧ De bdX12_factsOf_49 23 (.iconst 0) 1 ∧ De bdX12_factsOf_49 24 (.aload_n 0) 1 := by decide +kernel
theorem dX12_factsOf_49 : decode cX12_factsOf 49 = .ok (.iload_n 2, 1) := dAt wdX12_factsOf_49 adX12_factsOf_49.1 rfl
theorem dX12_factsOf_50 : decode cX12_factsOf 50 = .ok (.iload 4, 2) := dAt wdX12_factsOf_49 adX12_factsOf_49.2.1 rfl
theorem dX12_factsOf_52 : decode cX12_factsOf 52 = .ok (.if_icmp .le 7, 3) := dAt wdX12_factsOf_49 adX12_factsOf_49.2.2.1 rfl
theorem dX12_factsOf_55 : decode cX12_factsOf 55 = .ok (.iconst 1, 1) := dAt wdX12_factsOf_49 adX12_factsOf_49.2.2.2.1 rfl
theorem dX12_factsOf_56 : decode cX12_factsOf 56 = .ok (.goto 4, 3) := dAt wdX12_factsOf_49 adX12_factsOf_49.2.2.2.2.1 rfl
theorem dX12_factsOf_59 : decode cX12_factsOf 59 = .ok (.iconst 0, 1) := dAt wdX12_factsOf_49 adX12_factsOf_49.2.2.2.2.2.1 rfl
theorem dX12_factsOf_60 : decode cX12_factsOf 60 = .ok (.bastore, 1) := dAt wdX12_factsOf_49 adX12_factsOf_49.2.2.2.2.2.2.1 rfl
theorem dX12_factsOf_61 : decode cX12_factsOf 61 = .ok (.aload_n 0, 1) := dAt wdX12_factsOf_49 adX12_factsOf_49.2.2.2.2.2.2.2.1 rfl
theorem dX12_factsOf_62 : decode cX12_factsOf 62 = .ok (.getfield 45, 3) := dAt wdX12_factsOf_49 adX12_factsOf_49.2.2.2.2.2.2.2.2.1 rfl
theorem dX12_factsOf_65 : decode cX12_factsOf 65 = .ok (.iconst 2, 1) := dAt wdX12_factsOf_49 adX12_factsOf_49.2.2.2.2.2.2.2.2.2.1 rfl
theorem dX12_factsOf_66 : decode cX12_factsOf 66 = .ok (.iconst 0, 1) := dAt wdX12_factsOf_49 adX12_factsOf_49.2.2.2.2.2.2.2.2.2.2.1 rfl
theorem dX12_factsOf_67 : decode cX12_factsOf 67 = .ok (.bastore, 1) := dAt wdX12_factsOf_49 adX12_factsOf_49.2.2.2.2.2.2.2.2.2.2.2.1 rfl
theorem dX12_factsOf_68 : decode cX12_factsOf 68 = .ok (.aload_n 0, 1) := dAt wdX12_factsOf_49 adX12_factsOf_49.2.2.2.2.2.2.2.2.2.2.2.2.1 rfl
theorem dX12_factsOf_69 : decode cX12_factsOf 69 = .ok (.getfield 49, 3) := dAt wdX12_factsOf_49 adX12_factsOf_49.2.2.2.2.2.2.2.2.2.2.2.2.2.1 rfl
theorem dX12_factsOf_72 : decode cX12_factsOf 72 = .ok (.iconst 0, 1) := dAt wdX12_factsOf_49 adX12_factsOf_49.2.2.2.2.2.2.2.2.2.2.2.2.2.2.1 rfl
theorem dX12_factsOf_73 : decode cX12_factsOf 73 = .ok (.aload_n 0, 1) := dAt wdX12_factsOf_49 adX12_factsOf_49.2.2.2.2.2.2.2.2.2.2.2.2.2.2.2 rfl
def bdX12_factsOf_74 : ByteArray := .mk #[180, 0, 8, 29, 3, 96, 46, 79, 42, 180, 0, 49, 4, 42, 180, 0, 8, 29, 4, 96, 46, 79]
theorem wdX12_factsOf_74 : LocW cX12_factsOf 74 bdX12_factsOf_74 := loc_of (by decide +kernel)
theorem adX12_factsOf_74 : De bdX12_factsOf_74 0 (.getfield 8) 3 ∧ De bdX12_factsOf_74 3 (.iload_n 3) 1 ∧ De bdX12_factsOf_74 4 (.iconst 0) 1 ∧ De bdX12_factsOf_74 5 (.iadd) 1 ∧ De bdX12_factsOf_74 6 (.iaload) 1 ∧ De bdX12_factsOf_74 7 (.iastore) 1 ∧ De bdX12_factsOf_74 8 (.aload_n 0) 1 ∧ De bdX12_factsOf_74 9 (.getfield 49) 3 ∧ De bdX12_factsOf_74 12 (.iconst 1) 1 ∧ De bdX12_factsOf_74 13 (.aload_n 0) 1 ∧ De bdX12_factsOf_74 14 (.getfield 8) 3 ∧ De bdX12_factsOf_74 17 (.iload_n 3) 1 ∧ De bdX12_factsOf_74 18 (.iconst 1) 1 ∧ De bdX12_factsOf_74 19 (.iadd) 1 ∧ De bdX12_factsOf_74 20 (.iaload) 1 ∧ De bdX12_factsOf_74 21 (.iastore) 1 := by decide +kernel
theorem dX12_factsOf_74 : decode cX12_factsOf 74 = .ok (.getfield 8, 3) := dAt wdX12_factsOf_74 adX12_factsOf_74.1 rfl
theorem dX12_factsOf_77 : decode cX12_factsOf 77 = .ok (.iload_n 3, 1) := dAt wdX12_factsOf_74 adX12_factsOf_74.2.1 rfl
theorem dX12_factsOf_78 : decode cX12_factsOf 78 = .ok (.iconst 0, 1) := dAt wdX12_factsOf_74 adX12_factsOf_74.2.2.1 rfl
theorem dX12_factsOf_79 : decode cX12_factsOf 79 = .ok (.iadd, 1) := dAt wdX12_factsOf_74 adX12_factsOf_74.2.2.2.1 rfl
theorem dX12_factsOf_80 : decode cX12_factsOf 80 = .ok (.iaload, 1) := dAt wdX12_factsOf_74 adX12_factsOf_74.2.2.2.2.1 rfl
theorem dX12_factsOf_81 : decode cX12_factsOf 81 = .ok (.iastore, 1) := dAt wdX12_factsOf_74 adX12_factsOf_74.2.2.2.2.2.1 rfl
theorem dX12_factsOf_82 : decode cX12_factsOf 82 = .ok (.aload_n 0, 1) := dAt wdX12_factsOf_74 adX12_factsOf_74.2.2.2.2.2.2.1 rfl
theorem dX12_factsOf_83 : decode cX12_factsOf 83 = .ok (.getfield 49, 3) := dAt wdX12_factsOf_74 adX12_factsOf_74.2.2.2.2.2.2.2.1 rfl
theorem dX12_factsOf_86 : decode cX12_factsOf 86 = .ok (.iconst 1, 1) := dAt wdX12_factsOf_74 adX12_factsOf_74.2.2.2.2.2.2.2.2.1 rfl
theorem dX12_factsOf_87 : decode cX12_factsOf 87 = .ok (.aload_n 0, 1) := dAt wdX12_factsOf_74 adX12_factsOf_74.2.2.2.2.2.2.2.2.2.1 rfl
theorem dX12_factsOf_88 : decode cX12_factsOf 88 = .ok (.getfield 8, 3) := dAt wdX12_factsOf_74 adX12_factsOf_74.2.2.2.2.2.2.2.2.2.2.1 rfl
theorem dX12_factsOf_91 : decode cX12_factsOf 91 = .ok (.iload_n 3, 1) := dAt wdX12_factsOf_74 adX12_factsOf_74.2.2.2.2.2.2.2.2.2.2.2.1 rfl
theorem dX12_factsOf_92 : decode cX12_factsOf 92 = .ok (.iconst 1, 1) := dAt wdX12_factsOf_74 adX12_factsOf_74.2.2.2.2.2.2.2.2.2.2.2.2.1 rfl
theorem dX12_factsOf_93 : decode cX12_factsOf 93 = .ok (.iadd, 1) := dAt wdX12_factsOf_74 adX12_factsOf_74.2.2.2.2.2.2.2.2.2.2.2.2.2.1 rfl
theorem dX12_factsOf_94 : decode cX12_factsOf 94 = .ok (.iaload, 1) := dAt wdX12_factsOf_74 adX12_factsOf_74.2.2.2.2.2.2.2.2.2.2.2.2.2.2.1 rfl
theorem dX12_factsOf_95 : decode cX12_factsOf 95 = .ok (.iastore, 1) := dAt wdX12_factsOf_74 adX12_factsOf_74.2.2.2.2.2.2.2.2.2.2.2.2.2.2.2 rfl
def bdX12_factsOf_96 : ByteArray := .mk #[42, 180, 0, 49, 5, 21, 4, 79, 42, 180, 0, 49, 6, 28, 79, 42, 180, 0, 49, 7, 3, 79, 42]
theorem wdX12_factsOf_96 : LocW cX12_factsOf 96 bdX12_factsOf_96 := loc_of (by decide +kernel)
theorem adX12_factsOf_96 : De bdX12_factsOf_96 0 (.aload_n 0) 1 ∧ De bdX12_factsOf_96 1 (.getfield 49) 3 ∧ De bdX12_factsOf_96 4 (.iconst 2) 1 ∧ De bdX12_factsOf_96 5 (.iload 4) 2 ∧ De bdX12_factsOf_96 7 (.iastore) 1 ∧ De bdX12_factsOf_96 8 (.aload_n 0) 1 ∧ De bdX12_factsOf_96 9 (.getfield 49) 3 ∧ De bdX12_factsOf_96 12 (.iconst 3) 1 ∧ De bdX12_factsOf_96 13 (.iload_n 2) 1 ∧ De bdX12_factsOf_96 14 (.iastore) 1 ∧ De bdX12_factsOf_96 15 (.aload_n 0) 1 ∧ De bdX12_factsOf_96 16 (.getfield 49) 3 ∧ De bdX12_factsOf_96 19 (.iconst 4) 1 ∧ De bdX12_factsOf_96 20 (.iconst 0) 1 ∧ De bdX12_factsOf_96 21 (.iastore) 1 ∧ De bdX12_factsOf_96 22 (.aload_n 0) 1 := by decide +kernel
theorem dX12_factsOf_96 : decode cX12_factsOf 96 = .ok (.aload_n 0, 1) := dAt wdX12_factsOf_96 adX12_factsOf_96.1 rfl
theorem dX12_factsOf_97 : decode cX12_factsOf 97 = .ok (.getfield 49, 3) := dAt wdX12_factsOf_96 adX12_factsOf_96.2.1 rfl
theorem dX12_factsOf_100 : decode cX12_factsOf 100 = .ok (.iconst 2, 1) := dAt wdX12_factsOf_96 adX12_factsOf_96.2.2.1 rfl
theorem dX12_factsOf_101 : decode cX12_factsOf 101 = .ok (.iload 4, 2) := dAt wdX12_factsOf_96 adX12_factsOf_96.2.2.2.1 rfl
theorem dX12_factsOf_103 : decode cX12_factsOf 103 = .ok (.iastore, 1) := dAt wdX12_factsOf_96 adX12_factsOf_96.2.2.2.2.1 rfl
theorem dX12_factsOf_104 : decode cX12_factsOf 104 = .ok (.aload_n 0, 1) := dAt wdX12_factsOf_96 adX12_factsOf_96.2.2.2.2.2.1 rfl
theorem dX12_factsOf_105 : decode cX12_factsOf 105 = .ok (.getfield 49, 3) := dAt wdX12_factsOf_96 adX12_factsOf_96.2.2.2.2.2.2.1 rfl
theorem dX12_factsOf_108 : decode cX12_factsOf 108 = .ok (.iconst 3, 1) := dAt wdX12_factsOf_96 adX12_factsOf_96.2.2.2.2.2.2.2.1 rfl
theorem dX12_factsOf_109 : decode cX12_factsOf 109 = .ok (.iload_n 2, 1) := dAt wdX12_factsOf_96 adX12_factsOf_96.2.2.2.2.2.2.2.2.1 rfl
theorem dX12_factsOf_110 : decode cX12_factsOf 110 = .ok (.iastore, 1) := dAt wdX12_factsOf_96 adX12_factsOf_96.2.2.2.2.2.2.2.2.2.1 rfl
theorem dX12_factsOf_111 : decode cX12_factsOf 111 = .ok (.aload_n 0, 1) := dAt wdX12_factsOf_96 adX12_factsOf_96.2.2.2.2.2.2.2.2.2.2.1 rfl
theorem dX12_factsOf_112 : decode cX12_factsOf 112 = .ok (.getfield 49, 3) := dAt wdX12_factsOf_96 adX12_factsOf_96.2.2.2.2.2.2.2.2.2.2.2.1 rfl
theorem dX12_factsOf_115 : decode cX12_factsOf 115 = .ok (.iconst 4, 1) := dAt wdX12_factsOf_96 adX12_factsOf_96.2.2.2.2.2.2.2.2.2.2.2.2.1 rfl
theorem dX12_factsOf_116 : decode cX12_factsOf 116 = .ok (.iconst 0, 1) := dAt wdX12_factsOf_96 adX12_factsOf_96.2.2.2.2.2.2.2.2.2.2.2.2.2.1 rfl
theorem dX12_factsOf_117 : decode cX12_factsOf 117 = .ok (.iastore, 1) := dAt wdX12_factsOf_96 adX12_factsOf_96.2.2.2.2.2.2.2.2.2.2.2.2.2.2.1 rfl
theorem dX12_factsOf_118 : decode cX12_factsOf 118 = .ok (.aload_n 0, 1) := dAt wdX12_factsOf_96 adX12_factsOf_96.2.2.2.2.2.2.2.2.2.2.2.2.2.2.2 rfl
def bdX12_factsOf_119 : ByteArray := .mk #[180, 0, 49, 8, 16, 99, 79, 177]
theorem wdX12_factsOf_119 : LocW cX12_factsOf 119 bdX12_factsOf_119 := loc_of (by decide +kernel)
theorem adX12_factsOf_119 : De bdX12_factsOf_119 0 (.getfield 49) 3 ∧ De bdX12_factsOf_119 3 (.iconst 5) 1 ∧ De bdX12_factsOf_119 4 (.bipush 99) 2 ∧ De bdX12_factsOf_119 6 (.iastore) 1 ∧ De bdX12_factsOf_119 7 (.return_) 1 := by decide +kernel
theorem dX12_factsOf_119 : decode cX12_factsOf 119 = .ok (.getfield 49, 3) := dAt wdX12_factsOf_119 adX12_factsOf_119.1 rfl
theorem dX12_factsOf_122 : decode cX12_factsOf 122 = .ok (.iconst 5, 1) := dAt wdX12_factsOf_119 adX12_factsOf_119.2.1 rfl
theorem dX12_factsOf_123 : decode cX12_factsOf 123 = .ok (.bipush 99, 2) := dAt wdX12_factsOf_119 adX12_factsOf_119.2.2.1 rfl
theorem dX12_factsOf_125 : decode cX12_factsOf 125 = .ok (.iastore, 1) := dAt wdX12_factsOf_119 adX12_factsOf_119.2.2.2.1 rfl
theorem dX12_factsOf_126 : decode cX12_factsOf 126 = .ok (.return_, 1) := dAt wdX12_factsOf_119 adX12_factsOf_119.2.2.2.2 rfl
def bdX12_tells_0 : ByteArray := .mk #[42, 27, 28, 182, 1, 24, 42, 28, 182, 1, 28, 62, 42, 42, 29, 3, 182, 1, 31, 181, 1, 35, 42, 42]
theorem wdX12_tells_0 : LocW cX12_tells 0 bdX12_tells_0 := loc_of (by decide +kernel)
theorem adX12_tells_0 : De bdX12_tells_0 0 (.aload_n 0) 1 ∧ De bdX12_tells_0 1 (.iload_n 1) 1 ∧ De bdX12_tells_0 2 (.iload_n 2) 1 ∧ De bdX12_tells_0 3 (.invokevirtual 280) 3 ∧ De bdX12_tells_0 6 (.aload_n 0) 1 ∧ De bdX12_tells_0 7 (.iload_n 2) 1 ∧ De bdX12_tells_0 8 (.invokevirtual 284) 3 ∧ De bdX12_tells_0 11 (.istore_n 3) 1 ∧ De bdX12_tells_0 12 (.aload_n 0) 1 ∧ De bdX12_tells_0 13 (.aload_n 0) 1 ∧ De bdX12_tells_0 14 (.iload_n 3) 1 ∧ De bdX12_tells_0 15 (.iconst 0) 1 ∧ De bdX12_tells_0 16 (.invokevirtual 287) 3 ∧ De bdX12_tells_0 19 (.putfield 291) 3 ∧ De bdX12_tells_0 22 (.aload_n 0) 1 ∧ De bdX12_tells_0 23 (.aload_n 0) 1 := by decide +kernel
theorem dX12_tells_0 : decode cX12_tells 0 = .ok (.aload_n 0, 1) := dAt wdX12_tells_0 adX12_tells_0.1 rfl
theorem dX12_tells_1 : decode cX12_tells 1 = .ok (.iload_n 1, 1) := dAt wdX12_tells_0 adX12_tells_0.2.1 rfl
theorem dX12_tells_2 : decode cX12_tells 2 = .ok (.iload_n 2, 1) := dAt wdX12_tells_0 adX12_tells_0.2.2.1 rfl
theorem dX12_tells_3 : decode cX12_tells 3 = .ok (.invokevirtual 280, 3) := dAt wdX12_tells_0 adX12_tells_0.2.2.2.1 rfl
theorem dX12_tells_6 : decode cX12_tells 6 = .ok (.aload_n 0, 1) := dAt wdX12_tells_0 adX12_tells_0.2.2.2.2.1 rfl
theorem dX12_tells_7 : decode cX12_tells 7 = .ok (.iload_n 2, 1) := dAt wdX12_tells_0 adX12_tells_0.2.2.2.2.2.1 rfl
theorem dX12_tells_8 : decode cX12_tells 8 = .ok (.invokevirtual 284, 3) := dAt wdX12_tells_0 adX12_tells_0.2.2.2.2.2.2.1 rfl
theorem dX12_tells_11 : decode cX12_tells 11 = .ok (.istore_n 3, 1) := dAt wdX12_tells_0 adX12_tells_0.2.2.2.2.2.2.2.1 rfl
theorem dX12_tells_12 : decode cX12_tells 12 = .ok (.aload_n 0, 1) := dAt wdX12_tells_0 adX12_tells_0.2.2.2.2.2.2.2.2.1 rfl
theorem dX12_tells_13 : decode cX12_tells 13 = .ok (.aload_n 0, 1) := dAt wdX12_tells_0 adX12_tells_0.2.2.2.2.2.2.2.2.2.1 rfl
theorem dX12_tells_14 : decode cX12_tells 14 = .ok (.iload_n 3, 1) := dAt wdX12_tells_0 adX12_tells_0.2.2.2.2.2.2.2.2.2.2.1 rfl
theorem dX12_tells_15 : decode cX12_tells 15 = .ok (.iconst 0, 1) := dAt wdX12_tells_0 adX12_tells_0.2.2.2.2.2.2.2.2.2.2.2.1 rfl
theorem dX12_tells_16 : decode cX12_tells 16 = .ok (.invokevirtual 287, 3) := dAt wdX12_tells_0 adX12_tells_0.2.2.2.2.2.2.2.2.2.2.2.2.1 rfl
theorem dX12_tells_19 : decode cX12_tells 19 = .ok (.putfield 291, 3) := dAt wdX12_tells_0 adX12_tells_0.2.2.2.2.2.2.2.2.2.2.2.2.2.1 rfl
theorem dX12_tells_22 : decode cX12_tells 22 = .ok (.aload_n 0, 1) := dAt wdX12_tells_0 adX12_tells_0.2.2.2.2.2.2.2.2.2.2.2.2.2.2.1 rfl
theorem dX12_tells_23 : decode cX12_tells 23 = .ok (.aload_n 0, 1) := dAt wdX12_tells_0 adX12_tells_0.2.2.2.2.2.2.2.2.2.2.2.2.2.2.2 rfl
def bdX12_tells_24 : ByteArray := .mk #[29, 42, 180, 1, 35, 4, 16, 60, 182, 1, 38, 181, 1, 42, 42, 29, 4, 182, 1, 31, 54, 4, 42, 42, 29, 21, 4]
theorem wdX12_tells_24 : LocW cX12_tells 24 bdX12_tells_24 := loc_of (by decide +kernel)
theorem adX12_tells_24 : De bdX12_tells_24 0 (.iload_n 3) 1 ∧ De bdX12_tells_24 1 (.aload_n 0) 1 ∧ De bdX12_tells_24 2 (.getfield 291) 3 ∧ De bdX12_tells_24 5 (.iconst 1) 1 ∧ De bdX12_tells_24 6 (.bipush 60) 2 ∧ De bdX12_tells_24 8 (.invokevirtual 294) 3 ∧ De bdX12_tells_24 11 (.putfield 298) 3 ∧ De bdX12_tells_24 14 (.aload_n 0) 1 ∧ De bdX12_tells_24 15 (.iload_n 3) 1 ∧ De bdX12_tells_24 16 (.iconst 1) 1 ∧ De bdX12_tells_24 17 (.invokevirtual 287) 3 ∧ De bdX12_tells_24 20 (.istore 4) 2 ∧ De bdX12_tells_24 22 (.aload_n 0) 1 ∧ De bdX12_tells_24 23 (.aload_n 0) 1 ∧ De bdX12_tells_24 24 (.iload_n 3) 1 ∧ De bdX12_tells_24 25 (.iload 4) 2 := by decide +kernel
theorem dX12_tells_24 : decode cX12_tells 24 = .ok (.iload_n 3, 1) := dAt wdX12_tells_24 adX12_tells_24.1 rfl
theorem dX12_tells_25 : decode cX12_tells 25 = .ok (.aload_n 0, 1) := dAt wdX12_tells_24 adX12_tells_24.2.1 rfl
theorem dX12_tells_26 : decode cX12_tells 26 = .ok (.getfield 291, 3) := dAt wdX12_tells_24 adX12_tells_24.2.2.1 rfl
theorem dX12_tells_29 : decode cX12_tells 29 = .ok (.iconst 1, 1) := dAt wdX12_tells_24 adX12_tells_24.2.2.2.1 rfl
theorem dX12_tells_30 : decode cX12_tells 30 = .ok (.bipush 60, 2) := dAt wdX12_tells_24 adX12_tells_24.2.2.2.2.1 rfl
theorem dX12_tells_32 : decode cX12_tells 32 = .ok (.invokevirtual 294, 3) := dAt wdX12_tells_24 adX12_tells_24.2.2.2.2.2.1 rfl
theorem dX12_tells_35 : decode cX12_tells 35 = .ok (.putfield 298, 3) := dAt wdX12_tells_24 adX12_tells_24.2.2.2.2.2.2.1 rfl
theorem dX12_tells_38 : decode cX12_tells 38 = .ok (.aload_n 0, 1) := dAt wdX12_tells_24 adX12_tells_24.2.2.2.2.2.2.2.1 rfl
theorem dX12_tells_39 : decode cX12_tells 39 = .ok (.iload_n 3, 1) := dAt wdX12_tells_24 adX12_tells_24.2.2.2.2.2.2.2.2.1 rfl
theorem dX12_tells_40 : decode cX12_tells 40 = .ok (.iconst 1, 1) := dAt wdX12_tells_24 adX12_tells_24.2.2.2.2.2.2.2.2.2.1 rfl
theorem dX12_tells_41 : decode cX12_tells 41 = .ok (.invokevirtual 287, 3) := dAt wdX12_tells_24 adX12_tells_24.2.2.2.2.2.2.2.2.2.2.1 rfl
theorem dX12_tells_44 : decode cX12_tells 44 = .ok (.istore 4, 2) := dAt wdX12_tells_24 adX12_tells_24.2.2.2.2.2.2.2.2.2.2.2.1 rfl
theorem dX12_tells_46 : decode cX12_tells 46 = .ok (.aload_n 0, 1) := dAt wdX12_tells_24 adX12_tells_24.2.2.2.2.2.2.2.2.2.2.2.2.1 rfl
theorem dX12_tells_47 : decode cX12_tells 47 = .ok (.aload_n 0, 1) := dAt wdX12_tells_24 adX12_tells_24.2.2.2.2.2.2.2.2.2.2.2.2.2.1 rfl
theorem dX12_tells_48 : decode cX12_tells 48 = .ok (.iload_n 3, 1) := dAt wdX12_tells_24 adX12_tells_24.2.2.2.2.2.2.2.2.2.2.2.2.2.2.1 rfl
theorem dX12_tells_49 : decode cX12_tells 49 = .ok (.iload 4, 2) := dAt wdX12_tells_24 adX12_tells_24.2.2.2.2.2.2.2.2.2.2.2.2.2.2.2 rfl
def bdX12_tells_51 : ByteArray := .mk #[4, 5, 182, 1, 38, 181, 1, 44, 42, 42, 29, 21, 4, 5, 16, 6, 182, 1, 38, 181, 1, 47, 42, 42, 29, 42]
theorem wdX12_tells_51 : LocW cX12_tells 51 bdX12_tells_51 := loc_of (by decide +kernel)
theorem adX12_tells_51 : De bdX12_tells_51 0 (.iconst 1) 1 ∧ De bdX12_tells_51 1 (.iconst 2) 1 ∧ De bdX12_tells_51 2 (.invokevirtual 294) 3 ∧ De bdX12_tells_51 5 (.putfield 300) 3 ∧ De bdX12_tells_51 8 (.aload_n 0) 1 ∧ De bdX12_tells_51 9 (.aload_n 0) 1 ∧ De bdX12_tells_51 10 (.iload_n 3) 1 ∧ De bdX12_tells_51 11 (.iload 4) 2 ∧ De bdX12_tells_51 13 (.iconst 2) 1 ∧ De bdX12_tells_51 14 (.bipush 6) 2 ∧ De bdX12_tells_51 16 (.invokevirtual 294) 3 ∧ De bdX12_tells_51 19 (.putfield 303) 3 ∧ De bdX12_tells_51 22 (.aload_n 0) 1 ∧ De bdX12_tells_51 23 (.aload_n 0) 1 ∧ De bdX12_tells_51 24 (.iload_n 3) 1 ∧ De bdX12_tells_51 25 (.aload_n 0) 1 := by decide +kernel
theorem dX12_tells_51 : decode cX12_tells 51 = .ok (.iconst 1, 1) := dAt wdX12_tells_51 adX12_tells_51.1 rfl
theorem dX12_tells_52 : decode cX12_tells 52 = .ok (.iconst 2, 1) := dAt wdX12_tells_51 adX12_tells_51.2.1 rfl
theorem dX12_tells_53 : decode cX12_tells 53 = .ok (.invokevirtual 294, 3) := dAt wdX12_tells_51 adX12_tells_51.2.2.1 rfl
theorem dX12_tells_56 : decode cX12_tells 56 = .ok (.putfield 300, 3) := dAt wdX12_tells_51 adX12_tells_51.2.2.2.1 rfl
theorem dX12_tells_59 : decode cX12_tells 59 = .ok (.aload_n 0, 1) := dAt wdX12_tells_51 adX12_tells_51.2.2.2.2.1 rfl
theorem dX12_tells_60 : decode cX12_tells 60 = .ok (.aload_n 0, 1) := dAt wdX12_tells_51 adX12_tells_51.2.2.2.2.2.1 rfl
theorem dX12_tells_61 : decode cX12_tells 61 = .ok (.iload_n 3, 1) := dAt wdX12_tells_51 adX12_tells_51.2.2.2.2.2.2.1 rfl
theorem dX12_tells_62 : decode cX12_tells 62 = .ok (.iload 4, 2) := dAt wdX12_tells_51 adX12_tells_51.2.2.2.2.2.2.2.1 rfl
theorem dX12_tells_64 : decode cX12_tells 64 = .ok (.iconst 2, 1) := dAt wdX12_tells_51 adX12_tells_51.2.2.2.2.2.2.2.2.1 rfl
theorem dX12_tells_65 : decode cX12_tells 65 = .ok (.bipush 6, 2) := dAt wdX12_tells_51 adX12_tells_51.2.2.2.2.2.2.2.2.2.1 rfl
theorem dX12_tells_67 : decode cX12_tells 67 = .ok (.invokevirtual 294, 3) := dAt wdX12_tells_51 adX12_tells_51.2.2.2.2.2.2.2.2.2.2.1 rfl
theorem dX12_tells_70 : decode cX12_tells 70 = .ok (.putfield 303, 3) := dAt wdX12_tells_51 adX12_tells_51.2.2.2.2.2.2.2.2.2.2.2.1 rfl
theorem dX12_tells_73 : decode cX12_tells 73 = .ok (.aload_n 0, 1) := dAt wdX12_tells_51 adX12_tells_51.2.2.2.2.2.2.2.2.2.2.2.2.1 rfl
theorem dX12_tells_74 : decode cX12_tells 74 = .ok (.aload_n 0, 1) := dAt wdX12_tells_51 adX12_tells_51.2.2.2.2.2.2.2.2.2.2.2.2.2.1 rfl
theorem dX12_tells_75 : decode cX12_tells 75 = .ok (.iload_n 3, 1) := dAt wdX12_tells_51 adX12_tells_51.2.2.2.2.2.2.2.2.2.2.2.2.2.2.1 rfl
theorem dX12_tells_76 : decode cX12_tells 76 = .ok (.aload_n 0, 1) := dAt wdX12_tells_51 adX12_tells_51.2.2.2.2.2.2.2.2.2.2.2.2.2.2.2 rfl
def bdX12_tells_77 : ByteArray := .mk #[29, 5, 182, 1, 31, 4, 16, 25, 182, 1, 38, 181, 1, 50, 42, 42, 29, 42, 29, 6, 182, 1, 31, 4, 3]
theorem wdX12_tells_77 : LocW cX12_tells 77 bdX12_tells_77 := loc_of (by decide +kernel)
theorem adX12_tells_77 : De bdX12_tells_77 0 (.iload_n 3) 1 ∧ De bdX12_tells_77 1 (.iconst 2) 1 ∧ De bdX12_tells_77 2 (.invokevirtual 287) 3 ∧ De bdX12_tells_77 5 (.iconst 1) 1 ∧ De bdX12_tells_77 6 (.bipush 25) 2 ∧ De bdX12_tells_77 8 (.invokevirtual 294) 3 ∧ De bdX12_tells_77 11 (.putfield 306) 3 ∧ De bdX12_tells_77 14 (.aload_n 0) 1 ∧ De bdX12_tells_77 15 (.aload_n 0) 1 ∧ De bdX12_tells_77 16 (.iload_n 3) 1 ∧ De bdX12_tells_77 17 (.aload_n 0) 1 ∧ De bdX12_tells_77 18 (.iload_n 3) 1 ∧ De bdX12_tells_77 19 (.iconst 3) 1 ∧ De bdX12_tells_77 20 (.invokevirtual 287) 3 ∧ De bdX12_tells_77 23 (.iconst 1) 1 ∧ De bdX12_tells_77 24 (.iconst 0) 1 := by decide +kernel
theorem dX12_tells_77 : decode cX12_tells 77 = .ok (.iload_n 3, 1) := dAt wdX12_tells_77 adX12_tells_77.1 rfl
theorem dX12_tells_78 : decode cX12_tells 78 = .ok (.iconst 2, 1) := dAt wdX12_tells_77 adX12_tells_77.2.1 rfl
theorem dX12_tells_79 : decode cX12_tells 79 = .ok (.invokevirtual 287, 3) := dAt wdX12_tells_77 adX12_tells_77.2.2.1 rfl
theorem dX12_tells_82 : decode cX12_tells 82 = .ok (.iconst 1, 1) := dAt wdX12_tells_77 adX12_tells_77.2.2.2.1 rfl
theorem dX12_tells_83 : decode cX12_tells 83 = .ok (.bipush 25, 2) := dAt wdX12_tells_77 adX12_tells_77.2.2.2.2.1 rfl
theorem dX12_tells_85 : decode cX12_tells 85 = .ok (.invokevirtual 294, 3) := dAt wdX12_tells_77 adX12_tells_77.2.2.2.2.2.1 rfl
theorem dX12_tells_88 : decode cX12_tells 88 = .ok (.putfield 306, 3) := dAt wdX12_tells_77 adX12_tells_77.2.2.2.2.2.2.1 rfl
theorem dX12_tells_91 : decode cX12_tells 91 = .ok (.aload_n 0, 1) := dAt wdX12_tells_77 adX12_tells_77.2.2.2.2.2.2.2.1 rfl
theorem dX12_tells_92 : decode cX12_tells 92 = .ok (.aload_n 0, 1) := dAt wdX12_tells_77 adX12_tells_77.2.2.2.2.2.2.2.2.1 rfl
theorem dX12_tells_93 : decode cX12_tells 93 = .ok (.iload_n 3, 1) := dAt wdX12_tells_77 adX12_tells_77.2.2.2.2.2.2.2.2.2.1 rfl
theorem dX12_tells_94 : decode cX12_tells 94 = .ok (.aload_n 0, 1) := dAt wdX12_tells_77 adX12_tells_77.2.2.2.2.2.2.2.2.2.2.1 rfl
theorem dX12_tells_95 : decode cX12_tells 95 = .ok (.iload_n 3, 1) := dAt wdX12_tells_77 adX12_tells_77.2.2.2.2.2.2.2.2.2.2.2.1 rfl
theorem dX12_tells_96 : decode cX12_tells 96 = .ok (.iconst 3, 1) := dAt wdX12_tells_77 adX12_tells_77.2.2.2.2.2.2.2.2.2.2.2.2.1 rfl
theorem dX12_tells_97 : decode cX12_tells 97 = .ok (.invokevirtual 287, 3) := dAt wdX12_tells_77 adX12_tells_77.2.2.2.2.2.2.2.2.2.2.2.2.2.1 rfl
theorem dX12_tells_100 : decode cX12_tells 100 = .ok (.iconst 1, 1) := dAt wdX12_tells_77 adX12_tells_77.2.2.2.2.2.2.2.2.2.2.2.2.2.2.1 rfl
theorem dX12_tells_101 : decode cX12_tells 101 = .ok (.iconst 0, 1) := dAt wdX12_tells_77 adX12_tells_77.2.2.2.2.2.2.2.2.2.2.2.2.2.2.2 rfl
def bdX12_tells_102 : ByteArray := .mk #[182, 1, 38, 181, 1, 53, 177]
theorem wdX12_tells_102 : LocW cX12_tells 102 bdX12_tells_102 := loc_of (by decide +kernel)
theorem adX12_tells_102 : De bdX12_tells_102 0 (.invokevirtual 294) 3 ∧ De bdX12_tells_102 3 (.putfield 309) 3 ∧ De bdX12_tells_102 6 (.return_) 1 := by decide +kernel
theorem dX12_tells_102 : decode cX12_tells 102 = .ok (.invokevirtual 294, 3) := dAt wdX12_tells_102 adX12_tells_102.1 rfl
theorem dX12_tells_105 : decode cX12_tells 105 = .ok (.putfield 309, 3) := dAt wdX12_tells_102 adX12_tells_102.2.1 rfl
theorem dX12_tells_108 : decode cX12_tells 108 = .ok (.return_, 1) := dAt wdX12_tells_102 adX12_tells_102.2.2 rfl
def bdX12_rule_0 : ByteArray := .mk #[42, 42, 27, 182, 1, 55, 154, 0, 7, 4, 167, 0, 32, 28, 3, 17, 2, 88, 184, 0, 157, 154, 0, 7, 5, 167, 0, 17, 29, 3]
theorem wdX12_rule_0 : LocW cX12_rule 0 bdX12_rule_0 := loc_of (by decide +kernel)
theorem adX12_rule_0 : De bdX12_rule_0 0 (.aload_n 0) 1 ∧ De bdX12_rule_0 1 (.aload_n 0) 1 ∧ De bdX12_rule_0 2 (.iload_n 1) 1 ∧ De bdX12_rule_0 3 (.invokevirtual 311) 3 ∧ De bdX12_rule_0 6 (.ifCond .ne 7) 3 ∧ De bdX12_rule_0 9 (.iconst 1) 1 ∧ De bdX12_rule_0 10 (.goto 32) 3 ∧ De bdX12_rule_0 13 (.iload_n 2) 1 ∧ De bdX12_rule_0 14 (.iconst 0) 1 ∧ De bdX12_rule_0 15 (.sipush 600) 3 ∧ De bdX12_rule_0 18 (.invokestatic 157) 3 ∧ De bdX12_rule_0 21 (.ifCond .ne 7) 3 ∧ De bdX12_rule_0 24 (.iconst 2) 1 ∧ De bdX12_rule_0 25 (.goto 17) 3 ∧ De bdX12_rule_0 28 (.iload_n 3) 1 ∧ De bdX12_rule_0 29 (.iconst 0) 1 := by decide +kernel
theorem dX12_rule_0 : decode cX12_rule 0 = .ok (.aload_n 0, 1) := dAt wdX12_rule_0 adX12_rule_0.1 rfl
theorem dX12_rule_1 : decode cX12_rule 1 = .ok (.aload_n 0, 1) := dAt wdX12_rule_0 adX12_rule_0.2.1 rfl
theorem dX12_rule_2 : decode cX12_rule 2 = .ok (.iload_n 1, 1) := dAt wdX12_rule_0 adX12_rule_0.2.2.1 rfl
theorem dX12_rule_3 : decode cX12_rule 3 = .ok (.invokevirtual 311, 3) := dAt wdX12_rule_0 adX12_rule_0.2.2.2.1 rfl
theorem dX12_rule_6 : decode cX12_rule 6 = .ok (.ifCond .ne 7, 3) := dAt wdX12_rule_0 adX12_rule_0.2.2.2.2.1 rfl
theorem dX12_rule_9 : decode cX12_rule 9 = .ok (.iconst 1, 1) := dAt wdX12_rule_0 adX12_rule_0.2.2.2.2.2.1 rfl
theorem dX12_rule_10 : decode cX12_rule 10 = .ok (.goto 32, 3) := dAt wdX12_rule_0 adX12_rule_0.2.2.2.2.2.2.1 rfl
theorem dX12_rule_13 : decode cX12_rule 13 = .ok (.iload_n 2, 1) := dAt wdX12_rule_0 adX12_rule_0.2.2.2.2.2.2.2.1 rfl
theorem dX12_rule_14 : decode cX12_rule 14 = .ok (.iconst 0, 1) := dAt wdX12_rule_0 adX12_rule_0.2.2.2.2.2.2.2.2.1 rfl
theorem dX12_rule_15 : decode cX12_rule 15 = .ok (.sipush 600, 3) := dAt wdX12_rule_0 adX12_rule_0.2.2.2.2.2.2.2.2.2.1 rfl
theorem dX12_rule_18 : decode cX12_rule 18 = .ok (.invokestatic 157, 3) := dAt wdX12_rule_0 adX12_rule_0.2.2.2.2.2.2.2.2.2.2.1 rfl
theorem dX12_rule_21 : decode cX12_rule 21 = .ok (.ifCond .ne 7, 3) := dAt wdX12_rule_0 adX12_rule_0.2.2.2.2.2.2.2.2.2.2.2.1 rfl
theorem dX12_rule_24 : decode cX12_rule 24 = .ok (.iconst 2, 1) := dAt wdX12_rule_0 adX12_rule_0.2.2.2.2.2.2.2.2.2.2.2.2.1 rfl
theorem dX12_rule_25 : decode cX12_rule 25 = .ok (.goto 17, 3) := dAt wdX12_rule_0 adX12_rule_0.2.2.2.2.2.2.2.2.2.2.2.2.2.1 rfl
theorem dX12_rule_28 : decode cX12_rule 28 = .ok (.iload_n 3, 1) := dAt wdX12_rule_0 adX12_rule_0.2.2.2.2.2.2.2.2.2.2.2.2.2.2.1 rfl
theorem dX12_rule_29 : decode cX12_rule 29 = .ok (.iconst 0, 1) := dAt wdX12_rule_0 adX12_rule_0.2.2.2.2.2.2.2.2.2.2.2.2.2.2.2 rfl
def bdX12_rule_30 : ByteArray := .mk #[8, 184, 0, 157, 154, 0, 7, 6, 167, 0, 4, 3, 181, 0, 122, 42, 180, 0, 122, 158, 0, 5, 3, 172, 42, 27, 28, 182, 1, 58]
theorem wdX12_rule_30 : LocW cX12_rule 30 bdX12_rule_30 := loc_of (by decide +kernel)
theorem adX12_rule_30 : De bdX12_rule_30 0 (.iconst 5) 1 ∧ De bdX12_rule_30 1 (.invokestatic 157) 3 ∧ De bdX12_rule_30 4 (.ifCond .ne 7) 3 ∧ De bdX12_rule_30 7 (.iconst 3) 1 ∧ De bdX12_rule_30 8 (.goto 4) 3 ∧ De bdX12_rule_30 11 (.iconst 0) 1 ∧ De bdX12_rule_30 12 (.putfield 122) 3 ∧ De bdX12_rule_30 15 (.aload_n 0) 1 ∧ De bdX12_rule_30 16 (.getfield 122) 3 ∧ De bdX12_rule_30 19 (.ifCond .le 5) 3 ∧ De bdX12_rule_30 22 (.iconst 0) 1 ∧ De bdX12_rule_30 23 (.ireturn) 1 ∧ De bdX12_rule_30 24 (.aload_n 0) 1 ∧ De bdX12_rule_30 25 (.iload_n 1) 1 ∧ De bdX12_rule_30 26 (.iload_n 2) 1 ∧ De bdX12_rule_30 27 (.invokevirtual 314) 3 := by decide +kernel
theorem dX12_rule_30 : decode cX12_rule 30 = .ok (.iconst 5, 1) := dAt wdX12_rule_30 adX12_rule_30.1 rfl
theorem dX12_rule_31 : decode cX12_rule 31 = .ok (.invokestatic 157, 3) := dAt wdX12_rule_30 adX12_rule_30.2.1 rfl
theorem dX12_rule_34 : decode cX12_rule 34 = .ok (.ifCond .ne 7, 3) := dAt wdX12_rule_30 adX12_rule_30.2.2.1 rfl
theorem dX12_rule_37 : decode cX12_rule 37 = .ok (.iconst 3, 1) := dAt wdX12_rule_30 adX12_rule_30.2.2.2.1 rfl
theorem dX12_rule_38 : decode cX12_rule 38 = .ok (.goto 4, 3) := dAt wdX12_rule_30 adX12_rule_30.2.2.2.2.1 rfl
theorem dX12_rule_41 : decode cX12_rule 41 = .ok (.iconst 0, 1) := dAt wdX12_rule_30 adX12_rule_30.2.2.2.2.2.1 rfl
theorem dX12_rule_42 : decode cX12_rule 42 = .ok (.putfield 122, 3) := dAt wdX12_rule_30 adX12_rule_30.2.2.2.2.2.2.1 rfl
theorem dX12_rule_45 : decode cX12_rule 45 = .ok (.aload_n 0, 1) := dAt wdX12_rule_30 adX12_rule_30.2.2.2.2.2.2.2.1 rfl
theorem dX12_rule_46 : decode cX12_rule 46 = .ok (.getfield 122, 3) := dAt wdX12_rule_30 adX12_rule_30.2.2.2.2.2.2.2.2.1 rfl
theorem dX12_rule_49 : decode cX12_rule 49 = .ok (.ifCond .le 5, 3) := dAt wdX12_rule_30 adX12_rule_30.2.2.2.2.2.2.2.2.2.1 rfl
theorem dX12_rule_52 : decode cX12_rule 52 = .ok (.iconst 0, 1) := dAt wdX12_rule_30 adX12_rule_30.2.2.2.2.2.2.2.2.2.2.1 rfl
theorem dX12_rule_53 : decode cX12_rule 53 = .ok (.ireturn, 1) := dAt wdX12_rule_30 adX12_rule_30.2.2.2.2.2.2.2.2.2.2.2.1 rfl
theorem dX12_rule_54 : decode cX12_rule 54 = .ok (.aload_n 0, 1) := dAt wdX12_rule_30 adX12_rule_30.2.2.2.2.2.2.2.2.2.2.2.2.1 rfl
theorem dX12_rule_55 : decode cX12_rule 55 = .ok (.iload_n 1, 1) := dAt wdX12_rule_30 adX12_rule_30.2.2.2.2.2.2.2.2.2.2.2.2.2.1 rfl
theorem dX12_rule_56 : decode cX12_rule 56 = .ok (.iload_n 2, 1) := dAt wdX12_rule_30 adX12_rule_30.2.2.2.2.2.2.2.2.2.2.2.2.2.2.1 rfl
theorem dX12_rule_57 : decode cX12_rule 57 = .ok (.invokevirtual 314, 3) := dAt wdX12_rule_30 adX12_rule_30.2.2.2.2.2.2.2.2.2.2.2.2.2.2.2 rfl
def bdX12_rule_60 : ByteArray := .mk #[29, 154, 0, 10, 42, 180, 1, 42, 167, 0, 55, 29, 4, 160, 0, 10, 42, 180, 1, 44, 167, 0, 43, 29, 5, 160, 0, 10, 42, 180, 1, 47]
theorem wdX12_rule_60 : LocW cX12_rule 60 bdX12_rule_60 := loc_of (by decide +kernel)
theorem adX12_rule_60 : De bdX12_rule_60 0 (.iload_n 3) 1 ∧ De bdX12_rule_60 1 (.ifCond .ne 10) 3 ∧ De bdX12_rule_60 4 (.aload_n 0) 1 ∧ De bdX12_rule_60 5 (.getfield 298) 3 ∧ De bdX12_rule_60 8 (.goto 55) 3 ∧ De bdX12_rule_60 11 (.iload_n 3) 1 ∧ De bdX12_rule_60 12 (.iconst 1) 1 ∧ De bdX12_rule_60 13 (.if_icmp .ne 10) 3 ∧ De bdX12_rule_60 16 (.aload_n 0) 1 ∧ De bdX12_rule_60 17 (.getfield 300) 3 ∧ De bdX12_rule_60 20 (.goto 43) 3 ∧ De bdX12_rule_60 23 (.iload_n 3) 1 ∧ De bdX12_rule_60 24 (.iconst 2) 1 ∧ De bdX12_rule_60 25 (.if_icmp .ne 10) 3 ∧ De bdX12_rule_60 28 (.aload_n 0) 1 ∧ De bdX12_rule_60 29 (.getfield 303) 3 := by decide +kernel
theorem dX12_rule_60 : decode cX12_rule 60 = .ok (.iload_n 3, 1) := dAt wdX12_rule_60 adX12_rule_60.1 rfl
theorem dX12_rule_61 : decode cX12_rule 61 = .ok (.ifCond .ne 10, 3) := dAt wdX12_rule_60 adX12_rule_60.2.1 rfl
theorem dX12_rule_64 : decode cX12_rule 64 = .ok (.aload_n 0, 1) := dAt wdX12_rule_60 adX12_rule_60.2.2.1 rfl
theorem dX12_rule_65 : decode cX12_rule 65 = .ok (.getfield 298, 3) := dAt wdX12_rule_60 adX12_rule_60.2.2.2.1 rfl
theorem dX12_rule_68 : decode cX12_rule 68 = .ok (.goto 55, 3) := dAt wdX12_rule_60 adX12_rule_60.2.2.2.2.1 rfl
theorem dX12_rule_71 : decode cX12_rule 71 = .ok (.iload_n 3, 1) := dAt wdX12_rule_60 adX12_rule_60.2.2.2.2.2.1 rfl
theorem dX12_rule_72 : decode cX12_rule 72 = .ok (.iconst 1, 1) := dAt wdX12_rule_60 adX12_rule_60.2.2.2.2.2.2.1 rfl
theorem dX12_rule_73 : decode cX12_rule 73 = .ok (.if_icmp .ne 10, 3) := dAt wdX12_rule_60 adX12_rule_60.2.2.2.2.2.2.2.1 rfl
theorem dX12_rule_76 : decode cX12_rule 76 = .ok (.aload_n 0, 1) := dAt wdX12_rule_60 adX12_rule_60.2.2.2.2.2.2.2.2.1 rfl
theorem dX12_rule_77 : decode cX12_rule 77 = .ok (.getfield 300, 3) := dAt wdX12_rule_60 adX12_rule_60.2.2.2.2.2.2.2.2.2.1 rfl
theorem dX12_rule_80 : decode cX12_rule 80 = .ok (.goto 43, 3) := dAt wdX12_rule_60 adX12_rule_60.2.2.2.2.2.2.2.2.2.2.1 rfl
theorem dX12_rule_83 : decode cX12_rule 83 = .ok (.iload_n 3, 1) := dAt wdX12_rule_60 adX12_rule_60.2.2.2.2.2.2.2.2.2.2.2.1 rfl
theorem dX12_rule_84 : decode cX12_rule 84 = .ok (.iconst 2, 1) := dAt wdX12_rule_60 adX12_rule_60.2.2.2.2.2.2.2.2.2.2.2.2.1 rfl
theorem dX12_rule_85 : decode cX12_rule 85 = .ok (.if_icmp .ne 10, 3) := dAt wdX12_rule_60 adX12_rule_60.2.2.2.2.2.2.2.2.2.2.2.2.2.1 rfl
theorem dX12_rule_88 : decode cX12_rule 88 = .ok (.aload_n 0, 1) := dAt wdX12_rule_60 adX12_rule_60.2.2.2.2.2.2.2.2.2.2.2.2.2.2.1 rfl
theorem dX12_rule_89 : decode cX12_rule 89 = .ok (.getfield 303, 3) := dAt wdX12_rule_60 adX12_rule_60.2.2.2.2.2.2.2.2.2.2.2.2.2.2.2 rfl
def bdX12_rule_92 : ByteArray := .mk #[167, 0, 31, 29, 6, 160, 0, 10, 42, 180, 1, 50, 167, 0, 19, 29, 7, 160, 0, 10, 42, 180, 1, 53, 167, 0, 7, 42, 180, 1, 35, 172]
theorem wdX12_rule_92 : LocW cX12_rule 92 bdX12_rule_92 := loc_of (by decide +kernel)
theorem adX12_rule_92 : De bdX12_rule_92 0 (.goto 31) 3 ∧ De bdX12_rule_92 3 (.iload_n 3) 1 ∧ De bdX12_rule_92 4 (.iconst 3) 1 ∧ De bdX12_rule_92 5 (.if_icmp .ne 10) 3 ∧ De bdX12_rule_92 8 (.aload_n 0) 1 ∧ De bdX12_rule_92 9 (.getfield 306) 3 ∧ De bdX12_rule_92 12 (.goto 19) 3 ∧ De bdX12_rule_92 15 (.iload_n 3) 1 ∧ De bdX12_rule_92 16 (.iconst 4) 1 ∧ De bdX12_rule_92 17 (.if_icmp .ne 10) 3 ∧ De bdX12_rule_92 20 (.aload_n 0) 1 ∧ De bdX12_rule_92 21 (.getfield 309) 3 ∧ De bdX12_rule_92 24 (.goto 7) 3 ∧ De bdX12_rule_92 27 (.aload_n 0) 1 ∧ De bdX12_rule_92 28 (.getfield 291) 3 ∧ De bdX12_rule_92 31 (.ireturn) 1 := by decide +kernel
theorem dX12_rule_92 : decode cX12_rule 92 = .ok (.goto 31, 3) := dAt wdX12_rule_92 adX12_rule_92.1 rfl
theorem dX12_rule_95 : decode cX12_rule 95 = .ok (.iload_n 3, 1) := dAt wdX12_rule_92 adX12_rule_92.2.1 rfl
theorem dX12_rule_96 : decode cX12_rule 96 = .ok (.iconst 3, 1) := dAt wdX12_rule_92 adX12_rule_92.2.2.1 rfl
theorem dX12_rule_97 : decode cX12_rule 97 = .ok (.if_icmp .ne 10, 3) := dAt wdX12_rule_92 adX12_rule_92.2.2.2.1 rfl
theorem dX12_rule_100 : decode cX12_rule 100 = .ok (.aload_n 0, 1) := dAt wdX12_rule_92 adX12_rule_92.2.2.2.2.1 rfl
theorem dX12_rule_101 : decode cX12_rule 101 = .ok (.getfield 306, 3) := dAt wdX12_rule_92 adX12_rule_92.2.2.2.2.2.1 rfl
theorem dX12_rule_104 : decode cX12_rule 104 = .ok (.goto 19, 3) := dAt wdX12_rule_92 adX12_rule_92.2.2.2.2.2.2.1 rfl
theorem dX12_rule_107 : decode cX12_rule 107 = .ok (.iload_n 3, 1) := dAt wdX12_rule_92 adX12_rule_92.2.2.2.2.2.2.2.1 rfl
theorem dX12_rule_108 : decode cX12_rule 108 = .ok (.iconst 4, 1) := dAt wdX12_rule_92 adX12_rule_92.2.2.2.2.2.2.2.2.1 rfl
theorem dX12_rule_109 : decode cX12_rule 109 = .ok (.if_icmp .ne 10, 3) := dAt wdX12_rule_92 adX12_rule_92.2.2.2.2.2.2.2.2.2.1 rfl
theorem dX12_rule_112 : decode cX12_rule 112 = .ok (.aload_n 0, 1) := dAt wdX12_rule_92 adX12_rule_92.2.2.2.2.2.2.2.2.2.2.1 rfl
theorem dX12_rule_113 : decode cX12_rule 113 = .ok (.getfield 309, 3) := dAt wdX12_rule_92 adX12_rule_92.2.2.2.2.2.2.2.2.2.2.2.1 rfl
theorem dX12_rule_116 : decode cX12_rule 116 = .ok (.goto 7, 3) := dAt wdX12_rule_92 adX12_rule_92.2.2.2.2.2.2.2.2.2.2.2.2.1 rfl
theorem dX12_rule_119 : decode cX12_rule 119 = .ok (.aload_n 0, 1) := dAt wdX12_rule_92 adX12_rule_92.2.2.2.2.2.2.2.2.2.2.2.2.2.1 rfl
theorem dX12_rule_120 : decode cX12_rule 120 = .ok (.getfield 291, 3) := dAt wdX12_rule_92 adX12_rule_92.2.2.2.2.2.2.2.2.2.2.2.2.2.2.1 rfl
theorem dX12_rule_123 : decode cX12_rule 123 = .ok (.ireturn, 1) := dAt wdX12_rule_92 adX12_rule_92.2.2.2.2.2.2.2.2.2.2.2.2.2.2.2 rfl
def bdX12_endsWord_0 : ByteArray := .mk #[28, 42, 180, 0, 8, 27, 4, 96, 46, 4, 100, 159, 0, 30, 42, 180, 0, 8, 27, 16, 85, 96, 28]
theorem wdX12_endsWord_0 : LocW cX12_endsWord 0 bdX12_endsWord_0 := loc_of (by decide +kernel)
theorem adX12_endsWord_0 : De bdX12_endsWord_0 0 (.iload_n 2) 1 ∧ De bdX12_endsWord_0 1 (.aload_n 0) 1 ∧ De bdX12_endsWord_0 2 (.getfield 8) 3 ∧ De bdX12_endsWord_0 5 (.iload_n 1) 1 ∧ De bdX12_endsWord_0 6 (.iconst 1) 1 ∧ De bdX12_endsWord_0 7 (.iadd) 1 ∧ De bdX12_endsWord_0 8 (.iaload) 1 ∧ De bdX12_endsWord_0 9 (.iconst 1) 1 ∧ De bdX12_endsWord_0 10 (.isub) 1 ∧ De bdX12_endsWord_0 11 (.if_icmp .eq 30) 3 ∧ De bdX12_endsWord_0 14 (.aload_n 0) 1 ∧ De bdX12_endsWord_0 15 (.getfield 8) 3 ∧ De bdX12_endsWord_0 18 (.iload_n 1) 1 ∧ De bdX12_endsWord_0 19 (.bipush 85) 2 ∧ De bdX12_endsWord_0 21 (.iadd) 1 ∧ De bdX12_endsWord_0 22 (.iload_n 2) 1 := by decide +kernel
theorem dX12_endsWord_0 : decode cX12_endsWord 0 = .ok (.iload_n 2, 1) := dAt wdX12_endsWord_0 adX12_endsWord_0.1 rfl
theorem dX12_endsWord_1 : decode cX12_endsWord 1 = .ok (.aload_n 0, 1) := dAt wdX12_endsWord_0 adX12_endsWord_0.2.1 rfl
theorem dX12_endsWord_2 : decode cX12_endsWord 2 = .ok (.getfield 8, 3) := dAt wdX12_endsWord_0 adX12_endsWord_0.2.2.1 rfl
theorem dX12_endsWord_5 : decode cX12_endsWord 5 = .ok (.iload_n 1, 1) := dAt wdX12_endsWord_0 adX12_endsWord_0.2.2.2.1 rfl
theorem dX12_endsWord_6 : decode cX12_endsWord 6 = .ok (.iconst 1, 1) := dAt wdX12_endsWord_0 adX12_endsWord_0.2.2.2.2.1 rfl
theorem dX12_endsWord_7 : decode cX12_endsWord 7 = .ok (.iadd, 1) := dAt wdX12_endsWord_0 adX12_endsWord_0.2.2.2.2.2.1 rfl
theorem dX12_endsWord_8 : decode cX12_endsWord 8 = .ok (.iaload, 1) := dAt wdX12_endsWord_0 adX12_endsWord_0.2.2.2.2.2.2.1 rfl
theorem dX12_endsWord_9 : decode cX12_endsWord 9 = .ok (.iconst 1, 1) := dAt wdX12_endsWord_0 adX12_endsWord_0.2.2.2.2.2.2.2.1 rfl
theorem dX12_endsWord_10 : decode cX12_endsWord 10 = .ok (.isub, 1) := dAt wdX12_endsWord_0 adX12_endsWord_0.2.2.2.2.2.2.2.2.1 rfl
theorem dX12_endsWord_11 : decode cX12_endsWord 11 = .ok (.if_icmp .eq 30, 3) := dAt wdX12_endsWord_0 adX12_endsWord_0.2.2.2.2.2.2.2.2.2.1 rfl
theorem dX12_endsWord_14 : decode cX12_endsWord 14 = .ok (.aload_n 0, 1) := dAt wdX12_endsWord_0 adX12_endsWord_0.2.2.2.2.2.2.2.2.2.2.1 rfl
theorem dX12_endsWord_15 : decode cX12_endsWord 15 = .ok (.getfield 8, 3) := dAt wdX12_endsWord_0 adX12_endsWord_0.2.2.2.2.2.2.2.2.2.2.2.1 rfl
theorem dX12_endsWord_18 : decode cX12_endsWord 18 = .ok (.iload_n 1, 1) := dAt wdX12_endsWord_0 adX12_endsWord_0.2.2.2.2.2.2.2.2.2.2.2.2.1 rfl
theorem dX12_endsWord_19 : decode cX12_endsWord 19 = .ok (.bipush 85, 2) := dAt wdX12_endsWord_0 adX12_endsWord_0.2.2.2.2.2.2.2.2.2.2.2.2.2.1 rfl
theorem dX12_endsWord_21 : decode cX12_endsWord 21 = .ok (.iadd, 1) := dAt wdX12_endsWord_0 adX12_endsWord_0.2.2.2.2.2.2.2.2.2.2.2.2.2.2.1 rfl
theorem dX12_endsWord_22 : decode cX12_endsWord 22 = .ok (.iload_n 2, 1) := dAt wdX12_endsWord_0 adX12_endsWord_0.2.2.2.2.2.2.2.2.2.2.2.2.2.2.2 rfl
def bdX12_endsWord_23 : ByteArray := .mk #[96, 46, 42, 180, 0, 8, 27, 16, 85, 96, 28, 96, 4, 96, 46, 159, 0, 7, 4, 167, 0, 4, 3]
theorem wdX12_endsWord_23 : LocW cX12_endsWord 23 bdX12_endsWord_23 := loc_of (by decide +kernel)
theorem adX12_endsWord_23 : De bdX12_endsWord_23 0 (.iadd) 1 ∧ De bdX12_endsWord_23 1 (.iaload) 1 ∧ De bdX12_endsWord_23 2 (.aload_n 0) 1 ∧ De bdX12_endsWord_23 3 (.getfield 8) 3 ∧ De bdX12_endsWord_23 6 (.iload_n 1) 1 ∧ De bdX12_endsWord_23 7 (.bipush 85) 2 ∧ De bdX12_endsWord_23 9 (.iadd) 1 ∧ De bdX12_endsWord_23 10 (.iload_n 2) 1 ∧ De bdX12_endsWord_23 11 (.iadd) 1 ∧ De bdX12_endsWord_23 12 (.iconst 1) 1 ∧ De bdX12_endsWord_23 13 (.iadd) 1 ∧ De bdX12_endsWord_23 14 (.iaload) 1 ∧ De bdX12_endsWord_23 15 (.if_icmp .eq 7) 3 ∧ De bdX12_endsWord_23 18 (.iconst 1) 1 ∧ De bdX12_endsWord_23 19 (.goto 4) 3 ∧ De bdX12_endsWord_23 22 (.iconst 0) 1 := by decide +kernel
theorem dX12_endsWord_23 : decode cX12_endsWord 23 = .ok (.iadd, 1) := dAt wdX12_endsWord_23 adX12_endsWord_23.1 rfl
theorem dX12_endsWord_24 : decode cX12_endsWord 24 = .ok (.iaload, 1) := dAt wdX12_endsWord_23 adX12_endsWord_23.2.1 rfl
theorem dX12_endsWord_25 : decode cX12_endsWord 25 = .ok (.aload_n 0, 1) := dAt wdX12_endsWord_23 adX12_endsWord_23.2.2.1 rfl
theorem dX12_endsWord_26 : decode cX12_endsWord 26 = .ok (.getfield 8, 3) := dAt wdX12_endsWord_23 adX12_endsWord_23.2.2.2.1 rfl
theorem dX12_endsWord_29 : decode cX12_endsWord 29 = .ok (.iload_n 1, 1) := dAt wdX12_endsWord_23 adX12_endsWord_23.2.2.2.2.1 rfl
theorem dX12_endsWord_30 : decode cX12_endsWord 30 = .ok (.bipush 85, 2) := dAt wdX12_endsWord_23 adX12_endsWord_23.2.2.2.2.2.1 rfl
theorem dX12_endsWord_32 : decode cX12_endsWord 32 = .ok (.iadd, 1) := dAt wdX12_endsWord_23 adX12_endsWord_23.2.2.2.2.2.2.1 rfl
theorem dX12_endsWord_33 : decode cX12_endsWord 33 = .ok (.iload_n 2, 1) := dAt wdX12_endsWord_23 adX12_endsWord_23.2.2.2.2.2.2.2.1 rfl
theorem dX12_endsWord_34 : decode cX12_endsWord 34 = .ok (.iadd, 1) := dAt wdX12_endsWord_23 adX12_endsWord_23.2.2.2.2.2.2.2.2.1 rfl
theorem dX12_endsWord_35 : decode cX12_endsWord 35 = .ok (.iconst 1, 1) := dAt wdX12_endsWord_23 adX12_endsWord_23.2.2.2.2.2.2.2.2.2.1 rfl
theorem dX12_endsWord_36 : decode cX12_endsWord 36 = .ok (.iadd, 1) := dAt wdX12_endsWord_23 adX12_endsWord_23.2.2.2.2.2.2.2.2.2.2.1 rfl
theorem dX12_endsWord_37 : decode cX12_endsWord 37 = .ok (.iaload, 1) := dAt wdX12_endsWord_23 adX12_endsWord_23.2.2.2.2.2.2.2.2.2.2.2.1 rfl
theorem dX12_endsWord_38 : decode cX12_endsWord 38 = .ok (.if_icmp .eq 7, 3) := dAt wdX12_endsWord_23 adX12_endsWord_23.2.2.2.2.2.2.2.2.2.2.2.2.1 rfl
theorem dX12_endsWord_41 : decode cX12_endsWord 41 = .ok (.iconst 1, 1) := dAt wdX12_endsWord_23 adX12_endsWord_23.2.2.2.2.2.2.2.2.2.2.2.2.2.1 rfl
theorem dX12_endsWord_42 : decode cX12_endsWord 42 = .ok (.goto 4, 3) := dAt wdX12_endsWord_23 adX12_endsWord_23.2.2.2.2.2.2.2.2.2.2.2.2.2.2.1 rfl
theorem dX12_endsWord_45 : decode cX12_endsWord 45 = .ok (.iconst 0, 1) := dAt wdX12_endsWord_23 adX12_endsWord_23.2.2.2.2.2.2.2.2.2.2.2.2.2.2.2 rfl
def bdX12_endsWord_46 : ByteArray := .mk #[172]
theorem wdX12_endsWord_46 : LocW cX12_endsWord 46 bdX12_endsWord_46 := loc_of (by decide +kernel)
theorem adX12_endsWord_46 : De bdX12_endsWord_46 0 (.ireturn) 1 := by decide +kernel
theorem dX12_endsWord_46 : decode cX12_endsWord 46 = .ok (.ireturn, 1) := dAt wdX12_endsWord_46 adX12_endsWord_46 rfl
def bdX12_gapsOf_0 : ByteArray := .mk #[42, 180, 0, 8, 27, 16, 85, 96, 29, 96, 46, 42, 180, 0, 8, 27, 16, 85, 96, 28, 96, 46]
theorem wdX12_gapsOf_0 : LocW cX12_gapsOf 0 bdX12_gapsOf_0 := loc_of (by decide +kernel)
theorem adX12_gapsOf_0 : De bdX12_gapsOf_0 0 (.aload_n 0) 1 ∧ De bdX12_gapsOf_0 1 (.getfield 8) 3 ∧ De bdX12_gapsOf_0 4 (.iload_n 1) 1 ∧ De bdX12_gapsOf_0 5 (.bipush 85) 2 ∧ De bdX12_gapsOf_0 7 (.iadd) 1 ∧ De bdX12_gapsOf_0 8 (.iload_n 3) 1 ∧ De bdX12_gapsOf_0 9 (.iadd) 1 ∧ De bdX12_gapsOf_0 10 (.iaload) 1 ∧ De bdX12_gapsOf_0 11 (.aload_n 0) 1 ∧ De bdX12_gapsOf_0 12 (.getfield 8) 3 ∧ De bdX12_gapsOf_0 15 (.iload_n 1) 1 ∧ De bdX12_gapsOf_0 16 (.bipush 85) 2 ∧ De bdX12_gapsOf_0 18 (.iadd) 1 ∧ De bdX12_gapsOf_0 19 (.iload_n 2) 1 ∧ De bdX12_gapsOf_0 20 (.iadd) 1 ∧ De bdX12_gapsOf_0 21 (.iaload) 1 := by decide +kernel
theorem dX12_gapsOf_0 : decode cX12_gapsOf 0 = .ok (.aload_n 0, 1) := dAt wdX12_gapsOf_0 adX12_gapsOf_0.1 rfl
theorem dX12_gapsOf_1 : decode cX12_gapsOf 1 = .ok (.getfield 8, 3) := dAt wdX12_gapsOf_0 adX12_gapsOf_0.2.1 rfl
theorem dX12_gapsOf_4 : decode cX12_gapsOf 4 = .ok (.iload_n 1, 1) := dAt wdX12_gapsOf_0 adX12_gapsOf_0.2.2.1 rfl
theorem dX12_gapsOf_5 : decode cX12_gapsOf 5 = .ok (.bipush 85, 2) := dAt wdX12_gapsOf_0 adX12_gapsOf_0.2.2.2.1 rfl
theorem dX12_gapsOf_7 : decode cX12_gapsOf 7 = .ok (.iadd, 1) := dAt wdX12_gapsOf_0 adX12_gapsOf_0.2.2.2.2.1 rfl
theorem dX12_gapsOf_8 : decode cX12_gapsOf 8 = .ok (.iload_n 3, 1) := dAt wdX12_gapsOf_0 adX12_gapsOf_0.2.2.2.2.2.1 rfl
theorem dX12_gapsOf_9 : decode cX12_gapsOf 9 = .ok (.iadd, 1) := dAt wdX12_gapsOf_0 adX12_gapsOf_0.2.2.2.2.2.2.1 rfl
theorem dX12_gapsOf_10 : decode cX12_gapsOf 10 = .ok (.iaload, 1) := dAt wdX12_gapsOf_0 adX12_gapsOf_0.2.2.2.2.2.2.2.1 rfl
theorem dX12_gapsOf_11 : decode cX12_gapsOf 11 = .ok (.aload_n 0, 1) := dAt wdX12_gapsOf_0 adX12_gapsOf_0.2.2.2.2.2.2.2.2.1 rfl
theorem dX12_gapsOf_12 : decode cX12_gapsOf 12 = .ok (.getfield 8, 3) := dAt wdX12_gapsOf_0 adX12_gapsOf_0.2.2.2.2.2.2.2.2.2.1 rfl
theorem dX12_gapsOf_15 : decode cX12_gapsOf 15 = .ok (.iload_n 1, 1) := dAt wdX12_gapsOf_0 adX12_gapsOf_0.2.2.2.2.2.2.2.2.2.2.1 rfl
theorem dX12_gapsOf_16 : decode cX12_gapsOf 16 = .ok (.bipush 85, 2) := dAt wdX12_gapsOf_0 adX12_gapsOf_0.2.2.2.2.2.2.2.2.2.2.2.1 rfl
theorem dX12_gapsOf_18 : decode cX12_gapsOf 18 = .ok (.iadd, 1) := dAt wdX12_gapsOf_0 adX12_gapsOf_0.2.2.2.2.2.2.2.2.2.2.2.2.1 rfl
theorem dX12_gapsOf_19 : decode cX12_gapsOf 19 = .ok (.iload_n 2, 1) := dAt wdX12_gapsOf_0 adX12_gapsOf_0.2.2.2.2.2.2.2.2.2.2.2.2.2.1 rfl
theorem dX12_gapsOf_20 : decode cX12_gapsOf 20 = .ok (.iadd, 1) := dAt wdX12_gapsOf_0 adX12_gapsOf_0.2.2.2.2.2.2.2.2.2.2.2.2.2.2.1 rfl
theorem dX12_gapsOf_21 : decode cX12_gapsOf 21 = .ok (.iaload, 1) := dAt wdX12_gapsOf_0 adX12_gapsOf_0.2.2.2.2.2.2.2.2.2.2.2.2.2.2.2 rfl
def bdX12_gapsOf_22 : ByteArray := .mk #[100, 172]
theorem wdX12_gapsOf_22 : LocW cX12_gapsOf 22 bdX12_gapsOf_22 := loc_of (by decide +kernel)
theorem adX12_gapsOf_22 : De bdX12_gapsOf_22 0 (.isub) 1 ∧ De bdX12_gapsOf_22 1 (.ireturn) 1 := by decide +kernel
theorem dX12_gapsOf_22 : decode cX12_gapsOf 22 = .ok (.isub, 1) := dAt wdX12_gapsOf_22 adX12_gapsOf_22.1 rfl
theorem dX12_gapsOf_23 : decode cX12_gapsOf 23 = .ok (.ireturn, 1) := dAt wdX12_gapsOf_22 adX12_gapsOf_22.2 rfl
def bdX12_wide_0 : ByteArray := .mk #[27, 184, 0, 164, 54, 4, 16, 16, 16, 27, 42, 180, 0, 8, 16, 70, 27, 8, 108, 96, 46, 104, 96, 54, 5]
theorem wdX12_wide_0 : LocW cX12_wide 0 bdX12_wide_0 := loc_of (by decide +kernel)
theorem adX12_wide_0 : De bdX12_wide_0 0 (.iload_n 1) 1 ∧ De bdX12_wide_0 1 (.invokestatic 164) 3 ∧ De bdX12_wide_0 4 (.istore 4) 2 ∧ De bdX12_wide_0 6 (.bipush 16) 2 ∧ De bdX12_wide_0 8 (.bipush 27) 2 ∧ De bdX12_wide_0 10 (.aload_n 0) 1 ∧ De bdX12_wide_0 11 (.getfield 8) 3 ∧ De bdX12_wide_0 14 (.bipush 70) 2 ∧ De bdX12_wide_0 16 (.iload_n 1) 1 ∧ De bdX12_wide_0 17 (.iconst 5) 1 ∧ De bdX12_wide_0 18 (.idiv) 1 ∧ De bdX12_wide_0 19 (.iadd) 1 ∧ De bdX12_wide_0 20 (.iaload) 1 ∧ De bdX12_wide_0 21 (.imul) 1 ∧ De bdX12_wide_0 22 (.iadd) 1 ∧ De bdX12_wide_0 23 (.istore 5) 2 := by decide +kernel
theorem dX12_wide_0 : decode cX12_wide 0 = .ok (.iload_n 1, 1) := dAt wdX12_wide_0 adX12_wide_0.1 rfl
theorem dX12_wide_1 : decode cX12_wide 1 = .ok (.invokestatic 164, 3) := dAt wdX12_wide_0 adX12_wide_0.2.1 rfl
theorem dX12_wide_4 : decode cX12_wide 4 = .ok (.istore 4, 2) := dAt wdX12_wide_0 adX12_wide_0.2.2.1 rfl
theorem dX12_wide_6 : decode cX12_wide 6 = .ok (.bipush 16, 2) := dAt wdX12_wide_0 adX12_wide_0.2.2.2.1 rfl
theorem dX12_wide_8 : decode cX12_wide 8 = .ok (.bipush 27, 2) := dAt wdX12_wide_0 adX12_wide_0.2.2.2.2.1 rfl
theorem dX12_wide_10 : decode cX12_wide 10 = .ok (.aload_n 0, 1) := dAt wdX12_wide_0 adX12_wide_0.2.2.2.2.2.1 rfl
theorem dX12_wide_11 : decode cX12_wide 11 = .ok (.getfield 8, 3) := dAt wdX12_wide_0 adX12_wide_0.2.2.2.2.2.2.1 rfl
theorem dX12_wide_14 : decode cX12_wide 14 = .ok (.bipush 70, 2) := dAt wdX12_wide_0 adX12_wide_0.2.2.2.2.2.2.2.1 rfl
theorem dX12_wide_16 : decode cX12_wide 16 = .ok (.iload_n 1, 1) := dAt wdX12_wide_0 adX12_wide_0.2.2.2.2.2.2.2.2.1 rfl
theorem dX12_wide_17 : decode cX12_wide 17 = .ok (.iconst 5, 1) := dAt wdX12_wide_0 adX12_wide_0.2.2.2.2.2.2.2.2.2.1 rfl
theorem dX12_wide_18 : decode cX12_wide 18 = .ok (.idiv, 1) := dAt wdX12_wide_0 adX12_wide_0.2.2.2.2.2.2.2.2.2.2.1 rfl
theorem dX12_wide_19 : decode cX12_wide 19 = .ok (.iadd, 1) := dAt wdX12_wide_0 adX12_wide_0.2.2.2.2.2.2.2.2.2.2.2.1 rfl
theorem dX12_wide_20 : decode cX12_wide 20 = .ok (.iaload, 1) := dAt wdX12_wide_0 adX12_wide_0.2.2.2.2.2.2.2.2.2.2.2.2.1 rfl
theorem dX12_wide_21 : decode cX12_wide 21 = .ok (.imul, 1) := dAt wdX12_wide_0 adX12_wide_0.2.2.2.2.2.2.2.2.2.2.2.2.2.1 rfl
theorem dX12_wide_22 : decode cX12_wide 22 = .ok (.iadd, 1) := dAt wdX12_wide_0 adX12_wide_0.2.2.2.2.2.2.2.2.2.2.2.2.2.2.1 rfl
theorem dX12_wide_23 : decode cX12_wide 23 = .ok (.istore 5, 2) := dAt wdX12_wide_0 adX12_wide_0.2.2.2.2.2.2.2.2.2.2.2.2.2.2.2 rfl
def bdX12_wide_25 : ByteArray := .mk #[42, 21, 4, 29, 182, 1, 61, 153, 0, 7, 3, 167, 0, 13, 42, 180, 0, 8, 21, 5, 16, 26, 96, 46, 54, 6, 28, 54, 7]
theorem wdX12_wide_25 : LocW cX12_wide 25 bdX12_wide_25 := loc_of (by decide +kernel)
theorem adX12_wide_25 : De bdX12_wide_25 0 (.aload_n 0) 1 ∧ De bdX12_wide_25 1 (.iload 4) 2 ∧ De bdX12_wide_25 3 (.iload_n 3) 1 ∧ De bdX12_wide_25 4 (.invokevirtual 317) 3 ∧ De bdX12_wide_25 7 (.ifCond .eq 7) 3 ∧ De bdX12_wide_25 10 (.iconst 0) 1 ∧ De bdX12_wide_25 11 (.goto 13) 3 ∧ De bdX12_wide_25 14 (.aload_n 0) 1 ∧ De bdX12_wide_25 15 (.getfield 8) 3 ∧ De bdX12_wide_25 18 (.iload 5) 2 ∧ De bdX12_wide_25 20 (.bipush 26) 2 ∧ De bdX12_wide_25 22 (.iadd) 1 ∧ De bdX12_wide_25 23 (.iaload) 1 ∧ De bdX12_wide_25 24 (.istore 6) 2 ∧ De bdX12_wide_25 26 (.iload_n 2) 1 ∧ De bdX12_wide_25 27 (.istore 7) 2 := by decide +kernel
theorem dX12_wide_25 : decode cX12_wide 25 = .ok (.aload_n 0, 1) := dAt wdX12_wide_25 adX12_wide_25.1 rfl
theorem dX12_wide_26 : decode cX12_wide 26 = .ok (.iload 4, 2) := dAt wdX12_wide_25 adX12_wide_25.2.1 rfl
theorem dX12_wide_28 : decode cX12_wide 28 = .ok (.iload_n 3, 1) := dAt wdX12_wide_25 adX12_wide_25.2.2.1 rfl
theorem dX12_wide_29 : decode cX12_wide 29 = .ok (.invokevirtual 317, 3) := dAt wdX12_wide_25 adX12_wide_25.2.2.2.1 rfl
theorem dX12_wide_32 : decode cX12_wide 32 = .ok (.ifCond .eq 7, 3) := dAt wdX12_wide_25 adX12_wide_25.2.2.2.2.1 rfl
theorem dX12_wide_35 : decode cX12_wide 35 = .ok (.iconst 0, 1) := dAt wdX12_wide_25 adX12_wide_25.2.2.2.2.2.1 rfl
theorem dX12_wide_36 : decode cX12_wide 36 = .ok (.goto 13, 3) := dAt wdX12_wide_25 adX12_wide_25.2.2.2.2.2.2.1 rfl
theorem dX12_wide_39 : decode cX12_wide 39 = .ok (.aload_n 0, 1) := dAt wdX12_wide_25 adX12_wide_25.2.2.2.2.2.2.2.1 rfl
theorem dX12_wide_40 : decode cX12_wide 40 = .ok (.getfield 8, 3) := dAt wdX12_wide_25 adX12_wide_25.2.2.2.2.2.2.2.2.1 rfl
theorem dX12_wide_43 : decode cX12_wide 43 = .ok (.iload 5, 2) := dAt wdX12_wide_25 adX12_wide_25.2.2.2.2.2.2.2.2.2.1 rfl
theorem dX12_wide_45 : decode cX12_wide 45 = .ok (.bipush 26, 2) := dAt wdX12_wide_25 adX12_wide_25.2.2.2.2.2.2.2.2.2.2.1 rfl
theorem dX12_wide_47 : decode cX12_wide 47 = .ok (.iadd, 1) := dAt wdX12_wide_25 adX12_wide_25.2.2.2.2.2.2.2.2.2.2.2.1 rfl
theorem dX12_wide_48 : decode cX12_wide 48 = .ok (.iaload, 1) := dAt wdX12_wide_25 adX12_wide_25.2.2.2.2.2.2.2.2.2.2.2.2.1 rfl
theorem dX12_wide_49 : decode cX12_wide 49 = .ok (.istore 6, 2) := dAt wdX12_wide_25 adX12_wide_25.2.2.2.2.2.2.2.2.2.2.2.2.2.1 rfl
theorem dX12_wide_51 : decode cX12_wide 51 = .ok (.iload_n 2, 1) := dAt wdX12_wide_25 adX12_wide_25.2.2.2.2.2.2.2.2.2.2.2.2.2.2.1 rfl
theorem dX12_wide_52 : decode cX12_wide 52 = .ok (.istore 7, 2) := dAt wdX12_wide_25 adX12_wide_25.2.2.2.2.2.2.2.2.2.2.2.2.2.2.2 rfl
def bdX12_wide_54 : ByteArray := .mk #[21, 7, 29, 163, 0, 69, 3, 54, 8, 21, 8, 42, 180, 0, 8, 21, 4, 16, 125, 96, 21, 7, 96, 46, 162, 0, 42, 21, 6]
theorem wdX12_wide_54 : LocW cX12_wide 54 bdX12_wide_54 := loc_of (by decide +kernel)
theorem adX12_wide_54 : De bdX12_wide_54 0 (.iload 7) 2 ∧ De bdX12_wide_54 2 (.iload_n 3) 1 ∧ De bdX12_wide_54 3 (.if_icmp .gt 69) 3 ∧ De bdX12_wide_54 6 (.iconst 0) 1 ∧ De bdX12_wide_54 7 (.istore 8) 2 ∧ De bdX12_wide_54 9 (.iload 8) 2 ∧ De bdX12_wide_54 11 (.aload_n 0) 1 ∧ De bdX12_wide_54 12 (.getfield 8) 3 ∧ De bdX12_wide_54 15 (.iload 4) 2 ∧ De bdX12_wide_54 17 (.bipush 125) 2 ∧ De bdX12_wide_54 19 (.iadd) 1 ∧ De bdX12_wide_54 20 (.iload 7) 2 ∧ De bdX12_wide_54 22 (.iadd) 1 ∧ De bdX12_wide_54 23 (.iaload) 1 ∧ De bdX12_wide_54 24 (.if_icmp .ge 42) 3 ∧ De bdX12_wide_54 27 (.iload 6) 2 := by decide +kernel
theorem dX12_wide_54 : decode cX12_wide 54 = .ok (.iload 7, 2) := dAt wdX12_wide_54 adX12_wide_54.1 rfl
theorem dX12_wide_56 : decode cX12_wide 56 = .ok (.iload_n 3, 1) := dAt wdX12_wide_54 adX12_wide_54.2.1 rfl
theorem dX12_wide_57 : decode cX12_wide 57 = .ok (.if_icmp .gt 69, 3) := dAt wdX12_wide_54 adX12_wide_54.2.2.1 rfl
theorem dX12_wide_60 : decode cX12_wide 60 = .ok (.iconst 0, 1) := dAt wdX12_wide_54 adX12_wide_54.2.2.2.1 rfl
theorem dX12_wide_61 : decode cX12_wide 61 = .ok (.istore 8, 2) := dAt wdX12_wide_54 adX12_wide_54.2.2.2.2.1 rfl
theorem dX12_wide_63 : decode cX12_wide 63 = .ok (.iload 8, 2) := dAt wdX12_wide_54 adX12_wide_54.2.2.2.2.2.1 rfl
theorem dX12_wide_65 : decode cX12_wide 65 = .ok (.aload_n 0, 1) := dAt wdX12_wide_54 adX12_wide_54.2.2.2.2.2.2.1 rfl
theorem dX12_wide_66 : decode cX12_wide 66 = .ok (.getfield 8, 3) := dAt wdX12_wide_54 adX12_wide_54.2.2.2.2.2.2.2.1 rfl
theorem dX12_wide_69 : decode cX12_wide 69 = .ok (.iload 4, 2) := dAt wdX12_wide_54 adX12_wide_54.2.2.2.2.2.2.2.2.1 rfl
theorem dX12_wide_71 : decode cX12_wide 71 = .ok (.bipush 125, 2) := dAt wdX12_wide_54 adX12_wide_54.2.2.2.2.2.2.2.2.2.1 rfl
theorem dX12_wide_73 : decode cX12_wide 73 = .ok (.iadd, 1) := dAt wdX12_wide_54 adX12_wide_54.2.2.2.2.2.2.2.2.2.2.1 rfl
theorem dX12_wide_74 : decode cX12_wide 74 = .ok (.iload 7, 2) := dAt wdX12_wide_54 adX12_wide_54.2.2.2.2.2.2.2.2.2.2.2.1 rfl
theorem dX12_wide_76 : decode cX12_wide 76 = .ok (.iadd, 1) := dAt wdX12_wide_54 adX12_wide_54.2.2.2.2.2.2.2.2.2.2.2.2.1 rfl
theorem dX12_wide_77 : decode cX12_wide 77 = .ok (.iaload, 1) := dAt wdX12_wide_54 adX12_wide_54.2.2.2.2.2.2.2.2.2.2.2.2.2.1 rfl
theorem dX12_wide_78 : decode cX12_wide 78 = .ok (.if_icmp .ge 42, 3) := dAt wdX12_wide_54 adX12_wide_54.2.2.2.2.2.2.2.2.2.2.2.2.2.2.1 rfl
theorem dX12_wide_81 : decode cX12_wide 81 = .ok (.iload 6, 2) := dAt wdX12_wide_54 adX12_wide_54.2.2.2.2.2.2.2.2.2.2.2.2.2.2.2 rfl
def bdX12_wide_83 : ByteArray := .mk #[42, 180, 0, 8, 21, 5, 42, 180, 0, 8, 21, 4, 17, 0, 165, 96, 16, 12, 21, 7, 104, 96, 21, 8, 96, 46, 96]
theorem wdX12_wide_83 : LocW cX12_wide 83 bdX12_wide_83 := loc_of (by decide +kernel)
theorem adX12_wide_83 : De bdX12_wide_83 0 (.aload_n 0) 1 ∧ De bdX12_wide_83 1 (.getfield 8) 3 ∧ De bdX12_wide_83 4 (.iload 5) 2 ∧ De bdX12_wide_83 6 (.aload_n 0) 1 ∧ De bdX12_wide_83 7 (.getfield 8) 3 ∧ De bdX12_wide_83 10 (.iload 4) 2 ∧ De bdX12_wide_83 12 (.sipush 165) 3 ∧ De bdX12_wide_83 15 (.iadd) 1 ∧ De bdX12_wide_83 16 (.bipush 12) 2 ∧ De bdX12_wide_83 18 (.iload 7) 2 ∧ De bdX12_wide_83 20 (.imul) 1 ∧ De bdX12_wide_83 21 (.iadd) 1 ∧ De bdX12_wide_83 22 (.iload 8) 2 ∧ De bdX12_wide_83 24 (.iadd) 1 ∧ De bdX12_wide_83 25 (.iaload) 1 ∧ De bdX12_wide_83 26 (.iadd) 1 := by decide +kernel
theorem dX12_wide_83 : decode cX12_wide 83 = .ok (.aload_n 0, 1) := dAt wdX12_wide_83 adX12_wide_83.1 rfl
theorem dX12_wide_84 : decode cX12_wide 84 = .ok (.getfield 8, 3) := dAt wdX12_wide_83 adX12_wide_83.2.1 rfl
theorem dX12_wide_87 : decode cX12_wide 87 = .ok (.iload 5, 2) := dAt wdX12_wide_83 adX12_wide_83.2.2.1 rfl
theorem dX12_wide_89 : decode cX12_wide 89 = .ok (.aload_n 0, 1) := dAt wdX12_wide_83 adX12_wide_83.2.2.2.1 rfl
theorem dX12_wide_90 : decode cX12_wide 90 = .ok (.getfield 8, 3) := dAt wdX12_wide_83 adX12_wide_83.2.2.2.2.1 rfl
theorem dX12_wide_93 : decode cX12_wide 93 = .ok (.iload 4, 2) := dAt wdX12_wide_83 adX12_wide_83.2.2.2.2.2.1 rfl
theorem dX12_wide_95 : decode cX12_wide 95 = .ok (.sipush 165, 3) := dAt wdX12_wide_83 adX12_wide_83.2.2.2.2.2.2.1 rfl
theorem dX12_wide_98 : decode cX12_wide 98 = .ok (.iadd, 1) := dAt wdX12_wide_83 adX12_wide_83.2.2.2.2.2.2.2.1 rfl
theorem dX12_wide_99 : decode cX12_wide 99 = .ok (.bipush 12, 2) := dAt wdX12_wide_83 adX12_wide_83.2.2.2.2.2.2.2.2.1 rfl
theorem dX12_wide_101 : decode cX12_wide 101 = .ok (.iload 7, 2) := dAt wdX12_wide_83 adX12_wide_83.2.2.2.2.2.2.2.2.2.1 rfl
theorem dX12_wide_103 : decode cX12_wide 103 = .ok (.imul, 1) := dAt wdX12_wide_83 adX12_wide_83.2.2.2.2.2.2.2.2.2.2.1 rfl
theorem dX12_wide_104 : decode cX12_wide 104 = .ok (.iadd, 1) := dAt wdX12_wide_83 adX12_wide_83.2.2.2.2.2.2.2.2.2.2.2.1 rfl
theorem dX12_wide_105 : decode cX12_wide 105 = .ok (.iload 8, 2) := dAt wdX12_wide_83 adX12_wide_83.2.2.2.2.2.2.2.2.2.2.2.2.1 rfl
theorem dX12_wide_107 : decode cX12_wide 107 = .ok (.iadd, 1) := dAt wdX12_wide_83 adX12_wide_83.2.2.2.2.2.2.2.2.2.2.2.2.2.1 rfl
theorem dX12_wide_108 : decode cX12_wide 108 = .ok (.iaload, 1) := dAt wdX12_wide_83 adX12_wide_83.2.2.2.2.2.2.2.2.2.2.2.2.2.2.1 rfl
theorem dX12_wide_109 : decode cX12_wide 109 = .ok (.iadd, 1) := dAt wdX12_wide_83 adX12_wide_83.2.2.2.2.2.2.2.2.2.2.2.2.2.2.2 rfl
def bdX12_wide_110 : ByteArray := .mk #[46, 96, 54, 6, 132, 8, 1, 167, 255, 202, 132, 7, 1, 167, 255, 187, 21, 6, 172]
theorem wdX12_wide_110 : LocW cX12_wide 110 bdX12_wide_110 := loc_of (by decide +kernel)
theorem adX12_wide_110 : De bdX12_wide_110 0 (.iaload) 1 ∧ De bdX12_wide_110 1 (.iadd) 1 ∧ De bdX12_wide_110 2 (.istore 6) 2 ∧ De bdX12_wide_110 4 (.iinc 8 1) 3 ∧ De bdX12_wide_110 7 (.goto (-54)) 3 ∧ De bdX12_wide_110 10 (.iinc 7 1) 3 ∧ De bdX12_wide_110 13 (.goto (-69)) 3 ∧ De bdX12_wide_110 16 (.iload 6) 2 ∧ De bdX12_wide_110 18 (.ireturn) 1 := by decide +kernel
theorem dX12_wide_110 : decode cX12_wide 110 = .ok (.iaload, 1) := dAt wdX12_wide_110 adX12_wide_110.1 rfl
theorem dX12_wide_111 : decode cX12_wide 111 = .ok (.iadd, 1) := dAt wdX12_wide_110 adX12_wide_110.2.1 rfl
theorem dX12_wide_112 : decode cX12_wide 112 = .ok (.istore 6, 2) := dAt wdX12_wide_110 adX12_wide_110.2.2.1 rfl
theorem dX12_wide_114 : decode cX12_wide 114 = .ok (.iinc 8 1, 3) := dAt wdX12_wide_110 adX12_wide_110.2.2.2.1 rfl
theorem dX12_wide_117 : decode cX12_wide 117 = .ok (.goto (-54), 3) := dAt wdX12_wide_110 adX12_wide_110.2.2.2.2.1 rfl
theorem dX12_wide_120 : decode cX12_wide 120 = .ok (.iinc 7 1, 3) := dAt wdX12_wide_110 adX12_wide_110.2.2.2.2.2.1 rfl
theorem dX12_wide_123 : decode cX12_wide 123 = .ok (.goto (-69), 3) := dAt wdX12_wide_110 adX12_wide_110.2.2.2.2.2.2.1 rfl
theorem dX12_wide_126 : decode cX12_wide 126 = .ok (.iload 6, 2) := dAt wdX12_wide_110 adX12_wide_110.2.2.2.2.2.2.2.1 rfl
theorem dX12_wide_128 : decode cX12_wide 128 = .ok (.ireturn, 1) := dAt wdX12_wide_110 adX12_wide_110.2.2.2.2.2.2.2.2 rfl
def bdX12_isLast_0 : ByteArray := .mk #[28, 42, 180, 0, 8, 27, 184, 0, 164, 4, 96, 46, 4, 100, 160, 0, 7, 4, 167, 0, 4, 3, 172]
theorem wdX12_isLast_0 : LocW cX12_isLast 0 bdX12_isLast_0 := loc_of (by decide +kernel)
theorem adX12_isLast_0 : De bdX12_isLast_0 0 (.iload_n 2) 1 ∧ De bdX12_isLast_0 1 (.aload_n 0) 1 ∧ De bdX12_isLast_0 2 (.getfield 8) 3 ∧ De bdX12_isLast_0 5 (.iload_n 1) 1 ∧ De bdX12_isLast_0 6 (.invokestatic 164) 3 ∧ De bdX12_isLast_0 9 (.iconst 1) 1 ∧ De bdX12_isLast_0 10 (.iadd) 1 ∧ De bdX12_isLast_0 11 (.iaload) 1 ∧ De bdX12_isLast_0 12 (.iconst 1) 1 ∧ De bdX12_isLast_0 13 (.isub) 1 ∧ De bdX12_isLast_0 14 (.if_icmp .ne 7) 3 ∧ De bdX12_isLast_0 17 (.iconst 1) 1 ∧ De bdX12_isLast_0 18 (.goto 4) 3 ∧ De bdX12_isLast_0 21 (.iconst 0) 1 ∧ De bdX12_isLast_0 22 (.ireturn) 1 := by decide +kernel
theorem dX12_isLast_0 : decode cX12_isLast 0 = .ok (.iload_n 2, 1) := dAt wdX12_isLast_0 adX12_isLast_0.1 rfl
theorem dX12_isLast_1 : decode cX12_isLast 1 = .ok (.aload_n 0, 1) := dAt wdX12_isLast_0 adX12_isLast_0.2.1 rfl
theorem dX12_isLast_2 : decode cX12_isLast 2 = .ok (.getfield 8, 3) := dAt wdX12_isLast_0 adX12_isLast_0.2.2.1 rfl
theorem dX12_isLast_5 : decode cX12_isLast 5 = .ok (.iload_n 1, 1) := dAt wdX12_isLast_0 adX12_isLast_0.2.2.2.1 rfl
theorem dX12_isLast_6 : decode cX12_isLast 6 = .ok (.invokestatic 164, 3) := dAt wdX12_isLast_0 adX12_isLast_0.2.2.2.2.1 rfl
theorem dX12_isLast_9 : decode cX12_isLast 9 = .ok (.iconst 1, 1) := dAt wdX12_isLast_0 adX12_isLast_0.2.2.2.2.2.1 rfl
theorem dX12_isLast_10 : decode cX12_isLast 10 = .ok (.iadd, 1) := dAt wdX12_isLast_0 adX12_isLast_0.2.2.2.2.2.2.1 rfl
theorem dX12_isLast_11 : decode cX12_isLast 11 = .ok (.iaload, 1) := dAt wdX12_isLast_0 adX12_isLast_0.2.2.2.2.2.2.2.1 rfl
theorem dX12_isLast_12 : decode cX12_isLast 12 = .ok (.iconst 1, 1) := dAt wdX12_isLast_0 adX12_isLast_0.2.2.2.2.2.2.2.2.1 rfl
theorem dX12_isLast_13 : decode cX12_isLast 13 = .ok (.isub, 1) := dAt wdX12_isLast_0 adX12_isLast_0.2.2.2.2.2.2.2.2.2.1 rfl
theorem dX12_isLast_14 : decode cX12_isLast 14 = .ok (.if_icmp .ne 7, 3) := dAt wdX12_isLast_0 adX12_isLast_0.2.2.2.2.2.2.2.2.2.2.1 rfl
theorem dX12_isLast_17 : decode cX12_isLast 17 = .ok (.iconst 1, 1) := dAt wdX12_isLast_0 adX12_isLast_0.2.2.2.2.2.2.2.2.2.2.2.1 rfl
theorem dX12_isLast_18 : decode cX12_isLast 18 = .ok (.goto 4, 3) := dAt wdX12_isLast_0 adX12_isLast_0.2.2.2.2.2.2.2.2.2.2.2.2.1 rfl
theorem dX12_isLast_21 : decode cX12_isLast 21 = .ok (.iconst 0, 1) := dAt wdX12_isLast_0 adX12_isLast_0.2.2.2.2.2.2.2.2.2.2.2.2.2.1 rfl
theorem dX12_isLast_22 : decode cX12_isLast 22 = .ok (.ireturn, 1) := dAt wdX12_isLast_0 adX12_isLast_0.2.2.2.2.2.2.2.2.2.2.2.2.2.2 rfl
def bdX12_tight_0 : ByteArray := .mk #[42, 27, 28, 29, 182, 1, 64, 42, 180, 1, 44, 42, 27, 184, 0, 164, 28, 29, 182, 1, 68, 104, 96, 172]
theorem wdX12_tight_0 : LocW cX12_tight 0 bdX12_tight_0 := loc_of (by decide +kernel)
theorem adX12_tight_0 : De bdX12_tight_0 0 (.aload_n 0) 1 ∧ De bdX12_tight_0 1 (.iload_n 1) 1 ∧ De bdX12_tight_0 2 (.iload_n 2) 1 ∧ De bdX12_tight_0 3 (.iload_n 3) 1 ∧ De bdX12_tight_0 4 (.invokevirtual 320) 3 ∧ De bdX12_tight_0 7 (.aload_n 0) 1 ∧ De bdX12_tight_0 8 (.getfield 300) 3 ∧ De bdX12_tight_0 11 (.aload_n 0) 1 ∧ De bdX12_tight_0 12 (.iload_n 1) 1 ∧ De bdX12_tight_0 13 (.invokestatic 164) 3 ∧ De bdX12_tight_0 16 (.iload_n 2) 1 ∧ De bdX12_tight_0 17 (.iload_n 3) 1 ∧ De bdX12_tight_0 18 (.invokevirtual 324) 3 ∧ De bdX12_tight_0 21 (.imul) 1 ∧ De bdX12_tight_0 22 (.iadd) 1 ∧ De bdX12_tight_0 23 (.ireturn) 1 := by decide +kernel
theorem dX12_tight_0 : decode cX12_tight 0 = .ok (.aload_n 0, 1) := dAt wdX12_tight_0 adX12_tight_0.1 rfl
theorem dX12_tight_1 : decode cX12_tight 1 = .ok (.iload_n 1, 1) := dAt wdX12_tight_0 adX12_tight_0.2.1 rfl
theorem dX12_tight_2 : decode cX12_tight 2 = .ok (.iload_n 2, 1) := dAt wdX12_tight_0 adX12_tight_0.2.2.1 rfl
theorem dX12_tight_3 : decode cX12_tight 3 = .ok (.iload_n 3, 1) := dAt wdX12_tight_0 adX12_tight_0.2.2.2.1 rfl
theorem dX12_tight_4 : decode cX12_tight 4 = .ok (.invokevirtual 320, 3) := dAt wdX12_tight_0 adX12_tight_0.2.2.2.2.1 rfl
theorem dX12_tight_7 : decode cX12_tight 7 = .ok (.aload_n 0, 1) := dAt wdX12_tight_0 adX12_tight_0.2.2.2.2.2.1 rfl
theorem dX12_tight_8 : decode cX12_tight 8 = .ok (.getfield 300, 3) := dAt wdX12_tight_0 adX12_tight_0.2.2.2.2.2.2.1 rfl
theorem dX12_tight_11 : decode cX12_tight 11 = .ok (.aload_n 0, 1) := dAt wdX12_tight_0 adX12_tight_0.2.2.2.2.2.2.2.1 rfl
theorem dX12_tight_12 : decode cX12_tight 12 = .ok (.iload_n 1, 1) := dAt wdX12_tight_0 adX12_tight_0.2.2.2.2.2.2.2.2.1 rfl
theorem dX12_tight_13 : decode cX12_tight 13 = .ok (.invokestatic 164, 3) := dAt wdX12_tight_0 adX12_tight_0.2.2.2.2.2.2.2.2.2.1 rfl
theorem dX12_tight_16 : decode cX12_tight 16 = .ok (.iload_n 2, 1) := dAt wdX12_tight_0 adX12_tight_0.2.2.2.2.2.2.2.2.2.2.1 rfl
theorem dX12_tight_17 : decode cX12_tight 17 = .ok (.iload_n 3, 1) := dAt wdX12_tight_0 adX12_tight_0.2.2.2.2.2.2.2.2.2.2.2.1 rfl
theorem dX12_tight_18 : decode cX12_tight 18 = .ok (.invokevirtual 324, 3) := dAt wdX12_tight_0 adX12_tight_0.2.2.2.2.2.2.2.2.2.2.2.2.1 rfl
theorem dX12_tight_21 : decode cX12_tight 21 = .ok (.imul, 1) := dAt wdX12_tight_0 adX12_tight_0.2.2.2.2.2.2.2.2.2.2.2.2.2.1 rfl
theorem dX12_tight_22 : decode cX12_tight 22 = .ok (.iadd, 1) := dAt wdX12_tight_0 adX12_tight_0.2.2.2.2.2.2.2.2.2.2.2.2.2.2.1 rfl
theorem dX12_tight_23 : decode cX12_tight 23 = .ok (.ireturn, 1) := dAt wdX12_tight_0 adX12_tight_0.2.2.2.2.2.2.2.2.2.2.2.2.2.2.2 rfl
def bdX12_isStanding_0 : ByteArray := .mk #[42, 27, 28, 29, 182, 1, 71, 42, 180, 1, 42, 164, 0, 5, 3, 172, 42, 27, 29, 182, 1, 74, 154, 0, 33, 42]
theorem wdX12_isStanding_0 : LocW cX12_isStanding 0 bdX12_isStanding_0 := loc_of (by decide +kernel)
theorem adX12_isStanding_0 : De bdX12_isStanding_0 0 (.aload_n 0) 1 ∧ De bdX12_isStanding_0 1 (.iload_n 1) 1 ∧ De bdX12_isStanding_0 2 (.iload_n 2) 1 ∧ De bdX12_isStanding_0 3 (.iload_n 3) 1 ∧ De bdX12_isStanding_0 4 (.invokevirtual 327) 3 ∧ De bdX12_isStanding_0 7 (.aload_n 0) 1 ∧ De bdX12_isStanding_0 8 (.getfield 298) 3 ∧ De bdX12_isStanding_0 11 (.if_icmp .le 5) 3 ∧ De bdX12_isStanding_0 14 (.iconst 0) 1 ∧ De bdX12_isStanding_0 15 (.ireturn) 1 ∧ De bdX12_isStanding_0 16 (.aload_n 0) 1 ∧ De bdX12_isStanding_0 17 (.iload_n 1) 1 ∧ De bdX12_isStanding_0 18 (.iload_n 3) 1 ∧ De bdX12_isStanding_0 19 (.invokevirtual 330) 3 ∧ De bdX12_isStanding_0 22 (.ifCond .ne 33) 3 ∧ De bdX12_isStanding_0 25 (.aload_n 0) 1 := by decide +kernel
theorem dX12_isStanding_0 : decode cX12_isStanding 0 = .ok (.aload_n 0, 1) := dAt wdX12_isStanding_0 adX12_isStanding_0.1 rfl
theorem dX12_isStanding_1 : decode cX12_isStanding 1 = .ok (.iload_n 1, 1) := dAt wdX12_isStanding_0 adX12_isStanding_0.2.1 rfl
theorem dX12_isStanding_2 : decode cX12_isStanding 2 = .ok (.iload_n 2, 1) := dAt wdX12_isStanding_0 adX12_isStanding_0.2.2.1 rfl
theorem dX12_isStanding_3 : decode cX12_isStanding 3 = .ok (.iload_n 3, 1) := dAt wdX12_isStanding_0 adX12_isStanding_0.2.2.2.1 rfl
theorem dX12_isStanding_4 : decode cX12_isStanding 4 = .ok (.invokevirtual 327, 3) := dAt wdX12_isStanding_0 adX12_isStanding_0.2.2.2.2.1 rfl
theorem dX12_isStanding_7 : decode cX12_isStanding 7 = .ok (.aload_n 0, 1) := dAt wdX12_isStanding_0 adX12_isStanding_0.2.2.2.2.2.1 rfl
theorem dX12_isStanding_8 : decode cX12_isStanding 8 = .ok (.getfield 298, 3) := dAt wdX12_isStanding_0 adX12_isStanding_0.2.2.2.2.2.2.1 rfl
theorem dX12_isStanding_11 : decode cX12_isStanding 11 = .ok (.if_icmp .le 5, 3) := dAt wdX12_isStanding_0 adX12_isStanding_0.2.2.2.2.2.2.2.1 rfl
theorem dX12_isStanding_14 : decode cX12_isStanding 14 = .ok (.iconst 0, 1) := dAt wdX12_isStanding_0 adX12_isStanding_0.2.2.2.2.2.2.2.2.1 rfl
theorem dX12_isStanding_15 : decode cX12_isStanding 15 = .ok (.ireturn, 1) := dAt wdX12_isStanding_0 adX12_isStanding_0.2.2.2.2.2.2.2.2.2.1 rfl
theorem dX12_isStanding_16 : decode cX12_isStanding 16 = .ok (.aload_n 0, 1) := dAt wdX12_isStanding_0 adX12_isStanding_0.2.2.2.2.2.2.2.2.2.2.1 rfl
theorem dX12_isStanding_17 : decode cX12_isStanding 17 = .ok (.iload_n 1, 1) := dAt wdX12_isStanding_0 adX12_isStanding_0.2.2.2.2.2.2.2.2.2.2.2.1 rfl
theorem dX12_isStanding_18 : decode cX12_isStanding 18 = .ok (.iload_n 3, 1) := dAt wdX12_isStanding_0 adX12_isStanding_0.2.2.2.2.2.2.2.2.2.2.2.2.1 rfl
theorem dX12_isStanding_19 : decode cX12_isStanding 19 = .ok (.invokevirtual 330, 3) := dAt wdX12_isStanding_0 adX12_isStanding_0.2.2.2.2.2.2.2.2.2.2.2.2.2.1 rfl
theorem dX12_isStanding_22 : decode cX12_isStanding 22 = .ok (.ifCond .ne 33, 3) := dAt wdX12_isStanding_0 adX12_isStanding_0.2.2.2.2.2.2.2.2.2.2.2.2.2.2.1 rfl
theorem dX12_isStanding_25 : decode cX12_isStanding 25 = .ok (.aload_n 0, 1) := dAt wdX12_isStanding_0 adX12_isStanding_0.2.2.2.2.2.2.2.2.2.2.2.2.2.2.2 rfl
def bdX12_isStanding_26 : ByteArray := .mk #[27, 28, 29, 182, 1, 64, 42, 180, 1, 47, 42, 27, 184, 0, 164, 28, 29, 182, 1, 68, 104, 96, 42, 180, 1, 42]
theorem wdX12_isStanding_26 : LocW cX12_isStanding 26 bdX12_isStanding_26 := loc_of (by decide +kernel)
theorem adX12_isStanding_26 : De bdX12_isStanding_26 0 (.iload_n 1) 1 ∧ De bdX12_isStanding_26 1 (.iload_n 2) 1 ∧ De bdX12_isStanding_26 2 (.iload_n 3) 1 ∧ De bdX12_isStanding_26 3 (.invokevirtual 320) 3 ∧ De bdX12_isStanding_26 6 (.aload_n 0) 1 ∧ De bdX12_isStanding_26 7 (.getfield 303) 3 ∧ De bdX12_isStanding_26 10 (.aload_n 0) 1 ∧ De bdX12_isStanding_26 11 (.iload_n 1) 1 ∧ De bdX12_isStanding_26 12 (.invokestatic 164) 3 ∧ De bdX12_isStanding_26 15 (.iload_n 2) 1 ∧ De bdX12_isStanding_26 16 (.iload_n 3) 1 ∧ De bdX12_isStanding_26 17 (.invokevirtual 324) 3 ∧ De bdX12_isStanding_26 20 (.imul) 1 ∧ De bdX12_isStanding_26 21 (.iadd) 1 ∧ De bdX12_isStanding_26 22 (.aload_n 0) 1 ∧ De bdX12_isStanding_26 23 (.getfield 298) 3 := by decide +kernel
theorem dX12_isStanding_26 : decode cX12_isStanding 26 = .ok (.iload_n 1, 1) := dAt wdX12_isStanding_26 adX12_isStanding_26.1 rfl
theorem dX12_isStanding_27 : decode cX12_isStanding 27 = .ok (.iload_n 2, 1) := dAt wdX12_isStanding_26 adX12_isStanding_26.2.1 rfl
theorem dX12_isStanding_28 : decode cX12_isStanding 28 = .ok (.iload_n 3, 1) := dAt wdX12_isStanding_26 adX12_isStanding_26.2.2.1 rfl
theorem dX12_isStanding_29 : decode cX12_isStanding 29 = .ok (.invokevirtual 320, 3) := dAt wdX12_isStanding_26 adX12_isStanding_26.2.2.2.1 rfl
theorem dX12_isStanding_32 : decode cX12_isStanding 32 = .ok (.aload_n 0, 1) := dAt wdX12_isStanding_26 adX12_isStanding_26.2.2.2.2.1 rfl
theorem dX12_isStanding_33 : decode cX12_isStanding 33 = .ok (.getfield 303, 3) := dAt wdX12_isStanding_26 adX12_isStanding_26.2.2.2.2.2.1 rfl
theorem dX12_isStanding_36 : decode cX12_isStanding 36 = .ok (.aload_n 0, 1) := dAt wdX12_isStanding_26 adX12_isStanding_26.2.2.2.2.2.2.1 rfl
theorem dX12_isStanding_37 : decode cX12_isStanding 37 = .ok (.iload_n 1, 1) := dAt wdX12_isStanding_26 adX12_isStanding_26.2.2.2.2.2.2.2.1 rfl
theorem dX12_isStanding_38 : decode cX12_isStanding 38 = .ok (.invokestatic 164, 3) := dAt wdX12_isStanding_26 adX12_isStanding_26.2.2.2.2.2.2.2.2.1 rfl
theorem dX12_isStanding_41 : decode cX12_isStanding 41 = .ok (.iload_n 2, 1) := dAt wdX12_isStanding_26 adX12_isStanding_26.2.2.2.2.2.2.2.2.2.1 rfl
theorem dX12_isStanding_42 : decode cX12_isStanding 42 = .ok (.iload_n 3, 1) := dAt wdX12_isStanding_26 adX12_isStanding_26.2.2.2.2.2.2.2.2.2.2.1 rfl
theorem dX12_isStanding_43 : decode cX12_isStanding 43 = .ok (.invokevirtual 324, 3) := dAt wdX12_isStanding_26 adX12_isStanding_26.2.2.2.2.2.2.2.2.2.2.2.1 rfl
theorem dX12_isStanding_46 : decode cX12_isStanding 46 = .ok (.imul, 1) := dAt wdX12_isStanding_26 adX12_isStanding_26.2.2.2.2.2.2.2.2.2.2.2.2.1 rfl
theorem dX12_isStanding_47 : decode cX12_isStanding 47 = .ok (.iadd, 1) := dAt wdX12_isStanding_26 adX12_isStanding_26.2.2.2.2.2.2.2.2.2.2.2.2.2.1 rfl
theorem dX12_isStanding_48 : decode cX12_isStanding 48 = .ok (.aload_n 0, 1) := dAt wdX12_isStanding_26 adX12_isStanding_26.2.2.2.2.2.2.2.2.2.2.2.2.2.2.1 rfl
theorem dX12_isStanding_49 : decode cX12_isStanding 49 = .ok (.getfield 298, 3) := dAt wdX12_isStanding_26 adX12_isStanding_26.2.2.2.2.2.2.2.2.2.2.2.2.2.2.2 rfl
def bdX12_isStanding_52 : ByteArray := .mk #[161, 0, 7, 4, 167, 0, 4, 3, 172]
theorem wdX12_isStanding_52 : LocW cX12_isStanding 52 bdX12_isStanding_52 := loc_of (by decide +kernel)
theorem adX12_isStanding_52 : De bdX12_isStanding_52 0 (.if_icmp .lt 7) 3 ∧ De bdX12_isStanding_52 3 (.iconst 1) 1 ∧ De bdX12_isStanding_52 4 (.goto 4) 3 ∧ De bdX12_isStanding_52 7 (.iconst 0) 1 ∧ De bdX12_isStanding_52 8 (.ireturn) 1 := by decide +kernel
theorem dX12_isStanding_52 : decode cX12_isStanding 52 = .ok (.if_icmp .lt 7, 3) := dAt wdX12_isStanding_52 adX12_isStanding_52.1 rfl
theorem dX12_isStanding_55 : decode cX12_isStanding 55 = .ok (.iconst 1, 1) := dAt wdX12_isStanding_52 adX12_isStanding_52.2.1 rfl
theorem dX12_isStanding_56 : decode cX12_isStanding 56 = .ok (.goto 4, 3) := dAt wdX12_isStanding_52 adX12_isStanding_52.2.2.1 rfl
theorem dX12_isStanding_59 : decode cX12_isStanding 59 = .ok (.iconst 0, 1) := dAt wdX12_isStanding_52 adX12_isStanding_52.2.2.2.1 rfl
theorem dX12_isStanding_60 : decode cX12_isStanding 60 = .ok (.ireturn, 1) := dAt wdX12_isStanding_52 adX12_isStanding_52.2.2.2.2 rfl
def bdX12_badness_0 : ByteArray := .mk #[42, 27, 29, 182, 1, 74, 153, 0, 5, 3, 172, 42, 180, 1, 42, 42, 27, 28, 29, 182, 1, 71, 100, 54, 4]
theorem wdX12_badness_0 : LocW cX12_badness 0 bdX12_badness_0 := loc_of (by decide +kernel)
theorem adX12_badness_0 : De bdX12_badness_0 0 (.aload_n 0) 1 ∧ De bdX12_badness_0 1 (.iload_n 1) 1 ∧ De bdX12_badness_0 2 (.iload_n 3) 1 ∧ De bdX12_badness_0 3 (.invokevirtual 330) 3 ∧ De bdX12_badness_0 6 (.ifCond .eq 5) 3 ∧ De bdX12_badness_0 9 (.iconst 0) 1 ∧ De bdX12_badness_0 10 (.ireturn) 1 ∧ De bdX12_badness_0 11 (.aload_n 0) 1 ∧ De bdX12_badness_0 12 (.getfield 298) 3 ∧ De bdX12_badness_0 15 (.aload_n 0) 1 ∧ De bdX12_badness_0 16 (.iload_n 1) 1 ∧ De bdX12_badness_0 17 (.iload_n 2) 1 ∧ De bdX12_badness_0 18 (.iload_n 3) 1 ∧ De bdX12_badness_0 19 (.invokevirtual 327) 3 ∧ De bdX12_badness_0 22 (.isub) 1 ∧ De bdX12_badness_0 23 (.istore 4) 2 := by decide +kernel
theorem dX12_badness_0 : decode cX12_badness 0 = .ok (.aload_n 0, 1) := dAt wdX12_badness_0 adX12_badness_0.1 rfl
theorem dX12_badness_1 : decode cX12_badness 1 = .ok (.iload_n 1, 1) := dAt wdX12_badness_0 adX12_badness_0.2.1 rfl
theorem dX12_badness_2 : decode cX12_badness 2 = .ok (.iload_n 3, 1) := dAt wdX12_badness_0 adX12_badness_0.2.2.1 rfl
theorem dX12_badness_3 : decode cX12_badness 3 = .ok (.invokevirtual 330, 3) := dAt wdX12_badness_0 adX12_badness_0.2.2.2.1 rfl
theorem dX12_badness_6 : decode cX12_badness 6 = .ok (.ifCond .eq 5, 3) := dAt wdX12_badness_0 adX12_badness_0.2.2.2.2.1 rfl
theorem dX12_badness_9 : decode cX12_badness 9 = .ok (.iconst 0, 1) := dAt wdX12_badness_0 adX12_badness_0.2.2.2.2.2.1 rfl
theorem dX12_badness_10 : decode cX12_badness 10 = .ok (.ireturn, 1) := dAt wdX12_badness_0 adX12_badness_0.2.2.2.2.2.2.1 rfl
theorem dX12_badness_11 : decode cX12_badness 11 = .ok (.aload_n 0, 1) := dAt wdX12_badness_0 adX12_badness_0.2.2.2.2.2.2.2.1 rfl
theorem dX12_badness_12 : decode cX12_badness 12 = .ok (.getfield 298, 3) := dAt wdX12_badness_0 adX12_badness_0.2.2.2.2.2.2.2.2.1 rfl
theorem dX12_badness_15 : decode cX12_badness 15 = .ok (.aload_n 0, 1) := dAt wdX12_badness_0 adX12_badness_0.2.2.2.2.2.2.2.2.2.1 rfl
theorem dX12_badness_16 : decode cX12_badness 16 = .ok (.iload_n 1, 1) := dAt wdX12_badness_0 adX12_badness_0.2.2.2.2.2.2.2.2.2.2.1 rfl
theorem dX12_badness_17 : decode cX12_badness 17 = .ok (.iload_n 2, 1) := dAt wdX12_badness_0 adX12_badness_0.2.2.2.2.2.2.2.2.2.2.2.1 rfl
theorem dX12_badness_18 : decode cX12_badness 18 = .ok (.iload_n 3, 1) := dAt wdX12_badness_0 adX12_badness_0.2.2.2.2.2.2.2.2.2.2.2.2.1 rfl
theorem dX12_badness_19 : decode cX12_badness 19 = .ok (.invokevirtual 327, 3) := dAt wdX12_badness_0 adX12_badness_0.2.2.2.2.2.2.2.2.2.2.2.2.2.1 rfl
theorem dX12_badness_22 : decode cX12_badness 22 = .ok (.isub, 1) := dAt wdX12_badness_0 adX12_badness_0.2.2.2.2.2.2.2.2.2.2.2.2.2.2.1 rfl
theorem dX12_badness_23 : decode cX12_badness 23 = .ok (.istore 4, 2) := dAt wdX12_badness_0 adX12_badness_0.2.2.2.2.2.2.2.2.2.2.2.2.2.2.2 rfl
def bdX12_badness_25 : ByteArray := .mk #[21, 4, 21, 4, 104, 42, 27, 184, 0, 164, 29, 182, 1, 61, 153, 0, 7, 3, 167, 0, 7, 42, 180, 1, 50, 96, 172]
theorem wdX12_badness_25 : LocW cX12_badness 25 bdX12_badness_25 := loc_of (by decide +kernel)
theorem adX12_badness_25 : De bdX12_badness_25 0 (.iload 4) 2 ∧ De bdX12_badness_25 2 (.iload 4) 2 ∧ De bdX12_badness_25 4 (.imul) 1 ∧ De bdX12_badness_25 5 (.aload_n 0) 1 ∧ De bdX12_badness_25 6 (.iload_n 1) 1 ∧ De bdX12_badness_25 7 (.invokestatic 164) 3 ∧ De bdX12_badness_25 10 (.iload_n 3) 1 ∧ De bdX12_badness_25 11 (.invokevirtual 317) 3 ∧ De bdX12_badness_25 14 (.ifCond .eq 7) 3 ∧ De bdX12_badness_25 17 (.iconst 0) 1 ∧ De bdX12_badness_25 18 (.goto 7) 3 ∧ De bdX12_badness_25 21 (.aload_n 0) 1 ∧ De bdX12_badness_25 22 (.getfield 306) 3 ∧ De bdX12_badness_25 25 (.iadd) 1 ∧ De bdX12_badness_25 26 (.ireturn) 1 := by decide +kernel
theorem dX12_badness_25 : decode cX12_badness 25 = .ok (.iload 4, 2) := dAt wdX12_badness_25 adX12_badness_25.1 rfl
theorem dX12_badness_27 : decode cX12_badness 27 = .ok (.iload 4, 2) := dAt wdX12_badness_25 adX12_badness_25.2.1 rfl
theorem dX12_badness_29 : decode cX12_badness 29 = .ok (.imul, 1) := dAt wdX12_badness_25 adX12_badness_25.2.2.1 rfl
theorem dX12_badness_30 : decode cX12_badness 30 = .ok (.aload_n 0, 1) := dAt wdX12_badness_25 adX12_badness_25.2.2.2.1 rfl
theorem dX12_badness_31 : decode cX12_badness 31 = .ok (.iload_n 1, 1) := dAt wdX12_badness_25 adX12_badness_25.2.2.2.2.1 rfl
theorem dX12_badness_32 : decode cX12_badness 32 = .ok (.invokestatic 164, 3) := dAt wdX12_badness_25 adX12_badness_25.2.2.2.2.2.1 rfl
theorem dX12_badness_35 : decode cX12_badness 35 = .ok (.iload_n 3, 1) := dAt wdX12_badness_25 adX12_badness_25.2.2.2.2.2.2.1 rfl
theorem dX12_badness_36 : decode cX12_badness 36 = .ok (.invokevirtual 317, 3) := dAt wdX12_badness_25 adX12_badness_25.2.2.2.2.2.2.2.1 rfl
theorem dX12_badness_39 : decode cX12_badness 39 = .ok (.ifCond .eq 7, 3) := dAt wdX12_badness_25 adX12_badness_25.2.2.2.2.2.2.2.2.1 rfl
theorem dX12_badness_42 : decode cX12_badness 42 = .ok (.iconst 0, 1) := dAt wdX12_badness_25 adX12_badness_25.2.2.2.2.2.2.2.2.2.1 rfl
theorem dX12_badness_43 : decode cX12_badness 43 = .ok (.goto 7, 3) := dAt wdX12_badness_25 adX12_badness_25.2.2.2.2.2.2.2.2.2.2.1 rfl
theorem dX12_badness_46 : decode cX12_badness 46 = .ok (.aload_n 0, 1) := dAt wdX12_badness_25 adX12_badness_25.2.2.2.2.2.2.2.2.2.2.2.1 rfl
theorem dX12_badness_47 : decode cX12_badness 47 = .ok (.getfield 306, 3) := dAt wdX12_badness_25 adX12_badness_25.2.2.2.2.2.2.2.2.2.2.2.2.1 rfl
theorem dX12_badness_50 : decode cX12_badness 50 = .ok (.iadd, 1) := dAt wdX12_badness_25 adX12_badness_25.2.2.2.2.2.2.2.2.2.2.2.2.2.1 rfl
theorem dX12_badness_51 : decode cX12_badness 51 = .ok (.ireturn, 1) := dAt wdX12_badness_25 adX12_badness_25.2.2.2.2.2.2.2.2.2.2.2.2.2.2 rfl
def bdX12_work_0 : ByteArray := .mk #[42, 27, 28, 182, 1, 58, 42, 180, 0, 8, 27, 184, 0, 164, 4, 96, 46, 62, 42, 180, 0, 55, 29, 3]
theorem wdX12_work_0 : LocW cX12_work 0 bdX12_work_0 := loc_of (by decide +kernel)
theorem adX12_work_0 : De bdX12_work_0 0 (.aload_n 0) 1 ∧ De bdX12_work_0 1 (.iload_n 1) 1 ∧ De bdX12_work_0 2 (.iload_n 2) 1 ∧ De bdX12_work_0 3 (.invokevirtual 314) 3 ∧ De bdX12_work_0 6 (.aload_n 0) 1 ∧ De bdX12_work_0 7 (.getfield 8) 3 ∧ De bdX12_work_0 10 (.iload_n 1) 1 ∧ De bdX12_work_0 11 (.invokestatic 164) 3 ∧ De bdX12_work_0 14 (.iconst 1) 1 ∧ De bdX12_work_0 15 (.iadd) 1 ∧ De bdX12_work_0 16 (.iaload) 1 ∧ De bdX12_work_0 17 (.istore_n 3) 1 ∧ De bdX12_work_0 18 (.aload_n 0) 1 ∧ De bdX12_work_0 19 (.getfield 55) 3 ∧ De bdX12_work_0 22 (.iload_n 3) 1 ∧ De bdX12_work_0 23 (.iconst 0) 1 := by decide +kernel
theorem dX12_work_0 : decode cX12_work 0 = .ok (.aload_n 0, 1) := dAt wdX12_work_0 adX12_work_0.1 rfl
theorem dX12_work_1 : decode cX12_work 1 = .ok (.iload_n 1, 1) := dAt wdX12_work_0 adX12_work_0.2.1 rfl
theorem dX12_work_2 : decode cX12_work 2 = .ok (.iload_n 2, 1) := dAt wdX12_work_0 adX12_work_0.2.2.1 rfl
theorem dX12_work_3 : decode cX12_work 3 = .ok (.invokevirtual 314, 3) := dAt wdX12_work_0 adX12_work_0.2.2.2.1 rfl
theorem dX12_work_6 : decode cX12_work 6 = .ok (.aload_n 0, 1) := dAt wdX12_work_0 adX12_work_0.2.2.2.2.1 rfl
theorem dX12_work_7 : decode cX12_work 7 = .ok (.getfield 8, 3) := dAt wdX12_work_0 adX12_work_0.2.2.2.2.2.1 rfl
theorem dX12_work_10 : decode cX12_work 10 = .ok (.iload_n 1, 1) := dAt wdX12_work_0 adX12_work_0.2.2.2.2.2.2.1 rfl
theorem dX12_work_11 : decode cX12_work 11 = .ok (.invokestatic 164, 3) := dAt wdX12_work_0 adX12_work_0.2.2.2.2.2.2.2.1 rfl
theorem dX12_work_14 : decode cX12_work 14 = .ok (.iconst 1, 1) := dAt wdX12_work_0 adX12_work_0.2.2.2.2.2.2.2.2.1 rfl
theorem dX12_work_15 : decode cX12_work 15 = .ok (.iadd, 1) := dAt wdX12_work_0 adX12_work_0.2.2.2.2.2.2.2.2.2.1 rfl
theorem dX12_work_16 : decode cX12_work 16 = .ok (.iaload, 1) := dAt wdX12_work_0 adX12_work_0.2.2.2.2.2.2.2.2.2.2.1 rfl
theorem dX12_work_17 : decode cX12_work 17 = .ok (.istore_n 3, 1) := dAt wdX12_work_0 adX12_work_0.2.2.2.2.2.2.2.2.2.2.2.1 rfl
theorem dX12_work_18 : decode cX12_work 18 = .ok (.aload_n 0, 1) := dAt wdX12_work_0 adX12_work_0.2.2.2.2.2.2.2.2.2.2.2.2.1 rfl
theorem dX12_work_19 : decode cX12_work 19 = .ok (.getfield 55, 3) := dAt wdX12_work_0 adX12_work_0.2.2.2.2.2.2.2.2.2.2.2.2.2.1 rfl
theorem dX12_work_22 : decode cX12_work 22 = .ok (.iload_n 3, 1) := dAt wdX12_work_0 adX12_work_0.2.2.2.2.2.2.2.2.2.2.2.2.2.2.1 rfl
theorem dX12_work_23 : decode cX12_work 23 = .ok (.iconst 0, 1) := dAt wdX12_work_0 adX12_work_0.2.2.2.2.2.2.2.2.2.2.2.2.2.2.2 rfl
def bdX12_work_24 : ByteArray := .mk #[79, 42, 180, 0, 58, 29, 3, 79, 29, 4, 100, 54, 4, 21, 4, 155, 0, 170, 42, 180, 0, 55, 21, 4, 2]
theorem wdX12_work_24 : LocW cX12_work 24 bdX12_work_24 := loc_of (by decide +kernel)
theorem adX12_work_24 : De bdX12_work_24 0 (.iastore) 1 ∧ De bdX12_work_24 1 (.aload_n 0) 1 ∧ De bdX12_work_24 2 (.getfield 58) 3 ∧ De bdX12_work_24 5 (.iload_n 3) 1 ∧ De bdX12_work_24 6 (.iconst 0) 1 ∧ De bdX12_work_24 7 (.iastore) 1 ∧ De bdX12_work_24 8 (.iload_n 3) 1 ∧ De bdX12_work_24 9 (.iconst 1) 1 ∧ De bdX12_work_24 10 (.isub) 1 ∧ De bdX12_work_24 11 (.istore 4) 2 ∧ De bdX12_work_24 13 (.iload 4) 2 ∧ De bdX12_work_24 15 (.ifCond .lt 170) 3 ∧ De bdX12_work_24 18 (.aload_n 0) 1 ∧ De bdX12_work_24 19 (.getfield 55) 3 ∧ De bdX12_work_24 22 (.iload 4) 2 ∧ De bdX12_work_24 24 (.iconst (-1)) 1 := by decide +kernel
theorem dX12_work_24 : decode cX12_work 24 = .ok (.iastore, 1) := dAt wdX12_work_24 adX12_work_24.1 rfl
theorem dX12_work_25 : decode cX12_work 25 = .ok (.aload_n 0, 1) := dAt wdX12_work_24 adX12_work_24.2.1 rfl
theorem dX12_work_26 : decode cX12_work 26 = .ok (.getfield 58, 3) := dAt wdX12_work_24 adX12_work_24.2.2.1 rfl
theorem dX12_work_29 : decode cX12_work 29 = .ok (.iload_n 3, 1) := dAt wdX12_work_24 adX12_work_24.2.2.2.1 rfl
theorem dX12_work_30 : decode cX12_work 30 = .ok (.iconst 0, 1) := dAt wdX12_work_24 adX12_work_24.2.2.2.2.1 rfl
theorem dX12_work_31 : decode cX12_work 31 = .ok (.iastore, 1) := dAt wdX12_work_24 adX12_work_24.2.2.2.2.2.1 rfl
theorem dX12_work_32 : decode cX12_work 32 = .ok (.iload_n 3, 1) := dAt wdX12_work_24 adX12_work_24.2.2.2.2.2.2.1 rfl
theorem dX12_work_33 : decode cX12_work 33 = .ok (.iconst 1, 1) := dAt wdX12_work_24 adX12_work_24.2.2.2.2.2.2.2.1 rfl
theorem dX12_work_34 : decode cX12_work 34 = .ok (.isub, 1) := dAt wdX12_work_24 adX12_work_24.2.2.2.2.2.2.2.2.1 rfl
theorem dX12_work_35 : decode cX12_work 35 = .ok (.istore 4, 2) := dAt wdX12_work_24 adX12_work_24.2.2.2.2.2.2.2.2.2.1 rfl
theorem dX12_work_37 : decode cX12_work 37 = .ok (.iload 4, 2) := dAt wdX12_work_24 adX12_work_24.2.2.2.2.2.2.2.2.2.2.1 rfl
theorem dX12_work_39 : decode cX12_work 39 = .ok (.ifCond .lt 170, 3) := dAt wdX12_work_24 adX12_work_24.2.2.2.2.2.2.2.2.2.2.2.1 rfl
theorem dX12_work_42 : decode cX12_work 42 = .ok (.aload_n 0, 1) := dAt wdX12_work_24 adX12_work_24.2.2.2.2.2.2.2.2.2.2.2.2.1 rfl
theorem dX12_work_43 : decode cX12_work 43 = .ok (.getfield 55, 3) := dAt wdX12_work_24 adX12_work_24.2.2.2.2.2.2.2.2.2.2.2.2.2.1 rfl
theorem dX12_work_46 : decode cX12_work 46 = .ok (.iload 4, 2) := dAt wdX12_work_24 adX12_work_24.2.2.2.2.2.2.2.2.2.2.2.2.2.2.1 rfl
theorem dX12_work_48 : decode cX12_work 48 = .ok (.iconst (-1), 1) := dAt wdX12_work_24 adX12_work_24.2.2.2.2.2.2.2.2.2.2.2.2.2.2.2 rfl
def bdX12_work_49 : ByteArray := .mk #[79, 29, 54, 5, 21, 5, 21, 4, 164, 0, 146, 42, 180, 0, 55, 21, 5, 46, 2, 159, 0, 129, 42, 27, 21, 4, 21, 5]
theorem wdX12_work_49 : LocW cX12_work 49 bdX12_work_49 := loc_of (by decide +kernel)
theorem adX12_work_49 : De bdX12_work_49 0 (.iastore) 1 ∧ De bdX12_work_49 1 (.iload_n 3) 1 ∧ De bdX12_work_49 2 (.istore 5) 2 ∧ De bdX12_work_49 4 (.iload 5) 2 ∧ De bdX12_work_49 6 (.iload 4) 2 ∧ De bdX12_work_49 8 (.if_icmp .le 146) 3 ∧ De bdX12_work_49 11 (.aload_n 0) 1 ∧ De bdX12_work_49 12 (.getfield 55) 3 ∧ De bdX12_work_49 15 (.iload 5) 2 ∧ De bdX12_work_49 17 (.iaload) 1 ∧ De bdX12_work_49 18 (.iconst (-1)) 1 ∧ De bdX12_work_49 19 (.if_icmp .eq 129) 3 ∧ De bdX12_work_49 22 (.aload_n 0) 1 ∧ De bdX12_work_49 23 (.iload_n 1) 1 ∧ De bdX12_work_49 24 (.iload 4) 2 ∧ De bdX12_work_49 26 (.iload 5) 2 := by decide +kernel
theorem dX12_work_49 : decode cX12_work 49 = .ok (.iastore, 1) := dAt wdX12_work_49 adX12_work_49.1 rfl
theorem dX12_work_50 : decode cX12_work 50 = .ok (.iload_n 3, 1) := dAt wdX12_work_49 adX12_work_49.2.1 rfl
theorem dX12_work_51 : decode cX12_work 51 = .ok (.istore 5, 2) := dAt wdX12_work_49 adX12_work_49.2.2.1 rfl
theorem dX12_work_53 : decode cX12_work 53 = .ok (.iload 5, 2) := dAt wdX12_work_49 adX12_work_49.2.2.2.1 rfl
theorem dX12_work_55 : decode cX12_work 55 = .ok (.iload 4, 2) := dAt wdX12_work_49 adX12_work_49.2.2.2.2.1 rfl
theorem dX12_work_57 : decode cX12_work 57 = .ok (.if_icmp .le 146, 3) := dAt wdX12_work_49 adX12_work_49.2.2.2.2.2.1 rfl
theorem dX12_work_60 : decode cX12_work 60 = .ok (.aload_n 0, 1) := dAt wdX12_work_49 adX12_work_49.2.2.2.2.2.2.1 rfl
theorem dX12_work_61 : decode cX12_work 61 = .ok (.getfield 55, 3) := dAt wdX12_work_49 adX12_work_49.2.2.2.2.2.2.2.1 rfl
theorem dX12_work_64 : decode cX12_work 64 = .ok (.iload 5, 2) := dAt wdX12_work_49 adX12_work_49.2.2.2.2.2.2.2.2.1 rfl
theorem dX12_work_66 : decode cX12_work 66 = .ok (.iaload, 1) := dAt wdX12_work_49 adX12_work_49.2.2.2.2.2.2.2.2.2.1 rfl
theorem dX12_work_67 : decode cX12_work 67 = .ok (.iconst (-1), 1) := dAt wdX12_work_49 adX12_work_49.2.2.2.2.2.2.2.2.2.2.1 rfl
theorem dX12_work_68 : decode cX12_work 68 = .ok (.if_icmp .eq 129, 3) := dAt wdX12_work_49 adX12_work_49.2.2.2.2.2.2.2.2.2.2.2.1 rfl
theorem dX12_work_71 : decode cX12_work 71 = .ok (.aload_n 0, 1) := dAt wdX12_work_49 adX12_work_49.2.2.2.2.2.2.2.2.2.2.2.2.1 rfl
theorem dX12_work_72 : decode cX12_work 72 = .ok (.iload_n 1, 1) := dAt wdX12_work_49 adX12_work_49.2.2.2.2.2.2.2.2.2.2.2.2.2.1 rfl
theorem dX12_work_73 : decode cX12_work 73 = .ok (.iload 4, 2) := dAt wdX12_work_49 adX12_work_49.2.2.2.2.2.2.2.2.2.2.2.2.2.2.1 rfl
theorem dX12_work_75 : decode cX12_work 75 = .ok (.iload 5, 2) := dAt wdX12_work_49 adX12_work_49.2.2.2.2.2.2.2.2.2.2.2.2.2.2.2 rfl
def bdX12_work_77 : ByteArray := .mk #[4, 100, 182, 1, 77, 154, 0, 6, 167, 0, 112, 42, 180, 0, 55, 21, 5, 46, 42, 27, 21, 4, 21, 5, 4, 100, 182, 1, 80]
theorem wdX12_work_77 : LocW cX12_work 77 bdX12_work_77 := loc_of (by decide +kernel)
theorem adX12_work_77 : De bdX12_work_77 0 (.iconst 1) 1 ∧ De bdX12_work_77 1 (.isub) 1 ∧ De bdX12_work_77 2 (.invokevirtual 333) 3 ∧ De bdX12_work_77 5 (.ifCond .ne 6) 3 ∧ De bdX12_work_77 8 (.goto 112) 3 ∧ De bdX12_work_77 11 (.aload_n 0) 1 ∧ De bdX12_work_77 12 (.getfield 55) 3 ∧ De bdX12_work_77 15 (.iload 5) 2 ∧ De bdX12_work_77 17 (.iaload) 1 ∧ De bdX12_work_77 18 (.aload_n 0) 1 ∧ De bdX12_work_77 19 (.iload_n 1) 1 ∧ De bdX12_work_77 20 (.iload 4) 2 ∧ De bdX12_work_77 22 (.iload 5) 2 ∧ De bdX12_work_77 24 (.iconst 1) 1 ∧ De bdX12_work_77 25 (.isub) 1 ∧ De bdX12_work_77 26 (.invokevirtual 336) 3 := by decide +kernel
theorem dX12_work_77 : decode cX12_work 77 = .ok (.iconst 1, 1) := dAt wdX12_work_77 adX12_work_77.1 rfl
theorem dX12_work_78 : decode cX12_work 78 = .ok (.isub, 1) := dAt wdX12_work_77 adX12_work_77.2.1 rfl
theorem dX12_work_79 : decode cX12_work 79 = .ok (.invokevirtual 333, 3) := dAt wdX12_work_77 adX12_work_77.2.2.1 rfl
theorem dX12_work_82 : decode cX12_work 82 = .ok (.ifCond .ne 6, 3) := dAt wdX12_work_77 adX12_work_77.2.2.2.1 rfl
theorem dX12_work_85 : decode cX12_work 85 = .ok (.goto 112, 3) := dAt wdX12_work_77 adX12_work_77.2.2.2.2.1 rfl
theorem dX12_work_88 : decode cX12_work 88 = .ok (.aload_n 0, 1) := dAt wdX12_work_77 adX12_work_77.2.2.2.2.2.1 rfl
theorem dX12_work_89 : decode cX12_work 89 = .ok (.getfield 55, 3) := dAt wdX12_work_77 adX12_work_77.2.2.2.2.2.2.1 rfl
theorem dX12_work_92 : decode cX12_work 92 = .ok (.iload 5, 2) := dAt wdX12_work_77 adX12_work_77.2.2.2.2.2.2.2.1 rfl
theorem dX12_work_94 : decode cX12_work 94 = .ok (.iaload, 1) := dAt wdX12_work_77 adX12_work_77.2.2.2.2.2.2.2.2.1 rfl
theorem dX12_work_95 : decode cX12_work 95 = .ok (.aload_n 0, 1) := dAt wdX12_work_77 adX12_work_77.2.2.2.2.2.2.2.2.2.1 rfl
theorem dX12_work_96 : decode cX12_work 96 = .ok (.iload_n 1, 1) := dAt wdX12_work_77 adX12_work_77.2.2.2.2.2.2.2.2.2.2.1 rfl
theorem dX12_work_97 : decode cX12_work 97 = .ok (.iload 4, 2) := dAt wdX12_work_77 adX12_work_77.2.2.2.2.2.2.2.2.2.2.2.1 rfl
theorem dX12_work_99 : decode cX12_work 99 = .ok (.iload 5, 2) := dAt wdX12_work_77 adX12_work_77.2.2.2.2.2.2.2.2.2.2.2.2.1 rfl
theorem dX12_work_101 : decode cX12_work 101 = .ok (.iconst 1, 1) := dAt wdX12_work_77 adX12_work_77.2.2.2.2.2.2.2.2.2.2.2.2.2.1 rfl
theorem dX12_work_102 : decode cX12_work 102 = .ok (.isub, 1) := dAt wdX12_work_77 adX12_work_77.2.2.2.2.2.2.2.2.2.2.2.2.2.2.1 rfl
theorem dX12_work_103 : decode cX12_work 103 = .ok (.invokevirtual 336, 3) := dAt wdX12_work_77 adX12_work_77.2.2.2.2.2.2.2.2.2.2.2.2.2.2.2 rfl
def bdX12_work_106 : ByteArray := .mk #[96, 54, 6, 42, 180, 0, 58, 21, 5, 46, 4, 96, 54, 7, 42, 180, 0, 55, 21, 4, 46, 2, 159, 0, 42, 21, 6]
theorem wdX12_work_106 : LocW cX12_work 106 bdX12_work_106 := loc_of (by decide +kernel)
theorem adX12_work_106 : De bdX12_work_106 0 (.iadd) 1 ∧ De bdX12_work_106 1 (.istore 6) 2 ∧ De bdX12_work_106 3 (.aload_n 0) 1 ∧ De bdX12_work_106 4 (.getfield 58) 3 ∧ De bdX12_work_106 7 (.iload 5) 2 ∧ De bdX12_work_106 9 (.iaload) 1 ∧ De bdX12_work_106 10 (.iconst 1) 1 ∧ De bdX12_work_106 11 (.iadd) 1 ∧ De bdX12_work_106 12 (.istore 7) 2 ∧ De bdX12_work_106 14 (.aload_n 0) 1 ∧ De bdX12_work_106 15 (.getfield 55) 3 ∧ De bdX12_work_106 18 (.iload 4) 2 ∧ De bdX12_work_106 20 (.iaload) 1 ∧ De bdX12_work_106 21 (.iconst (-1)) 1 ∧ De bdX12_work_106 22 (.if_icmp .eq 42) 3 ∧ De bdX12_work_106 25 (.iload 6) 2 := by decide +kernel
theorem dX12_work_106 : decode cX12_work 106 = .ok (.iadd, 1) := dAt wdX12_work_106 adX12_work_106.1 rfl
theorem dX12_work_107 : decode cX12_work 107 = .ok (.istore 6, 2) := dAt wdX12_work_106 adX12_work_106.2.1 rfl
theorem dX12_work_109 : decode cX12_work 109 = .ok (.aload_n 0, 1) := dAt wdX12_work_106 adX12_work_106.2.2.1 rfl
theorem dX12_work_110 : decode cX12_work 110 = .ok (.getfield 58, 3) := dAt wdX12_work_106 adX12_work_106.2.2.2.1 rfl
theorem dX12_work_113 : decode cX12_work 113 = .ok (.iload 5, 2) := dAt wdX12_work_106 adX12_work_106.2.2.2.2.1 rfl
theorem dX12_work_115 : decode cX12_work 115 = .ok (.iaload, 1) := dAt wdX12_work_106 adX12_work_106.2.2.2.2.2.1 rfl
theorem dX12_work_116 : decode cX12_work 116 = .ok (.iconst 1, 1) := dAt wdX12_work_106 adX12_work_106.2.2.2.2.2.2.1 rfl
theorem dX12_work_117 : decode cX12_work 117 = .ok (.iadd, 1) := dAt wdX12_work_106 adX12_work_106.2.2.2.2.2.2.2.1 rfl
theorem dX12_work_118 : decode cX12_work 118 = .ok (.istore 7, 2) := dAt wdX12_work_106 adX12_work_106.2.2.2.2.2.2.2.2.1 rfl
theorem dX12_work_120 : decode cX12_work 120 = .ok (.aload_n 0, 1) := dAt wdX12_work_106 adX12_work_106.2.2.2.2.2.2.2.2.2.1 rfl
theorem dX12_work_121 : decode cX12_work 121 = .ok (.getfield 55, 3) := dAt wdX12_work_106 adX12_work_106.2.2.2.2.2.2.2.2.2.2.1 rfl
theorem dX12_work_124 : decode cX12_work 124 = .ok (.iload 4, 2) := dAt wdX12_work_106 adX12_work_106.2.2.2.2.2.2.2.2.2.2.2.1 rfl
theorem dX12_work_126 : decode cX12_work 126 = .ok (.iaload, 1) := dAt wdX12_work_106 adX12_work_106.2.2.2.2.2.2.2.2.2.2.2.2.1 rfl
theorem dX12_work_127 : decode cX12_work 127 = .ok (.iconst (-1), 1) := dAt wdX12_work_106 adX12_work_106.2.2.2.2.2.2.2.2.2.2.2.2.2.1 rfl
theorem dX12_work_128 : decode cX12_work 128 = .ok (.if_icmp .eq 42, 3) := dAt wdX12_work_106 adX12_work_106.2.2.2.2.2.2.2.2.2.2.2.2.2.2.1 rfl
theorem dX12_work_131 : decode cX12_work 131 = .ok (.iload 6, 2) := dAt wdX12_work_106 adX12_work_106.2.2.2.2.2.2.2.2.2.2.2.2.2.2.2 rfl
def bdX12_work_133 : ByteArray := .mk #[42, 180, 0, 55, 21, 4, 46, 163, 0, 57, 21, 6, 42, 180, 0, 55, 21, 4, 46, 160, 0, 18, 21, 7, 42, 180, 0, 58, 21, 4, 46]
theorem wdX12_work_133 : LocW cX12_work 133 bdX12_work_133 := loc_of (by decide +kernel)
theorem adX12_work_133 : De bdX12_work_133 0 (.aload_n 0) 1 ∧ De bdX12_work_133 1 (.getfield 55) 3 ∧ De bdX12_work_133 4 (.iload 4) 2 ∧ De bdX12_work_133 6 (.iaload) 1 ∧ De bdX12_work_133 7 (.if_icmp .gt 57) 3 ∧ De bdX12_work_133 10 (.iload 6) 2 ∧ De bdX12_work_133 12 (.aload_n 0) 1 ∧ De bdX12_work_133 13 (.getfield 55) 3 ∧ De bdX12_work_133 16 (.iload 4) 2 ∧ De bdX12_work_133 18 (.iaload) 1 ∧ De bdX12_work_133 19 (.if_icmp .ne 18) 3 ∧ De bdX12_work_133 22 (.iload 7) 2 ∧ De bdX12_work_133 24 (.aload_n 0) 1 ∧ De bdX12_work_133 25 (.getfield 58) 3 ∧ De bdX12_work_133 28 (.iload 4) 2 ∧ De bdX12_work_133 30 (.iaload) 1 := by decide +kernel
theorem dX12_work_133 : decode cX12_work 133 = .ok (.aload_n 0, 1) := dAt wdX12_work_133 adX12_work_133.1 rfl
theorem dX12_work_134 : decode cX12_work 134 = .ok (.getfield 55, 3) := dAt wdX12_work_133 adX12_work_133.2.1 rfl
theorem dX12_work_137 : decode cX12_work 137 = .ok (.iload 4, 2) := dAt wdX12_work_133 adX12_work_133.2.2.1 rfl
theorem dX12_work_139 : decode cX12_work 139 = .ok (.iaload, 1) := dAt wdX12_work_133 adX12_work_133.2.2.2.1 rfl
theorem dX12_work_140 : decode cX12_work 140 = .ok (.if_icmp .gt 57, 3) := dAt wdX12_work_133 adX12_work_133.2.2.2.2.1 rfl
theorem dX12_work_143 : decode cX12_work 143 = .ok (.iload 6, 2) := dAt wdX12_work_133 adX12_work_133.2.2.2.2.2.1 rfl
theorem dX12_work_145 : decode cX12_work 145 = .ok (.aload_n 0, 1) := dAt wdX12_work_133 adX12_work_133.2.2.2.2.2.2.1 rfl
theorem dX12_work_146 : decode cX12_work 146 = .ok (.getfield 55, 3) := dAt wdX12_work_133 adX12_work_133.2.2.2.2.2.2.2.1 rfl
theorem dX12_work_149 : decode cX12_work 149 = .ok (.iload 4, 2) := dAt wdX12_work_133 adX12_work_133.2.2.2.2.2.2.2.2.1 rfl
theorem dX12_work_151 : decode cX12_work 151 = .ok (.iaload, 1) := dAt wdX12_work_133 adX12_work_133.2.2.2.2.2.2.2.2.2.1 rfl
theorem dX12_work_152 : decode cX12_work 152 = .ok (.if_icmp .ne 18, 3) := dAt wdX12_work_133 adX12_work_133.2.2.2.2.2.2.2.2.2.2.1 rfl
theorem dX12_work_155 : decode cX12_work 155 = .ok (.iload 7, 2) := dAt wdX12_work_133 adX12_work_133.2.2.2.2.2.2.2.2.2.2.2.1 rfl
theorem dX12_work_157 : decode cX12_work 157 = .ok (.aload_n 0, 1) := dAt wdX12_work_133 adX12_work_133.2.2.2.2.2.2.2.2.2.2.2.2.1 rfl
theorem dX12_work_158 : decode cX12_work 158 = .ok (.getfield 58, 3) := dAt wdX12_work_133 adX12_work_133.2.2.2.2.2.2.2.2.2.2.2.2.2.1 rfl
theorem dX12_work_161 : decode cX12_work 161 = .ok (.iload 4, 2) := dAt wdX12_work_133 adX12_work_133.2.2.2.2.2.2.2.2.2.2.2.2.2.2.1 rfl
theorem dX12_work_163 : decode cX12_work 163 = .ok (.iaload, 1) := dAt wdX12_work_133 adX12_work_133.2.2.2.2.2.2.2.2.2.2.2.2.2.2.2 rfl
def bdX12_work_164 : ByteArray := .mk #[161, 0, 6, 167, 0, 30, 42, 180, 0, 55, 21, 4, 21, 6, 79, 42, 180, 0, 58, 21, 4, 21, 7, 79, 42, 180, 0, 61, 21, 4, 21, 5]
theorem wdX12_work_164 : LocW cX12_work 164 bdX12_work_164 := loc_of (by decide +kernel)
theorem adX12_work_164 : De bdX12_work_164 0 (.if_icmp .lt 6) 3 ∧ De bdX12_work_164 3 (.goto 30) 3 ∧ De bdX12_work_164 6 (.aload_n 0) 1 ∧ De bdX12_work_164 7 (.getfield 55) 3 ∧ De bdX12_work_164 10 (.iload 4) 2 ∧ De bdX12_work_164 12 (.iload 6) 2 ∧ De bdX12_work_164 14 (.iastore) 1 ∧ De bdX12_work_164 15 (.aload_n 0) 1 ∧ De bdX12_work_164 16 (.getfield 58) 3 ∧ De bdX12_work_164 19 (.iload 4) 2 ∧ De bdX12_work_164 21 (.iload 7) 2 ∧ De bdX12_work_164 23 (.iastore) 1 ∧ De bdX12_work_164 24 (.aload_n 0) 1 ∧ De bdX12_work_164 25 (.getfield 61) 3 ∧ De bdX12_work_164 28 (.iload 4) 2 ∧ De bdX12_work_164 30 (.iload 5) 2 := by decide +kernel
theorem dX12_work_164 : decode cX12_work 164 = .ok (.if_icmp .lt 6, 3) := dAt wdX12_work_164 adX12_work_164.1 rfl
theorem dX12_work_167 : decode cX12_work 167 = .ok (.goto 30, 3) := dAt wdX12_work_164 adX12_work_164.2.1 rfl
theorem dX12_work_170 : decode cX12_work 170 = .ok (.aload_n 0, 1) := dAt wdX12_work_164 adX12_work_164.2.2.1 rfl
theorem dX12_work_171 : decode cX12_work 171 = .ok (.getfield 55, 3) := dAt wdX12_work_164 adX12_work_164.2.2.2.1 rfl
theorem dX12_work_174 : decode cX12_work 174 = .ok (.iload 4, 2) := dAt wdX12_work_164 adX12_work_164.2.2.2.2.1 rfl
theorem dX12_work_176 : decode cX12_work 176 = .ok (.iload 6, 2) := dAt wdX12_work_164 adX12_work_164.2.2.2.2.2.1 rfl
theorem dX12_work_178 : decode cX12_work 178 = .ok (.iastore, 1) := dAt wdX12_work_164 adX12_work_164.2.2.2.2.2.2.1 rfl
theorem dX12_work_179 : decode cX12_work 179 = .ok (.aload_n 0, 1) := dAt wdX12_work_164 adX12_work_164.2.2.2.2.2.2.2.1 rfl
theorem dX12_work_180 : decode cX12_work 180 = .ok (.getfield 58, 3) := dAt wdX12_work_164 adX12_work_164.2.2.2.2.2.2.2.2.1 rfl
theorem dX12_work_183 : decode cX12_work 183 = .ok (.iload 4, 2) := dAt wdX12_work_164 adX12_work_164.2.2.2.2.2.2.2.2.2.1 rfl
theorem dX12_work_185 : decode cX12_work 185 = .ok (.iload 7, 2) := dAt wdX12_work_164 adX12_work_164.2.2.2.2.2.2.2.2.2.2.1 rfl
theorem dX12_work_187 : decode cX12_work 187 = .ok (.iastore, 1) := dAt wdX12_work_164 adX12_work_164.2.2.2.2.2.2.2.2.2.2.2.1 rfl
theorem dX12_work_188 : decode cX12_work 188 = .ok (.aload_n 0, 1) := dAt wdX12_work_164 adX12_work_164.2.2.2.2.2.2.2.2.2.2.2.2.1 rfl
theorem dX12_work_189 : decode cX12_work 189 = .ok (.getfield 61, 3) := dAt wdX12_work_164 adX12_work_164.2.2.2.2.2.2.2.2.2.2.2.2.2.1 rfl
theorem dX12_work_192 : decode cX12_work 192 = .ok (.iload 4, 2) := dAt wdX12_work_164 adX12_work_164.2.2.2.2.2.2.2.2.2.2.2.2.2.2.1 rfl
theorem dX12_work_194 : decode cX12_work 194 = .ok (.iload 5, 2) := dAt wdX12_work_164 adX12_work_164.2.2.2.2.2.2.2.2.2.2.2.2.2.2.2 rfl
def bdX12_work_196 : ByteArray := .mk #[79, 132, 5, 255, 167, 255, 109, 132, 4, 255, 167, 255, 87, 177]
theorem wdX12_work_196 : LocW cX12_work 196 bdX12_work_196 := loc_of (by decide +kernel)
theorem adX12_work_196 : De bdX12_work_196 0 (.iastore) 1 ∧ De bdX12_work_196 1 (.iinc 5 (-1)) 3 ∧ De bdX12_work_196 4 (.goto (-147)) 3 ∧ De bdX12_work_196 7 (.iinc 4 (-1)) 3 ∧ De bdX12_work_196 10 (.goto (-169)) 3 ∧ De bdX12_work_196 13 (.return_) 1 := by decide +kernel
theorem dX12_work_196 : decode cX12_work 196 = .ok (.iastore, 1) := dAt wdX12_work_196 adX12_work_196.1 rfl
theorem dX12_work_197 : decode cX12_work 197 = .ok (.iinc 5 (-1), 3) := dAt wdX12_work_196 adX12_work_196.2.1 rfl
theorem dX12_work_200 : decode cX12_work 200 = .ok (.goto (-147), 3) := dAt wdX12_work_196 adX12_work_196.2.2.1 rfl
theorem dX12_work_203 : decode cX12_work 203 = .ok (.iinc 4 (-1), 3) := dAt wdX12_work_196 adX12_work_196.2.2.2.1 rfl
theorem dX12_work_206 : decode cX12_work 206 = .ok (.goto (-169), 3) := dAt wdX12_work_196 adX12_work_196.2.2.2.2.1 rfl
theorem dX12_work_209 : decode cX12_work 209 = .ok (.return_, 1) := dAt wdX12_work_196 adX12_work_196.2.2.2.2.2 rfl
def bdX12_reach_0 : ByteArray := .mk #[42, 180, 0, 8, 27, 184, 0, 164, 4, 96, 46, 61, 4, 62, 29, 16, 41, 162, 0, 16, 42, 180, 0, 70, 29]
theorem wdX12_reach_0 : LocW cX12_reach 0 bdX12_reach_0 := loc_of (by decide +kernel)
theorem adX12_reach_0 : De bdX12_reach_0 0 (.aload_n 0) 1 ∧ De bdX12_reach_0 1 (.getfield 8) 3 ∧ De bdX12_reach_0 4 (.iload_n 1) 1 ∧ De bdX12_reach_0 5 (.invokestatic 164) 3 ∧ De bdX12_reach_0 8 (.iconst 1) 1 ∧ De bdX12_reach_0 9 (.iadd) 1 ∧ De bdX12_reach_0 10 (.iaload) 1 ∧ De bdX12_reach_0 11 (.istore_n 2) 1 ∧ De bdX12_reach_0 12 (.iconst 1) 1 ∧ De bdX12_reach_0 13 (.istore_n 3) 1 ∧ De bdX12_reach_0 14 (.iload_n 3) 1 ∧ De bdX12_reach_0 15 (.bipush 41) 2 ∧ De bdX12_reach_0 17 (.if_icmp .ge 16) 3 ∧ De bdX12_reach_0 20 (.aload_n 0) 1 ∧ De bdX12_reach_0 21 (.getfield 70) 3 ∧ De bdX12_reach_0 24 (.iload_n 3) 1 := by decide +kernel
theorem dX12_reach_0 : decode cX12_reach 0 = .ok (.aload_n 0, 1) := dAt wdX12_reach_0 adX12_reach_0.1 rfl
theorem dX12_reach_1 : decode cX12_reach 1 = .ok (.getfield 8, 3) := dAt wdX12_reach_0 adX12_reach_0.2.1 rfl
theorem dX12_reach_4 : decode cX12_reach 4 = .ok (.iload_n 1, 1) := dAt wdX12_reach_0 adX12_reach_0.2.2.1 rfl
theorem dX12_reach_5 : decode cX12_reach 5 = .ok (.invokestatic 164, 3) := dAt wdX12_reach_0 adX12_reach_0.2.2.2.1 rfl
theorem dX12_reach_8 : decode cX12_reach 8 = .ok (.iconst 1, 1) := dAt wdX12_reach_0 adX12_reach_0.2.2.2.2.1 rfl
theorem dX12_reach_9 : decode cX12_reach 9 = .ok (.iadd, 1) := dAt wdX12_reach_0 adX12_reach_0.2.2.2.2.2.1 rfl
theorem dX12_reach_10 : decode cX12_reach 10 = .ok (.iaload, 1) := dAt wdX12_reach_0 adX12_reach_0.2.2.2.2.2.2.1 rfl
theorem dX12_reach_11 : decode cX12_reach 11 = .ok (.istore_n 2, 1) := dAt wdX12_reach_0 adX12_reach_0.2.2.2.2.2.2.2.1 rfl
theorem dX12_reach_12 : decode cX12_reach 12 = .ok (.iconst 1, 1) := dAt wdX12_reach_0 adX12_reach_0.2.2.2.2.2.2.2.2.1 rfl
theorem dX12_reach_13 : decode cX12_reach 13 = .ok (.istore_n 3, 1) := dAt wdX12_reach_0 adX12_reach_0.2.2.2.2.2.2.2.2.2.1 rfl
theorem dX12_reach_14 : decode cX12_reach 14 = .ok (.iload_n 3, 1) := dAt wdX12_reach_0 adX12_reach_0.2.2.2.2.2.2.2.2.2.2.1 rfl
theorem dX12_reach_15 : decode cX12_reach 15 = .ok (.bipush 41, 2) := dAt wdX12_reach_0 adX12_reach_0.2.2.2.2.2.2.2.2.2.2.2.1 rfl
theorem dX12_reach_17 : decode cX12_reach 17 = .ok (.if_icmp .ge 16, 3) := dAt wdX12_reach_0 adX12_reach_0.2.2.2.2.2.2.2.2.2.2.2.2.1 rfl
theorem dX12_reach_20 : decode cX12_reach 20 = .ok (.aload_n 0, 1) := dAt wdX12_reach_0 adX12_reach_0.2.2.2.2.2.2.2.2.2.2.2.2.2.1 rfl
theorem dX12_reach_21 : decode cX12_reach 21 = .ok (.getfield 70, 3) := dAt wdX12_reach_0 adX12_reach_0.2.2.2.2.2.2.2.2.2.2.2.2.2.2.1 rfl
theorem dX12_reach_24 : decode cX12_reach 24 = .ok (.iload_n 3, 1) := dAt wdX12_reach_0 adX12_reach_0.2.2.2.2.2.2.2.2.2.2.2.2.2.2.2 rfl
def bdX12_reach_25 : ByteArray := .mk #[3, 84, 132, 3, 1, 167, 255, 240, 42, 180, 0, 70, 3, 4, 84, 3, 62, 3, 54, 4, 21, 4, 28, 162, 0, 90]
theorem wdX12_reach_25 : LocW cX12_reach 25 bdX12_reach_25 := loc_of (by decide +kernel)
theorem adX12_reach_25 : De bdX12_reach_25 0 (.iconst 0) 1 ∧ De bdX12_reach_25 1 (.bastore) 1 ∧ De bdX12_reach_25 2 (.iinc 3 1) 3 ∧ De bdX12_reach_25 5 (.goto (-16)) 3 ∧ De bdX12_reach_25 8 (.aload_n 0) 1 ∧ De bdX12_reach_25 9 (.getfield 70) 3 ∧ De bdX12_reach_25 12 (.iconst 0) 1 ∧ De bdX12_reach_25 13 (.iconst 1) 1 ∧ De bdX12_reach_25 14 (.bastore) 1 ∧ De bdX12_reach_25 15 (.iconst 0) 1 ∧ De bdX12_reach_25 16 (.istore_n 3) 1 ∧ De bdX12_reach_25 17 (.iconst 0) 1 ∧ De bdX12_reach_25 18 (.istore 4) 2 ∧ De bdX12_reach_25 20 (.iload 4) 2 ∧ De bdX12_reach_25 22 (.iload_n 2) 1 ∧ De bdX12_reach_25 23 (.if_icmp .ge 90) 3 := by decide +kernel
theorem dX12_reach_25 : decode cX12_reach 25 = .ok (.iconst 0, 1) := dAt wdX12_reach_25 adX12_reach_25.1 rfl
theorem dX12_reach_26 : decode cX12_reach 26 = .ok (.bastore, 1) := dAt wdX12_reach_25 adX12_reach_25.2.1 rfl
theorem dX12_reach_27 : decode cX12_reach 27 = .ok (.iinc 3 1, 3) := dAt wdX12_reach_25 adX12_reach_25.2.2.1 rfl
theorem dX12_reach_30 : decode cX12_reach 30 = .ok (.goto (-16), 3) := dAt wdX12_reach_25 adX12_reach_25.2.2.2.1 rfl
theorem dX12_reach_33 : decode cX12_reach 33 = .ok (.aload_n 0, 1) := dAt wdX12_reach_25 adX12_reach_25.2.2.2.2.1 rfl
theorem dX12_reach_34 : decode cX12_reach 34 = .ok (.getfield 70, 3) := dAt wdX12_reach_25 adX12_reach_25.2.2.2.2.2.1 rfl
theorem dX12_reach_37 : decode cX12_reach 37 = .ok (.iconst 0, 1) := dAt wdX12_reach_25 adX12_reach_25.2.2.2.2.2.2.1 rfl
theorem dX12_reach_38 : decode cX12_reach 38 = .ok (.iconst 1, 1) := dAt wdX12_reach_25 adX12_reach_25.2.2.2.2.2.2.2.1 rfl
theorem dX12_reach_39 : decode cX12_reach 39 = .ok (.bastore, 1) := dAt wdX12_reach_25 adX12_reach_25.2.2.2.2.2.2.2.2.1 rfl
theorem dX12_reach_40 : decode cX12_reach 40 = .ok (.iconst 0, 1) := dAt wdX12_reach_25 adX12_reach_25.2.2.2.2.2.2.2.2.2.1 rfl
theorem dX12_reach_41 : decode cX12_reach 41 = .ok (.istore_n 3, 1) := dAt wdX12_reach_25 adX12_reach_25.2.2.2.2.2.2.2.2.2.2.1 rfl
theorem dX12_reach_42 : decode cX12_reach 42 = .ok (.iconst 0, 1) := dAt wdX12_reach_25 adX12_reach_25.2.2.2.2.2.2.2.2.2.2.2.1 rfl
theorem dX12_reach_43 : decode cX12_reach 43 = .ok (.istore 4, 2) := dAt wdX12_reach_25 adX12_reach_25.2.2.2.2.2.2.2.2.2.2.2.2.1 rfl
theorem dX12_reach_45 : decode cX12_reach 45 = .ok (.iload 4, 2) := dAt wdX12_reach_25 adX12_reach_25.2.2.2.2.2.2.2.2.2.2.2.2.2.1 rfl
theorem dX12_reach_47 : decode cX12_reach 47 = .ok (.iload_n 2, 1) := dAt wdX12_reach_25 adX12_reach_25.2.2.2.2.2.2.2.2.2.2.2.2.2.2.1 rfl
theorem dX12_reach_48 : decode cX12_reach 48 = .ok (.if_icmp .ge 90, 3) := dAt wdX12_reach_25 adX12_reach_25.2.2.2.2.2.2.2.2.2.2.2.2.2.2.2 rfl
def bdX12_reach_51 : ByteArray := .mk #[21, 4, 4, 96, 54, 5, 21, 5, 28, 163, 0, 55, 42, 180, 0, 70, 21, 4, 51, 153, 0, 45, 42, 180, 0, 70, 21, 5, 42]
theorem wdX12_reach_51 : LocW cX12_reach 51 bdX12_reach_51 := loc_of (by decide +kernel)
theorem adX12_reach_51 : De bdX12_reach_51 0 (.iload 4) 2 ∧ De bdX12_reach_51 2 (.iconst 1) 1 ∧ De bdX12_reach_51 3 (.iadd) 1 ∧ De bdX12_reach_51 4 (.istore 5) 2 ∧ De bdX12_reach_51 6 (.iload 5) 2 ∧ De bdX12_reach_51 8 (.iload_n 2) 1 ∧ De bdX12_reach_51 9 (.if_icmp .gt 55) 3 ∧ De bdX12_reach_51 12 (.aload_n 0) 1 ∧ De bdX12_reach_51 13 (.getfield 70) 3 ∧ De bdX12_reach_51 16 (.iload 4) 2 ∧ De bdX12_reach_51 18 (.baload) 1 ∧ De bdX12_reach_51 19 (.ifCond .eq 45) 3 ∧ De bdX12_reach_51 22 (.aload_n 0) 1 ∧ De bdX12_reach_51 23 (.getfield 70) 3 ∧ De bdX12_reach_51 26 (.iload 5) 2 ∧ De bdX12_reach_51 28 (.aload_n 0) 1 := by decide +kernel
theorem dX12_reach_51 : decode cX12_reach 51 = .ok (.iload 4, 2) := dAt wdX12_reach_51 adX12_reach_51.1 rfl
theorem dX12_reach_53 : decode cX12_reach 53 = .ok (.iconst 1, 1) := dAt wdX12_reach_51 adX12_reach_51.2.1 rfl
theorem dX12_reach_54 : decode cX12_reach 54 = .ok (.iadd, 1) := dAt wdX12_reach_51 adX12_reach_51.2.2.1 rfl
theorem dX12_reach_55 : decode cX12_reach 55 = .ok (.istore 5, 2) := dAt wdX12_reach_51 adX12_reach_51.2.2.2.1 rfl
theorem dX12_reach_57 : decode cX12_reach 57 = .ok (.iload 5, 2) := dAt wdX12_reach_51 adX12_reach_51.2.2.2.2.1 rfl
theorem dX12_reach_59 : decode cX12_reach 59 = .ok (.iload_n 2, 1) := dAt wdX12_reach_51 adX12_reach_51.2.2.2.2.2.1 rfl
theorem dX12_reach_60 : decode cX12_reach 60 = .ok (.if_icmp .gt 55, 3) := dAt wdX12_reach_51 adX12_reach_51.2.2.2.2.2.2.1 rfl
theorem dX12_reach_63 : decode cX12_reach 63 = .ok (.aload_n 0, 1) := dAt wdX12_reach_51 adX12_reach_51.2.2.2.2.2.2.2.1 rfl
theorem dX12_reach_64 : decode cX12_reach 64 = .ok (.getfield 70, 3) := dAt wdX12_reach_51 adX12_reach_51.2.2.2.2.2.2.2.2.1 rfl
theorem dX12_reach_67 : decode cX12_reach 67 = .ok (.iload 4, 2) := dAt wdX12_reach_51 adX12_reach_51.2.2.2.2.2.2.2.2.2.1 rfl
theorem dX12_reach_69 : decode cX12_reach 69 = .ok (.baload, 1) := dAt wdX12_reach_51 adX12_reach_51.2.2.2.2.2.2.2.2.2.2.1 rfl
theorem dX12_reach_70 : decode cX12_reach 70 = .ok (.ifCond .eq 45, 3) := dAt wdX12_reach_51 adX12_reach_51.2.2.2.2.2.2.2.2.2.2.2.1 rfl
theorem dX12_reach_73 : decode cX12_reach 73 = .ok (.aload_n 0, 1) := dAt wdX12_reach_51 adX12_reach_51.2.2.2.2.2.2.2.2.2.2.2.2.1 rfl
theorem dX12_reach_74 : decode cX12_reach 74 = .ok (.getfield 70, 3) := dAt wdX12_reach_51 adX12_reach_51.2.2.2.2.2.2.2.2.2.2.2.2.2.1 rfl
theorem dX12_reach_77 : decode cX12_reach 77 = .ok (.iload 5, 2) := dAt wdX12_reach_51 adX12_reach_51.2.2.2.2.2.2.2.2.2.2.2.2.2.2.1 rfl
theorem dX12_reach_79 : decode cX12_reach 79 = .ok (.aload_n 0, 1) := dAt wdX12_reach_51 adX12_reach_51.2.2.2.2.2.2.2.2.2.2.2.2.2.2.2 rfl
def bdX12_reach_80 : ByteArray := .mk #[180, 0, 70, 21, 5, 51, 154, 0, 17, 42, 27, 21, 4, 21, 5, 4, 100, 182, 1, 77, 153, 0, 7, 4, 167, 0, 4, 3, 84]
theorem wdX12_reach_80 : LocW cX12_reach 80 bdX12_reach_80 := loc_of (by decide +kernel)
theorem adX12_reach_80 : De bdX12_reach_80 0 (.getfield 70) 3 ∧ De bdX12_reach_80 3 (.iload 5) 2 ∧ De bdX12_reach_80 5 (.baload) 1 ∧ De bdX12_reach_80 6 (.ifCond .ne 17) 3 ∧ De bdX12_reach_80 9 (.aload_n 0) 1 ∧ De bdX12_reach_80 10 (.iload_n 1) 1 ∧ De bdX12_reach_80 11 (.iload 4) 2 ∧ De bdX12_reach_80 13 (.iload 5) 2 ∧ De bdX12_reach_80 15 (.iconst 1) 1 ∧ De bdX12_reach_80 16 (.isub) 1 ∧ De bdX12_reach_80 17 (.invokevirtual 333) 3 ∧ De bdX12_reach_80 20 (.ifCond .eq 7) 3 ∧ De bdX12_reach_80 23 (.iconst 1) 1 ∧ De bdX12_reach_80 24 (.goto 4) 3 ∧ De bdX12_reach_80 27 (.iconst 0) 1 ∧ De bdX12_reach_80 28 (.bastore) 1 := by decide +kernel
theorem dX12_reach_80 : decode cX12_reach 80 = .ok (.getfield 70, 3) := dAt wdX12_reach_80 adX12_reach_80.1 rfl
theorem dX12_reach_83 : decode cX12_reach 83 = .ok (.iload 5, 2) := dAt wdX12_reach_80 adX12_reach_80.2.1 rfl
theorem dX12_reach_85 : decode cX12_reach 85 = .ok (.baload, 1) := dAt wdX12_reach_80 adX12_reach_80.2.2.1 rfl
theorem dX12_reach_86 : decode cX12_reach 86 = .ok (.ifCond .ne 17, 3) := dAt wdX12_reach_80 adX12_reach_80.2.2.2.1 rfl
theorem dX12_reach_89 : decode cX12_reach 89 = .ok (.aload_n 0, 1) := dAt wdX12_reach_80 adX12_reach_80.2.2.2.2.1 rfl
theorem dX12_reach_90 : decode cX12_reach 90 = .ok (.iload_n 1, 1) := dAt wdX12_reach_80 adX12_reach_80.2.2.2.2.2.1 rfl
theorem dX12_reach_91 : decode cX12_reach 91 = .ok (.iload 4, 2) := dAt wdX12_reach_80 adX12_reach_80.2.2.2.2.2.2.1 rfl
theorem dX12_reach_93 : decode cX12_reach 93 = .ok (.iload 5, 2) := dAt wdX12_reach_80 adX12_reach_80.2.2.2.2.2.2.2.1 rfl
theorem dX12_reach_95 : decode cX12_reach 95 = .ok (.iconst 1, 1) := dAt wdX12_reach_80 adX12_reach_80.2.2.2.2.2.2.2.2.1 rfl
theorem dX12_reach_96 : decode cX12_reach 96 = .ok (.isub, 1) := dAt wdX12_reach_80 adX12_reach_80.2.2.2.2.2.2.2.2.2.1 rfl
theorem dX12_reach_97 : decode cX12_reach 97 = .ok (.invokevirtual 333, 3) := dAt wdX12_reach_80 adX12_reach_80.2.2.2.2.2.2.2.2.2.2.1 rfl
theorem dX12_reach_100 : decode cX12_reach 100 = .ok (.ifCond .eq 7, 3) := dAt wdX12_reach_80 adX12_reach_80.2.2.2.2.2.2.2.2.2.2.2.1 rfl
theorem dX12_reach_103 : decode cX12_reach 103 = .ok (.iconst 1, 1) := dAt wdX12_reach_80 adX12_reach_80.2.2.2.2.2.2.2.2.2.2.2.2.1 rfl
theorem dX12_reach_104 : decode cX12_reach 104 = .ok (.goto 4, 3) := dAt wdX12_reach_80 adX12_reach_80.2.2.2.2.2.2.2.2.2.2.2.2.2.1 rfl
theorem dX12_reach_107 : decode cX12_reach 107 = .ok (.iconst 0, 1) := dAt wdX12_reach_80 adX12_reach_80.2.2.2.2.2.2.2.2.2.2.2.2.2.2.1 rfl
theorem dX12_reach_108 : decode cX12_reach 108 = .ok (.bastore, 1) := dAt wdX12_reach_80 adX12_reach_80.2.2.2.2.2.2.2.2.2.2.2.2.2.2.2 rfl
def bdX12_reach_109 : ByteArray := .mk #[132, 5, 1, 167, 255, 201, 42, 180, 0, 70, 21, 4, 4, 96, 51, 153, 0, 8, 21, 4, 4, 96, 62, 132, 4, 1, 167, 255, 166, 29]
theorem wdX12_reach_109 : LocW cX12_reach 109 bdX12_reach_109 := loc_of (by decide +kernel)
theorem adX12_reach_109 : De bdX12_reach_109 0 (.iinc 5 1) 3 ∧ De bdX12_reach_109 3 (.goto (-55)) 3 ∧ De bdX12_reach_109 6 (.aload_n 0) 1 ∧ De bdX12_reach_109 7 (.getfield 70) 3 ∧ De bdX12_reach_109 10 (.iload 4) 2 ∧ De bdX12_reach_109 12 (.iconst 1) 1 ∧ De bdX12_reach_109 13 (.iadd) 1 ∧ De bdX12_reach_109 14 (.baload) 1 ∧ De bdX12_reach_109 15 (.ifCond .eq 8) 3 ∧ De bdX12_reach_109 18 (.iload 4) 2 ∧ De bdX12_reach_109 20 (.iconst 1) 1 ∧ De bdX12_reach_109 21 (.iadd) 1 ∧ De bdX12_reach_109 22 (.istore_n 3) 1 ∧ De bdX12_reach_109 23 (.iinc 4 1) 3 ∧ De bdX12_reach_109 26 (.goto (-90)) 3 ∧ De bdX12_reach_109 29 (.iload_n 3) 1 := by decide +kernel
theorem dX12_reach_109 : decode cX12_reach 109 = .ok (.iinc 5 1, 3) := dAt wdX12_reach_109 adX12_reach_109.1 rfl
theorem dX12_reach_112 : decode cX12_reach 112 = .ok (.goto (-55), 3) := dAt wdX12_reach_109 adX12_reach_109.2.1 rfl
theorem dX12_reach_115 : decode cX12_reach 115 = .ok (.aload_n 0, 1) := dAt wdX12_reach_109 adX12_reach_109.2.2.1 rfl
theorem dX12_reach_116 : decode cX12_reach 116 = .ok (.getfield 70, 3) := dAt wdX12_reach_109 adX12_reach_109.2.2.2.1 rfl
theorem dX12_reach_119 : decode cX12_reach 119 = .ok (.iload 4, 2) := dAt wdX12_reach_109 adX12_reach_109.2.2.2.2.1 rfl
theorem dX12_reach_121 : decode cX12_reach 121 = .ok (.iconst 1, 1) := dAt wdX12_reach_109 adX12_reach_109.2.2.2.2.2.1 rfl
theorem dX12_reach_122 : decode cX12_reach 122 = .ok (.iadd, 1) := dAt wdX12_reach_109 adX12_reach_109.2.2.2.2.2.2.1 rfl
theorem dX12_reach_123 : decode cX12_reach 123 = .ok (.baload, 1) := dAt wdX12_reach_109 adX12_reach_109.2.2.2.2.2.2.2.1 rfl
theorem dX12_reach_124 : decode cX12_reach 124 = .ok (.ifCond .eq 8, 3) := dAt wdX12_reach_109 adX12_reach_109.2.2.2.2.2.2.2.2.1 rfl
theorem dX12_reach_127 : decode cX12_reach 127 = .ok (.iload 4, 2) := dAt wdX12_reach_109 adX12_reach_109.2.2.2.2.2.2.2.2.2.1 rfl
theorem dX12_reach_129 : decode cX12_reach 129 = .ok (.iconst 1, 1) := dAt wdX12_reach_109 adX12_reach_109.2.2.2.2.2.2.2.2.2.2.1 rfl
theorem dX12_reach_130 : decode cX12_reach 130 = .ok (.iadd, 1) := dAt wdX12_reach_109 adX12_reach_109.2.2.2.2.2.2.2.2.2.2.2.1 rfl
theorem dX12_reach_131 : decode cX12_reach 131 = .ok (.istore_n 3, 1) := dAt wdX12_reach_109 adX12_reach_109.2.2.2.2.2.2.2.2.2.2.2.2.1 rfl
theorem dX12_reach_132 : decode cX12_reach 132 = .ok (.iinc 4 1, 3) := dAt wdX12_reach_109 adX12_reach_109.2.2.2.2.2.2.2.2.2.2.2.2.2.1 rfl
theorem dX12_reach_135 : decode cX12_reach 135 = .ok (.goto (-90), 3) := dAt wdX12_reach_109 adX12_reach_109.2.2.2.2.2.2.2.2.2.2.2.2.2.2.1 rfl
theorem dX12_reach_138 : decode cX12_reach 138 = .ok (.iload_n 3, 1) := dAt wdX12_reach_109 adX12_reach_109.2.2.2.2.2.2.2.2.2.2.2.2.2.2.2 rfl
def bdX12_reach_139 : ByteArray := .mk #[172]
theorem wdX12_reach_139 : LocW cX12_reach 139 bdX12_reach_139 := loc_of (by decide +kernel)
theorem adX12_reach_139 : De bdX12_reach_139 0 (.ireturn) 1 := by decide +kernel
theorem dX12_reach_139 : decode cX12_reach 139 = .ok (.ireturn, 1) := dAt wdX12_reach_139 adX12_reach_139 rfl
def bdX12_part_0 : ByteArray := .mk #[42, 42, 27, 182, 1, 55, 154, 0, 7, 4, 167, 0, 18, 28, 3, 16, 7, 184, 0, 157, 154, 0, 7, 5, 167, 0, 4, 3, 181, 0, 122]
theorem wdX12_part_0 : LocW cX12_part 0 bdX12_part_0 := loc_of (by decide +kernel)
theorem adX12_part_0 : De bdX12_part_0 0 (.aload_n 0) 1 ∧ De bdX12_part_0 1 (.aload_n 0) 1 ∧ De bdX12_part_0 2 (.iload_n 1) 1 ∧ De bdX12_part_0 3 (.invokevirtual 311) 3 ∧ De bdX12_part_0 6 (.ifCond .ne 7) 3 ∧ De bdX12_part_0 9 (.iconst 1) 1 ∧ De bdX12_part_0 10 (.goto 18) 3 ∧ De bdX12_part_0 13 (.iload_n 2) 1 ∧ De bdX12_part_0 14 (.iconst 0) 1 ∧ De bdX12_part_0 15 (.bipush 7) 2 ∧ De bdX12_part_0 17 (.invokestatic 157) 3 ∧ De bdX12_part_0 20 (.ifCond .ne 7) 3 ∧ De bdX12_part_0 23 (.iconst 2) 1 ∧ De bdX12_part_0 24 (.goto 4) 3 ∧ De bdX12_part_0 27 (.iconst 0) 1 ∧ De bdX12_part_0 28 (.putfield 122) 3 := by decide +kernel
theorem dX12_part_0 : decode cX12_part 0 = .ok (.aload_n 0, 1) := dAt wdX12_part_0 adX12_part_0.1 rfl
theorem dX12_part_1 : decode cX12_part 1 = .ok (.aload_n 0, 1) := dAt wdX12_part_0 adX12_part_0.2.1 rfl
theorem dX12_part_2 : decode cX12_part 2 = .ok (.iload_n 1, 1) := dAt wdX12_part_0 adX12_part_0.2.2.1 rfl
theorem dX12_part_3 : decode cX12_part 3 = .ok (.invokevirtual 311, 3) := dAt wdX12_part_0 adX12_part_0.2.2.2.1 rfl
theorem dX12_part_6 : decode cX12_part 6 = .ok (.ifCond .ne 7, 3) := dAt wdX12_part_0 adX12_part_0.2.2.2.2.1 rfl
theorem dX12_part_9 : decode cX12_part 9 = .ok (.iconst 1, 1) := dAt wdX12_part_0 adX12_part_0.2.2.2.2.2.1 rfl
theorem dX12_part_10 : decode cX12_part 10 = .ok (.goto 18, 3) := dAt wdX12_part_0 adX12_part_0.2.2.2.2.2.2.1 rfl
theorem dX12_part_13 : decode cX12_part 13 = .ok (.iload_n 2, 1) := dAt wdX12_part_0 adX12_part_0.2.2.2.2.2.2.2.1 rfl
theorem dX12_part_14 : decode cX12_part 14 = .ok (.iconst 0, 1) := dAt wdX12_part_0 adX12_part_0.2.2.2.2.2.2.2.2.1 rfl
theorem dX12_part_15 : decode cX12_part 15 = .ok (.bipush 7, 2) := dAt wdX12_part_0 adX12_part_0.2.2.2.2.2.2.2.2.2.1 rfl
theorem dX12_part_17 : decode cX12_part 17 = .ok (.invokestatic 157, 3) := dAt wdX12_part_0 adX12_part_0.2.2.2.2.2.2.2.2.2.2.1 rfl
theorem dX12_part_20 : decode cX12_part 20 = .ok (.ifCond .ne 7, 3) := dAt wdX12_part_0 adX12_part_0.2.2.2.2.2.2.2.2.2.2.2.1 rfl
theorem dX12_part_23 : decode cX12_part 23 = .ok (.iconst 2, 1) := dAt wdX12_part_0 adX12_part_0.2.2.2.2.2.2.2.2.2.2.2.2.1 rfl
theorem dX12_part_24 : decode cX12_part 24 = .ok (.goto 4, 3) := dAt wdX12_part_0 adX12_part_0.2.2.2.2.2.2.2.2.2.2.2.2.2.1 rfl
theorem dX12_part_27 : decode cX12_part 27 = .ok (.iconst 0, 1) := dAt wdX12_part_0 adX12_part_0.2.2.2.2.2.2.2.2.2.2.2.2.2.2.1 rfl
theorem dX12_part_28 : decode cX12_part 28 = .ok (.putfield 122, 3) := dAt wdX12_part_0 adX12_part_0.2.2.2.2.2.2.2.2.2.2.2.2.2.2.2 rfl
def bdX12_part_31 : ByteArray := .mk #[42, 180, 0, 122, 158, 0, 5, 3, 172, 27, 184, 0, 164, 62, 28, 154, 0, 12, 42, 180, 0, 8, 29, 3, 96, 46]
theorem wdX12_part_31 : LocW cX12_part 31 bdX12_part_31 := loc_of (by decide +kernel)
theorem adX12_part_31 : De bdX12_part_31 0 (.aload_n 0) 1 ∧ De bdX12_part_31 1 (.getfield 122) 3 ∧ De bdX12_part_31 4 (.ifCond .le 5) 3 ∧ De bdX12_part_31 7 (.iconst 0) 1 ∧ De bdX12_part_31 8 (.ireturn) 1 ∧ De bdX12_part_31 9 (.iload_n 1) 1 ∧ De bdX12_part_31 10 (.invokestatic 164) 3 ∧ De bdX12_part_31 13 (.istore_n 3) 1 ∧ De bdX12_part_31 14 (.iload_n 2) 1 ∧ De bdX12_part_31 15 (.ifCond .ne 12) 3 ∧ De bdX12_part_31 18 (.aload_n 0) 1 ∧ De bdX12_part_31 19 (.getfield 8) 3 ∧ De bdX12_part_31 22 (.iload_n 3) 1 ∧ De bdX12_part_31 23 (.iconst 0) 1 ∧ De bdX12_part_31 24 (.iadd) 1 ∧ De bdX12_part_31 25 (.iaload) 1 := by decide +kernel
theorem dX12_part_31 : decode cX12_part 31 = .ok (.aload_n 0, 1) := dAt wdX12_part_31 adX12_part_31.1 rfl
theorem dX12_part_32 : decode cX12_part 32 = .ok (.getfield 122, 3) := dAt wdX12_part_31 adX12_part_31.2.1 rfl
theorem dX12_part_35 : decode cX12_part 35 = .ok (.ifCond .le 5, 3) := dAt wdX12_part_31 adX12_part_31.2.2.1 rfl
theorem dX12_part_38 : decode cX12_part 38 = .ok (.iconst 0, 1) := dAt wdX12_part_31 adX12_part_31.2.2.2.1 rfl
theorem dX12_part_39 : decode cX12_part 39 = .ok (.ireturn, 1) := dAt wdX12_part_31 adX12_part_31.2.2.2.2.1 rfl
theorem dX12_part_40 : decode cX12_part 40 = .ok (.iload_n 1, 1) := dAt wdX12_part_31 adX12_part_31.2.2.2.2.2.1 rfl
theorem dX12_part_41 : decode cX12_part 41 = .ok (.invokestatic 164, 3) := dAt wdX12_part_31 adX12_part_31.2.2.2.2.2.2.1 rfl
theorem dX12_part_44 : decode cX12_part 44 = .ok (.istore_n 3, 1) := dAt wdX12_part_31 adX12_part_31.2.2.2.2.2.2.2.1 rfl
theorem dX12_part_45 : decode cX12_part 45 = .ok (.iload_n 2, 1) := dAt wdX12_part_31 adX12_part_31.2.2.2.2.2.2.2.2.1 rfl
theorem dX12_part_46 : decode cX12_part 46 = .ok (.ifCond .ne 12, 3) := dAt wdX12_part_31 adX12_part_31.2.2.2.2.2.2.2.2.2.1 rfl
theorem dX12_part_49 : decode cX12_part 49 = .ok (.aload_n 0, 1) := dAt wdX12_part_31 adX12_part_31.2.2.2.2.2.2.2.2.2.2.1 rfl
theorem dX12_part_50 : decode cX12_part 50 = .ok (.getfield 8, 3) := dAt wdX12_part_31 adX12_part_31.2.2.2.2.2.2.2.2.2.2.2.1 rfl
theorem dX12_part_53 : decode cX12_part 53 = .ok (.iload_n 3, 1) := dAt wdX12_part_31 adX12_part_31.2.2.2.2.2.2.2.2.2.2.2.2.1 rfl
theorem dX12_part_54 : decode cX12_part 54 = .ok (.iconst 0, 1) := dAt wdX12_part_31 adX12_part_31.2.2.2.2.2.2.2.2.2.2.2.2.2.1 rfl
theorem dX12_part_55 : decode cX12_part 55 = .ok (.iadd, 1) := dAt wdX12_part_31 adX12_part_31.2.2.2.2.2.2.2.2.2.2.2.2.2.2.1 rfl
theorem dX12_part_56 : decode cX12_part 56 = .ok (.iaload, 1) := dAt wdX12_part_31 adX12_part_31.2.2.2.2.2.2.2.2.2.2.2.2.2.2.2 rfl
def bdX12_part_57 : ByteArray := .mk #[172, 28, 4, 160, 0, 12, 42, 180, 0, 8, 29, 4, 96, 46, 172, 28, 5, 160, 0, 15, 42, 180, 0, 8]
theorem wdX12_part_57 : LocW cX12_part 57 bdX12_part_57 := loc_of (by decide +kernel)
theorem adX12_part_57 : De bdX12_part_57 0 (.ireturn) 1 ∧ De bdX12_part_57 1 (.iload_n 2) 1 ∧ De bdX12_part_57 2 (.iconst 1) 1 ∧ De bdX12_part_57 3 (.if_icmp .ne 12) 3 ∧ De bdX12_part_57 6 (.aload_n 0) 1 ∧ De bdX12_part_57 7 (.getfield 8) 3 ∧ De bdX12_part_57 10 (.iload_n 3) 1 ∧ De bdX12_part_57 11 (.iconst 1) 1 ∧ De bdX12_part_57 12 (.iadd) 1 ∧ De bdX12_part_57 13 (.iaload) 1 ∧ De bdX12_part_57 14 (.ireturn) 1 ∧ De bdX12_part_57 15 (.iload_n 2) 1 ∧ De bdX12_part_57 16 (.iconst 2) 1 ∧ De bdX12_part_57 17 (.if_icmp .ne 15) 3 ∧ De bdX12_part_57 20 (.aload_n 0) 1 ∧ De bdX12_part_57 21 (.getfield 8) 3 := by decide +kernel
theorem dX12_part_57 : decode cX12_part 57 = .ok (.ireturn, 1) := dAt wdX12_part_57 adX12_part_57.1 rfl
theorem dX12_part_58 : decode cX12_part 58 = .ok (.iload_n 2, 1) := dAt wdX12_part_57 adX12_part_57.2.1 rfl
theorem dX12_part_59 : decode cX12_part 59 = .ok (.iconst 1, 1) := dAt wdX12_part_57 adX12_part_57.2.2.1 rfl
theorem dX12_part_60 : decode cX12_part 60 = .ok (.if_icmp .ne 12, 3) := dAt wdX12_part_57 adX12_part_57.2.2.2.1 rfl
theorem dX12_part_63 : decode cX12_part 63 = .ok (.aload_n 0, 1) := dAt wdX12_part_57 adX12_part_57.2.2.2.2.1 rfl
theorem dX12_part_64 : decode cX12_part 64 = .ok (.getfield 8, 3) := dAt wdX12_part_57 adX12_part_57.2.2.2.2.2.1 rfl
theorem dX12_part_67 : decode cX12_part 67 = .ok (.iload_n 3, 1) := dAt wdX12_part_57 adX12_part_57.2.2.2.2.2.2.1 rfl
theorem dX12_part_68 : decode cX12_part 68 = .ok (.iconst 1, 1) := dAt wdX12_part_57 adX12_part_57.2.2.2.2.2.2.2.1 rfl
theorem dX12_part_69 : decode cX12_part 69 = .ok (.iadd, 1) := dAt wdX12_part_57 adX12_part_57.2.2.2.2.2.2.2.2.1 rfl
theorem dX12_part_70 : decode cX12_part 70 = .ok (.iaload, 1) := dAt wdX12_part_57 adX12_part_57.2.2.2.2.2.2.2.2.2.1 rfl
theorem dX12_part_71 : decode cX12_part 71 = .ok (.ireturn, 1) := dAt wdX12_part_57 adX12_part_57.2.2.2.2.2.2.2.2.2.2.1 rfl
theorem dX12_part_72 : decode cX12_part 72 = .ok (.iload_n 2, 1) := dAt wdX12_part_57 adX12_part_57.2.2.2.2.2.2.2.2.2.2.2.1 rfl
theorem dX12_part_73 : decode cX12_part 73 = .ok (.iconst 2, 1) := dAt wdX12_part_57 adX12_part_57.2.2.2.2.2.2.2.2.2.2.2.2.1 rfl
theorem dX12_part_74 : decode cX12_part 74 = .ok (.if_icmp .ne 15, 3) := dAt wdX12_part_57 adX12_part_57.2.2.2.2.2.2.2.2.2.2.2.2.2.1 rfl
theorem dX12_part_77 : decode cX12_part 77 = .ok (.aload_n 0, 1) := dAt wdX12_part_57 adX12_part_57.2.2.2.2.2.2.2.2.2.2.2.2.2.2.1 rfl
theorem dX12_part_78 : decode cX12_part 78 = .ok (.getfield 8, 3) := dAt wdX12_part_57 adX12_part_57.2.2.2.2.2.2.2.2.2.2.2.2.2.2.2 rfl
def bdX12_part_81 : ByteArray := .mk #[16, 70, 27, 8, 108, 96, 46, 172, 28, 6, 160, 0, 15, 42, 180, 0, 8, 16, 90, 27, 8, 108]
theorem wdX12_part_81 : LocW cX12_part 81 bdX12_part_81 := loc_of (by decide +kernel)
theorem adX12_part_81 : De bdX12_part_81 0 (.bipush 70) 2 ∧ De bdX12_part_81 2 (.iload_n 1) 1 ∧ De bdX12_part_81 3 (.iconst 5) 1 ∧ De bdX12_part_81 4 (.idiv) 1 ∧ De bdX12_part_81 5 (.iadd) 1 ∧ De bdX12_part_81 6 (.iaload) 1 ∧ De bdX12_part_81 7 (.ireturn) 1 ∧ De bdX12_part_81 8 (.iload_n 2) 1 ∧ De bdX12_part_81 9 (.iconst 3) 1 ∧ De bdX12_part_81 10 (.if_icmp .ne 15) 3 ∧ De bdX12_part_81 13 (.aload_n 0) 1 ∧ De bdX12_part_81 14 (.getfield 8) 3 ∧ De bdX12_part_81 17 (.bipush 90) 2 ∧ De bdX12_part_81 19 (.iload_n 1) 1 ∧ De bdX12_part_81 20 (.iconst 5) 1 ∧ De bdX12_part_81 21 (.idiv) 1 := by decide +kernel
theorem dX12_part_81 : decode cX12_part 81 = .ok (.bipush 70, 2) := dAt wdX12_part_81 adX12_part_81.1 rfl
theorem dX12_part_83 : decode cX12_part 83 = .ok (.iload_n 1, 1) := dAt wdX12_part_81 adX12_part_81.2.1 rfl
theorem dX12_part_84 : decode cX12_part 84 = .ok (.iconst 5, 1) := dAt wdX12_part_81 adX12_part_81.2.2.1 rfl
theorem dX12_part_85 : decode cX12_part 85 = .ok (.idiv, 1) := dAt wdX12_part_81 adX12_part_81.2.2.2.1 rfl
theorem dX12_part_86 : decode cX12_part 86 = .ok (.iadd, 1) := dAt wdX12_part_81 adX12_part_81.2.2.2.2.1 rfl
theorem dX12_part_87 : decode cX12_part 87 = .ok (.iaload, 1) := dAt wdX12_part_81 adX12_part_81.2.2.2.2.2.1 rfl
theorem dX12_part_88 : decode cX12_part 88 = .ok (.ireturn, 1) := dAt wdX12_part_81 adX12_part_81.2.2.2.2.2.2.1 rfl
theorem dX12_part_89 : decode cX12_part 89 = .ok (.iload_n 2, 1) := dAt wdX12_part_81 adX12_part_81.2.2.2.2.2.2.2.1 rfl
theorem dX12_part_90 : decode cX12_part 90 = .ok (.iconst 3, 1) := dAt wdX12_part_81 adX12_part_81.2.2.2.2.2.2.2.2.1 rfl
theorem dX12_part_91 : decode cX12_part 91 = .ok (.if_icmp .ne 15, 3) := dAt wdX12_part_81 adX12_part_81.2.2.2.2.2.2.2.2.2.1 rfl
theorem dX12_part_94 : decode cX12_part 94 = .ok (.aload_n 0, 1) := dAt wdX12_part_81 adX12_part_81.2.2.2.2.2.2.2.2.2.2.1 rfl
theorem dX12_part_95 : decode cX12_part 95 = .ok (.getfield 8, 3) := dAt wdX12_part_81 adX12_part_81.2.2.2.2.2.2.2.2.2.2.2.1 rfl
theorem dX12_part_98 : decode cX12_part 98 = .ok (.bipush 90, 2) := dAt wdX12_part_81 adX12_part_81.2.2.2.2.2.2.2.2.2.2.2.2.1 rfl
theorem dX12_part_100 : decode cX12_part 100 = .ok (.iload_n 1, 1) := dAt wdX12_part_81 adX12_part_81.2.2.2.2.2.2.2.2.2.2.2.2.2.1 rfl
theorem dX12_part_101 : decode cX12_part 101 = .ok (.iconst 5, 1) := dAt wdX12_part_81 adX12_part_81.2.2.2.2.2.2.2.2.2.2.2.2.2.2.1 rfl
theorem dX12_part_102 : decode cX12_part 102 = .ok (.idiv, 1) := dAt wdX12_part_81 adX12_part_81.2.2.2.2.2.2.2.2.2.2.2.2.2.2.2 rfl
def bdX12_part_103 : ByteArray := .mk #[96, 46, 172, 28, 7, 160, 0, 12, 42, 180, 0, 8, 29, 5, 96, 46, 172, 28, 8, 160, 0, 28]
theorem wdX12_part_103 : LocW cX12_part 103 bdX12_part_103 := loc_of (by decide +kernel)
theorem adX12_part_103 : De bdX12_part_103 0 (.iadd) 1 ∧ De bdX12_part_103 1 (.iaload) 1 ∧ De bdX12_part_103 2 (.ireturn) 1 ∧ De bdX12_part_103 3 (.iload_n 2) 1 ∧ De bdX12_part_103 4 (.iconst 4) 1 ∧ De bdX12_part_103 5 (.if_icmp .ne 12) 3 ∧ De bdX12_part_103 8 (.aload_n 0) 1 ∧ De bdX12_part_103 9 (.getfield 8) 3 ∧ De bdX12_part_103 12 (.iload_n 3) 1 ∧ De bdX12_part_103 13 (.iconst 2) 1 ∧ De bdX12_part_103 14 (.iadd) 1 ∧ De bdX12_part_103 15 (.iaload) 1 ∧ De bdX12_part_103 16 (.ireturn) 1 ∧ De bdX12_part_103 17 (.iload_n 2) 1 ∧ De bdX12_part_103 18 (.iconst 5) 1 ∧ De bdX12_part_103 19 (.if_icmp .ne 28) 3 := by decide +kernel
theorem dX12_part_103 : decode cX12_part 103 = .ok (.iadd, 1) := dAt wdX12_part_103 adX12_part_103.1 rfl
theorem dX12_part_104 : decode cX12_part 104 = .ok (.iaload, 1) := dAt wdX12_part_103 adX12_part_103.2.1 rfl
theorem dX12_part_105 : decode cX12_part 105 = .ok (.ireturn, 1) := dAt wdX12_part_103 adX12_part_103.2.2.1 rfl
theorem dX12_part_106 : decode cX12_part 106 = .ok (.iload_n 2, 1) := dAt wdX12_part_103 adX12_part_103.2.2.2.1 rfl
theorem dX12_part_107 : decode cX12_part 107 = .ok (.iconst 4, 1) := dAt wdX12_part_103 adX12_part_103.2.2.2.2.1 rfl
theorem dX12_part_108 : decode cX12_part 108 = .ok (.if_icmp .ne 12, 3) := dAt wdX12_part_103 adX12_part_103.2.2.2.2.2.1 rfl
theorem dX12_part_111 : decode cX12_part 111 = .ok (.aload_n 0, 1) := dAt wdX12_part_103 adX12_part_103.2.2.2.2.2.2.1 rfl
theorem dX12_part_112 : decode cX12_part 112 = .ok (.getfield 8, 3) := dAt wdX12_part_103 adX12_part_103.2.2.2.2.2.2.2.1 rfl
theorem dX12_part_115 : decode cX12_part 115 = .ok (.iload_n 3, 1) := dAt wdX12_part_103 adX12_part_103.2.2.2.2.2.2.2.2.1 rfl
theorem dX12_part_116 : decode cX12_part 116 = .ok (.iconst 2, 1) := dAt wdX12_part_103 adX12_part_103.2.2.2.2.2.2.2.2.2.1 rfl
theorem dX12_part_117 : decode cX12_part 117 = .ok (.iadd, 1) := dAt wdX12_part_103 adX12_part_103.2.2.2.2.2.2.2.2.2.2.1 rfl
theorem dX12_part_118 : decode cX12_part 118 = .ok (.iaload, 1) := dAt wdX12_part_103 adX12_part_103.2.2.2.2.2.2.2.2.2.2.2.1 rfl
theorem dX12_part_119 : decode cX12_part 119 = .ok (.ireturn, 1) := dAt wdX12_part_103 adX12_part_103.2.2.2.2.2.2.2.2.2.2.2.2.1 rfl
theorem dX12_part_120 : decode cX12_part 120 = .ok (.iload_n 2, 1) := dAt wdX12_part_103 adX12_part_103.2.2.2.2.2.2.2.2.2.2.2.2.2.1 rfl
theorem dX12_part_121 : decode cX12_part 121 = .ok (.iconst 5, 1) := dAt wdX12_part_103 adX12_part_103.2.2.2.2.2.2.2.2.2.2.2.2.2.2.1 rfl
theorem dX12_part_122 : decode cX12_part 122 = .ok (.if_icmp .ne 28, 3) := dAt wdX12_part_103 adX12_part_103.2.2.2.2.2.2.2.2.2.2.2.2.2.2.2 rfl
def bdX12_part_125 : ByteArray := .mk #[42, 180, 0, 8, 29, 6, 96, 46, 4, 160, 0, 14, 42, 180, 0, 8, 29, 7, 96, 46, 167, 0, 4, 2]
theorem wdX12_part_125 : LocW cX12_part 125 bdX12_part_125 := loc_of (by decide +kernel)
theorem adX12_part_125 : De bdX12_part_125 0 (.aload_n 0) 1 ∧ De bdX12_part_125 1 (.getfield 8) 3 ∧ De bdX12_part_125 4 (.iload_n 3) 1 ∧ De bdX12_part_125 5 (.iconst 3) 1 ∧ De bdX12_part_125 6 (.iadd) 1 ∧ De bdX12_part_125 7 (.iaload) 1 ∧ De bdX12_part_125 8 (.iconst 1) 1 ∧ De bdX12_part_125 9 (.if_icmp .ne 14) 3 ∧ De bdX12_part_125 12 (.aload_n 0) 1 ∧ De bdX12_part_125 13 (.getfield 8) 3 ∧ De bdX12_part_125 16 (.iload_n 3) 1 ∧ De bdX12_part_125 17 (.iconst 4) 1 ∧ De bdX12_part_125 18 (.iadd) 1 ∧ De bdX12_part_125 19 (.iaload) 1 ∧ De bdX12_part_125 20 (.goto 4) 3 ∧ De bdX12_part_125 23 (.iconst (-1)) 1 := by decide +kernel
theorem dX12_part_125 : decode cX12_part 125 = .ok (.aload_n 0, 1) := dAt wdX12_part_125 adX12_part_125.1 rfl
theorem dX12_part_126 : decode cX12_part 126 = .ok (.getfield 8, 3) := dAt wdX12_part_125 adX12_part_125.2.1 rfl
theorem dX12_part_129 : decode cX12_part 129 = .ok (.iload_n 3, 1) := dAt wdX12_part_125 adX12_part_125.2.2.1 rfl
theorem dX12_part_130 : decode cX12_part 130 = .ok (.iconst 3, 1) := dAt wdX12_part_125 adX12_part_125.2.2.2.1 rfl
theorem dX12_part_131 : decode cX12_part 131 = .ok (.iadd, 1) := dAt wdX12_part_125 adX12_part_125.2.2.2.2.1 rfl
theorem dX12_part_132 : decode cX12_part 132 = .ok (.iaload, 1) := dAt wdX12_part_125 adX12_part_125.2.2.2.2.2.1 rfl
theorem dX12_part_133 : decode cX12_part 133 = .ok (.iconst 1, 1) := dAt wdX12_part_125 adX12_part_125.2.2.2.2.2.2.1 rfl
theorem dX12_part_134 : decode cX12_part 134 = .ok (.if_icmp .ne 14, 3) := dAt wdX12_part_125 adX12_part_125.2.2.2.2.2.2.2.1 rfl
theorem dX12_part_137 : decode cX12_part 137 = .ok (.aload_n 0, 1) := dAt wdX12_part_125 adX12_part_125.2.2.2.2.2.2.2.2.1 rfl
theorem dX12_part_138 : decode cX12_part 138 = .ok (.getfield 8, 3) := dAt wdX12_part_125 adX12_part_125.2.2.2.2.2.2.2.2.2.1 rfl
theorem dX12_part_141 : decode cX12_part 141 = .ok (.iload_n 3, 1) := dAt wdX12_part_125 adX12_part_125.2.2.2.2.2.2.2.2.2.2.1 rfl
theorem dX12_part_142 : decode cX12_part 142 = .ok (.iconst 4, 1) := dAt wdX12_part_125 adX12_part_125.2.2.2.2.2.2.2.2.2.2.2.1 rfl
theorem dX12_part_143 : decode cX12_part 143 = .ok (.iadd, 1) := dAt wdX12_part_125 adX12_part_125.2.2.2.2.2.2.2.2.2.2.2.2.1 rfl
theorem dX12_part_144 : decode cX12_part 144 = .ok (.iaload, 1) := dAt wdX12_part_125 adX12_part_125.2.2.2.2.2.2.2.2.2.2.2.2.2.1 rfl
theorem dX12_part_145 : decode cX12_part 145 = .ok (.goto 4, 3) := dAt wdX12_part_125 adX12_part_125.2.2.2.2.2.2.2.2.2.2.2.2.2.2.1 rfl
theorem dX12_part_148 : decode cX12_part 148 = .ok (.iconst (-1), 1) := dAt wdX12_part_125 adX12_part_125.2.2.2.2.2.2.2.2.2.2.2.2.2.2.2 rfl
def bdX12_part_149 : ByteArray := .mk #[172, 3, 54, 4, 28, 16, 6, 160, 0, 60, 3, 54, 5, 42, 180, 0, 8, 29, 6, 96, 46, 4, 160, 0, 42]
theorem wdX12_part_149 : LocW cX12_part 149 bdX12_part_149 := loc_of (by decide +kernel)
theorem adX12_part_149 : De bdX12_part_149 0 (.ireturn) 1 ∧ De bdX12_part_149 1 (.iconst 0) 1 ∧ De bdX12_part_149 2 (.istore 4) 2 ∧ De bdX12_part_149 4 (.iload_n 2) 1 ∧ De bdX12_part_149 5 (.bipush 6) 2 ∧ De bdX12_part_149 7 (.if_icmp .ne 60) 3 ∧ De bdX12_part_149 10 (.iconst 0) 1 ∧ De bdX12_part_149 11 (.istore 5) 2 ∧ De bdX12_part_149 13 (.aload_n 0) 1 ∧ De bdX12_part_149 14 (.getfield 8) 3 ∧ De bdX12_part_149 17 (.iload_n 3) 1 ∧ De bdX12_part_149 18 (.iconst 3) 1 ∧ De bdX12_part_149 19 (.iadd) 1 ∧ De bdX12_part_149 20 (.iaload) 1 ∧ De bdX12_part_149 21 (.iconst 1) 1 ∧ De bdX12_part_149 22 (.if_icmp .ne 42) 3 := by decide +kernel
theorem dX12_part_149 : decode cX12_part 149 = .ok (.ireturn, 1) := dAt wdX12_part_149 adX12_part_149.1 rfl
theorem dX12_part_150 : decode cX12_part 150 = .ok (.iconst 0, 1) := dAt wdX12_part_149 adX12_part_149.2.1 rfl
theorem dX12_part_151 : decode cX12_part 151 = .ok (.istore 4, 2) := dAt wdX12_part_149 adX12_part_149.2.2.1 rfl
theorem dX12_part_153 : decode cX12_part 153 = .ok (.iload_n 2, 1) := dAt wdX12_part_149 adX12_part_149.2.2.2.1 rfl
theorem dX12_part_154 : decode cX12_part 154 = .ok (.bipush 6, 2) := dAt wdX12_part_149 adX12_part_149.2.2.2.2.1 rfl
theorem dX12_part_156 : decode cX12_part 156 = .ok (.if_icmp .ne 60, 3) := dAt wdX12_part_149 adX12_part_149.2.2.2.2.2.1 rfl
theorem dX12_part_159 : decode cX12_part 159 = .ok (.iconst 0, 1) := dAt wdX12_part_149 adX12_part_149.2.2.2.2.2.2.1 rfl
theorem dX12_part_160 : decode cX12_part 160 = .ok (.istore 5, 2) := dAt wdX12_part_149 adX12_part_149.2.2.2.2.2.2.2.1 rfl
theorem dX12_part_162 : decode cX12_part 162 = .ok (.aload_n 0, 1) := dAt wdX12_part_149 adX12_part_149.2.2.2.2.2.2.2.2.1 rfl
theorem dX12_part_163 : decode cX12_part 163 = .ok (.getfield 8, 3) := dAt wdX12_part_149 adX12_part_149.2.2.2.2.2.2.2.2.2.1 rfl
theorem dX12_part_166 : decode cX12_part 166 = .ok (.iload_n 3, 1) := dAt wdX12_part_149 adX12_part_149.2.2.2.2.2.2.2.2.2.2.1 rfl
theorem dX12_part_167 : decode cX12_part 167 = .ok (.iconst 3, 1) := dAt wdX12_part_149 adX12_part_149.2.2.2.2.2.2.2.2.2.2.2.1 rfl
theorem dX12_part_168 : decode cX12_part 168 = .ok (.iadd, 1) := dAt wdX12_part_149 adX12_part_149.2.2.2.2.2.2.2.2.2.2.2.2.1 rfl
theorem dX12_part_169 : decode cX12_part 169 = .ok (.iaload, 1) := dAt wdX12_part_149 adX12_part_149.2.2.2.2.2.2.2.2.2.2.2.2.2.1 rfl
theorem dX12_part_170 : decode cX12_part 170 = .ok (.iconst 1, 1) := dAt wdX12_part_149 adX12_part_149.2.2.2.2.2.2.2.2.2.2.2.2.2.2.1 rfl
theorem dX12_part_171 : decode cX12_part 171 = .ok (.if_icmp .ne 42, 3) := dAt wdX12_part_149 adX12_part_149.2.2.2.2.2.2.2.2.2.2.2.2.2.2.2 rfl
def bdX12_part_174 : ByteArray := .mk #[21, 5, 42, 180, 0, 8, 29, 7, 96, 46, 162, 0, 29, 21, 4, 42, 27, 21, 5, 182, 1, 83, 153, 0, 7, 4, 167, 0, 4]
theorem wdX12_part_174 : LocW cX12_part 174 bdX12_part_174 := loc_of (by decide +kernel)
theorem adX12_part_174 : De bdX12_part_174 0 (.iload 5) 2 ∧ De bdX12_part_174 2 (.aload_n 0) 1 ∧ De bdX12_part_174 3 (.getfield 8) 3 ∧ De bdX12_part_174 6 (.iload_n 3) 1 ∧ De bdX12_part_174 7 (.iconst 4) 1 ∧ De bdX12_part_174 8 (.iadd) 1 ∧ De bdX12_part_174 9 (.iaload) 1 ∧ De bdX12_part_174 10 (.if_icmp .ge 29) 3 ∧ De bdX12_part_174 13 (.iload 4) 2 ∧ De bdX12_part_174 15 (.aload_n 0) 1 ∧ De bdX12_part_174 16 (.iload_n 1) 1 ∧ De bdX12_part_174 17 (.iload 5) 2 ∧ De bdX12_part_174 19 (.invokevirtual 339) 3 ∧ De bdX12_part_174 22 (.ifCond .eq 7) 3 ∧ De bdX12_part_174 25 (.iconst 1) 1 ∧ De bdX12_part_174 26 (.goto 4) 3 := by decide +kernel
theorem dX12_part_174 : decode cX12_part 174 = .ok (.iload 5, 2) := dAt wdX12_part_174 adX12_part_174.1 rfl
theorem dX12_part_176 : decode cX12_part 176 = .ok (.aload_n 0, 1) := dAt wdX12_part_174 adX12_part_174.2.1 rfl
theorem dX12_part_177 : decode cX12_part 177 = .ok (.getfield 8, 3) := dAt wdX12_part_174 adX12_part_174.2.2.1 rfl
theorem dX12_part_180 : decode cX12_part 180 = .ok (.iload_n 3, 1) := dAt wdX12_part_174 adX12_part_174.2.2.2.1 rfl
theorem dX12_part_181 : decode cX12_part 181 = .ok (.iconst 4, 1) := dAt wdX12_part_174 adX12_part_174.2.2.2.2.1 rfl
theorem dX12_part_182 : decode cX12_part 182 = .ok (.iadd, 1) := dAt wdX12_part_174 adX12_part_174.2.2.2.2.2.1 rfl
theorem dX12_part_183 : decode cX12_part 183 = .ok (.iaload, 1) := dAt wdX12_part_174 adX12_part_174.2.2.2.2.2.2.1 rfl
theorem dX12_part_184 : decode cX12_part 184 = .ok (.if_icmp .ge 29, 3) := dAt wdX12_part_174 adX12_part_174.2.2.2.2.2.2.2.1 rfl
theorem dX12_part_187 : decode cX12_part 187 = .ok (.iload 4, 2) := dAt wdX12_part_174 adX12_part_174.2.2.2.2.2.2.2.2.1 rfl
theorem dX12_part_189 : decode cX12_part 189 = .ok (.aload_n 0, 1) := dAt wdX12_part_174 adX12_part_174.2.2.2.2.2.2.2.2.2.1 rfl
theorem dX12_part_190 : decode cX12_part 190 = .ok (.iload_n 1, 1) := dAt wdX12_part_174 adX12_part_174.2.2.2.2.2.2.2.2.2.2.1 rfl
theorem dX12_part_191 : decode cX12_part 191 = .ok (.iload 5, 2) := dAt wdX12_part_174 adX12_part_174.2.2.2.2.2.2.2.2.2.2.2.1 rfl
theorem dX12_part_193 : decode cX12_part 193 = .ok (.invokevirtual 339, 3) := dAt wdX12_part_174 adX12_part_174.2.2.2.2.2.2.2.2.2.2.2.2.1 rfl
theorem dX12_part_196 : decode cX12_part 196 = .ok (.ifCond .eq 7, 3) := dAt wdX12_part_174 adX12_part_174.2.2.2.2.2.2.2.2.2.2.2.2.2.1 rfl
theorem dX12_part_199 : decode cX12_part 199 = .ok (.iconst 1, 1) := dAt wdX12_part_174 adX12_part_174.2.2.2.2.2.2.2.2.2.2.2.2.2.2.1 rfl
theorem dX12_part_200 : decode cX12_part 200 = .ok (.goto 4, 3) := dAt wdX12_part_174 adX12_part_174.2.2.2.2.2.2.2.2.2.2.2.2.2.2.2 rfl
def bdX12_part_203 : ByteArray := .mk #[3, 96, 54, 4, 132, 5, 1, 167, 255, 208, 21, 4, 172, 3, 54, 5, 21, 5, 42, 180, 0, 8, 7, 46, 162, 0, 50, 21, 4]
theorem wdX12_part_203 : LocW cX12_part 203 bdX12_part_203 := loc_of (by decide +kernel)
theorem adX12_part_203 : De bdX12_part_203 0 (.iconst 0) 1 ∧ De bdX12_part_203 1 (.iadd) 1 ∧ De bdX12_part_203 2 (.istore 4) 2 ∧ De bdX12_part_203 4 (.iinc 5 1) 3 ∧ De bdX12_part_203 7 (.goto (-48)) 3 ∧ De bdX12_part_203 10 (.iload 4) 2 ∧ De bdX12_part_203 12 (.ireturn) 1 ∧ De bdX12_part_203 13 (.iconst 0) 1 ∧ De bdX12_part_203 14 (.istore 5) 2 ∧ De bdX12_part_203 16 (.iload 5) 2 ∧ De bdX12_part_203 18 (.aload_n 0) 1 ∧ De bdX12_part_203 19 (.getfield 8) 3 ∧ De bdX12_part_203 22 (.iconst 4) 1 ∧ De bdX12_part_203 23 (.iaload) 1 ∧ De bdX12_part_203 24 (.if_icmp .ge 50) 3 ∧ De bdX12_part_203 27 (.iload 4) 2 := by decide +kernel
theorem dX12_part_203 : decode cX12_part 203 = .ok (.iconst 0, 1) := dAt wdX12_part_203 adX12_part_203.1 rfl
theorem dX12_part_204 : decode cX12_part 204 = .ok (.iadd, 1) := dAt wdX12_part_203 adX12_part_203.2.1 rfl
theorem dX12_part_205 : decode cX12_part 205 = .ok (.istore 4, 2) := dAt wdX12_part_203 adX12_part_203.2.2.1 rfl
theorem dX12_part_207 : decode cX12_part 207 = .ok (.iinc 5 1, 3) := dAt wdX12_part_203 adX12_part_203.2.2.2.1 rfl
theorem dX12_part_210 : decode cX12_part 210 = .ok (.goto (-48), 3) := dAt wdX12_part_203 adX12_part_203.2.2.2.2.1 rfl
theorem dX12_part_213 : decode cX12_part 213 = .ok (.iload 4, 2) := dAt wdX12_part_203 adX12_part_203.2.2.2.2.2.1 rfl
theorem dX12_part_215 : decode cX12_part 215 = .ok (.ireturn, 1) := dAt wdX12_part_203 adX12_part_203.2.2.2.2.2.2.1 rfl
theorem dX12_part_216 : decode cX12_part 216 = .ok (.iconst 0, 1) := dAt wdX12_part_203 adX12_part_203.2.2.2.2.2.2.2.1 rfl
theorem dX12_part_217 : decode cX12_part 217 = .ok (.istore 5, 2) := dAt wdX12_part_203 adX12_part_203.2.2.2.2.2.2.2.2.1 rfl
theorem dX12_part_219 : decode cX12_part 219 = .ok (.iload 5, 2) := dAt wdX12_part_203 adX12_part_203.2.2.2.2.2.2.2.2.2.1 rfl
theorem dX12_part_221 : decode cX12_part 221 = .ok (.aload_n 0, 1) := dAt wdX12_part_203 adX12_part_203.2.2.2.2.2.2.2.2.2.2.1 rfl
theorem dX12_part_222 : decode cX12_part 222 = .ok (.getfield 8, 3) := dAt wdX12_part_203 adX12_part_203.2.2.2.2.2.2.2.2.2.2.2.1 rfl
theorem dX12_part_225 : decode cX12_part 225 = .ok (.iconst 4, 1) := dAt wdX12_part_203 adX12_part_203.2.2.2.2.2.2.2.2.2.2.2.2.1 rfl
theorem dX12_part_226 : decode cX12_part 226 = .ok (.iaload, 1) := dAt wdX12_part_203 adX12_part_203.2.2.2.2.2.2.2.2.2.2.2.2.2.1 rfl
theorem dX12_part_227 : decode cX12_part 227 = .ok (.if_icmp .ge 50, 3) := dAt wdX12_part_203 adX12_part_203.2.2.2.2.2.2.2.2.2.2.2.2.2.2.1 rfl
theorem dX12_part_230 : decode cX12_part 230 = .ok (.iload 4, 2) := dAt wdX12_part_203 adX12_part_203.2.2.2.2.2.2.2.2.2.2.2.2.2.2.2 rfl
def bdX12_part_232 : ByteArray := .mk #[42, 180, 0, 8, 21, 5, 184, 1, 86, 3, 96, 46, 27, 160, 0, 22, 42, 180, 0, 8, 21, 5, 184, 1, 86, 7, 96, 46]
theorem wdX12_part_232 : LocW cX12_part 232 bdX12_part_232 := loc_of (by decide +kernel)
theorem adX12_part_232 : De bdX12_part_232 0 (.aload_n 0) 1 ∧ De bdX12_part_232 1 (.getfield 8) 3 ∧ De bdX12_part_232 4 (.iload 5) 2 ∧ De bdX12_part_232 6 (.invokestatic 342) 3 ∧ De bdX12_part_232 9 (.iconst 0) 1 ∧ De bdX12_part_232 10 (.iadd) 1 ∧ De bdX12_part_232 11 (.iaload) 1 ∧ De bdX12_part_232 12 (.iload_n 1) 1 ∧ De bdX12_part_232 13 (.if_icmp .ne 22) 3 ∧ De bdX12_part_232 16 (.aload_n 0) 1 ∧ De bdX12_part_232 17 (.getfield 8) 3 ∧ De bdX12_part_232 20 (.iload 5) 2 ∧ De bdX12_part_232 22 (.invokestatic 342) 3 ∧ De bdX12_part_232 25 (.iconst 4) 1 ∧ De bdX12_part_232 26 (.iadd) 1 ∧ De bdX12_part_232 27 (.iaload) 1 := by decide +kernel
theorem dX12_part_232 : decode cX12_part 232 = .ok (.aload_n 0, 1) := dAt wdX12_part_232 adX12_part_232.1 rfl
theorem dX12_part_233 : decode cX12_part 233 = .ok (.getfield 8, 3) := dAt wdX12_part_232 adX12_part_232.2.1 rfl
theorem dX12_part_236 : decode cX12_part 236 = .ok (.iload 5, 2) := dAt wdX12_part_232 adX12_part_232.2.2.1 rfl
theorem dX12_part_238 : decode cX12_part 238 = .ok (.invokestatic 342, 3) := dAt wdX12_part_232 adX12_part_232.2.2.2.1 rfl
theorem dX12_part_241 : decode cX12_part 241 = .ok (.iconst 0, 1) := dAt wdX12_part_232 adX12_part_232.2.2.2.2.1 rfl
theorem dX12_part_242 : decode cX12_part 242 = .ok (.iadd, 1) := dAt wdX12_part_232 adX12_part_232.2.2.2.2.2.1 rfl
theorem dX12_part_243 : decode cX12_part 243 = .ok (.iaload, 1) := dAt wdX12_part_232 adX12_part_232.2.2.2.2.2.2.1 rfl
theorem dX12_part_244 : decode cX12_part 244 = .ok (.iload_n 1, 1) := dAt wdX12_part_232 adX12_part_232.2.2.2.2.2.2.2.1 rfl
theorem dX12_part_245 : decode cX12_part 245 = .ok (.if_icmp .ne 22, 3) := dAt wdX12_part_232 adX12_part_232.2.2.2.2.2.2.2.2.1 rfl
theorem dX12_part_248 : decode cX12_part 248 = .ok (.aload_n 0, 1) := dAt wdX12_part_232 adX12_part_232.2.2.2.2.2.2.2.2.2.1 rfl
theorem dX12_part_249 : decode cX12_part 249 = .ok (.getfield 8, 3) := dAt wdX12_part_232 adX12_part_232.2.2.2.2.2.2.2.2.2.2.1 rfl
theorem dX12_part_252 : decode cX12_part 252 = .ok (.iload 5, 2) := dAt wdX12_part_232 adX12_part_232.2.2.2.2.2.2.2.2.2.2.2.1 rfl
theorem dX12_part_254 : decode cX12_part 254 = .ok (.invokestatic 342, 3) := dAt wdX12_part_232 adX12_part_232.2.2.2.2.2.2.2.2.2.2.2.2.1 rfl
theorem dX12_part_257 : decode cX12_part 257 = .ok (.iconst 4, 1) := dAt wdX12_part_232 adX12_part_232.2.2.2.2.2.2.2.2.2.2.2.2.2.1 rfl
theorem dX12_part_258 : decode cX12_part 258 = .ok (.iadd, 1) := dAt wdX12_part_232 adX12_part_232.2.2.2.2.2.2.2.2.2.2.2.2.2.2.1 rfl
theorem dX12_part_259 : decode cX12_part 259 = .ok (.iaload, 1) := dAt wdX12_part_232 adX12_part_232.2.2.2.2.2.2.2.2.2.2.2.2.2.2.2 rfl
def bdX12_part_260 : ByteArray := .mk #[153, 0, 7, 4, 167, 0, 4, 3, 96, 54, 4, 132, 5, 1, 167, 255, 201, 21, 4, 172]
theorem wdX12_part_260 : LocW cX12_part 260 bdX12_part_260 := loc_of (by decide +kernel)
theorem adX12_part_260 : De bdX12_part_260 0 (.ifCond .eq 7) 3 ∧ De bdX12_part_260 3 (.iconst 1) 1 ∧ De bdX12_part_260 4 (.goto 4) 3 ∧ De bdX12_part_260 7 (.iconst 0) 1 ∧ De bdX12_part_260 8 (.iadd) 1 ∧ De bdX12_part_260 9 (.istore 4) 2 ∧ De bdX12_part_260 11 (.iinc 5 1) 3 ∧ De bdX12_part_260 14 (.goto (-55)) 3 ∧ De bdX12_part_260 17 (.iload 4) 2 ∧ De bdX12_part_260 19 (.ireturn) 1 := by decide +kernel
theorem dX12_part_260 : decode cX12_part 260 = .ok (.ifCond .eq 7, 3) := dAt wdX12_part_260 adX12_part_260.1 rfl
theorem dX12_part_263 : decode cX12_part 263 = .ok (.iconst 1, 1) := dAt wdX12_part_260 adX12_part_260.2.1 rfl
theorem dX12_part_264 : decode cX12_part 264 = .ok (.goto 4, 3) := dAt wdX12_part_260 adX12_part_260.2.2.1 rfl
theorem dX12_part_267 : decode cX12_part 267 = .ok (.iconst 0, 1) := dAt wdX12_part_260 adX12_part_260.2.2.2.1 rfl
theorem dX12_part_268 : decode cX12_part 268 = .ok (.iadd, 1) := dAt wdX12_part_260 adX12_part_260.2.2.2.2.1 rfl
theorem dX12_part_269 : decode cX12_part 269 = .ok (.istore 4, 2) := dAt wdX12_part_260 adX12_part_260.2.2.2.2.2.1 rfl
theorem dX12_part_271 : decode cX12_part 271 = .ok (.iinc 5 1, 3) := dAt wdX12_part_260 adX12_part_260.2.2.2.2.2.2.1 rfl
theorem dX12_part_274 : decode cX12_part 274 = .ok (.goto (-55), 3) := dAt wdX12_part_260 adX12_part_260.2.2.2.2.2.2.2.1 rfl
theorem dX12_part_277 : decode cX12_part 277 = .ok (.iload 4, 2) := dAt wdX12_part_260 adX12_part_260.2.2.2.2.2.2.2.2.1 rfl
theorem dX12_part_279 : decode cX12_part 279 = .ok (.ireturn, 1) := dAt wdX12_part_260 adX12_part_260.2.2.2.2.2.2.2.2.2 rfl
def bdX12_best_0 : ByteArray := .mk #[42, 42, 27, 182, 1, 55, 154, 0, 7, 4, 167, 0, 17, 28, 3, 5, 184, 0, 157, 154, 0, 7, 5, 167, 0, 4, 3, 181, 0, 122]
theorem wdX12_best_0 : LocW cX12_best 0 bdX12_best_0 := loc_of (by decide +kernel)
theorem adX12_best_0 : De bdX12_best_0 0 (.aload_n 0) 1 ∧ De bdX12_best_0 1 (.aload_n 0) 1 ∧ De bdX12_best_0 2 (.iload_n 1) 1 ∧ De bdX12_best_0 3 (.invokevirtual 311) 3 ∧ De bdX12_best_0 6 (.ifCond .ne 7) 3 ∧ De bdX12_best_0 9 (.iconst 1) 1 ∧ De bdX12_best_0 10 (.goto 17) 3 ∧ De bdX12_best_0 13 (.iload_n 2) 1 ∧ De bdX12_best_0 14 (.iconst 0) 1 ∧ De bdX12_best_0 15 (.iconst 2) 1 ∧ De bdX12_best_0 16 (.invokestatic 157) 3 ∧ De bdX12_best_0 19 (.ifCond .ne 7) 3 ∧ De bdX12_best_0 22 (.iconst 2) 1 ∧ De bdX12_best_0 23 (.goto 4) 3 ∧ De bdX12_best_0 26 (.iconst 0) 1 ∧ De bdX12_best_0 27 (.putfield 122) 3 := by decide +kernel
theorem dX12_best_0 : decode cX12_best 0 = .ok (.aload_n 0, 1) := dAt wdX12_best_0 adX12_best_0.1 rfl
theorem dX12_best_1 : decode cX12_best 1 = .ok (.aload_n 0, 1) := dAt wdX12_best_0 adX12_best_0.2.1 rfl
theorem dX12_best_2 : decode cX12_best 2 = .ok (.iload_n 1, 1) := dAt wdX12_best_0 adX12_best_0.2.2.1 rfl
theorem dX12_best_3 : decode cX12_best 3 = .ok (.invokevirtual 311, 3) := dAt wdX12_best_0 adX12_best_0.2.2.2.1 rfl
theorem dX12_best_6 : decode cX12_best 6 = .ok (.ifCond .ne 7, 3) := dAt wdX12_best_0 adX12_best_0.2.2.2.2.1 rfl
theorem dX12_best_9 : decode cX12_best 9 = .ok (.iconst 1, 1) := dAt wdX12_best_0 adX12_best_0.2.2.2.2.2.1 rfl
theorem dX12_best_10 : decode cX12_best 10 = .ok (.goto 17, 3) := dAt wdX12_best_0 adX12_best_0.2.2.2.2.2.2.1 rfl
theorem dX12_best_13 : decode cX12_best 13 = .ok (.iload_n 2, 1) := dAt wdX12_best_0 adX12_best_0.2.2.2.2.2.2.2.1 rfl
theorem dX12_best_14 : decode cX12_best 14 = .ok (.iconst 0, 1) := dAt wdX12_best_0 adX12_best_0.2.2.2.2.2.2.2.2.1 rfl
theorem dX12_best_15 : decode cX12_best 15 = .ok (.iconst 2, 1) := dAt wdX12_best_0 adX12_best_0.2.2.2.2.2.2.2.2.2.1 rfl
theorem dX12_best_16 : decode cX12_best 16 = .ok (.invokestatic 157, 3) := dAt wdX12_best_0 adX12_best_0.2.2.2.2.2.2.2.2.2.2.1 rfl
theorem dX12_best_19 : decode cX12_best 19 = .ok (.ifCond .ne 7, 3) := dAt wdX12_best_0 adX12_best_0.2.2.2.2.2.2.2.2.2.2.2.1 rfl
theorem dX12_best_22 : decode cX12_best 22 = .ok (.iconst 2, 1) := dAt wdX12_best_0 adX12_best_0.2.2.2.2.2.2.2.2.2.2.2.2.1 rfl
theorem dX12_best_23 : decode cX12_best 23 = .ok (.goto 4, 3) := dAt wdX12_best_0 adX12_best_0.2.2.2.2.2.2.2.2.2.2.2.2.2.1 rfl
theorem dX12_best_26 : decode cX12_best 26 = .ok (.iconst 0, 1) := dAt wdX12_best_0 adX12_best_0.2.2.2.2.2.2.2.2.2.2.2.2.2.2.1 rfl
theorem dX12_best_27 : decode cX12_best 27 = .ok (.putfield 122, 3) := dAt wdX12_best_0 adX12_best_0.2.2.2.2.2.2.2.2.2.2.2.2.2.2.2 rfl
def bdX12_best_30 : ByteArray := .mk #[42, 180, 0, 122, 158, 0, 5, 3, 172, 42, 27, 42, 180, 0, 8, 3, 46, 182, 1, 89, 28, 5, 160, 0, 9, 42]
theorem wdX12_best_30 : LocW cX12_best 30 bdX12_best_30 := loc_of (by decide +kernel)
theorem adX12_best_30 : De bdX12_best_30 0 (.aload_n 0) 1 ∧ De bdX12_best_30 1 (.getfield 122) 3 ∧ De bdX12_best_30 4 (.ifCond .le 5) 3 ∧ De bdX12_best_30 7 (.iconst 0) 1 ∧ De bdX12_best_30 8 (.ireturn) 1 ∧ De bdX12_best_30 9 (.aload_n 0) 1 ∧ De bdX12_best_30 10 (.iload_n 1) 1 ∧ De bdX12_best_30 11 (.aload_n 0) 1 ∧ De bdX12_best_30 12 (.getfield 8) 3 ∧ De bdX12_best_30 15 (.iconst 0) 1 ∧ De bdX12_best_30 16 (.iaload) 1 ∧ De bdX12_best_30 17 (.invokevirtual 345) 3 ∧ De bdX12_best_30 20 (.iload_n 2) 1 ∧ De bdX12_best_30 21 (.iconst 2) 1 ∧ De bdX12_best_30 22 (.if_icmp .ne 9) 3 ∧ De bdX12_best_30 25 (.aload_n 0) 1 := by decide +kernel
theorem dX12_best_30 : decode cX12_best 30 = .ok (.aload_n 0, 1) := dAt wdX12_best_30 adX12_best_30.1 rfl
theorem dX12_best_31 : decode cX12_best 31 = .ok (.getfield 122, 3) := dAt wdX12_best_30 adX12_best_30.2.1 rfl
theorem dX12_best_34 : decode cX12_best 34 = .ok (.ifCond .le 5, 3) := dAt wdX12_best_30 adX12_best_30.2.2.1 rfl
theorem dX12_best_37 : decode cX12_best 37 = .ok (.iconst 0, 1) := dAt wdX12_best_30 adX12_best_30.2.2.2.1 rfl
theorem dX12_best_38 : decode cX12_best 38 = .ok (.ireturn, 1) := dAt wdX12_best_30 adX12_best_30.2.2.2.2.1 rfl
theorem dX12_best_39 : decode cX12_best 39 = .ok (.aload_n 0, 1) := dAt wdX12_best_30 adX12_best_30.2.2.2.2.2.1 rfl
theorem dX12_best_40 : decode cX12_best 40 = .ok (.iload_n 1, 1) := dAt wdX12_best_30 adX12_best_30.2.2.2.2.2.2.1 rfl
theorem dX12_best_41 : decode cX12_best 41 = .ok (.aload_n 0, 1) := dAt wdX12_best_30 adX12_best_30.2.2.2.2.2.2.2.1 rfl
theorem dX12_best_42 : decode cX12_best 42 = .ok (.getfield 8, 3) := dAt wdX12_best_30 adX12_best_30.2.2.2.2.2.2.2.2.1 rfl
theorem dX12_best_45 : decode cX12_best 45 = .ok (.iconst 0, 1) := dAt wdX12_best_30 adX12_best_30.2.2.2.2.2.2.2.2.2.1 rfl
theorem dX12_best_46 : decode cX12_best 46 = .ok (.iaload, 1) := dAt wdX12_best_30 adX12_best_30.2.2.2.2.2.2.2.2.2.2.1 rfl
theorem dX12_best_47 : decode cX12_best 47 = .ok (.invokevirtual 345, 3) := dAt wdX12_best_30 adX12_best_30.2.2.2.2.2.2.2.2.2.2.2.1 rfl
theorem dX12_best_50 : decode cX12_best 50 = .ok (.iload_n 2, 1) := dAt wdX12_best_30 adX12_best_30.2.2.2.2.2.2.2.2.2.2.2.2.1 rfl
theorem dX12_best_51 : decode cX12_best 51 = .ok (.iconst 2, 1) := dAt wdX12_best_30 adX12_best_30.2.2.2.2.2.2.2.2.2.2.2.2.2.1 rfl
theorem dX12_best_52 : decode cX12_best 52 = .ok (.if_icmp .ne 9, 3) := dAt wdX12_best_30 adX12_best_30.2.2.2.2.2.2.2.2.2.2.2.2.2.2.1 rfl
theorem dX12_best_55 : decode cX12_best 55 = .ok (.aload_n 0, 1) := dAt wdX12_best_30 adX12_best_30.2.2.2.2.2.2.2.2.2.2.2.2.2.2.2 rfl
def bdX12_best_56 : ByteArray := .mk #[27, 182, 1, 92, 172, 42, 180, 0, 55, 3, 46, 2, 160, 0, 7, 2, 167, 0, 22, 28, 154, 0, 12, 42, 180, 0, 58, 3]
theorem wdX12_best_56 : LocW cX12_best 56 bdX12_best_56 := loc_of (by decide +kernel)
theorem adX12_best_56 : De bdX12_best_56 0 (.iload_n 1) 1 ∧ De bdX12_best_56 1 (.invokevirtual 348) 3 ∧ De bdX12_best_56 4 (.ireturn) 1 ∧ De bdX12_best_56 5 (.aload_n 0) 1 ∧ De bdX12_best_56 6 (.getfield 55) 3 ∧ De bdX12_best_56 9 (.iconst 0) 1 ∧ De bdX12_best_56 10 (.iaload) 1 ∧ De bdX12_best_56 11 (.iconst (-1)) 1 ∧ De bdX12_best_56 12 (.if_icmp .ne 7) 3 ∧ De bdX12_best_56 15 (.iconst (-1)) 1 ∧ De bdX12_best_56 16 (.goto 22) 3 ∧ De bdX12_best_56 19 (.iload_n 2) 1 ∧ De bdX12_best_56 20 (.ifCond .ne 12) 3 ∧ De bdX12_best_56 23 (.aload_n 0) 1 ∧ De bdX12_best_56 24 (.getfield 58) 3 ∧ De bdX12_best_56 27 (.iconst 0) 1 := by decide +kernel
theorem dX12_best_56 : decode cX12_best 56 = .ok (.iload_n 1, 1) := dAt wdX12_best_56 adX12_best_56.1 rfl
theorem dX12_best_57 : decode cX12_best 57 = .ok (.invokevirtual 348, 3) := dAt wdX12_best_56 adX12_best_56.2.1 rfl
theorem dX12_best_60 : decode cX12_best 60 = .ok (.ireturn, 1) := dAt wdX12_best_56 adX12_best_56.2.2.1 rfl
theorem dX12_best_61 : decode cX12_best 61 = .ok (.aload_n 0, 1) := dAt wdX12_best_56 adX12_best_56.2.2.2.1 rfl
theorem dX12_best_62 : decode cX12_best 62 = .ok (.getfield 55, 3) := dAt wdX12_best_56 adX12_best_56.2.2.2.2.1 rfl
theorem dX12_best_65 : decode cX12_best 65 = .ok (.iconst 0, 1) := dAt wdX12_best_56 adX12_best_56.2.2.2.2.2.1 rfl
theorem dX12_best_66 : decode cX12_best 66 = .ok (.iaload, 1) := dAt wdX12_best_56 adX12_best_56.2.2.2.2.2.2.1 rfl
theorem dX12_best_67 : decode cX12_best 67 = .ok (.iconst (-1), 1) := dAt wdX12_best_56 adX12_best_56.2.2.2.2.2.2.2.1 rfl
theorem dX12_best_68 : decode cX12_best 68 = .ok (.if_icmp .ne 7, 3) := dAt wdX12_best_56 adX12_best_56.2.2.2.2.2.2.2.2.1 rfl
theorem dX12_best_71 : decode cX12_best 71 = .ok (.iconst (-1), 1) := dAt wdX12_best_56 adX12_best_56.2.2.2.2.2.2.2.2.2.1 rfl
theorem dX12_best_72 : decode cX12_best 72 = .ok (.goto 22, 3) := dAt wdX12_best_56 adX12_best_56.2.2.2.2.2.2.2.2.2.2.1 rfl
theorem dX12_best_75 : decode cX12_best 75 = .ok (.iload_n 2, 1) := dAt wdX12_best_56 adX12_best_56.2.2.2.2.2.2.2.2.2.2.2.1 rfl
theorem dX12_best_76 : decode cX12_best 76 = .ok (.ifCond .ne 12, 3) := dAt wdX12_best_56 adX12_best_56.2.2.2.2.2.2.2.2.2.2.2.2.1 rfl
theorem dX12_best_79 : decode cX12_best 79 = .ok (.aload_n 0, 1) := dAt wdX12_best_56 adX12_best_56.2.2.2.2.2.2.2.2.2.2.2.2.2.1 rfl
theorem dX12_best_80 : decode cX12_best 80 = .ok (.getfield 58, 3) := dAt wdX12_best_56 adX12_best_56.2.2.2.2.2.2.2.2.2.2.2.2.2.2.1 rfl
theorem dX12_best_83 : decode cX12_best 83 = .ok (.iconst 0, 1) := dAt wdX12_best_56 adX12_best_56.2.2.2.2.2.2.2.2.2.2.2.2.2.2.2 rfl
def bdX12_best_84 : ByteArray := .mk #[46, 167, 0, 9, 42, 180, 0, 55, 3, 46, 172]
theorem wdX12_best_84 : LocW cX12_best 84 bdX12_best_84 := loc_of (by decide +kernel)
theorem adX12_best_84 : De bdX12_best_84 0 (.iaload) 1 ∧ De bdX12_best_84 1 (.goto 9) 3 ∧ De bdX12_best_84 4 (.aload_n 0) 1 ∧ De bdX12_best_84 5 (.getfield 55) 3 ∧ De bdX12_best_84 8 (.iconst 0) 1 ∧ De bdX12_best_84 9 (.iaload) 1 ∧ De bdX12_best_84 10 (.ireturn) 1 := by decide +kernel
theorem dX12_best_84 : decode cX12_best 84 = .ok (.iaload, 1) := dAt wdX12_best_84 adX12_best_84.1 rfl
theorem dX12_best_85 : decode cX12_best 85 = .ok (.goto 9, 3) := dAt wdX12_best_84 adX12_best_84.2.1 rfl
theorem dX12_best_88 : decode cX12_best 88 = .ok (.aload_n 0, 1) := dAt wdX12_best_84 adX12_best_84.2.2.1 rfl
theorem dX12_best_89 : decode cX12_best 89 = .ok (.getfield 55, 3) := dAt wdX12_best_84 adX12_best_84.2.2.2.1 rfl
theorem dX12_best_92 : decode cX12_best 92 = .ok (.iconst 0, 1) := dAt wdX12_best_84 adX12_best_84.2.2.2.2.1 rfl
theorem dX12_best_93 : decode cX12_best 93 = .ok (.iaload, 1) := dAt wdX12_best_84 adX12_best_84.2.2.2.2.2.1 rfl
theorem dX12_best_94 : decode cX12_best 94 = .ok (.ireturn, 1) := dAt wdX12_best_84 adX12_best_84.2.2.2.2.2.2 rfl
def bdX12_ends_0 : ByteArray := .mk #[42, 42, 27, 182, 1, 55, 154, 0, 7, 4, 167, 0, 4, 3, 181, 0, 122, 42, 180, 0, 122, 158, 0, 5, 3, 172, 27, 184, 0, 164]
theorem wdX12_ends_0 : LocW cX12_ends 0 bdX12_ends_0 := loc_of (by decide +kernel)
theorem adX12_ends_0 : De bdX12_ends_0 0 (.aload_n 0) 1 ∧ De bdX12_ends_0 1 (.aload_n 0) 1 ∧ De bdX12_ends_0 2 (.iload_n 1) 1 ∧ De bdX12_ends_0 3 (.invokevirtual 311) 3 ∧ De bdX12_ends_0 6 (.ifCond .ne 7) 3 ∧ De bdX12_ends_0 9 (.iconst 1) 1 ∧ De bdX12_ends_0 10 (.goto 4) 3 ∧ De bdX12_ends_0 13 (.iconst 0) 1 ∧ De bdX12_ends_0 14 (.putfield 122) 3 ∧ De bdX12_ends_0 17 (.aload_n 0) 1 ∧ De bdX12_ends_0 18 (.getfield 122) 3 ∧ De bdX12_ends_0 21 (.ifCond .le 5) 3 ∧ De bdX12_ends_0 24 (.iconst 0) 1 ∧ De bdX12_ends_0 25 (.ireturn) 1 ∧ De bdX12_ends_0 26 (.iload_n 1) 1 ∧ De bdX12_ends_0 27 (.invokestatic 164) 3 := by decide +kernel
theorem dX12_ends_0 : decode cX12_ends 0 = .ok (.aload_n 0, 1) := dAt wdX12_ends_0 adX12_ends_0.1 rfl
theorem dX12_ends_1 : decode cX12_ends 1 = .ok (.aload_n 0, 1) := dAt wdX12_ends_0 adX12_ends_0.2.1 rfl
theorem dX12_ends_2 : decode cX12_ends 2 = .ok (.iload_n 1, 1) := dAt wdX12_ends_0 adX12_ends_0.2.2.1 rfl
theorem dX12_ends_3 : decode cX12_ends 3 = .ok (.invokevirtual 311, 3) := dAt wdX12_ends_0 adX12_ends_0.2.2.2.1 rfl
theorem dX12_ends_6 : decode cX12_ends 6 = .ok (.ifCond .ne 7, 3) := dAt wdX12_ends_0 adX12_ends_0.2.2.2.2.1 rfl
theorem dX12_ends_9 : decode cX12_ends 9 = .ok (.iconst 1, 1) := dAt wdX12_ends_0 adX12_ends_0.2.2.2.2.2.1 rfl
theorem dX12_ends_10 : decode cX12_ends 10 = .ok (.goto 4, 3) := dAt wdX12_ends_0 adX12_ends_0.2.2.2.2.2.2.1 rfl
theorem dX12_ends_13 : decode cX12_ends 13 = .ok (.iconst 0, 1) := dAt wdX12_ends_0 adX12_ends_0.2.2.2.2.2.2.2.1 rfl
theorem dX12_ends_14 : decode cX12_ends 14 = .ok (.putfield 122, 3) := dAt wdX12_ends_0 adX12_ends_0.2.2.2.2.2.2.2.2.1 rfl
theorem dX12_ends_17 : decode cX12_ends 17 = .ok (.aload_n 0, 1) := dAt wdX12_ends_0 adX12_ends_0.2.2.2.2.2.2.2.2.2.1 rfl
theorem dX12_ends_18 : decode cX12_ends 18 = .ok (.getfield 122, 3) := dAt wdX12_ends_0 adX12_ends_0.2.2.2.2.2.2.2.2.2.2.1 rfl
theorem dX12_ends_21 : decode cX12_ends 21 = .ok (.ifCond .le 5, 3) := dAt wdX12_ends_0 adX12_ends_0.2.2.2.2.2.2.2.2.2.2.2.1 rfl
theorem dX12_ends_24 : decode cX12_ends 24 = .ok (.iconst 0, 1) := dAt wdX12_ends_0 adX12_ends_0.2.2.2.2.2.2.2.2.2.2.2.2.1 rfl
theorem dX12_ends_25 : decode cX12_ends 25 = .ok (.ireturn, 1) := dAt wdX12_ends_0 adX12_ends_0.2.2.2.2.2.2.2.2.2.2.2.2.2.1 rfl
theorem dX12_ends_26 : decode cX12_ends 26 = .ok (.iload_n 1, 1) := dAt wdX12_ends_0 adX12_ends_0.2.2.2.2.2.2.2.2.2.2.2.2.2.2.1 rfl
theorem dX12_ends_27 : decode cX12_ends 27 = .ok (.invokestatic 164, 3) := dAt wdX12_ends_0 adX12_ends_0.2.2.2.2.2.2.2.2.2.2.2.2.2.2.2 rfl
def bdX12_ends_30 : ByteArray := .mk #[62, 42, 180, 0, 8, 29, 6, 96, 46, 4, 160, 0, 36, 28, 3, 42, 180, 0, 8, 29, 7, 96]
theorem wdX12_ends_30 : LocW cX12_ends 30 bdX12_ends_30 := loc_of (by decide +kernel)
theorem adX12_ends_30 : De bdX12_ends_30 0 (.istore_n 3) 1 ∧ De bdX12_ends_30 1 (.aload_n 0) 1 ∧ De bdX12_ends_30 2 (.getfield 8) 3 ∧ De bdX12_ends_30 5 (.iload_n 3) 1 ∧ De bdX12_ends_30 6 (.iconst 3) 1 ∧ De bdX12_ends_30 7 (.iadd) 1 ∧ De bdX12_ends_30 8 (.iaload) 1 ∧ De bdX12_ends_30 9 (.iconst 1) 1 ∧ De bdX12_ends_30 10 (.if_icmp .ne 36) 3 ∧ De bdX12_ends_30 13 (.iload_n 2) 1 ∧ De bdX12_ends_30 14 (.iconst 0) 1 ∧ De bdX12_ends_30 15 (.aload_n 0) 1 ∧ De bdX12_ends_30 16 (.getfield 8) 3 ∧ De bdX12_ends_30 19 (.iload_n 3) 1 ∧ De bdX12_ends_30 20 (.iconst 4) 1 ∧ De bdX12_ends_30 21 (.iadd) 1 := by decide +kernel
theorem dX12_ends_30 : decode cX12_ends 30 = .ok (.istore_n 3, 1) := dAt wdX12_ends_30 adX12_ends_30.1 rfl
theorem dX12_ends_31 : decode cX12_ends 31 = .ok (.aload_n 0, 1) := dAt wdX12_ends_30 adX12_ends_30.2.1 rfl
theorem dX12_ends_32 : decode cX12_ends 32 = .ok (.getfield 8, 3) := dAt wdX12_ends_30 adX12_ends_30.2.2.1 rfl
theorem dX12_ends_35 : decode cX12_ends 35 = .ok (.iload_n 3, 1) := dAt wdX12_ends_30 adX12_ends_30.2.2.2.1 rfl
theorem dX12_ends_36 : decode cX12_ends 36 = .ok (.iconst 3, 1) := dAt wdX12_ends_30 adX12_ends_30.2.2.2.2.1 rfl
theorem dX12_ends_37 : decode cX12_ends 37 = .ok (.iadd, 1) := dAt wdX12_ends_30 adX12_ends_30.2.2.2.2.2.1 rfl
theorem dX12_ends_38 : decode cX12_ends 38 = .ok (.iaload, 1) := dAt wdX12_ends_30 adX12_ends_30.2.2.2.2.2.2.1 rfl
theorem dX12_ends_39 : decode cX12_ends 39 = .ok (.iconst 1, 1) := dAt wdX12_ends_30 adX12_ends_30.2.2.2.2.2.2.2.1 rfl
theorem dX12_ends_40 : decode cX12_ends 40 = .ok (.if_icmp .ne 36, 3) := dAt wdX12_ends_30 adX12_ends_30.2.2.2.2.2.2.2.2.1 rfl
theorem dX12_ends_43 : decode cX12_ends 43 = .ok (.iload_n 2, 1) := dAt wdX12_ends_30 adX12_ends_30.2.2.2.2.2.2.2.2.2.1 rfl
theorem dX12_ends_44 : decode cX12_ends 44 = .ok (.iconst 0, 1) := dAt wdX12_ends_30 adX12_ends_30.2.2.2.2.2.2.2.2.2.2.1 rfl
theorem dX12_ends_45 : decode cX12_ends 45 = .ok (.aload_n 0, 1) := dAt wdX12_ends_30 adX12_ends_30.2.2.2.2.2.2.2.2.2.2.2.1 rfl
theorem dX12_ends_46 : decode cX12_ends 46 = .ok (.getfield 8, 3) := dAt wdX12_ends_30 adX12_ends_30.2.2.2.2.2.2.2.2.2.2.2.2.1 rfl
theorem dX12_ends_49 : decode cX12_ends 49 = .ok (.iload_n 3, 1) := dAt wdX12_ends_30 adX12_ends_30.2.2.2.2.2.2.2.2.2.2.2.2.2.1 rfl
theorem dX12_ends_50 : decode cX12_ends 50 = .ok (.iconst 4, 1) := dAt wdX12_ends_30 adX12_ends_30.2.2.2.2.2.2.2.2.2.2.2.2.2.2.1 rfl
theorem dX12_ends_51 : decode cX12_ends 51 = .ok (.iadd, 1) := dAt wdX12_ends_30 adX12_ends_30.2.2.2.2.2.2.2.2.2.2.2.2.2.2.2 rfl
def bdX12_ends_52 : ByteArray := .mk #[46, 4, 100, 184, 0, 157, 153, 0, 16, 42, 180, 0, 8, 29, 8, 96, 28, 96, 46, 167, 0, 4, 2, 172]
theorem wdX12_ends_52 : LocW cX12_ends 52 bdX12_ends_52 := loc_of (by decide +kernel)
theorem adX12_ends_52 : De bdX12_ends_52 0 (.iaload) 1 ∧ De bdX12_ends_52 1 (.iconst 1) 1 ∧ De bdX12_ends_52 2 (.isub) 1 ∧ De bdX12_ends_52 3 (.invokestatic 157) 3 ∧ De bdX12_ends_52 6 (.ifCond .eq 16) 3 ∧ De bdX12_ends_52 9 (.aload_n 0) 1 ∧ De bdX12_ends_52 10 (.getfield 8) 3 ∧ De bdX12_ends_52 13 (.iload_n 3) 1 ∧ De bdX12_ends_52 14 (.iconst 5) 1 ∧ De bdX12_ends_52 15 (.iadd) 1 ∧ De bdX12_ends_52 16 (.iload_n 2) 1 ∧ De bdX12_ends_52 17 (.iadd) 1 ∧ De bdX12_ends_52 18 (.iaload) 1 ∧ De bdX12_ends_52 19 (.goto 4) 3 ∧ De bdX12_ends_52 22 (.iconst (-1)) 1 ∧ De bdX12_ends_52 23 (.ireturn) 1 := by decide +kernel
theorem dX12_ends_52 : decode cX12_ends 52 = .ok (.iaload, 1) := dAt wdX12_ends_52 adX12_ends_52.1 rfl
theorem dX12_ends_53 : decode cX12_ends 53 = .ok (.iconst 1, 1) := dAt wdX12_ends_52 adX12_ends_52.2.1 rfl
theorem dX12_ends_54 : decode cX12_ends 54 = .ok (.isub, 1) := dAt wdX12_ends_52 adX12_ends_52.2.2.1 rfl
theorem dX12_ends_55 : decode cX12_ends 55 = .ok (.invokestatic 157, 3) := dAt wdX12_ends_52 adX12_ends_52.2.2.2.1 rfl
theorem dX12_ends_58 : decode cX12_ends 58 = .ok (.ifCond .eq 16, 3) := dAt wdX12_ends_52 adX12_ends_52.2.2.2.2.1 rfl
theorem dX12_ends_61 : decode cX12_ends 61 = .ok (.aload_n 0, 1) := dAt wdX12_ends_52 adX12_ends_52.2.2.2.2.2.1 rfl
theorem dX12_ends_62 : decode cX12_ends 62 = .ok (.getfield 8, 3) := dAt wdX12_ends_52 adX12_ends_52.2.2.2.2.2.2.1 rfl
theorem dX12_ends_65 : decode cX12_ends 65 = .ok (.iload_n 3, 1) := dAt wdX12_ends_52 adX12_ends_52.2.2.2.2.2.2.2.1 rfl
theorem dX12_ends_66 : decode cX12_ends 66 = .ok (.iconst 5, 1) := dAt wdX12_ends_52 adX12_ends_52.2.2.2.2.2.2.2.2.1 rfl
theorem dX12_ends_67 : decode cX12_ends 67 = .ok (.iadd, 1) := dAt wdX12_ends_52 adX12_ends_52.2.2.2.2.2.2.2.2.2.1 rfl
theorem dX12_ends_68 : decode cX12_ends 68 = .ok (.iload_n 2, 1) := dAt wdX12_ends_52 adX12_ends_52.2.2.2.2.2.2.2.2.2.2.1 rfl
theorem dX12_ends_69 : decode cX12_ends 69 = .ok (.iadd, 1) := dAt wdX12_ends_52 adX12_ends_52.2.2.2.2.2.2.2.2.2.2.2.1 rfl
theorem dX12_ends_70 : decode cX12_ends 70 = .ok (.iaload, 1) := dAt wdX12_ends_52 adX12_ends_52.2.2.2.2.2.2.2.2.2.2.2.2.1 rfl
theorem dX12_ends_71 : decode cX12_ends 71 = .ok (.goto 4, 3) := dAt wdX12_ends_52 adX12_ends_52.2.2.2.2.2.2.2.2.2.2.2.2.2.1 rfl
theorem dX12_ends_74 : decode cX12_ends 74 = .ok (.iconst (-1), 1) := dAt wdX12_ends_52 adX12_ends_52.2.2.2.2.2.2.2.2.2.2.2.2.2.2.1 rfl
theorem dX12_ends_75 : decode cX12_ends 75 = .ok (.ireturn, 1) := dAt wdX12_ends_52 adX12_ends_52.2.2.2.2.2.2.2.2.2.2.2.2.2.2.2 rfl
def bdX12_ends_76 : ByteArray := .mk #[42, 27, 42, 180, 0, 8, 3, 46, 182, 1, 89, 42, 180, 0, 55, 3, 46, 2, 159, 0, 19, 28, 3, 42]
theorem wdX12_ends_76 : LocW cX12_ends 76 bdX12_ends_76 := loc_of (by decide +kernel)
theorem adX12_ends_76 : De bdX12_ends_76 0 (.aload_n 0) 1 ∧ De bdX12_ends_76 1 (.iload_n 1) 1 ∧ De bdX12_ends_76 2 (.aload_n 0) 1 ∧ De bdX12_ends_76 3 (.getfield 8) 3 ∧ De bdX12_ends_76 6 (.iconst 0) 1 ∧ De bdX12_ends_76 7 (.iaload) 1 ∧ De bdX12_ends_76 8 (.invokevirtual 345) 3 ∧ De bdX12_ends_76 11 (.aload_n 0) 1 ∧ De bdX12_ends_76 12 (.getfield 55) 3 ∧ De bdX12_ends_76 15 (.iconst 0) 1 ∧ De bdX12_ends_76 16 (.iaload) 1 ∧ De bdX12_ends_76 17 (.iconst (-1)) 1 ∧ De bdX12_ends_76 18 (.if_icmp .eq 19) 3 ∧ De bdX12_ends_76 21 (.iload_n 2) 1 ∧ De bdX12_ends_76 22 (.iconst 0) 1 ∧ De bdX12_ends_76 23 (.aload_n 0) 1 := by decide +kernel
theorem dX12_ends_76 : decode cX12_ends 76 = .ok (.aload_n 0, 1) := dAt wdX12_ends_76 adX12_ends_76.1 rfl
theorem dX12_ends_77 : decode cX12_ends 77 = .ok (.iload_n 1, 1) := dAt wdX12_ends_76 adX12_ends_76.2.1 rfl
theorem dX12_ends_78 : decode cX12_ends 78 = .ok (.aload_n 0, 1) := dAt wdX12_ends_76 adX12_ends_76.2.2.1 rfl
theorem dX12_ends_79 : decode cX12_ends 79 = .ok (.getfield 8, 3) := dAt wdX12_ends_76 adX12_ends_76.2.2.2.1 rfl
theorem dX12_ends_82 : decode cX12_ends 82 = .ok (.iconst 0, 1) := dAt wdX12_ends_76 adX12_ends_76.2.2.2.2.1 rfl
theorem dX12_ends_83 : decode cX12_ends 83 = .ok (.iaload, 1) := dAt wdX12_ends_76 adX12_ends_76.2.2.2.2.2.1 rfl
theorem dX12_ends_84 : decode cX12_ends 84 = .ok (.invokevirtual 345, 3) := dAt wdX12_ends_76 adX12_ends_76.2.2.2.2.2.2.1 rfl
theorem dX12_ends_87 : decode cX12_ends 87 = .ok (.aload_n 0, 1) := dAt wdX12_ends_76 adX12_ends_76.2.2.2.2.2.2.2.1 rfl
theorem dX12_ends_88 : decode cX12_ends 88 = .ok (.getfield 55, 3) := dAt wdX12_ends_76 adX12_ends_76.2.2.2.2.2.2.2.2.1 rfl
theorem dX12_ends_91 : decode cX12_ends 91 = .ok (.iconst 0, 1) := dAt wdX12_ends_76 adX12_ends_76.2.2.2.2.2.2.2.2.2.1 rfl
theorem dX12_ends_92 : decode cX12_ends 92 = .ok (.iaload, 1) := dAt wdX12_ends_76 adX12_ends_76.2.2.2.2.2.2.2.2.2.2.1 rfl
theorem dX12_ends_93 : decode cX12_ends 93 = .ok (.iconst (-1), 1) := dAt wdX12_ends_76 adX12_ends_76.2.2.2.2.2.2.2.2.2.2.2.1 rfl
theorem dX12_ends_94 : decode cX12_ends 94 = .ok (.if_icmp .eq 19, 3) := dAt wdX12_ends_76 adX12_ends_76.2.2.2.2.2.2.2.2.2.2.2.2.1 rfl
theorem dX12_ends_97 : decode cX12_ends 97 = .ok (.iload_n 2, 1) := dAt wdX12_ends_76 adX12_ends_76.2.2.2.2.2.2.2.2.2.2.2.2.2.1 rfl
theorem dX12_ends_98 : decode cX12_ends 98 = .ok (.iconst 0, 1) := dAt wdX12_ends_76 adX12_ends_76.2.2.2.2.2.2.2.2.2.2.2.2.2.2.1 rfl
theorem dX12_ends_99 : decode cX12_ends 99 = .ok (.aload_n 0, 1) := dAt wdX12_ends_76 adX12_ends_76.2.2.2.2.2.2.2.2.2.2.2.2.2.2.2 rfl
def bdX12_ends_100 : ByteArray := .mk #[180, 0, 58, 3, 46, 4, 100, 184, 0, 157, 154, 0, 5, 2, 172, 3, 54, 4, 3, 54, 5, 21, 5, 28, 162, 0, 18]
theorem wdX12_ends_100 : LocW cX12_ends 100 bdX12_ends_100 := loc_of (by decide +kernel)
theorem adX12_ends_100 : De bdX12_ends_100 0 (.getfield 58) 3 ∧ De bdX12_ends_100 3 (.iconst 0) 1 ∧ De bdX12_ends_100 4 (.iaload) 1 ∧ De bdX12_ends_100 5 (.iconst 1) 1 ∧ De bdX12_ends_100 6 (.isub) 1 ∧ De bdX12_ends_100 7 (.invokestatic 157) 3 ∧ De bdX12_ends_100 10 (.ifCond .ne 5) 3 ∧ De bdX12_ends_100 13 (.iconst (-1)) 1 ∧ De bdX12_ends_100 14 (.ireturn) 1 ∧ De bdX12_ends_100 15 (.iconst 0) 1 ∧ De bdX12_ends_100 16 (.istore 4) 2 ∧ De bdX12_ends_100 18 (.iconst 0) 1 ∧ De bdX12_ends_100 19 (.istore 5) 2 ∧ De bdX12_ends_100 21 (.iload 5) 2 ∧ De bdX12_ends_100 23 (.iload_n 2) 1 ∧ De bdX12_ends_100 24 (.if_icmp .ge 18) 3 := by decide +kernel
theorem dX12_ends_100 : decode cX12_ends 100 = .ok (.getfield 58, 3) := dAt wdX12_ends_100 adX12_ends_100.1 rfl
theorem dX12_ends_103 : decode cX12_ends 103 = .ok (.iconst 0, 1) := dAt wdX12_ends_100 adX12_ends_100.2.1 rfl
theorem dX12_ends_104 : decode cX12_ends 104 = .ok (.iaload, 1) := dAt wdX12_ends_100 adX12_ends_100.2.2.1 rfl
theorem dX12_ends_105 : decode cX12_ends 105 = .ok (.iconst 1, 1) := dAt wdX12_ends_100 adX12_ends_100.2.2.2.1 rfl
theorem dX12_ends_106 : decode cX12_ends 106 = .ok (.isub, 1) := dAt wdX12_ends_100 adX12_ends_100.2.2.2.2.1 rfl
theorem dX12_ends_107 : decode cX12_ends 107 = .ok (.invokestatic 157, 3) := dAt wdX12_ends_100 adX12_ends_100.2.2.2.2.2.1 rfl
theorem dX12_ends_110 : decode cX12_ends 110 = .ok (.ifCond .ne 5, 3) := dAt wdX12_ends_100 adX12_ends_100.2.2.2.2.2.2.1 rfl
theorem dX12_ends_113 : decode cX12_ends 113 = .ok (.iconst (-1), 1) := dAt wdX12_ends_100 adX12_ends_100.2.2.2.2.2.2.2.1 rfl
theorem dX12_ends_114 : decode cX12_ends 114 = .ok (.ireturn, 1) := dAt wdX12_ends_100 adX12_ends_100.2.2.2.2.2.2.2.2.1 rfl
theorem dX12_ends_115 : decode cX12_ends 115 = .ok (.iconst 0, 1) := dAt wdX12_ends_100 adX12_ends_100.2.2.2.2.2.2.2.2.2.1 rfl
theorem dX12_ends_116 : decode cX12_ends 116 = .ok (.istore 4, 2) := dAt wdX12_ends_100 adX12_ends_100.2.2.2.2.2.2.2.2.2.2.1 rfl
theorem dX12_ends_118 : decode cX12_ends 118 = .ok (.iconst 0, 1) := dAt wdX12_ends_100 adX12_ends_100.2.2.2.2.2.2.2.2.2.2.2.1 rfl
theorem dX12_ends_119 : decode cX12_ends 119 = .ok (.istore 5, 2) := dAt wdX12_ends_100 adX12_ends_100.2.2.2.2.2.2.2.2.2.2.2.2.1 rfl
theorem dX12_ends_121 : decode cX12_ends 121 = .ok (.iload 5, 2) := dAt wdX12_ends_100 adX12_ends_100.2.2.2.2.2.2.2.2.2.2.2.2.2.1 rfl
theorem dX12_ends_123 : decode cX12_ends 123 = .ok (.iload_n 2, 1) := dAt wdX12_ends_100 adX12_ends_100.2.2.2.2.2.2.2.2.2.2.2.2.2.2.1 rfl
theorem dX12_ends_124 : decode cX12_ends 124 = .ok (.if_icmp .ge 18, 3) := dAt wdX12_ends_100 adX12_ends_100.2.2.2.2.2.2.2.2.2.2.2.2.2.2.2 rfl
def bdX12_ends_127 : ByteArray := .mk #[42, 180, 0, 61, 21, 4, 46, 54, 4, 132, 5, 1, 167, 255, 238, 42, 180, 0, 61, 21, 4, 46, 4, 100, 172]
theorem wdX12_ends_127 : LocW cX12_ends 127 bdX12_ends_127 := loc_of (by decide +kernel)
theorem adX12_ends_127 : De bdX12_ends_127 0 (.aload_n 0) 1 ∧ De bdX12_ends_127 1 (.getfield 61) 3 ∧ De bdX12_ends_127 4 (.iload 4) 2 ∧ De bdX12_ends_127 6 (.iaload) 1 ∧ De bdX12_ends_127 7 (.istore 4) 2 ∧ De bdX12_ends_127 9 (.iinc 5 1) 3 ∧ De bdX12_ends_127 12 (.goto (-18)) 3 ∧ De bdX12_ends_127 15 (.aload_n 0) 1 ∧ De bdX12_ends_127 16 (.getfield 61) 3 ∧ De bdX12_ends_127 19 (.iload 4) 2 ∧ De bdX12_ends_127 21 (.iaload) 1 ∧ De bdX12_ends_127 22 (.iconst 1) 1 ∧ De bdX12_ends_127 23 (.isub) 1 ∧ De bdX12_ends_127 24 (.ireturn) 1 := by decide +kernel
theorem dX12_ends_127 : decode cX12_ends 127 = .ok (.aload_n 0, 1) := dAt wdX12_ends_127 adX12_ends_127.1 rfl
theorem dX12_ends_128 : decode cX12_ends 128 = .ok (.getfield 61, 3) := dAt wdX12_ends_127 adX12_ends_127.2.1 rfl
theorem dX12_ends_131 : decode cX12_ends 131 = .ok (.iload 4, 2) := dAt wdX12_ends_127 adX12_ends_127.2.2.1 rfl
theorem dX12_ends_133 : decode cX12_ends 133 = .ok (.iaload, 1) := dAt wdX12_ends_127 adX12_ends_127.2.2.2.1 rfl
theorem dX12_ends_134 : decode cX12_ends 134 = .ok (.istore 4, 2) := dAt wdX12_ends_127 adX12_ends_127.2.2.2.2.1 rfl
theorem dX12_ends_136 : decode cX12_ends 136 = .ok (.iinc 5 1, 3) := dAt wdX12_ends_127 adX12_ends_127.2.2.2.2.2.1 rfl
theorem dX12_ends_139 : decode cX12_ends 139 = .ok (.goto (-18), 3) := dAt wdX12_ends_127 adX12_ends_127.2.2.2.2.2.2.1 rfl
theorem dX12_ends_142 : decode cX12_ends 142 = .ok (.aload_n 0, 1) := dAt wdX12_ends_127 adX12_ends_127.2.2.2.2.2.2.2.1 rfl
theorem dX12_ends_143 : decode cX12_ends 143 = .ok (.getfield 61, 3) := dAt wdX12_ends_127 adX12_ends_127.2.2.2.2.2.2.2.2.1 rfl
theorem dX12_ends_146 : decode cX12_ends 146 = .ok (.iload 4, 2) := dAt wdX12_ends_127 adX12_ends_127.2.2.2.2.2.2.2.2.2.1 rfl
theorem dX12_ends_148 : decode cX12_ends 148 = .ok (.iaload, 1) := dAt wdX12_ends_127 adX12_ends_127.2.2.2.2.2.2.2.2.2.2.1 rfl
theorem dX12_ends_149 : decode cX12_ends 149 = .ok (.iconst 1, 1) := dAt wdX12_ends_127 adX12_ends_127.2.2.2.2.2.2.2.2.2.2.2.1 rfl
theorem dX12_ends_150 : decode cX12_ends 150 = .ok (.isub, 1) := dAt wdX12_ends_127 adX12_ends_127.2.2.2.2.2.2.2.2.2.2.2.2.1 rfl
theorem dX12_ends_151 : decode cX12_ends 151 = .ok (.ireturn, 1) := dAt wdX12_ends_127 adX12_ends_127.2.2.2.2.2.2.2.2.2.2.2.2.2 rfl
def bdX12_hand_0 : ByteArray := .mk #[42, 42, 27, 182, 1, 55, 154, 0, 7, 4, 167, 0, 4, 3, 181, 0, 122, 42, 180, 0, 122, 158, 0, 5, 3, 172, 42, 27]
theorem wdX12_hand_0 : LocW cX12_hand 0 bdX12_hand_0 := loc_of (by decide +kernel)
theorem adX12_hand_0 : De bdX12_hand_0 0 (.aload_n 0) 1 ∧ De bdX12_hand_0 1 (.aload_n 0) 1 ∧ De bdX12_hand_0 2 (.iload_n 1) 1 ∧ De bdX12_hand_0 3 (.invokevirtual 311) 3 ∧ De bdX12_hand_0 6 (.ifCond .ne 7) 3 ∧ De bdX12_hand_0 9 (.iconst 1) 1 ∧ De bdX12_hand_0 10 (.goto 4) 3 ∧ De bdX12_hand_0 13 (.iconst 0) 1 ∧ De bdX12_hand_0 14 (.putfield 122) 3 ∧ De bdX12_hand_0 17 (.aload_n 0) 1 ∧ De bdX12_hand_0 18 (.getfield 122) 3 ∧ De bdX12_hand_0 21 (.ifCond .le 5) 3 ∧ De bdX12_hand_0 24 (.iconst 0) 1 ∧ De bdX12_hand_0 25 (.ireturn) 1 ∧ De bdX12_hand_0 26 (.aload_n 0) 1 ∧ De bdX12_hand_0 27 (.iload_n 1) 1 := by decide +kernel
theorem dX12_hand_0 : decode cX12_hand 0 = .ok (.aload_n 0, 1) := dAt wdX12_hand_0 adX12_hand_0.1 rfl
theorem dX12_hand_1 : decode cX12_hand 1 = .ok (.aload_n 0, 1) := dAt wdX12_hand_0 adX12_hand_0.2.1 rfl
theorem dX12_hand_2 : decode cX12_hand 2 = .ok (.iload_n 1, 1) := dAt wdX12_hand_0 adX12_hand_0.2.2.1 rfl
theorem dX12_hand_3 : decode cX12_hand 3 = .ok (.invokevirtual 311, 3) := dAt wdX12_hand_0 adX12_hand_0.2.2.2.1 rfl
theorem dX12_hand_6 : decode cX12_hand 6 = .ok (.ifCond .ne 7, 3) := dAt wdX12_hand_0 adX12_hand_0.2.2.2.2.1 rfl
theorem dX12_hand_9 : decode cX12_hand 9 = .ok (.iconst 1, 1) := dAt wdX12_hand_0 adX12_hand_0.2.2.2.2.2.1 rfl
theorem dX12_hand_10 : decode cX12_hand 10 = .ok (.goto 4, 3) := dAt wdX12_hand_0 adX12_hand_0.2.2.2.2.2.2.1 rfl
theorem dX12_hand_13 : decode cX12_hand 13 = .ok (.iconst 0, 1) := dAt wdX12_hand_0 adX12_hand_0.2.2.2.2.2.2.2.1 rfl
theorem dX12_hand_14 : decode cX12_hand 14 = .ok (.putfield 122, 3) := dAt wdX12_hand_0 adX12_hand_0.2.2.2.2.2.2.2.2.1 rfl
theorem dX12_hand_17 : decode cX12_hand 17 = .ok (.aload_n 0, 1) := dAt wdX12_hand_0 adX12_hand_0.2.2.2.2.2.2.2.2.2.1 rfl
theorem dX12_hand_18 : decode cX12_hand 18 = .ok (.getfield 122, 3) := dAt wdX12_hand_0 adX12_hand_0.2.2.2.2.2.2.2.2.2.2.1 rfl
theorem dX12_hand_21 : decode cX12_hand 21 = .ok (.ifCond .le 5, 3) := dAt wdX12_hand_0 adX12_hand_0.2.2.2.2.2.2.2.2.2.2.2.1 rfl
theorem dX12_hand_24 : decode cX12_hand 24 = .ok (.iconst 0, 1) := dAt wdX12_hand_0 adX12_hand_0.2.2.2.2.2.2.2.2.2.2.2.2.1 rfl
theorem dX12_hand_25 : decode cX12_hand 25 = .ok (.ireturn, 1) := dAt wdX12_hand_0 adX12_hand_0.2.2.2.2.2.2.2.2.2.2.2.2.2.1 rfl
theorem dX12_hand_26 : decode cX12_hand 26 = .ok (.aload_n 0, 1) := dAt wdX12_hand_0 adX12_hand_0.2.2.2.2.2.2.2.2.2.2.2.2.2.2.1 rfl
theorem dX12_hand_27 : decode cX12_hand 27 = .ok (.iload_n 1, 1) := dAt wdX12_hand_0 adX12_hand_0.2.2.2.2.2.2.2.2.2.2.2.2.2.2.2 rfl
def bdX12_hand_28 : ByteArray := .mk #[42, 180, 0, 8, 3, 46, 182, 1, 58, 42, 180, 0, 8, 27, 184, 0, 164, 4, 96, 46, 62, 3, 54, 4, 3]
theorem wdX12_hand_28 : LocW cX12_hand 28 bdX12_hand_28 := loc_of (by decide +kernel)
theorem adX12_hand_28 : De bdX12_hand_28 0 (.aload_n 0) 1 ∧ De bdX12_hand_28 1 (.getfield 8) 3 ∧ De bdX12_hand_28 4 (.iconst 0) 1 ∧ De bdX12_hand_28 5 (.iaload) 1 ∧ De bdX12_hand_28 6 (.invokevirtual 314) 3 ∧ De bdX12_hand_28 9 (.aload_n 0) 1 ∧ De bdX12_hand_28 10 (.getfield 8) 3 ∧ De bdX12_hand_28 13 (.iload_n 1) 1 ∧ De bdX12_hand_28 14 (.invokestatic 164) 3 ∧ De bdX12_hand_28 17 (.iconst 1) 1 ∧ De bdX12_hand_28 18 (.iadd) 1 ∧ De bdX12_hand_28 19 (.iaload) 1 ∧ De bdX12_hand_28 20 (.istore_n 3) 1 ∧ De bdX12_hand_28 21 (.iconst 0) 1 ∧ De bdX12_hand_28 22 (.istore 4) 2 ∧ De bdX12_hand_28 24 (.iconst 0) 1 := by decide +kernel
theorem dX12_hand_28 : decode cX12_hand 28 = .ok (.aload_n 0, 1) := dAt wdX12_hand_28 adX12_hand_28.1 rfl
theorem dX12_hand_29 : decode cX12_hand 29 = .ok (.getfield 8, 3) := dAt wdX12_hand_28 adX12_hand_28.2.1 rfl
theorem dX12_hand_32 : decode cX12_hand 32 = .ok (.iconst 0, 1) := dAt wdX12_hand_28 adX12_hand_28.2.2.1 rfl
theorem dX12_hand_33 : decode cX12_hand 33 = .ok (.iaload, 1) := dAt wdX12_hand_28 adX12_hand_28.2.2.2.1 rfl
theorem dX12_hand_34 : decode cX12_hand 34 = .ok (.invokevirtual 314, 3) := dAt wdX12_hand_28 adX12_hand_28.2.2.2.2.1 rfl
theorem dX12_hand_37 : decode cX12_hand 37 = .ok (.aload_n 0, 1) := dAt wdX12_hand_28 adX12_hand_28.2.2.2.2.2.1 rfl
theorem dX12_hand_38 : decode cX12_hand 38 = .ok (.getfield 8, 3) := dAt wdX12_hand_28 adX12_hand_28.2.2.2.2.2.2.1 rfl
theorem dX12_hand_41 : decode cX12_hand 41 = .ok (.iload_n 1, 1) := dAt wdX12_hand_28 adX12_hand_28.2.2.2.2.2.2.2.1 rfl
theorem dX12_hand_42 : decode cX12_hand 42 = .ok (.invokestatic 164, 3) := dAt wdX12_hand_28 adX12_hand_28.2.2.2.2.2.2.2.2.1 rfl
theorem dX12_hand_45 : decode cX12_hand 45 = .ok (.iconst 1, 1) := dAt wdX12_hand_28 adX12_hand_28.2.2.2.2.2.2.2.2.2.1 rfl
theorem dX12_hand_46 : decode cX12_hand 46 = .ok (.iadd, 1) := dAt wdX12_hand_28 adX12_hand_28.2.2.2.2.2.2.2.2.2.2.1 rfl
theorem dX12_hand_47 : decode cX12_hand 47 = .ok (.iaload, 1) := dAt wdX12_hand_28 adX12_hand_28.2.2.2.2.2.2.2.2.2.2.2.1 rfl
theorem dX12_hand_48 : decode cX12_hand 48 = .ok (.istore_n 3, 1) := dAt wdX12_hand_28 adX12_hand_28.2.2.2.2.2.2.2.2.2.2.2.2.1 rfl
theorem dX12_hand_49 : decode cX12_hand 49 = .ok (.iconst 0, 1) := dAt wdX12_hand_28 adX12_hand_28.2.2.2.2.2.2.2.2.2.2.2.2.2.1 rfl
theorem dX12_hand_50 : decode cX12_hand 50 = .ok (.istore 4, 2) := dAt wdX12_hand_28 adX12_hand_28.2.2.2.2.2.2.2.2.2.2.2.2.2.2.1 rfl
theorem dX12_hand_52 : decode cX12_hand 52 = .ok (.iconst 0, 1) := dAt wdX12_hand_28 adX12_hand_28.2.2.2.2.2.2.2.2.2.2.2.2.2.2.2 rfl
def bdX12_hand_53 : ByteArray := .mk #[54, 5, 3, 54, 6, 21, 4, 29, 162, 0, 84, 2, 54, 7, 21, 4, 54, 8, 21, 8, 29, 162, 0, 29, 42, 27, 21, 4]
theorem wdX12_hand_53 : LocW cX12_hand 53 bdX12_hand_53 := loc_of (by decide +kernel)
theorem adX12_hand_53 : De bdX12_hand_53 0 (.istore 5) 2 ∧ De bdX12_hand_53 2 (.iconst 0) 1 ∧ De bdX12_hand_53 3 (.istore 6) 2 ∧ De bdX12_hand_53 5 (.iload 4) 2 ∧ De bdX12_hand_53 7 (.iload_n 3) 1 ∧ De bdX12_hand_53 8 (.if_icmp .ge 84) 3 ∧ De bdX12_hand_53 11 (.iconst (-1)) 1 ∧ De bdX12_hand_53 12 (.istore 7) 2 ∧ De bdX12_hand_53 14 (.iload 4) 2 ∧ De bdX12_hand_53 16 (.istore 8) 2 ∧ De bdX12_hand_53 18 (.iload 8) 2 ∧ De bdX12_hand_53 20 (.iload_n 3) 1 ∧ De bdX12_hand_53 21 (.if_icmp .ge 29) 3 ∧ De bdX12_hand_53 24 (.aload_n 0) 1 ∧ De bdX12_hand_53 25 (.iload_n 1) 1 ∧ De bdX12_hand_53 26 (.iload 4) 2 := by decide +kernel
theorem dX12_hand_53 : decode cX12_hand 53 = .ok (.istore 5, 2) := dAt wdX12_hand_53 adX12_hand_53.1 rfl
theorem dX12_hand_55 : decode cX12_hand 55 = .ok (.iconst 0, 1) := dAt wdX12_hand_53 adX12_hand_53.2.1 rfl
theorem dX12_hand_56 : decode cX12_hand 56 = .ok (.istore 6, 2) := dAt wdX12_hand_53 adX12_hand_53.2.2.1 rfl
theorem dX12_hand_58 : decode cX12_hand 58 = .ok (.iload 4, 2) := dAt wdX12_hand_53 adX12_hand_53.2.2.2.1 rfl
theorem dX12_hand_60 : decode cX12_hand 60 = .ok (.iload_n 3, 1) := dAt wdX12_hand_53 adX12_hand_53.2.2.2.2.1 rfl
theorem dX12_hand_61 : decode cX12_hand 61 = .ok (.if_icmp .ge 84, 3) := dAt wdX12_hand_53 adX12_hand_53.2.2.2.2.2.1 rfl
theorem dX12_hand_64 : decode cX12_hand 64 = .ok (.iconst (-1), 1) := dAt wdX12_hand_53 adX12_hand_53.2.2.2.2.2.2.1 rfl
theorem dX12_hand_65 : decode cX12_hand 65 = .ok (.istore 7, 2) := dAt wdX12_hand_53 adX12_hand_53.2.2.2.2.2.2.2.1 rfl
theorem dX12_hand_67 : decode cX12_hand 67 = .ok (.iload 4, 2) := dAt wdX12_hand_53 adX12_hand_53.2.2.2.2.2.2.2.2.1 rfl
theorem dX12_hand_69 : decode cX12_hand 69 = .ok (.istore 8, 2) := dAt wdX12_hand_53 adX12_hand_53.2.2.2.2.2.2.2.2.2.1 rfl
theorem dX12_hand_71 : decode cX12_hand 71 = .ok (.iload 8, 2) := dAt wdX12_hand_53 adX12_hand_53.2.2.2.2.2.2.2.2.2.2.1 rfl
theorem dX12_hand_73 : decode cX12_hand 73 = .ok (.iload_n 3, 1) := dAt wdX12_hand_53 adX12_hand_53.2.2.2.2.2.2.2.2.2.2.2.1 rfl
theorem dX12_hand_74 : decode cX12_hand 74 = .ok (.if_icmp .ge 29, 3) := dAt wdX12_hand_53 adX12_hand_53.2.2.2.2.2.2.2.2.2.2.2.2.1 rfl
theorem dX12_hand_77 : decode cX12_hand 77 = .ok (.aload_n 0, 1) := dAt wdX12_hand_53 adX12_hand_53.2.2.2.2.2.2.2.2.2.2.2.2.2.1 rfl
theorem dX12_hand_78 : decode cX12_hand 78 = .ok (.iload_n 1, 1) := dAt wdX12_hand_53 adX12_hand_53.2.2.2.2.2.2.2.2.2.2.2.2.2.2.1 rfl
theorem dX12_hand_79 : decode cX12_hand 79 = .ok (.iload 4, 2) := dAt wdX12_hand_53 adX12_hand_53.2.2.2.2.2.2.2.2.2.2.2.2.2.2.2 rfl
def bdX12_hand_81 : ByteArray := .mk #[21, 8, 182, 1, 71, 42, 180, 1, 42, 163, 0, 7, 21, 8, 54, 7, 132, 8, 1, 167, 255, 227, 21, 7, 2, 160, 0, 5, 2, 172, 132, 5, 1, 21, 6]
theorem wdX12_hand_81 : LocW cX12_hand 81 bdX12_hand_81 := loc_of (by decide +kernel)
theorem adX12_hand_81 : De bdX12_hand_81 0 (.iload 8) 2 ∧ De bdX12_hand_81 2 (.invokevirtual 327) 3 ∧ De bdX12_hand_81 5 (.aload_n 0) 1 ∧ De bdX12_hand_81 6 (.getfield 298) 3 ∧ De bdX12_hand_81 9 (.if_icmp .gt 7) 3 ∧ De bdX12_hand_81 12 (.iload 8) 2 ∧ De bdX12_hand_81 14 (.istore 7) 2 ∧ De bdX12_hand_81 16 (.iinc 8 1) 3 ∧ De bdX12_hand_81 19 (.goto (-29)) 3 ∧ De bdX12_hand_81 22 (.iload 7) 2 ∧ De bdX12_hand_81 24 (.iconst (-1)) 1 ∧ De bdX12_hand_81 25 (.if_icmp .ne 5) 3 ∧ De bdX12_hand_81 28 (.iconst (-1)) 1 ∧ De bdX12_hand_81 29 (.ireturn) 1 ∧ De bdX12_hand_81 30 (.iinc 5 1) 3 ∧ De bdX12_hand_81 33 (.iload 6) 2 := by decide +kernel
theorem dX12_hand_81 : decode cX12_hand 81 = .ok (.iload 8, 2) := dAt wdX12_hand_81 adX12_hand_81.1 rfl
theorem dX12_hand_83 : decode cX12_hand 83 = .ok (.invokevirtual 327, 3) := dAt wdX12_hand_81 adX12_hand_81.2.1 rfl
theorem dX12_hand_86 : decode cX12_hand 86 = .ok (.aload_n 0, 1) := dAt wdX12_hand_81 adX12_hand_81.2.2.1 rfl
theorem dX12_hand_87 : decode cX12_hand 87 = .ok (.getfield 298, 3) := dAt wdX12_hand_81 adX12_hand_81.2.2.2.1 rfl
theorem dX12_hand_90 : decode cX12_hand 90 = .ok (.if_icmp .gt 7, 3) := dAt wdX12_hand_81 adX12_hand_81.2.2.2.2.1 rfl
theorem dX12_hand_93 : decode cX12_hand 93 = .ok (.iload 8, 2) := dAt wdX12_hand_81 adX12_hand_81.2.2.2.2.2.1 rfl
theorem dX12_hand_95 : decode cX12_hand 95 = .ok (.istore 7, 2) := dAt wdX12_hand_81 adX12_hand_81.2.2.2.2.2.2.1 rfl
theorem dX12_hand_97 : decode cX12_hand 97 = .ok (.iinc 8 1, 3) := dAt wdX12_hand_81 adX12_hand_81.2.2.2.2.2.2.2.1 rfl
theorem dX12_hand_100 : decode cX12_hand 100 = .ok (.goto (-29), 3) := dAt wdX12_hand_81 adX12_hand_81.2.2.2.2.2.2.2.2.1 rfl
theorem dX12_hand_103 : decode cX12_hand 103 = .ok (.iload 7, 2) := dAt wdX12_hand_81 adX12_hand_81.2.2.2.2.2.2.2.2.2.1 rfl
theorem dX12_hand_105 : decode cX12_hand 105 = .ok (.iconst (-1), 1) := dAt wdX12_hand_81 adX12_hand_81.2.2.2.2.2.2.2.2.2.2.1 rfl
theorem dX12_hand_106 : decode cX12_hand 106 = .ok (.if_icmp .ne 5, 3) := dAt wdX12_hand_81 adX12_hand_81.2.2.2.2.2.2.2.2.2.2.2.1 rfl
theorem dX12_hand_109 : decode cX12_hand 109 = .ok (.iconst (-1), 1) := dAt wdX12_hand_81 adX12_hand_81.2.2.2.2.2.2.2.2.2.2.2.2.1 rfl
theorem dX12_hand_110 : decode cX12_hand 110 = .ok (.ireturn, 1) := dAt wdX12_hand_81 adX12_hand_81.2.2.2.2.2.2.2.2.2.2.2.2.2.1 rfl
theorem dX12_hand_111 : decode cX12_hand 111 = .ok (.iinc 5 1, 3) := dAt wdX12_hand_81 adX12_hand_81.2.2.2.2.2.2.2.2.2.2.2.2.2.2.1 rfl
theorem dX12_hand_114 : decode cX12_hand 114 = .ok (.iload 6, 2) := dAt wdX12_hand_81 adX12_hand_81.2.2.2.2.2.2.2.2.2.2.2.2.2.2.2 rfl
def bdX12_hand_116 : ByteArray := .mk #[42, 27, 21, 4, 21, 7, 182, 1, 77, 153, 0, 7, 3, 167, 0, 4, 4, 96, 54, 6, 21, 7, 4, 96, 54, 4, 167, 255, 172]
theorem wdX12_hand_116 : LocW cX12_hand 116 bdX12_hand_116 := loc_of (by decide +kernel)
theorem adX12_hand_116 : De bdX12_hand_116 0 (.aload_n 0) 1 ∧ De bdX12_hand_116 1 (.iload_n 1) 1 ∧ De bdX12_hand_116 2 (.iload 4) 2 ∧ De bdX12_hand_116 4 (.iload 7) 2 ∧ De bdX12_hand_116 6 (.invokevirtual 333) 3 ∧ De bdX12_hand_116 9 (.ifCond .eq 7) 3 ∧ De bdX12_hand_116 12 (.iconst 0) 1 ∧ De bdX12_hand_116 13 (.goto 4) 3 ∧ De bdX12_hand_116 16 (.iconst 1) 1 ∧ De bdX12_hand_116 17 (.iadd) 1 ∧ De bdX12_hand_116 18 (.istore 6) 2 ∧ De bdX12_hand_116 20 (.iload 7) 2 ∧ De bdX12_hand_116 22 (.iconst 1) 1 ∧ De bdX12_hand_116 23 (.iadd) 1 ∧ De bdX12_hand_116 24 (.istore 4) 2 ∧ De bdX12_hand_116 26 (.goto (-84)) 3 := by decide +kernel
theorem dX12_hand_116 : decode cX12_hand 116 = .ok (.aload_n 0, 1) := dAt wdX12_hand_116 adX12_hand_116.1 rfl
theorem dX12_hand_117 : decode cX12_hand 117 = .ok (.iload_n 1, 1) := dAt wdX12_hand_116 adX12_hand_116.2.1 rfl
theorem dX12_hand_118 : decode cX12_hand 118 = .ok (.iload 4, 2) := dAt wdX12_hand_116 adX12_hand_116.2.2.1 rfl
theorem dX12_hand_120 : decode cX12_hand 120 = .ok (.iload 7, 2) := dAt wdX12_hand_116 adX12_hand_116.2.2.2.1 rfl
theorem dX12_hand_122 : decode cX12_hand 122 = .ok (.invokevirtual 333, 3) := dAt wdX12_hand_116 adX12_hand_116.2.2.2.2.1 rfl
theorem dX12_hand_125 : decode cX12_hand 125 = .ok (.ifCond .eq 7, 3) := dAt wdX12_hand_116 adX12_hand_116.2.2.2.2.2.1 rfl
theorem dX12_hand_128 : decode cX12_hand 128 = .ok (.iconst 0, 1) := dAt wdX12_hand_116 adX12_hand_116.2.2.2.2.2.2.1 rfl
theorem dX12_hand_129 : decode cX12_hand 129 = .ok (.goto 4, 3) := dAt wdX12_hand_116 adX12_hand_116.2.2.2.2.2.2.2.1 rfl
theorem dX12_hand_132 : decode cX12_hand 132 = .ok (.iconst 1, 1) := dAt wdX12_hand_116 adX12_hand_116.2.2.2.2.2.2.2.2.1 rfl
theorem dX12_hand_133 : decode cX12_hand 133 = .ok (.iadd, 1) := dAt wdX12_hand_116 adX12_hand_116.2.2.2.2.2.2.2.2.2.1 rfl
theorem dX12_hand_134 : decode cX12_hand 134 = .ok (.istore 6, 2) := dAt wdX12_hand_116 adX12_hand_116.2.2.2.2.2.2.2.2.2.2.1 rfl
theorem dX12_hand_136 : decode cX12_hand 136 = .ok (.iload 7, 2) := dAt wdX12_hand_116 adX12_hand_116.2.2.2.2.2.2.2.2.2.2.2.1 rfl
theorem dX12_hand_138 : decode cX12_hand 138 = .ok (.iconst 1, 1) := dAt wdX12_hand_116 adX12_hand_116.2.2.2.2.2.2.2.2.2.2.2.2.1 rfl
theorem dX12_hand_139 : decode cX12_hand 139 = .ok (.iadd, 1) := dAt wdX12_hand_116 adX12_hand_116.2.2.2.2.2.2.2.2.2.2.2.2.2.1 rfl
theorem dX12_hand_140 : decode cX12_hand 140 = .ok (.istore 4, 2) := dAt wdX12_hand_116 adX12_hand_116.2.2.2.2.2.2.2.2.2.2.2.2.2.2.1 rfl
theorem dX12_hand_142 : decode cX12_hand 142 = .ok (.goto (-84), 3) := dAt wdX12_hand_116 adX12_hand_116.2.2.2.2.2.2.2.2.2.2.2.2.2.2.2 rfl
def bdX12_hand_145 : ByteArray := .mk #[28, 153, 0, 8, 21, 6, 167, 0, 5, 21, 5, 172]
theorem wdX12_hand_145 : LocW cX12_hand 145 bdX12_hand_145 := loc_of (by decide +kernel)
theorem adX12_hand_145 : De bdX12_hand_145 0 (.iload_n 2) 1 ∧ De bdX12_hand_145 1 (.ifCond .eq 8) 3 ∧ De bdX12_hand_145 4 (.iload 6) 2 ∧ De bdX12_hand_145 6 (.goto 5) 3 ∧ De bdX12_hand_145 9 (.iload 5) 2 ∧ De bdX12_hand_145 11 (.ireturn) 1 := by decide +kernel
theorem dX12_hand_145 : decode cX12_hand 145 = .ok (.iload_n 2, 1) := dAt wdX12_hand_145 adX12_hand_145.1 rfl
theorem dX12_hand_146 : decode cX12_hand 146 = .ok (.ifCond .eq 8, 3) := dAt wdX12_hand_145 adX12_hand_145.2.1 rfl
theorem dX12_hand_149 : decode cX12_hand 149 = .ok (.iload 6, 2) := dAt wdX12_hand_145 adX12_hand_145.2.2.1 rfl
theorem dX12_hand_151 : decode cX12_hand 151 = .ok (.goto 5, 3) := dAt wdX12_hand_145 adX12_hand_145.2.2.2.1 rfl
theorem dX12_hand_154 : decode cX12_hand 154 = .ok (.iload 5, 2) := dAt wdX12_hand_145 adX12_hand_145.2.2.2.2.1 rfl
theorem dX12_hand_156 : decode cX12_hand 156 = .ok (.ireturn, 1) := dAt wdX12_hand_145 adX12_hand_145.2.2.2.2.2 rfl
def bdX12_begins_0 : ByteArray := .mk #[28, 154, 0, 7, 3, 167, 0, 17, 42, 180, 0, 8, 27, 8, 96, 28, 96, 4, 100, 46, 4, 96]
theorem wdX12_begins_0 : LocW cX12_begins 0 bdX12_begins_0 := loc_of (by decide +kernel)
theorem adX12_begins_0 : De bdX12_begins_0 0 (.iload_n 2) 1 ∧ De bdX12_begins_0 1 (.ifCond .ne 7) 3 ∧ De bdX12_begins_0 4 (.iconst 0) 1 ∧ De bdX12_begins_0 5 (.goto 17) 3 ∧ De bdX12_begins_0 8 (.aload_n 0) 1 ∧ De bdX12_begins_0 9 (.getfield 8) 3 ∧ De bdX12_begins_0 12 (.iload_n 1) 1 ∧ De bdX12_begins_0 13 (.iconst 5) 1 ∧ De bdX12_begins_0 14 (.iadd) 1 ∧ De bdX12_begins_0 15 (.iload_n 2) 1 ∧ De bdX12_begins_0 16 (.iadd) 1 ∧ De bdX12_begins_0 17 (.iconst 1) 1 ∧ De bdX12_begins_0 18 (.isub) 1 ∧ De bdX12_begins_0 19 (.iaload) 1 ∧ De bdX12_begins_0 20 (.iconst 1) 1 ∧ De bdX12_begins_0 21 (.iadd) 1 := by decide +kernel
theorem dX12_begins_0 : decode cX12_begins 0 = .ok (.iload_n 2, 1) := dAt wdX12_begins_0 adX12_begins_0.1 rfl
theorem dX12_begins_1 : decode cX12_begins 1 = .ok (.ifCond .ne 7, 3) := dAt wdX12_begins_0 adX12_begins_0.2.1 rfl
theorem dX12_begins_4 : decode cX12_begins 4 = .ok (.iconst 0, 1) := dAt wdX12_begins_0 adX12_begins_0.2.2.1 rfl
theorem dX12_begins_5 : decode cX12_begins 5 = .ok (.goto 17, 3) := dAt wdX12_begins_0 adX12_begins_0.2.2.2.1 rfl
theorem dX12_begins_8 : decode cX12_begins 8 = .ok (.aload_n 0, 1) := dAt wdX12_begins_0 adX12_begins_0.2.2.2.2.1 rfl
theorem dX12_begins_9 : decode cX12_begins 9 = .ok (.getfield 8, 3) := dAt wdX12_begins_0 adX12_begins_0.2.2.2.2.2.1 rfl
theorem dX12_begins_12 : decode cX12_begins 12 = .ok (.iload_n 1, 1) := dAt wdX12_begins_0 adX12_begins_0.2.2.2.2.2.2.1 rfl
theorem dX12_begins_13 : decode cX12_begins 13 = .ok (.iconst 5, 1) := dAt wdX12_begins_0 adX12_begins_0.2.2.2.2.2.2.2.1 rfl
theorem dX12_begins_14 : decode cX12_begins 14 = .ok (.iadd, 1) := dAt wdX12_begins_0 adX12_begins_0.2.2.2.2.2.2.2.2.1 rfl
theorem dX12_begins_15 : decode cX12_begins 15 = .ok (.iload_n 2, 1) := dAt wdX12_begins_0 adX12_begins_0.2.2.2.2.2.2.2.2.2.1 rfl
theorem dX12_begins_16 : decode cX12_begins 16 = .ok (.iadd, 1) := dAt wdX12_begins_0 adX12_begins_0.2.2.2.2.2.2.2.2.2.2.1 rfl
theorem dX12_begins_17 : decode cX12_begins 17 = .ok (.iconst 1, 1) := dAt wdX12_begins_0 adX12_begins_0.2.2.2.2.2.2.2.2.2.2.2.1 rfl
theorem dX12_begins_18 : decode cX12_begins 18 = .ok (.isub, 1) := dAt wdX12_begins_0 adX12_begins_0.2.2.2.2.2.2.2.2.2.2.2.2.1 rfl
theorem dX12_begins_19 : decode cX12_begins 19 = .ok (.iaload, 1) := dAt wdX12_begins_0 adX12_begins_0.2.2.2.2.2.2.2.2.2.2.2.2.2.1 rfl
theorem dX12_begins_20 : decode cX12_begins 20 = .ok (.iconst 1, 1) := dAt wdX12_begins_0 adX12_begins_0.2.2.2.2.2.2.2.2.2.2.2.2.2.2.1 rfl
theorem dX12_begins_21 : decode cX12_begins 21 = .ok (.iadd, 1) := dAt wdX12_begins_0 adX12_begins_0.2.2.2.2.2.2.2.2.2.2.2.2.2.2.2 rfl
def bdX12_begins_22 : ByteArray := .mk #[172]
theorem wdX12_begins_22 : LocW cX12_begins 22 bdX12_begins_22 := loc_of (by decide +kernel)
theorem adX12_begins_22 : De bdX12_begins_22 0 (.ireturn) 1 := by decide +kernel
theorem dX12_begins_22 : decode cX12_begins 22 = .ok (.ireturn, 1) := dAt wdX12_begins_22 adX12_begins_22 rfl
def bdX12_write_0 : ByteArray := .mk #[27, 184, 0, 164, 62, 42, 180, 0, 8, 29, 8, 96, 28, 96, 46, 54, 4, 42, 3, 181, 1, 95, 3]
theorem wdX12_write_0 : LocW cX12_write 0 bdX12_write_0 := loc_of (by decide +kernel)
theorem adX12_write_0 : De bdX12_write_0 0 (.iload_n 1) 1 ∧ De bdX12_write_0 1 (.invokestatic 164) 3 ∧ De bdX12_write_0 4 (.istore_n 3) 1 ∧ De bdX12_write_0 5 (.aload_n 0) 1 ∧ De bdX12_write_0 6 (.getfield 8) 3 ∧ De bdX12_write_0 9 (.iload_n 3) 1 ∧ De bdX12_write_0 10 (.iconst 5) 1 ∧ De bdX12_write_0 11 (.iadd) 1 ∧ De bdX12_write_0 12 (.iload_n 2) 1 ∧ De bdX12_write_0 13 (.iadd) 1 ∧ De bdX12_write_0 14 (.iaload) 1 ∧ De bdX12_write_0 15 (.istore 4) 2 ∧ De bdX12_write_0 17 (.aload_n 0) 1 ∧ De bdX12_write_0 18 (.iconst 0) 1 ∧ De bdX12_write_0 19 (.putfield 351) 3 ∧ De bdX12_write_0 22 (.iconst 0) 1 := by decide +kernel
theorem dX12_write_0 : decode cX12_write 0 = .ok (.iload_n 1, 1) := dAt wdX12_write_0 adX12_write_0.1 rfl
theorem dX12_write_1 : decode cX12_write 1 = .ok (.invokestatic 164, 3) := dAt wdX12_write_0 adX12_write_0.2.1 rfl
theorem dX12_write_4 : decode cX12_write 4 = .ok (.istore_n 3, 1) := dAt wdX12_write_0 adX12_write_0.2.2.1 rfl
theorem dX12_write_5 : decode cX12_write 5 = .ok (.aload_n 0, 1) := dAt wdX12_write_0 adX12_write_0.2.2.2.1 rfl
theorem dX12_write_6 : decode cX12_write 6 = .ok (.getfield 8, 3) := dAt wdX12_write_0 adX12_write_0.2.2.2.2.1 rfl
theorem dX12_write_9 : decode cX12_write 9 = .ok (.iload_n 3, 1) := dAt wdX12_write_0 adX12_write_0.2.2.2.2.2.1 rfl
theorem dX12_write_10 : decode cX12_write 10 = .ok (.iconst 5, 1) := dAt wdX12_write_0 adX12_write_0.2.2.2.2.2.2.1 rfl
theorem dX12_write_11 : decode cX12_write 11 = .ok (.iadd, 1) := dAt wdX12_write_0 adX12_write_0.2.2.2.2.2.2.2.1 rfl
theorem dX12_write_12 : decode cX12_write 12 = .ok (.iload_n 2, 1) := dAt wdX12_write_0 adX12_write_0.2.2.2.2.2.2.2.2.1 rfl
theorem dX12_write_13 : decode cX12_write 13 = .ok (.iadd, 1) := dAt wdX12_write_0 adX12_write_0.2.2.2.2.2.2.2.2.2.1 rfl
theorem dX12_write_14 : decode cX12_write 14 = .ok (.iaload, 1) := dAt wdX12_write_0 adX12_write_0.2.2.2.2.2.2.2.2.2.2.1 rfl
theorem dX12_write_15 : decode cX12_write 15 = .ok (.istore 4, 2) := dAt wdX12_write_0 adX12_write_0.2.2.2.2.2.2.2.2.2.2.2.1 rfl
theorem dX12_write_17 : decode cX12_write 17 = .ok (.aload_n 0, 1) := dAt wdX12_write_0 adX12_write_0.2.2.2.2.2.2.2.2.2.2.2.2.1 rfl
theorem dX12_write_18 : decode cX12_write 18 = .ok (.iconst 0, 1) := dAt wdX12_write_0 adX12_write_0.2.2.2.2.2.2.2.2.2.2.2.2.2.1 rfl
theorem dX12_write_19 : decode cX12_write 19 = .ok (.putfield 351, 3) := dAt wdX12_write_0 adX12_write_0.2.2.2.2.2.2.2.2.2.2.2.2.2.2.1 rfl
theorem dX12_write_22 : decode cX12_write 22 = .ok (.iconst 0, 1) := dAt wdX12_write_0 adX12_write_0.2.2.2.2.2.2.2.2.2.2.2.2.2.2.2 rfl
def bdX12_write_23 : ByteArray := .mk #[54, 5, 21, 5, 16, 27, 162, 0, 17, 42, 180, 0, 67, 21, 5, 3, 79, 132, 5, 1, 167, 255, 238, 42, 29, 28, 182, 1, 98, 54, 5]
theorem wdX12_write_23 : LocW cX12_write 23 bdX12_write_23 := loc_of (by decide +kernel)
theorem adX12_write_23 : De bdX12_write_23 0 (.istore 5) 2 ∧ De bdX12_write_23 2 (.iload 5) 2 ∧ De bdX12_write_23 4 (.bipush 27) 2 ∧ De bdX12_write_23 6 (.if_icmp .ge 17) 3 ∧ De bdX12_write_23 9 (.aload_n 0) 1 ∧ De bdX12_write_23 10 (.getfield 67) 3 ∧ De bdX12_write_23 13 (.iload 5) 2 ∧ De bdX12_write_23 15 (.iconst 0) 1 ∧ De bdX12_write_23 16 (.iastore) 1 ∧ De bdX12_write_23 17 (.iinc 5 1) 3 ∧ De bdX12_write_23 20 (.goto (-18)) 3 ∧ De bdX12_write_23 23 (.aload_n 0) 1 ∧ De bdX12_write_23 24 (.iload_n 3) 1 ∧ De bdX12_write_23 25 (.iload_n 2) 1 ∧ De bdX12_write_23 26 (.invokevirtual 354) 3 ∧ De bdX12_write_23 29 (.istore 5) 2 := by decide +kernel
theorem dX12_write_23 : decode cX12_write 23 = .ok (.istore 5, 2) := dAt wdX12_write_23 adX12_write_23.1 rfl
theorem dX12_write_25 : decode cX12_write 25 = .ok (.iload 5, 2) := dAt wdX12_write_23 adX12_write_23.2.1 rfl
theorem dX12_write_27 : decode cX12_write 27 = .ok (.bipush 27, 2) := dAt wdX12_write_23 adX12_write_23.2.2.1 rfl
theorem dX12_write_29 : decode cX12_write 29 = .ok (.if_icmp .ge 17, 3) := dAt wdX12_write_23 adX12_write_23.2.2.2.1 rfl
theorem dX12_write_32 : decode cX12_write 32 = .ok (.aload_n 0, 1) := dAt wdX12_write_23 adX12_write_23.2.2.2.2.1 rfl
theorem dX12_write_33 : decode cX12_write 33 = .ok (.getfield 67, 3) := dAt wdX12_write_23 adX12_write_23.2.2.2.2.2.1 rfl
theorem dX12_write_36 : decode cX12_write 36 = .ok (.iload 5, 2) := dAt wdX12_write_23 adX12_write_23.2.2.2.2.2.2.1 rfl
theorem dX12_write_38 : decode cX12_write 38 = .ok (.iconst 0, 1) := dAt wdX12_write_23 adX12_write_23.2.2.2.2.2.2.2.1 rfl
theorem dX12_write_39 : decode cX12_write 39 = .ok (.iastore, 1) := dAt wdX12_write_23 adX12_write_23.2.2.2.2.2.2.2.2.1 rfl
theorem dX12_write_40 : decode cX12_write 40 = .ok (.iinc 5 1, 3) := dAt wdX12_write_23 adX12_write_23.2.2.2.2.2.2.2.2.2.1 rfl
theorem dX12_write_43 : decode cX12_write 43 = .ok (.goto (-18), 3) := dAt wdX12_write_23 adX12_write_23.2.2.2.2.2.2.2.2.2.2.1 rfl
theorem dX12_write_46 : decode cX12_write 46 = .ok (.aload_n 0, 1) := dAt wdX12_write_23 adX12_write_23.2.2.2.2.2.2.2.2.2.2.2.1 rfl
theorem dX12_write_47 : decode cX12_write 47 = .ok (.iload_n 3, 1) := dAt wdX12_write_23 adX12_write_23.2.2.2.2.2.2.2.2.2.2.2.2.1 rfl
theorem dX12_write_48 : decode cX12_write 48 = .ok (.iload_n 2, 1) := dAt wdX12_write_23 adX12_write_23.2.2.2.2.2.2.2.2.2.2.2.2.2.1 rfl
theorem dX12_write_49 : decode cX12_write 49 = .ok (.invokevirtual 354, 3) := dAt wdX12_write_23 adX12_write_23.2.2.2.2.2.2.2.2.2.2.2.2.2.2.1 rfl
theorem dX12_write_52 : decode cX12_write 52 = .ok (.istore 5, 2) := dAt wdX12_write_23 adX12_write_23.2.2.2.2.2.2.2.2.2.2.2.2.2.2.2 rfl
def bdX12_write_54 : ByteArray := .mk #[21, 5, 21, 4, 163, 0, 152, 21, 5, 42, 29, 28, 182, 1, 98, 164, 0, 53, 42, 180, 0, 8, 29, 16, 85, 96, 21, 5, 96]
theorem wdX12_write_54 : LocW cX12_write 54 bdX12_write_54 := loc_of (by decide +kernel)
theorem adX12_write_54 : De bdX12_write_54 0 (.iload 5) 2 ∧ De bdX12_write_54 2 (.iload 4) 2 ∧ De bdX12_write_54 4 (.if_icmp .gt 152) 3 ∧ De bdX12_write_54 7 (.iload 5) 2 ∧ De bdX12_write_54 9 (.aload_n 0) 1 ∧ De bdX12_write_54 10 (.iload_n 3) 1 ∧ De bdX12_write_54 11 (.iload_n 2) 1 ∧ De bdX12_write_54 12 (.invokevirtual 354) 3 ∧ De bdX12_write_54 15 (.if_icmp .le 53) 3 ∧ De bdX12_write_54 18 (.aload_n 0) 1 ∧ De bdX12_write_54 19 (.getfield 8) 3 ∧ De bdX12_write_54 22 (.iload_n 3) 1 ∧ De bdX12_write_54 23 (.bipush 85) 2 ∧ De bdX12_write_54 25 (.iadd) 1 ∧ De bdX12_write_54 26 (.iload 5) 2 ∧ De bdX12_write_54 28 (.iadd) 1 := by decide +kernel
theorem dX12_write_54 : decode cX12_write 54 = .ok (.iload 5, 2) := dAt wdX12_write_54 adX12_write_54.1 rfl
theorem dX12_write_56 : decode cX12_write 56 = .ok (.iload 4, 2) := dAt wdX12_write_54 adX12_write_54.2.1 rfl
theorem dX12_write_58 : decode cX12_write 58 = .ok (.if_icmp .gt 152, 3) := dAt wdX12_write_54 adX12_write_54.2.2.1 rfl
theorem dX12_write_61 : decode cX12_write 61 = .ok (.iload 5, 2) := dAt wdX12_write_54 adX12_write_54.2.2.2.1 rfl
theorem dX12_write_63 : decode cX12_write 63 = .ok (.aload_n 0, 1) := dAt wdX12_write_54 adX12_write_54.2.2.2.2.1 rfl
theorem dX12_write_64 : decode cX12_write 64 = .ok (.iload_n 3, 1) := dAt wdX12_write_54 adX12_write_54.2.2.2.2.2.1 rfl
theorem dX12_write_65 : decode cX12_write 65 = .ok (.iload_n 2, 1) := dAt wdX12_write_54 adX12_write_54.2.2.2.2.2.2.1 rfl
theorem dX12_write_66 : decode cX12_write 66 = .ok (.invokevirtual 354, 3) := dAt wdX12_write_54 adX12_write_54.2.2.2.2.2.2.2.1 rfl
theorem dX12_write_69 : decode cX12_write 69 = .ok (.if_icmp .le 53, 3) := dAt wdX12_write_54 adX12_write_54.2.2.2.2.2.2.2.2.1 rfl
theorem dX12_write_72 : decode cX12_write 72 = .ok (.aload_n 0, 1) := dAt wdX12_write_54 adX12_write_54.2.2.2.2.2.2.2.2.2.1 rfl
theorem dX12_write_73 : decode cX12_write 73 = .ok (.getfield 8, 3) := dAt wdX12_write_54 adX12_write_54.2.2.2.2.2.2.2.2.2.2.1 rfl
theorem dX12_write_76 : decode cX12_write 76 = .ok (.iload_n 3, 1) := dAt wdX12_write_54 adX12_write_54.2.2.2.2.2.2.2.2.2.2.2.1 rfl
theorem dX12_write_77 : decode cX12_write 77 = .ok (.bipush 85, 2) := dAt wdX12_write_54 adX12_write_54.2.2.2.2.2.2.2.2.2.2.2.2.1 rfl
theorem dX12_write_79 : decode cX12_write 79 = .ok (.iadd, 1) := dAt wdX12_write_54 adX12_write_54.2.2.2.2.2.2.2.2.2.2.2.2.2.1 rfl
theorem dX12_write_80 : decode cX12_write 80 = .ok (.iload 5, 2) := dAt wdX12_write_54 adX12_write_54.2.2.2.2.2.2.2.2.2.2.2.2.2.2.1 rfl
theorem dX12_write_82 : decode cX12_write 82 = .ok (.iadd, 1) := dAt wdX12_write_54 adX12_write_54.2.2.2.2.2.2.2.2.2.2.2.2.2.2.2 rfl
def bdX12_write_83 : ByteArray := .mk #[46, 42, 180, 0, 8, 29, 16, 85, 96, 21, 5, 96, 4, 100, 46, 159, 0, 24, 42, 180, 0, 64, 42, 180, 1, 95]
theorem wdX12_write_83 : LocW cX12_write 83 bdX12_write_83 := loc_of (by decide +kernel)
theorem adX12_write_83 : De bdX12_write_83 0 (.iaload) 1 ∧ De bdX12_write_83 1 (.aload_n 0) 1 ∧ De bdX12_write_83 2 (.getfield 8) 3 ∧ De bdX12_write_83 5 (.iload_n 3) 1 ∧ De bdX12_write_83 6 (.bipush 85) 2 ∧ De bdX12_write_83 8 (.iadd) 1 ∧ De bdX12_write_83 9 (.iload 5) 2 ∧ De bdX12_write_83 11 (.iadd) 1 ∧ De bdX12_write_83 12 (.iconst 1) 1 ∧ De bdX12_write_83 13 (.isub) 1 ∧ De bdX12_write_83 14 (.iaload) 1 ∧ De bdX12_write_83 15 (.if_icmp .eq 24) 3 ∧ De bdX12_write_83 18 (.aload_n 0) 1 ∧ De bdX12_write_83 19 (.getfield 64) 3 ∧ De bdX12_write_83 22 (.aload_n 0) 1 ∧ De bdX12_write_83 23 (.getfield 351) 3 := by decide +kernel
theorem dX12_write_83 : decode cX12_write 83 = .ok (.iaload, 1) := dAt wdX12_write_83 adX12_write_83.1 rfl
theorem dX12_write_84 : decode cX12_write 84 = .ok (.aload_n 0, 1) := dAt wdX12_write_83 adX12_write_83.2.1 rfl
theorem dX12_write_85 : decode cX12_write 85 = .ok (.getfield 8, 3) := dAt wdX12_write_83 adX12_write_83.2.2.1 rfl
theorem dX12_write_88 : decode cX12_write 88 = .ok (.iload_n 3, 1) := dAt wdX12_write_83 adX12_write_83.2.2.2.1 rfl
theorem dX12_write_89 : decode cX12_write 89 = .ok (.bipush 85, 2) := dAt wdX12_write_83 adX12_write_83.2.2.2.2.1 rfl
theorem dX12_write_91 : decode cX12_write 91 = .ok (.iadd, 1) := dAt wdX12_write_83 adX12_write_83.2.2.2.2.2.1 rfl
theorem dX12_write_92 : decode cX12_write 92 = .ok (.iload 5, 2) := dAt wdX12_write_83 adX12_write_83.2.2.2.2.2.2.1 rfl
theorem dX12_write_94 : decode cX12_write 94 = .ok (.iadd, 1) := dAt wdX12_write_83 adX12_write_83.2.2.2.2.2.2.2.1 rfl
theorem dX12_write_95 : decode cX12_write 95 = .ok (.iconst 1, 1) := dAt wdX12_write_83 adX12_write_83.2.2.2.2.2.2.2.2.1 rfl
theorem dX12_write_96 : decode cX12_write 96 = .ok (.isub, 1) := dAt wdX12_write_83 adX12_write_83.2.2.2.2.2.2.2.2.2.1 rfl
theorem dX12_write_97 : decode cX12_write 97 = .ok (.iaload, 1) := dAt wdX12_write_83 adX12_write_83.2.2.2.2.2.2.2.2.2.2.1 rfl
theorem dX12_write_98 : decode cX12_write 98 = .ok (.if_icmp .eq 24, 3) := dAt wdX12_write_83 adX12_write_83.2.2.2.2.2.2.2.2.2.2.2.1 rfl
theorem dX12_write_101 : decode cX12_write 101 = .ok (.aload_n 0, 1) := dAt wdX12_write_83 adX12_write_83.2.2.2.2.2.2.2.2.2.2.2.2.1 rfl
theorem dX12_write_102 : decode cX12_write 102 = .ok (.getfield 64, 3) := dAt wdX12_write_83 adX12_write_83.2.2.2.2.2.2.2.2.2.2.2.2.2.1 rfl
theorem dX12_write_105 : decode cX12_write 105 = .ok (.aload_n 0, 1) := dAt wdX12_write_83 adX12_write_83.2.2.2.2.2.2.2.2.2.2.2.2.2.2.1 rfl
theorem dX12_write_106 : decode cX12_write 106 = .ok (.getfield 351, 3) := dAt wdX12_write_83 adX12_write_83.2.2.2.2.2.2.2.2.2.2.2.2.2.2.2 rfl
def bdX12_write_109 : ByteArray := .mk #[16, 32, 79, 42, 89, 180, 1, 95, 4, 96, 181, 1, 95, 3, 54, 6, 21, 6, 42, 180, 0, 8, 29, 16, 125, 96]
theorem wdX12_write_109 : LocW cX12_write 109 bdX12_write_109 := loc_of (by decide +kernel)
theorem adX12_write_109 : De bdX12_write_109 0 (.bipush 32) 2 ∧ De bdX12_write_109 2 (.iastore) 1 ∧ De bdX12_write_109 3 (.aload_n 0) 1 ∧ De bdX12_write_109 4 (.dup) 1 ∧ De bdX12_write_109 5 (.getfield 351) 3 ∧ De bdX12_write_109 8 (.iconst 1) 1 ∧ De bdX12_write_109 9 (.iadd) 1 ∧ De bdX12_write_109 10 (.putfield 351) 3 ∧ De bdX12_write_109 13 (.iconst 0) 1 ∧ De bdX12_write_109 14 (.istore 6) 2 ∧ De bdX12_write_109 16 (.iload 6) 2 ∧ De bdX12_write_109 18 (.aload_n 0) 1 ∧ De bdX12_write_109 19 (.getfield 8) 3 ∧ De bdX12_write_109 22 (.iload_n 3) 1 ∧ De bdX12_write_109 23 (.bipush 125) 2 ∧ De bdX12_write_109 25 (.iadd) 1 := by decide +kernel
theorem dX12_write_109 : decode cX12_write 109 = .ok (.bipush 32, 2) := dAt wdX12_write_109 adX12_write_109.1 rfl
theorem dX12_write_111 : decode cX12_write 111 = .ok (.iastore, 1) := dAt wdX12_write_109 adX12_write_109.2.1 rfl
theorem dX12_write_112 : decode cX12_write 112 = .ok (.aload_n 0, 1) := dAt wdX12_write_109 adX12_write_109.2.2.1 rfl
theorem dX12_write_113 : decode cX12_write 113 = .ok (.dup, 1) := dAt wdX12_write_109 adX12_write_109.2.2.2.1 rfl
theorem dX12_write_114 : decode cX12_write 114 = .ok (.getfield 351, 3) := dAt wdX12_write_109 adX12_write_109.2.2.2.2.1 rfl
theorem dX12_write_117 : decode cX12_write 117 = .ok (.iconst 1, 1) := dAt wdX12_write_109 adX12_write_109.2.2.2.2.2.1 rfl
theorem dX12_write_118 : decode cX12_write 118 = .ok (.iadd, 1) := dAt wdX12_write_109 adX12_write_109.2.2.2.2.2.2.1 rfl
theorem dX12_write_119 : decode cX12_write 119 = .ok (.putfield 351, 3) := dAt wdX12_write_109 adX12_write_109.2.2.2.2.2.2.2.1 rfl
theorem dX12_write_122 : decode cX12_write 122 = .ok (.iconst 0, 1) := dAt wdX12_write_109 adX12_write_109.2.2.2.2.2.2.2.2.1 rfl
theorem dX12_write_123 : decode cX12_write 123 = .ok (.istore 6, 2) := dAt wdX12_write_109 adX12_write_109.2.2.2.2.2.2.2.2.2.1 rfl
theorem dX12_write_125 : decode cX12_write 125 = .ok (.iload 6, 2) := dAt wdX12_write_109 adX12_write_109.2.2.2.2.2.2.2.2.2.2.1 rfl
theorem dX12_write_127 : decode cX12_write 127 = .ok (.aload_n 0, 1) := dAt wdX12_write_109 adX12_write_109.2.2.2.2.2.2.2.2.2.2.2.1 rfl
theorem dX12_write_128 : decode cX12_write 128 = .ok (.getfield 8, 3) := dAt wdX12_write_109 adX12_write_109.2.2.2.2.2.2.2.2.2.2.2.2.1 rfl
theorem dX12_write_131 : decode cX12_write 131 = .ok (.iload_n 3, 1) := dAt wdX12_write_109 adX12_write_109.2.2.2.2.2.2.2.2.2.2.2.2.2.1 rfl
theorem dX12_write_132 : decode cX12_write 132 = .ok (.bipush 125, 2) := dAt wdX12_write_109 adX12_write_109.2.2.2.2.2.2.2.2.2.2.2.2.2.2.1 rfl
theorem dX12_write_134 : decode cX12_write 134 = .ok (.iadd, 1) := dAt wdX12_write_109 adX12_write_109.2.2.2.2.2.2.2.2.2.2.2.2.2.2.2 rfl
def bdX12_write_135 : ByteArray := .mk #[21, 5, 96, 46, 162, 0, 65, 42, 180, 0, 8, 29, 17, 0, 165, 96, 16, 12, 21, 5, 104, 96, 21, 6, 96, 46]
theorem wdX12_write_135 : LocW cX12_write 135 bdX12_write_135 := loc_of (by decide +kernel)
theorem adX12_write_135 : De bdX12_write_135 0 (.iload 5) 2 ∧ De bdX12_write_135 2 (.iadd) 1 ∧ De bdX12_write_135 3 (.iaload) 1 ∧ De bdX12_write_135 4 (.if_icmp .ge 65) 3 ∧ De bdX12_write_135 7 (.aload_n 0) 1 ∧ De bdX12_write_135 8 (.getfield 8) 3 ∧ De bdX12_write_135 11 (.iload_n 3) 1 ∧ De bdX12_write_135 12 (.sipush 165) 3 ∧ De bdX12_write_135 15 (.iadd) 1 ∧ De bdX12_write_135 16 (.bipush 12) 2 ∧ De bdX12_write_135 18 (.iload 5) 2 ∧ De bdX12_write_135 20 (.imul) 1 ∧ De bdX12_write_135 21 (.iadd) 1 ∧ De bdX12_write_135 22 (.iload 6) 2 ∧ De bdX12_write_135 24 (.iadd) 1 ∧ De bdX12_write_135 25 (.iaload) 1 := by decide +kernel
theorem dX12_write_135 : decode cX12_write 135 = .ok (.iload 5, 2) := dAt wdX12_write_135 adX12_write_135.1 rfl
theorem dX12_write_137 : decode cX12_write 137 = .ok (.iadd, 1) := dAt wdX12_write_135 adX12_write_135.2.1 rfl
theorem dX12_write_138 : decode cX12_write 138 = .ok (.iaload, 1) := dAt wdX12_write_135 adX12_write_135.2.2.1 rfl
theorem dX12_write_139 : decode cX12_write 139 = .ok (.if_icmp .ge 65, 3) := dAt wdX12_write_135 adX12_write_135.2.2.2.1 rfl
theorem dX12_write_142 : decode cX12_write 142 = .ok (.aload_n 0, 1) := dAt wdX12_write_135 adX12_write_135.2.2.2.2.1 rfl
theorem dX12_write_143 : decode cX12_write 143 = .ok (.getfield 8, 3) := dAt wdX12_write_135 adX12_write_135.2.2.2.2.2.1 rfl
theorem dX12_write_146 : decode cX12_write 146 = .ok (.iload_n 3, 1) := dAt wdX12_write_135 adX12_write_135.2.2.2.2.2.2.1 rfl
theorem dX12_write_147 : decode cX12_write 147 = .ok (.sipush 165, 3) := dAt wdX12_write_135 adX12_write_135.2.2.2.2.2.2.2.1 rfl
theorem dX12_write_150 : decode cX12_write 150 = .ok (.iadd, 1) := dAt wdX12_write_135 adX12_write_135.2.2.2.2.2.2.2.2.1 rfl
theorem dX12_write_151 : decode cX12_write 151 = .ok (.bipush 12, 2) := dAt wdX12_write_135 adX12_write_135.2.2.2.2.2.2.2.2.2.1 rfl
theorem dX12_write_153 : decode cX12_write 153 = .ok (.iload 5, 2) := dAt wdX12_write_135 adX12_write_135.2.2.2.2.2.2.2.2.2.2.1 rfl
theorem dX12_write_155 : decode cX12_write 155 = .ok (.imul, 1) := dAt wdX12_write_135 adX12_write_135.2.2.2.2.2.2.2.2.2.2.2.1 rfl
theorem dX12_write_156 : decode cX12_write 156 = .ok (.iadd, 1) := dAt wdX12_write_135 adX12_write_135.2.2.2.2.2.2.2.2.2.2.2.2.1 rfl
theorem dX12_write_157 : decode cX12_write 157 = .ok (.iload 6, 2) := dAt wdX12_write_135 adX12_write_135.2.2.2.2.2.2.2.2.2.2.2.2.2.1 rfl
theorem dX12_write_159 : decode cX12_write 159 = .ok (.iadd, 1) := dAt wdX12_write_135 adX12_write_135.2.2.2.2.2.2.2.2.2.2.2.2.2.2.1 rfl
theorem dX12_write_160 : decode cX12_write 160 = .ok (.iaload, 1) := dAt wdX12_write_135 adX12_write_135.2.2.2.2.2.2.2.2.2.2.2.2.2.2.2 rfl
def bdX12_write_161 : ByteArray := .mk #[54, 7, 42, 180, 0, 67, 21, 7, 92, 46, 4, 96, 79, 42, 180, 0, 64, 42, 180, 1, 95, 16, 97, 21, 7, 96]
theorem wdX12_write_161 : LocW cX12_write 161 bdX12_write_161 := loc_of (by decide +kernel)
theorem adX12_write_161 : De bdX12_write_161 0 (.istore 7) 2 ∧ De bdX12_write_161 2 (.aload_n 0) 1 ∧ De bdX12_write_161 3 (.getfield 67) 3 ∧ De bdX12_write_161 6 (.iload 7) 2 ∧ De bdX12_write_161 8 (.dup2) 1 ∧ De bdX12_write_161 9 (.iaload) 1 ∧ De bdX12_write_161 10 (.iconst 1) 1 ∧ De bdX12_write_161 11 (.iadd) 1 ∧ De bdX12_write_161 12 (.iastore) 1 ∧ De bdX12_write_161 13 (.aload_n 0) 1 ∧ De bdX12_write_161 14 (.getfield 64) 3 ∧ De bdX12_write_161 17 (.aload_n 0) 1 ∧ De bdX12_write_161 18 (.getfield 351) 3 ∧ De bdX12_write_161 21 (.bipush 97) 2 ∧ De bdX12_write_161 23 (.iload 7) 2 ∧ De bdX12_write_161 25 (.iadd) 1 := by decide +kernel
theorem dX12_write_161 : decode cX12_write 161 = .ok (.istore 7, 2) := dAt wdX12_write_161 adX12_write_161.1 rfl
theorem dX12_write_163 : decode cX12_write 163 = .ok (.aload_n 0, 1) := dAt wdX12_write_161 adX12_write_161.2.1 rfl
theorem dX12_write_164 : decode cX12_write 164 = .ok (.getfield 67, 3) := dAt wdX12_write_161 adX12_write_161.2.2.1 rfl
theorem dX12_write_167 : decode cX12_write 167 = .ok (.iload 7, 2) := dAt wdX12_write_161 adX12_write_161.2.2.2.1 rfl
theorem dX12_write_169 : decode cX12_write 169 = .ok (.dup2, 1) := dAt wdX12_write_161 adX12_write_161.2.2.2.2.1 rfl
theorem dX12_write_170 : decode cX12_write 170 = .ok (.iaload, 1) := dAt wdX12_write_161 adX12_write_161.2.2.2.2.2.1 rfl
theorem dX12_write_171 : decode cX12_write 171 = .ok (.iconst 1, 1) := dAt wdX12_write_161 adX12_write_161.2.2.2.2.2.2.1 rfl
theorem dX12_write_172 : decode cX12_write 172 = .ok (.iadd, 1) := dAt wdX12_write_161 adX12_write_161.2.2.2.2.2.2.2.1 rfl
theorem dX12_write_173 : decode cX12_write 173 = .ok (.iastore, 1) := dAt wdX12_write_161 adX12_write_161.2.2.2.2.2.2.2.2.1 rfl
theorem dX12_write_174 : decode cX12_write 174 = .ok (.aload_n 0, 1) := dAt wdX12_write_161 adX12_write_161.2.2.2.2.2.2.2.2.2.1 rfl
theorem dX12_write_175 : decode cX12_write 175 = .ok (.getfield 64, 3) := dAt wdX12_write_161 adX12_write_161.2.2.2.2.2.2.2.2.2.2.1 rfl
theorem dX12_write_178 : decode cX12_write 178 = .ok (.aload_n 0, 1) := dAt wdX12_write_161 adX12_write_161.2.2.2.2.2.2.2.2.2.2.2.1 rfl
theorem dX12_write_179 : decode cX12_write 179 = .ok (.getfield 351, 3) := dAt wdX12_write_161 adX12_write_161.2.2.2.2.2.2.2.2.2.2.2.2.1 rfl
theorem dX12_write_182 : decode cX12_write 182 = .ok (.bipush 97, 2) := dAt wdX12_write_161 adX12_write_161.2.2.2.2.2.2.2.2.2.2.2.2.2.1 rfl
theorem dX12_write_184 : decode cX12_write 184 = .ok (.iload 7, 2) := dAt wdX12_write_161 adX12_write_161.2.2.2.2.2.2.2.2.2.2.2.2.2.2.1 rfl
theorem dX12_write_186 : decode cX12_write 186 = .ok (.iadd, 1) := dAt wdX12_write_161 adX12_write_161.2.2.2.2.2.2.2.2.2.2.2.2.2.2.2 rfl
def bdX12_write_187 : ByteArray := .mk #[79, 42, 89, 180, 1, 95, 4, 96, 181, 1, 95, 132, 6, 1, 167, 255, 180, 132, 5, 1, 167, 255, 103, 42, 29, 21, 4, 182, 1, 61, 153, 0, 4]
theorem wdX12_write_187 : LocW cX12_write 187 bdX12_write_187 := loc_of (by decide +kernel)
theorem adX12_write_187 : De bdX12_write_187 0 (.iastore) 1 ∧ De bdX12_write_187 1 (.aload_n 0) 1 ∧ De bdX12_write_187 2 (.dup) 1 ∧ De bdX12_write_187 3 (.getfield 351) 3 ∧ De bdX12_write_187 6 (.iconst 1) 1 ∧ De bdX12_write_187 7 (.iadd) 1 ∧ De bdX12_write_187 8 (.putfield 351) 3 ∧ De bdX12_write_187 11 (.iinc 6 1) 3 ∧ De bdX12_write_187 14 (.goto (-76)) 3 ∧ De bdX12_write_187 17 (.iinc 5 1) 3 ∧ De bdX12_write_187 20 (.goto (-153)) 3 ∧ De bdX12_write_187 23 (.aload_n 0) 1 ∧ De bdX12_write_187 24 (.iload_n 3) 1 ∧ De bdX12_write_187 25 (.iload 4) 2 ∧ De bdX12_write_187 27 (.invokevirtual 317) 3 ∧ De bdX12_write_187 30 (.ifCond .eq 4) 3 := by decide +kernel
theorem dX12_write_187 : decode cX12_write 187 = .ok (.iastore, 1) := dAt wdX12_write_187 adX12_write_187.1 rfl
theorem dX12_write_188 : decode cX12_write 188 = .ok (.aload_n 0, 1) := dAt wdX12_write_187 adX12_write_187.2.1 rfl
theorem dX12_write_189 : decode cX12_write 189 = .ok (.dup, 1) := dAt wdX12_write_187 adX12_write_187.2.2.1 rfl
theorem dX12_write_190 : decode cX12_write 190 = .ok (.getfield 351, 3) := dAt wdX12_write_187 adX12_write_187.2.2.2.1 rfl
theorem dX12_write_193 : decode cX12_write 193 = .ok (.iconst 1, 1) := dAt wdX12_write_187 adX12_write_187.2.2.2.2.1 rfl
theorem dX12_write_194 : decode cX12_write 194 = .ok (.iadd, 1) := dAt wdX12_write_187 adX12_write_187.2.2.2.2.2.1 rfl
theorem dX12_write_195 : decode cX12_write 195 = .ok (.putfield 351, 3) := dAt wdX12_write_187 adX12_write_187.2.2.2.2.2.2.1 rfl
theorem dX12_write_198 : decode cX12_write 198 = .ok (.iinc 6 1, 3) := dAt wdX12_write_187 adX12_write_187.2.2.2.2.2.2.2.1 rfl
theorem dX12_write_201 : decode cX12_write 201 = .ok (.goto (-76), 3) := dAt wdX12_write_187 adX12_write_187.2.2.2.2.2.2.2.2.1 rfl
theorem dX12_write_204 : decode cX12_write 204 = .ok (.iinc 5 1, 3) := dAt wdX12_write_187 adX12_write_187.2.2.2.2.2.2.2.2.2.1 rfl
theorem dX12_write_207 : decode cX12_write 207 = .ok (.goto (-153), 3) := dAt wdX12_write_187 adX12_write_187.2.2.2.2.2.2.2.2.2.2.1 rfl
theorem dX12_write_210 : decode cX12_write 210 = .ok (.aload_n 0, 1) := dAt wdX12_write_187 adX12_write_187.2.2.2.2.2.2.2.2.2.2.2.1 rfl
theorem dX12_write_211 : decode cX12_write 211 = .ok (.iload_n 3, 1) := dAt wdX12_write_187 adX12_write_187.2.2.2.2.2.2.2.2.2.2.2.2.1 rfl
theorem dX12_write_212 : decode cX12_write 212 = .ok (.iload 4, 2) := dAt wdX12_write_187 adX12_write_187.2.2.2.2.2.2.2.2.2.2.2.2.2.1 rfl
theorem dX12_write_214 : decode cX12_write 214 = .ok (.invokevirtual 317, 3) := dAt wdX12_write_187 adX12_write_187.2.2.2.2.2.2.2.2.2.2.2.2.2.2.1 rfl
theorem dX12_write_217 : decode cX12_write 217 = .ok (.ifCond .eq 4, 3) := dAt wdX12_write_187 adX12_write_187.2.2.2.2.2.2.2.2.2.2.2.2.2.2.2 rfl
def bdX12_write_220 : ByteArray := .mk #[177, 42, 180, 0, 67, 16, 26, 92, 46, 4, 96, 79, 42, 180, 0, 64, 42, 180, 1, 95, 16, 45, 79, 42]
theorem wdX12_write_220 : LocW cX12_write 220 bdX12_write_220 := loc_of (by decide +kernel)
theorem adX12_write_220 : De bdX12_write_220 0 (.return_) 1 ∧ De bdX12_write_220 1 (.aload_n 0) 1 ∧ De bdX12_write_220 2 (.getfield 67) 3 ∧ De bdX12_write_220 5 (.bipush 26) 2 ∧ De bdX12_write_220 7 (.dup2) 1 ∧ De bdX12_write_220 8 (.iaload) 1 ∧ De bdX12_write_220 9 (.iconst 1) 1 ∧ De bdX12_write_220 10 (.iadd) 1 ∧ De bdX12_write_220 11 (.iastore) 1 ∧ De bdX12_write_220 12 (.aload_n 0) 1 ∧ De bdX12_write_220 13 (.getfield 64) 3 ∧ De bdX12_write_220 16 (.aload_n 0) 1 ∧ De bdX12_write_220 17 (.getfield 351) 3 ∧ De bdX12_write_220 20 (.bipush 45) 2 ∧ De bdX12_write_220 22 (.iastore) 1 ∧ De bdX12_write_220 23 (.aload_n 0) 1 := by decide +kernel
theorem dX12_write_220 : decode cX12_write 220 = .ok (.return_, 1) := dAt wdX12_write_220 adX12_write_220.1 rfl
theorem dX12_write_221 : decode cX12_write 221 = .ok (.aload_n 0, 1) := dAt wdX12_write_220 adX12_write_220.2.1 rfl
theorem dX12_write_222 : decode cX12_write 222 = .ok (.getfield 67, 3) := dAt wdX12_write_220 adX12_write_220.2.2.1 rfl
theorem dX12_write_225 : decode cX12_write 225 = .ok (.bipush 26, 2) := dAt wdX12_write_220 adX12_write_220.2.2.2.1 rfl
theorem dX12_write_227 : decode cX12_write 227 = .ok (.dup2, 1) := dAt wdX12_write_220 adX12_write_220.2.2.2.2.1 rfl
theorem dX12_write_228 : decode cX12_write 228 = .ok (.iaload, 1) := dAt wdX12_write_220 adX12_write_220.2.2.2.2.2.1 rfl
theorem dX12_write_229 : decode cX12_write 229 = .ok (.iconst 1, 1) := dAt wdX12_write_220 adX12_write_220.2.2.2.2.2.2.1 rfl
theorem dX12_write_230 : decode cX12_write 230 = .ok (.iadd, 1) := dAt wdX12_write_220 adX12_write_220.2.2.2.2.2.2.2.1 rfl
theorem dX12_write_231 : decode cX12_write 231 = .ok (.iastore, 1) := dAt wdX12_write_220 adX12_write_220.2.2.2.2.2.2.2.2.1 rfl
theorem dX12_write_232 : decode cX12_write 232 = .ok (.aload_n 0, 1) := dAt wdX12_write_220 adX12_write_220.2.2.2.2.2.2.2.2.2.1 rfl
theorem dX12_write_233 : decode cX12_write 233 = .ok (.getfield 64, 3) := dAt wdX12_write_220 adX12_write_220.2.2.2.2.2.2.2.2.2.2.1 rfl
theorem dX12_write_236 : decode cX12_write 236 = .ok (.aload_n 0, 1) := dAt wdX12_write_220 adX12_write_220.2.2.2.2.2.2.2.2.2.2.2.1 rfl
theorem dX12_write_237 : decode cX12_write 237 = .ok (.getfield 351, 3) := dAt wdX12_write_220 adX12_write_220.2.2.2.2.2.2.2.2.2.2.2.2.1 rfl
theorem dX12_write_240 : decode cX12_write 240 = .ok (.bipush 45, 2) := dAt wdX12_write_220 adX12_write_220.2.2.2.2.2.2.2.2.2.2.2.2.2.1 rfl
theorem dX12_write_242 : decode cX12_write 242 = .ok (.iastore, 1) := dAt wdX12_write_220 adX12_write_220.2.2.2.2.2.2.2.2.2.2.2.2.2.2.1 rfl
theorem dX12_write_243 : decode cX12_write 243 = .ok (.aload_n 0, 1) := dAt wdX12_write_220 adX12_write_220.2.2.2.2.2.2.2.2.2.2.2.2.2.2.2 rfl
def bdX12_write_244 : ByteArray := .mk #[89, 180, 1, 95, 4, 96, 181, 1, 95, 177]
theorem wdX12_write_244 : LocW cX12_write 244 bdX12_write_244 := loc_of (by decide +kernel)
theorem adX12_write_244 : De bdX12_write_244 0 (.dup) 1 ∧ De bdX12_write_244 1 (.getfield 351) 3 ∧ De bdX12_write_244 4 (.iconst 1) 1 ∧ De bdX12_write_244 5 (.iadd) 1 ∧ De bdX12_write_244 6 (.putfield 351) 3 ∧ De bdX12_write_244 9 (.return_) 1 := by decide +kernel
theorem dX12_write_244 : decode cX12_write 244 = .ok (.dup, 1) := dAt wdX12_write_244 adX12_write_244.1 rfl
theorem dX12_write_245 : decode cX12_write 245 = .ok (.getfield 351, 3) := dAt wdX12_write_244 adX12_write_244.2.1 rfl
theorem dX12_write_248 : decode cX12_write 248 = .ok (.iconst 1, 1) := dAt wdX12_write_244 adX12_write_244.2.2.1 rfl
theorem dX12_write_249 : decode cX12_write 249 = .ok (.iadd, 1) := dAt wdX12_write_244 adX12_write_244.2.2.2.1 rfl
theorem dX12_write_250 : decode cX12_write 250 = .ok (.putfield 351, 3) := dAt wdX12_write_244 adX12_write_244.2.2.2.2.1 rfl
theorem dX12_write_253 : decode cX12_write 253 = .ok (.return_, 1) := dAt wdX12_write_244 adX12_write_244.2.2.2.2.2 rfl
def bdX12_isRight_0 : ByteArray := .mk #[42, 180, 0, 8, 27, 184, 0, 164, 16, 45, 96, 28, 96, 46, 4, 100, 62, 29, 2, 160, 0, 5, 3]
theorem wdX12_isRight_0 : LocW cX12_isRight 0 bdX12_isRight_0 := loc_of (by decide +kernel)
theorem adX12_isRight_0 : De bdX12_isRight_0 0 (.aload_n 0) 1 ∧ De bdX12_isRight_0 1 (.getfield 8) 3 ∧ De bdX12_isRight_0 4 (.iload_n 1) 1 ∧ De bdX12_isRight_0 5 (.invokestatic 164) 3 ∧ De bdX12_isRight_0 8 (.bipush 45) 2 ∧ De bdX12_isRight_0 10 (.iadd) 1 ∧ De bdX12_isRight_0 11 (.iload_n 2) 1 ∧ De bdX12_isRight_0 12 (.iadd) 1 ∧ De bdX12_isRight_0 13 (.iaload) 1 ∧ De bdX12_isRight_0 14 (.iconst 1) 1 ∧ De bdX12_isRight_0 15 (.isub) 1 ∧ De bdX12_isRight_0 16 (.istore_n 3) 1 ∧ De bdX12_isRight_0 17 (.iload_n 3) 1 ∧ De bdX12_isRight_0 18 (.iconst (-1)) 1 ∧ De bdX12_isRight_0 19 (.if_icmp .ne 5) 3 ∧ De bdX12_isRight_0 22 (.iconst 0) 1 := by decide +kernel
theorem dX12_isRight_0 : decode cX12_isRight 0 = .ok (.aload_n 0, 1) := dAt wdX12_isRight_0 adX12_isRight_0.1 rfl
theorem dX12_isRight_1 : decode cX12_isRight 1 = .ok (.getfield 8, 3) := dAt wdX12_isRight_0 adX12_isRight_0.2.1 rfl
theorem dX12_isRight_4 : decode cX12_isRight 4 = .ok (.iload_n 1, 1) := dAt wdX12_isRight_0 adX12_isRight_0.2.2.1 rfl
theorem dX12_isRight_5 : decode cX12_isRight 5 = .ok (.invokestatic 164, 3) := dAt wdX12_isRight_0 adX12_isRight_0.2.2.2.1 rfl
theorem dX12_isRight_8 : decode cX12_isRight 8 = .ok (.bipush 45, 2) := dAt wdX12_isRight_0 adX12_isRight_0.2.2.2.2.1 rfl
theorem dX12_isRight_10 : decode cX12_isRight 10 = .ok (.iadd, 1) := dAt wdX12_isRight_0 adX12_isRight_0.2.2.2.2.2.1 rfl
theorem dX12_isRight_11 : decode cX12_isRight 11 = .ok (.iload_n 2, 1) := dAt wdX12_isRight_0 adX12_isRight_0.2.2.2.2.2.2.1 rfl
theorem dX12_isRight_12 : decode cX12_isRight 12 = .ok (.iadd, 1) := dAt wdX12_isRight_0 adX12_isRight_0.2.2.2.2.2.2.2.1 rfl
theorem dX12_isRight_13 : decode cX12_isRight 13 = .ok (.iaload, 1) := dAt wdX12_isRight_0 adX12_isRight_0.2.2.2.2.2.2.2.2.1 rfl
theorem dX12_isRight_14 : decode cX12_isRight 14 = .ok (.iconst 1, 1) := dAt wdX12_isRight_0 adX12_isRight_0.2.2.2.2.2.2.2.2.2.1 rfl
theorem dX12_isRight_15 : decode cX12_isRight 15 = .ok (.isub, 1) := dAt wdX12_isRight_0 adX12_isRight_0.2.2.2.2.2.2.2.2.2.2.1 rfl
theorem dX12_isRight_16 : decode cX12_isRight 16 = .ok (.istore_n 3, 1) := dAt wdX12_isRight_0 adX12_isRight_0.2.2.2.2.2.2.2.2.2.2.2.1 rfl
theorem dX12_isRight_17 : decode cX12_isRight 17 = .ok (.iload_n 3, 1) := dAt wdX12_isRight_0 adX12_isRight_0.2.2.2.2.2.2.2.2.2.2.2.2.1 rfl
theorem dX12_isRight_18 : decode cX12_isRight 18 = .ok (.iconst (-1), 1) := dAt wdX12_isRight_0 adX12_isRight_0.2.2.2.2.2.2.2.2.2.2.2.2.2.1 rfl
theorem dX12_isRight_19 : decode cX12_isRight 19 = .ok (.if_icmp .ne 5, 3) := dAt wdX12_isRight_0 adX12_isRight_0.2.2.2.2.2.2.2.2.2.2.2.2.2.2.1 rfl
theorem dX12_isRight_22 : decode cX12_isRight 22 = .ok (.iconst 0, 1) := dAt wdX12_isRight_0 adX12_isRight_0.2.2.2.2.2.2.2.2.2.2.2.2.2.2.2 rfl
def bdX12_isRight_23 : ByteArray := .mk #[172, 29, 184, 1, 86, 54, 4, 42, 27, 28, 182, 1, 101, 42, 180, 0, 8, 21, 4, 16, 9, 96, 46, 42, 180, 1, 95]
theorem wdX12_isRight_23 : LocW cX12_isRight 23 bdX12_isRight_23 := loc_of (by decide +kernel)
theorem adX12_isRight_23 : De bdX12_isRight_23 0 (.ireturn) 1 ∧ De bdX12_isRight_23 1 (.iload_n 3) 1 ∧ De bdX12_isRight_23 2 (.invokestatic 342) 3 ∧ De bdX12_isRight_23 5 (.istore 4) 2 ∧ De bdX12_isRight_23 7 (.aload_n 0) 1 ∧ De bdX12_isRight_23 8 (.iload_n 1) 1 ∧ De bdX12_isRight_23 9 (.iload_n 2) 1 ∧ De bdX12_isRight_23 10 (.invokevirtual 357) 3 ∧ De bdX12_isRight_23 13 (.aload_n 0) 1 ∧ De bdX12_isRight_23 14 (.getfield 8) 3 ∧ De bdX12_isRight_23 17 (.iload 4) 2 ∧ De bdX12_isRight_23 19 (.bipush 9) 2 ∧ De bdX12_isRight_23 21 (.iadd) 1 ∧ De bdX12_isRight_23 22 (.iaload) 1 ∧ De bdX12_isRight_23 23 (.aload_n 0) 1 ∧ De bdX12_isRight_23 24 (.getfield 351) 3 := by decide +kernel
theorem dX12_isRight_23 : decode cX12_isRight 23 = .ok (.ireturn, 1) := dAt wdX12_isRight_23 adX12_isRight_23.1 rfl
theorem dX12_isRight_24 : decode cX12_isRight 24 = .ok (.iload_n 3, 1) := dAt wdX12_isRight_23 adX12_isRight_23.2.1 rfl
theorem dX12_isRight_25 : decode cX12_isRight 25 = .ok (.invokestatic 342, 3) := dAt wdX12_isRight_23 adX12_isRight_23.2.2.1 rfl
theorem dX12_isRight_28 : decode cX12_isRight 28 = .ok (.istore 4, 2) := dAt wdX12_isRight_23 adX12_isRight_23.2.2.2.1 rfl
theorem dX12_isRight_30 : decode cX12_isRight 30 = .ok (.aload_n 0, 1) := dAt wdX12_isRight_23 adX12_isRight_23.2.2.2.2.1 rfl
theorem dX12_isRight_31 : decode cX12_isRight 31 = .ok (.iload_n 1, 1) := dAt wdX12_isRight_23 adX12_isRight_23.2.2.2.2.2.1 rfl
theorem dX12_isRight_32 : decode cX12_isRight 32 = .ok (.iload_n 2, 1) := dAt wdX12_isRight_23 adX12_isRight_23.2.2.2.2.2.2.1 rfl
theorem dX12_isRight_33 : decode cX12_isRight 33 = .ok (.invokevirtual 357, 3) := dAt wdX12_isRight_23 adX12_isRight_23.2.2.2.2.2.2.2.1 rfl
theorem dX12_isRight_36 : decode cX12_isRight 36 = .ok (.aload_n 0, 1) := dAt wdX12_isRight_23 adX12_isRight_23.2.2.2.2.2.2.2.2.1 rfl
theorem dX12_isRight_37 : decode cX12_isRight 37 = .ok (.getfield 8, 3) := dAt wdX12_isRight_23 adX12_isRight_23.2.2.2.2.2.2.2.2.2.1 rfl
theorem dX12_isRight_40 : decode cX12_isRight 40 = .ok (.iload 4, 2) := dAt wdX12_isRight_23 adX12_isRight_23.2.2.2.2.2.2.2.2.2.2.1 rfl
theorem dX12_isRight_42 : decode cX12_isRight 42 = .ok (.bipush 9, 2) := dAt wdX12_isRight_23 adX12_isRight_23.2.2.2.2.2.2.2.2.2.2.2.1 rfl
theorem dX12_isRight_44 : decode cX12_isRight 44 = .ok (.iadd, 1) := dAt wdX12_isRight_23 adX12_isRight_23.2.2.2.2.2.2.2.2.2.2.2.2.1 rfl
theorem dX12_isRight_45 : decode cX12_isRight 45 = .ok (.iaload, 1) := dAt wdX12_isRight_23 adX12_isRight_23.2.2.2.2.2.2.2.2.2.2.2.2.2.1 rfl
theorem dX12_isRight_46 : decode cX12_isRight 46 = .ok (.aload_n 0, 1) := dAt wdX12_isRight_23 adX12_isRight_23.2.2.2.2.2.2.2.2.2.2.2.2.2.2.1 rfl
theorem dX12_isRight_47 : decode cX12_isRight 47 = .ok (.getfield 351, 3) := dAt wdX12_isRight_23 adX12_isRight_23.2.2.2.2.2.2.2.2.2.2.2.2.2.2.2 rfl
def bdX12_isRight_50 : ByteArray := .mk #[160, 0, 40, 42, 180, 0, 8, 16, 70, 42, 180, 0, 8, 21, 4, 3, 96, 46, 8, 108, 96, 46, 42, 180, 0, 8]
theorem wdX12_isRight_50 : LocW cX12_isRight 50 bdX12_isRight_50 := loc_of (by decide +kernel)
theorem adX12_isRight_50 : De bdX12_isRight_50 0 (.if_icmp .ne 40) 3 ∧ De bdX12_isRight_50 3 (.aload_n 0) 1 ∧ De bdX12_isRight_50 4 (.getfield 8) 3 ∧ De bdX12_isRight_50 7 (.bipush 70) 2 ∧ De bdX12_isRight_50 9 (.aload_n 0) 1 ∧ De bdX12_isRight_50 10 (.getfield 8) 3 ∧ De bdX12_isRight_50 13 (.iload 4) 2 ∧ De bdX12_isRight_50 15 (.iconst 0) 1 ∧ De bdX12_isRight_50 16 (.iadd) 1 ∧ De bdX12_isRight_50 17 (.iaload) 1 ∧ De bdX12_isRight_50 18 (.iconst 5) 1 ∧ De bdX12_isRight_50 19 (.idiv) 1 ∧ De bdX12_isRight_50 20 (.iadd) 1 ∧ De bdX12_isRight_50 21 (.iaload) 1 ∧ De bdX12_isRight_50 22 (.aload_n 0) 1 ∧ De bdX12_isRight_50 23 (.getfield 8) 3 := by decide +kernel
theorem dX12_isRight_50 : decode cX12_isRight 50 = .ok (.if_icmp .ne 40, 3) := dAt wdX12_isRight_50 adX12_isRight_50.1 rfl
theorem dX12_isRight_53 : decode cX12_isRight 53 = .ok (.aload_n 0, 1) := dAt wdX12_isRight_50 adX12_isRight_50.2.1 rfl
theorem dX12_isRight_54 : decode cX12_isRight 54 = .ok (.getfield 8, 3) := dAt wdX12_isRight_50 adX12_isRight_50.2.2.1 rfl
theorem dX12_isRight_57 : decode cX12_isRight 57 = .ok (.bipush 70, 2) := dAt wdX12_isRight_50 adX12_isRight_50.2.2.2.1 rfl
theorem dX12_isRight_59 : decode cX12_isRight 59 = .ok (.aload_n 0, 1) := dAt wdX12_isRight_50 adX12_isRight_50.2.2.2.2.1 rfl
theorem dX12_isRight_60 : decode cX12_isRight 60 = .ok (.getfield 8, 3) := dAt wdX12_isRight_50 adX12_isRight_50.2.2.2.2.2.1 rfl
theorem dX12_isRight_63 : decode cX12_isRight 63 = .ok (.iload 4, 2) := dAt wdX12_isRight_50 adX12_isRight_50.2.2.2.2.2.2.1 rfl
theorem dX12_isRight_65 : decode cX12_isRight 65 = .ok (.iconst 0, 1) := dAt wdX12_isRight_50 adX12_isRight_50.2.2.2.2.2.2.2.1 rfl
theorem dX12_isRight_66 : decode cX12_isRight 66 = .ok (.iadd, 1) := dAt wdX12_isRight_50 adX12_isRight_50.2.2.2.2.2.2.2.2.1 rfl
theorem dX12_isRight_67 : decode cX12_isRight 67 = .ok (.iaload, 1) := dAt wdX12_isRight_50 adX12_isRight_50.2.2.2.2.2.2.2.2.2.1 rfl
theorem dX12_isRight_68 : decode cX12_isRight 68 = .ok (.iconst 5, 1) := dAt wdX12_isRight_50 adX12_isRight_50.2.2.2.2.2.2.2.2.2.2.1 rfl
theorem dX12_isRight_69 : decode cX12_isRight 69 = .ok (.idiv, 1) := dAt wdX12_isRight_50 adX12_isRight_50.2.2.2.2.2.2.2.2.2.2.2.1 rfl
theorem dX12_isRight_70 : decode cX12_isRight 70 = .ok (.iadd, 1) := dAt wdX12_isRight_50 adX12_isRight_50.2.2.2.2.2.2.2.2.2.2.2.2.1 rfl
theorem dX12_isRight_71 : decode cX12_isRight 71 = .ok (.iaload, 1) := dAt wdX12_isRight_50 adX12_isRight_50.2.2.2.2.2.2.2.2.2.2.2.2.2.1 rfl
theorem dX12_isRight_72 : decode cX12_isRight 72 = .ok (.aload_n 0, 1) := dAt wdX12_isRight_50 adX12_isRight_50.2.2.2.2.2.2.2.2.2.2.2.2.2.2.1 rfl
theorem dX12_isRight_73 : decode cX12_isRight 73 = .ok (.getfield 8, 3) := dAt wdX12_isRight_50 adX12_isRight_50.2.2.2.2.2.2.2.2.2.2.2.2.2.2.2 rfl
def bdX12_isRight_76 : ByteArray := .mk #[16, 70, 27, 8, 108, 96, 46, 160, 0, 7, 4, 167, 0, 4, 3, 54, 5, 3, 54, 6, 21, 6, 42, 180, 1, 95]
theorem wdX12_isRight_76 : LocW cX12_isRight 76 bdX12_isRight_76 := loc_of (by decide +kernel)
theorem adX12_isRight_76 : De bdX12_isRight_76 0 (.bipush 70) 2 ∧ De bdX12_isRight_76 2 (.iload_n 1) 1 ∧ De bdX12_isRight_76 3 (.iconst 5) 1 ∧ De bdX12_isRight_76 4 (.idiv) 1 ∧ De bdX12_isRight_76 5 (.iadd) 1 ∧ De bdX12_isRight_76 6 (.iaload) 1 ∧ De bdX12_isRight_76 7 (.if_icmp .ne 7) 3 ∧ De bdX12_isRight_76 10 (.iconst 1) 1 ∧ De bdX12_isRight_76 11 (.goto 4) 3 ∧ De bdX12_isRight_76 14 (.iconst 0) 1 ∧ De bdX12_isRight_76 15 (.istore 5) 2 ∧ De bdX12_isRight_76 17 (.iconst 0) 1 ∧ De bdX12_isRight_76 18 (.istore 6) 2 ∧ De bdX12_isRight_76 20 (.iload 6) 2 ∧ De bdX12_isRight_76 22 (.aload_n 0) 1 ∧ De bdX12_isRight_76 23 (.getfield 351) 3 := by decide +kernel
theorem dX12_isRight_76 : decode cX12_isRight 76 = .ok (.bipush 70, 2) := dAt wdX12_isRight_76 adX12_isRight_76.1 rfl
theorem dX12_isRight_78 : decode cX12_isRight 78 = .ok (.iload_n 1, 1) := dAt wdX12_isRight_76 adX12_isRight_76.2.1 rfl
theorem dX12_isRight_79 : decode cX12_isRight 79 = .ok (.iconst 5, 1) := dAt wdX12_isRight_76 adX12_isRight_76.2.2.1 rfl
theorem dX12_isRight_80 : decode cX12_isRight 80 = .ok (.idiv, 1) := dAt wdX12_isRight_76 adX12_isRight_76.2.2.2.1 rfl
theorem dX12_isRight_81 : decode cX12_isRight 81 = .ok (.iadd, 1) := dAt wdX12_isRight_76 adX12_isRight_76.2.2.2.2.1 rfl
theorem dX12_isRight_82 : decode cX12_isRight 82 = .ok (.iaload, 1) := dAt wdX12_isRight_76 adX12_isRight_76.2.2.2.2.2.1 rfl
theorem dX12_isRight_83 : decode cX12_isRight 83 = .ok (.if_icmp .ne 7, 3) := dAt wdX12_isRight_76 adX12_isRight_76.2.2.2.2.2.2.1 rfl
theorem dX12_isRight_86 : decode cX12_isRight 86 = .ok (.iconst 1, 1) := dAt wdX12_isRight_76 adX12_isRight_76.2.2.2.2.2.2.2.1 rfl
theorem dX12_isRight_87 : decode cX12_isRight 87 = .ok (.goto 4, 3) := dAt wdX12_isRight_76 adX12_isRight_76.2.2.2.2.2.2.2.2.1 rfl
theorem dX12_isRight_90 : decode cX12_isRight 90 = .ok (.iconst 0, 1) := dAt wdX12_isRight_76 adX12_isRight_76.2.2.2.2.2.2.2.2.2.1 rfl
theorem dX12_isRight_91 : decode cX12_isRight 91 = .ok (.istore 5, 2) := dAt wdX12_isRight_76 adX12_isRight_76.2.2.2.2.2.2.2.2.2.2.1 rfl
theorem dX12_isRight_93 : decode cX12_isRight 93 = .ok (.iconst 0, 1) := dAt wdX12_isRight_76 adX12_isRight_76.2.2.2.2.2.2.2.2.2.2.2.1 rfl
theorem dX12_isRight_94 : decode cX12_isRight 94 = .ok (.istore 6, 2) := dAt wdX12_isRight_76 adX12_isRight_76.2.2.2.2.2.2.2.2.2.2.2.2.1 rfl
theorem dX12_isRight_96 : decode cX12_isRight 96 = .ok (.iload 6, 2) := dAt wdX12_isRight_76 adX12_isRight_76.2.2.2.2.2.2.2.2.2.2.2.2.2.1 rfl
theorem dX12_isRight_98 : decode cX12_isRight 98 = .ok (.aload_n 0, 1) := dAt wdX12_isRight_76 adX12_isRight_76.2.2.2.2.2.2.2.2.2.2.2.2.2.2.1 rfl
theorem dX12_isRight_99 : decode cX12_isRight 99 = .ok (.getfield 351, 3) := dAt wdX12_isRight_76 adX12_isRight_76.2.2.2.2.2.2.2.2.2.2.2.2.2.2.2 rfl
def bdX12_isRight_102 : ByteArray := .mk #[162, 0, 45, 21, 5, 153, 0, 40, 42, 180, 0, 8, 21, 4, 17, 1, 176, 96, 21, 6, 96, 46, 42, 180, 0, 64, 21, 6, 46, 160, 0, 7]
theorem wdX12_isRight_102 : LocW cX12_isRight 102 bdX12_isRight_102 := loc_of (by decide +kernel)
theorem adX12_isRight_102 : De bdX12_isRight_102 0 (.if_icmp .ge 45) 3 ∧ De bdX12_isRight_102 3 (.iload 5) 2 ∧ De bdX12_isRight_102 5 (.ifCond .eq 40) 3 ∧ De bdX12_isRight_102 8 (.aload_n 0) 1 ∧ De bdX12_isRight_102 9 (.getfield 8) 3 ∧ De bdX12_isRight_102 12 (.iload 4) 2 ∧ De bdX12_isRight_102 14 (.sipush 432) 3 ∧ De bdX12_isRight_102 17 (.iadd) 1 ∧ De bdX12_isRight_102 18 (.iload 6) 2 ∧ De bdX12_isRight_102 20 (.iadd) 1 ∧ De bdX12_isRight_102 21 (.iaload) 1 ∧ De bdX12_isRight_102 22 (.aload_n 0) 1 ∧ De bdX12_isRight_102 23 (.getfield 64) 3 ∧ De bdX12_isRight_102 26 (.iload 6) 2 ∧ De bdX12_isRight_102 28 (.iaload) 1 ∧ De bdX12_isRight_102 29 (.if_icmp .ne 7) 3 := by decide +kernel
theorem dX12_isRight_102 : decode cX12_isRight 102 = .ok (.if_icmp .ge 45, 3) := dAt wdX12_isRight_102 adX12_isRight_102.1 rfl
theorem dX12_isRight_105 : decode cX12_isRight 105 = .ok (.iload 5, 2) := dAt wdX12_isRight_102 adX12_isRight_102.2.1 rfl
theorem dX12_isRight_107 : decode cX12_isRight 107 = .ok (.ifCond .eq 40, 3) := dAt wdX12_isRight_102 adX12_isRight_102.2.2.1 rfl
theorem dX12_isRight_110 : decode cX12_isRight 110 = .ok (.aload_n 0, 1) := dAt wdX12_isRight_102 adX12_isRight_102.2.2.2.1 rfl
theorem dX12_isRight_111 : decode cX12_isRight 111 = .ok (.getfield 8, 3) := dAt wdX12_isRight_102 adX12_isRight_102.2.2.2.2.1 rfl
theorem dX12_isRight_114 : decode cX12_isRight 114 = .ok (.iload 4, 2) := dAt wdX12_isRight_102 adX12_isRight_102.2.2.2.2.2.1 rfl
theorem dX12_isRight_116 : decode cX12_isRight 116 = .ok (.sipush 432, 3) := dAt wdX12_isRight_102 adX12_isRight_102.2.2.2.2.2.2.1 rfl
theorem dX12_isRight_119 : decode cX12_isRight 119 = .ok (.iadd, 1) := dAt wdX12_isRight_102 adX12_isRight_102.2.2.2.2.2.2.2.1 rfl
theorem dX12_isRight_120 : decode cX12_isRight 120 = .ok (.iload 6, 2) := dAt wdX12_isRight_102 adX12_isRight_102.2.2.2.2.2.2.2.2.1 rfl
theorem dX12_isRight_122 : decode cX12_isRight 122 = .ok (.iadd, 1) := dAt wdX12_isRight_102 adX12_isRight_102.2.2.2.2.2.2.2.2.2.1 rfl
theorem dX12_isRight_123 : decode cX12_isRight 123 = .ok (.iaload, 1) := dAt wdX12_isRight_102 adX12_isRight_102.2.2.2.2.2.2.2.2.2.2.1 rfl
theorem dX12_isRight_124 : decode cX12_isRight 124 = .ok (.aload_n 0, 1) := dAt wdX12_isRight_102 adX12_isRight_102.2.2.2.2.2.2.2.2.2.2.2.1 rfl
theorem dX12_isRight_125 : decode cX12_isRight 125 = .ok (.getfield 64, 3) := dAt wdX12_isRight_102 adX12_isRight_102.2.2.2.2.2.2.2.2.2.2.2.2.1 rfl
theorem dX12_isRight_128 : decode cX12_isRight 128 = .ok (.iload 6, 2) := dAt wdX12_isRight_102 adX12_isRight_102.2.2.2.2.2.2.2.2.2.2.2.2.2.1 rfl
theorem dX12_isRight_130 : decode cX12_isRight 130 = .ok (.iaload, 1) := dAt wdX12_isRight_102 adX12_isRight_102.2.2.2.2.2.2.2.2.2.2.2.2.2.2.1 rfl
theorem dX12_isRight_131 : decode cX12_isRight 131 = .ok (.if_icmp .ne 7, 3) := dAt wdX12_isRight_102 adX12_isRight_102.2.2.2.2.2.2.2.2.2.2.2.2.2.2.2 rfl
def bdX12_isRight_134 : ByteArray := .mk #[4, 167, 0, 4, 3, 54, 5, 132, 6, 1, 167, 255, 208, 21, 5, 172]
theorem wdX12_isRight_134 : LocW cX12_isRight 134 bdX12_isRight_134 := loc_of (by decide +kernel)
theorem adX12_isRight_134 : De bdX12_isRight_134 0 (.iconst 1) 1 ∧ De bdX12_isRight_134 1 (.goto 4) 3 ∧ De bdX12_isRight_134 4 (.iconst 0) 1 ∧ De bdX12_isRight_134 5 (.istore 5) 2 ∧ De bdX12_isRight_134 7 (.iinc 6 1) 3 ∧ De bdX12_isRight_134 10 (.goto (-48)) 3 ∧ De bdX12_isRight_134 13 (.iload 5) 2 ∧ De bdX12_isRight_134 15 (.ireturn) 1 := by decide +kernel
theorem dX12_isRight_134 : decode cX12_isRight 134 = .ok (.iconst 1, 1) := dAt wdX12_isRight_134 adX12_isRight_134.1 rfl
theorem dX12_isRight_135 : decode cX12_isRight 135 = .ok (.goto 4, 3) := dAt wdX12_isRight_134 adX12_isRight_134.2.1 rfl
theorem dX12_isRight_138 : decode cX12_isRight 138 = .ok (.iconst 0, 1) := dAt wdX12_isRight_134 adX12_isRight_134.2.2.1 rfl
theorem dX12_isRight_139 : decode cX12_isRight 139 = .ok (.istore 5, 2) := dAt wdX12_isRight_134 adX12_isRight_134.2.2.2.1 rfl
theorem dX12_isRight_141 : decode cX12_isRight 141 = .ok (.iinc 6 1, 3) := dAt wdX12_isRight_134 adX12_isRight_134.2.2.2.2.1 rfl
theorem dX12_isRight_144 : decode cX12_isRight 144 = .ok (.goto (-48), 3) := dAt wdX12_isRight_134 adX12_isRight_134.2.2.2.2.2.1 rfl
theorem dX12_isRight_147 : decode cX12_isRight 147 = .ok (.iload 5, 2) := dAt wdX12_isRight_134 adX12_isRight_134.2.2.2.2.2.2.1 rfl
theorem dX12_isRight_149 : decode cX12_isRight 149 = .ok (.ireturn, 1) := dAt wdX12_isRight_134 adX12_isRight_134.2.2.2.2.2.2.2 rfl
def bdX12_machine_0 : ByteArray := .mk #[42, 27, 3, 16, 40, 184, 0, 157, 153, 0, 13, 28, 3, 16, 9, 184, 0, 157, 154, 0, 7, 4, 167, 0, 18, 42, 180, 0, 8, 6]
theorem wdX12_machine_0 : LocW cX12_machine 0 bdX12_machine_0 := loc_of (by decide +kernel)
theorem adX12_machine_0 : De bdX12_machine_0 0 (.aload_n 0) 1 ∧ De bdX12_machine_0 1 (.iload_n 1) 1 ∧ De bdX12_machine_0 2 (.iconst 0) 1 ∧ De bdX12_machine_0 3 (.bipush 40) 2 ∧ De bdX12_machine_0 5 (.invokestatic 157) 3 ∧ De bdX12_machine_0 8 (.ifCond .eq 13) 3 ∧ De bdX12_machine_0 11 (.iload_n 2) 1 ∧ De bdX12_machine_0 12 (.iconst 0) 1 ∧ De bdX12_machine_0 13 (.bipush 9) 2 ∧ De bdX12_machine_0 15 (.invokestatic 157) 3 ∧ De bdX12_machine_0 18 (.ifCond .ne 7) 3 ∧ De bdX12_machine_0 21 (.iconst 1) 1 ∧ De bdX12_machine_0 22 (.goto 18) 3 ∧ De bdX12_machine_0 25 (.aload_n 0) 1 ∧ De bdX12_machine_0 26 (.getfield 8) 3 ∧ De bdX12_machine_0 29 (.iconst 3) 1 := by decide +kernel
theorem dX12_machine_0 : decode cX12_machine 0 = .ok (.aload_n 0, 1) := dAt wdX12_machine_0 adX12_machine_0.1 rfl
theorem dX12_machine_1 : decode cX12_machine 1 = .ok (.iload_n 1, 1) := dAt wdX12_machine_0 adX12_machine_0.2.1 rfl
theorem dX12_machine_2 : decode cX12_machine 2 = .ok (.iconst 0, 1) := dAt wdX12_machine_0 adX12_machine_0.2.2.1 rfl
theorem dX12_machine_3 : decode cX12_machine 3 = .ok (.bipush 40, 2) := dAt wdX12_machine_0 adX12_machine_0.2.2.2.1 rfl
theorem dX12_machine_5 : decode cX12_machine 5 = .ok (.invokestatic 157, 3) := dAt wdX12_machine_0 adX12_machine_0.2.2.2.2.1 rfl
theorem dX12_machine_8 : decode cX12_machine 8 = .ok (.ifCond .eq 13, 3) := dAt wdX12_machine_0 adX12_machine_0.2.2.2.2.2.1 rfl
theorem dX12_machine_11 : decode cX12_machine 11 = .ok (.iload_n 2, 1) := dAt wdX12_machine_0 adX12_machine_0.2.2.2.2.2.2.1 rfl
theorem dX12_machine_12 : decode cX12_machine 12 = .ok (.iconst 0, 1) := dAt wdX12_machine_0 adX12_machine_0.2.2.2.2.2.2.2.1 rfl
theorem dX12_machine_13 : decode cX12_machine 13 = .ok (.bipush 9, 2) := dAt wdX12_machine_0 adX12_machine_0.2.2.2.2.2.2.2.2.1 rfl
theorem dX12_machine_15 : decode cX12_machine 15 = .ok (.invokestatic 157, 3) := dAt wdX12_machine_0 adX12_machine_0.2.2.2.2.2.2.2.2.2.1 rfl
theorem dX12_machine_18 : decode cX12_machine 18 = .ok (.ifCond .ne 7, 3) := dAt wdX12_machine_0 adX12_machine_0.2.2.2.2.2.2.2.2.2.2.1 rfl
theorem dX12_machine_21 : decode cX12_machine 21 = .ok (.iconst 1, 1) := dAt wdX12_machine_0 adX12_machine_0.2.2.2.2.2.2.2.2.2.2.2.1 rfl
theorem dX12_machine_22 : decode cX12_machine 22 = .ok (.goto 18, 3) := dAt wdX12_machine_0 adX12_machine_0.2.2.2.2.2.2.2.2.2.2.2.2.1 rfl
theorem dX12_machine_25 : decode cX12_machine 25 = .ok (.aload_n 0, 1) := dAt wdX12_machine_0 adX12_machine_0.2.2.2.2.2.2.2.2.2.2.2.2.2.1 rfl
theorem dX12_machine_26 : decode cX12_machine 26 = .ok (.getfield 8, 3) := dAt wdX12_machine_0 adX12_machine_0.2.2.2.2.2.2.2.2.2.2.2.2.2.2.1 rfl
theorem dX12_machine_29 : decode cX12_machine 29 = .ok (.iconst 3, 1) := dAt wdX12_machine_0 adX12_machine_0.2.2.2.2.2.2.2.2.2.2.2.2.2.2.2 rfl
def bdX12_machine_30 : ByteArray := .mk #[46, 7, 160, 0, 7, 5, 167, 0, 4, 3, 181, 0, 122, 42, 180, 0, 122, 158, 0, 5, 3, 172, 42, 180, 0, 8, 6, 46]
theorem wdX12_machine_30 : LocW cX12_machine 30 bdX12_machine_30 := loc_of (by decide +kernel)
theorem adX12_machine_30 : De bdX12_machine_30 0 (.iaload) 1 ∧ De bdX12_machine_30 1 (.iconst 4) 1 ∧ De bdX12_machine_30 2 (.if_icmp .ne 7) 3 ∧ De bdX12_machine_30 5 (.iconst 2) 1 ∧ De bdX12_machine_30 6 (.goto 4) 3 ∧ De bdX12_machine_30 9 (.iconst 0) 1 ∧ De bdX12_machine_30 10 (.putfield 122) 3 ∧ De bdX12_machine_30 13 (.aload_n 0) 1 ∧ De bdX12_machine_30 14 (.getfield 122) 3 ∧ De bdX12_machine_30 17 (.ifCond .le 5) 3 ∧ De bdX12_machine_30 20 (.iconst 0) 1 ∧ De bdX12_machine_30 21 (.ireturn) 1 ∧ De bdX12_machine_30 22 (.aload_n 0) 1 ∧ De bdX12_machine_30 23 (.getfield 8) 3 ∧ De bdX12_machine_30 26 (.iconst 3) 1 ∧ De bdX12_machine_30 27 (.iaload) 1 := by decide +kernel
theorem dX12_machine_30 : decode cX12_machine 30 = .ok (.iaload, 1) := dAt wdX12_machine_30 adX12_machine_30.1 rfl
theorem dX12_machine_31 : decode cX12_machine 31 = .ok (.iconst 4, 1) := dAt wdX12_machine_30 adX12_machine_30.2.1 rfl
theorem dX12_machine_32 : decode cX12_machine 32 = .ok (.if_icmp .ne 7, 3) := dAt wdX12_machine_30 adX12_machine_30.2.2.1 rfl
theorem dX12_machine_35 : decode cX12_machine 35 = .ok (.iconst 2, 1) := dAt wdX12_machine_30 adX12_machine_30.2.2.2.1 rfl
theorem dX12_machine_36 : decode cX12_machine 36 = .ok (.goto 4, 3) := dAt wdX12_machine_30 adX12_machine_30.2.2.2.2.1 rfl
theorem dX12_machine_39 : decode cX12_machine 39 = .ok (.iconst 0, 1) := dAt wdX12_machine_30 adX12_machine_30.2.2.2.2.2.1 rfl
theorem dX12_machine_40 : decode cX12_machine 40 = .ok (.putfield 122, 3) := dAt wdX12_machine_30 adX12_machine_30.2.2.2.2.2.2.1 rfl
theorem dX12_machine_43 : decode cX12_machine 43 = .ok (.aload_n 0, 1) := dAt wdX12_machine_30 adX12_machine_30.2.2.2.2.2.2.2.1 rfl
theorem dX12_machine_44 : decode cX12_machine 44 = .ok (.getfield 122, 3) := dAt wdX12_machine_30 adX12_machine_30.2.2.2.2.2.2.2.2.1 rfl
theorem dX12_machine_47 : decode cX12_machine 47 = .ok (.ifCond .le 5, 3) := dAt wdX12_machine_30 adX12_machine_30.2.2.2.2.2.2.2.2.2.1 rfl
theorem dX12_machine_50 : decode cX12_machine 50 = .ok (.iconst 0, 1) := dAt wdX12_machine_30 adX12_machine_30.2.2.2.2.2.2.2.2.2.2.1 rfl
theorem dX12_machine_51 : decode cX12_machine 51 = .ok (.ireturn, 1) := dAt wdX12_machine_30 adX12_machine_30.2.2.2.2.2.2.2.2.2.2.2.1 rfl
theorem dX12_machine_52 : decode cX12_machine 52 = .ok (.aload_n 0, 1) := dAt wdX12_machine_30 adX12_machine_30.2.2.2.2.2.2.2.2.2.2.2.2.1 rfl
theorem dX12_machine_53 : decode cX12_machine 53 = .ok (.getfield 8, 3) := dAt wdX12_machine_30 adX12_machine_30.2.2.2.2.2.2.2.2.2.2.2.2.2.1 rfl
theorem dX12_machine_56 : decode cX12_machine 56 = .ok (.iconst 3, 1) := dAt wdX12_machine_30 adX12_machine_30.2.2.2.2.2.2.2.2.2.2.2.2.2.2.1 rfl
theorem dX12_machine_57 : decode cX12_machine 57 = .ok (.iaload, 1) := dAt wdX12_machine_30 adX12_machine_30.2.2.2.2.2.2.2.2.2.2.2.2.2.2.2 rfl
def bdX12_machine_58 : ByteArray := .mk #[184, 1, 104, 62, 3, 54, 4, 21, 4, 16, 27, 162, 0, 19, 42, 180, 0, 8, 29, 21, 4, 96, 27, 79, 132, 4, 1, 167, 255, 236]
theorem wdX12_machine_58 : LocW cX12_machine 58 bdX12_machine_58 := loc_of (by decide +kernel)
theorem adX12_machine_58 : De bdX12_machine_58 0 (.invokestatic 360) 3 ∧ De bdX12_machine_58 3 (.istore_n 3) 1 ∧ De bdX12_machine_58 4 (.iconst 0) 1 ∧ De bdX12_machine_58 5 (.istore 4) 2 ∧ De bdX12_machine_58 7 (.iload 4) 2 ∧ De bdX12_machine_58 9 (.bipush 27) 2 ∧ De bdX12_machine_58 11 (.if_icmp .ge 19) 3 ∧ De bdX12_machine_58 14 (.aload_n 0) 1 ∧ De bdX12_machine_58 15 (.getfield 8) 3 ∧ De bdX12_machine_58 18 (.iload_n 3) 1 ∧ De bdX12_machine_58 19 (.iload 4) 2 ∧ De bdX12_machine_58 21 (.iadd) 1 ∧ De bdX12_machine_58 22 (.iload_n 1) 1 ∧ De bdX12_machine_58 23 (.iastore) 1 ∧ De bdX12_machine_58 24 (.iinc 4 1) 3 ∧ De bdX12_machine_58 27 (.goto (-20)) 3 := by decide +kernel
theorem dX12_machine_58 : decode cX12_machine 58 = .ok (.invokestatic 360, 3) := dAt wdX12_machine_58 adX12_machine_58.1 rfl
theorem dX12_machine_61 : decode cX12_machine 61 = .ok (.istore_n 3, 1) := dAt wdX12_machine_58 adX12_machine_58.2.1 rfl
theorem dX12_machine_62 : decode cX12_machine 62 = .ok (.iconst 0, 1) := dAt wdX12_machine_58 adX12_machine_58.2.2.1 rfl
theorem dX12_machine_63 : decode cX12_machine 63 = .ok (.istore 4, 2) := dAt wdX12_machine_58 adX12_machine_58.2.2.2.1 rfl
theorem dX12_machine_65 : decode cX12_machine 65 = .ok (.iload 4, 2) := dAt wdX12_machine_58 adX12_machine_58.2.2.2.2.1 rfl
theorem dX12_machine_67 : decode cX12_machine 67 = .ok (.bipush 27, 2) := dAt wdX12_machine_58 adX12_machine_58.2.2.2.2.2.1 rfl
theorem dX12_machine_69 : decode cX12_machine 69 = .ok (.if_icmp .ge 19, 3) := dAt wdX12_machine_58 adX12_machine_58.2.2.2.2.2.2.1 rfl
theorem dX12_machine_72 : decode cX12_machine 72 = .ok (.aload_n 0, 1) := dAt wdX12_machine_58 adX12_machine_58.2.2.2.2.2.2.2.1 rfl
theorem dX12_machine_73 : decode cX12_machine 73 = .ok (.getfield 8, 3) := dAt wdX12_machine_58 adX12_machine_58.2.2.2.2.2.2.2.2.1 rfl
theorem dX12_machine_76 : decode cX12_machine 76 = .ok (.iload_n 3, 1) := dAt wdX12_machine_58 adX12_machine_58.2.2.2.2.2.2.2.2.2.1 rfl
theorem dX12_machine_77 : decode cX12_machine 77 = .ok (.iload 4, 2) := dAt wdX12_machine_58 adX12_machine_58.2.2.2.2.2.2.2.2.2.2.1 rfl
theorem dX12_machine_79 : decode cX12_machine 79 = .ok (.iadd, 1) := dAt wdX12_machine_58 adX12_machine_58.2.2.2.2.2.2.2.2.2.2.2.1 rfl
theorem dX12_machine_80 : decode cX12_machine 80 = .ok (.iload_n 1, 1) := dAt wdX12_machine_58 adX12_machine_58.2.2.2.2.2.2.2.2.2.2.2.2.1 rfl
theorem dX12_machine_81 : decode cX12_machine 81 = .ok (.iastore, 1) := dAt wdX12_machine_58 adX12_machine_58.2.2.2.2.2.2.2.2.2.2.2.2.2.1 rfl
theorem dX12_machine_82 : decode cX12_machine 82 = .ok (.iinc 4 1, 3) := dAt wdX12_machine_58 adX12_machine_58.2.2.2.2.2.2.2.2.2.2.2.2.2.2.1 rfl
theorem dX12_machine_85 : decode cX12_machine 85 = .ok (.goto (-20), 3) := dAt wdX12_machine_58 adX12_machine_58.2.2.2.2.2.2.2.2.2.2.2.2.2.2.2 rfl
def bdX12_machine_88 : ByteArray := .mk #[42, 180, 0, 8, 29, 16, 27, 96, 28, 79, 42, 180, 0, 8, 6, 92, 46, 4, 96, 79, 42]
theorem wdX12_machine_88 : LocW cX12_machine 88 bdX12_machine_88 := loc_of (by decide +kernel)
theorem adX12_machine_88 : De bdX12_machine_88 0 (.aload_n 0) 1 ∧ De bdX12_machine_88 1 (.getfield 8) 3 ∧ De bdX12_machine_88 4 (.iload_n 3) 1 ∧ De bdX12_machine_88 5 (.bipush 27) 2 ∧ De bdX12_machine_88 7 (.iadd) 1 ∧ De bdX12_machine_88 8 (.iload_n 2) 1 ∧ De bdX12_machine_88 9 (.iastore) 1 ∧ De bdX12_machine_88 10 (.aload_n 0) 1 ∧ De bdX12_machine_88 11 (.getfield 8) 3 ∧ De bdX12_machine_88 14 (.iconst 3) 1 ∧ De bdX12_machine_88 15 (.dup2) 1 ∧ De bdX12_machine_88 16 (.iaload) 1 ∧ De bdX12_machine_88 17 (.iconst 1) 1 ∧ De bdX12_machine_88 18 (.iadd) 1 ∧ De bdX12_machine_88 19 (.iastore) 1 ∧ De bdX12_machine_88 20 (.aload_n 0) 1 := by decide +kernel
theorem dX12_machine_88 : decode cX12_machine 88 = .ok (.aload_n 0, 1) := dAt wdX12_machine_88 adX12_machine_88.1 rfl
theorem dX12_machine_89 : decode cX12_machine 89 = .ok (.getfield 8, 3) := dAt wdX12_machine_88 adX12_machine_88.2.1 rfl
theorem dX12_machine_92 : decode cX12_machine 92 = .ok (.iload_n 3, 1) := dAt wdX12_machine_88 adX12_machine_88.2.2.1 rfl
theorem dX12_machine_93 : decode cX12_machine 93 = .ok (.bipush 27, 2) := dAt wdX12_machine_88 adX12_machine_88.2.2.2.1 rfl
theorem dX12_machine_95 : decode cX12_machine 95 = .ok (.iadd, 1) := dAt wdX12_machine_88 adX12_machine_88.2.2.2.2.1 rfl
theorem dX12_machine_96 : decode cX12_machine 96 = .ok (.iload_n 2, 1) := dAt wdX12_machine_88 adX12_machine_88.2.2.2.2.2.1 rfl
theorem dX12_machine_97 : decode cX12_machine 97 = .ok (.iastore, 1) := dAt wdX12_machine_88 adX12_machine_88.2.2.2.2.2.2.1 rfl
theorem dX12_machine_98 : decode cX12_machine 98 = .ok (.aload_n 0, 1) := dAt wdX12_machine_88 adX12_machine_88.2.2.2.2.2.2.2.1 rfl
theorem dX12_machine_99 : decode cX12_machine 99 = .ok (.getfield 8, 3) := dAt wdX12_machine_88 adX12_machine_88.2.2.2.2.2.2.2.2.1 rfl
theorem dX12_machine_102 : decode cX12_machine 102 = .ok (.iconst 3, 1) := dAt wdX12_machine_88 adX12_machine_88.2.2.2.2.2.2.2.2.2.1 rfl
theorem dX12_machine_103 : decode cX12_machine 103 = .ok (.dup2, 1) := dAt wdX12_machine_88 adX12_machine_88.2.2.2.2.2.2.2.2.2.2.1 rfl
theorem dX12_machine_104 : decode cX12_machine 104 = .ok (.iaload, 1) := dAt wdX12_machine_88 adX12_machine_88.2.2.2.2.2.2.2.2.2.2.2.1 rfl
theorem dX12_machine_105 : decode cX12_machine 105 = .ok (.iconst 1, 1) := dAt wdX12_machine_88 adX12_machine_88.2.2.2.2.2.2.2.2.2.2.2.2.1 rfl
theorem dX12_machine_106 : decode cX12_machine 106 = .ok (.iadd, 1) := dAt wdX12_machine_88 adX12_machine_88.2.2.2.2.2.2.2.2.2.2.2.2.2.1 rfl
theorem dX12_machine_107 : decode cX12_machine 107 = .ok (.iastore, 1) := dAt wdX12_machine_88 adX12_machine_88.2.2.2.2.2.2.2.2.2.2.2.2.2.2.1 rfl
theorem dX12_machine_108 : decode cX12_machine 108 = .ok (.aload_n 0, 1) := dAt wdX12_machine_88 adX12_machine_88.2.2.2.2.2.2.2.2.2.2.2.2.2.2.2 rfl
def bdX12_machine_109 : ByteArray := .mk #[180, 0, 8, 6, 46, 4, 100, 172]
theorem wdX12_machine_109 : LocW cX12_machine 109 bdX12_machine_109 := loc_of (by decide +kernel)
theorem adX12_machine_109 : De bdX12_machine_109 0 (.getfield 8) 3 ∧ De bdX12_machine_109 3 (.iconst 3) 1 ∧ De bdX12_machine_109 4 (.iaload) 1 ∧ De bdX12_machine_109 5 (.iconst 1) 1 ∧ De bdX12_machine_109 6 (.isub) 1 ∧ De bdX12_machine_109 7 (.ireturn) 1 := by decide +kernel
theorem dX12_machine_109 : decode cX12_machine 109 = .ok (.getfield 8, 3) := dAt wdX12_machine_109 adX12_machine_109.1 rfl
theorem dX12_machine_112 : decode cX12_machine 112 = .ok (.iconst 3, 1) := dAt wdX12_machine_109 adX12_machine_109.2.1 rfl
theorem dX12_machine_113 : decode cX12_machine 113 = .ok (.iaload, 1) := dAt wdX12_machine_109 adX12_machine_109.2.2.1 rfl
theorem dX12_machine_114 : decode cX12_machine 114 = .ok (.iconst 1, 1) := dAt wdX12_machine_109 adX12_machine_109.2.2.2.1 rfl
theorem dX12_machine_115 : decode cX12_machine 115 = .ok (.isub, 1) := dAt wdX12_machine_109 adX12_machine_109.2.2.2.2.1 rfl
theorem dX12_machine_116 : decode cX12_machine 116 = .ok (.ireturn, 1) := dAt wdX12_machine_109 adX12_machine_109.2.2.2.2.2 rfl
def bdX12_there_0 : ByteArray := .mk #[42, 180, 0, 8, 27, 184, 1, 104, 28, 96, 46, 54, 4, 29, 42, 180, 0, 8, 27, 184, 1, 104, 16, 27, 96, 46]
theorem wdX12_there_0 : LocW cX12_there 0 bdX12_there_0 := loc_of (by decide +kernel)
theorem adX12_there_0 : De bdX12_there_0 0 (.aload_n 0) 1 ∧ De bdX12_there_0 1 (.getfield 8) 3 ∧ De bdX12_there_0 4 (.iload_n 1) 1 ∧ De bdX12_there_0 5 (.invokestatic 360) 3 ∧ De bdX12_there_0 8 (.iload_n 2) 1 ∧ De bdX12_there_0 9 (.iadd) 1 ∧ De bdX12_there_0 10 (.iaload) 1 ∧ De bdX12_there_0 11 (.istore 4) 2 ∧ De bdX12_there_0 13 (.iload_n 3) 1 ∧ De bdX12_there_0 14 (.aload_n 0) 1 ∧ De bdX12_there_0 15 (.getfield 8) 3 ∧ De bdX12_there_0 18 (.iload_n 1) 1 ∧ De bdX12_there_0 19 (.invokestatic 360) 3 ∧ De bdX12_there_0 22 (.bipush 27) 2 ∧ De bdX12_there_0 24 (.iadd) 1 ∧ De bdX12_there_0 25 (.iaload) 1 := by decide +kernel
theorem dX12_there_0 : decode cX12_there 0 = .ok (.aload_n 0, 1) := dAt wdX12_there_0 adX12_there_0.1 rfl
theorem dX12_there_1 : decode cX12_there 1 = .ok (.getfield 8, 3) := dAt wdX12_there_0 adX12_there_0.2.1 rfl
theorem dX12_there_4 : decode cX12_there 4 = .ok (.iload_n 1, 1) := dAt wdX12_there_0 adX12_there_0.2.2.1 rfl
theorem dX12_there_5 : decode cX12_there 5 = .ok (.invokestatic 360, 3) := dAt wdX12_there_0 adX12_there_0.2.2.2.1 rfl
theorem dX12_there_8 : decode cX12_there 8 = .ok (.iload_n 2, 1) := dAt wdX12_there_0 adX12_there_0.2.2.2.2.1 rfl
theorem dX12_there_9 : decode cX12_there 9 = .ok (.iadd, 1) := dAt wdX12_there_0 adX12_there_0.2.2.2.2.2.1 rfl
theorem dX12_there_10 : decode cX12_there 10 = .ok (.iaload, 1) := dAt wdX12_there_0 adX12_there_0.2.2.2.2.2.2.1 rfl
theorem dX12_there_11 : decode cX12_there 11 = .ok (.istore 4, 2) := dAt wdX12_there_0 adX12_there_0.2.2.2.2.2.2.2.1 rfl
theorem dX12_there_13 : decode cX12_there 13 = .ok (.iload_n 3, 1) := dAt wdX12_there_0 adX12_there_0.2.2.2.2.2.2.2.2.1 rfl
theorem dX12_there_14 : decode cX12_there 14 = .ok (.aload_n 0, 1) := dAt wdX12_there_0 adX12_there_0.2.2.2.2.2.2.2.2.2.1 rfl
theorem dX12_there_15 : decode cX12_there 15 = .ok (.getfield 8, 3) := dAt wdX12_there_0 adX12_there_0.2.2.2.2.2.2.2.2.2.2.1 rfl
theorem dX12_there_18 : decode cX12_there 18 = .ok (.iload_n 1, 1) := dAt wdX12_there_0 adX12_there_0.2.2.2.2.2.2.2.2.2.2.2.1 rfl
theorem dX12_there_19 : decode cX12_there 19 = .ok (.invokestatic 360, 3) := dAt wdX12_there_0 adX12_there_0.2.2.2.2.2.2.2.2.2.2.2.2.1 rfl
theorem dX12_there_22 : decode cX12_there 22 = .ok (.bipush 27, 2) := dAt wdX12_there_0 adX12_there_0.2.2.2.2.2.2.2.2.2.2.2.2.2.1 rfl
theorem dX12_there_24 : decode cX12_there 24 = .ok (.iadd, 1) := dAt wdX12_there_0 adX12_there_0.2.2.2.2.2.2.2.2.2.2.2.2.2.2.1 rfl
theorem dX12_there_25 : decode cX12_there 25 = .ok (.iaload, 1) := dAt wdX12_there_0 adX12_there_0.2.2.2.2.2.2.2.2.2.2.2.2.2.2.2 rfl
def bdX12_there_26 : ByteArray := .mk #[100, 54, 5, 42, 180, 0, 8, 7, 46, 4, 100, 54, 6, 21, 6, 155, 0, 131, 42, 180, 0, 8, 21, 6, 184, 1, 86, 5]
theorem wdX12_there_26 : LocW cX12_there 26 bdX12_there_26 := loc_of (by decide +kernel)
theorem adX12_there_26 : De bdX12_there_26 0 (.isub) 1 ∧ De bdX12_there_26 1 (.istore 5) 2 ∧ De bdX12_there_26 3 (.aload_n 0) 1 ∧ De bdX12_there_26 4 (.getfield 8) 3 ∧ De bdX12_there_26 7 (.iconst 4) 1 ∧ De bdX12_there_26 8 (.iaload) 1 ∧ De bdX12_there_26 9 (.iconst 1) 1 ∧ De bdX12_there_26 10 (.isub) 1 ∧ De bdX12_there_26 11 (.istore 6) 2 ∧ De bdX12_there_26 13 (.iload 6) 2 ∧ De bdX12_there_26 15 (.ifCond .lt 131) 3 ∧ De bdX12_there_26 18 (.aload_n 0) 1 ∧ De bdX12_there_26 19 (.getfield 8) 3 ∧ De bdX12_there_26 22 (.iload 6) 2 ∧ De bdX12_there_26 24 (.invokestatic 342) 3 ∧ De bdX12_there_26 27 (.iconst 2) 1 := by decide +kernel
theorem dX12_there_26 : decode cX12_there 26 = .ok (.isub, 1) := dAt wdX12_there_26 adX12_there_26.1 rfl
theorem dX12_there_27 : decode cX12_there 27 = .ok (.istore 5, 2) := dAt wdX12_there_26 adX12_there_26.2.1 rfl
theorem dX12_there_29 : decode cX12_there 29 = .ok (.aload_n 0, 1) := dAt wdX12_there_26 adX12_there_26.2.2.1 rfl
theorem dX12_there_30 : decode cX12_there 30 = .ok (.getfield 8, 3) := dAt wdX12_there_26 adX12_there_26.2.2.2.1 rfl
theorem dX12_there_33 : decode cX12_there 33 = .ok (.iconst 4, 1) := dAt wdX12_there_26 adX12_there_26.2.2.2.2.1 rfl
theorem dX12_there_34 : decode cX12_there 34 = .ok (.iaload, 1) := dAt wdX12_there_26 adX12_there_26.2.2.2.2.2.1 rfl
theorem dX12_there_35 : decode cX12_there 35 = .ok (.iconst 1, 1) := dAt wdX12_there_26 adX12_there_26.2.2.2.2.2.2.1 rfl
theorem dX12_there_36 : decode cX12_there 36 = .ok (.isub, 1) := dAt wdX12_there_26 adX12_there_26.2.2.2.2.2.2.2.1 rfl
theorem dX12_there_37 : decode cX12_there 37 = .ok (.istore 6, 2) := dAt wdX12_there_26 adX12_there_26.2.2.2.2.2.2.2.2.1 rfl
theorem dX12_there_39 : decode cX12_there 39 = .ok (.iload 6, 2) := dAt wdX12_there_26 adX12_there_26.2.2.2.2.2.2.2.2.2.1 rfl
theorem dX12_there_41 : decode cX12_there 41 = .ok (.ifCond .lt 131, 3) := dAt wdX12_there_26 adX12_there_26.2.2.2.2.2.2.2.2.2.2.1 rfl
theorem dX12_there_44 : decode cX12_there 44 = .ok (.aload_n 0, 1) := dAt wdX12_there_26 adX12_there_26.2.2.2.2.2.2.2.2.2.2.2.1 rfl
theorem dX12_there_45 : decode cX12_there 45 = .ok (.getfield 8, 3) := dAt wdX12_there_26 adX12_there_26.2.2.2.2.2.2.2.2.2.2.2.2.1 rfl
theorem dX12_there_48 : decode cX12_there 48 = .ok (.iload 6, 2) := dAt wdX12_there_26 adX12_there_26.2.2.2.2.2.2.2.2.2.2.2.2.2.1 rfl
theorem dX12_there_50 : decode cX12_there 50 = .ok (.invokestatic 342, 3) := dAt wdX12_there_26 adX12_there_26.2.2.2.2.2.2.2.2.2.2.2.2.2.2.1 rfl
theorem dX12_there_53 : decode cX12_there 53 = .ok (.iconst 2, 1) := dAt wdX12_there_26 adX12_there_26.2.2.2.2.2.2.2.2.2.2.2.2.2.2.2 rfl
def bdX12_there_54 : ByteArray := .mk #[96, 46, 21, 5, 161, 0, 114, 21, 6, 184, 1, 86, 54, 7, 42, 180, 0, 8, 21, 7, 4, 96, 46, 27, 160, 0, 88, 42]
theorem wdX12_there_54 : LocW cX12_there 54 bdX12_there_54 := loc_of (by decide +kernel)
theorem adX12_there_54 : De bdX12_there_54 0 (.iadd) 1 ∧ De bdX12_there_54 1 (.iaload) 1 ∧ De bdX12_there_54 2 (.iload 5) 2 ∧ De bdX12_there_54 4 (.if_icmp .lt 114) 3 ∧ De bdX12_there_54 7 (.iload 6) 2 ∧ De bdX12_there_54 9 (.invokestatic 342) 3 ∧ De bdX12_there_54 12 (.istore 7) 2 ∧ De bdX12_there_54 14 (.aload_n 0) 1 ∧ De bdX12_there_54 15 (.getfield 8) 3 ∧ De bdX12_there_54 18 (.iload 7) 2 ∧ De bdX12_there_54 20 (.iconst 1) 1 ∧ De bdX12_there_54 21 (.iadd) 1 ∧ De bdX12_there_54 22 (.iaload) 1 ∧ De bdX12_there_54 23 (.iload_n 1) 1 ∧ De bdX12_there_54 24 (.if_icmp .ne 88) 3 ∧ De bdX12_there_54 27 (.aload_n 0) 1 := by decide +kernel
theorem dX12_there_54 : decode cX12_there 54 = .ok (.iadd, 1) := dAt wdX12_there_54 adX12_there_54.1 rfl
theorem dX12_there_55 : decode cX12_there 55 = .ok (.iaload, 1) := dAt wdX12_there_54 adX12_there_54.2.1 rfl
theorem dX12_there_56 : decode cX12_there 56 = .ok (.iload 5, 2) := dAt wdX12_there_54 adX12_there_54.2.2.1 rfl
theorem dX12_there_58 : decode cX12_there 58 = .ok (.if_icmp .lt 114, 3) := dAt wdX12_there_54 adX12_there_54.2.2.2.1 rfl
theorem dX12_there_61 : decode cX12_there 61 = .ok (.iload 6, 2) := dAt wdX12_there_54 adX12_there_54.2.2.2.2.1 rfl
theorem dX12_there_63 : decode cX12_there 63 = .ok (.invokestatic 342, 3) := dAt wdX12_there_54 adX12_there_54.2.2.2.2.2.1 rfl
theorem dX12_there_66 : decode cX12_there 66 = .ok (.istore 7, 2) := dAt wdX12_there_54 adX12_there_54.2.2.2.2.2.2.1 rfl
theorem dX12_there_68 : decode cX12_there 68 = .ok (.aload_n 0, 1) := dAt wdX12_there_54 adX12_there_54.2.2.2.2.2.2.2.1 rfl
theorem dX12_there_69 : decode cX12_there 69 = .ok (.getfield 8, 3) := dAt wdX12_there_54 adX12_there_54.2.2.2.2.2.2.2.2.1 rfl
theorem dX12_there_72 : decode cX12_there 72 = .ok (.iload 7, 2) := dAt wdX12_there_54 adX12_there_54.2.2.2.2.2.2.2.2.2.1 rfl
theorem dX12_there_74 : decode cX12_there 74 = .ok (.iconst 1, 1) := dAt wdX12_there_54 adX12_there_54.2.2.2.2.2.2.2.2.2.2.1 rfl
theorem dX12_there_75 : decode cX12_there 75 = .ok (.iadd, 1) := dAt wdX12_there_54 adX12_there_54.2.2.2.2.2.2.2.2.2.2.2.1 rfl
theorem dX12_there_76 : decode cX12_there 76 = .ok (.iaload, 1) := dAt wdX12_there_54 adX12_there_54.2.2.2.2.2.2.2.2.2.2.2.2.1 rfl
theorem dX12_there_77 : decode cX12_there 77 = .ok (.iload_n 1, 1) := dAt wdX12_there_54 adX12_there_54.2.2.2.2.2.2.2.2.2.2.2.2.2.1 rfl
theorem dX12_there_78 : decode cX12_there 78 = .ok (.if_icmp .ne 88, 3) := dAt wdX12_there_54 adX12_there_54.2.2.2.2.2.2.2.2.2.2.2.2.2.2.1 rfl
theorem dX12_there_81 : decode cX12_there 81 = .ok (.aload_n 0, 1) := dAt wdX12_there_54 adX12_there_54.2.2.2.2.2.2.2.2.2.2.2.2.2.2.2 rfl
def bdX12_there_82 : ByteArray := .mk #[180, 0, 8, 21, 7, 5, 96, 46, 29, 161, 0, 6, 167, 0, 72, 3, 54, 8, 21, 8, 42, 180, 0, 8, 21, 7, 16, 9, 96]
theorem wdX12_there_82 : LocW cX12_there 82 bdX12_there_82 := loc_of (by decide +kernel)
theorem adX12_there_82 : De bdX12_there_82 0 (.getfield 8) 3 ∧ De bdX12_there_82 3 (.iload 7) 2 ∧ De bdX12_there_82 5 (.iconst 2) 1 ∧ De bdX12_there_82 6 (.iadd) 1 ∧ De bdX12_there_82 7 (.iaload) 1 ∧ De bdX12_there_82 8 (.iload_n 3) 1 ∧ De bdX12_there_82 9 (.if_icmp .lt 6) 3 ∧ De bdX12_there_82 12 (.goto 72) 3 ∧ De bdX12_there_82 15 (.iconst 0) 1 ∧ De bdX12_there_82 16 (.istore 8) 2 ∧ De bdX12_there_82 18 (.iload 8) 2 ∧ De bdX12_there_82 20 (.aload_n 0) 1 ∧ De bdX12_there_82 21 (.getfield 8) 3 ∧ De bdX12_there_82 24 (.iload 7) 2 ∧ De bdX12_there_82 26 (.bipush 9) 2 ∧ De bdX12_there_82 28 (.iadd) 1 := by decide +kernel
theorem dX12_there_82 : decode cX12_there 82 = .ok (.getfield 8, 3) := dAt wdX12_there_82 adX12_there_82.1 rfl
theorem dX12_there_85 : decode cX12_there 85 = .ok (.iload 7, 2) := dAt wdX12_there_82 adX12_there_82.2.1 rfl
theorem dX12_there_87 : decode cX12_there 87 = .ok (.iconst 2, 1) := dAt wdX12_there_82 adX12_there_82.2.2.1 rfl
theorem dX12_there_88 : decode cX12_there 88 = .ok (.iadd, 1) := dAt wdX12_there_82 adX12_there_82.2.2.2.1 rfl
theorem dX12_there_89 : decode cX12_there 89 = .ok (.iaload, 1) := dAt wdX12_there_82 adX12_there_82.2.2.2.2.1 rfl
theorem dX12_there_90 : decode cX12_there 90 = .ok (.iload_n 3, 1) := dAt wdX12_there_82 adX12_there_82.2.2.2.2.2.1 rfl
theorem dX12_there_91 : decode cX12_there 91 = .ok (.if_icmp .lt 6, 3) := dAt wdX12_there_82 adX12_there_82.2.2.2.2.2.2.1 rfl
theorem dX12_there_94 : decode cX12_there 94 = .ok (.goto 72, 3) := dAt wdX12_there_82 adX12_there_82.2.2.2.2.2.2.2.1 rfl
theorem dX12_there_97 : decode cX12_there 97 = .ok (.iconst 0, 1) := dAt wdX12_there_82 adX12_there_82.2.2.2.2.2.2.2.2.1 rfl
theorem dX12_there_98 : decode cX12_there 98 = .ok (.istore 8, 2) := dAt wdX12_there_82 adX12_there_82.2.2.2.2.2.2.2.2.2.1 rfl
theorem dX12_there_100 : decode cX12_there 100 = .ok (.iload 8, 2) := dAt wdX12_there_82 adX12_there_82.2.2.2.2.2.2.2.2.2.2.1 rfl
theorem dX12_there_102 : decode cX12_there 102 = .ok (.aload_n 0, 1) := dAt wdX12_there_82 adX12_there_82.2.2.2.2.2.2.2.2.2.2.2.1 rfl
theorem dX12_there_103 : decode cX12_there 103 = .ok (.getfield 8, 3) := dAt wdX12_there_82 adX12_there_82.2.2.2.2.2.2.2.2.2.2.2.2.1 rfl
theorem dX12_there_106 : decode cX12_there 106 = .ok (.iload 7, 2) := dAt wdX12_there_82 adX12_there_82.2.2.2.2.2.2.2.2.2.2.2.2.2.1 rfl
theorem dX12_there_108 : decode cX12_there 108 = .ok (.bipush 9, 2) := dAt wdX12_there_82 adX12_there_82.2.2.2.2.2.2.2.2.2.2.2.2.2.2.1 rfl
theorem dX12_there_110 : decode cX12_there 110 = .ok (.iadd, 1) := dAt wdX12_there_82 adX12_there_82.2.2.2.2.2.2.2.2.2.2.2.2.2.2.2 rfl
def bdX12_there_111 : ByteArray := .mk #[46, 162, 0, 54, 42, 180, 0, 8, 21, 7, 16, 12, 96, 21, 8, 96, 46, 54, 9, 21, 4, 21, 9, 28, 16, 26, 160, 0, 8]
theorem wdX12_there_111 : LocW cX12_there 111 bdX12_there_111 := loc_of (by decide +kernel)
theorem adX12_there_111 : De bdX12_there_111 0 (.iaload) 1 ∧ De bdX12_there_111 1 (.if_icmp .ge 54) 3 ∧ De bdX12_there_111 4 (.aload_n 0) 1 ∧ De bdX12_there_111 5 (.getfield 8) 3 ∧ De bdX12_there_111 8 (.iload 7) 2 ∧ De bdX12_there_111 10 (.bipush 12) 2 ∧ De bdX12_there_111 12 (.iadd) 1 ∧ De bdX12_there_111 13 (.iload 8) 2 ∧ De bdX12_there_111 15 (.iadd) 1 ∧ De bdX12_there_111 16 (.iaload) 1 ∧ De bdX12_there_111 17 (.istore 9) 2 ∧ De bdX12_there_111 19 (.iload 4) 2 ∧ De bdX12_there_111 21 (.iload 9) 2 ∧ De bdX12_there_111 23 (.iload_n 2) 1 ∧ De bdX12_there_111 24 (.bipush 26) 2 ∧ De bdX12_there_111 26 (.if_icmp .ne 8) 3 := by decide +kernel
theorem dX12_there_111 : decode cX12_there 111 = .ok (.iaload, 1) := dAt wdX12_there_111 adX12_there_111.1 rfl
theorem dX12_there_112 : decode cX12_there 112 = .ok (.if_icmp .ge 54, 3) := dAt wdX12_there_111 adX12_there_111.2.1 rfl
theorem dX12_there_115 : decode cX12_there 115 = .ok (.aload_n 0, 1) := dAt wdX12_there_111 adX12_there_111.2.2.1 rfl
theorem dX12_there_116 : decode cX12_there 116 = .ok (.getfield 8, 3) := dAt wdX12_there_111 adX12_there_111.2.2.2.1 rfl
theorem dX12_there_119 : decode cX12_there 119 = .ok (.iload 7, 2) := dAt wdX12_there_111 adX12_there_111.2.2.2.2.1 rfl
theorem dX12_there_121 : decode cX12_there 121 = .ok (.bipush 12, 2) := dAt wdX12_there_111 adX12_there_111.2.2.2.2.2.1 rfl
theorem dX12_there_123 : decode cX12_there 123 = .ok (.iadd, 1) := dAt wdX12_there_111 adX12_there_111.2.2.2.2.2.2.1 rfl
theorem dX12_there_124 : decode cX12_there 124 = .ok (.iload 8, 2) := dAt wdX12_there_111 adX12_there_111.2.2.2.2.2.2.2.1 rfl
theorem dX12_there_126 : decode cX12_there 126 = .ok (.iadd, 1) := dAt wdX12_there_111 adX12_there_111.2.2.2.2.2.2.2.2.1 rfl
theorem dX12_there_127 : decode cX12_there 127 = .ok (.iaload, 1) := dAt wdX12_there_111 adX12_there_111.2.2.2.2.2.2.2.2.2.1 rfl
theorem dX12_there_128 : decode cX12_there 128 = .ok (.istore 9, 2) := dAt wdX12_there_111 adX12_there_111.2.2.2.2.2.2.2.2.2.2.1 rfl
theorem dX12_there_130 : decode cX12_there 130 = .ok (.iload 4, 2) := dAt wdX12_there_111 adX12_there_111.2.2.2.2.2.2.2.2.2.2.2.1 rfl
theorem dX12_there_132 : decode cX12_there 132 = .ok (.iload 9, 2) := dAt wdX12_there_111 adX12_there_111.2.2.2.2.2.2.2.2.2.2.2.2.1 rfl
theorem dX12_there_134 : decode cX12_there 134 = .ok (.iload_n 2, 1) := dAt wdX12_there_111 adX12_there_111.2.2.2.2.2.2.2.2.2.2.2.2.2.1 rfl
theorem dX12_there_135 : decode cX12_there 135 = .ok (.bipush 26, 2) := dAt wdX12_there_111 adX12_there_111.2.2.2.2.2.2.2.2.2.2.2.2.2.2.1 rfl
theorem dX12_there_137 : decode cX12_there 137 = .ok (.if_icmp .ne 8, 3) := dAt wdX12_there_111 adX12_there_111.2.2.2.2.2.2.2.2.2.2.2.2.2.2.2 rfl
def bdX12_there_140 : ByteArray := .mk #[16, 45, 167, 0, 7, 16, 97, 28, 96, 160, 0, 7, 4, 167, 0, 4, 3, 100, 54, 4, 132, 8, 1, 167, 255, 193, 132, 6, 255, 167, 255, 126, 21, 4]
theorem wdX12_there_140 : LocW cX12_there 140 bdX12_there_140 := loc_of (by decide +kernel)
theorem adX12_there_140 : De bdX12_there_140 0 (.bipush 45) 2 ∧ De bdX12_there_140 2 (.goto 7) 3 ∧ De bdX12_there_140 5 (.bipush 97) 2 ∧ De bdX12_there_140 7 (.iload_n 2) 1 ∧ De bdX12_there_140 8 (.iadd) 1 ∧ De bdX12_there_140 9 (.if_icmp .ne 7) 3 ∧ De bdX12_there_140 12 (.iconst 1) 1 ∧ De bdX12_there_140 13 (.goto 4) 3 ∧ De bdX12_there_140 16 (.iconst 0) 1 ∧ De bdX12_there_140 17 (.isub) 1 ∧ De bdX12_there_140 18 (.istore 4) 2 ∧ De bdX12_there_140 20 (.iinc 8 1) 3 ∧ De bdX12_there_140 23 (.goto (-63)) 3 ∧ De bdX12_there_140 26 (.iinc 6 (-1)) 3 ∧ De bdX12_there_140 29 (.goto (-130)) 3 ∧ De bdX12_there_140 32 (.iload 4) 2 := by decide +kernel
theorem dX12_there_140 : decode cX12_there 140 = .ok (.bipush 45, 2) := dAt wdX12_there_140 adX12_there_140.1 rfl
theorem dX12_there_142 : decode cX12_there 142 = .ok (.goto 7, 3) := dAt wdX12_there_140 adX12_there_140.2.1 rfl
theorem dX12_there_145 : decode cX12_there 145 = .ok (.bipush 97, 2) := dAt wdX12_there_140 adX12_there_140.2.2.1 rfl
theorem dX12_there_147 : decode cX12_there 147 = .ok (.iload_n 2, 1) := dAt wdX12_there_140 adX12_there_140.2.2.2.1 rfl
theorem dX12_there_148 : decode cX12_there 148 = .ok (.iadd, 1) := dAt wdX12_there_140 adX12_there_140.2.2.2.2.1 rfl
theorem dX12_there_149 : decode cX12_there 149 = .ok (.if_icmp .ne 7, 3) := dAt wdX12_there_140 adX12_there_140.2.2.2.2.2.1 rfl
theorem dX12_there_152 : decode cX12_there 152 = .ok (.iconst 1, 1) := dAt wdX12_there_140 adX12_there_140.2.2.2.2.2.2.1 rfl
theorem dX12_there_153 : decode cX12_there 153 = .ok (.goto 4, 3) := dAt wdX12_there_140 adX12_there_140.2.2.2.2.2.2.2.1 rfl
theorem dX12_there_156 : decode cX12_there 156 = .ok (.iconst 0, 1) := dAt wdX12_there_140 adX12_there_140.2.2.2.2.2.2.2.2.1 rfl
theorem dX12_there_157 : decode cX12_there 157 = .ok (.isub, 1) := dAt wdX12_there_140 adX12_there_140.2.2.2.2.2.2.2.2.2.1 rfl
theorem dX12_there_158 : decode cX12_there 158 = .ok (.istore 4, 2) := dAt wdX12_there_140 adX12_there_140.2.2.2.2.2.2.2.2.2.2.1 rfl
theorem dX12_there_160 : decode cX12_there 160 = .ok (.iinc 8 1, 3) := dAt wdX12_there_140 adX12_there_140.2.2.2.2.2.2.2.2.2.2.2.1 rfl
theorem dX12_there_163 : decode cX12_there 163 = .ok (.goto (-63), 3) := dAt wdX12_there_140 adX12_there_140.2.2.2.2.2.2.2.2.2.2.2.2.1 rfl
theorem dX12_there_166 : decode cX12_there 166 = .ok (.iinc 6 (-1), 3) := dAt wdX12_there_140 adX12_there_140.2.2.2.2.2.2.2.2.2.2.2.2.2.1 rfl
theorem dX12_there_169 : decode cX12_there 169 = .ok (.goto (-130), 3) := dAt wdX12_there_140 adX12_there_140.2.2.2.2.2.2.2.2.2.2.2.2.2.2.1 rfl
theorem dX12_there_172 : decode cX12_there 172 = .ok (.iload 4, 2) := dAt wdX12_there_140 adX12_there_140.2.2.2.2.2.2.2.2.2.2.2.2.2.2.2 rfl
def bdX12_there_174 : ByteArray := .mk #[156, 0, 7, 3, 167, 0, 5, 21, 4, 172]
theorem wdX12_there_174 : LocW cX12_there 174 bdX12_there_174 := loc_of (by decide +kernel)
theorem adX12_there_174 : De bdX12_there_174 0 (.ifCond .ge 7) 3 ∧ De bdX12_there_174 3 (.iconst 0) 1 ∧ De bdX12_there_174 4 (.goto 5) 3 ∧ De bdX12_there_174 7 (.iload 4) 2 ∧ De bdX12_there_174 9 (.ireturn) 1 := by decide +kernel
theorem dX12_there_174 : decode cX12_there 174 = .ok (.ifCond .ge 7, 3) := dAt wdX12_there_174 adX12_there_174.1 rfl
theorem dX12_there_177 : decode cX12_there 177 = .ok (.iconst 0, 1) := dAt wdX12_there_174 adX12_there_174.2.1 rfl
theorem dX12_there_178 : decode cX12_there 178 = .ok (.goto 5, 3) := dAt wdX12_there_174 adX12_there_174.2.2.1 rfl
theorem dX12_there_181 : decode cX12_there 181 = .ok (.iload 4, 2) := dAt wdX12_there_174 adX12_there_174.2.2.2.1 rfl
theorem dX12_there_183 : decode cX12_there 183 = .ok (.ireturn, 1) := dAt wdX12_there_174 adX12_there_174.2.2.2.2 rfl
def bdX12_brass_0 : ByteArray := .mk #[42, 42, 27, 182, 1, 107, 153, 0, 13, 28, 3, 16, 26, 184, 0, 157, 154, 0, 7, 4, 167, 0, 18, 29, 3, 16, 40, 184, 0, 157]
theorem wdX12_brass_0 : LocW cX12_brass 0 bdX12_brass_0 := loc_of (by decide +kernel)
theorem adX12_brass_0 : De bdX12_brass_0 0 (.aload_n 0) 1 ∧ De bdX12_brass_0 1 (.aload_n 0) 1 ∧ De bdX12_brass_0 2 (.iload_n 1) 1 ∧ De bdX12_brass_0 3 (.invokevirtual 363) 3 ∧ De bdX12_brass_0 6 (.ifCond .eq 13) 3 ∧ De bdX12_brass_0 9 (.iload_n 2) 1 ∧ De bdX12_brass_0 10 (.iconst 0) 1 ∧ De bdX12_brass_0 11 (.bipush 26) 2 ∧ De bdX12_brass_0 13 (.invokestatic 157) 3 ∧ De bdX12_brass_0 16 (.ifCond .ne 7) 3 ∧ De bdX12_brass_0 19 (.iconst 1) 1 ∧ De bdX12_brass_0 20 (.goto 18) 3 ∧ De bdX12_brass_0 23 (.iload_n 3) 1 ∧ De bdX12_brass_0 24 (.iconst 0) 1 ∧ De bdX12_brass_0 25 (.bipush 40) 2 ∧ De bdX12_brass_0 27 (.invokestatic 157) 3 := by decide +kernel
theorem dX12_brass_0 : decode cX12_brass 0 = .ok (.aload_n 0, 1) := dAt wdX12_brass_0 adX12_brass_0.1 rfl
theorem dX12_brass_1 : decode cX12_brass 1 = .ok (.aload_n 0, 1) := dAt wdX12_brass_0 adX12_brass_0.2.1 rfl
theorem dX12_brass_2 : decode cX12_brass 2 = .ok (.iload_n 1, 1) := dAt wdX12_brass_0 adX12_brass_0.2.2.1 rfl
theorem dX12_brass_3 : decode cX12_brass 3 = .ok (.invokevirtual 363, 3) := dAt wdX12_brass_0 adX12_brass_0.2.2.2.1 rfl
theorem dX12_brass_6 : decode cX12_brass 6 = .ok (.ifCond .eq 13, 3) := dAt wdX12_brass_0 adX12_brass_0.2.2.2.2.1 rfl
theorem dX12_brass_9 : decode cX12_brass 9 = .ok (.iload_n 2, 1) := dAt wdX12_brass_0 adX12_brass_0.2.2.2.2.2.1 rfl
theorem dX12_brass_10 : decode cX12_brass 10 = .ok (.iconst 0, 1) := dAt wdX12_brass_0 adX12_brass_0.2.2.2.2.2.2.1 rfl
theorem dX12_brass_11 : decode cX12_brass 11 = .ok (.bipush 26, 2) := dAt wdX12_brass_0 adX12_brass_0.2.2.2.2.2.2.2.1 rfl
theorem dX12_brass_13 : decode cX12_brass 13 = .ok (.invokestatic 157, 3) := dAt wdX12_brass_0 adX12_brass_0.2.2.2.2.2.2.2.2.1 rfl
theorem dX12_brass_16 : decode cX12_brass 16 = .ok (.ifCond .ne 7, 3) := dAt wdX12_brass_0 adX12_brass_0.2.2.2.2.2.2.2.2.2.1 rfl
theorem dX12_brass_19 : decode cX12_brass 19 = .ok (.iconst 1, 1) := dAt wdX12_brass_0 adX12_brass_0.2.2.2.2.2.2.2.2.2.2.1 rfl
theorem dX12_brass_20 : decode cX12_brass 20 = .ok (.goto 18, 3) := dAt wdX12_brass_0 adX12_brass_0.2.2.2.2.2.2.2.2.2.2.2.1 rfl
theorem dX12_brass_23 : decode cX12_brass 23 = .ok (.iload_n 3, 1) := dAt wdX12_brass_0 adX12_brass_0.2.2.2.2.2.2.2.2.2.2.2.2.1 rfl
theorem dX12_brass_24 : decode cX12_brass 24 = .ok (.iconst 0, 1) := dAt wdX12_brass_0 adX12_brass_0.2.2.2.2.2.2.2.2.2.2.2.2.2.1 rfl
theorem dX12_brass_25 : decode cX12_brass 25 = .ok (.bipush 40, 2) := dAt wdX12_brass_0 adX12_brass_0.2.2.2.2.2.2.2.2.2.2.2.2.2.2.1 rfl
theorem dX12_brass_27 : decode cX12_brass 27 = .ok (.invokestatic 157, 3) := dAt wdX12_brass_0 adX12_brass_0.2.2.2.2.2.2.2.2.2.2.2.2.2.2.2 rfl
def bdX12_brass_30 : ByteArray := .mk #[154, 0, 7, 5, 167, 0, 4, 3, 181, 0, 122, 42, 180, 0, 122, 158, 0, 5, 3, 172, 42, 180, 0, 8, 27, 184, 1, 104, 28, 96]
theorem wdX12_brass_30 : LocW cX12_brass 30 bdX12_brass_30 := loc_of (by decide +kernel)
theorem adX12_brass_30 : De bdX12_brass_30 0 (.ifCond .ne 7) 3 ∧ De bdX12_brass_30 3 (.iconst 2) 1 ∧ De bdX12_brass_30 4 (.goto 4) 3 ∧ De bdX12_brass_30 7 (.iconst 0) 1 ∧ De bdX12_brass_30 8 (.putfield 122) 3 ∧ De bdX12_brass_30 11 (.aload_n 0) 1 ∧ De bdX12_brass_30 12 (.getfield 122) 3 ∧ De bdX12_brass_30 15 (.ifCond .le 5) 3 ∧ De bdX12_brass_30 18 (.iconst 0) 1 ∧ De bdX12_brass_30 19 (.ireturn) 1 ∧ De bdX12_brass_30 20 (.aload_n 0) 1 ∧ De bdX12_brass_30 21 (.getfield 8) 3 ∧ De bdX12_brass_30 24 (.iload_n 1) 1 ∧ De bdX12_brass_30 25 (.invokestatic 360) 3 ∧ De bdX12_brass_30 28 (.iload_n 2) 1 ∧ De bdX12_brass_30 29 (.iadd) 1 := by decide +kernel
theorem dX12_brass_30 : decode cX12_brass 30 = .ok (.ifCond .ne 7, 3) := dAt wdX12_brass_30 adX12_brass_30.1 rfl
theorem dX12_brass_33 : decode cX12_brass 33 = .ok (.iconst 2, 1) := dAt wdX12_brass_30 adX12_brass_30.2.1 rfl
theorem dX12_brass_34 : decode cX12_brass 34 = .ok (.goto 4, 3) := dAt wdX12_brass_30 adX12_brass_30.2.2.1 rfl
theorem dX12_brass_37 : decode cX12_brass 37 = .ok (.iconst 0, 1) := dAt wdX12_brass_30 adX12_brass_30.2.2.2.1 rfl
theorem dX12_brass_38 : decode cX12_brass 38 = .ok (.putfield 122, 3) := dAt wdX12_brass_30 adX12_brass_30.2.2.2.2.1 rfl
theorem dX12_brass_41 : decode cX12_brass 41 = .ok (.aload_n 0, 1) := dAt wdX12_brass_30 adX12_brass_30.2.2.2.2.2.1 rfl
theorem dX12_brass_42 : decode cX12_brass 42 = .ok (.getfield 122, 3) := dAt wdX12_brass_30 adX12_brass_30.2.2.2.2.2.2.1 rfl
theorem dX12_brass_45 : decode cX12_brass 45 = .ok (.ifCond .le 5, 3) := dAt wdX12_brass_30 adX12_brass_30.2.2.2.2.2.2.2.1 rfl
theorem dX12_brass_48 : decode cX12_brass 48 = .ok (.iconst 0, 1) := dAt wdX12_brass_30 adX12_brass_30.2.2.2.2.2.2.2.2.1 rfl
theorem dX12_brass_49 : decode cX12_brass 49 = .ok (.ireturn, 1) := dAt wdX12_brass_30 adX12_brass_30.2.2.2.2.2.2.2.2.2.1 rfl
theorem dX12_brass_50 : decode cX12_brass 50 = .ok (.aload_n 0, 1) := dAt wdX12_brass_30 adX12_brass_30.2.2.2.2.2.2.2.2.2.2.1 rfl
theorem dX12_brass_51 : decode cX12_brass 51 = .ok (.getfield 8, 3) := dAt wdX12_brass_30 adX12_brass_30.2.2.2.2.2.2.2.2.2.2.2.1 rfl
theorem dX12_brass_54 : decode cX12_brass 54 = .ok (.iload_n 1, 1) := dAt wdX12_brass_30 adX12_brass_30.2.2.2.2.2.2.2.2.2.2.2.2.1 rfl
theorem dX12_brass_55 : decode cX12_brass 55 = .ok (.invokestatic 360, 3) := dAt wdX12_brass_30 adX12_brass_30.2.2.2.2.2.2.2.2.2.2.2.2.2.1 rfl
theorem dX12_brass_58 : decode cX12_brass 58 = .ok (.iload_n 2, 1) := dAt wdX12_brass_30 adX12_brass_30.2.2.2.2.2.2.2.2.2.2.2.2.2.2.1 rfl
theorem dX12_brass_59 : decode cX12_brass 59 = .ok (.iadd, 1) := dAt wdX12_brass_30 adX12_brass_30.2.2.2.2.2.2.2.2.2.2.2.2.2.2.2 rfl
def bdX12_brass_60 : ByteArray := .mk #[29, 79, 42, 27, 28, 42, 180, 0, 8, 3, 46, 4, 96, 182, 1, 110, 172]
theorem wdX12_brass_60 : LocW cX12_brass 60 bdX12_brass_60 := loc_of (by decide +kernel)
theorem adX12_brass_60 : De bdX12_brass_60 0 (.iload_n 3) 1 ∧ De bdX12_brass_60 1 (.iastore) 1 ∧ De bdX12_brass_60 2 (.aload_n 0) 1 ∧ De bdX12_brass_60 3 (.iload_n 1) 1 ∧ De bdX12_brass_60 4 (.iload_n 2) 1 ∧ De bdX12_brass_60 5 (.aload_n 0) 1 ∧ De bdX12_brass_60 6 (.getfield 8) 3 ∧ De bdX12_brass_60 9 (.iconst 0) 1 ∧ De bdX12_brass_60 10 (.iaload) 1 ∧ De bdX12_brass_60 11 (.iconst 1) 1 ∧ De bdX12_brass_60 12 (.iadd) 1 ∧ De bdX12_brass_60 13 (.invokevirtual 366) 3 ∧ De bdX12_brass_60 16 (.ireturn) 1 := by decide +kernel
theorem dX12_brass_60 : decode cX12_brass 60 = .ok (.iload_n 3, 1) := dAt wdX12_brass_60 adX12_brass_60.1 rfl
theorem dX12_brass_61 : decode cX12_brass 61 = .ok (.iastore, 1) := dAt wdX12_brass_60 adX12_brass_60.2.1 rfl
theorem dX12_brass_62 : decode cX12_brass 62 = .ok (.aload_n 0, 1) := dAt wdX12_brass_60 adX12_brass_60.2.2.1 rfl
theorem dX12_brass_63 : decode cX12_brass 63 = .ok (.iload_n 1, 1) := dAt wdX12_brass_60 adX12_brass_60.2.2.2.1 rfl
theorem dX12_brass_64 : decode cX12_brass 64 = .ok (.iload_n 2, 1) := dAt wdX12_brass_60 adX12_brass_60.2.2.2.2.1 rfl
theorem dX12_brass_65 : decode cX12_brass 65 = .ok (.aload_n 0, 1) := dAt wdX12_brass_60 adX12_brass_60.2.2.2.2.2.1 rfl
theorem dX12_brass_66 : decode cX12_brass 66 = .ok (.getfield 8, 3) := dAt wdX12_brass_60 adX12_brass_60.2.2.2.2.2.2.1 rfl
theorem dX12_brass_69 : decode cX12_brass 69 = .ok (.iconst 0, 1) := dAt wdX12_brass_60 adX12_brass_60.2.2.2.2.2.2.2.1 rfl
theorem dX12_brass_70 : decode cX12_brass 70 = .ok (.iaload, 1) := dAt wdX12_brass_60 adX12_brass_60.2.2.2.2.2.2.2.2.1 rfl
theorem dX12_brass_71 : decode cX12_brass 71 = .ok (.iconst 1, 1) := dAt wdX12_brass_60 adX12_brass_60.2.2.2.2.2.2.2.2.2.1 rfl
theorem dX12_brass_72 : decode cX12_brass 72 = .ok (.iadd, 1) := dAt wdX12_brass_60 adX12_brass_60.2.2.2.2.2.2.2.2.2.2.1 rfl
theorem dX12_brass_73 : decode cX12_brass 73 = .ok (.invokevirtual 366, 3) := dAt wdX12_brass_60 adX12_brass_60.2.2.2.2.2.2.2.2.2.2.2.1 rfl
theorem dX12_brass_76 : decode cX12_brass 76 = .ok (.ireturn, 1) := dAt wdX12_brass_60 adX12_brass_60.2.2.2.2.2.2.2.2.2.2.2.2 rfl
def bdX12_broken_0 : ByteArray := .mk #[42, 42, 27, 182, 1, 107, 154, 0, 7, 4, 167, 0, 4, 3, 181, 0, 122, 42, 180, 0, 122, 158, 0, 5, 3, 172, 27, 184, 1, 104]
theorem wdX12_broken_0 : LocW cX12_broken 0 bdX12_broken_0 := loc_of (by decide +kernel)
theorem adX12_broken_0 : De bdX12_broken_0 0 (.aload_n 0) 1 ∧ De bdX12_broken_0 1 (.aload_n 0) 1 ∧ De bdX12_broken_0 2 (.iload_n 1) 1 ∧ De bdX12_broken_0 3 (.invokevirtual 363) 3 ∧ De bdX12_broken_0 6 (.ifCond .ne 7) 3 ∧ De bdX12_broken_0 9 (.iconst 1) 1 ∧ De bdX12_broken_0 10 (.goto 4) 3 ∧ De bdX12_broken_0 13 (.iconst 0) 1 ∧ De bdX12_broken_0 14 (.putfield 122) 3 ∧ De bdX12_broken_0 17 (.aload_n 0) 1 ∧ De bdX12_broken_0 18 (.getfield 122) 3 ∧ De bdX12_broken_0 21 (.ifCond .le 5) 3 ∧ De bdX12_broken_0 24 (.iconst 0) 1 ∧ De bdX12_broken_0 25 (.ireturn) 1 ∧ De bdX12_broken_0 26 (.iload_n 1) 1 ∧ De bdX12_broken_0 27 (.invokestatic 360) 3 := by decide +kernel
theorem dX12_broken_0 : decode cX12_broken 0 = .ok (.aload_n 0, 1) := dAt wdX12_broken_0 adX12_broken_0.1 rfl
theorem dX12_broken_1 : decode cX12_broken 1 = .ok (.aload_n 0, 1) := dAt wdX12_broken_0 adX12_broken_0.2.1 rfl
theorem dX12_broken_2 : decode cX12_broken 2 = .ok (.iload_n 1, 1) := dAt wdX12_broken_0 adX12_broken_0.2.2.1 rfl
theorem dX12_broken_3 : decode cX12_broken 3 = .ok (.invokevirtual 363, 3) := dAt wdX12_broken_0 adX12_broken_0.2.2.2.1 rfl
theorem dX12_broken_6 : decode cX12_broken 6 = .ok (.ifCond .ne 7, 3) := dAt wdX12_broken_0 adX12_broken_0.2.2.2.2.1 rfl
theorem dX12_broken_9 : decode cX12_broken 9 = .ok (.iconst 1, 1) := dAt wdX12_broken_0 adX12_broken_0.2.2.2.2.2.1 rfl
theorem dX12_broken_10 : decode cX12_broken 10 = .ok (.goto 4, 3) := dAt wdX12_broken_0 adX12_broken_0.2.2.2.2.2.2.1 rfl
theorem dX12_broken_13 : decode cX12_broken 13 = .ok (.iconst 0, 1) := dAt wdX12_broken_0 adX12_broken_0.2.2.2.2.2.2.2.1 rfl
theorem dX12_broken_14 : decode cX12_broken 14 = .ok (.putfield 122, 3) := dAt wdX12_broken_0 adX12_broken_0.2.2.2.2.2.2.2.2.1 rfl
theorem dX12_broken_17 : decode cX12_broken 17 = .ok (.aload_n 0, 1) := dAt wdX12_broken_0 adX12_broken_0.2.2.2.2.2.2.2.2.2.1 rfl
theorem dX12_broken_18 : decode cX12_broken 18 = .ok (.getfield 122, 3) := dAt wdX12_broken_0 adX12_broken_0.2.2.2.2.2.2.2.2.2.2.1 rfl
theorem dX12_broken_21 : decode cX12_broken 21 = .ok (.ifCond .le 5, 3) := dAt wdX12_broken_0 adX12_broken_0.2.2.2.2.2.2.2.2.2.2.2.1 rfl
theorem dX12_broken_24 : decode cX12_broken 24 = .ok (.iconst 0, 1) := dAt wdX12_broken_0 adX12_broken_0.2.2.2.2.2.2.2.2.2.2.2.2.1 rfl
theorem dX12_broken_25 : decode cX12_broken 25 = .ok (.ireturn, 1) := dAt wdX12_broken_0 adX12_broken_0.2.2.2.2.2.2.2.2.2.2.2.2.2.1 rfl
theorem dX12_broken_26 : decode cX12_broken 26 = .ok (.iload_n 1, 1) := dAt wdX12_broken_0 adX12_broken_0.2.2.2.2.2.2.2.2.2.2.2.2.2.2.1 rfl
theorem dX12_broken_27 : decode cX12_broken 27 = .ok (.invokestatic 360, 3) := dAt wdX12_broken_0 adX12_broken_0.2.2.2.2.2.2.2.2.2.2.2.2.2.2.2 rfl
def bdX12_broken_30 : ByteArray := .mk #[16, 28, 96, 62, 42, 180, 0, 8, 29, 46, 4, 160, 0, 7, 4, 167, 0, 4, 3, 28, 159, 0, 7, 4, 167, 0, 4]
theorem wdX12_broken_30 : LocW cX12_broken 30 bdX12_broken_30 := loc_of (by decide +kernel)
theorem adX12_broken_30 : De bdX12_broken_30 0 (.bipush 28) 2 ∧ De bdX12_broken_30 2 (.iadd) 1 ∧ De bdX12_broken_30 3 (.istore_n 3) 1 ∧ De bdX12_broken_30 4 (.aload_n 0) 1 ∧ De bdX12_broken_30 5 (.getfield 8) 3 ∧ De bdX12_broken_30 8 (.iload_n 3) 1 ∧ De bdX12_broken_30 9 (.iaload) 1 ∧ De bdX12_broken_30 10 (.iconst 1) 1 ∧ De bdX12_broken_30 11 (.if_icmp .ne 7) 3 ∧ De bdX12_broken_30 14 (.iconst 1) 1 ∧ De bdX12_broken_30 15 (.goto 4) 3 ∧ De bdX12_broken_30 18 (.iconst 0) 1 ∧ De bdX12_broken_30 19 (.iload_n 2) 1 ∧ De bdX12_broken_30 20 (.if_icmp .eq 7) 3 ∧ De bdX12_broken_30 23 (.iconst 1) 1 ∧ De bdX12_broken_30 24 (.goto 4) 3 := by decide +kernel
theorem dX12_broken_30 : decode cX12_broken 30 = .ok (.bipush 28, 2) := dAt wdX12_broken_30 adX12_broken_30.1 rfl
theorem dX12_broken_32 : decode cX12_broken 32 = .ok (.iadd, 1) := dAt wdX12_broken_30 adX12_broken_30.2.1 rfl
theorem dX12_broken_33 : decode cX12_broken 33 = .ok (.istore_n 3, 1) := dAt wdX12_broken_30 adX12_broken_30.2.2.1 rfl
theorem dX12_broken_34 : decode cX12_broken 34 = .ok (.aload_n 0, 1) := dAt wdX12_broken_30 adX12_broken_30.2.2.2.1 rfl
theorem dX12_broken_35 : decode cX12_broken 35 = .ok (.getfield 8, 3) := dAt wdX12_broken_30 adX12_broken_30.2.2.2.2.1 rfl
theorem dX12_broken_38 : decode cX12_broken 38 = .ok (.iload_n 3, 1) := dAt wdX12_broken_30 adX12_broken_30.2.2.2.2.2.1 rfl
theorem dX12_broken_39 : decode cX12_broken 39 = .ok (.iaload, 1) := dAt wdX12_broken_30 adX12_broken_30.2.2.2.2.2.2.1 rfl
theorem dX12_broken_40 : decode cX12_broken 40 = .ok (.iconst 1, 1) := dAt wdX12_broken_30 adX12_broken_30.2.2.2.2.2.2.2.1 rfl
theorem dX12_broken_41 : decode cX12_broken 41 = .ok (.if_icmp .ne 7, 3) := dAt wdX12_broken_30 adX12_broken_30.2.2.2.2.2.2.2.2.1 rfl
theorem dX12_broken_44 : decode cX12_broken 44 = .ok (.iconst 1, 1) := dAt wdX12_broken_30 adX12_broken_30.2.2.2.2.2.2.2.2.2.1 rfl
theorem dX12_broken_45 : decode cX12_broken 45 = .ok (.goto 4, 3) := dAt wdX12_broken_30 adX12_broken_30.2.2.2.2.2.2.2.2.2.2.1 rfl
theorem dX12_broken_48 : decode cX12_broken 48 = .ok (.iconst 0, 1) := dAt wdX12_broken_30 adX12_broken_30.2.2.2.2.2.2.2.2.2.2.2.1 rfl
theorem dX12_broken_49 : decode cX12_broken 49 = .ok (.iload_n 2, 1) := dAt wdX12_broken_30 adX12_broken_30.2.2.2.2.2.2.2.2.2.2.2.2.1 rfl
theorem dX12_broken_50 : decode cX12_broken 50 = .ok (.if_icmp .eq 7, 3) := dAt wdX12_broken_30 adX12_broken_30.2.2.2.2.2.2.2.2.2.2.2.2.2.1 rfl
theorem dX12_broken_53 : decode cX12_broken 53 = .ok (.iconst 1, 1) := dAt wdX12_broken_30 adX12_broken_30.2.2.2.2.2.2.2.2.2.2.2.2.2.2.1 rfl
theorem dX12_broken_54 : decode cX12_broken 54 = .ok (.goto 4, 3) := dAt wdX12_broken_30 adX12_broken_30.2.2.2.2.2.2.2.2.2.2.2.2.2.2.2 rfl
def bdX12_broken_57 : ByteArray := .mk #[3, 54, 4, 42, 180, 0, 8, 29, 28, 153, 0, 7, 4, 167, 0, 4, 3, 79, 21, 4, 172]
theorem wdX12_broken_57 : LocW cX12_broken 57 bdX12_broken_57 := loc_of (by decide +kernel)
theorem adX12_broken_57 : De bdX12_broken_57 0 (.iconst 0) 1 ∧ De bdX12_broken_57 1 (.istore 4) 2 ∧ De bdX12_broken_57 3 (.aload_n 0) 1 ∧ De bdX12_broken_57 4 (.getfield 8) 3 ∧ De bdX12_broken_57 7 (.iload_n 3) 1 ∧ De bdX12_broken_57 8 (.iload_n 2) 1 ∧ De bdX12_broken_57 9 (.ifCond .eq 7) 3 ∧ De bdX12_broken_57 12 (.iconst 1) 1 ∧ De bdX12_broken_57 13 (.goto 4) 3 ∧ De bdX12_broken_57 16 (.iconst 0) 1 ∧ De bdX12_broken_57 17 (.iastore) 1 ∧ De bdX12_broken_57 18 (.iload 4) 2 ∧ De bdX12_broken_57 20 (.ireturn) 1 := by decide +kernel
theorem dX12_broken_57 : decode cX12_broken 57 = .ok (.iconst 0, 1) := dAt wdX12_broken_57 adX12_broken_57.1 rfl
theorem dX12_broken_58 : decode cX12_broken 58 = .ok (.istore 4, 2) := dAt wdX12_broken_57 adX12_broken_57.2.1 rfl
theorem dX12_broken_60 : decode cX12_broken 60 = .ok (.aload_n 0, 1) := dAt wdX12_broken_57 adX12_broken_57.2.2.1 rfl
theorem dX12_broken_61 : decode cX12_broken 61 = .ok (.getfield 8, 3) := dAt wdX12_broken_57 adX12_broken_57.2.2.2.1 rfl
theorem dX12_broken_64 : decode cX12_broken 64 = .ok (.iload_n 3, 1) := dAt wdX12_broken_57 adX12_broken_57.2.2.2.2.1 rfl
theorem dX12_broken_65 : decode cX12_broken 65 = .ok (.iload_n 2, 1) := dAt wdX12_broken_57 adX12_broken_57.2.2.2.2.2.1 rfl
theorem dX12_broken_66 : decode cX12_broken 66 = .ok (.ifCond .eq 7, 3) := dAt wdX12_broken_57 adX12_broken_57.2.2.2.2.2.2.1 rfl
theorem dX12_broken_69 : decode cX12_broken 69 = .ok (.iconst 1, 1) := dAt wdX12_broken_57 adX12_broken_57.2.2.2.2.2.2.2.1 rfl
theorem dX12_broken_70 : decode cX12_broken 70 = .ok (.goto 4, 3) := dAt wdX12_broken_57 adX12_broken_57.2.2.2.2.2.2.2.2.1 rfl
theorem dX12_broken_73 : decode cX12_broken 73 = .ok (.iconst 0, 1) := dAt wdX12_broken_57 adX12_broken_57.2.2.2.2.2.2.2.2.2.1 rfl
theorem dX12_broken_74 : decode cX12_broken 74 = .ok (.iastore, 1) := dAt wdX12_broken_57 adX12_broken_57.2.2.2.2.2.2.2.2.2.2.1 rfl
theorem dX12_broken_75 : decode cX12_broken 75 = .ok (.iload 4, 2) := dAt wdX12_broken_57 adX12_broken_57.2.2.2.2.2.2.2.2.2.2.2.1 rfl
theorem dX12_broken_77 : decode cX12_broken 77 = .ok (.ireturn, 1) := dAt wdX12_broken_57 adX12_broken_57.2.2.2.2.2.2.2.2.2.2.2.2 rfl
def bdX12_queues_0 : ByteArray := .mk #[27, 184, 1, 104, 54, 7, 21, 7, 16, 33, 96, 8, 42, 180, 0, 8, 21, 7, 16, 29, 96, 46, 104, 96, 54, 8]
theorem wdX12_queues_0 : LocW cX12_queues 0 bdX12_queues_0 := loc_of (by decide +kernel)
theorem adX12_queues_0 : De bdX12_queues_0 0 (.iload_n 1) 1 ∧ De bdX12_queues_0 1 (.invokestatic 360) 3 ∧ De bdX12_queues_0 4 (.istore 7) 2 ∧ De bdX12_queues_0 6 (.iload 7) 2 ∧ De bdX12_queues_0 8 (.bipush 33) 2 ∧ De bdX12_queues_0 10 (.iadd) 1 ∧ De bdX12_queues_0 11 (.iconst 5) 1 ∧ De bdX12_queues_0 12 (.aload_n 0) 1 ∧ De bdX12_queues_0 13 (.getfield 8) 3 ∧ De bdX12_queues_0 16 (.iload 7) 2 ∧ De bdX12_queues_0 18 (.bipush 29) 2 ∧ De bdX12_queues_0 20 (.iadd) 1 ∧ De bdX12_queues_0 21 (.iaload) 1 ∧ De bdX12_queues_0 22 (.imul) 1 ∧ De bdX12_queues_0 23 (.iadd) 1 ∧ De bdX12_queues_0 24 (.istore 8) 2 := by decide +kernel
theorem dX12_queues_0 : decode cX12_queues 0 = .ok (.iload_n 1, 1) := dAt wdX12_queues_0 adX12_queues_0.1 rfl
theorem dX12_queues_1 : decode cX12_queues 1 = .ok (.invokestatic 360, 3) := dAt wdX12_queues_0 adX12_queues_0.2.1 rfl
theorem dX12_queues_4 : decode cX12_queues 4 = .ok (.istore 7, 2) := dAt wdX12_queues_0 adX12_queues_0.2.2.1 rfl
theorem dX12_queues_6 : decode cX12_queues 6 = .ok (.iload 7, 2) := dAt wdX12_queues_0 adX12_queues_0.2.2.2.1 rfl
theorem dX12_queues_8 : decode cX12_queues 8 = .ok (.bipush 33, 2) := dAt wdX12_queues_0 adX12_queues_0.2.2.2.2.1 rfl
theorem dX12_queues_10 : decode cX12_queues 10 = .ok (.iadd, 1) := dAt wdX12_queues_0 adX12_queues_0.2.2.2.2.2.1 rfl
theorem dX12_queues_11 : decode cX12_queues 11 = .ok (.iconst 5, 1) := dAt wdX12_queues_0 adX12_queues_0.2.2.2.2.2.2.1 rfl
theorem dX12_queues_12 : decode cX12_queues 12 = .ok (.aload_n 0, 1) := dAt wdX12_queues_0 adX12_queues_0.2.2.2.2.2.2.2.1 rfl
theorem dX12_queues_13 : decode cX12_queues 13 = .ok (.getfield 8, 3) := dAt wdX12_queues_0 adX12_queues_0.2.2.2.2.2.2.2.2.1 rfl
theorem dX12_queues_16 : decode cX12_queues 16 = .ok (.iload 7, 2) := dAt wdX12_queues_0 adX12_queues_0.2.2.2.2.2.2.2.2.2.1 rfl
theorem dX12_queues_18 : decode cX12_queues 18 = .ok (.bipush 29, 2) := dAt wdX12_queues_0 adX12_queues_0.2.2.2.2.2.2.2.2.2.2.1 rfl
theorem dX12_queues_20 : decode cX12_queues 20 = .ok (.iadd, 1) := dAt wdX12_queues_0 adX12_queues_0.2.2.2.2.2.2.2.2.2.2.2.1 rfl
theorem dX12_queues_21 : decode cX12_queues 21 = .ok (.iaload, 1) := dAt wdX12_queues_0 adX12_queues_0.2.2.2.2.2.2.2.2.2.2.2.2.1 rfl
theorem dX12_queues_22 : decode cX12_queues 22 = .ok (.imul, 1) := dAt wdX12_queues_0 adX12_queues_0.2.2.2.2.2.2.2.2.2.2.2.2.2.1 rfl
theorem dX12_queues_23 : decode cX12_queues 23 = .ok (.iadd, 1) := dAt wdX12_queues_0 adX12_queues_0.2.2.2.2.2.2.2.2.2.2.2.2.2.2.1 rfl
theorem dX12_queues_24 : decode cX12_queues 24 = .ok (.istore 8, 2) := dAt wdX12_queues_0 adX12_queues_0.2.2.2.2.2.2.2.2.2.2.2.2.2.2.2 rfl
def bdX12_queues_26 : ByteArray := .mk #[42, 180, 0, 8, 21, 8, 28, 79, 42, 180, 0, 8, 21, 8, 4, 96, 29, 79, 42, 180, 0, 8, 21, 8, 5]
theorem wdX12_queues_26 : LocW cX12_queues 26 bdX12_queues_26 := loc_of (by decide +kernel)
theorem adX12_queues_26 : De bdX12_queues_26 0 (.aload_n 0) 1 ∧ De bdX12_queues_26 1 (.getfield 8) 3 ∧ De bdX12_queues_26 4 (.iload 8) 2 ∧ De bdX12_queues_26 6 (.iload_n 2) 1 ∧ De bdX12_queues_26 7 (.iastore) 1 ∧ De bdX12_queues_26 8 (.aload_n 0) 1 ∧ De bdX12_queues_26 9 (.getfield 8) 3 ∧ De bdX12_queues_26 12 (.iload 8) 2 ∧ De bdX12_queues_26 14 (.iconst 1) 1 ∧ De bdX12_queues_26 15 (.iadd) 1 ∧ De bdX12_queues_26 16 (.iload_n 3) 1 ∧ De bdX12_queues_26 17 (.iastore) 1 ∧ De bdX12_queues_26 18 (.aload_n 0) 1 ∧ De bdX12_queues_26 19 (.getfield 8) 3 ∧ De bdX12_queues_26 22 (.iload 8) 2 ∧ De bdX12_queues_26 24 (.iconst 2) 1 := by decide +kernel
theorem dX12_queues_26 : decode cX12_queues 26 = .ok (.aload_n 0, 1) := dAt wdX12_queues_26 adX12_queues_26.1 rfl
theorem dX12_queues_27 : decode cX12_queues 27 = .ok (.getfield 8, 3) := dAt wdX12_queues_26 adX12_queues_26.2.1 rfl
theorem dX12_queues_30 : decode cX12_queues 30 = .ok (.iload 8, 2) := dAt wdX12_queues_26 adX12_queues_26.2.2.1 rfl
theorem dX12_queues_32 : decode cX12_queues 32 = .ok (.iload_n 2, 1) := dAt wdX12_queues_26 adX12_queues_26.2.2.2.1 rfl
theorem dX12_queues_33 : decode cX12_queues 33 = .ok (.iastore, 1) := dAt wdX12_queues_26 adX12_queues_26.2.2.2.2.1 rfl
theorem dX12_queues_34 : decode cX12_queues 34 = .ok (.aload_n 0, 1) := dAt wdX12_queues_26 adX12_queues_26.2.2.2.2.2.1 rfl
theorem dX12_queues_35 : decode cX12_queues 35 = .ok (.getfield 8, 3) := dAt wdX12_queues_26 adX12_queues_26.2.2.2.2.2.2.1 rfl
theorem dX12_queues_38 : decode cX12_queues 38 = .ok (.iload 8, 2) := dAt wdX12_queues_26 adX12_queues_26.2.2.2.2.2.2.2.1 rfl
theorem dX12_queues_40 : decode cX12_queues 40 = .ok (.iconst 1, 1) := dAt wdX12_queues_26 adX12_queues_26.2.2.2.2.2.2.2.2.1 rfl
theorem dX12_queues_41 : decode cX12_queues 41 = .ok (.iadd, 1) := dAt wdX12_queues_26 adX12_queues_26.2.2.2.2.2.2.2.2.2.1 rfl
theorem dX12_queues_42 : decode cX12_queues 42 = .ok (.iload_n 3, 1) := dAt wdX12_queues_26 adX12_queues_26.2.2.2.2.2.2.2.2.2.2.1 rfl
theorem dX12_queues_43 : decode cX12_queues 43 = .ok (.iastore, 1) := dAt wdX12_queues_26 adX12_queues_26.2.2.2.2.2.2.2.2.2.2.2.1 rfl
theorem dX12_queues_44 : decode cX12_queues 44 = .ok (.aload_n 0, 1) := dAt wdX12_queues_26 adX12_queues_26.2.2.2.2.2.2.2.2.2.2.2.2.1 rfl
theorem dX12_queues_45 : decode cX12_queues 45 = .ok (.getfield 8, 3) := dAt wdX12_queues_26 adX12_queues_26.2.2.2.2.2.2.2.2.2.2.2.2.2.1 rfl
theorem dX12_queues_48 : decode cX12_queues 48 = .ok (.iload 8, 2) := dAt wdX12_queues_26 adX12_queues_26.2.2.2.2.2.2.2.2.2.2.2.2.2.2.1 rfl
theorem dX12_queues_50 : decode cX12_queues 50 = .ok (.iconst 2, 1) := dAt wdX12_queues_26 adX12_queues_26.2.2.2.2.2.2.2.2.2.2.2.2.2.2.2 rfl
def bdX12_queues_51 : ByteArray := .mk #[96, 21, 4, 79, 42, 180, 0, 8, 21, 8, 6, 96, 21, 5, 79, 42, 180, 0, 8, 21, 8, 7, 96, 21, 6]
theorem wdX12_queues_51 : LocW cX12_queues 51 bdX12_queues_51 := loc_of (by decide +kernel)
theorem adX12_queues_51 : De bdX12_queues_51 0 (.iadd) 1 ∧ De bdX12_queues_51 1 (.iload 4) 2 ∧ De bdX12_queues_51 3 (.iastore) 1 ∧ De bdX12_queues_51 4 (.aload_n 0) 1 ∧ De bdX12_queues_51 5 (.getfield 8) 3 ∧ De bdX12_queues_51 8 (.iload 8) 2 ∧ De bdX12_queues_51 10 (.iconst 3) 1 ∧ De bdX12_queues_51 11 (.iadd) 1 ∧ De bdX12_queues_51 12 (.iload 5) 2 ∧ De bdX12_queues_51 14 (.iastore) 1 ∧ De bdX12_queues_51 15 (.aload_n 0) 1 ∧ De bdX12_queues_51 16 (.getfield 8) 3 ∧ De bdX12_queues_51 19 (.iload 8) 2 ∧ De bdX12_queues_51 21 (.iconst 4) 1 ∧ De bdX12_queues_51 22 (.iadd) 1 ∧ De bdX12_queues_51 23 (.iload 6) 2 := by decide +kernel
theorem dX12_queues_51 : decode cX12_queues 51 = .ok (.iadd, 1) := dAt wdX12_queues_51 adX12_queues_51.1 rfl
theorem dX12_queues_52 : decode cX12_queues 52 = .ok (.iload 4, 2) := dAt wdX12_queues_51 adX12_queues_51.2.1 rfl
theorem dX12_queues_54 : decode cX12_queues 54 = .ok (.iastore, 1) := dAt wdX12_queues_51 adX12_queues_51.2.2.1 rfl
theorem dX12_queues_55 : decode cX12_queues 55 = .ok (.aload_n 0, 1) := dAt wdX12_queues_51 adX12_queues_51.2.2.2.1 rfl
theorem dX12_queues_56 : decode cX12_queues 56 = .ok (.getfield 8, 3) := dAt wdX12_queues_51 adX12_queues_51.2.2.2.2.1 rfl
theorem dX12_queues_59 : decode cX12_queues 59 = .ok (.iload 8, 2) := dAt wdX12_queues_51 adX12_queues_51.2.2.2.2.2.1 rfl
theorem dX12_queues_61 : decode cX12_queues 61 = .ok (.iconst 3, 1) := dAt wdX12_queues_51 adX12_queues_51.2.2.2.2.2.2.1 rfl
theorem dX12_queues_62 : decode cX12_queues 62 = .ok (.iadd, 1) := dAt wdX12_queues_51 adX12_queues_51.2.2.2.2.2.2.2.1 rfl
theorem dX12_queues_63 : decode cX12_queues 63 = .ok (.iload 5, 2) := dAt wdX12_queues_51 adX12_queues_51.2.2.2.2.2.2.2.2.1 rfl
theorem dX12_queues_65 : decode cX12_queues 65 = .ok (.iastore, 1) := dAt wdX12_queues_51 adX12_queues_51.2.2.2.2.2.2.2.2.2.1 rfl
theorem dX12_queues_66 : decode cX12_queues 66 = .ok (.aload_n 0, 1) := dAt wdX12_queues_51 adX12_queues_51.2.2.2.2.2.2.2.2.2.2.1 rfl
theorem dX12_queues_67 : decode cX12_queues 67 = .ok (.getfield 8, 3) := dAt wdX12_queues_51 adX12_queues_51.2.2.2.2.2.2.2.2.2.2.2.1 rfl
theorem dX12_queues_70 : decode cX12_queues 70 = .ok (.iload 8, 2) := dAt wdX12_queues_51 adX12_queues_51.2.2.2.2.2.2.2.2.2.2.2.2.1 rfl
theorem dX12_queues_72 : decode cX12_queues 72 = .ok (.iconst 4, 1) := dAt wdX12_queues_51 adX12_queues_51.2.2.2.2.2.2.2.2.2.2.2.2.2.1 rfl
theorem dX12_queues_73 : decode cX12_queues 73 = .ok (.iadd, 1) := dAt wdX12_queues_51 adX12_queues_51.2.2.2.2.2.2.2.2.2.2.2.2.2.2.1 rfl
theorem dX12_queues_74 : decode cX12_queues 74 = .ok (.iload 6, 2) := dAt wdX12_queues_51 adX12_queues_51.2.2.2.2.2.2.2.2.2.2.2.2.2.2.2 rfl
def bdX12_queues_76 : ByteArray := .mk #[79, 42, 180, 0, 8, 21, 7, 16, 29, 96, 92, 46, 4, 96, 79, 42, 180, 0, 8, 21, 7, 16, 29, 96]
theorem wdX12_queues_76 : LocW cX12_queues 76 bdX12_queues_76 := loc_of (by decide +kernel)
theorem adX12_queues_76 : De bdX12_queues_76 0 (.iastore) 1 ∧ De bdX12_queues_76 1 (.aload_n 0) 1 ∧ De bdX12_queues_76 2 (.getfield 8) 3 ∧ De bdX12_queues_76 5 (.iload 7) 2 ∧ De bdX12_queues_76 7 (.bipush 29) 2 ∧ De bdX12_queues_76 9 (.iadd) 1 ∧ De bdX12_queues_76 10 (.dup2) 1 ∧ De bdX12_queues_76 11 (.iaload) 1 ∧ De bdX12_queues_76 12 (.iconst 1) 1 ∧ De bdX12_queues_76 13 (.iadd) 1 ∧ De bdX12_queues_76 14 (.iastore) 1 ∧ De bdX12_queues_76 15 (.aload_n 0) 1 ∧ De bdX12_queues_76 16 (.getfield 8) 3 ∧ De bdX12_queues_76 19 (.iload 7) 2 ∧ De bdX12_queues_76 21 (.bipush 29) 2 ∧ De bdX12_queues_76 23 (.iadd) 1 := by decide +kernel
theorem dX12_queues_76 : decode cX12_queues 76 = .ok (.iastore, 1) := dAt wdX12_queues_76 adX12_queues_76.1 rfl
theorem dX12_queues_77 : decode cX12_queues 77 = .ok (.aload_n 0, 1) := dAt wdX12_queues_76 adX12_queues_76.2.1 rfl
theorem dX12_queues_78 : decode cX12_queues 78 = .ok (.getfield 8, 3) := dAt wdX12_queues_76 adX12_queues_76.2.2.1 rfl
theorem dX12_queues_81 : decode cX12_queues 81 = .ok (.iload 7, 2) := dAt wdX12_queues_76 adX12_queues_76.2.2.2.1 rfl
theorem dX12_queues_83 : decode cX12_queues 83 = .ok (.bipush 29, 2) := dAt wdX12_queues_76 adX12_queues_76.2.2.2.2.1 rfl
theorem dX12_queues_85 : decode cX12_queues 85 = .ok (.iadd, 1) := dAt wdX12_queues_76 adX12_queues_76.2.2.2.2.2.1 rfl
theorem dX12_queues_86 : decode cX12_queues 86 = .ok (.dup2, 1) := dAt wdX12_queues_76 adX12_queues_76.2.2.2.2.2.2.1 rfl
theorem dX12_queues_87 : decode cX12_queues 87 = .ok (.iaload, 1) := dAt wdX12_queues_76 adX12_queues_76.2.2.2.2.2.2.2.1 rfl
theorem dX12_queues_88 : decode cX12_queues 88 = .ok (.iconst 1, 1) := dAt wdX12_queues_76 adX12_queues_76.2.2.2.2.2.2.2.2.1 rfl
theorem dX12_queues_89 : decode cX12_queues 89 = .ok (.iadd, 1) := dAt wdX12_queues_76 adX12_queues_76.2.2.2.2.2.2.2.2.2.1 rfl
theorem dX12_queues_90 : decode cX12_queues 90 = .ok (.iastore, 1) := dAt wdX12_queues_76 adX12_queues_76.2.2.2.2.2.2.2.2.2.2.1 rfl
theorem dX12_queues_91 : decode cX12_queues 91 = .ok (.aload_n 0, 1) := dAt wdX12_queues_76 adX12_queues_76.2.2.2.2.2.2.2.2.2.2.2.1 rfl
theorem dX12_queues_92 : decode cX12_queues 92 = .ok (.getfield 8, 3) := dAt wdX12_queues_76 adX12_queues_76.2.2.2.2.2.2.2.2.2.2.2.2.1 rfl
theorem dX12_queues_95 : decode cX12_queues 95 = .ok (.iload 7, 2) := dAt wdX12_queues_76 adX12_queues_76.2.2.2.2.2.2.2.2.2.2.2.2.2.1 rfl
theorem dX12_queues_97 : decode cX12_queues 97 = .ok (.bipush 29, 2) := dAt wdX12_queues_76 adX12_queues_76.2.2.2.2.2.2.2.2.2.2.2.2.2.2.1 rfl
theorem dX12_queues_99 : decode cX12_queues 99 = .ok (.iadd, 1) := dAt wdX12_queues_76 adX12_queues_76.2.2.2.2.2.2.2.2.2.2.2.2.2.2.2 rfl
def bdX12_queues_100 : ByteArray := .mk #[46, 172]
theorem wdX12_queues_100 : LocW cX12_queues 100 bdX12_queues_100 := loc_of (by decide +kernel)
theorem adX12_queues_100 : De bdX12_queues_100 0 (.iaload) 1 ∧ De bdX12_queues_100 1 (.ireturn) 1 := by decide +kernel
theorem dX12_queues_100 : decode cX12_queues 100 = .ok (.iaload, 1) := dAt wdX12_queues_100 adX12_queues_100.1 rfl
theorem dX12_queues_101 : decode cX12_queues 101 = .ok (.ireturn, 1) := dAt wdX12_queues_100 adX12_queues_100.2 rfl
def bdX12_give_0 : ByteArray := .mk #[42, 42, 27, 182, 1, 55, 153, 0, 11, 42, 28, 182, 1, 107, 154, 0, 7, 4, 167, 0, 4, 3, 181, 0, 122, 42, 180, 0, 122, 158, 0, 5]
theorem wdX12_give_0 : LocW cX12_give 0 bdX12_give_0 := loc_of (by decide +kernel)
theorem adX12_give_0 : De bdX12_give_0 0 (.aload_n 0) 1 ∧ De bdX12_give_0 1 (.aload_n 0) 1 ∧ De bdX12_give_0 2 (.iload_n 1) 1 ∧ De bdX12_give_0 3 (.invokevirtual 311) 3 ∧ De bdX12_give_0 6 (.ifCond .eq 11) 3 ∧ De bdX12_give_0 9 (.aload_n 0) 1 ∧ De bdX12_give_0 10 (.iload_n 2) 1 ∧ De bdX12_give_0 11 (.invokevirtual 363) 3 ∧ De bdX12_give_0 14 (.ifCond .ne 7) 3 ∧ De bdX12_give_0 17 (.iconst 1) 1 ∧ De bdX12_give_0 18 (.goto 4) 3 ∧ De bdX12_give_0 21 (.iconst 0) 1 ∧ De bdX12_give_0 22 (.putfield 122) 3 ∧ De bdX12_give_0 25 (.aload_n 0) 1 ∧ De bdX12_give_0 26 (.getfield 122) 3 ∧ De bdX12_give_0 29 (.ifCond .le 5) 3 := by decide +kernel
theorem dX12_give_0 : decode cX12_give 0 = .ok (.aload_n 0, 1) := dAt wdX12_give_0 adX12_give_0.1 rfl
theorem dX12_give_1 : decode cX12_give 1 = .ok (.aload_n 0, 1) := dAt wdX12_give_0 adX12_give_0.2.1 rfl
theorem dX12_give_2 : decode cX12_give 2 = .ok (.iload_n 1, 1) := dAt wdX12_give_0 adX12_give_0.2.2.1 rfl
theorem dX12_give_3 : decode cX12_give 3 = .ok (.invokevirtual 311, 3) := dAt wdX12_give_0 adX12_give_0.2.2.2.1 rfl
theorem dX12_give_6 : decode cX12_give 6 = .ok (.ifCond .eq 11, 3) := dAt wdX12_give_0 adX12_give_0.2.2.2.2.1 rfl
theorem dX12_give_9 : decode cX12_give 9 = .ok (.aload_n 0, 1) := dAt wdX12_give_0 adX12_give_0.2.2.2.2.2.1 rfl
theorem dX12_give_10 : decode cX12_give 10 = .ok (.iload_n 2, 1) := dAt wdX12_give_0 adX12_give_0.2.2.2.2.2.2.1 rfl
theorem dX12_give_11 : decode cX12_give 11 = .ok (.invokevirtual 363, 3) := dAt wdX12_give_0 adX12_give_0.2.2.2.2.2.2.2.1 rfl
theorem dX12_give_14 : decode cX12_give 14 = .ok (.ifCond .ne 7, 3) := dAt wdX12_give_0 adX12_give_0.2.2.2.2.2.2.2.2.1 rfl
theorem dX12_give_17 : decode cX12_give 17 = .ok (.iconst 1, 1) := dAt wdX12_give_0 adX12_give_0.2.2.2.2.2.2.2.2.2.1 rfl
theorem dX12_give_18 : decode cX12_give 18 = .ok (.goto 4, 3) := dAt wdX12_give_0 adX12_give_0.2.2.2.2.2.2.2.2.2.2.1 rfl
theorem dX12_give_21 : decode cX12_give 21 = .ok (.iconst 0, 1) := dAt wdX12_give_0 adX12_give_0.2.2.2.2.2.2.2.2.2.2.2.1 rfl
theorem dX12_give_22 : decode cX12_give 22 = .ok (.putfield 122, 3) := dAt wdX12_give_0 adX12_give_0.2.2.2.2.2.2.2.2.2.2.2.2.1 rfl
theorem dX12_give_25 : decode cX12_give 25 = .ok (.aload_n 0, 1) := dAt wdX12_give_0 adX12_give_0.2.2.2.2.2.2.2.2.2.2.2.2.2.1 rfl
theorem dX12_give_26 : decode cX12_give 26 = .ok (.getfield 122, 3) := dAt wdX12_give_0 adX12_give_0.2.2.2.2.2.2.2.2.2.2.2.2.2.2.1 rfl
theorem dX12_give_29 : decode cX12_give 29 = .ok (.ifCond .le 5, 3) := dAt wdX12_give_0 adX12_give_0.2.2.2.2.2.2.2.2.2.2.2.2.2.2.2 rfl
def bdX12_give_32 : ByteArray := .mk #[3, 172, 27, 184, 0, 164, 62, 42, 180, 0, 8, 29, 5, 96, 46, 4, 160, 0, 7, 4, 167, 0, 4, 3]
theorem wdX12_give_32 : LocW cX12_give 32 bdX12_give_32 := loc_of (by decide +kernel)
theorem adX12_give_32 : De bdX12_give_32 0 (.iconst 0) 1 ∧ De bdX12_give_32 1 (.ireturn) 1 ∧ De bdX12_give_32 2 (.iload_n 1) 1 ∧ De bdX12_give_32 3 (.invokestatic 164) 3 ∧ De bdX12_give_32 6 (.istore_n 3) 1 ∧ De bdX12_give_32 7 (.aload_n 0) 1 ∧ De bdX12_give_32 8 (.getfield 8) 3 ∧ De bdX12_give_32 11 (.iload_n 3) 1 ∧ De bdX12_give_32 12 (.iconst 2) 1 ∧ De bdX12_give_32 13 (.iadd) 1 ∧ De bdX12_give_32 14 (.iaload) 1 ∧ De bdX12_give_32 15 (.iconst 1) 1 ∧ De bdX12_give_32 16 (.if_icmp .ne 7) 3 ∧ De bdX12_give_32 19 (.iconst 1) 1 ∧ De bdX12_give_32 20 (.goto 4) 3 ∧ De bdX12_give_32 23 (.iconst 0) 1 := by decide +kernel
theorem dX12_give_32 : decode cX12_give 32 = .ok (.iconst 0, 1) := dAt wdX12_give_32 adX12_give_32.1 rfl
theorem dX12_give_33 : decode cX12_give 33 = .ok (.ireturn, 1) := dAt wdX12_give_32 adX12_give_32.2.1 rfl
theorem dX12_give_34 : decode cX12_give 34 = .ok (.iload_n 1, 1) := dAt wdX12_give_32 adX12_give_32.2.2.1 rfl
theorem dX12_give_35 : decode cX12_give 35 = .ok (.invokestatic 164, 3) := dAt wdX12_give_32 adX12_give_32.2.2.2.1 rfl
theorem dX12_give_38 : decode cX12_give 38 = .ok (.istore_n 3, 1) := dAt wdX12_give_32 adX12_give_32.2.2.2.2.1 rfl
theorem dX12_give_39 : decode cX12_give 39 = .ok (.aload_n 0, 1) := dAt wdX12_give_32 adX12_give_32.2.2.2.2.2.1 rfl
theorem dX12_give_40 : decode cX12_give 40 = .ok (.getfield 8, 3) := dAt wdX12_give_32 adX12_give_32.2.2.2.2.2.2.1 rfl
theorem dX12_give_43 : decode cX12_give 43 = .ok (.iload_n 3, 1) := dAt wdX12_give_32 adX12_give_32.2.2.2.2.2.2.2.1 rfl
theorem dX12_give_44 : decode cX12_give 44 = .ok (.iconst 2, 1) := dAt wdX12_give_32 adX12_give_32.2.2.2.2.2.2.2.2.1 rfl
theorem dX12_give_45 : decode cX12_give 45 = .ok (.iadd, 1) := dAt wdX12_give_32 adX12_give_32.2.2.2.2.2.2.2.2.2.1 rfl
theorem dX12_give_46 : decode cX12_give 46 = .ok (.iaload, 1) := dAt wdX12_give_32 adX12_give_32.2.2.2.2.2.2.2.2.2.2.1 rfl
theorem dX12_give_47 : decode cX12_give 47 = .ok (.iconst 1, 1) := dAt wdX12_give_32 adX12_give_32.2.2.2.2.2.2.2.2.2.2.2.1 rfl
theorem dX12_give_48 : decode cX12_give 48 = .ok (.if_icmp .ne 7, 3) := dAt wdX12_give_32 adX12_give_32.2.2.2.2.2.2.2.2.2.2.2.2.1 rfl
theorem dX12_give_51 : decode cX12_give 51 = .ok (.iconst 1, 1) := dAt wdX12_give_32 adX12_give_32.2.2.2.2.2.2.2.2.2.2.2.2.2.1 rfl
theorem dX12_give_52 : decode cX12_give 52 = .ok (.goto 4, 3) := dAt wdX12_give_32 adX12_give_32.2.2.2.2.2.2.2.2.2.2.2.2.2.2.1 rfl
theorem dX12_give_55 : decode cX12_give 55 = .ok (.iconst 0, 1) := dAt wdX12_give_32 adX12_give_32.2.2.2.2.2.2.2.2.2.2.2.2.2.2.2 rfl
def bdX12_give_56 : ByteArray := .mk #[54, 4, 42, 180, 0, 8, 28, 184, 1, 104, 16, 29, 96, 46, 16, 30, 162, 0, 7, 4, 167, 0, 4, 3, 54, 5, 42, 21, 5]
theorem wdX12_give_56 : LocW cX12_give 56 bdX12_give_56 := loc_of (by decide +kernel)
theorem adX12_give_56 : De bdX12_give_56 0 (.istore 4) 2 ∧ De bdX12_give_56 2 (.aload_n 0) 1 ∧ De bdX12_give_56 3 (.getfield 8) 3 ∧ De bdX12_give_56 6 (.iload_n 2) 1 ∧ De bdX12_give_56 7 (.invokestatic 360) 3 ∧ De bdX12_give_56 10 (.bipush 29) 2 ∧ De bdX12_give_56 12 (.iadd) 1 ∧ De bdX12_give_56 13 (.iaload) 1 ∧ De bdX12_give_56 14 (.bipush 30) 2 ∧ De bdX12_give_56 16 (.if_icmp .ge 7) 3 ∧ De bdX12_give_56 19 (.iconst 1) 1 ∧ De bdX12_give_56 20 (.goto 4) 3 ∧ De bdX12_give_56 23 (.iconst 0) 1 ∧ De bdX12_give_56 24 (.istore 5) 2 ∧ De bdX12_give_56 26 (.aload_n 0) 1 ∧ De bdX12_give_56 27 (.iload 5) 2 := by decide +kernel
theorem dX12_give_56 : decode cX12_give 56 = .ok (.istore 4, 2) := dAt wdX12_give_56 adX12_give_56.1 rfl
theorem dX12_give_58 : decode cX12_give 58 = .ok (.aload_n 0, 1) := dAt wdX12_give_56 adX12_give_56.2.1 rfl
theorem dX12_give_59 : decode cX12_give 59 = .ok (.getfield 8, 3) := dAt wdX12_give_56 adX12_give_56.2.2.1 rfl
theorem dX12_give_62 : decode cX12_give 62 = .ok (.iload_n 2, 1) := dAt wdX12_give_56 adX12_give_56.2.2.2.1 rfl
theorem dX12_give_63 : decode cX12_give 63 = .ok (.invokestatic 360, 3) := dAt wdX12_give_56 adX12_give_56.2.2.2.2.1 rfl
theorem dX12_give_66 : decode cX12_give 66 = .ok (.bipush 29, 2) := dAt wdX12_give_56 adX12_give_56.2.2.2.2.2.1 rfl
theorem dX12_give_68 : decode cX12_give 68 = .ok (.iadd, 1) := dAt wdX12_give_56 adX12_give_56.2.2.2.2.2.2.1 rfl
theorem dX12_give_69 : decode cX12_give 69 = .ok (.iaload, 1) := dAt wdX12_give_56 adX12_give_56.2.2.2.2.2.2.2.1 rfl
theorem dX12_give_70 : decode cX12_give 70 = .ok (.bipush 30, 2) := dAt wdX12_give_56 adX12_give_56.2.2.2.2.2.2.2.2.1 rfl
theorem dX12_give_72 : decode cX12_give 72 = .ok (.if_icmp .ge 7, 3) := dAt wdX12_give_56 adX12_give_56.2.2.2.2.2.2.2.2.2.1 rfl
theorem dX12_give_75 : decode cX12_give 75 = .ok (.iconst 1, 1) := dAt wdX12_give_56 adX12_give_56.2.2.2.2.2.2.2.2.2.2.1 rfl
theorem dX12_give_76 : decode cX12_give 76 = .ok (.goto 4, 3) := dAt wdX12_give_56 adX12_give_56.2.2.2.2.2.2.2.2.2.2.2.1 rfl
theorem dX12_give_79 : decode cX12_give 79 = .ok (.iconst 0, 1) := dAt wdX12_give_56 adX12_give_56.2.2.2.2.2.2.2.2.2.2.2.2.1 rfl
theorem dX12_give_80 : decode cX12_give 80 = .ok (.istore 5, 2) := dAt wdX12_give_56 adX12_give_56.2.2.2.2.2.2.2.2.2.2.2.2.2.1 rfl
theorem dX12_give_82 : decode cX12_give 82 = .ok (.aload_n 0, 1) := dAt wdX12_give_56 adX12_give_56.2.2.2.2.2.2.2.2.2.2.2.2.2.2.1 rfl
theorem dX12_give_83 : decode cX12_give 83 = .ok (.iload 5, 2) := dAt wdX12_give_56 adX12_give_56.2.2.2.2.2.2.2.2.2.2.2.2.2.2.2 rfl
def bdX12_give_85 : ByteArray := .mk #[154, 0, 7, 5, 167, 0, 4, 3, 181, 0, 122, 42, 180, 0, 122, 158, 0, 5, 3, 172, 21, 4, 153, 0, 5, 2, 172, 42, 180, 0, 8]
theorem wdX12_give_85 : LocW cX12_give 85 bdX12_give_85 := loc_of (by decide +kernel)
theorem adX12_give_85 : De bdX12_give_85 0 (.ifCond .ne 7) 3 ∧ De bdX12_give_85 3 (.iconst 2) 1 ∧ De bdX12_give_85 4 (.goto 4) 3 ∧ De bdX12_give_85 7 (.iconst 0) 1 ∧ De bdX12_give_85 8 (.putfield 122) 3 ∧ De bdX12_give_85 11 (.aload_n 0) 1 ∧ De bdX12_give_85 12 (.getfield 122) 3 ∧ De bdX12_give_85 15 (.ifCond .le 5) 3 ∧ De bdX12_give_85 18 (.iconst 0) 1 ∧ De bdX12_give_85 19 (.ireturn) 1 ∧ De bdX12_give_85 20 (.iload 4) 2 ∧ De bdX12_give_85 22 (.ifCond .eq 5) 3 ∧ De bdX12_give_85 25 (.iconst (-1)) 1 ∧ De bdX12_give_85 26 (.ireturn) 1 ∧ De bdX12_give_85 27 (.aload_n 0) 1 ∧ De bdX12_give_85 28 (.getfield 8) 3 := by decide +kernel
theorem dX12_give_85 : decode cX12_give 85 = .ok (.ifCond .ne 7, 3) := dAt wdX12_give_85 adX12_give_85.1 rfl
theorem dX12_give_88 : decode cX12_give 88 = .ok (.iconst 2, 1) := dAt wdX12_give_85 adX12_give_85.2.1 rfl
theorem dX12_give_89 : decode cX12_give 89 = .ok (.goto 4, 3) := dAt wdX12_give_85 adX12_give_85.2.2.1 rfl
theorem dX12_give_92 : decode cX12_give 92 = .ok (.iconst 0, 1) := dAt wdX12_give_85 adX12_give_85.2.2.2.1 rfl
theorem dX12_give_93 : decode cX12_give 93 = .ok (.putfield 122, 3) := dAt wdX12_give_85 adX12_give_85.2.2.2.2.1 rfl
theorem dX12_give_96 : decode cX12_give 96 = .ok (.aload_n 0, 1) := dAt wdX12_give_85 adX12_give_85.2.2.2.2.2.1 rfl
theorem dX12_give_97 : decode cX12_give 97 = .ok (.getfield 122, 3) := dAt wdX12_give_85 adX12_give_85.2.2.2.2.2.2.1 rfl
theorem dX12_give_100 : decode cX12_give 100 = .ok (.ifCond .le 5, 3) := dAt wdX12_give_85 adX12_give_85.2.2.2.2.2.2.2.1 rfl
theorem dX12_give_103 : decode cX12_give 103 = .ok (.iconst 0, 1) := dAt wdX12_give_85 adX12_give_85.2.2.2.2.2.2.2.2.1 rfl
theorem dX12_give_104 : decode cX12_give 104 = .ok (.ireturn, 1) := dAt wdX12_give_85 adX12_give_85.2.2.2.2.2.2.2.2.2.1 rfl
theorem dX12_give_105 : decode cX12_give 105 = .ok (.iload 4, 2) := dAt wdX12_give_85 adX12_give_85.2.2.2.2.2.2.2.2.2.2.1 rfl
theorem dX12_give_107 : decode cX12_give 107 = .ok (.ifCond .eq 5, 3) := dAt wdX12_give_85 adX12_give_85.2.2.2.2.2.2.2.2.2.2.2.1 rfl
theorem dX12_give_110 : decode cX12_give 110 = .ok (.iconst (-1), 1) := dAt wdX12_give_85 adX12_give_85.2.2.2.2.2.2.2.2.2.2.2.2.1 rfl
theorem dX12_give_111 : decode cX12_give 111 = .ok (.ireturn, 1) := dAt wdX12_give_85 adX12_give_85.2.2.2.2.2.2.2.2.2.2.2.2.2.1 rfl
theorem dX12_give_112 : decode cX12_give 112 = .ok (.aload_n 0, 1) := dAt wdX12_give_85 adX12_give_85.2.2.2.2.2.2.2.2.2.2.2.2.2.2.1 rfl
theorem dX12_give_113 : decode cX12_give 113 = .ok (.getfield 8, 3) := dAt wdX12_give_85 adX12_give_85.2.2.2.2.2.2.2.2.2.2.2.2.2.2.2 rfl
def bdX12_give_116 : ByteArray := .mk #[29, 5, 96, 4, 79, 42, 28, 27, 3, 3, 3, 4, 182, 1, 113, 172]
theorem wdX12_give_116 : LocW cX12_give 116 bdX12_give_116 := loc_of (by decide +kernel)
theorem adX12_give_116 : De bdX12_give_116 0 (.iload_n 3) 1 ∧ De bdX12_give_116 1 (.iconst 2) 1 ∧ De bdX12_give_116 2 (.iadd) 1 ∧ De bdX12_give_116 3 (.iconst 1) 1 ∧ De bdX12_give_116 4 (.iastore) 1 ∧ De bdX12_give_116 5 (.aload_n 0) 1 ∧ De bdX12_give_116 6 (.iload_n 2) 1 ∧ De bdX12_give_116 7 (.iload_n 1) 1 ∧ De bdX12_give_116 8 (.iconst 0) 1 ∧ De bdX12_give_116 9 (.iconst 0) 1 ∧ De bdX12_give_116 10 (.iconst 0) 1 ∧ De bdX12_give_116 11 (.iconst 1) 1 ∧ De bdX12_give_116 12 (.invokevirtual 369) 3 ∧ De bdX12_give_116 15 (.ireturn) 1 := by decide +kernel
theorem dX12_give_116 : decode cX12_give 116 = .ok (.iload_n 3, 1) := dAt wdX12_give_116 adX12_give_116.1 rfl
theorem dX12_give_117 : decode cX12_give 117 = .ok (.iconst 2, 1) := dAt wdX12_give_116 adX12_give_116.2.1 rfl
theorem dX12_give_118 : decode cX12_give 118 = .ok (.iadd, 1) := dAt wdX12_give_116 adX12_give_116.2.2.1 rfl
theorem dX12_give_119 : decode cX12_give 119 = .ok (.iconst 1, 1) := dAt wdX12_give_116 adX12_give_116.2.2.2.1 rfl
theorem dX12_give_120 : decode cX12_give 120 = .ok (.iastore, 1) := dAt wdX12_give_116 adX12_give_116.2.2.2.2.1 rfl
theorem dX12_give_121 : decode cX12_give 121 = .ok (.aload_n 0, 1) := dAt wdX12_give_116 adX12_give_116.2.2.2.2.2.1 rfl
theorem dX12_give_122 : decode cX12_give 122 = .ok (.iload_n 2, 1) := dAt wdX12_give_116 adX12_give_116.2.2.2.2.2.2.1 rfl
theorem dX12_give_123 : decode cX12_give 123 = .ok (.iload_n 1, 1) := dAt wdX12_give_116 adX12_give_116.2.2.2.2.2.2.2.1 rfl
theorem dX12_give_124 : decode cX12_give 124 = .ok (.iconst 0, 1) := dAt wdX12_give_116 adX12_give_116.2.2.2.2.2.2.2.2.1 rfl
theorem dX12_give_125 : decode cX12_give 125 = .ok (.iconst 0, 1) := dAt wdX12_give_116 adX12_give_116.2.2.2.2.2.2.2.2.2.1 rfl
theorem dX12_give_126 : decode cX12_give 126 = .ok (.iconst 0, 1) := dAt wdX12_give_116 adX12_give_116.2.2.2.2.2.2.2.2.2.2.1 rfl
theorem dX12_give_127 : decode cX12_give 127 = .ok (.iconst 1, 1) := dAt wdX12_give_116 adX12_give_116.2.2.2.2.2.2.2.2.2.2.2.1 rfl
theorem dX12_give_128 : decode cX12_give 128 = .ok (.invokevirtual 369, 3) := dAt wdX12_give_116 adX12_give_116.2.2.2.2.2.2.2.2.2.2.2.2.1 rfl
theorem dX12_give_131 : decode cX12_give 131 = .ok (.ireturn, 1) := dAt wdX12_give_116 adX12_give_116.2.2.2.2.2.2.2.2.2.2.2.2.2 rfl
def bdX12_away_0 : ByteArray := .mk #[27, 184, 1, 104, 61, 3, 62, 29, 17, 0, 145, 162, 0, 33, 42, 180, 0, 8, 28, 16, 33, 96, 29, 96, 42]
theorem wdX12_away_0 : LocW cX12_away 0 bdX12_away_0 := loc_of (by decide +kernel)
theorem adX12_away_0 : De bdX12_away_0 0 (.iload_n 1) 1 ∧ De bdX12_away_0 1 (.invokestatic 360) 3 ∧ De bdX12_away_0 4 (.istore_n 2) 1 ∧ De bdX12_away_0 5 (.iconst 0) 1 ∧ De bdX12_away_0 6 (.istore_n 3) 1 ∧ De bdX12_away_0 7 (.iload_n 3) 1 ∧ De bdX12_away_0 8 (.sipush 145) 3 ∧ De bdX12_away_0 11 (.if_icmp .ge 33) 3 ∧ De bdX12_away_0 14 (.aload_n 0) 1 ∧ De bdX12_away_0 15 (.getfield 8) 3 ∧ De bdX12_away_0 18 (.iload_n 2) 1 ∧ De bdX12_away_0 19 (.bipush 33) 2 ∧ De bdX12_away_0 21 (.iadd) 1 ∧ De bdX12_away_0 22 (.iload_n 3) 1 ∧ De bdX12_away_0 23 (.iadd) 1 ∧ De bdX12_away_0 24 (.aload_n 0) 1 := by decide +kernel
theorem dX12_away_0 : decode cX12_away 0 = .ok (.iload_n 1, 1) := dAt wdX12_away_0 adX12_away_0.1 rfl
theorem dX12_away_1 : decode cX12_away 1 = .ok (.invokestatic 360, 3) := dAt wdX12_away_0 adX12_away_0.2.1 rfl
theorem dX12_away_4 : decode cX12_away 4 = .ok (.istore_n 2, 1) := dAt wdX12_away_0 adX12_away_0.2.2.1 rfl
theorem dX12_away_5 : decode cX12_away 5 = .ok (.iconst 0, 1) := dAt wdX12_away_0 adX12_away_0.2.2.2.1 rfl
theorem dX12_away_6 : decode cX12_away 6 = .ok (.istore_n 3, 1) := dAt wdX12_away_0 adX12_away_0.2.2.2.2.1 rfl
theorem dX12_away_7 : decode cX12_away 7 = .ok (.iload_n 3, 1) := dAt wdX12_away_0 adX12_away_0.2.2.2.2.2.1 rfl
theorem dX12_away_8 : decode cX12_away 8 = .ok (.sipush 145, 3) := dAt wdX12_away_0 adX12_away_0.2.2.2.2.2.2.1 rfl
theorem dX12_away_11 : decode cX12_away 11 = .ok (.if_icmp .ge 33, 3) := dAt wdX12_away_0 adX12_away_0.2.2.2.2.2.2.2.1 rfl
theorem dX12_away_14 : decode cX12_away 14 = .ok (.aload_n 0, 1) := dAt wdX12_away_0 adX12_away_0.2.2.2.2.2.2.2.2.1 rfl
theorem dX12_away_15 : decode cX12_away 15 = .ok (.getfield 8, 3) := dAt wdX12_away_0 adX12_away_0.2.2.2.2.2.2.2.2.2.1 rfl
theorem dX12_away_18 : decode cX12_away 18 = .ok (.iload_n 2, 1) := dAt wdX12_away_0 adX12_away_0.2.2.2.2.2.2.2.2.2.2.1 rfl
theorem dX12_away_19 : decode cX12_away 19 = .ok (.bipush 33, 2) := dAt wdX12_away_0 adX12_away_0.2.2.2.2.2.2.2.2.2.2.2.1 rfl
theorem dX12_away_21 : decode cX12_away 21 = .ok (.iadd, 1) := dAt wdX12_away_0 adX12_away_0.2.2.2.2.2.2.2.2.2.2.2.2.1 rfl
theorem dX12_away_22 : decode cX12_away 22 = .ok (.iload_n 3, 1) := dAt wdX12_away_0 adX12_away_0.2.2.2.2.2.2.2.2.2.2.2.2.2.1 rfl
theorem dX12_away_23 : decode cX12_away 23 = .ok (.iadd, 1) := dAt wdX12_away_0 adX12_away_0.2.2.2.2.2.2.2.2.2.2.2.2.2.2.1 rfl
theorem dX12_away_24 : decode cX12_away 24 = .ok (.aload_n 0, 1) := dAt wdX12_away_0 adX12_away_0.2.2.2.2.2.2.2.2.2.2.2.2.2.2.2 rfl
def bdX12_away_25 : ByteArray := .mk #[180, 0, 8, 28, 16, 33, 96, 29, 96, 8, 96, 46, 79, 132, 3, 1, 167, 255, 222, 42, 180, 0, 8, 28, 16, 29]
theorem wdX12_away_25 : LocW cX12_away 25 bdX12_away_25 := loc_of (by decide +kernel)
theorem adX12_away_25 : De bdX12_away_25 0 (.getfield 8) 3 ∧ De bdX12_away_25 3 (.iload_n 2) 1 ∧ De bdX12_away_25 4 (.bipush 33) 2 ∧ De bdX12_away_25 6 (.iadd) 1 ∧ De bdX12_away_25 7 (.iload_n 3) 1 ∧ De bdX12_away_25 8 (.iadd) 1 ∧ De bdX12_away_25 9 (.iconst 5) 1 ∧ De bdX12_away_25 10 (.iadd) 1 ∧ De bdX12_away_25 11 (.iaload) 1 ∧ De bdX12_away_25 12 (.iastore) 1 ∧ De bdX12_away_25 13 (.iinc 3 1) 3 ∧ De bdX12_away_25 16 (.goto (-34)) 3 ∧ De bdX12_away_25 19 (.aload_n 0) 1 ∧ De bdX12_away_25 20 (.getfield 8) 3 ∧ De bdX12_away_25 23 (.iload_n 2) 1 ∧ De bdX12_away_25 24 (.bipush 29) 2 := by decide +kernel
theorem dX12_away_25 : decode cX12_away 25 = .ok (.getfield 8, 3) := dAt wdX12_away_25 adX12_away_25.1 rfl
theorem dX12_away_28 : decode cX12_away 28 = .ok (.iload_n 2, 1) := dAt wdX12_away_25 adX12_away_25.2.1 rfl
theorem dX12_away_29 : decode cX12_away 29 = .ok (.bipush 33, 2) := dAt wdX12_away_25 adX12_away_25.2.2.1 rfl
theorem dX12_away_31 : decode cX12_away 31 = .ok (.iadd, 1) := dAt wdX12_away_25 adX12_away_25.2.2.2.1 rfl
theorem dX12_away_32 : decode cX12_away 32 = .ok (.iload_n 3, 1) := dAt wdX12_away_25 adX12_away_25.2.2.2.2.1 rfl
theorem dX12_away_33 : decode cX12_away 33 = .ok (.iadd, 1) := dAt wdX12_away_25 adX12_away_25.2.2.2.2.2.1 rfl
theorem dX12_away_34 : decode cX12_away 34 = .ok (.iconst 5, 1) := dAt wdX12_away_25 adX12_away_25.2.2.2.2.2.2.1 rfl
theorem dX12_away_35 : decode cX12_away 35 = .ok (.iadd, 1) := dAt wdX12_away_25 adX12_away_25.2.2.2.2.2.2.2.1 rfl
theorem dX12_away_36 : decode cX12_away 36 = .ok (.iaload, 1) := dAt wdX12_away_25 adX12_away_25.2.2.2.2.2.2.2.2.1 rfl
theorem dX12_away_37 : decode cX12_away 37 = .ok (.iastore, 1) := dAt wdX12_away_25 adX12_away_25.2.2.2.2.2.2.2.2.2.1 rfl
theorem dX12_away_38 : decode cX12_away 38 = .ok (.iinc 3 1, 3) := dAt wdX12_away_25 adX12_away_25.2.2.2.2.2.2.2.2.2.2.1 rfl
theorem dX12_away_41 : decode cX12_away 41 = .ok (.goto (-34), 3) := dAt wdX12_away_25 adX12_away_25.2.2.2.2.2.2.2.2.2.2.2.1 rfl
theorem dX12_away_44 : decode cX12_away 44 = .ok (.aload_n 0, 1) := dAt wdX12_away_25 adX12_away_25.2.2.2.2.2.2.2.2.2.2.2.2.1 rfl
theorem dX12_away_45 : decode cX12_away 45 = .ok (.getfield 8, 3) := dAt wdX12_away_25 adX12_away_25.2.2.2.2.2.2.2.2.2.2.2.2.2.1 rfl
theorem dX12_away_48 : decode cX12_away 48 = .ok (.iload_n 2, 1) := dAt wdX12_away_25 adX12_away_25.2.2.2.2.2.2.2.2.2.2.2.2.2.2.1 rfl
theorem dX12_away_49 : decode cX12_away 49 = .ok (.bipush 29, 2) := dAt wdX12_away_25 adX12_away_25.2.2.2.2.2.2.2.2.2.2.2.2.2.2.2 rfl
def bdX12_away_51 : ByteArray := .mk #[96, 92, 46, 4, 100, 79, 177]
theorem wdX12_away_51 : LocW cX12_away 51 bdX12_away_51 := loc_of (by decide +kernel)
theorem adX12_away_51 : De bdX12_away_51 0 (.iadd) 1 ∧ De bdX12_away_51 1 (.dup2) 1 ∧ De bdX12_away_51 2 (.iaload) 1 ∧ De bdX12_away_51 3 (.iconst 1) 1 ∧ De bdX12_away_51 4 (.isub) 1 ∧ De bdX12_away_51 5 (.iastore) 1 ∧ De bdX12_away_51 6 (.return_) 1 := by decide +kernel
theorem dX12_away_51 : decode cX12_away 51 = .ok (.iadd, 1) := dAt wdX12_away_51 adX12_away_51.1 rfl
theorem dX12_away_52 : decode cX12_away 52 = .ok (.dup2, 1) := dAt wdX12_away_51 adX12_away_51.2.1 rfl
theorem dX12_away_53 : decode cX12_away 53 = .ok (.iaload, 1) := dAt wdX12_away_51 adX12_away_51.2.2.1 rfl
theorem dX12_away_54 : decode cX12_away 54 = .ok (.iconst 1, 1) := dAt wdX12_away_51 adX12_away_51.2.2.2.1 rfl
theorem dX12_away_55 : decode cX12_away 55 = .ok (.isub, 1) := dAt wdX12_away_51 adX12_away_51.2.2.2.2.1 rfl
theorem dX12_away_56 : decode cX12_away 56 = .ok (.iastore, 1) := dAt wdX12_away_51 adX12_away_51.2.2.2.2.2.1 rfl
theorem dX12_away_57 : decode cX12_away 57 = .ok (.return_, 1) := dAt wdX12_away_51 adX12_away_51.2.2.2.2.2.2 rfl
def bdX12_spikes_0 : ByteArray := .mk #[42, 180, 0, 8, 27, 184, 1, 104, 16, 32, 96, 92, 46, 4, 96, 79, 42, 27, 182, 1, 117, 177]
theorem wdX12_spikes_0 : LocW cX12_spikes 0 bdX12_spikes_0 := loc_of (by decide +kernel)
theorem adX12_spikes_0 : De bdX12_spikes_0 0 (.aload_n 0) 1 ∧ De bdX12_spikes_0 1 (.getfield 8) 3 ∧ De bdX12_spikes_0 4 (.iload_n 1) 1 ∧ De bdX12_spikes_0 5 (.invokestatic 360) 3 ∧ De bdX12_spikes_0 8 (.bipush 32) 2 ∧ De bdX12_spikes_0 10 (.iadd) 1 ∧ De bdX12_spikes_0 11 (.dup2) 1 ∧ De bdX12_spikes_0 12 (.iaload) 1 ∧ De bdX12_spikes_0 13 (.iconst 1) 1 ∧ De bdX12_spikes_0 14 (.iadd) 1 ∧ De bdX12_spikes_0 15 (.iastore) 1 ∧ De bdX12_spikes_0 16 (.aload_n 0) 1 ∧ De bdX12_spikes_0 17 (.iload_n 1) 1 ∧ De bdX12_spikes_0 18 (.invokevirtual 373) 3 ∧ De bdX12_spikes_0 21 (.return_) 1 := by decide +kernel
theorem dX12_spikes_0 : decode cX12_spikes 0 = .ok (.aload_n 0, 1) := dAt wdX12_spikes_0 adX12_spikes_0.1 rfl
theorem dX12_spikes_1 : decode cX12_spikes 1 = .ok (.getfield 8, 3) := dAt wdX12_spikes_0 adX12_spikes_0.2.1 rfl
theorem dX12_spikes_4 : decode cX12_spikes 4 = .ok (.iload_n 1, 1) := dAt wdX12_spikes_0 adX12_spikes_0.2.2.1 rfl
theorem dX12_spikes_5 : decode cX12_spikes 5 = .ok (.invokestatic 360, 3) := dAt wdX12_spikes_0 adX12_spikes_0.2.2.2.1 rfl
theorem dX12_spikes_8 : decode cX12_spikes 8 = .ok (.bipush 32, 2) := dAt wdX12_spikes_0 adX12_spikes_0.2.2.2.2.1 rfl
theorem dX12_spikes_10 : decode cX12_spikes 10 = .ok (.iadd, 1) := dAt wdX12_spikes_0 adX12_spikes_0.2.2.2.2.2.1 rfl
theorem dX12_spikes_11 : decode cX12_spikes 11 = .ok (.dup2, 1) := dAt wdX12_spikes_0 adX12_spikes_0.2.2.2.2.2.2.1 rfl
theorem dX12_spikes_12 : decode cX12_spikes 12 = .ok (.iaload, 1) := dAt wdX12_spikes_0 adX12_spikes_0.2.2.2.2.2.2.2.1 rfl
theorem dX12_spikes_13 : decode cX12_spikes 13 = .ok (.iconst 1, 1) := dAt wdX12_spikes_0 adX12_spikes_0.2.2.2.2.2.2.2.2.1 rfl
theorem dX12_spikes_14 : decode cX12_spikes 14 = .ok (.iadd, 1) := dAt wdX12_spikes_0 adX12_spikes_0.2.2.2.2.2.2.2.2.2.1 rfl
theorem dX12_spikes_15 : decode cX12_spikes 15 = .ok (.iastore, 1) := dAt wdX12_spikes_0 adX12_spikes_0.2.2.2.2.2.2.2.2.2.2.1 rfl
theorem dX12_spikes_16 : decode cX12_spikes 16 = .ok (.aload_n 0, 1) := dAt wdX12_spikes_0 adX12_spikes_0.2.2.2.2.2.2.2.2.2.2.2.1 rfl
theorem dX12_spikes_17 : decode cX12_spikes 17 = .ok (.iload_n 1, 1) := dAt wdX12_spikes_0 adX12_spikes_0.2.2.2.2.2.2.2.2.2.2.2.2.1 rfl
theorem dX12_spikes_18 : decode cX12_spikes 18 = .ok (.invokevirtual 373, 3) := dAt wdX12_spikes_0 adX12_spikes_0.2.2.2.2.2.2.2.2.2.2.2.2.2.1 rfl
theorem dX12_spikes_21 : decode cX12_spikes 21 = .ok (.return_, 1) := dAt wdX12_spikes_0 adX12_spikes_0.2.2.2.2.2.2.2.2.2.2.2.2.2.2 rfl
def bdX12_runsOn_0 : ByteArray := .mk #[27, 184, 1, 104, 61, 28, 16, 33, 96, 62, 42, 180, 0, 8, 29, 46, 54, 4, 21, 4, 184, 0, 164, 54, 5, 42]
theorem wdX12_runsOn_0 : LocW cX12_runsOn 0 bdX12_runsOn_0 := loc_of (by decide +kernel)
theorem adX12_runsOn_0 : De bdX12_runsOn_0 0 (.iload_n 1) 1 ∧ De bdX12_runsOn_0 1 (.invokestatic 360) 3 ∧ De bdX12_runsOn_0 4 (.istore_n 2) 1 ∧ De bdX12_runsOn_0 5 (.iload_n 2) 1 ∧ De bdX12_runsOn_0 6 (.bipush 33) 2 ∧ De bdX12_runsOn_0 8 (.iadd) 1 ∧ De bdX12_runsOn_0 9 (.istore_n 3) 1 ∧ De bdX12_runsOn_0 10 (.aload_n 0) 1 ∧ De bdX12_runsOn_0 11 (.getfield 8) 3 ∧ De bdX12_runsOn_0 14 (.iload_n 3) 1 ∧ De bdX12_runsOn_0 15 (.iaload) 1 ∧ De bdX12_runsOn_0 16 (.istore 4) 2 ∧ De bdX12_runsOn_0 18 (.iload 4) 2 ∧ De bdX12_runsOn_0 20 (.invokestatic 164) 3 ∧ De bdX12_runsOn_0 23 (.istore 5) 2 ∧ De bdX12_runsOn_0 25 (.aload_n 0) 1 := by decide +kernel
theorem dX12_runsOn_0 : decode cX12_runsOn 0 = .ok (.iload_n 1, 1) := dAt wdX12_runsOn_0 adX12_runsOn_0.1 rfl
theorem dX12_runsOn_1 : decode cX12_runsOn 1 = .ok (.invokestatic 360, 3) := dAt wdX12_runsOn_0 adX12_runsOn_0.2.1 rfl
theorem dX12_runsOn_4 : decode cX12_runsOn 4 = .ok (.istore_n 2, 1) := dAt wdX12_runsOn_0 adX12_runsOn_0.2.2.1 rfl
theorem dX12_runsOn_5 : decode cX12_runsOn 5 = .ok (.iload_n 2, 1) := dAt wdX12_runsOn_0 adX12_runsOn_0.2.2.2.1 rfl
theorem dX12_runsOn_6 : decode cX12_runsOn 6 = .ok (.bipush 33, 2) := dAt wdX12_runsOn_0 adX12_runsOn_0.2.2.2.2.1 rfl
theorem dX12_runsOn_8 : decode cX12_runsOn 8 = .ok (.iadd, 1) := dAt wdX12_runsOn_0 adX12_runsOn_0.2.2.2.2.2.1 rfl
theorem dX12_runsOn_9 : decode cX12_runsOn 9 = .ok (.istore_n 3, 1) := dAt wdX12_runsOn_0 adX12_runsOn_0.2.2.2.2.2.2.1 rfl
theorem dX12_runsOn_10 : decode cX12_runsOn 10 = .ok (.aload_n 0, 1) := dAt wdX12_runsOn_0 adX12_runsOn_0.2.2.2.2.2.2.2.1 rfl
theorem dX12_runsOn_11 : decode cX12_runsOn 11 = .ok (.getfield 8, 3) := dAt wdX12_runsOn_0 adX12_runsOn_0.2.2.2.2.2.2.2.2.1 rfl
theorem dX12_runsOn_14 : decode cX12_runsOn 14 = .ok (.iload_n 3, 1) := dAt wdX12_runsOn_0 adX12_runsOn_0.2.2.2.2.2.2.2.2.2.1 rfl
theorem dX12_runsOn_15 : decode cX12_runsOn 15 = .ok (.iaload, 1) := dAt wdX12_runsOn_0 adX12_runsOn_0.2.2.2.2.2.2.2.2.2.2.1 rfl
theorem dX12_runsOn_16 : decode cX12_runsOn 16 = .ok (.istore 4, 2) := dAt wdX12_runsOn_0 adX12_runsOn_0.2.2.2.2.2.2.2.2.2.2.2.1 rfl
theorem dX12_runsOn_18 : decode cX12_runsOn 18 = .ok (.iload 4, 2) := dAt wdX12_runsOn_0 adX12_runsOn_0.2.2.2.2.2.2.2.2.2.2.2.2.1 rfl
theorem dX12_runsOn_20 : decode cX12_runsOn 20 = .ok (.invokestatic 164, 3) := dAt wdX12_runsOn_0 adX12_runsOn_0.2.2.2.2.2.2.2.2.2.2.2.2.2.1 rfl
theorem dX12_runsOn_23 : decode cX12_runsOn 23 = .ok (.istore 5, 2) := dAt wdX12_runsOn_0 adX12_runsOn_0.2.2.2.2.2.2.2.2.2.2.2.2.2.2.1 rfl
theorem dX12_runsOn_25 : decode cX12_runsOn 25 = .ok (.aload_n 0, 1) := dAt wdX12_runsOn_0 adX12_runsOn_0.2.2.2.2.2.2.2.2.2.2.2.2.2.2.2 rfl
def bdX12_runsOn_26 : ByteArray := .mk #[180, 0, 8, 21, 5, 6, 96, 46, 154, 0, 121, 42, 21, 4, 42, 180, 0, 8, 3, 46, 182, 1, 89, 42, 180, 0, 55, 3]
theorem wdX12_runsOn_26 : LocW cX12_runsOn 26 bdX12_runsOn_26 := loc_of (by decide +kernel)
theorem adX12_runsOn_26 : De bdX12_runsOn_26 0 (.getfield 8) 3 ∧ De bdX12_runsOn_26 3 (.iload 5) 2 ∧ De bdX12_runsOn_26 5 (.iconst 3) 1 ∧ De bdX12_runsOn_26 6 (.iadd) 1 ∧ De bdX12_runsOn_26 7 (.iaload) 1 ∧ De bdX12_runsOn_26 8 (.ifCond .ne 121) 3 ∧ De bdX12_runsOn_26 11 (.aload_n 0) 1 ∧ De bdX12_runsOn_26 12 (.iload 4) 2 ∧ De bdX12_runsOn_26 14 (.aload_n 0) 1 ∧ De bdX12_runsOn_26 15 (.getfield 8) 3 ∧ De bdX12_runsOn_26 18 (.iconst 0) 1 ∧ De bdX12_runsOn_26 19 (.iaload) 1 ∧ De bdX12_runsOn_26 20 (.invokevirtual 345) 3 ∧ De bdX12_runsOn_26 23 (.aload_n 0) 1 ∧ De bdX12_runsOn_26 24 (.getfield 55) 3 ∧ De bdX12_runsOn_26 27 (.iconst 0) 1 := by decide +kernel
theorem dX12_runsOn_26 : decode cX12_runsOn 26 = .ok (.getfield 8, 3) := dAt wdX12_runsOn_26 adX12_runsOn_26.1 rfl
theorem dX12_runsOn_29 : decode cX12_runsOn 29 = .ok (.iload 5, 2) := dAt wdX12_runsOn_26 adX12_runsOn_26.2.1 rfl
theorem dX12_runsOn_31 : decode cX12_runsOn 31 = .ok (.iconst 3, 1) := dAt wdX12_runsOn_26 adX12_runsOn_26.2.2.1 rfl
theorem dX12_runsOn_32 : decode cX12_runsOn 32 = .ok (.iadd, 1) := dAt wdX12_runsOn_26 adX12_runsOn_26.2.2.2.1 rfl
theorem dX12_runsOn_33 : decode cX12_runsOn 33 = .ok (.iaload, 1) := dAt wdX12_runsOn_26 adX12_runsOn_26.2.2.2.2.1 rfl
theorem dX12_runsOn_34 : decode cX12_runsOn 34 = .ok (.ifCond .ne 121, 3) := dAt wdX12_runsOn_26 adX12_runsOn_26.2.2.2.2.2.1 rfl
theorem dX12_runsOn_37 : decode cX12_runsOn 37 = .ok (.aload_n 0, 1) := dAt wdX12_runsOn_26 adX12_runsOn_26.2.2.2.2.2.2.1 rfl
theorem dX12_runsOn_38 : decode cX12_runsOn 38 = .ok (.iload 4, 2) := dAt wdX12_runsOn_26 adX12_runsOn_26.2.2.2.2.2.2.2.1 rfl
theorem dX12_runsOn_40 : decode cX12_runsOn 40 = .ok (.aload_n 0, 1) := dAt wdX12_runsOn_26 adX12_runsOn_26.2.2.2.2.2.2.2.2.1 rfl
theorem dX12_runsOn_41 : decode cX12_runsOn 41 = .ok (.getfield 8, 3) := dAt wdX12_runsOn_26 adX12_runsOn_26.2.2.2.2.2.2.2.2.2.1 rfl
theorem dX12_runsOn_44 : decode cX12_runsOn 44 = .ok (.iconst 0, 1) := dAt wdX12_runsOn_26 adX12_runsOn_26.2.2.2.2.2.2.2.2.2.2.1 rfl
theorem dX12_runsOn_45 : decode cX12_runsOn 45 = .ok (.iaload, 1) := dAt wdX12_runsOn_26 adX12_runsOn_26.2.2.2.2.2.2.2.2.2.2.2.1 rfl
theorem dX12_runsOn_46 : decode cX12_runsOn 46 = .ok (.invokevirtual 345, 3) := dAt wdX12_runsOn_26 adX12_runsOn_26.2.2.2.2.2.2.2.2.2.2.2.2.1 rfl
theorem dX12_runsOn_49 : decode cX12_runsOn 49 = .ok (.aload_n 0, 1) := dAt wdX12_runsOn_26 adX12_runsOn_26.2.2.2.2.2.2.2.2.2.2.2.2.2.1 rfl
theorem dX12_runsOn_50 : decode cX12_runsOn 50 = .ok (.getfield 55, 3) := dAt wdX12_runsOn_26 adX12_runsOn_26.2.2.2.2.2.2.2.2.2.2.2.2.2.2.1 rfl
theorem dX12_runsOn_53 : decode cX12_runsOn 53 = .ok (.iconst 0, 1) := dAt wdX12_runsOn_26 adX12_runsOn_26.2.2.2.2.2.2.2.2.2.2.2.2.2.2.2 rfl
def bdX12_runsOn_54 : ByteArray := .mk #[46, 2, 160, 0, 9, 42, 27, 182, 1, 120, 177, 42, 180, 0, 8, 21, 5, 6, 96, 4, 79, 42, 180, 0, 8]
theorem wdX12_runsOn_54 : LocW cX12_runsOn 54 bdX12_runsOn_54 := loc_of (by decide +kernel)
theorem adX12_runsOn_54 : De bdX12_runsOn_54 0 (.iaload) 1 ∧ De bdX12_runsOn_54 1 (.iconst (-1)) 1 ∧ De bdX12_runsOn_54 2 (.if_icmp .ne 9) 3 ∧ De bdX12_runsOn_54 5 (.aload_n 0) 1 ∧ De bdX12_runsOn_54 6 (.iload_n 1) 1 ∧ De bdX12_runsOn_54 7 (.invokevirtual 376) 3 ∧ De bdX12_runsOn_54 10 (.return_) 1 ∧ De bdX12_runsOn_54 11 (.aload_n 0) 1 ∧ De bdX12_runsOn_54 12 (.getfield 8) 3 ∧ De bdX12_runsOn_54 15 (.iload 5) 2 ∧ De bdX12_runsOn_54 17 (.iconst 3) 1 ∧ De bdX12_runsOn_54 18 (.iadd) 1 ∧ De bdX12_runsOn_54 19 (.iconst 1) 1 ∧ De bdX12_runsOn_54 20 (.iastore) 1 ∧ De bdX12_runsOn_54 21 (.aload_n 0) 1 ∧ De bdX12_runsOn_54 22 (.getfield 8) 3 := by decide +kernel
theorem dX12_runsOn_54 : decode cX12_runsOn 54 = .ok (.iaload, 1) := dAt wdX12_runsOn_54 adX12_runsOn_54.1 rfl
theorem dX12_runsOn_55 : decode cX12_runsOn 55 = .ok (.iconst (-1), 1) := dAt wdX12_runsOn_54 adX12_runsOn_54.2.1 rfl
theorem dX12_runsOn_56 : decode cX12_runsOn 56 = .ok (.if_icmp .ne 9, 3) := dAt wdX12_runsOn_54 adX12_runsOn_54.2.2.1 rfl
theorem dX12_runsOn_59 : decode cX12_runsOn 59 = .ok (.aload_n 0, 1) := dAt wdX12_runsOn_54 adX12_runsOn_54.2.2.2.1 rfl
theorem dX12_runsOn_60 : decode cX12_runsOn 60 = .ok (.iload_n 1, 1) := dAt wdX12_runsOn_54 adX12_runsOn_54.2.2.2.2.1 rfl
theorem dX12_runsOn_61 : decode cX12_runsOn 61 = .ok (.invokevirtual 376, 3) := dAt wdX12_runsOn_54 adX12_runsOn_54.2.2.2.2.2.1 rfl
theorem dX12_runsOn_64 : decode cX12_runsOn 64 = .ok (.return_, 1) := dAt wdX12_runsOn_54 adX12_runsOn_54.2.2.2.2.2.2.1 rfl
theorem dX12_runsOn_65 : decode cX12_runsOn 65 = .ok (.aload_n 0, 1) := dAt wdX12_runsOn_54 adX12_runsOn_54.2.2.2.2.2.2.2.1 rfl
theorem dX12_runsOn_66 : decode cX12_runsOn 66 = .ok (.getfield 8, 3) := dAt wdX12_runsOn_54 adX12_runsOn_54.2.2.2.2.2.2.2.2.1 rfl
theorem dX12_runsOn_69 : decode cX12_runsOn 69 = .ok (.iload 5, 2) := dAt wdX12_runsOn_54 adX12_runsOn_54.2.2.2.2.2.2.2.2.2.1 rfl
theorem dX12_runsOn_71 : decode cX12_runsOn 71 = .ok (.iconst 3, 1) := dAt wdX12_runsOn_54 adX12_runsOn_54.2.2.2.2.2.2.2.2.2.2.1 rfl
theorem dX12_runsOn_72 : decode cX12_runsOn 72 = .ok (.iadd, 1) := dAt wdX12_runsOn_54 adX12_runsOn_54.2.2.2.2.2.2.2.2.2.2.2.1 rfl
theorem dX12_runsOn_73 : decode cX12_runsOn 73 = .ok (.iconst 1, 1) := dAt wdX12_runsOn_54 adX12_runsOn_54.2.2.2.2.2.2.2.2.2.2.2.2.1 rfl
theorem dX12_runsOn_74 : decode cX12_runsOn 74 = .ok (.iastore, 1) := dAt wdX12_runsOn_54 adX12_runsOn_54.2.2.2.2.2.2.2.2.2.2.2.2.2.1 rfl
theorem dX12_runsOn_75 : decode cX12_runsOn 75 = .ok (.aload_n 0, 1) := dAt wdX12_runsOn_54 adX12_runsOn_54.2.2.2.2.2.2.2.2.2.2.2.2.2.2.1 rfl
theorem dX12_runsOn_76 : decode cX12_runsOn 76 = .ok (.getfield 8, 3) := dAt wdX12_runsOn_54 adX12_runsOn_54.2.2.2.2.2.2.2.2.2.2.2.2.2.2.2 rfl
def bdX12_runsOn_79 : ByteArray := .mk #[21, 5, 7, 96, 42, 180, 0, 58, 3, 46, 79, 3, 54, 6, 3, 54, 7, 21, 7, 42, 180, 0, 8, 21, 5]
theorem wdX12_runsOn_79 : LocW cX12_runsOn 79 bdX12_runsOn_79 := loc_of (by decide +kernel)
theorem adX12_runsOn_79 : De bdX12_runsOn_79 0 (.iload 5) 2 ∧ De bdX12_runsOn_79 2 (.iconst 4) 1 ∧ De bdX12_runsOn_79 3 (.iadd) 1 ∧ De bdX12_runsOn_79 4 (.aload_n 0) 1 ∧ De bdX12_runsOn_79 5 (.getfield 58) 3 ∧ De bdX12_runsOn_79 8 (.iconst 0) 1 ∧ De bdX12_runsOn_79 9 (.iaload) 1 ∧ De bdX12_runsOn_79 10 (.iastore) 1 ∧ De bdX12_runsOn_79 11 (.iconst 0) 1 ∧ De bdX12_runsOn_79 12 (.istore 6) 2 ∧ De bdX12_runsOn_79 14 (.iconst 0) 1 ∧ De bdX12_runsOn_79 15 (.istore 7) 2 ∧ De bdX12_runsOn_79 17 (.iload 7) 2 ∧ De bdX12_runsOn_79 19 (.aload_n 0) 1 ∧ De bdX12_runsOn_79 20 (.getfield 8) 3 ∧ De bdX12_runsOn_79 23 (.iload 5) 2 := by decide +kernel
theorem dX12_runsOn_79 : decode cX12_runsOn 79 = .ok (.iload 5, 2) := dAt wdX12_runsOn_79 adX12_runsOn_79.1 rfl
theorem dX12_runsOn_81 : decode cX12_runsOn 81 = .ok (.iconst 4, 1) := dAt wdX12_runsOn_79 adX12_runsOn_79.2.1 rfl
theorem dX12_runsOn_82 : decode cX12_runsOn 82 = .ok (.iadd, 1) := dAt wdX12_runsOn_79 adX12_runsOn_79.2.2.1 rfl
theorem dX12_runsOn_83 : decode cX12_runsOn 83 = .ok (.aload_n 0, 1) := dAt wdX12_runsOn_79 adX12_runsOn_79.2.2.2.1 rfl
theorem dX12_runsOn_84 : decode cX12_runsOn 84 = .ok (.getfield 58, 3) := dAt wdX12_runsOn_79 adX12_runsOn_79.2.2.2.2.1 rfl
theorem dX12_runsOn_87 : decode cX12_runsOn 87 = .ok (.iconst 0, 1) := dAt wdX12_runsOn_79 adX12_runsOn_79.2.2.2.2.2.1 rfl
theorem dX12_runsOn_88 : decode cX12_runsOn 88 = .ok (.iaload, 1) := dAt wdX12_runsOn_79 adX12_runsOn_79.2.2.2.2.2.2.1 rfl
theorem dX12_runsOn_89 : decode cX12_runsOn 89 = .ok (.iastore, 1) := dAt wdX12_runsOn_79 adX12_runsOn_79.2.2.2.2.2.2.2.1 rfl
theorem dX12_runsOn_90 : decode cX12_runsOn 90 = .ok (.iconst 0, 1) := dAt wdX12_runsOn_79 adX12_runsOn_79.2.2.2.2.2.2.2.2.1 rfl
theorem dX12_runsOn_91 : decode cX12_runsOn 91 = .ok (.istore 6, 2) := dAt wdX12_runsOn_79 adX12_runsOn_79.2.2.2.2.2.2.2.2.2.1 rfl
theorem dX12_runsOn_93 : decode cX12_runsOn 93 = .ok (.iconst 0, 1) := dAt wdX12_runsOn_79 adX12_runsOn_79.2.2.2.2.2.2.2.2.2.2.1 rfl
theorem dX12_runsOn_94 : decode cX12_runsOn 94 = .ok (.istore 7, 2) := dAt wdX12_runsOn_79 adX12_runsOn_79.2.2.2.2.2.2.2.2.2.2.2.1 rfl
theorem dX12_runsOn_96 : decode cX12_runsOn 96 = .ok (.iload 7, 2) := dAt wdX12_runsOn_79 adX12_runsOn_79.2.2.2.2.2.2.2.2.2.2.2.2.1 rfl
theorem dX12_runsOn_98 : decode cX12_runsOn 98 = .ok (.aload_n 0, 1) := dAt wdX12_runsOn_79 adX12_runsOn_79.2.2.2.2.2.2.2.2.2.2.2.2.2.1 rfl
theorem dX12_runsOn_99 : decode cX12_runsOn 99 = .ok (.getfield 8, 3) := dAt wdX12_runsOn_79 adX12_runsOn_79.2.2.2.2.2.2.2.2.2.2.2.2.2.2.1 rfl
theorem dX12_runsOn_102 : decode cX12_runsOn 102 = .ok (.iload 5, 2) := dAt wdX12_runsOn_79 adX12_runsOn_79.2.2.2.2.2.2.2.2.2.2.2.2.2.2.2 rfl
def bdX12_runsOn_104 : ByteArray := .mk #[7, 96, 46, 162, 0, 48, 42, 180, 0, 61, 21, 6, 46, 54, 6, 42, 180, 0, 8, 21, 5, 8, 96, 21, 7, 96]
theorem wdX12_runsOn_104 : LocW cX12_runsOn 104 bdX12_runsOn_104 := loc_of (by decide +kernel)
theorem adX12_runsOn_104 : De bdX12_runsOn_104 0 (.iconst 4) 1 ∧ De bdX12_runsOn_104 1 (.iadd) 1 ∧ De bdX12_runsOn_104 2 (.iaload) 1 ∧ De bdX12_runsOn_104 3 (.if_icmp .ge 48) 3 ∧ De bdX12_runsOn_104 6 (.aload_n 0) 1 ∧ De bdX12_runsOn_104 7 (.getfield 61) 3 ∧ De bdX12_runsOn_104 10 (.iload 6) 2 ∧ De bdX12_runsOn_104 12 (.iaload) 1 ∧ De bdX12_runsOn_104 13 (.istore 6) 2 ∧ De bdX12_runsOn_104 15 (.aload_n 0) 1 ∧ De bdX12_runsOn_104 16 (.getfield 8) 3 ∧ De bdX12_runsOn_104 19 (.iload 5) 2 ∧ De bdX12_runsOn_104 21 (.iconst 5) 1 ∧ De bdX12_runsOn_104 22 (.iadd) 1 ∧ De bdX12_runsOn_104 23 (.iload 7) 2 ∧ De bdX12_runsOn_104 25 (.iadd) 1 := by decide +kernel
theorem dX12_runsOn_104 : decode cX12_runsOn 104 = .ok (.iconst 4, 1) := dAt wdX12_runsOn_104 adX12_runsOn_104.1 rfl
theorem dX12_runsOn_105 : decode cX12_runsOn 105 = .ok (.iadd, 1) := dAt wdX12_runsOn_104 adX12_runsOn_104.2.1 rfl
theorem dX12_runsOn_106 : decode cX12_runsOn 106 = .ok (.iaload, 1) := dAt wdX12_runsOn_104 adX12_runsOn_104.2.2.1 rfl
theorem dX12_runsOn_107 : decode cX12_runsOn 107 = .ok (.if_icmp .ge 48, 3) := dAt wdX12_runsOn_104 adX12_runsOn_104.2.2.2.1 rfl
theorem dX12_runsOn_110 : decode cX12_runsOn 110 = .ok (.aload_n 0, 1) := dAt wdX12_runsOn_104 adX12_runsOn_104.2.2.2.2.1 rfl
theorem dX12_runsOn_111 : decode cX12_runsOn 111 = .ok (.getfield 61, 3) := dAt wdX12_runsOn_104 adX12_runsOn_104.2.2.2.2.2.1 rfl
theorem dX12_runsOn_114 : decode cX12_runsOn 114 = .ok (.iload 6, 2) := dAt wdX12_runsOn_104 adX12_runsOn_104.2.2.2.2.2.2.1 rfl
theorem dX12_runsOn_116 : decode cX12_runsOn 116 = .ok (.iaload, 1) := dAt wdX12_runsOn_104 adX12_runsOn_104.2.2.2.2.2.2.2.1 rfl
theorem dX12_runsOn_117 : decode cX12_runsOn 117 = .ok (.istore 6, 2) := dAt wdX12_runsOn_104 adX12_runsOn_104.2.2.2.2.2.2.2.2.1 rfl
theorem dX12_runsOn_119 : decode cX12_runsOn 119 = .ok (.aload_n 0, 1) := dAt wdX12_runsOn_104 adX12_runsOn_104.2.2.2.2.2.2.2.2.2.1 rfl
theorem dX12_runsOn_120 : decode cX12_runsOn 120 = .ok (.getfield 8, 3) := dAt wdX12_runsOn_104 adX12_runsOn_104.2.2.2.2.2.2.2.2.2.2.1 rfl
theorem dX12_runsOn_123 : decode cX12_runsOn 123 = .ok (.iload 5, 2) := dAt wdX12_runsOn_104 adX12_runsOn_104.2.2.2.2.2.2.2.2.2.2.2.1 rfl
theorem dX12_runsOn_125 : decode cX12_runsOn 125 = .ok (.iconst 5, 1) := dAt wdX12_runsOn_104 adX12_runsOn_104.2.2.2.2.2.2.2.2.2.2.2.2.1 rfl
theorem dX12_runsOn_126 : decode cX12_runsOn 126 = .ok (.iadd, 1) := dAt wdX12_runsOn_104 adX12_runsOn_104.2.2.2.2.2.2.2.2.2.2.2.2.2.1 rfl
theorem dX12_runsOn_127 : decode cX12_runsOn 127 = .ok (.iload 7, 2) := dAt wdX12_runsOn_104 adX12_runsOn_104.2.2.2.2.2.2.2.2.2.2.2.2.2.2.1 rfl
theorem dX12_runsOn_129 : decode cX12_runsOn 129 = .ok (.iadd, 1) := dAt wdX12_runsOn_104 adX12_runsOn_104.2.2.2.2.2.2.2.2.2.2.2.2.2.2.2 rfl
def bdX12_runsOn_130 : ByteArray := .mk #[21, 6, 4, 100, 79, 42, 180, 0, 8, 21, 5, 16, 45, 96, 21, 7, 96, 3, 79, 132, 7, 1, 167, 255, 200, 42]
theorem wdX12_runsOn_130 : LocW cX12_runsOn 130 bdX12_runsOn_130 := loc_of (by decide +kernel)
theorem adX12_runsOn_130 : De bdX12_runsOn_130 0 (.iload 6) 2 ∧ De bdX12_runsOn_130 2 (.iconst 1) 1 ∧ De bdX12_runsOn_130 3 (.isub) 1 ∧ De bdX12_runsOn_130 4 (.iastore) 1 ∧ De bdX12_runsOn_130 5 (.aload_n 0) 1 ∧ De bdX12_runsOn_130 6 (.getfield 8) 3 ∧ De bdX12_runsOn_130 9 (.iload 5) 2 ∧ De bdX12_runsOn_130 11 (.bipush 45) 2 ∧ De bdX12_runsOn_130 13 (.iadd) 1 ∧ De bdX12_runsOn_130 14 (.iload 7) 2 ∧ De bdX12_runsOn_130 16 (.iadd) 1 ∧ De bdX12_runsOn_130 17 (.iconst 0) 1 ∧ De bdX12_runsOn_130 18 (.iastore) 1 ∧ De bdX12_runsOn_130 19 (.iinc 7 1) 3 ∧ De bdX12_runsOn_130 22 (.goto (-56)) 3 ∧ De bdX12_runsOn_130 25 (.aload_n 0) 1 := by decide +kernel
theorem dX12_runsOn_130 : decode cX12_runsOn 130 = .ok (.iload 6, 2) := dAt wdX12_runsOn_130 adX12_runsOn_130.1 rfl
theorem dX12_runsOn_132 : decode cX12_runsOn 132 = .ok (.iconst 1, 1) := dAt wdX12_runsOn_130 adX12_runsOn_130.2.1 rfl
theorem dX12_runsOn_133 : decode cX12_runsOn 133 = .ok (.isub, 1) := dAt wdX12_runsOn_130 adX12_runsOn_130.2.2.1 rfl
theorem dX12_runsOn_134 : decode cX12_runsOn 134 = .ok (.iastore, 1) := dAt wdX12_runsOn_130 adX12_runsOn_130.2.2.2.1 rfl
theorem dX12_runsOn_135 : decode cX12_runsOn 135 = .ok (.aload_n 0, 1) := dAt wdX12_runsOn_130 adX12_runsOn_130.2.2.2.2.1 rfl
theorem dX12_runsOn_136 : decode cX12_runsOn 136 = .ok (.getfield 8, 3) := dAt wdX12_runsOn_130 adX12_runsOn_130.2.2.2.2.2.1 rfl
theorem dX12_runsOn_139 : decode cX12_runsOn 139 = .ok (.iload 5, 2) := dAt wdX12_runsOn_130 adX12_runsOn_130.2.2.2.2.2.2.1 rfl
theorem dX12_runsOn_141 : decode cX12_runsOn 141 = .ok (.bipush 45, 2) := dAt wdX12_runsOn_130 adX12_runsOn_130.2.2.2.2.2.2.2.1 rfl
theorem dX12_runsOn_143 : decode cX12_runsOn 143 = .ok (.iadd, 1) := dAt wdX12_runsOn_130 adX12_runsOn_130.2.2.2.2.2.2.2.2.1 rfl
theorem dX12_runsOn_144 : decode cX12_runsOn 144 = .ok (.iload 7, 2) := dAt wdX12_runsOn_130 adX12_runsOn_130.2.2.2.2.2.2.2.2.2.1 rfl
theorem dX12_runsOn_146 : decode cX12_runsOn 146 = .ok (.iadd, 1) := dAt wdX12_runsOn_130 adX12_runsOn_130.2.2.2.2.2.2.2.2.2.2.1 rfl
theorem dX12_runsOn_147 : decode cX12_runsOn 147 = .ok (.iconst 0, 1) := dAt wdX12_runsOn_130 adX12_runsOn_130.2.2.2.2.2.2.2.2.2.2.2.1 rfl
theorem dX12_runsOn_148 : decode cX12_runsOn 148 = .ok (.iastore, 1) := dAt wdX12_runsOn_130 adX12_runsOn_130.2.2.2.2.2.2.2.2.2.2.2.2.1 rfl
theorem dX12_runsOn_149 : decode cX12_runsOn 149 = .ok (.iinc 7 1, 3) := dAt wdX12_runsOn_130 adX12_runsOn_130.2.2.2.2.2.2.2.2.2.2.2.2.2.1 rfl
theorem dX12_runsOn_152 : decode cX12_runsOn 152 = .ok (.goto (-56), 3) := dAt wdX12_runsOn_130 adX12_runsOn_130.2.2.2.2.2.2.2.2.2.2.2.2.2.2.1 rfl
theorem dX12_runsOn_155 : decode cX12_runsOn 155 = .ok (.aload_n 0, 1) := dAt wdX12_runsOn_130 adX12_runsOn_130.2.2.2.2.2.2.2.2.2.2.2.2.2.2.2 rfl
def bdX12_runsOn_156 : ByteArray := .mk #[180, 0, 8, 29, 7, 96, 46, 4, 160, 0, 20, 42, 180, 0, 8, 29, 5, 96, 42, 180, 0, 8, 21, 5, 7]
theorem wdX12_runsOn_156 : LocW cX12_runsOn 156 bdX12_runsOn_156 := loc_of (by decide +kernel)
theorem adX12_runsOn_156 : De bdX12_runsOn_156 0 (.getfield 8) 3 ∧ De bdX12_runsOn_156 3 (.iload_n 3) 1 ∧ De bdX12_runsOn_156 4 (.iconst 4) 1 ∧ De bdX12_runsOn_156 5 (.iadd) 1 ∧ De bdX12_runsOn_156 6 (.iaload) 1 ∧ De bdX12_runsOn_156 7 (.iconst 1) 1 ∧ De bdX12_runsOn_156 8 (.if_icmp .ne 20) 3 ∧ De bdX12_runsOn_156 11 (.aload_n 0) 1 ∧ De bdX12_runsOn_156 12 (.getfield 8) 3 ∧ De bdX12_runsOn_156 15 (.iload_n 3) 1 ∧ De bdX12_runsOn_156 16 (.iconst 2) 1 ∧ De bdX12_runsOn_156 17 (.iadd) 1 ∧ De bdX12_runsOn_156 18 (.aload_n 0) 1 ∧ De bdX12_runsOn_156 19 (.getfield 8) 3 ∧ De bdX12_runsOn_156 22 (.iload 5) 2 ∧ De bdX12_runsOn_156 24 (.iconst 4) 1 := by decide +kernel
theorem dX12_runsOn_156 : decode cX12_runsOn 156 = .ok (.getfield 8, 3) := dAt wdX12_runsOn_156 adX12_runsOn_156.1 rfl
theorem dX12_runsOn_159 : decode cX12_runsOn 159 = .ok (.iload_n 3, 1) := dAt wdX12_runsOn_156 adX12_runsOn_156.2.1 rfl
theorem dX12_runsOn_160 : decode cX12_runsOn 160 = .ok (.iconst 4, 1) := dAt wdX12_runsOn_156 adX12_runsOn_156.2.2.1 rfl
theorem dX12_runsOn_161 : decode cX12_runsOn 161 = .ok (.iadd, 1) := dAt wdX12_runsOn_156 adX12_runsOn_156.2.2.2.1 rfl
theorem dX12_runsOn_162 : decode cX12_runsOn 162 = .ok (.iaload, 1) := dAt wdX12_runsOn_156 adX12_runsOn_156.2.2.2.2.1 rfl
theorem dX12_runsOn_163 : decode cX12_runsOn 163 = .ok (.iconst 1, 1) := dAt wdX12_runsOn_156 adX12_runsOn_156.2.2.2.2.2.1 rfl
theorem dX12_runsOn_164 : decode cX12_runsOn 164 = .ok (.if_icmp .ne 20, 3) := dAt wdX12_runsOn_156 adX12_runsOn_156.2.2.2.2.2.2.1 rfl
theorem dX12_runsOn_167 : decode cX12_runsOn 167 = .ok (.aload_n 0, 1) := dAt wdX12_runsOn_156 adX12_runsOn_156.2.2.2.2.2.2.2.1 rfl
theorem dX12_runsOn_168 : decode cX12_runsOn 168 = .ok (.getfield 8, 3) := dAt wdX12_runsOn_156 adX12_runsOn_156.2.2.2.2.2.2.2.2.1 rfl
theorem dX12_runsOn_171 : decode cX12_runsOn 171 = .ok (.iload_n 3, 1) := dAt wdX12_runsOn_156 adX12_runsOn_156.2.2.2.2.2.2.2.2.2.1 rfl
theorem dX12_runsOn_172 : decode cX12_runsOn 172 = .ok (.iconst 2, 1) := dAt wdX12_runsOn_156 adX12_runsOn_156.2.2.2.2.2.2.2.2.2.2.1 rfl
theorem dX12_runsOn_173 : decode cX12_runsOn 173 = .ok (.iadd, 1) := dAt wdX12_runsOn_156 adX12_runsOn_156.2.2.2.2.2.2.2.2.2.2.2.1 rfl
theorem dX12_runsOn_174 : decode cX12_runsOn 174 = .ok (.aload_n 0, 1) := dAt wdX12_runsOn_156 adX12_runsOn_156.2.2.2.2.2.2.2.2.2.2.2.2.1 rfl
theorem dX12_runsOn_175 : decode cX12_runsOn 175 = .ok (.getfield 8, 3) := dAt wdX12_runsOn_156 adX12_runsOn_156.2.2.2.2.2.2.2.2.2.2.2.2.2.1 rfl
theorem dX12_runsOn_178 : decode cX12_runsOn 178 = .ok (.iload 5, 2) := dAt wdX12_runsOn_156 adX12_runsOn_156.2.2.2.2.2.2.2.2.2.2.2.2.2.2.1 rfl
theorem dX12_runsOn_180 : decode cX12_runsOn 180 = .ok (.iconst 4, 1) := dAt wdX12_runsOn_156 adX12_runsOn_156.2.2.2.2.2.2.2.2.2.2.2.2.2.2.2 rfl
def bdX12_runsOn_181 : ByteArray := .mk #[96, 46, 79, 42, 180, 0, 8, 29, 4, 96, 46, 54, 6, 21, 6, 42, 180, 0, 8, 21, 5, 7, 96]
theorem wdX12_runsOn_181 : LocW cX12_runsOn 181 bdX12_runsOn_181 := loc_of (by decide +kernel)
theorem adX12_runsOn_181 : De bdX12_runsOn_181 0 (.iadd) 1 ∧ De bdX12_runsOn_181 1 (.iaload) 1 ∧ De bdX12_runsOn_181 2 (.iastore) 1 ∧ De bdX12_runsOn_181 3 (.aload_n 0) 1 ∧ De bdX12_runsOn_181 4 (.getfield 8) 3 ∧ De bdX12_runsOn_181 7 (.iload_n 3) 1 ∧ De bdX12_runsOn_181 8 (.iconst 1) 1 ∧ De bdX12_runsOn_181 9 (.iadd) 1 ∧ De bdX12_runsOn_181 10 (.iaload) 1 ∧ De bdX12_runsOn_181 11 (.istore 6) 2 ∧ De bdX12_runsOn_181 13 (.iload 6) 2 ∧ De bdX12_runsOn_181 15 (.aload_n 0) 1 ∧ De bdX12_runsOn_181 16 (.getfield 8) 3 ∧ De bdX12_runsOn_181 19 (.iload 5) 2 ∧ De bdX12_runsOn_181 21 (.iconst 4) 1 ∧ De bdX12_runsOn_181 22 (.iadd) 1 := by decide +kernel
theorem dX12_runsOn_181 : decode cX12_runsOn 181 = .ok (.iadd, 1) := dAt wdX12_runsOn_181 adX12_runsOn_181.1 rfl
theorem dX12_runsOn_182 : decode cX12_runsOn 182 = .ok (.iaload, 1) := dAt wdX12_runsOn_181 adX12_runsOn_181.2.1 rfl
theorem dX12_runsOn_183 : decode cX12_runsOn 183 = .ok (.iastore, 1) := dAt wdX12_runsOn_181 adX12_runsOn_181.2.2.1 rfl
theorem dX12_runsOn_184 : decode cX12_runsOn 184 = .ok (.aload_n 0, 1) := dAt wdX12_runsOn_181 adX12_runsOn_181.2.2.2.1 rfl
theorem dX12_runsOn_185 : decode cX12_runsOn 185 = .ok (.getfield 8, 3) := dAt wdX12_runsOn_181 adX12_runsOn_181.2.2.2.2.1 rfl
theorem dX12_runsOn_188 : decode cX12_runsOn 188 = .ok (.iload_n 3, 1) := dAt wdX12_runsOn_181 adX12_runsOn_181.2.2.2.2.2.1 rfl
theorem dX12_runsOn_189 : decode cX12_runsOn 189 = .ok (.iconst 1, 1) := dAt wdX12_runsOn_181 adX12_runsOn_181.2.2.2.2.2.2.1 rfl
theorem dX12_runsOn_190 : decode cX12_runsOn 190 = .ok (.iadd, 1) := dAt wdX12_runsOn_181 adX12_runsOn_181.2.2.2.2.2.2.2.1 rfl
theorem dX12_runsOn_191 : decode cX12_runsOn 191 = .ok (.iaload, 1) := dAt wdX12_runsOn_181 adX12_runsOn_181.2.2.2.2.2.2.2.2.1 rfl
theorem dX12_runsOn_192 : decode cX12_runsOn 192 = .ok (.istore 6, 2) := dAt wdX12_runsOn_181 adX12_runsOn_181.2.2.2.2.2.2.2.2.2.1 rfl
theorem dX12_runsOn_194 : decode cX12_runsOn 194 = .ok (.iload 6, 2) := dAt wdX12_runsOn_181 adX12_runsOn_181.2.2.2.2.2.2.2.2.2.2.1 rfl
theorem dX12_runsOn_196 : decode cX12_runsOn 196 = .ok (.aload_n 0, 1) := dAt wdX12_runsOn_181 adX12_runsOn_181.2.2.2.2.2.2.2.2.2.2.2.1 rfl
theorem dX12_runsOn_197 : decode cX12_runsOn 197 = .ok (.getfield 8, 3) := dAt wdX12_runsOn_181 adX12_runsOn_181.2.2.2.2.2.2.2.2.2.2.2.2.1 rfl
theorem dX12_runsOn_200 : decode cX12_runsOn 200 = .ok (.iload 5, 2) := dAt wdX12_runsOn_181 adX12_runsOn_181.2.2.2.2.2.2.2.2.2.2.2.2.2.1 rfl
theorem dX12_runsOn_202 : decode cX12_runsOn 202 = .ok (.iconst 4, 1) := dAt wdX12_runsOn_181 adX12_runsOn_181.2.2.2.2.2.2.2.2.2.2.2.2.2.2.1 rfl
theorem dX12_runsOn_203 : decode cX12_runsOn 203 = .ok (.iadd, 1) := dAt wdX12_runsOn_181 adX12_runsOn_181.2.2.2.2.2.2.2.2.2.2.2.2.2.2.2 rfl
def bdX12_runsOn_204 : ByteArray := .mk #[46, 161, 0, 9, 42, 27, 182, 1, 120, 177, 42, 21, 4, 21, 6, 182, 1, 101, 3, 54, 7, 42, 180, 0, 8, 7, 46]
theorem wdX12_runsOn_204 : LocW cX12_runsOn 204 bdX12_runsOn_204 := loc_of (by decide +kernel)
theorem adX12_runsOn_204 : De bdX12_runsOn_204 0 (.iaload) 1 ∧ De bdX12_runsOn_204 1 (.if_icmp .lt 9) 3 ∧ De bdX12_runsOn_204 4 (.aload_n 0) 1 ∧ De bdX12_runsOn_204 5 (.iload_n 1) 1 ∧ De bdX12_runsOn_204 6 (.invokevirtual 376) 3 ∧ De bdX12_runsOn_204 9 (.return_) 1 ∧ De bdX12_runsOn_204 10 (.aload_n 0) 1 ∧ De bdX12_runsOn_204 11 (.iload 4) 2 ∧ De bdX12_runsOn_204 13 (.iload 6) 2 ∧ De bdX12_runsOn_204 15 (.invokevirtual 357) 3 ∧ De bdX12_runsOn_204 18 (.iconst 0) 1 ∧ De bdX12_runsOn_204 19 (.istore 7) 2 ∧ De bdX12_runsOn_204 21 (.aload_n 0) 1 ∧ De bdX12_runsOn_204 22 (.getfield 8) 3 ∧ De bdX12_runsOn_204 25 (.iconst 4) 1 ∧ De bdX12_runsOn_204 26 (.iaload) 1 := by decide +kernel
theorem dX12_runsOn_204 : decode cX12_runsOn 204 = .ok (.iaload, 1) := dAt wdX12_runsOn_204 adX12_runsOn_204.1 rfl
theorem dX12_runsOn_205 : decode cX12_runsOn 205 = .ok (.if_icmp .lt 9, 3) := dAt wdX12_runsOn_204 adX12_runsOn_204.2.1 rfl
theorem dX12_runsOn_208 : decode cX12_runsOn 208 = .ok (.aload_n 0, 1) := dAt wdX12_runsOn_204 adX12_runsOn_204.2.2.1 rfl
theorem dX12_runsOn_209 : decode cX12_runsOn 209 = .ok (.iload_n 1, 1) := dAt wdX12_runsOn_204 adX12_runsOn_204.2.2.2.1 rfl
theorem dX12_runsOn_210 : decode cX12_runsOn 210 = .ok (.invokevirtual 376, 3) := dAt wdX12_runsOn_204 adX12_runsOn_204.2.2.2.2.1 rfl
theorem dX12_runsOn_213 : decode cX12_runsOn 213 = .ok (.return_, 1) := dAt wdX12_runsOn_204 adX12_runsOn_204.2.2.2.2.2.1 rfl
theorem dX12_runsOn_214 : decode cX12_runsOn 214 = .ok (.aload_n 0, 1) := dAt wdX12_runsOn_204 adX12_runsOn_204.2.2.2.2.2.2.1 rfl
theorem dX12_runsOn_215 : decode cX12_runsOn 215 = .ok (.iload 4, 2) := dAt wdX12_runsOn_204 adX12_runsOn_204.2.2.2.2.2.2.2.1 rfl
theorem dX12_runsOn_217 : decode cX12_runsOn 217 = .ok (.iload 6, 2) := dAt wdX12_runsOn_204 adX12_runsOn_204.2.2.2.2.2.2.2.2.1 rfl
theorem dX12_runsOn_219 : decode cX12_runsOn 219 = .ok (.invokevirtual 357, 3) := dAt wdX12_runsOn_204 adX12_runsOn_204.2.2.2.2.2.2.2.2.2.1 rfl
theorem dX12_runsOn_222 : decode cX12_runsOn 222 = .ok (.iconst 0, 1) := dAt wdX12_runsOn_204 adX12_runsOn_204.2.2.2.2.2.2.2.2.2.2.1 rfl
theorem dX12_runsOn_223 : decode cX12_runsOn 223 = .ok (.istore 7, 2) := dAt wdX12_runsOn_204 adX12_runsOn_204.2.2.2.2.2.2.2.2.2.2.2.1 rfl
theorem dX12_runsOn_225 : decode cX12_runsOn 225 = .ok (.aload_n 0, 1) := dAt wdX12_runsOn_204 adX12_runsOn_204.2.2.2.2.2.2.2.2.2.2.2.2.1 rfl
theorem dX12_runsOn_226 : decode cX12_runsOn 226 = .ok (.getfield 8, 3) := dAt wdX12_runsOn_204 adX12_runsOn_204.2.2.2.2.2.2.2.2.2.2.2.2.2.1 rfl
theorem dX12_runsOn_229 : decode cX12_runsOn 229 = .ok (.iconst 4, 1) := dAt wdX12_runsOn_204 adX12_runsOn_204.2.2.2.2.2.2.2.2.2.2.2.2.2.2.1 rfl
theorem dX12_runsOn_230 : decode cX12_runsOn 230 = .ok (.iaload, 1) := dAt wdX12_runsOn_204 adX12_runsOn_204.2.2.2.2.2.2.2.2.2.2.2.2.2.2.2 rfl
def bdX12_runsOn_231 : ByteArray := .mk #[17, 1, 44, 160, 0, 7, 4, 167, 0, 4, 3, 54, 8, 3, 54, 9, 21, 9, 16, 27, 162, 0, 85, 21, 7, 154, 0, 22, 42, 180, 0, 67, 21, 9]
theorem wdX12_runsOn_231 : LocW cX12_runsOn 231 bdX12_runsOn_231 := loc_of (by decide +kernel)
theorem adX12_runsOn_231 : De bdX12_runsOn_231 0 (.sipush 300) 3 ∧ De bdX12_runsOn_231 3 (.if_icmp .ne 7) 3 ∧ De bdX12_runsOn_231 6 (.iconst 1) 1 ∧ De bdX12_runsOn_231 7 (.goto 4) 3 ∧ De bdX12_runsOn_231 10 (.iconst 0) 1 ∧ De bdX12_runsOn_231 11 (.istore 8) 2 ∧ De bdX12_runsOn_231 13 (.iconst 0) 1 ∧ De bdX12_runsOn_231 14 (.istore 9) 2 ∧ De bdX12_runsOn_231 16 (.iload 9) 2 ∧ De bdX12_runsOn_231 18 (.bipush 27) 2 ∧ De bdX12_runsOn_231 20 (.if_icmp .ge 85) 3 ∧ De bdX12_runsOn_231 23 (.iload 7) 2 ∧ De bdX12_runsOn_231 25 (.ifCond .ne 22) 3 ∧ De bdX12_runsOn_231 28 (.aload_n 0) 1 ∧ De bdX12_runsOn_231 29 (.getfield 67) 3 ∧ De bdX12_runsOn_231 32 (.iload 9) 2 := by decide +kernel
theorem dX12_runsOn_231 : decode cX12_runsOn 231 = .ok (.sipush 300, 3) := dAt wdX12_runsOn_231 adX12_runsOn_231.1 rfl
theorem dX12_runsOn_234 : decode cX12_runsOn 234 = .ok (.if_icmp .ne 7, 3) := dAt wdX12_runsOn_231 adX12_runsOn_231.2.1 rfl
theorem dX12_runsOn_237 : decode cX12_runsOn 237 = .ok (.iconst 1, 1) := dAt wdX12_runsOn_231 adX12_runsOn_231.2.2.1 rfl
theorem dX12_runsOn_238 : decode cX12_runsOn 238 = .ok (.goto 4, 3) := dAt wdX12_runsOn_231 adX12_runsOn_231.2.2.2.1 rfl
theorem dX12_runsOn_241 : decode cX12_runsOn 241 = .ok (.iconst 0, 1) := dAt wdX12_runsOn_231 adX12_runsOn_231.2.2.2.2.1 rfl
theorem dX12_runsOn_242 : decode cX12_runsOn 242 = .ok (.istore 8, 2) := dAt wdX12_runsOn_231 adX12_runsOn_231.2.2.2.2.2.1 rfl
theorem dX12_runsOn_244 : decode cX12_runsOn 244 = .ok (.iconst 0, 1) := dAt wdX12_runsOn_231 adX12_runsOn_231.2.2.2.2.2.2.1 rfl
theorem dX12_runsOn_245 : decode cX12_runsOn 245 = .ok (.istore 9, 2) := dAt wdX12_runsOn_231 adX12_runsOn_231.2.2.2.2.2.2.2.1 rfl
theorem dX12_runsOn_247 : decode cX12_runsOn 247 = .ok (.iload 9, 2) := dAt wdX12_runsOn_231 adX12_runsOn_231.2.2.2.2.2.2.2.2.1 rfl
theorem dX12_runsOn_249 : decode cX12_runsOn 249 = .ok (.bipush 27, 2) := dAt wdX12_runsOn_231 adX12_runsOn_231.2.2.2.2.2.2.2.2.2.1 rfl
theorem dX12_runsOn_251 : decode cX12_runsOn 251 = .ok (.if_icmp .ge 85, 3) := dAt wdX12_runsOn_231 adX12_runsOn_231.2.2.2.2.2.2.2.2.2.2.1 rfl
theorem dX12_runsOn_254 : decode cX12_runsOn 254 = .ok (.iload 7, 2) := dAt wdX12_runsOn_231 adX12_runsOn_231.2.2.2.2.2.2.2.2.2.2.2.1 rfl
theorem dX12_runsOn_256 : decode cX12_runsOn 256 = .ok (.ifCond .ne 22, 3) := dAt wdX12_runsOn_231 adX12_runsOn_231.2.2.2.2.2.2.2.2.2.2.2.2.1 rfl
theorem dX12_runsOn_259 : decode cX12_runsOn 259 = .ok (.aload_n 0, 1) := dAt wdX12_runsOn_231 adX12_runsOn_231.2.2.2.2.2.2.2.2.2.2.2.2.2.1 rfl
theorem dX12_runsOn_260 : decode cX12_runsOn 260 = .ok (.getfield 67, 3) := dAt wdX12_runsOn_231 adX12_runsOn_231.2.2.2.2.2.2.2.2.2.2.2.2.2.2.1 rfl
theorem dX12_runsOn_263 : decode cX12_runsOn 263 = .ok (.iload 9, 2) := dAt wdX12_runsOn_231 adX12_runsOn_231.2.2.2.2.2.2.2.2.2.2.2.2.2.2.2 rfl
def bdX12_runsOn_265 : ByteArray := .mk #[46, 42, 180, 0, 8, 28, 21, 9, 96, 46, 164, 0, 7, 4, 167, 0, 4, 3, 54, 7, 21, 8, 154, 0, 36, 42, 180, 0, 67]
theorem wdX12_runsOn_265 : LocW cX12_runsOn 265 bdX12_runsOn_265 := loc_of (by decide +kernel)
theorem adX12_runsOn_265 : De bdX12_runsOn_265 0 (.iaload) 1 ∧ De bdX12_runsOn_265 1 (.aload_n 0) 1 ∧ De bdX12_runsOn_265 2 (.getfield 8) 3 ∧ De bdX12_runsOn_265 5 (.iload_n 2) 1 ∧ De bdX12_runsOn_265 6 (.iload 9) 2 ∧ De bdX12_runsOn_265 8 (.iadd) 1 ∧ De bdX12_runsOn_265 9 (.iaload) 1 ∧ De bdX12_runsOn_265 10 (.if_icmp .le 7) 3 ∧ De bdX12_runsOn_265 13 (.iconst 1) 1 ∧ De bdX12_runsOn_265 14 (.goto 4) 3 ∧ De bdX12_runsOn_265 17 (.iconst 0) 1 ∧ De bdX12_runsOn_265 18 (.istore 7) 2 ∧ De bdX12_runsOn_265 20 (.iload 8) 2 ∧ De bdX12_runsOn_265 22 (.ifCond .ne 36) 3 ∧ De bdX12_runsOn_265 25 (.aload_n 0) 1 ∧ De bdX12_runsOn_265 26 (.getfield 67) 3 := by decide +kernel
theorem dX12_runsOn_265 : decode cX12_runsOn 265 = .ok (.iaload, 1) := dAt wdX12_runsOn_265 adX12_runsOn_265.1 rfl
theorem dX12_runsOn_266 : decode cX12_runsOn 266 = .ok (.aload_n 0, 1) := dAt wdX12_runsOn_265 adX12_runsOn_265.2.1 rfl
theorem dX12_runsOn_267 : decode cX12_runsOn 267 = .ok (.getfield 8, 3) := dAt wdX12_runsOn_265 adX12_runsOn_265.2.2.1 rfl
theorem dX12_runsOn_270 : decode cX12_runsOn 270 = .ok (.iload_n 2, 1) := dAt wdX12_runsOn_265 adX12_runsOn_265.2.2.2.1 rfl
theorem dX12_runsOn_271 : decode cX12_runsOn 271 = .ok (.iload 9, 2) := dAt wdX12_runsOn_265 adX12_runsOn_265.2.2.2.2.1 rfl
theorem dX12_runsOn_273 : decode cX12_runsOn 273 = .ok (.iadd, 1) := dAt wdX12_runsOn_265 adX12_runsOn_265.2.2.2.2.2.1 rfl
theorem dX12_runsOn_274 : decode cX12_runsOn 274 = .ok (.iaload, 1) := dAt wdX12_runsOn_265 adX12_runsOn_265.2.2.2.2.2.2.1 rfl
theorem dX12_runsOn_275 : decode cX12_runsOn 275 = .ok (.if_icmp .le 7, 3) := dAt wdX12_runsOn_265 adX12_runsOn_265.2.2.2.2.2.2.2.1 rfl
theorem dX12_runsOn_278 : decode cX12_runsOn 278 = .ok (.iconst 1, 1) := dAt wdX12_runsOn_265 adX12_runsOn_265.2.2.2.2.2.2.2.2.1 rfl
theorem dX12_runsOn_279 : decode cX12_runsOn 279 = .ok (.goto 4, 3) := dAt wdX12_runsOn_265 adX12_runsOn_265.2.2.2.2.2.2.2.2.2.1 rfl
theorem dX12_runsOn_282 : decode cX12_runsOn 282 = .ok (.iconst 0, 1) := dAt wdX12_runsOn_265 adX12_runsOn_265.2.2.2.2.2.2.2.2.2.2.1 rfl
theorem dX12_runsOn_283 : decode cX12_runsOn 283 = .ok (.istore 7, 2) := dAt wdX12_runsOn_265 adX12_runsOn_265.2.2.2.2.2.2.2.2.2.2.2.1 rfl
theorem dX12_runsOn_285 : decode cX12_runsOn 285 = .ok (.iload 8, 2) := dAt wdX12_runsOn_265 adX12_runsOn_265.2.2.2.2.2.2.2.2.2.2.2.2.1 rfl
theorem dX12_runsOn_287 : decode cX12_runsOn 287 = .ok (.ifCond .ne 36, 3) := dAt wdX12_runsOn_265 adX12_runsOn_265.2.2.2.2.2.2.2.2.2.2.2.2.2.1 rfl
theorem dX12_runsOn_290 : decode cX12_runsOn 290 = .ok (.aload_n 0, 1) := dAt wdX12_runsOn_265 adX12_runsOn_265.2.2.2.2.2.2.2.2.2.2.2.2.2.2.1 rfl
theorem dX12_runsOn_291 : decode cX12_runsOn 291 = .ok (.getfield 67, 3) := dAt wdX12_runsOn_265 adX12_runsOn_265.2.2.2.2.2.2.2.2.2.2.2.2.2.2.2 rfl
def bdX12_runsOn_294 : ByteArray := .mk #[21, 9, 46, 158, 0, 30, 42, 180, 0, 67, 21, 9, 46, 42, 27, 21, 9, 42, 180, 0, 8, 3, 46, 182, 1, 110, 164, 0, 7]
theorem wdX12_runsOn_294 : LocW cX12_runsOn 294 bdX12_runsOn_294 := loc_of (by decide +kernel)
theorem adX12_runsOn_294 : De bdX12_runsOn_294 0 (.iload 9) 2 ∧ De bdX12_runsOn_294 2 (.iaload) 1 ∧ De bdX12_runsOn_294 3 (.ifCond .le 30) 3 ∧ De bdX12_runsOn_294 6 (.aload_n 0) 1 ∧ De bdX12_runsOn_294 7 (.getfield 67) 3 ∧ De bdX12_runsOn_294 10 (.iload 9) 2 ∧ De bdX12_runsOn_294 12 (.iaload) 1 ∧ De bdX12_runsOn_294 13 (.aload_n 0) 1 ∧ De bdX12_runsOn_294 14 (.iload_n 1) 1 ∧ De bdX12_runsOn_294 15 (.iload 9) 2 ∧ De bdX12_runsOn_294 17 (.aload_n 0) 1 ∧ De bdX12_runsOn_294 18 (.getfield 8) 3 ∧ De bdX12_runsOn_294 21 (.iconst 0) 1 ∧ De bdX12_runsOn_294 22 (.iaload) 1 ∧ De bdX12_runsOn_294 23 (.invokevirtual 366) 3 ∧ De bdX12_runsOn_294 26 (.if_icmp .le 7) 3 := by decide +kernel
theorem dX12_runsOn_294 : decode cX12_runsOn 294 = .ok (.iload 9, 2) := dAt wdX12_runsOn_294 adX12_runsOn_294.1 rfl
theorem dX12_runsOn_296 : decode cX12_runsOn 296 = .ok (.iaload, 1) := dAt wdX12_runsOn_294 adX12_runsOn_294.2.1 rfl
theorem dX12_runsOn_297 : decode cX12_runsOn 297 = .ok (.ifCond .le 30, 3) := dAt wdX12_runsOn_294 adX12_runsOn_294.2.2.1 rfl
theorem dX12_runsOn_300 : decode cX12_runsOn 300 = .ok (.aload_n 0, 1) := dAt wdX12_runsOn_294 adX12_runsOn_294.2.2.2.1 rfl
theorem dX12_runsOn_301 : decode cX12_runsOn 301 = .ok (.getfield 67, 3) := dAt wdX12_runsOn_294 adX12_runsOn_294.2.2.2.2.1 rfl
theorem dX12_runsOn_304 : decode cX12_runsOn 304 = .ok (.iload 9, 2) := dAt wdX12_runsOn_294 adX12_runsOn_294.2.2.2.2.2.1 rfl
theorem dX12_runsOn_306 : decode cX12_runsOn 306 = .ok (.iaload, 1) := dAt wdX12_runsOn_294 adX12_runsOn_294.2.2.2.2.2.2.1 rfl
theorem dX12_runsOn_307 : decode cX12_runsOn 307 = .ok (.aload_n 0, 1) := dAt wdX12_runsOn_294 adX12_runsOn_294.2.2.2.2.2.2.2.1 rfl
theorem dX12_runsOn_308 : decode cX12_runsOn 308 = .ok (.iload_n 1, 1) := dAt wdX12_runsOn_294 adX12_runsOn_294.2.2.2.2.2.2.2.2.1 rfl
theorem dX12_runsOn_309 : decode cX12_runsOn 309 = .ok (.iload 9, 2) := dAt wdX12_runsOn_294 adX12_runsOn_294.2.2.2.2.2.2.2.2.2.1 rfl
theorem dX12_runsOn_311 : decode cX12_runsOn 311 = .ok (.aload_n 0, 1) := dAt wdX12_runsOn_294 adX12_runsOn_294.2.2.2.2.2.2.2.2.2.2.1 rfl
theorem dX12_runsOn_312 : decode cX12_runsOn 312 = .ok (.getfield 8, 3) := dAt wdX12_runsOn_294 adX12_runsOn_294.2.2.2.2.2.2.2.2.2.2.2.1 rfl
theorem dX12_runsOn_315 : decode cX12_runsOn 315 = .ok (.iconst 0, 1) := dAt wdX12_runsOn_294 adX12_runsOn_294.2.2.2.2.2.2.2.2.2.2.2.2.1 rfl
theorem dX12_runsOn_316 : decode cX12_runsOn 316 = .ok (.iaload, 1) := dAt wdX12_runsOn_294 adX12_runsOn_294.2.2.2.2.2.2.2.2.2.2.2.2.2.1 rfl
theorem dX12_runsOn_317 : decode cX12_runsOn 317 = .ok (.invokevirtual 366, 3) := dAt wdX12_runsOn_294 adX12_runsOn_294.2.2.2.2.2.2.2.2.2.2.2.2.2.2.1 rfl
theorem dX12_runsOn_320 : decode cX12_runsOn 320 = .ok (.if_icmp .le 7, 3) := dAt wdX12_runsOn_294 adX12_runsOn_294.2.2.2.2.2.2.2.2.2.2.2.2.2.2.2 rfl
def bdX12_runsOn_323 : ByteArray := .mk #[4, 167, 0, 4, 3, 54, 8, 132, 9, 1, 167, 255, 170, 21, 7, 153, 0, 9, 42, 27, 182, 1, 120, 177, 21, 8, 153, 0, 17, 42, 180, 0, 8]
theorem wdX12_runsOn_323 : LocW cX12_runsOn 323 bdX12_runsOn_323 := loc_of (by decide +kernel)
theorem adX12_runsOn_323 : De bdX12_runsOn_323 0 (.iconst 1) 1 ∧ De bdX12_runsOn_323 1 (.goto 4) 3 ∧ De bdX12_runsOn_323 4 (.iconst 0) 1 ∧ De bdX12_runsOn_323 5 (.istore 8) 2 ∧ De bdX12_runsOn_323 7 (.iinc 9 1) 3 ∧ De bdX12_runsOn_323 10 (.goto (-86)) 3 ∧ De bdX12_runsOn_323 13 (.iload 7) 2 ∧ De bdX12_runsOn_323 15 (.ifCond .eq 9) 3 ∧ De bdX12_runsOn_323 18 (.aload_n 0) 1 ∧ De bdX12_runsOn_323 19 (.iload_n 1) 1 ∧ De bdX12_runsOn_323 20 (.invokevirtual 376) 3 ∧ De bdX12_runsOn_323 23 (.return_) 1 ∧ De bdX12_runsOn_323 24 (.iload 8) 2 ∧ De bdX12_runsOn_323 26 (.ifCond .eq 17) 3 ∧ De bdX12_runsOn_323 29 (.aload_n 0) 1 ∧ De bdX12_runsOn_323 30 (.getfield 8) 3 := by decide +kernel
theorem dX12_runsOn_323 : decode cX12_runsOn 323 = .ok (.iconst 1, 1) := dAt wdX12_runsOn_323 adX12_runsOn_323.1 rfl
theorem dX12_runsOn_324 : decode cX12_runsOn 324 = .ok (.goto 4, 3) := dAt wdX12_runsOn_323 adX12_runsOn_323.2.1 rfl
theorem dX12_runsOn_327 : decode cX12_runsOn 327 = .ok (.iconst 0, 1) := dAt wdX12_runsOn_323 adX12_runsOn_323.2.2.1 rfl
theorem dX12_runsOn_328 : decode cX12_runsOn 328 = .ok (.istore 8, 2) := dAt wdX12_runsOn_323 adX12_runsOn_323.2.2.2.1 rfl
theorem dX12_runsOn_330 : decode cX12_runsOn 330 = .ok (.iinc 9 1, 3) := dAt wdX12_runsOn_323 adX12_runsOn_323.2.2.2.2.1 rfl
theorem dX12_runsOn_333 : decode cX12_runsOn 333 = .ok (.goto (-86), 3) := dAt wdX12_runsOn_323 adX12_runsOn_323.2.2.2.2.2.1 rfl
theorem dX12_runsOn_336 : decode cX12_runsOn 336 = .ok (.iload 7, 2) := dAt wdX12_runsOn_323 adX12_runsOn_323.2.2.2.2.2.2.1 rfl
theorem dX12_runsOn_338 : decode cX12_runsOn 338 = .ok (.ifCond .eq 9, 3) := dAt wdX12_runsOn_323 adX12_runsOn_323.2.2.2.2.2.2.2.1 rfl
theorem dX12_runsOn_341 : decode cX12_runsOn 341 = .ok (.aload_n 0, 1) := dAt wdX12_runsOn_323 adX12_runsOn_323.2.2.2.2.2.2.2.2.1 rfl
theorem dX12_runsOn_342 : decode cX12_runsOn 342 = .ok (.iload_n 1, 1) := dAt wdX12_runsOn_323 adX12_runsOn_323.2.2.2.2.2.2.2.2.2.1 rfl
theorem dX12_runsOn_343 : decode cX12_runsOn 343 = .ok (.invokevirtual 376, 3) := dAt wdX12_runsOn_323 adX12_runsOn_323.2.2.2.2.2.2.2.2.2.2.1 rfl
theorem dX12_runsOn_346 : decode cX12_runsOn 346 = .ok (.return_, 1) := dAt wdX12_runsOn_323 adX12_runsOn_323.2.2.2.2.2.2.2.2.2.2.2.1 rfl
theorem dX12_runsOn_347 : decode cX12_runsOn 347 = .ok (.iload 8, 2) := dAt wdX12_runsOn_323 adX12_runsOn_323.2.2.2.2.2.2.2.2.2.2.2.2.1 rfl
theorem dX12_runsOn_349 : decode cX12_runsOn 349 = .ok (.ifCond .eq 17, 3) := dAt wdX12_runsOn_323 adX12_runsOn_323.2.2.2.2.2.2.2.2.2.2.2.2.2.1 rfl
theorem dX12_runsOn_352 : decode cX12_runsOn 352 = .ok (.aload_n 0, 1) := dAt wdX12_runsOn_323 adX12_runsOn_323.2.2.2.2.2.2.2.2.2.2.2.2.2.2.1 rfl
theorem dX12_runsOn_353 : decode cX12_runsOn 353 = .ok (.getfield 8, 3) := dAt wdX12_runsOn_323 adX12_runsOn_323.2.2.2.2.2.2.2.2.2.2.2.2.2.2.2 rfl
def bdX12_runsOn_356 : ByteArray := .mk #[28, 16, 31, 96, 92, 46, 4, 96, 79, 177, 42, 27, 21, 4, 21, 6, 42, 180, 0, 8, 29]
theorem wdX12_runsOn_356 : LocW cX12_runsOn 356 bdX12_runsOn_356 := loc_of (by decide +kernel)
theorem adX12_runsOn_356 : De bdX12_runsOn_356 0 (.iload_n 2) 1 ∧ De bdX12_runsOn_356 1 (.bipush 31) 2 ∧ De bdX12_runsOn_356 3 (.iadd) 1 ∧ De bdX12_runsOn_356 4 (.dup2) 1 ∧ De bdX12_runsOn_356 5 (.iaload) 1 ∧ De bdX12_runsOn_356 6 (.iconst 1) 1 ∧ De bdX12_runsOn_356 7 (.iadd) 1 ∧ De bdX12_runsOn_356 8 (.iastore) 1 ∧ De bdX12_runsOn_356 9 (.return_) 1 ∧ De bdX12_runsOn_356 10 (.aload_n 0) 1 ∧ De bdX12_runsOn_356 11 (.iload_n 1) 1 ∧ De bdX12_runsOn_356 12 (.iload 4) 2 ∧ De bdX12_runsOn_356 14 (.iload 6) 2 ∧ De bdX12_runsOn_356 16 (.aload_n 0) 1 ∧ De bdX12_runsOn_356 17 (.getfield 8) 3 ∧ De bdX12_runsOn_356 20 (.iload_n 3) 1 := by decide +kernel
theorem dX12_runsOn_356 : decode cX12_runsOn 356 = .ok (.iload_n 2, 1) := dAt wdX12_runsOn_356 adX12_runsOn_356.1 rfl
theorem dX12_runsOn_357 : decode cX12_runsOn 357 = .ok (.bipush 31, 2) := dAt wdX12_runsOn_356 adX12_runsOn_356.2.1 rfl
theorem dX12_runsOn_359 : decode cX12_runsOn 359 = .ok (.iadd, 1) := dAt wdX12_runsOn_356 adX12_runsOn_356.2.2.1 rfl
theorem dX12_runsOn_360 : decode cX12_runsOn 360 = .ok (.dup2, 1) := dAt wdX12_runsOn_356 adX12_runsOn_356.2.2.2.1 rfl
theorem dX12_runsOn_361 : decode cX12_runsOn 361 = .ok (.iaload, 1) := dAt wdX12_runsOn_356 adX12_runsOn_356.2.2.2.2.1 rfl
theorem dX12_runsOn_362 : decode cX12_runsOn 362 = .ok (.iconst 1, 1) := dAt wdX12_runsOn_356 adX12_runsOn_356.2.2.2.2.2.1 rfl
theorem dX12_runsOn_363 : decode cX12_runsOn 363 = .ok (.iadd, 1) := dAt wdX12_runsOn_356 adX12_runsOn_356.2.2.2.2.2.2.1 rfl
theorem dX12_runsOn_364 : decode cX12_runsOn 364 = .ok (.iastore, 1) := dAt wdX12_runsOn_356 adX12_runsOn_356.2.2.2.2.2.2.2.1 rfl
theorem dX12_runsOn_365 : decode cX12_runsOn 365 = .ok (.return_, 1) := dAt wdX12_runsOn_356 adX12_runsOn_356.2.2.2.2.2.2.2.2.1 rfl
theorem dX12_runsOn_366 : decode cX12_runsOn 366 = .ok (.aload_n 0, 1) := dAt wdX12_runsOn_356 adX12_runsOn_356.2.2.2.2.2.2.2.2.2.1 rfl
theorem dX12_runsOn_367 : decode cX12_runsOn 367 = .ok (.iload_n 1, 1) := dAt wdX12_runsOn_356 adX12_runsOn_356.2.2.2.2.2.2.2.2.2.2.1 rfl
theorem dX12_runsOn_368 : decode cX12_runsOn 368 = .ok (.iload 4, 2) := dAt wdX12_runsOn_356 adX12_runsOn_356.2.2.2.2.2.2.2.2.2.2.2.1 rfl
theorem dX12_runsOn_370 : decode cX12_runsOn 370 = .ok (.iload 6, 2) := dAt wdX12_runsOn_356 adX12_runsOn_356.2.2.2.2.2.2.2.2.2.2.2.2.1 rfl
theorem dX12_runsOn_372 : decode cX12_runsOn 372 = .ok (.aload_n 0, 1) := dAt wdX12_runsOn_356 adX12_runsOn_356.2.2.2.2.2.2.2.2.2.2.2.2.2.1 rfl
theorem dX12_runsOn_373 : decode cX12_runsOn 373 = .ok (.getfield 8, 3) := dAt wdX12_runsOn_356 adX12_runsOn_356.2.2.2.2.2.2.2.2.2.2.2.2.2.2.1 rfl
theorem dX12_runsOn_376 : decode cX12_runsOn 376 = .ok (.iload_n 3, 1) := dAt wdX12_runsOn_356 adX12_runsOn_356.2.2.2.2.2.2.2.2.2.2.2.2.2.2.2 rfl
def bdX12_runsOn_377 : ByteArray := .mk #[6, 96, 46, 182, 1, 123, 42, 180, 0, 8, 29, 4, 96, 92, 46, 4, 96, 79, 42, 180, 0, 8]
theorem wdX12_runsOn_377 : LocW cX12_runsOn 377 bdX12_runsOn_377 := loc_of (by decide +kernel)
theorem adX12_runsOn_377 : De bdX12_runsOn_377 0 (.iconst 3) 1 ∧ De bdX12_runsOn_377 1 (.iadd) 1 ∧ De bdX12_runsOn_377 2 (.iaload) 1 ∧ De bdX12_runsOn_377 3 (.invokevirtual 379) 3 ∧ De bdX12_runsOn_377 6 (.aload_n 0) 1 ∧ De bdX12_runsOn_377 7 (.getfield 8) 3 ∧ De bdX12_runsOn_377 10 (.iload_n 3) 1 ∧ De bdX12_runsOn_377 11 (.iconst 1) 1 ∧ De bdX12_runsOn_377 12 (.iadd) 1 ∧ De bdX12_runsOn_377 13 (.dup2) 1 ∧ De bdX12_runsOn_377 14 (.iaload) 1 ∧ De bdX12_runsOn_377 15 (.iconst 1) 1 ∧ De bdX12_runsOn_377 16 (.iadd) 1 ∧ De bdX12_runsOn_377 17 (.iastore) 1 ∧ De bdX12_runsOn_377 18 (.aload_n 0) 1 ∧ De bdX12_runsOn_377 19 (.getfield 8) 3 := by decide +kernel
theorem dX12_runsOn_377 : decode cX12_runsOn 377 = .ok (.iconst 3, 1) := dAt wdX12_runsOn_377 adX12_runsOn_377.1 rfl
theorem dX12_runsOn_378 : decode cX12_runsOn 378 = .ok (.iadd, 1) := dAt wdX12_runsOn_377 adX12_runsOn_377.2.1 rfl
theorem dX12_runsOn_379 : decode cX12_runsOn 379 = .ok (.iaload, 1) := dAt wdX12_runsOn_377 adX12_runsOn_377.2.2.1 rfl
theorem dX12_runsOn_380 : decode cX12_runsOn 380 = .ok (.invokevirtual 379, 3) := dAt wdX12_runsOn_377 adX12_runsOn_377.2.2.2.1 rfl
theorem dX12_runsOn_383 : decode cX12_runsOn 383 = .ok (.aload_n 0, 1) := dAt wdX12_runsOn_377 adX12_runsOn_377.2.2.2.2.1 rfl
theorem dX12_runsOn_384 : decode cX12_runsOn 384 = .ok (.getfield 8, 3) := dAt wdX12_runsOn_377 adX12_runsOn_377.2.2.2.2.2.1 rfl
theorem dX12_runsOn_387 : decode cX12_runsOn 387 = .ok (.iload_n 3, 1) := dAt wdX12_runsOn_377 adX12_runsOn_377.2.2.2.2.2.2.1 rfl
theorem dX12_runsOn_388 : decode cX12_runsOn 388 = .ok (.iconst 1, 1) := dAt wdX12_runsOn_377 adX12_runsOn_377.2.2.2.2.2.2.2.1 rfl
theorem dX12_runsOn_389 : decode cX12_runsOn 389 = .ok (.iadd, 1) := dAt wdX12_runsOn_377 adX12_runsOn_377.2.2.2.2.2.2.2.2.1 rfl
theorem dX12_runsOn_390 : decode cX12_runsOn 390 = .ok (.dup2, 1) := dAt wdX12_runsOn_377 adX12_runsOn_377.2.2.2.2.2.2.2.2.2.1 rfl
theorem dX12_runsOn_391 : decode cX12_runsOn 391 = .ok (.iaload, 1) := dAt wdX12_runsOn_377 adX12_runsOn_377.2.2.2.2.2.2.2.2.2.2.1 rfl
theorem dX12_runsOn_392 : decode cX12_runsOn 392 = .ok (.iconst 1, 1) := dAt wdX12_runsOn_377 adX12_runsOn_377.2.2.2.2.2.2.2.2.2.2.2.1 rfl
theorem dX12_runsOn_393 : decode cX12_runsOn 393 = .ok (.iadd, 1) := dAt wdX12_runsOn_377 adX12_runsOn_377.2.2.2.2.2.2.2.2.2.2.2.2.1 rfl
theorem dX12_runsOn_394 : decode cX12_runsOn 394 = .ok (.iastore, 1) := dAt wdX12_runsOn_377 adX12_runsOn_377.2.2.2.2.2.2.2.2.2.2.2.2.2.1 rfl
theorem dX12_runsOn_395 : decode cX12_runsOn 395 = .ok (.aload_n 0, 1) := dAt wdX12_runsOn_377 adX12_runsOn_377.2.2.2.2.2.2.2.2.2.2.2.2.2.2.1 rfl
theorem dX12_runsOn_396 : decode cX12_runsOn 396 = .ok (.getfield 8, 3) := dAt wdX12_runsOn_377 adX12_runsOn_377.2.2.2.2.2.2.2.2.2.2.2.2.2.2.2 rfl
def bdX12_runsOn_399 : ByteArray := .mk #[29, 4, 96, 46, 42, 180, 0, 8, 29, 5, 96, 46, 160, 0, 8, 42, 27, 182, 1, 117, 177]
theorem wdX12_runsOn_399 : LocW cX12_runsOn 399 bdX12_runsOn_399 := loc_of (by decide +kernel)
theorem adX12_runsOn_399 : De bdX12_runsOn_399 0 (.iload_n 3) 1 ∧ De bdX12_runsOn_399 1 (.iconst 1) 1 ∧ De bdX12_runsOn_399 2 (.iadd) 1 ∧ De bdX12_runsOn_399 3 (.iaload) 1 ∧ De bdX12_runsOn_399 4 (.aload_n 0) 1 ∧ De bdX12_runsOn_399 5 (.getfield 8) 3 ∧ De bdX12_runsOn_399 8 (.iload_n 3) 1 ∧ De bdX12_runsOn_399 9 (.iconst 2) 1 ∧ De bdX12_runsOn_399 10 (.iadd) 1 ∧ De bdX12_runsOn_399 11 (.iaload) 1 ∧ De bdX12_runsOn_399 12 (.if_icmp .ne 8) 3 ∧ De bdX12_runsOn_399 15 (.aload_n 0) 1 ∧ De bdX12_runsOn_399 16 (.iload_n 1) 1 ∧ De bdX12_runsOn_399 17 (.invokevirtual 373) 3 ∧ De bdX12_runsOn_399 20 (.return_) 1 := by decide +kernel
theorem dX12_runsOn_399 : decode cX12_runsOn 399 = .ok (.iload_n 3, 1) := dAt wdX12_runsOn_399 adX12_runsOn_399.1 rfl
theorem dX12_runsOn_400 : decode cX12_runsOn 400 = .ok (.iconst 1, 1) := dAt wdX12_runsOn_399 adX12_runsOn_399.2.1 rfl
theorem dX12_runsOn_401 : decode cX12_runsOn 401 = .ok (.iadd, 1) := dAt wdX12_runsOn_399 adX12_runsOn_399.2.2.1 rfl
theorem dX12_runsOn_402 : decode cX12_runsOn 402 = .ok (.iaload, 1) := dAt wdX12_runsOn_399 adX12_runsOn_399.2.2.2.1 rfl
theorem dX12_runsOn_403 : decode cX12_runsOn 403 = .ok (.aload_n 0, 1) := dAt wdX12_runsOn_399 adX12_runsOn_399.2.2.2.2.1 rfl
theorem dX12_runsOn_404 : decode cX12_runsOn 404 = .ok (.getfield 8, 3) := dAt wdX12_runsOn_399 adX12_runsOn_399.2.2.2.2.2.1 rfl
theorem dX12_runsOn_407 : decode cX12_runsOn 407 = .ok (.iload_n 3, 1) := dAt wdX12_runsOn_399 adX12_runsOn_399.2.2.2.2.2.2.1 rfl
theorem dX12_runsOn_408 : decode cX12_runsOn 408 = .ok (.iconst 2, 1) := dAt wdX12_runsOn_399 adX12_runsOn_399.2.2.2.2.2.2.2.1 rfl
theorem dX12_runsOn_409 : decode cX12_runsOn 409 = .ok (.iadd, 1) := dAt wdX12_runsOn_399 adX12_runsOn_399.2.2.2.2.2.2.2.2.1 rfl
theorem dX12_runsOn_410 : decode cX12_runsOn 410 = .ok (.iaload, 1) := dAt wdX12_runsOn_399 adX12_runsOn_399.2.2.2.2.2.2.2.2.2.1 rfl
theorem dX12_runsOn_411 : decode cX12_runsOn 411 = .ok (.if_icmp .ne 8, 3) := dAt wdX12_runsOn_399 adX12_runsOn_399.2.2.2.2.2.2.2.2.2.2.1 rfl
theorem dX12_runsOn_414 : decode cX12_runsOn 414 = .ok (.aload_n 0, 1) := dAt wdX12_runsOn_399 adX12_runsOn_399.2.2.2.2.2.2.2.2.2.2.2.1 rfl
theorem dX12_runsOn_415 : decode cX12_runsOn 415 = .ok (.iload_n 1, 1) := dAt wdX12_runsOn_399 adX12_runsOn_399.2.2.2.2.2.2.2.2.2.2.2.2.1 rfl
theorem dX12_runsOn_416 : decode cX12_runsOn 416 = .ok (.invokevirtual 373, 3) := dAt wdX12_runsOn_399 adX12_runsOn_399.2.2.2.2.2.2.2.2.2.2.2.2.2.1 rfl
theorem dX12_runsOn_419 : decode cX12_runsOn 419 = .ok (.return_, 1) := dAt wdX12_runsOn_399 adX12_runsOn_399.2.2.2.2.2.2.2.2.2.2.2.2.2.2 rfl
def bdX12_casts_0 : ByteArray := .mk #[42, 180, 0, 8, 7, 46, 54, 5, 21, 5, 184, 1, 86, 54, 6, 28, 184, 0, 164, 54, 7, 42, 180, 0, 8, 21, 6, 3, 96]
theorem wdX12_casts_0 : LocW cX12_casts 0 bdX12_casts_0 := loc_of (by decide +kernel)
theorem adX12_casts_0 : De bdX12_casts_0 0 (.aload_n 0) 1 ∧ De bdX12_casts_0 1 (.getfield 8) 3 ∧ De bdX12_casts_0 4 (.iconst 4) 1 ∧ De bdX12_casts_0 5 (.iaload) 1 ∧ De bdX12_casts_0 6 (.istore 5) 2 ∧ De bdX12_casts_0 8 (.iload 5) 2 ∧ De bdX12_casts_0 10 (.invokestatic 342) 3 ∧ De bdX12_casts_0 13 (.istore 6) 2 ∧ De bdX12_casts_0 15 (.iload_n 2) 1 ∧ De bdX12_casts_0 16 (.invokestatic 164) 3 ∧ De bdX12_casts_0 19 (.istore 7) 2 ∧ De bdX12_casts_0 21 (.aload_n 0) 1 ∧ De bdX12_casts_0 22 (.getfield 8) 3 ∧ De bdX12_casts_0 25 (.iload 6) 2 ∧ De bdX12_casts_0 27 (.iconst 0) 1 ∧ De bdX12_casts_0 28 (.iadd) 1 := by decide +kernel
theorem dX12_casts_0 : decode cX12_casts 0 = .ok (.aload_n 0, 1) := dAt wdX12_casts_0 adX12_casts_0.1 rfl
theorem dX12_casts_1 : decode cX12_casts 1 = .ok (.getfield 8, 3) := dAt wdX12_casts_0 adX12_casts_0.2.1 rfl
theorem dX12_casts_4 : decode cX12_casts 4 = .ok (.iconst 4, 1) := dAt wdX12_casts_0 adX12_casts_0.2.2.1 rfl
theorem dX12_casts_5 : decode cX12_casts 5 = .ok (.iaload, 1) := dAt wdX12_casts_0 adX12_casts_0.2.2.2.1 rfl
theorem dX12_casts_6 : decode cX12_casts 6 = .ok (.istore 5, 2) := dAt wdX12_casts_0 adX12_casts_0.2.2.2.2.1 rfl
theorem dX12_casts_8 : decode cX12_casts 8 = .ok (.iload 5, 2) := dAt wdX12_casts_0 adX12_casts_0.2.2.2.2.2.1 rfl
theorem dX12_casts_10 : decode cX12_casts 10 = .ok (.invokestatic 342, 3) := dAt wdX12_casts_0 adX12_casts_0.2.2.2.2.2.2.1 rfl
theorem dX12_casts_13 : decode cX12_casts 13 = .ok (.istore 6, 2) := dAt wdX12_casts_0 adX12_casts_0.2.2.2.2.2.2.2.1 rfl
theorem dX12_casts_15 : decode cX12_casts 15 = .ok (.iload_n 2, 1) := dAt wdX12_casts_0 adX12_casts_0.2.2.2.2.2.2.2.2.1 rfl
theorem dX12_casts_16 : decode cX12_casts 16 = .ok (.invokestatic 164, 3) := dAt wdX12_casts_0 adX12_casts_0.2.2.2.2.2.2.2.2.2.1 rfl
theorem dX12_casts_19 : decode cX12_casts 19 = .ok (.istore 7, 2) := dAt wdX12_casts_0 adX12_casts_0.2.2.2.2.2.2.2.2.2.2.1 rfl
theorem dX12_casts_21 : decode cX12_casts 21 = .ok (.aload_n 0, 1) := dAt wdX12_casts_0 adX12_casts_0.2.2.2.2.2.2.2.2.2.2.2.1 rfl
theorem dX12_casts_22 : decode cX12_casts 22 = .ok (.getfield 8, 3) := dAt wdX12_casts_0 adX12_casts_0.2.2.2.2.2.2.2.2.2.2.2.2.1 rfl
theorem dX12_casts_25 : decode cX12_casts 25 = .ok (.iload 6, 2) := dAt wdX12_casts_0 adX12_casts_0.2.2.2.2.2.2.2.2.2.2.2.2.2.1 rfl
theorem dX12_casts_27 : decode cX12_casts 27 = .ok (.iconst 0, 1) := dAt wdX12_casts_0 adX12_casts_0.2.2.2.2.2.2.2.2.2.2.2.2.2.2.1 rfl
theorem dX12_casts_28 : decode cX12_casts 28 = .ok (.iadd, 1) := dAt wdX12_casts_0 adX12_casts_0.2.2.2.2.2.2.2.2.2.2.2.2.2.2.2 rfl
def bdX12_casts_29 : ByteArray := .mk #[28, 79, 42, 180, 0, 8, 21, 6, 4, 96, 27, 79, 42, 180, 0, 8, 21, 6, 5, 96, 42, 180, 0, 8]
theorem wdX12_casts_29 : LocW cX12_casts 29 bdX12_casts_29 := loc_of (by decide +kernel)
theorem adX12_casts_29 : De bdX12_casts_29 0 (.iload_n 2) 1 ∧ De bdX12_casts_29 1 (.iastore) 1 ∧ De bdX12_casts_29 2 (.aload_n 0) 1 ∧ De bdX12_casts_29 3 (.getfield 8) 3 ∧ De bdX12_casts_29 6 (.iload 6) 2 ∧ De bdX12_casts_29 8 (.iconst 1) 1 ∧ De bdX12_casts_29 9 (.iadd) 1 ∧ De bdX12_casts_29 10 (.iload_n 1) 1 ∧ De bdX12_casts_29 11 (.iastore) 1 ∧ De bdX12_casts_29 12 (.aload_n 0) 1 ∧ De bdX12_casts_29 13 (.getfield 8) 3 ∧ De bdX12_casts_29 16 (.iload 6) 2 ∧ De bdX12_casts_29 18 (.iconst 2) 1 ∧ De bdX12_casts_29 19 (.iadd) 1 ∧ De bdX12_casts_29 20 (.aload_n 0) 1 ∧ De bdX12_casts_29 21 (.getfield 8) 3 := by decide +kernel
theorem dX12_casts_29 : decode cX12_casts 29 = .ok (.iload_n 2, 1) := dAt wdX12_casts_29 adX12_casts_29.1 rfl
theorem dX12_casts_30 : decode cX12_casts 30 = .ok (.iastore, 1) := dAt wdX12_casts_29 adX12_casts_29.2.1 rfl
theorem dX12_casts_31 : decode cX12_casts 31 = .ok (.aload_n 0, 1) := dAt wdX12_casts_29 adX12_casts_29.2.2.1 rfl
theorem dX12_casts_32 : decode cX12_casts 32 = .ok (.getfield 8, 3) := dAt wdX12_casts_29 adX12_casts_29.2.2.2.1 rfl
theorem dX12_casts_35 : decode cX12_casts 35 = .ok (.iload 6, 2) := dAt wdX12_casts_29 adX12_casts_29.2.2.2.2.1 rfl
theorem dX12_casts_37 : decode cX12_casts 37 = .ok (.iconst 1, 1) := dAt wdX12_casts_29 adX12_casts_29.2.2.2.2.2.1 rfl
theorem dX12_casts_38 : decode cX12_casts 38 = .ok (.iadd, 1) := dAt wdX12_casts_29 adX12_casts_29.2.2.2.2.2.2.1 rfl
theorem dX12_casts_39 : decode cX12_casts 39 = .ok (.iload_n 1, 1) := dAt wdX12_casts_29 adX12_casts_29.2.2.2.2.2.2.2.1 rfl
theorem dX12_casts_40 : decode cX12_casts 40 = .ok (.iastore, 1) := dAt wdX12_casts_29 adX12_casts_29.2.2.2.2.2.2.2.2.1 rfl
theorem dX12_casts_41 : decode cX12_casts 41 = .ok (.aload_n 0, 1) := dAt wdX12_casts_29 adX12_casts_29.2.2.2.2.2.2.2.2.2.1 rfl
theorem dX12_casts_42 : decode cX12_casts 42 = .ok (.getfield 8, 3) := dAt wdX12_casts_29 adX12_casts_29.2.2.2.2.2.2.2.2.2.2.1 rfl
theorem dX12_casts_45 : decode cX12_casts 45 = .ok (.iload 6, 2) := dAt wdX12_casts_29 adX12_casts_29.2.2.2.2.2.2.2.2.2.2.2.1 rfl
theorem dX12_casts_47 : decode cX12_casts 47 = .ok (.iconst 2, 1) := dAt wdX12_casts_29 adX12_casts_29.2.2.2.2.2.2.2.2.2.2.2.2.1 rfl
theorem dX12_casts_48 : decode cX12_casts 48 = .ok (.iadd, 1) := dAt wdX12_casts_29 adX12_casts_29.2.2.2.2.2.2.2.2.2.2.2.2.2.1 rfl
theorem dX12_casts_49 : decode cX12_casts 49 = .ok (.aload_n 0, 1) := dAt wdX12_casts_29 adX12_casts_29.2.2.2.2.2.2.2.2.2.2.2.2.2.2.1 rfl
theorem dX12_casts_50 : decode cX12_casts 50 = .ok (.getfield 8, 3) := dAt wdX12_casts_29 adX12_casts_29.2.2.2.2.2.2.2.2.2.2.2.2.2.2.2 rfl
def bdX12_casts_53 : ByteArray := .mk #[3, 46, 79, 3, 54, 8, 3, 54, 9, 21, 9, 42, 180, 1, 95, 162, 0, 72, 42, 180, 0, 8, 21, 6, 16, 12, 96]
theorem wdX12_casts_53 : LocW cX12_casts 53 bdX12_casts_53 := loc_of (by decide +kernel)
theorem adX12_casts_53 : De bdX12_casts_53 0 (.iconst 0) 1 ∧ De bdX12_casts_53 1 (.iaload) 1 ∧ De bdX12_casts_53 2 (.iastore) 1 ∧ De bdX12_casts_53 3 (.iconst 0) 1 ∧ De bdX12_casts_53 4 (.istore 8) 2 ∧ De bdX12_casts_53 6 (.iconst 0) 1 ∧ De bdX12_casts_53 7 (.istore 9) 2 ∧ De bdX12_casts_53 9 (.iload 9) 2 ∧ De bdX12_casts_53 11 (.aload_n 0) 1 ∧ De bdX12_casts_53 12 (.getfield 351) 3 ∧ De bdX12_casts_53 15 (.if_icmp .ge 72) 3 ∧ De bdX12_casts_53 18 (.aload_n 0) 1 ∧ De bdX12_casts_53 19 (.getfield 8) 3 ∧ De bdX12_casts_53 22 (.iload 6) 2 ∧ De bdX12_casts_53 24 (.bipush 12) 2 ∧ De bdX12_casts_53 26 (.iadd) 1 := by decide +kernel
theorem dX12_casts_53 : decode cX12_casts 53 = .ok (.iconst 0, 1) := dAt wdX12_casts_53 adX12_casts_53.1 rfl
theorem dX12_casts_54 : decode cX12_casts 54 = .ok (.iaload, 1) := dAt wdX12_casts_53 adX12_casts_53.2.1 rfl
theorem dX12_casts_55 : decode cX12_casts 55 = .ok (.iastore, 1) := dAt wdX12_casts_53 adX12_casts_53.2.2.1 rfl
theorem dX12_casts_56 : decode cX12_casts 56 = .ok (.iconst 0, 1) := dAt wdX12_casts_53 adX12_casts_53.2.2.2.1 rfl
theorem dX12_casts_57 : decode cX12_casts 57 = .ok (.istore 8, 2) := dAt wdX12_casts_53 adX12_casts_53.2.2.2.2.1 rfl
theorem dX12_casts_59 : decode cX12_casts 59 = .ok (.iconst 0, 1) := dAt wdX12_casts_53 adX12_casts_53.2.2.2.2.2.1 rfl
theorem dX12_casts_60 : decode cX12_casts 60 = .ok (.istore 9, 2) := dAt wdX12_casts_53 adX12_casts_53.2.2.2.2.2.2.1 rfl
theorem dX12_casts_62 : decode cX12_casts 62 = .ok (.iload 9, 2) := dAt wdX12_casts_53 adX12_casts_53.2.2.2.2.2.2.2.1 rfl
theorem dX12_casts_64 : decode cX12_casts 64 = .ok (.aload_n 0, 1) := dAt wdX12_casts_53 adX12_casts_53.2.2.2.2.2.2.2.2.1 rfl
theorem dX12_casts_65 : decode cX12_casts 65 = .ok (.getfield 351, 3) := dAt wdX12_casts_53 adX12_casts_53.2.2.2.2.2.2.2.2.2.1 rfl
theorem dX12_casts_68 : decode cX12_casts 68 = .ok (.if_icmp .ge 72, 3) := dAt wdX12_casts_53 adX12_casts_53.2.2.2.2.2.2.2.2.2.2.1 rfl
theorem dX12_casts_71 : decode cX12_casts 71 = .ok (.aload_n 0, 1) := dAt wdX12_casts_53 adX12_casts_53.2.2.2.2.2.2.2.2.2.2.2.1 rfl
theorem dX12_casts_72 : decode cX12_casts 72 = .ok (.getfield 8, 3) := dAt wdX12_casts_53 adX12_casts_53.2.2.2.2.2.2.2.2.2.2.2.2.1 rfl
theorem dX12_casts_75 : decode cX12_casts 75 = .ok (.iload 6, 2) := dAt wdX12_casts_53 adX12_casts_53.2.2.2.2.2.2.2.2.2.2.2.2.2.1 rfl
theorem dX12_casts_77 : decode cX12_casts 77 = .ok (.bipush 12, 2) := dAt wdX12_casts_53 adX12_casts_53.2.2.2.2.2.2.2.2.2.2.2.2.2.2.1 rfl
theorem dX12_casts_79 : decode cX12_casts 79 = .ok (.iadd, 1) := dAt wdX12_casts_53 adX12_casts_53.2.2.2.2.2.2.2.2.2.2.2.2.2.2.2 rfl
def bdX12_casts_80 : ByteArray := .mk #[21, 9, 96, 42, 180, 0, 64, 21, 9, 46, 79, 42, 180, 0, 8, 21, 6, 17, 1, 176, 96, 21, 9, 96, 42, 180, 0, 64]
theorem wdX12_casts_80 : LocW cX12_casts 80 bdX12_casts_80 := loc_of (by decide +kernel)
theorem adX12_casts_80 : De bdX12_casts_80 0 (.iload 9) 2 ∧ De bdX12_casts_80 2 (.iadd) 1 ∧ De bdX12_casts_80 3 (.aload_n 0) 1 ∧ De bdX12_casts_80 4 (.getfield 64) 3 ∧ De bdX12_casts_80 7 (.iload 9) 2 ∧ De bdX12_casts_80 9 (.iaload) 1 ∧ De bdX12_casts_80 10 (.iastore) 1 ∧ De bdX12_casts_80 11 (.aload_n 0) 1 ∧ De bdX12_casts_80 12 (.getfield 8) 3 ∧ De bdX12_casts_80 15 (.iload 6) 2 ∧ De bdX12_casts_80 17 (.sipush 432) 3 ∧ De bdX12_casts_80 20 (.iadd) 1 ∧ De bdX12_casts_80 21 (.iload 9) 2 ∧ De bdX12_casts_80 23 (.iadd) 1 ∧ De bdX12_casts_80 24 (.aload_n 0) 1 ∧ De bdX12_casts_80 25 (.getfield 64) 3 := by decide +kernel
theorem dX12_casts_80 : decode cX12_casts 80 = .ok (.iload 9, 2) := dAt wdX12_casts_80 adX12_casts_80.1 rfl
theorem dX12_casts_82 : decode cX12_casts 82 = .ok (.iadd, 1) := dAt wdX12_casts_80 adX12_casts_80.2.1 rfl
theorem dX12_casts_83 : decode cX12_casts 83 = .ok (.aload_n 0, 1) := dAt wdX12_casts_80 adX12_casts_80.2.2.1 rfl
theorem dX12_casts_84 : decode cX12_casts 84 = .ok (.getfield 64, 3) := dAt wdX12_casts_80 adX12_casts_80.2.2.2.1 rfl
theorem dX12_casts_87 : decode cX12_casts 87 = .ok (.iload 9, 2) := dAt wdX12_casts_80 adX12_casts_80.2.2.2.2.1 rfl
theorem dX12_casts_89 : decode cX12_casts 89 = .ok (.iaload, 1) := dAt wdX12_casts_80 adX12_casts_80.2.2.2.2.2.1 rfl
theorem dX12_casts_90 : decode cX12_casts 90 = .ok (.iastore, 1) := dAt wdX12_casts_80 adX12_casts_80.2.2.2.2.2.2.1 rfl
theorem dX12_casts_91 : decode cX12_casts 91 = .ok (.aload_n 0, 1) := dAt wdX12_casts_80 adX12_casts_80.2.2.2.2.2.2.2.1 rfl
theorem dX12_casts_92 : decode cX12_casts 92 = .ok (.getfield 8, 3) := dAt wdX12_casts_80 adX12_casts_80.2.2.2.2.2.2.2.2.1 rfl
theorem dX12_casts_95 : decode cX12_casts 95 = .ok (.iload 6, 2) := dAt wdX12_casts_80 adX12_casts_80.2.2.2.2.2.2.2.2.2.1 rfl
theorem dX12_casts_97 : decode cX12_casts 97 = .ok (.sipush 432, 3) := dAt wdX12_casts_80 adX12_casts_80.2.2.2.2.2.2.2.2.2.2.1 rfl
theorem dX12_casts_100 : decode cX12_casts 100 = .ok (.iadd, 1) := dAt wdX12_casts_80 adX12_casts_80.2.2.2.2.2.2.2.2.2.2.2.1 rfl
theorem dX12_casts_101 : decode cX12_casts 101 = .ok (.iload 9, 2) := dAt wdX12_casts_80 adX12_casts_80.2.2.2.2.2.2.2.2.2.2.2.2.1 rfl
theorem dX12_casts_103 : decode cX12_casts 103 = .ok (.iadd, 1) := dAt wdX12_casts_80 adX12_casts_80.2.2.2.2.2.2.2.2.2.2.2.2.2.1 rfl
theorem dX12_casts_104 : decode cX12_casts 104 = .ok (.aload_n 0, 1) := dAt wdX12_casts_80 adX12_casts_80.2.2.2.2.2.2.2.2.2.2.2.2.2.2.1 rfl
theorem dX12_casts_105 : decode cX12_casts 105 = .ok (.getfield 64, 3) := dAt wdX12_casts_80 adX12_casts_80.2.2.2.2.2.2.2.2.2.2.2.2.2.2.2 rfl
def bdX12_casts_108 : ByteArray := .mk #[21, 9, 46, 79, 21, 8, 42, 180, 0, 64, 21, 9, 46, 16, 32, 160, 0, 7, 3, 167, 0, 4, 4, 96, 54, 8, 132, 9, 1]
theorem wdX12_casts_108 : LocW cX12_casts 108 bdX12_casts_108 := loc_of (by decide +kernel)
theorem adX12_casts_108 : De bdX12_casts_108 0 (.iload 9) 2 ∧ De bdX12_casts_108 2 (.iaload) 1 ∧ De bdX12_casts_108 3 (.iastore) 1 ∧ De bdX12_casts_108 4 (.iload 8) 2 ∧ De bdX12_casts_108 6 (.aload_n 0) 1 ∧ De bdX12_casts_108 7 (.getfield 64) 3 ∧ De bdX12_casts_108 10 (.iload 9) 2 ∧ De bdX12_casts_108 12 (.iaload) 1 ∧ De bdX12_casts_108 13 (.bipush 32) 2 ∧ De bdX12_casts_108 15 (.if_icmp .ne 7) 3 ∧ De bdX12_casts_108 18 (.iconst 0) 1 ∧ De bdX12_casts_108 19 (.goto 4) 3 ∧ De bdX12_casts_108 22 (.iconst 1) 1 ∧ De bdX12_casts_108 23 (.iadd) 1 ∧ De bdX12_casts_108 24 (.istore 8) 2 ∧ De bdX12_casts_108 26 (.iinc 9 1) 3 := by decide +kernel
theorem dX12_casts_108 : decode cX12_casts 108 = .ok (.iload 9, 2) := dAt wdX12_casts_108 adX12_casts_108.1 rfl
theorem dX12_casts_110 : decode cX12_casts 110 = .ok (.iaload, 1) := dAt wdX12_casts_108 adX12_casts_108.2.1 rfl
theorem dX12_casts_111 : decode cX12_casts 111 = .ok (.iastore, 1) := dAt wdX12_casts_108 adX12_casts_108.2.2.1 rfl
theorem dX12_casts_112 : decode cX12_casts 112 = .ok (.iload 8, 2) := dAt wdX12_casts_108 adX12_casts_108.2.2.2.1 rfl
theorem dX12_casts_114 : decode cX12_casts 114 = .ok (.aload_n 0, 1) := dAt wdX12_casts_108 adX12_casts_108.2.2.2.2.1 rfl
theorem dX12_casts_115 : decode cX12_casts 115 = .ok (.getfield 64, 3) := dAt wdX12_casts_108 adX12_casts_108.2.2.2.2.2.1 rfl
theorem dX12_casts_118 : decode cX12_casts 118 = .ok (.iload 9, 2) := dAt wdX12_casts_108 adX12_casts_108.2.2.2.2.2.2.1 rfl
theorem dX12_casts_120 : decode cX12_casts 120 = .ok (.iaload, 1) := dAt wdX12_casts_108 adX12_casts_108.2.2.2.2.2.2.2.1 rfl
theorem dX12_casts_121 : decode cX12_casts 121 = .ok (.bipush 32, 2) := dAt wdX12_casts_108 adX12_casts_108.2.2.2.2.2.2.2.2.1 rfl
theorem dX12_casts_123 : decode cX12_casts 123 = .ok (.if_icmp .ne 7, 3) := dAt wdX12_casts_108 adX12_casts_108.2.2.2.2.2.2.2.2.2.1 rfl
theorem dX12_casts_126 : decode cX12_casts 126 = .ok (.iconst 0, 1) := dAt wdX12_casts_108 adX12_casts_108.2.2.2.2.2.2.2.2.2.2.1 rfl
theorem dX12_casts_127 : decode cX12_casts 127 = .ok (.goto 4, 3) := dAt wdX12_casts_108 adX12_casts_108.2.2.2.2.2.2.2.2.2.2.2.1 rfl
theorem dX12_casts_130 : decode cX12_casts 130 = .ok (.iconst 1, 1) := dAt wdX12_casts_108 adX12_casts_108.2.2.2.2.2.2.2.2.2.2.2.2.1 rfl
theorem dX12_casts_131 : decode cX12_casts 131 = .ok (.iadd, 1) := dAt wdX12_casts_108 adX12_casts_108.2.2.2.2.2.2.2.2.2.2.2.2.2.1 rfl
theorem dX12_casts_132 : decode cX12_casts 132 = .ok (.istore 8, 2) := dAt wdX12_casts_108 adX12_casts_108.2.2.2.2.2.2.2.2.2.2.2.2.2.2.1 rfl
theorem dX12_casts_134 : decode cX12_casts 134 = .ok (.iinc 9 1, 3) := dAt wdX12_casts_108 adX12_casts_108.2.2.2.2.2.2.2.2.2.2.2.2.2.2.2 rfl
def bdX12_casts_137 : ByteArray := .mk #[167, 255, 181, 42, 180, 0, 8, 21, 6, 6, 96, 21, 8, 79, 42, 180, 0, 8, 21, 6, 16, 9, 96, 42, 180, 1, 95, 79]
theorem wdX12_casts_137 : LocW cX12_casts 137 bdX12_casts_137 := loc_of (by decide +kernel)
theorem adX12_casts_137 : De bdX12_casts_137 0 (.goto (-75)) 3 ∧ De bdX12_casts_137 3 (.aload_n 0) 1 ∧ De bdX12_casts_137 4 (.getfield 8) 3 ∧ De bdX12_casts_137 7 (.iload 6) 2 ∧ De bdX12_casts_137 9 (.iconst 3) 1 ∧ De bdX12_casts_137 10 (.iadd) 1 ∧ De bdX12_casts_137 11 (.iload 8) 2 ∧ De bdX12_casts_137 13 (.iastore) 1 ∧ De bdX12_casts_137 14 (.aload_n 0) 1 ∧ De bdX12_casts_137 15 (.getfield 8) 3 ∧ De bdX12_casts_137 18 (.iload 6) 2 ∧ De bdX12_casts_137 20 (.bipush 9) 2 ∧ De bdX12_casts_137 22 (.iadd) 1 ∧ De bdX12_casts_137 23 (.aload_n 0) 1 ∧ De bdX12_casts_137 24 (.getfield 351) 3 ∧ De bdX12_casts_137 27 (.iastore) 1 := by decide +kernel
theorem dX12_casts_137 : decode cX12_casts 137 = .ok (.goto (-75), 3) := dAt wdX12_casts_137 adX12_casts_137.1 rfl
theorem dX12_casts_140 : decode cX12_casts 140 = .ok (.aload_n 0, 1) := dAt wdX12_casts_137 adX12_casts_137.2.1 rfl
theorem dX12_casts_141 : decode cX12_casts 141 = .ok (.getfield 8, 3) := dAt wdX12_casts_137 adX12_casts_137.2.2.1 rfl
theorem dX12_casts_144 : decode cX12_casts 144 = .ok (.iload 6, 2) := dAt wdX12_casts_137 adX12_casts_137.2.2.2.1 rfl
theorem dX12_casts_146 : decode cX12_casts 146 = .ok (.iconst 3, 1) := dAt wdX12_casts_137 adX12_casts_137.2.2.2.2.1 rfl
theorem dX12_casts_147 : decode cX12_casts 147 = .ok (.iadd, 1) := dAt wdX12_casts_137 adX12_casts_137.2.2.2.2.2.1 rfl
theorem dX12_casts_148 : decode cX12_casts 148 = .ok (.iload 8, 2) := dAt wdX12_casts_137 adX12_casts_137.2.2.2.2.2.2.1 rfl
theorem dX12_casts_150 : decode cX12_casts 150 = .ok (.iastore, 1) := dAt wdX12_casts_137 adX12_casts_137.2.2.2.2.2.2.2.1 rfl
theorem dX12_casts_151 : decode cX12_casts 151 = .ok (.aload_n 0, 1) := dAt wdX12_casts_137 adX12_casts_137.2.2.2.2.2.2.2.2.1 rfl
theorem dX12_casts_152 : decode cX12_casts 152 = .ok (.getfield 8, 3) := dAt wdX12_casts_137 adX12_casts_137.2.2.2.2.2.2.2.2.2.1 rfl
theorem dX12_casts_155 : decode cX12_casts 155 = .ok (.iload 6, 2) := dAt wdX12_casts_137 adX12_casts_137.2.2.2.2.2.2.2.2.2.2.1 rfl
theorem dX12_casts_157 : decode cX12_casts 157 = .ok (.bipush 9, 2) := dAt wdX12_casts_137 adX12_casts_137.2.2.2.2.2.2.2.2.2.2.2.1 rfl
theorem dX12_casts_159 : decode cX12_casts 159 = .ok (.iadd, 1) := dAt wdX12_casts_137 adX12_casts_137.2.2.2.2.2.2.2.2.2.2.2.2.1 rfl
theorem dX12_casts_160 : decode cX12_casts 160 = .ok (.aload_n 0, 1) := dAt wdX12_casts_137 adX12_casts_137.2.2.2.2.2.2.2.2.2.2.2.2.2.1 rfl
theorem dX12_casts_161 : decode cX12_casts 161 = .ok (.getfield 351, 3) := dAt wdX12_casts_137 adX12_casts_137.2.2.2.2.2.2.2.2.2.2.2.2.2.2.1 rfl
theorem dX12_casts_164 : decode cX12_casts 164 = .ok (.iastore, 1) := dAt wdX12_casts_137 adX12_casts_137.2.2.2.2.2.2.2.2.2.2.2.2.2.2.2 rfl
def bdX12_casts_165 : ByteArray := .mk #[42, 180, 0, 8, 21, 6, 7, 96, 3, 79, 42, 180, 0, 8, 21, 6, 16, 7, 96, 21, 4, 79, 42, 180, 0, 8]
theorem wdX12_casts_165 : LocW cX12_casts 165 bdX12_casts_165 := loc_of (by decide +kernel)
theorem adX12_casts_165 : De bdX12_casts_165 0 (.aload_n 0) 1 ∧ De bdX12_casts_165 1 (.getfield 8) 3 ∧ De bdX12_casts_165 4 (.iload 6) 2 ∧ De bdX12_casts_165 6 (.iconst 4) 1 ∧ De bdX12_casts_165 7 (.iadd) 1 ∧ De bdX12_casts_165 8 (.iconst 0) 1 ∧ De bdX12_casts_165 9 (.iastore) 1 ∧ De bdX12_casts_165 10 (.aload_n 0) 1 ∧ De bdX12_casts_165 11 (.getfield 8) 3 ∧ De bdX12_casts_165 14 (.iload 6) 2 ∧ De bdX12_casts_165 16 (.bipush 7) 2 ∧ De bdX12_casts_165 18 (.iadd) 1 ∧ De bdX12_casts_165 19 (.iload 4) 2 ∧ De bdX12_casts_165 21 (.iastore) 1 ∧ De bdX12_casts_165 22 (.aload_n 0) 1 ∧ De bdX12_casts_165 23 (.getfield 8) 3 := by decide +kernel
theorem dX12_casts_165 : decode cX12_casts 165 = .ok (.aload_n 0, 1) := dAt wdX12_casts_165 adX12_casts_165.1 rfl
theorem dX12_casts_166 : decode cX12_casts 166 = .ok (.getfield 8, 3) := dAt wdX12_casts_165 adX12_casts_165.2.1 rfl
theorem dX12_casts_169 : decode cX12_casts 169 = .ok (.iload 6, 2) := dAt wdX12_casts_165 adX12_casts_165.2.2.1 rfl
theorem dX12_casts_171 : decode cX12_casts 171 = .ok (.iconst 4, 1) := dAt wdX12_casts_165 adX12_casts_165.2.2.2.1 rfl
theorem dX12_casts_172 : decode cX12_casts 172 = .ok (.iadd, 1) := dAt wdX12_casts_165 adX12_casts_165.2.2.2.2.1 rfl
theorem dX12_casts_173 : decode cX12_casts 173 = .ok (.iconst 0, 1) := dAt wdX12_casts_165 adX12_casts_165.2.2.2.2.2.1 rfl
theorem dX12_casts_174 : decode cX12_casts 174 = .ok (.iastore, 1) := dAt wdX12_casts_165 adX12_casts_165.2.2.2.2.2.2.1 rfl
theorem dX12_casts_175 : decode cX12_casts 175 = .ok (.aload_n 0, 1) := dAt wdX12_casts_165 adX12_casts_165.2.2.2.2.2.2.2.1 rfl
theorem dX12_casts_176 : decode cX12_casts 176 = .ok (.getfield 8, 3) := dAt wdX12_casts_165 adX12_casts_165.2.2.2.2.2.2.2.2.1 rfl
theorem dX12_casts_179 : decode cX12_casts 179 = .ok (.iload 6, 2) := dAt wdX12_casts_165 adX12_casts_165.2.2.2.2.2.2.2.2.2.1 rfl
theorem dX12_casts_181 : decode cX12_casts 181 = .ok (.bipush 7, 2) := dAt wdX12_casts_165 adX12_casts_165.2.2.2.2.2.2.2.2.2.2.1 rfl
theorem dX12_casts_183 : decode cX12_casts 183 = .ok (.iadd, 1) := dAt wdX12_casts_165 adX12_casts_165.2.2.2.2.2.2.2.2.2.2.2.1 rfl
theorem dX12_casts_184 : decode cX12_casts 184 = .ok (.iload 4, 2) := dAt wdX12_casts_165 adX12_casts_165.2.2.2.2.2.2.2.2.2.2.2.2.1 rfl
theorem dX12_casts_186 : decode cX12_casts 186 = .ok (.iastore, 1) := dAt wdX12_casts_165 adX12_casts_165.2.2.2.2.2.2.2.2.2.2.2.2.2.1 rfl
theorem dX12_casts_187 : decode cX12_casts 187 = .ok (.aload_n 0, 1) := dAt wdX12_casts_165 adX12_casts_165.2.2.2.2.2.2.2.2.2.2.2.2.2.2.1 rfl
theorem dX12_casts_188 : decode cX12_casts 188 = .ok (.getfield 8, 3) := dAt wdX12_casts_165 adX12_casts_165.2.2.2.2.2.2.2.2.2.2.2.2.2.2.2 rfl
def bdX12_casts_191 : ByteArray := .mk #[21, 6, 16, 8, 96, 29, 79, 42, 180, 0, 8, 21, 6, 16, 10, 96, 3, 79, 42, 180, 0, 8, 21, 6, 16, 10]
theorem wdX12_casts_191 : LocW cX12_casts 191 bdX12_casts_191 := loc_of (by decide +kernel)
theorem adX12_casts_191 : De bdX12_casts_191 0 (.iload 6) 2 ∧ De bdX12_casts_191 2 (.bipush 8) 2 ∧ De bdX12_casts_191 4 (.iadd) 1 ∧ De bdX12_casts_191 5 (.iload_n 3) 1 ∧ De bdX12_casts_191 6 (.iastore) 1 ∧ De bdX12_casts_191 7 (.aload_n 0) 1 ∧ De bdX12_casts_191 8 (.getfield 8) 3 ∧ De bdX12_casts_191 11 (.iload 6) 2 ∧ De bdX12_casts_191 13 (.bipush 10) 2 ∧ De bdX12_casts_191 15 (.iadd) 1 ∧ De bdX12_casts_191 16 (.iconst 0) 1 ∧ De bdX12_casts_191 17 (.iastore) 1 ∧ De bdX12_casts_191 18 (.aload_n 0) 1 ∧ De bdX12_casts_191 19 (.getfield 8) 3 ∧ De bdX12_casts_191 22 (.iload 6) 2 ∧ De bdX12_casts_191 24 (.bipush 10) 2 := by decide +kernel
theorem dX12_casts_191 : decode cX12_casts 191 = .ok (.iload 6, 2) := dAt wdX12_casts_191 adX12_casts_191.1 rfl
theorem dX12_casts_193 : decode cX12_casts 193 = .ok (.bipush 8, 2) := dAt wdX12_casts_191 adX12_casts_191.2.1 rfl
theorem dX12_casts_195 : decode cX12_casts 195 = .ok (.iadd, 1) := dAt wdX12_casts_191 adX12_casts_191.2.2.1 rfl
theorem dX12_casts_196 : decode cX12_casts 196 = .ok (.iload_n 3, 1) := dAt wdX12_casts_191 adX12_casts_191.2.2.2.1 rfl
theorem dX12_casts_197 : decode cX12_casts 197 = .ok (.iastore, 1) := dAt wdX12_casts_191 adX12_casts_191.2.2.2.2.1 rfl
theorem dX12_casts_198 : decode cX12_casts 198 = .ok (.aload_n 0, 1) := dAt wdX12_casts_191 adX12_casts_191.2.2.2.2.2.1 rfl
theorem dX12_casts_199 : decode cX12_casts 199 = .ok (.getfield 8, 3) := dAt wdX12_casts_191 adX12_casts_191.2.2.2.2.2.2.1 rfl
theorem dX12_casts_202 : decode cX12_casts 202 = .ok (.iload 6, 2) := dAt wdX12_casts_191 adX12_casts_191.2.2.2.2.2.2.2.1 rfl
theorem dX12_casts_204 : decode cX12_casts 204 = .ok (.bipush 10, 2) := dAt wdX12_casts_191 adX12_casts_191.2.2.2.2.2.2.2.2.1 rfl
theorem dX12_casts_206 : decode cX12_casts 206 = .ok (.iadd, 1) := dAt wdX12_casts_191 adX12_casts_191.2.2.2.2.2.2.2.2.2.1 rfl
theorem dX12_casts_207 : decode cX12_casts 207 = .ok (.iconst 0, 1) := dAt wdX12_casts_191 adX12_casts_191.2.2.2.2.2.2.2.2.2.2.1 rfl
theorem dX12_casts_208 : decode cX12_casts 208 = .ok (.iastore, 1) := dAt wdX12_casts_191 adX12_casts_191.2.2.2.2.2.2.2.2.2.2.2.1 rfl
theorem dX12_casts_209 : decode cX12_casts 209 = .ok (.aload_n 0, 1) := dAt wdX12_casts_191 adX12_casts_191.2.2.2.2.2.2.2.2.2.2.2.2.1 rfl
theorem dX12_casts_210 : decode cX12_casts 210 = .ok (.getfield 8, 3) := dAt wdX12_casts_191 adX12_casts_191.2.2.2.2.2.2.2.2.2.2.2.2.2.1 rfl
theorem dX12_casts_213 : decode cX12_casts 213 = .ok (.iload 6, 2) := dAt wdX12_casts_191 adX12_casts_191.2.2.2.2.2.2.2.2.2.2.2.2.2.2.1 rfl
theorem dX12_casts_215 : decode cX12_casts 215 = .ok (.bipush 10, 2) := dAt wdX12_casts_191 adX12_casts_191.2.2.2.2.2.2.2.2.2.2.2.2.2.2.2 rfl
def bdX12_casts_217 : ByteArray := .mk #[96, 4, 96, 3, 79, 42, 42, 180, 0, 8, 21, 7, 16, 45, 96, 29, 96, 46, 4, 100]
theorem wdX12_casts_217 : LocW cX12_casts 217 bdX12_casts_217 := loc_of (by decide +kernel)
theorem adX12_casts_217 : De bdX12_casts_217 0 (.iadd) 1 ∧ De bdX12_casts_217 1 (.iconst 1) 1 ∧ De bdX12_casts_217 2 (.iadd) 1 ∧ De bdX12_casts_217 3 (.iconst 0) 1 ∧ De bdX12_casts_217 4 (.iastore) 1 ∧ De bdX12_casts_217 5 (.aload_n 0) 1 ∧ De bdX12_casts_217 6 (.aload_n 0) 1 ∧ De bdX12_casts_217 7 (.getfield 8) 3 ∧ De bdX12_casts_217 10 (.iload 7) 2 ∧ De bdX12_casts_217 12 (.bipush 45) 2 ∧ De bdX12_casts_217 14 (.iadd) 1 ∧ De bdX12_casts_217 15 (.iload_n 3) 1 ∧ De bdX12_casts_217 16 (.iadd) 1 ∧ De bdX12_casts_217 17 (.iaload) 1 ∧ De bdX12_casts_217 18 (.iconst 1) 1 ∧ De bdX12_casts_217 19 (.isub) 1 := by decide +kernel
theorem dX12_casts_217 : decode cX12_casts 217 = .ok (.iadd, 1) := dAt wdX12_casts_217 adX12_casts_217.1 rfl
theorem dX12_casts_218 : decode cX12_casts 218 = .ok (.iconst 1, 1) := dAt wdX12_casts_217 adX12_casts_217.2.1 rfl
theorem dX12_casts_219 : decode cX12_casts 219 = .ok (.iadd, 1) := dAt wdX12_casts_217 adX12_casts_217.2.2.1 rfl
theorem dX12_casts_220 : decode cX12_casts 220 = .ok (.iconst 0, 1) := dAt wdX12_casts_217 adX12_casts_217.2.2.2.1 rfl
theorem dX12_casts_221 : decode cX12_casts 221 = .ok (.iastore, 1) := dAt wdX12_casts_217 adX12_casts_217.2.2.2.2.1 rfl
theorem dX12_casts_222 : decode cX12_casts 222 = .ok (.aload_n 0, 1) := dAt wdX12_casts_217 adX12_casts_217.2.2.2.2.2.1 rfl
theorem dX12_casts_223 : decode cX12_casts 223 = .ok (.aload_n 0, 1) := dAt wdX12_casts_217 adX12_casts_217.2.2.2.2.2.2.1 rfl
theorem dX12_casts_224 : decode cX12_casts 224 = .ok (.getfield 8, 3) := dAt wdX12_casts_217 adX12_casts_217.2.2.2.2.2.2.2.1 rfl
theorem dX12_casts_227 : decode cX12_casts 227 = .ok (.iload 7, 2) := dAt wdX12_casts_217 adX12_casts_217.2.2.2.2.2.2.2.2.1 rfl
theorem dX12_casts_229 : decode cX12_casts 229 = .ok (.bipush 45, 2) := dAt wdX12_casts_217 adX12_casts_217.2.2.2.2.2.2.2.2.2.1 rfl
theorem dX12_casts_231 : decode cX12_casts 231 = .ok (.iadd, 1) := dAt wdX12_casts_217 adX12_casts_217.2.2.2.2.2.2.2.2.2.2.1 rfl
theorem dX12_casts_232 : decode cX12_casts 232 = .ok (.iload_n 3, 1) := dAt wdX12_casts_217 adX12_casts_217.2.2.2.2.2.2.2.2.2.2.2.1 rfl
theorem dX12_casts_233 : decode cX12_casts 233 = .ok (.iadd, 1) := dAt wdX12_casts_217 adX12_casts_217.2.2.2.2.2.2.2.2.2.2.2.2.1 rfl
theorem dX12_casts_234 : decode cX12_casts 234 = .ok (.iaload, 1) := dAt wdX12_casts_217 adX12_casts_217.2.2.2.2.2.2.2.2.2.2.2.2.2.1 rfl
theorem dX12_casts_235 : decode cX12_casts 235 = .ok (.iconst 1, 1) := dAt wdX12_casts_217 adX12_casts_217.2.2.2.2.2.2.2.2.2.2.2.2.2.2.1 rfl
theorem dX12_casts_236 : decode cX12_casts 236 = .ok (.isub, 1) := dAt wdX12_casts_217 adX12_casts_217.2.2.2.2.2.2.2.2.2.2.2.2.2.2.2 rfl
def bdX12_casts_237 : ByteArray := .mk #[182, 1, 127, 42, 21, 5, 28, 29, 182, 1, 130, 42, 180, 0, 8, 7, 92, 46, 4, 96, 79, 42, 180, 0, 8]
theorem wdX12_casts_237 : LocW cX12_casts 237 bdX12_casts_237 := loc_of (by decide +kernel)
theorem adX12_casts_237 : De bdX12_casts_237 0 (.invokevirtual 383) 3 ∧ De bdX12_casts_237 3 (.aload_n 0) 1 ∧ De bdX12_casts_237 4 (.iload 5) 2 ∧ De bdX12_casts_237 6 (.iload_n 2) 1 ∧ De bdX12_casts_237 7 (.iload_n 3) 1 ∧ De bdX12_casts_237 8 (.invokevirtual 386) 3 ∧ De bdX12_casts_237 11 (.aload_n 0) 1 ∧ De bdX12_casts_237 12 (.getfield 8) 3 ∧ De bdX12_casts_237 15 (.iconst 4) 1 ∧ De bdX12_casts_237 16 (.dup2) 1 ∧ De bdX12_casts_237 17 (.iaload) 1 ∧ De bdX12_casts_237 18 (.iconst 1) 1 ∧ De bdX12_casts_237 19 (.iadd) 1 ∧ De bdX12_casts_237 20 (.iastore) 1 ∧ De bdX12_casts_237 21 (.aload_n 0) 1 ∧ De bdX12_casts_237 22 (.getfield 8) 3 := by decide +kernel
theorem dX12_casts_237 : decode cX12_casts 237 = .ok (.invokevirtual 383, 3) := dAt wdX12_casts_237 adX12_casts_237.1 rfl
theorem dX12_casts_240 : decode cX12_casts 240 = .ok (.aload_n 0, 1) := dAt wdX12_casts_237 adX12_casts_237.2.1 rfl
theorem dX12_casts_241 : decode cX12_casts 241 = .ok (.iload 5, 2) := dAt wdX12_casts_237 adX12_casts_237.2.2.1 rfl
theorem dX12_casts_243 : decode cX12_casts 243 = .ok (.iload_n 2, 1) := dAt wdX12_casts_237 adX12_casts_237.2.2.2.1 rfl
theorem dX12_casts_244 : decode cX12_casts 244 = .ok (.iload_n 3, 1) := dAt wdX12_casts_237 adX12_casts_237.2.2.2.2.1 rfl
theorem dX12_casts_245 : decode cX12_casts 245 = .ok (.invokevirtual 386, 3) := dAt wdX12_casts_237 adX12_casts_237.2.2.2.2.2.1 rfl
theorem dX12_casts_248 : decode cX12_casts 248 = .ok (.aload_n 0, 1) := dAt wdX12_casts_237 adX12_casts_237.2.2.2.2.2.2.1 rfl
theorem dX12_casts_249 : decode cX12_casts 249 = .ok (.getfield 8, 3) := dAt wdX12_casts_237 adX12_casts_237.2.2.2.2.2.2.2.1 rfl
theorem dX12_casts_252 : decode cX12_casts 252 = .ok (.iconst 4, 1) := dAt wdX12_casts_237 adX12_casts_237.2.2.2.2.2.2.2.2.1 rfl
theorem dX12_casts_253 : decode cX12_casts 253 = .ok (.dup2, 1) := dAt wdX12_casts_237 adX12_casts_237.2.2.2.2.2.2.2.2.2.1 rfl
theorem dX12_casts_254 : decode cX12_casts 254 = .ok (.iaload, 1) := dAt wdX12_casts_237 adX12_casts_237.2.2.2.2.2.2.2.2.2.2.1 rfl
theorem dX12_casts_255 : decode cX12_casts 255 = .ok (.iconst 1, 1) := dAt wdX12_casts_237 adX12_casts_237.2.2.2.2.2.2.2.2.2.2.2.1 rfl
theorem dX12_casts_256 : decode cX12_casts 256 = .ok (.iadd, 1) := dAt wdX12_casts_237 adX12_casts_237.2.2.2.2.2.2.2.2.2.2.2.2.1 rfl
theorem dX12_casts_257 : decode cX12_casts 257 = .ok (.iastore, 1) := dAt wdX12_casts_237 adX12_casts_237.2.2.2.2.2.2.2.2.2.2.2.2.2.1 rfl
theorem dX12_casts_258 : decode cX12_casts 258 = .ok (.aload_n 0, 1) := dAt wdX12_casts_237 adX12_casts_237.2.2.2.2.2.2.2.2.2.2.2.2.2.2.1 rfl
theorem dX12_casts_259 : decode cX12_casts 259 = .ok (.getfield 8, 3) := dAt wdX12_casts_237 adX12_casts_237.2.2.2.2.2.2.2.2.2.2.2.2.2.2.2 rfl
def bdX12_casts_262 : ByteArray := .mk #[27, 184, 1, 104, 16, 30, 96, 92, 46, 4, 96, 79, 42, 180, 0, 8, 19, 1, 134, 8, 42, 180, 0, 8, 16, 7]
theorem wdX12_casts_262 : LocW cX12_casts 262 bdX12_casts_262 := loc_of (by decide +kernel)
theorem adX12_casts_262 : De bdX12_casts_262 0 (.iload_n 1) 1 ∧ De bdX12_casts_262 1 (.invokestatic 360) 3 ∧ De bdX12_casts_262 4 (.bipush 30) 2 ∧ De bdX12_casts_262 6 (.iadd) 1 ∧ De bdX12_casts_262 7 (.dup2) 1 ∧ De bdX12_casts_262 8 (.iaload) 1 ∧ De bdX12_casts_262 9 (.iconst 1) 1 ∧ De bdX12_casts_262 10 (.iadd) 1 ∧ De bdX12_casts_262 11 (.iastore) 1 ∧ De bdX12_casts_262 12 (.aload_n 0) 1 ∧ De bdX12_casts_262 13 (.getfield 8) 3 ∧ De bdX12_casts_262 16 (.ldc_w 390) 3 ∧ De bdX12_casts_262 19 (.iconst 5) 1 ∧ De bdX12_casts_262 20 (.aload_n 0) 1 ∧ De bdX12_casts_262 21 (.getfield 8) 3 ∧ De bdX12_casts_262 24 (.bipush 7) 2 := by decide +kernel
theorem dX12_casts_262 : decode cX12_casts 262 = .ok (.iload_n 1, 1) := dAt wdX12_casts_262 adX12_casts_262.1 rfl
theorem dX12_casts_263 : decode cX12_casts 263 = .ok (.invokestatic 360, 3) := dAt wdX12_casts_262 adX12_casts_262.2.1 rfl
theorem dX12_casts_266 : decode cX12_casts 266 = .ok (.bipush 30, 2) := dAt wdX12_casts_262 adX12_casts_262.2.2.1 rfl
theorem dX12_casts_268 : decode cX12_casts 268 = .ok (.iadd, 1) := dAt wdX12_casts_262 adX12_casts_262.2.2.2.1 rfl
theorem dX12_casts_269 : decode cX12_casts 269 = .ok (.dup2, 1) := dAt wdX12_casts_262 adX12_casts_262.2.2.2.2.1 rfl
theorem dX12_casts_270 : decode cX12_casts 270 = .ok (.iaload, 1) := dAt wdX12_casts_262 adX12_casts_262.2.2.2.2.2.1 rfl
theorem dX12_casts_271 : decode cX12_casts 271 = .ok (.iconst 1, 1) := dAt wdX12_casts_262 adX12_casts_262.2.2.2.2.2.2.1 rfl
theorem dX12_casts_272 : decode cX12_casts 272 = .ok (.iadd, 1) := dAt wdX12_casts_262 adX12_casts_262.2.2.2.2.2.2.2.1 rfl
theorem dX12_casts_273 : decode cX12_casts 273 = .ok (.iastore, 1) := dAt wdX12_casts_262 adX12_casts_262.2.2.2.2.2.2.2.2.1 rfl
theorem dX12_casts_274 : decode cX12_casts 274 = .ok (.aload_n 0, 1) := dAt wdX12_casts_262 adX12_casts_262.2.2.2.2.2.2.2.2.2.1 rfl
theorem dX12_casts_275 : decode cX12_casts 275 = .ok (.getfield 8, 3) := dAt wdX12_casts_262 adX12_casts_262.2.2.2.2.2.2.2.2.2.2.1 rfl
theorem dX12_casts_278 : decode cX12_casts 278 = .ok (.ldc_w 390, 3) := dAt wdX12_casts_262 adX12_casts_262.2.2.2.2.2.2.2.2.2.2.2.1 rfl
theorem dX12_casts_281 : decode cX12_casts 281 = .ok (.iconst 5, 1) := dAt wdX12_casts_262 adX12_casts_262.2.2.2.2.2.2.2.2.2.2.2.2.1 rfl
theorem dX12_casts_282 : decode cX12_casts 282 = .ok (.aload_n 0, 1) := dAt wdX12_casts_262 adX12_casts_262.2.2.2.2.2.2.2.2.2.2.2.2.2.1 rfl
theorem dX12_casts_283 : decode cX12_casts 283 = .ok (.getfield 8, 3) := dAt wdX12_casts_262 adX12_casts_262.2.2.2.2.2.2.2.2.2.2.2.2.2.2.1 rfl
theorem dX12_casts_286 : decode cX12_casts 286 = .ok (.bipush 7, 2) := dAt wdX12_casts_262 adX12_casts_262.2.2.2.2.2.2.2.2.2.2.2.2.2.2.2 rfl
def bdX12_casts_288 : ByteArray := .mk #[46, 4, 100, 104, 96, 4, 96, 27, 96, 21, 5, 79, 177]
theorem wdX12_casts_288 : LocW cX12_casts 288 bdX12_casts_288 := loc_of (by decide +kernel)
theorem adX12_casts_288 : De bdX12_casts_288 0 (.iaload) 1 ∧ De bdX12_casts_288 1 (.iconst 1) 1 ∧ De bdX12_casts_288 2 (.isub) 1 ∧ De bdX12_casts_288 3 (.imul) 1 ∧ De bdX12_casts_288 4 (.iadd) 1 ∧ De bdX12_casts_288 5 (.iconst 1) 1 ∧ De bdX12_casts_288 6 (.iadd) 1 ∧ De bdX12_casts_288 7 (.iload_n 1) 1 ∧ De bdX12_casts_288 8 (.iadd) 1 ∧ De bdX12_casts_288 9 (.iload 5) 2 ∧ De bdX12_casts_288 11 (.iastore) 1 ∧ De bdX12_casts_288 12 (.return_) 1 := by decide +kernel
theorem dX12_casts_288 : decode cX12_casts 288 = .ok (.iaload, 1) := dAt wdX12_casts_288 adX12_casts_288.1 rfl
theorem dX12_casts_289 : decode cX12_casts 289 = .ok (.iconst 1, 1) := dAt wdX12_casts_288 adX12_casts_288.2.1 rfl
theorem dX12_casts_290 : decode cX12_casts 290 = .ok (.isub, 1) := dAt wdX12_casts_288 adX12_casts_288.2.2.1 rfl
theorem dX12_casts_291 : decode cX12_casts 291 = .ok (.imul, 1) := dAt wdX12_casts_288 adX12_casts_288.2.2.2.1 rfl
theorem dX12_casts_292 : decode cX12_casts 292 = .ok (.iadd, 1) := dAt wdX12_casts_288 adX12_casts_288.2.2.2.2.1 rfl
theorem dX12_casts_293 : decode cX12_casts 293 = .ok (.iconst 1, 1) := dAt wdX12_casts_288 adX12_casts_288.2.2.2.2.2.1 rfl
theorem dX12_casts_294 : decode cX12_casts 294 = .ok (.iadd, 1) := dAt wdX12_casts_288 adX12_casts_288.2.2.2.2.2.2.1 rfl
theorem dX12_casts_295 : decode cX12_casts 295 = .ok (.iload_n 1, 1) := dAt wdX12_casts_288 adX12_casts_288.2.2.2.2.2.2.2.1 rfl
theorem dX12_casts_296 : decode cX12_casts 296 = .ok (.iadd, 1) := dAt wdX12_casts_288 adX12_casts_288.2.2.2.2.2.2.2.2.1 rfl
theorem dX12_casts_297 : decode cX12_casts 297 = .ok (.iload 5, 2) := dAt wdX12_casts_288 adX12_casts_288.2.2.2.2.2.2.2.2.2.1 rfl
theorem dX12_casts_299 : decode cX12_casts 299 = .ok (.iastore, 1) := dAt wdX12_casts_288 adX12_casts_288.2.2.2.2.2.2.2.2.2.2.1 rfl
theorem dX12_casts_300 : decode cX12_casts 300 = .ok (.return_, 1) := dAt wdX12_casts_288 adX12_casts_288.2.2.2.2.2.2.2.2.2.2.2 rfl
def bdX12_puts_0 : ByteArray := .mk #[42, 180, 0, 8, 27, 184, 1, 86, 8, 96, 29, 79, 42, 180, 0, 8, 27, 184, 1, 86, 16, 6, 96, 28, 79]
theorem wdX12_puts_0 : LocW cX12_puts 0 bdX12_puts_0 := loc_of (by decide +kernel)
theorem adX12_puts_0 : De bdX12_puts_0 0 (.aload_n 0) 1 ∧ De bdX12_puts_0 1 (.getfield 8) 3 ∧ De bdX12_puts_0 4 (.iload_n 1) 1 ∧ De bdX12_puts_0 5 (.invokestatic 342) 3 ∧ De bdX12_puts_0 8 (.iconst 5) 1 ∧ De bdX12_puts_0 9 (.iadd) 1 ∧ De bdX12_puts_0 10 (.iload_n 3) 1 ∧ De bdX12_puts_0 11 (.iastore) 1 ∧ De bdX12_puts_0 12 (.aload_n 0) 1 ∧ De bdX12_puts_0 13 (.getfield 8) 3 ∧ De bdX12_puts_0 16 (.iload_n 1) 1 ∧ De bdX12_puts_0 17 (.invokestatic 342) 3 ∧ De bdX12_puts_0 20 (.bipush 6) 2 ∧ De bdX12_puts_0 22 (.iadd) 1 ∧ De bdX12_puts_0 23 (.iload_n 2) 1 ∧ De bdX12_puts_0 24 (.iastore) 1 := by decide +kernel
theorem dX12_puts_0 : decode cX12_puts 0 = .ok (.aload_n 0, 1) := dAt wdX12_puts_0 adX12_puts_0.1 rfl
theorem dX12_puts_1 : decode cX12_puts 1 = .ok (.getfield 8, 3) := dAt wdX12_puts_0 adX12_puts_0.2.1 rfl
theorem dX12_puts_4 : decode cX12_puts 4 = .ok (.iload_n 1, 1) := dAt wdX12_puts_0 adX12_puts_0.2.2.1 rfl
theorem dX12_puts_5 : decode cX12_puts 5 = .ok (.invokestatic 342, 3) := dAt wdX12_puts_0 adX12_puts_0.2.2.2.1 rfl
theorem dX12_puts_8 : decode cX12_puts 8 = .ok (.iconst 5, 1) := dAt wdX12_puts_0 adX12_puts_0.2.2.2.2.1 rfl
theorem dX12_puts_9 : decode cX12_puts 9 = .ok (.iadd, 1) := dAt wdX12_puts_0 adX12_puts_0.2.2.2.2.2.1 rfl
theorem dX12_puts_10 : decode cX12_puts 10 = .ok (.iload_n 3, 1) := dAt wdX12_puts_0 adX12_puts_0.2.2.2.2.2.2.1 rfl
theorem dX12_puts_11 : decode cX12_puts 11 = .ok (.iastore, 1) := dAt wdX12_puts_0 adX12_puts_0.2.2.2.2.2.2.2.1 rfl
theorem dX12_puts_12 : decode cX12_puts 12 = .ok (.aload_n 0, 1) := dAt wdX12_puts_0 adX12_puts_0.2.2.2.2.2.2.2.2.1 rfl
theorem dX12_puts_13 : decode cX12_puts 13 = .ok (.getfield 8, 3) := dAt wdX12_puts_0 adX12_puts_0.2.2.2.2.2.2.2.2.2.1 rfl
theorem dX12_puts_16 : decode cX12_puts 16 = .ok (.iload_n 1, 1) := dAt wdX12_puts_0 adX12_puts_0.2.2.2.2.2.2.2.2.2.2.1 rfl
theorem dX12_puts_17 : decode cX12_puts 17 = .ok (.invokestatic 342, 3) := dAt wdX12_puts_0 adX12_puts_0.2.2.2.2.2.2.2.2.2.2.2.1 rfl
theorem dX12_puts_20 : decode cX12_puts 20 = .ok (.bipush 6, 2) := dAt wdX12_puts_0 adX12_puts_0.2.2.2.2.2.2.2.2.2.2.2.2.1 rfl
theorem dX12_puts_22 : decode cX12_puts 22 = .ok (.iadd, 1) := dAt wdX12_puts_0 adX12_puts_0.2.2.2.2.2.2.2.2.2.2.2.2.2.1 rfl
theorem dX12_puts_23 : decode cX12_puts 23 = .ok (.iload_n 2, 1) := dAt wdX12_puts_0 adX12_puts_0.2.2.2.2.2.2.2.2.2.2.2.2.2.2.1 rfl
theorem dX12_puts_24 : decode cX12_puts 24 = .ok (.iastore, 1) := dAt wdX12_puts_0 adX12_puts_0.2.2.2.2.2.2.2.2.2.2.2.2.2.2.2 rfl
def bdX12_puts_25 : ByteArray := .mk #[42, 180, 0, 8, 28, 184, 0, 164, 16, 45, 96, 29, 96, 27, 4, 96, 79, 177]
theorem wdX12_puts_25 : LocW cX12_puts 25 bdX12_puts_25 := loc_of (by decide +kernel)
theorem adX12_puts_25 : De bdX12_puts_25 0 (.aload_n 0) 1 ∧ De bdX12_puts_25 1 (.getfield 8) 3 ∧ De bdX12_puts_25 4 (.iload_n 2) 1 ∧ De bdX12_puts_25 5 (.invokestatic 164) 3 ∧ De bdX12_puts_25 8 (.bipush 45) 2 ∧ De bdX12_puts_25 10 (.iadd) 1 ∧ De bdX12_puts_25 11 (.iload_n 3) 1 ∧ De bdX12_puts_25 12 (.iadd) 1 ∧ De bdX12_puts_25 13 (.iload_n 1) 1 ∧ De bdX12_puts_25 14 (.iconst 1) 1 ∧ De bdX12_puts_25 15 (.iadd) 1 ∧ De bdX12_puts_25 16 (.iastore) 1 ∧ De bdX12_puts_25 17 (.return_) 1 := by decide +kernel
theorem dX12_puts_25 : decode cX12_puts 25 = .ok (.aload_n 0, 1) := dAt wdX12_puts_25 adX12_puts_25.1 rfl
theorem dX12_puts_26 : decode cX12_puts 26 = .ok (.getfield 8, 3) := dAt wdX12_puts_25 adX12_puts_25.2.1 rfl
theorem dX12_puts_29 : decode cX12_puts 29 = .ok (.iload_n 2, 1) := dAt wdX12_puts_25 adX12_puts_25.2.2.1 rfl
theorem dX12_puts_30 : decode cX12_puts 30 = .ok (.invokestatic 164, 3) := dAt wdX12_puts_25 adX12_puts_25.2.2.2.1 rfl
theorem dX12_puts_33 : decode cX12_puts 33 = .ok (.bipush 45, 2) := dAt wdX12_puts_25 adX12_puts_25.2.2.2.2.1 rfl
theorem dX12_puts_35 : decode cX12_puts 35 = .ok (.iadd, 1) := dAt wdX12_puts_25 adX12_puts_25.2.2.2.2.2.1 rfl
theorem dX12_puts_36 : decode cX12_puts 36 = .ok (.iload_n 3, 1) := dAt wdX12_puts_25 adX12_puts_25.2.2.2.2.2.2.1 rfl
theorem dX12_puts_37 : decode cX12_puts 37 = .ok (.iadd, 1) := dAt wdX12_puts_25 adX12_puts_25.2.2.2.2.2.2.2.1 rfl
theorem dX12_puts_38 : decode cX12_puts 38 = .ok (.iload_n 1, 1) := dAt wdX12_puts_25 adX12_puts_25.2.2.2.2.2.2.2.2.1 rfl
theorem dX12_puts_39 : decode cX12_puts 39 = .ok (.iconst 1, 1) := dAt wdX12_puts_25 adX12_puts_25.2.2.2.2.2.2.2.2.2.1 rfl
theorem dX12_puts_40 : decode cX12_puts 40 = .ok (.iadd, 1) := dAt wdX12_puts_25 adX12_puts_25.2.2.2.2.2.2.2.2.2.2.1 rfl
theorem dX12_puts_41 : decode cX12_puts 41 = .ok (.iastore, 1) := dAt wdX12_puts_25 adX12_puts_25.2.2.2.2.2.2.2.2.2.2.2.1 rfl
theorem dX12_puts_42 : decode cX12_puts 42 = .ok (.return_, 1) := dAt wdX12_puts_25 adX12_puts_25.2.2.2.2.2.2.2.2.2.2.2.2 rfl
def bdX12_pots_0 : ByteArray := .mk #[27, 2, 160, 0, 4, 177, 42, 180, 0, 8, 27, 184, 1, 86, 7, 96, 5, 79, 42, 180, 0, 8, 27, 184, 1, 86]
theorem wdX12_pots_0 : LocW cX12_pots 0 bdX12_pots_0 := loc_of (by decide +kernel)
theorem adX12_pots_0 : De bdX12_pots_0 0 (.iload_n 1) 1 ∧ De bdX12_pots_0 1 (.iconst (-1)) 1 ∧ De bdX12_pots_0 2 (.if_icmp .ne 4) 3 ∧ De bdX12_pots_0 5 (.return_) 1 ∧ De bdX12_pots_0 6 (.aload_n 0) 1 ∧ De bdX12_pots_0 7 (.getfield 8) 3 ∧ De bdX12_pots_0 10 (.iload_n 1) 1 ∧ De bdX12_pots_0 11 (.invokestatic 342) 3 ∧ De bdX12_pots_0 14 (.iconst 4) 1 ∧ De bdX12_pots_0 15 (.iadd) 1 ∧ De bdX12_pots_0 16 (.iconst 2) 1 ∧ De bdX12_pots_0 17 (.iastore) 1 ∧ De bdX12_pots_0 18 (.aload_n 0) 1 ∧ De bdX12_pots_0 19 (.getfield 8) 3 ∧ De bdX12_pots_0 22 (.iload_n 1) 1 ∧ De bdX12_pots_0 23 (.invokestatic 342) 3 := by decide +kernel
theorem dX12_pots_0 : decode cX12_pots 0 = .ok (.iload_n 1, 1) := dAt wdX12_pots_0 adX12_pots_0.1 rfl
theorem dX12_pots_1 : decode cX12_pots 1 = .ok (.iconst (-1), 1) := dAt wdX12_pots_0 adX12_pots_0.2.1 rfl
theorem dX12_pots_2 : decode cX12_pots 2 = .ok (.if_icmp .ne 4, 3) := dAt wdX12_pots_0 adX12_pots_0.2.2.1 rfl
theorem dX12_pots_5 : decode cX12_pots 5 = .ok (.return_, 1) := dAt wdX12_pots_0 adX12_pots_0.2.2.2.1 rfl
theorem dX12_pots_6 : decode cX12_pots 6 = .ok (.aload_n 0, 1) := dAt wdX12_pots_0 adX12_pots_0.2.2.2.2.1 rfl
theorem dX12_pots_7 : decode cX12_pots 7 = .ok (.getfield 8, 3) := dAt wdX12_pots_0 adX12_pots_0.2.2.2.2.2.1 rfl
theorem dX12_pots_10 : decode cX12_pots 10 = .ok (.iload_n 1, 1) := dAt wdX12_pots_0 adX12_pots_0.2.2.2.2.2.2.1 rfl
theorem dX12_pots_11 : decode cX12_pots 11 = .ok (.invokestatic 342, 3) := dAt wdX12_pots_0 adX12_pots_0.2.2.2.2.2.2.2.1 rfl
theorem dX12_pots_14 : decode cX12_pots 14 = .ok (.iconst 4, 1) := dAt wdX12_pots_0 adX12_pots_0.2.2.2.2.2.2.2.2.1 rfl
theorem dX12_pots_15 : decode cX12_pots 15 = .ok (.iadd, 1) := dAt wdX12_pots_0 adX12_pots_0.2.2.2.2.2.2.2.2.2.1 rfl
theorem dX12_pots_16 : decode cX12_pots 16 = .ok (.iconst 2, 1) := dAt wdX12_pots_0 adX12_pots_0.2.2.2.2.2.2.2.2.2.2.1 rfl
theorem dX12_pots_17 : decode cX12_pots 17 = .ok (.iastore, 1) := dAt wdX12_pots_0 adX12_pots_0.2.2.2.2.2.2.2.2.2.2.2.1 rfl
theorem dX12_pots_18 : decode cX12_pots 18 = .ok (.aload_n 0, 1) := dAt wdX12_pots_0 adX12_pots_0.2.2.2.2.2.2.2.2.2.2.2.2.1 rfl
theorem dX12_pots_19 : decode cX12_pots 19 = .ok (.getfield 8, 3) := dAt wdX12_pots_0 adX12_pots_0.2.2.2.2.2.2.2.2.2.2.2.2.2.1 rfl
theorem dX12_pots_22 : decode cX12_pots 22 = .ok (.iload_n 1, 1) := dAt wdX12_pots_0 adX12_pots_0.2.2.2.2.2.2.2.2.2.2.2.2.2.2.1 rfl
theorem dX12_pots_23 : decode cX12_pots 23 = .ok (.invokestatic 342, 3) := dAt wdX12_pots_0 adX12_pots_0.2.2.2.2.2.2.2.2.2.2.2.2.2.2.2 rfl
def bdX12_pots_26 : ByteArray := .mk #[8, 96, 2, 79, 42, 180, 0, 8, 27, 184, 1, 86, 16, 6, 96, 2, 79, 177]
theorem wdX12_pots_26 : LocW cX12_pots 26 bdX12_pots_26 := loc_of (by decide +kernel)
theorem adX12_pots_26 : De bdX12_pots_26 0 (.iconst 5) 1 ∧ De bdX12_pots_26 1 (.iadd) 1 ∧ De bdX12_pots_26 2 (.iconst (-1)) 1 ∧ De bdX12_pots_26 3 (.iastore) 1 ∧ De bdX12_pots_26 4 (.aload_n 0) 1 ∧ De bdX12_pots_26 5 (.getfield 8) 3 ∧ De bdX12_pots_26 8 (.iload_n 1) 1 ∧ De bdX12_pots_26 9 (.invokestatic 342) 3 ∧ De bdX12_pots_26 12 (.bipush 6) 2 ∧ De bdX12_pots_26 14 (.iadd) 1 ∧ De bdX12_pots_26 15 (.iconst (-1)) 1 ∧ De bdX12_pots_26 16 (.iastore) 1 ∧ De bdX12_pots_26 17 (.return_) 1 := by decide +kernel
theorem dX12_pots_26 : decode cX12_pots 26 = .ok (.iconst 5, 1) := dAt wdX12_pots_26 adX12_pots_26.1 rfl
theorem dX12_pots_27 : decode cX12_pots 27 = .ok (.iadd, 1) := dAt wdX12_pots_26 adX12_pots_26.2.1 rfl
theorem dX12_pots_28 : decode cX12_pots 28 = .ok (.iconst (-1), 1) := dAt wdX12_pots_26 adX12_pots_26.2.2.1 rfl
theorem dX12_pots_29 : decode cX12_pots 29 = .ok (.iastore, 1) := dAt wdX12_pots_26 adX12_pots_26.2.2.2.1 rfl
theorem dX12_pots_30 : decode cX12_pots 30 = .ok (.aload_n 0, 1) := dAt wdX12_pots_26 adX12_pots_26.2.2.2.2.1 rfl
theorem dX12_pots_31 : decode cX12_pots 31 = .ok (.getfield 8, 3) := dAt wdX12_pots_26 adX12_pots_26.2.2.2.2.2.1 rfl
theorem dX12_pots_34 : decode cX12_pots 34 = .ok (.iload_n 1, 1) := dAt wdX12_pots_26 adX12_pots_26.2.2.2.2.2.2.1 rfl
theorem dX12_pots_35 : decode cX12_pots 35 = .ok (.invokestatic 342, 3) := dAt wdX12_pots_26 adX12_pots_26.2.2.2.2.2.2.2.1 rfl
theorem dX12_pots_38 : decode cX12_pots 38 = .ok (.bipush 6, 2) := dAt wdX12_pots_26 adX12_pots_26.2.2.2.2.2.2.2.2.1 rfl
theorem dX12_pots_40 : decode cX12_pots 40 = .ok (.iadd, 1) := dAt wdX12_pots_26 adX12_pots_26.2.2.2.2.2.2.2.2.2.1 rfl
theorem dX12_pots_41 : decode cX12_pots 41 = .ok (.iconst (-1), 1) := dAt wdX12_pots_26 adX12_pots_26.2.2.2.2.2.2.2.2.2.2.1 rfl
theorem dX12_pots_42 : decode cX12_pots 42 = .ok (.iastore, 1) := dAt wdX12_pots_26 adX12_pots_26.2.2.2.2.2.2.2.2.2.2.2.1 rfl
theorem dX12_pots_43 : decode cX12_pots 43 = .ok (.return_, 1) := dAt wdX12_pots_26 adX12_pots_26.2.2.2.2.2.2.2.2.2.2.2.2 rfl
def bdX12_minute_0 : ByteArray := .mk #[42, 180, 0, 8, 3, 92, 46, 4, 96, 79, 42, 180, 0, 8, 16, 7, 46, 16, 8, 160, 0, 50, 3, 60]
theorem wdX12_minute_0 : LocW cX12_minute 0 bdX12_minute_0 := loc_of (by decide +kernel)
theorem adX12_minute_0 : De bdX12_minute_0 0 (.aload_n 0) 1 ∧ De bdX12_minute_0 1 (.getfield 8) 3 ∧ De bdX12_minute_0 4 (.iconst 0) 1 ∧ De bdX12_minute_0 5 (.dup2) 1 ∧ De bdX12_minute_0 6 (.iaload) 1 ∧ De bdX12_minute_0 7 (.iconst 1) 1 ∧ De bdX12_minute_0 8 (.iadd) 1 ∧ De bdX12_minute_0 9 (.iastore) 1 ∧ De bdX12_minute_0 10 (.aload_n 0) 1 ∧ De bdX12_minute_0 11 (.getfield 8) 3 ∧ De bdX12_minute_0 14 (.bipush 7) 2 ∧ De bdX12_minute_0 16 (.iaload) 1 ∧ De bdX12_minute_0 17 (.bipush 8) 2 ∧ De bdX12_minute_0 19 (.if_icmp .ne 50) 3 ∧ De bdX12_minute_0 22 (.iconst 0) 1 ∧ De bdX12_minute_0 23 (.istore_n 1) 1 := by decide +kernel
theorem dX12_minute_0 : decode cX12_minute 0 = .ok (.aload_n 0, 1) := dAt wdX12_minute_0 adX12_minute_0.1 rfl
theorem dX12_minute_1 : decode cX12_minute 1 = .ok (.getfield 8, 3) := dAt wdX12_minute_0 adX12_minute_0.2.1 rfl
theorem dX12_minute_4 : decode cX12_minute 4 = .ok (.iconst 0, 1) := dAt wdX12_minute_0 adX12_minute_0.2.2.1 rfl
theorem dX12_minute_5 : decode cX12_minute 5 = .ok (.dup2, 1) := dAt wdX12_minute_0 adX12_minute_0.2.2.2.1 rfl
theorem dX12_minute_6 : decode cX12_minute 6 = .ok (.iaload, 1) := dAt wdX12_minute_0 adX12_minute_0.2.2.2.2.1 rfl
theorem dX12_minute_7 : decode cX12_minute 7 = .ok (.iconst 1, 1) := dAt wdX12_minute_0 adX12_minute_0.2.2.2.2.2.1 rfl
theorem dX12_minute_8 : decode cX12_minute 8 = .ok (.iadd, 1) := dAt wdX12_minute_0 adX12_minute_0.2.2.2.2.2.2.1 rfl
theorem dX12_minute_9 : decode cX12_minute 9 = .ok (.iastore, 1) := dAt wdX12_minute_0 adX12_minute_0.2.2.2.2.2.2.2.1 rfl
theorem dX12_minute_10 : decode cX12_minute 10 = .ok (.aload_n 0, 1) := dAt wdX12_minute_0 adX12_minute_0.2.2.2.2.2.2.2.2.1 rfl
theorem dX12_minute_11 : decode cX12_minute 11 = .ok (.getfield 8, 3) := dAt wdX12_minute_0 adX12_minute_0.2.2.2.2.2.2.2.2.2.1 rfl
theorem dX12_minute_14 : decode cX12_minute 14 = .ok (.bipush 7, 2) := dAt wdX12_minute_0 adX12_minute_0.2.2.2.2.2.2.2.2.2.2.1 rfl
theorem dX12_minute_16 : decode cX12_minute 16 = .ok (.iaload, 1) := dAt wdX12_minute_0 adX12_minute_0.2.2.2.2.2.2.2.2.2.2.2.1 rfl
theorem dX12_minute_17 : decode cX12_minute 17 = .ok (.bipush 8, 2) := dAt wdX12_minute_0 adX12_minute_0.2.2.2.2.2.2.2.2.2.2.2.2.1 rfl
theorem dX12_minute_19 : decode cX12_minute 19 = .ok (.if_icmp .ne 50, 3) := dAt wdX12_minute_0 adX12_minute_0.2.2.2.2.2.2.2.2.2.2.2.2.2.1 rfl
theorem dX12_minute_22 : decode cX12_minute 22 = .ok (.iconst 0, 1) := dAt wdX12_minute_0 adX12_minute_0.2.2.2.2.2.2.2.2.2.2.2.2.2.2.1 rfl
theorem dX12_minute_23 : decode cX12_minute 23 = .ok (.istore_n 1, 1) := dAt wdX12_minute_0 adX12_minute_0.2.2.2.2.2.2.2.2.2.2.2.2.2.2.2 rfl
def bdX12_minute_24 : ByteArray := .mk #[27, 16, 35, 162, 0, 31, 42, 180, 0, 8, 19, 1, 134, 27, 96, 42, 180, 0, 8, 19, 1, 134, 27, 96, 8, 96, 46]
theorem wdX12_minute_24 : LocW cX12_minute 24 bdX12_minute_24 := loc_of (by decide +kernel)
theorem adX12_minute_24 : De bdX12_minute_24 0 (.iload_n 1) 1 ∧ De bdX12_minute_24 1 (.bipush 35) 2 ∧ De bdX12_minute_24 3 (.if_icmp .ge 31) 3 ∧ De bdX12_minute_24 6 (.aload_n 0) 1 ∧ De bdX12_minute_24 7 (.getfield 8) 3 ∧ De bdX12_minute_24 10 (.ldc_w 390) 3 ∧ De bdX12_minute_24 13 (.iload_n 1) 1 ∧ De bdX12_minute_24 14 (.iadd) 1 ∧ De bdX12_minute_24 15 (.aload_n 0) 1 ∧ De bdX12_minute_24 16 (.getfield 8) 3 ∧ De bdX12_minute_24 19 (.ldc_w 390) 3 ∧ De bdX12_minute_24 22 (.iload_n 1) 1 ∧ De bdX12_minute_24 23 (.iadd) 1 ∧ De bdX12_minute_24 24 (.iconst 5) 1 ∧ De bdX12_minute_24 25 (.iadd) 1 ∧ De bdX12_minute_24 26 (.iaload) 1 := by decide +kernel
theorem dX12_minute_24 : decode cX12_minute 24 = .ok (.iload_n 1, 1) := dAt wdX12_minute_24 adX12_minute_24.1 rfl
theorem dX12_minute_25 : decode cX12_minute 25 = .ok (.bipush 35, 2) := dAt wdX12_minute_24 adX12_minute_24.2.1 rfl
theorem dX12_minute_27 : decode cX12_minute 27 = .ok (.if_icmp .ge 31, 3) := dAt wdX12_minute_24 adX12_minute_24.2.2.1 rfl
theorem dX12_minute_30 : decode cX12_minute 30 = .ok (.aload_n 0, 1) := dAt wdX12_minute_24 adX12_minute_24.2.2.2.1 rfl
theorem dX12_minute_31 : decode cX12_minute 31 = .ok (.getfield 8, 3) := dAt wdX12_minute_24 adX12_minute_24.2.2.2.2.1 rfl
theorem dX12_minute_34 : decode cX12_minute 34 = .ok (.ldc_w 390, 3) := dAt wdX12_minute_24 adX12_minute_24.2.2.2.2.2.1 rfl
theorem dX12_minute_37 : decode cX12_minute 37 = .ok (.iload_n 1, 1) := dAt wdX12_minute_24 adX12_minute_24.2.2.2.2.2.2.1 rfl
theorem dX12_minute_38 : decode cX12_minute 38 = .ok (.iadd, 1) := dAt wdX12_minute_24 adX12_minute_24.2.2.2.2.2.2.2.1 rfl
theorem dX12_minute_39 : decode cX12_minute 39 = .ok (.aload_n 0, 1) := dAt wdX12_minute_24 adX12_minute_24.2.2.2.2.2.2.2.2.1 rfl
theorem dX12_minute_40 : decode cX12_minute 40 = .ok (.getfield 8, 3) := dAt wdX12_minute_24 adX12_minute_24.2.2.2.2.2.2.2.2.2.1 rfl
theorem dX12_minute_43 : decode cX12_minute 43 = .ok (.ldc_w 390, 3) := dAt wdX12_minute_24 adX12_minute_24.2.2.2.2.2.2.2.2.2.2.1 rfl
theorem dX12_minute_46 : decode cX12_minute 46 = .ok (.iload_n 1, 1) := dAt wdX12_minute_24 adX12_minute_24.2.2.2.2.2.2.2.2.2.2.2.1 rfl
theorem dX12_minute_47 : decode cX12_minute 47 = .ok (.iadd, 1) := dAt wdX12_minute_24 adX12_minute_24.2.2.2.2.2.2.2.2.2.2.2.2.1 rfl
theorem dX12_minute_48 : decode cX12_minute 48 = .ok (.iconst 5, 1) := dAt wdX12_minute_24 adX12_minute_24.2.2.2.2.2.2.2.2.2.2.2.2.2.1 rfl
theorem dX12_minute_49 : decode cX12_minute 49 = .ok (.iadd, 1) := dAt wdX12_minute_24 adX12_minute_24.2.2.2.2.2.2.2.2.2.2.2.2.2.2.1 rfl
theorem dX12_minute_50 : decode cX12_minute 50 = .ok (.iaload, 1) := dAt wdX12_minute_24 adX12_minute_24.2.2.2.2.2.2.2.2.2.2.2.2.2.2.2 rfl
def bdX12_minute_51 : ByteArray := .mk #[79, 132, 1, 1, 167, 255, 225, 42, 180, 0, 8, 16, 7, 92, 46, 4, 100, 79, 19, 1, 134, 8, 42, 180, 0, 8, 16, 7]
theorem wdX12_minute_51 : LocW cX12_minute 51 bdX12_minute_51 := loc_of (by decide +kernel)
theorem adX12_minute_51 : De bdX12_minute_51 0 (.iastore) 1 ∧ De bdX12_minute_51 1 (.iinc 1 1) 3 ∧ De bdX12_minute_51 4 (.goto (-31)) 3 ∧ De bdX12_minute_51 7 (.aload_n 0) 1 ∧ De bdX12_minute_51 8 (.getfield 8) 3 ∧ De bdX12_minute_51 11 (.bipush 7) 2 ∧ De bdX12_minute_51 13 (.dup2) 1 ∧ De bdX12_minute_51 14 (.iaload) 1 ∧ De bdX12_minute_51 15 (.iconst 1) 1 ∧ De bdX12_minute_51 16 (.isub) 1 ∧ De bdX12_minute_51 17 (.iastore) 1 ∧ De bdX12_minute_51 18 (.ldc_w 390) 3 ∧ De bdX12_minute_51 21 (.iconst 5) 1 ∧ De bdX12_minute_51 22 (.aload_n 0) 1 ∧ De bdX12_minute_51 23 (.getfield 8) 3 ∧ De bdX12_minute_51 26 (.bipush 7) 2 := by decide +kernel
theorem dX12_minute_51 : decode cX12_minute 51 = .ok (.iastore, 1) := dAt wdX12_minute_51 adX12_minute_51.1 rfl
theorem dX12_minute_52 : decode cX12_minute 52 = .ok (.iinc 1 1, 3) := dAt wdX12_minute_51 adX12_minute_51.2.1 rfl
theorem dX12_minute_55 : decode cX12_minute 55 = .ok (.goto (-31), 3) := dAt wdX12_minute_51 adX12_minute_51.2.2.1 rfl
theorem dX12_minute_58 : decode cX12_minute 58 = .ok (.aload_n 0, 1) := dAt wdX12_minute_51 adX12_minute_51.2.2.2.1 rfl
theorem dX12_minute_59 : decode cX12_minute 59 = .ok (.getfield 8, 3) := dAt wdX12_minute_51 adX12_minute_51.2.2.2.2.1 rfl
theorem dX12_minute_62 : decode cX12_minute 62 = .ok (.bipush 7, 2) := dAt wdX12_minute_51 adX12_minute_51.2.2.2.2.2.1 rfl
theorem dX12_minute_64 : decode cX12_minute 64 = .ok (.dup2, 1) := dAt wdX12_minute_51 adX12_minute_51.2.2.2.2.2.2.1 rfl
theorem dX12_minute_65 : decode cX12_minute 65 = .ok (.iaload, 1) := dAt wdX12_minute_51 adX12_minute_51.2.2.2.2.2.2.2.1 rfl
theorem dX12_minute_66 : decode cX12_minute 66 = .ok (.iconst 1, 1) := dAt wdX12_minute_51 adX12_minute_51.2.2.2.2.2.2.2.2.1 rfl
theorem dX12_minute_67 : decode cX12_minute 67 = .ok (.isub, 1) := dAt wdX12_minute_51 adX12_minute_51.2.2.2.2.2.2.2.2.2.1 rfl
theorem dX12_minute_68 : decode cX12_minute 68 = .ok (.iastore, 1) := dAt wdX12_minute_51 adX12_minute_51.2.2.2.2.2.2.2.2.2.2.1 rfl
theorem dX12_minute_69 : decode cX12_minute 69 = .ok (.ldc_w 390, 3) := dAt wdX12_minute_51 adX12_minute_51.2.2.2.2.2.2.2.2.2.2.2.1 rfl
theorem dX12_minute_72 : decode cX12_minute 72 = .ok (.iconst 5, 1) := dAt wdX12_minute_51 adX12_minute_51.2.2.2.2.2.2.2.2.2.2.2.2.1 rfl
theorem dX12_minute_73 : decode cX12_minute 73 = .ok (.aload_n 0, 1) := dAt wdX12_minute_51 adX12_minute_51.2.2.2.2.2.2.2.2.2.2.2.2.2.1 rfl
theorem dX12_minute_74 : decode cX12_minute 74 = .ok (.getfield 8, 3) := dAt wdX12_minute_51 adX12_minute_51.2.2.2.2.2.2.2.2.2.2.2.2.2.2.1 rfl
theorem dX12_minute_77 : decode cX12_minute 77 = .ok (.bipush 7, 2) := dAt wdX12_minute_51 adX12_minute_51.2.2.2.2.2.2.2.2.2.2.2.2.2.2.2 rfl
def bdX12_minute_79 : ByteArray := .mk #[46, 104, 96, 60, 42, 180, 0, 8, 27, 42, 180, 0, 8, 3, 46, 79, 4, 61, 28, 8]
theorem wdX12_minute_79 : LocW cX12_minute 79 bdX12_minute_79 := loc_of (by decide +kernel)
theorem adX12_minute_79 : De bdX12_minute_79 0 (.iaload) 1 ∧ De bdX12_minute_79 1 (.imul) 1 ∧ De bdX12_minute_79 2 (.iadd) 1 ∧ De bdX12_minute_79 3 (.istore_n 1) 1 ∧ De bdX12_minute_79 4 (.aload_n 0) 1 ∧ De bdX12_minute_79 5 (.getfield 8) 3 ∧ De bdX12_minute_79 8 (.iload_n 1) 1 ∧ De bdX12_minute_79 9 (.aload_n 0) 1 ∧ De bdX12_minute_79 10 (.getfield 8) 3 ∧ De bdX12_minute_79 13 (.iconst 0) 1 ∧ De bdX12_minute_79 14 (.iaload) 1 ∧ De bdX12_minute_79 15 (.iastore) 1 ∧ De bdX12_minute_79 16 (.iconst 1) 1 ∧ De bdX12_minute_79 17 (.istore_n 2) 1 ∧ De bdX12_minute_79 18 (.iload_n 2) 1 ∧ De bdX12_minute_79 19 (.iconst 5) 1 := by decide +kernel
theorem dX12_minute_79 : decode cX12_minute 79 = .ok (.iaload, 1) := dAt wdX12_minute_79 adX12_minute_79.1 rfl
theorem dX12_minute_80 : decode cX12_minute 80 = .ok (.imul, 1) := dAt wdX12_minute_79 adX12_minute_79.2.1 rfl
theorem dX12_minute_81 : decode cX12_minute 81 = .ok (.iadd, 1) := dAt wdX12_minute_79 adX12_minute_79.2.2.1 rfl
theorem dX12_minute_82 : decode cX12_minute 82 = .ok (.istore_n 1, 1) := dAt wdX12_minute_79 adX12_minute_79.2.2.2.1 rfl
theorem dX12_minute_83 : decode cX12_minute 83 = .ok (.aload_n 0, 1) := dAt wdX12_minute_79 adX12_minute_79.2.2.2.2.1 rfl
theorem dX12_minute_84 : decode cX12_minute 84 = .ok (.getfield 8, 3) := dAt wdX12_minute_79 adX12_minute_79.2.2.2.2.2.1 rfl
theorem dX12_minute_87 : decode cX12_minute 87 = .ok (.iload_n 1, 1) := dAt wdX12_minute_79 adX12_minute_79.2.2.2.2.2.2.1 rfl
theorem dX12_minute_88 : decode cX12_minute 88 = .ok (.aload_n 0, 1) := dAt wdX12_minute_79 adX12_minute_79.2.2.2.2.2.2.2.1 rfl
theorem dX12_minute_89 : decode cX12_minute 89 = .ok (.getfield 8, 3) := dAt wdX12_minute_79 adX12_minute_79.2.2.2.2.2.2.2.2.1 rfl
theorem dX12_minute_92 : decode cX12_minute 92 = .ok (.iconst 0, 1) := dAt wdX12_minute_79 adX12_minute_79.2.2.2.2.2.2.2.2.2.1 rfl
theorem dX12_minute_93 : decode cX12_minute 93 = .ok (.iaload, 1) := dAt wdX12_minute_79 adX12_minute_79.2.2.2.2.2.2.2.2.2.2.1 rfl
theorem dX12_minute_94 : decode cX12_minute 94 = .ok (.iastore, 1) := dAt wdX12_minute_79 adX12_minute_79.2.2.2.2.2.2.2.2.2.2.2.1 rfl
theorem dX12_minute_95 : decode cX12_minute 95 = .ok (.iconst 1, 1) := dAt wdX12_minute_79 adX12_minute_79.2.2.2.2.2.2.2.2.2.2.2.2.1 rfl
theorem dX12_minute_96 : decode cX12_minute 96 = .ok (.istore_n 2, 1) := dAt wdX12_minute_79 adX12_minute_79.2.2.2.2.2.2.2.2.2.2.2.2.2.1 rfl
theorem dX12_minute_97 : decode cX12_minute 97 = .ok (.iload_n 2, 1) := dAt wdX12_minute_79 adX12_minute_79.2.2.2.2.2.2.2.2.2.2.2.2.2.2.1 rfl
theorem dX12_minute_98 : decode cX12_minute 98 = .ok (.iconst 5, 1) := dAt wdX12_minute_79 adX12_minute_79.2.2.2.2.2.2.2.2.2.2.2.2.2.2.2 rfl
def bdX12_minute_99 : ByteArray := .mk #[162, 0, 18, 42, 180, 0, 8, 27, 28, 96, 2, 79, 132, 2, 1, 167, 255, 239, 42, 180, 0, 8, 16, 7, 92, 46, 4]
theorem wdX12_minute_99 : LocW cX12_minute 99 bdX12_minute_99 := loc_of (by decide +kernel)
theorem adX12_minute_99 : De bdX12_minute_99 0 (.if_icmp .ge 18) 3 ∧ De bdX12_minute_99 3 (.aload_n 0) 1 ∧ De bdX12_minute_99 4 (.getfield 8) 3 ∧ De bdX12_minute_99 7 (.iload_n 1) 1 ∧ De bdX12_minute_99 8 (.iload_n 2) 1 ∧ De bdX12_minute_99 9 (.iadd) 1 ∧ De bdX12_minute_99 10 (.iconst (-1)) 1 ∧ De bdX12_minute_99 11 (.iastore) 1 ∧ De bdX12_minute_99 12 (.iinc 2 1) 3 ∧ De bdX12_minute_99 15 (.goto (-17)) 3 ∧ De bdX12_minute_99 18 (.aload_n 0) 1 ∧ De bdX12_minute_99 19 (.getfield 8) 3 ∧ De bdX12_minute_99 22 (.bipush 7) 2 ∧ De bdX12_minute_99 24 (.dup2) 1 ∧ De bdX12_minute_99 25 (.iaload) 1 ∧ De bdX12_minute_99 26 (.iconst 1) 1 := by decide +kernel
theorem dX12_minute_99 : decode cX12_minute 99 = .ok (.if_icmp .ge 18, 3) := dAt wdX12_minute_99 adX12_minute_99.1 rfl
theorem dX12_minute_102 : decode cX12_minute 102 = .ok (.aload_n 0, 1) := dAt wdX12_minute_99 adX12_minute_99.2.1 rfl
theorem dX12_minute_103 : decode cX12_minute 103 = .ok (.getfield 8, 3) := dAt wdX12_minute_99 adX12_minute_99.2.2.1 rfl
theorem dX12_minute_106 : decode cX12_minute 106 = .ok (.iload_n 1, 1) := dAt wdX12_minute_99 adX12_minute_99.2.2.2.1 rfl
theorem dX12_minute_107 : decode cX12_minute 107 = .ok (.iload_n 2, 1) := dAt wdX12_minute_99 adX12_minute_99.2.2.2.2.1 rfl
theorem dX12_minute_108 : decode cX12_minute 108 = .ok (.iadd, 1) := dAt wdX12_minute_99 adX12_minute_99.2.2.2.2.2.1 rfl
theorem dX12_minute_109 : decode cX12_minute 109 = .ok (.iconst (-1), 1) := dAt wdX12_minute_99 adX12_minute_99.2.2.2.2.2.2.1 rfl
theorem dX12_minute_110 : decode cX12_minute 110 = .ok (.iastore, 1) := dAt wdX12_minute_99 adX12_minute_99.2.2.2.2.2.2.2.1 rfl
theorem dX12_minute_111 : decode cX12_minute 111 = .ok (.iinc 2 1, 3) := dAt wdX12_minute_99 adX12_minute_99.2.2.2.2.2.2.2.2.1 rfl
theorem dX12_minute_114 : decode cX12_minute 114 = .ok (.goto (-17), 3) := dAt wdX12_minute_99 adX12_minute_99.2.2.2.2.2.2.2.2.2.1 rfl
theorem dX12_minute_117 : decode cX12_minute 117 = .ok (.aload_n 0, 1) := dAt wdX12_minute_99 adX12_minute_99.2.2.2.2.2.2.2.2.2.2.1 rfl
theorem dX12_minute_118 : decode cX12_minute 118 = .ok (.getfield 8, 3) := dAt wdX12_minute_99 adX12_minute_99.2.2.2.2.2.2.2.2.2.2.2.1 rfl
theorem dX12_minute_121 : decode cX12_minute 121 = .ok (.bipush 7, 2) := dAt wdX12_minute_99 adX12_minute_99.2.2.2.2.2.2.2.2.2.2.2.2.1 rfl
theorem dX12_minute_123 : decode cX12_minute 123 = .ok (.dup2, 1) := dAt wdX12_minute_99 adX12_minute_99.2.2.2.2.2.2.2.2.2.2.2.2.2.1 rfl
theorem dX12_minute_124 : decode cX12_minute 124 = .ok (.iaload, 1) := dAt wdX12_minute_99 adX12_minute_99.2.2.2.2.2.2.2.2.2.2.2.2.2.2.1 rfl
theorem dX12_minute_125 : decode cX12_minute 125 = .ok (.iconst 1, 1) := dAt wdX12_minute_99 adX12_minute_99.2.2.2.2.2.2.2.2.2.2.2.2.2.2.2 rfl
def bdX12_minute_126 : ByteArray := .mk #[96, 79, 3, 61, 28, 42, 180, 0, 8, 6, 46, 162, 0, 44, 42, 180, 0, 8, 28, 184, 1, 104, 16, 28, 96]
theorem wdX12_minute_126 : LocW cX12_minute 126 bdX12_minute_126 := loc_of (by decide +kernel)
theorem adX12_minute_126 : De bdX12_minute_126 0 (.iadd) 1 ∧ De bdX12_minute_126 1 (.iastore) 1 ∧ De bdX12_minute_126 2 (.iconst 0) 1 ∧ De bdX12_minute_126 3 (.istore_n 2) 1 ∧ De bdX12_minute_126 4 (.iload_n 2) 1 ∧ De bdX12_minute_126 5 (.aload_n 0) 1 ∧ De bdX12_minute_126 6 (.getfield 8) 3 ∧ De bdX12_minute_126 9 (.iconst 3) 1 ∧ De bdX12_minute_126 10 (.iaload) 1 ∧ De bdX12_minute_126 11 (.if_icmp .ge 44) 3 ∧ De bdX12_minute_126 14 (.aload_n 0) 1 ∧ De bdX12_minute_126 15 (.getfield 8) 3 ∧ De bdX12_minute_126 18 (.iload_n 2) 1 ∧ De bdX12_minute_126 19 (.invokestatic 360) 3 ∧ De bdX12_minute_126 22 (.bipush 28) 2 ∧ De bdX12_minute_126 24 (.iadd) 1 := by decide +kernel
theorem dX12_minute_126 : decode cX12_minute 126 = .ok (.iadd, 1) := dAt wdX12_minute_126 adX12_minute_126.1 rfl
theorem dX12_minute_127 : decode cX12_minute 127 = .ok (.iastore, 1) := dAt wdX12_minute_126 adX12_minute_126.2.1 rfl
theorem dX12_minute_128 : decode cX12_minute 128 = .ok (.iconst 0, 1) := dAt wdX12_minute_126 adX12_minute_126.2.2.1 rfl
theorem dX12_minute_129 : decode cX12_minute 129 = .ok (.istore_n 2, 1) := dAt wdX12_minute_126 adX12_minute_126.2.2.2.1 rfl
theorem dX12_minute_130 : decode cX12_minute 130 = .ok (.iload_n 2, 1) := dAt wdX12_minute_126 adX12_minute_126.2.2.2.2.1 rfl
theorem dX12_minute_131 : decode cX12_minute 131 = .ok (.aload_n 0, 1) := dAt wdX12_minute_126 adX12_minute_126.2.2.2.2.2.1 rfl
theorem dX12_minute_132 : decode cX12_minute 132 = .ok (.getfield 8, 3) := dAt wdX12_minute_126 adX12_minute_126.2.2.2.2.2.2.1 rfl
theorem dX12_minute_135 : decode cX12_minute 135 = .ok (.iconst 3, 1) := dAt wdX12_minute_126 adX12_minute_126.2.2.2.2.2.2.2.1 rfl
theorem dX12_minute_136 : decode cX12_minute 136 = .ok (.iaload, 1) := dAt wdX12_minute_126 adX12_minute_126.2.2.2.2.2.2.2.2.1 rfl
theorem dX12_minute_137 : decode cX12_minute 137 = .ok (.if_icmp .ge 44, 3) := dAt wdX12_minute_126 adX12_minute_126.2.2.2.2.2.2.2.2.2.1 rfl
theorem dX12_minute_140 : decode cX12_minute 140 = .ok (.aload_n 0, 1) := dAt wdX12_minute_126 adX12_minute_126.2.2.2.2.2.2.2.2.2.2.1 rfl
theorem dX12_minute_141 : decode cX12_minute 141 = .ok (.getfield 8, 3) := dAt wdX12_minute_126 adX12_minute_126.2.2.2.2.2.2.2.2.2.2.2.1 rfl
theorem dX12_minute_144 : decode cX12_minute 144 = .ok (.iload_n 2, 1) := dAt wdX12_minute_126 adX12_minute_126.2.2.2.2.2.2.2.2.2.2.2.2.1 rfl
theorem dX12_minute_145 : decode cX12_minute 145 = .ok (.invokestatic 360, 3) := dAt wdX12_minute_126 adX12_minute_126.2.2.2.2.2.2.2.2.2.2.2.2.2.1 rfl
theorem dX12_minute_148 : decode cX12_minute 148 = .ok (.bipush 28, 2) := dAt wdX12_minute_126 adX12_minute_126.2.2.2.2.2.2.2.2.2.2.2.2.2.2.1 rfl
theorem dX12_minute_150 : decode cX12_minute 150 = .ok (.iadd, 1) := dAt wdX12_minute_126 adX12_minute_126.2.2.2.2.2.2.2.2.2.2.2.2.2.2.2 rfl
def bdX12_minute_151 : ByteArray := .mk #[46, 154, 0, 23, 42, 180, 0, 8, 28, 184, 1, 104, 16, 29, 96, 46, 158, 0, 8, 42, 28, 182, 1, 135, 132, 2, 1, 167, 255, 208, 177]
theorem wdX12_minute_151 : LocW cX12_minute 151 bdX12_minute_151 := loc_of (by decide +kernel)
theorem adX12_minute_151 : De bdX12_minute_151 0 (.iaload) 1 ∧ De bdX12_minute_151 1 (.ifCond .ne 23) 3 ∧ De bdX12_minute_151 4 (.aload_n 0) 1 ∧ De bdX12_minute_151 5 (.getfield 8) 3 ∧ De bdX12_minute_151 8 (.iload_n 2) 1 ∧ De bdX12_minute_151 9 (.invokestatic 360) 3 ∧ De bdX12_minute_151 12 (.bipush 29) 2 ∧ De bdX12_minute_151 14 (.iadd) 1 ∧ De bdX12_minute_151 15 (.iaload) 1 ∧ De bdX12_minute_151 16 (.ifCond .le 8) 3 ∧ De bdX12_minute_151 19 (.aload_n 0) 1 ∧ De bdX12_minute_151 20 (.iload_n 2) 1 ∧ De bdX12_minute_151 21 (.invokevirtual 391) 3 ∧ De bdX12_minute_151 24 (.iinc 2 1) 3 ∧ De bdX12_minute_151 27 (.goto (-48)) 3 ∧ De bdX12_minute_151 30 (.return_) 1 := by decide +kernel
theorem dX12_minute_151 : decode cX12_minute 151 = .ok (.iaload, 1) := dAt wdX12_minute_151 adX12_minute_151.1 rfl
theorem dX12_minute_152 : decode cX12_minute 152 = .ok (.ifCond .ne 23, 3) := dAt wdX12_minute_151 adX12_minute_151.2.1 rfl
theorem dX12_minute_155 : decode cX12_minute 155 = .ok (.aload_n 0, 1) := dAt wdX12_minute_151 adX12_minute_151.2.2.1 rfl
theorem dX12_minute_156 : decode cX12_minute 156 = .ok (.getfield 8, 3) := dAt wdX12_minute_151 adX12_minute_151.2.2.2.1 rfl
theorem dX12_minute_159 : decode cX12_minute 159 = .ok (.iload_n 2, 1) := dAt wdX12_minute_151 adX12_minute_151.2.2.2.2.1 rfl
theorem dX12_minute_160 : decode cX12_minute 160 = .ok (.invokestatic 360, 3) := dAt wdX12_minute_151 adX12_minute_151.2.2.2.2.2.1 rfl
theorem dX12_minute_163 : decode cX12_minute 163 = .ok (.bipush 29, 2) := dAt wdX12_minute_151 adX12_minute_151.2.2.2.2.2.2.1 rfl
theorem dX12_minute_165 : decode cX12_minute 165 = .ok (.iadd, 1) := dAt wdX12_minute_151 adX12_minute_151.2.2.2.2.2.2.2.1 rfl
theorem dX12_minute_166 : decode cX12_minute 166 = .ok (.iaload, 1) := dAt wdX12_minute_151 adX12_minute_151.2.2.2.2.2.2.2.2.1 rfl
theorem dX12_minute_167 : decode cX12_minute 167 = .ok (.ifCond .le 8, 3) := dAt wdX12_minute_151 adX12_minute_151.2.2.2.2.2.2.2.2.2.1 rfl
theorem dX12_minute_170 : decode cX12_minute 170 = .ok (.aload_n 0, 1) := dAt wdX12_minute_151 adX12_minute_151.2.2.2.2.2.2.2.2.2.2.1 rfl
theorem dX12_minute_171 : decode cX12_minute 171 = .ok (.iload_n 2, 1) := dAt wdX12_minute_151 adX12_minute_151.2.2.2.2.2.2.2.2.2.2.2.1 rfl
theorem dX12_minute_172 : decode cX12_minute 172 = .ok (.invokevirtual 391, 3) := dAt wdX12_minute_151 adX12_minute_151.2.2.2.2.2.2.2.2.2.2.2.2.1 rfl
theorem dX12_minute_175 : decode cX12_minute 175 = .ok (.iinc 2 1, 3) := dAt wdX12_minute_151 adX12_minute_151.2.2.2.2.2.2.2.2.2.2.2.2.2.1 rfl
theorem dX12_minute_178 : decode cX12_minute 178 = .ok (.goto (-48), 3) := dAt wdX12_minute_151 adX12_minute_151.2.2.2.2.2.2.2.2.2.2.2.2.2.2.1 rfl
theorem dX12_minute_181 : decode cX12_minute 181 = .ok (.return_, 1) := dAt wdX12_minute_151 adX12_minute_151.2.2.2.2.2.2.2.2.2.2.2.2.2.2.2 rfl
def bdX12_minutes_0 : ByteArray := .mk #[42, 27, 3, 16, 120, 184, 0, 157, 154, 0, 7, 4, 167, 0, 4, 3, 181, 0, 122, 42, 180, 0, 122, 158, 0, 5, 3, 172, 3]
theorem wdX12_minutes_0 : LocW cX12_minutes 0 bdX12_minutes_0 := loc_of (by decide +kernel)
theorem adX12_minutes_0 : De bdX12_minutes_0 0 (.aload_n 0) 1 ∧ De bdX12_minutes_0 1 (.iload_n 1) 1 ∧ De bdX12_minutes_0 2 (.iconst 0) 1 ∧ De bdX12_minutes_0 3 (.bipush 120) 2 ∧ De bdX12_minutes_0 5 (.invokestatic 157) 3 ∧ De bdX12_minutes_0 8 (.ifCond .ne 7) 3 ∧ De bdX12_minutes_0 11 (.iconst 1) 1 ∧ De bdX12_minutes_0 12 (.goto 4) 3 ∧ De bdX12_minutes_0 15 (.iconst 0) 1 ∧ De bdX12_minutes_0 16 (.putfield 122) 3 ∧ De bdX12_minutes_0 19 (.aload_n 0) 1 ∧ De bdX12_minutes_0 20 (.getfield 122) 3 ∧ De bdX12_minutes_0 23 (.ifCond .le 5) 3 ∧ De bdX12_minutes_0 26 (.iconst 0) 1 ∧ De bdX12_minutes_0 27 (.ireturn) 1 ∧ De bdX12_minutes_0 28 (.iconst 0) 1 := by decide +kernel
theorem dX12_minutes_0 : decode cX12_minutes 0 = .ok (.aload_n 0, 1) := dAt wdX12_minutes_0 adX12_minutes_0.1 rfl
theorem dX12_minutes_1 : decode cX12_minutes 1 = .ok (.iload_n 1, 1) := dAt wdX12_minutes_0 adX12_minutes_0.2.1 rfl
theorem dX12_minutes_2 : decode cX12_minutes 2 = .ok (.iconst 0, 1) := dAt wdX12_minutes_0 adX12_minutes_0.2.2.1 rfl
theorem dX12_minutes_3 : decode cX12_minutes 3 = .ok (.bipush 120, 2) := dAt wdX12_minutes_0 adX12_minutes_0.2.2.2.1 rfl
theorem dX12_minutes_5 : decode cX12_minutes 5 = .ok (.invokestatic 157, 3) := dAt wdX12_minutes_0 adX12_minutes_0.2.2.2.2.1 rfl
theorem dX12_minutes_8 : decode cX12_minutes 8 = .ok (.ifCond .ne 7, 3) := dAt wdX12_minutes_0 adX12_minutes_0.2.2.2.2.2.1 rfl
theorem dX12_minutes_11 : decode cX12_minutes 11 = .ok (.iconst 1, 1) := dAt wdX12_minutes_0 adX12_minutes_0.2.2.2.2.2.2.1 rfl
theorem dX12_minutes_12 : decode cX12_minutes 12 = .ok (.goto 4, 3) := dAt wdX12_minutes_0 adX12_minutes_0.2.2.2.2.2.2.2.1 rfl
theorem dX12_minutes_15 : decode cX12_minutes 15 = .ok (.iconst 0, 1) := dAt wdX12_minutes_0 adX12_minutes_0.2.2.2.2.2.2.2.2.1 rfl
theorem dX12_minutes_16 : decode cX12_minutes 16 = .ok (.putfield 122, 3) := dAt wdX12_minutes_0 adX12_minutes_0.2.2.2.2.2.2.2.2.2.1 rfl
theorem dX12_minutes_19 : decode cX12_minutes 19 = .ok (.aload_n 0, 1) := dAt wdX12_minutes_0 adX12_minutes_0.2.2.2.2.2.2.2.2.2.2.1 rfl
theorem dX12_minutes_20 : decode cX12_minutes 20 = .ok (.getfield 122, 3) := dAt wdX12_minutes_0 adX12_minutes_0.2.2.2.2.2.2.2.2.2.2.2.1 rfl
theorem dX12_minutes_23 : decode cX12_minutes 23 = .ok (.ifCond .le 5, 3) := dAt wdX12_minutes_0 adX12_minutes_0.2.2.2.2.2.2.2.2.2.2.2.2.1 rfl
theorem dX12_minutes_26 : decode cX12_minutes 26 = .ok (.iconst 0, 1) := dAt wdX12_minutes_0 adX12_minutes_0.2.2.2.2.2.2.2.2.2.2.2.2.2.1 rfl
theorem dX12_minutes_27 : decode cX12_minutes 27 = .ok (.ireturn, 1) := dAt wdX12_minutes_0 adX12_minutes_0.2.2.2.2.2.2.2.2.2.2.2.2.2.2.1 rfl
theorem dX12_minutes_28 : decode cX12_minutes 28 = .ok (.iconst 0, 1) := dAt wdX12_minutes_0 adX12_minutes_0.2.2.2.2.2.2.2.2.2.2.2.2.2.2.2 rfl
def bdX12_minutes_29 : ByteArray := .mk #[61, 28, 27, 162, 0, 25, 42, 180, 0, 8, 3, 46, 17, 2, 88, 162, 0, 13, 42, 182, 1, 138, 132, 2, 1, 167, 255, 232, 42, 180, 0, 8]
theorem wdX12_minutes_29 : LocW cX12_minutes 29 bdX12_minutes_29 := loc_of (by decide +kernel)
theorem adX12_minutes_29 : De bdX12_minutes_29 0 (.istore_n 2) 1 ∧ De bdX12_minutes_29 1 (.iload_n 2) 1 ∧ De bdX12_minutes_29 2 (.iload_n 1) 1 ∧ De bdX12_minutes_29 3 (.if_icmp .ge 25) 3 ∧ De bdX12_minutes_29 6 (.aload_n 0) 1 ∧ De bdX12_minutes_29 7 (.getfield 8) 3 ∧ De bdX12_minutes_29 10 (.iconst 0) 1 ∧ De bdX12_minutes_29 11 (.iaload) 1 ∧ De bdX12_minutes_29 12 (.sipush 600) 3 ∧ De bdX12_minutes_29 15 (.if_icmp .ge 13) 3 ∧ De bdX12_minutes_29 18 (.aload_n 0) 1 ∧ De bdX12_minutes_29 19 (.invokevirtual 394) 3 ∧ De bdX12_minutes_29 22 (.iinc 2 1) 3 ∧ De bdX12_minutes_29 25 (.goto (-24)) 3 ∧ De bdX12_minutes_29 28 (.aload_n 0) 1 ∧ De bdX12_minutes_29 29 (.getfield 8) 3 := by decide +kernel
theorem dX12_minutes_29 : decode cX12_minutes 29 = .ok (.istore_n 2, 1) := dAt wdX12_minutes_29 adX12_minutes_29.1 rfl
theorem dX12_minutes_30 : decode cX12_minutes 30 = .ok (.iload_n 2, 1) := dAt wdX12_minutes_29 adX12_minutes_29.2.1 rfl
theorem dX12_minutes_31 : decode cX12_minutes 31 = .ok (.iload_n 1, 1) := dAt wdX12_minutes_29 adX12_minutes_29.2.2.1 rfl
theorem dX12_minutes_32 : decode cX12_minutes 32 = .ok (.if_icmp .ge 25, 3) := dAt wdX12_minutes_29 adX12_minutes_29.2.2.2.1 rfl
theorem dX12_minutes_35 : decode cX12_minutes 35 = .ok (.aload_n 0, 1) := dAt wdX12_minutes_29 adX12_minutes_29.2.2.2.2.1 rfl
theorem dX12_minutes_36 : decode cX12_minutes 36 = .ok (.getfield 8, 3) := dAt wdX12_minutes_29 adX12_minutes_29.2.2.2.2.2.1 rfl
theorem dX12_minutes_39 : decode cX12_minutes 39 = .ok (.iconst 0, 1) := dAt wdX12_minutes_29 adX12_minutes_29.2.2.2.2.2.2.1 rfl
theorem dX12_minutes_40 : decode cX12_minutes 40 = .ok (.iaload, 1) := dAt wdX12_minutes_29 adX12_minutes_29.2.2.2.2.2.2.2.1 rfl
theorem dX12_minutes_41 : decode cX12_minutes 41 = .ok (.sipush 600, 3) := dAt wdX12_minutes_29 adX12_minutes_29.2.2.2.2.2.2.2.2.1 rfl
theorem dX12_minutes_44 : decode cX12_minutes 44 = .ok (.if_icmp .ge 13, 3) := dAt wdX12_minutes_29 adX12_minutes_29.2.2.2.2.2.2.2.2.2.1 rfl
theorem dX12_minutes_47 : decode cX12_minutes 47 = .ok (.aload_n 0, 1) := dAt wdX12_minutes_29 adX12_minutes_29.2.2.2.2.2.2.2.2.2.2.1 rfl
theorem dX12_minutes_48 : decode cX12_minutes 48 = .ok (.invokevirtual 394, 3) := dAt wdX12_minutes_29 adX12_minutes_29.2.2.2.2.2.2.2.2.2.2.2.1 rfl
theorem dX12_minutes_51 : decode cX12_minutes 51 = .ok (.iinc 2 1, 3) := dAt wdX12_minutes_29 adX12_minutes_29.2.2.2.2.2.2.2.2.2.2.2.2.1 rfl
theorem dX12_minutes_54 : decode cX12_minutes 54 = .ok (.goto (-24), 3) := dAt wdX12_minutes_29 adX12_minutes_29.2.2.2.2.2.2.2.2.2.2.2.2.2.1 rfl
theorem dX12_minutes_57 : decode cX12_minutes 57 = .ok (.aload_n 0, 1) := dAt wdX12_minutes_29 adX12_minutes_29.2.2.2.2.2.2.2.2.2.2.2.2.2.2.1 rfl
theorem dX12_minutes_58 : decode cX12_minutes 58 = .ok (.getfield 8, 3) := dAt wdX12_minutes_29 adX12_minutes_29.2.2.2.2.2.2.2.2.2.2.2.2.2.2.2 rfl
def bdX12_minutes_61 : ByteArray := .mk #[3, 46, 172]
theorem wdX12_minutes_61 : LocW cX12_minutes 61 bdX12_minutes_61 := loc_of (by decide +kernel)
theorem adX12_minutes_61 : De bdX12_minutes_61 0 (.iconst 0) 1 ∧ De bdX12_minutes_61 1 (.iaload) 1 ∧ De bdX12_minutes_61 2 (.ireturn) 1 := by decide +kernel
theorem dX12_minutes_61 : decode cX12_minutes 61 = .ok (.iconst 0, 1) := dAt wdX12_minutes_61 adX12_minutes_61.1 rfl
theorem dX12_minutes_62 : decode cX12_minutes 62 = .ok (.iaload, 1) := dAt wdX12_minutes_61 adX12_minutes_61.2.1 rfl
theorem dX12_minutes_63 : decode cX12_minutes 63 = .ok (.ireturn, 1) := dAt wdX12_minutes_61 adX12_minutes_61.2.2 rfl
def bdX12_runs_0 : ByteArray := .mk #[42, 42, 27, 182, 1, 107, 154, 0, 7, 4, 167, 0, 17, 28, 3, 8, 184, 0, 157, 154, 0, 7, 5, 167, 0, 4, 3, 181, 0, 122]
theorem wdX12_runs_0 : LocW cX12_runs 0 bdX12_runs_0 := loc_of (by decide +kernel)
theorem adX12_runs_0 : De bdX12_runs_0 0 (.aload_n 0) 1 ∧ De bdX12_runs_0 1 (.aload_n 0) 1 ∧ De bdX12_runs_0 2 (.iload_n 1) 1 ∧ De bdX12_runs_0 3 (.invokevirtual 363) 3 ∧ De bdX12_runs_0 6 (.ifCond .ne 7) 3 ∧ De bdX12_runs_0 9 (.iconst 1) 1 ∧ De bdX12_runs_0 10 (.goto 17) 3 ∧ De bdX12_runs_0 13 (.iload_n 2) 1 ∧ De bdX12_runs_0 14 (.iconst 0) 1 ∧ De bdX12_runs_0 15 (.iconst 5) 1 ∧ De bdX12_runs_0 16 (.invokestatic 157) 3 ∧ De bdX12_runs_0 19 (.ifCond .ne 7) 3 ∧ De bdX12_runs_0 22 (.iconst 2) 1 ∧ De bdX12_runs_0 23 (.goto 4) 3 ∧ De bdX12_runs_0 26 (.iconst 0) 1 ∧ De bdX12_runs_0 27 (.putfield 122) 3 := by decide +kernel
theorem dX12_runs_0 : decode cX12_runs 0 = .ok (.aload_n 0, 1) := dAt wdX12_runs_0 adX12_runs_0.1 rfl
theorem dX12_runs_1 : decode cX12_runs 1 = .ok (.aload_n 0, 1) := dAt wdX12_runs_0 adX12_runs_0.2.1 rfl
theorem dX12_runs_2 : decode cX12_runs 2 = .ok (.iload_n 1, 1) := dAt wdX12_runs_0 adX12_runs_0.2.2.1 rfl
theorem dX12_runs_3 : decode cX12_runs 3 = .ok (.invokevirtual 363, 3) := dAt wdX12_runs_0 adX12_runs_0.2.2.2.1 rfl
theorem dX12_runs_6 : decode cX12_runs 6 = .ok (.ifCond .ne 7, 3) := dAt wdX12_runs_0 adX12_runs_0.2.2.2.2.1 rfl
theorem dX12_runs_9 : decode cX12_runs 9 = .ok (.iconst 1, 1) := dAt wdX12_runs_0 adX12_runs_0.2.2.2.2.2.1 rfl
theorem dX12_runs_10 : decode cX12_runs 10 = .ok (.goto 17, 3) := dAt wdX12_runs_0 adX12_runs_0.2.2.2.2.2.2.1 rfl
theorem dX12_runs_13 : decode cX12_runs 13 = .ok (.iload_n 2, 1) := dAt wdX12_runs_0 adX12_runs_0.2.2.2.2.2.2.2.1 rfl
theorem dX12_runs_14 : decode cX12_runs 14 = .ok (.iconst 0, 1) := dAt wdX12_runs_0 adX12_runs_0.2.2.2.2.2.2.2.2.1 rfl
theorem dX12_runs_15 : decode cX12_runs 15 = .ok (.iconst 5, 1) := dAt wdX12_runs_0 adX12_runs_0.2.2.2.2.2.2.2.2.2.1 rfl
theorem dX12_runs_16 : decode cX12_runs 16 = .ok (.invokestatic 157, 3) := dAt wdX12_runs_0 adX12_runs_0.2.2.2.2.2.2.2.2.2.2.1 rfl
theorem dX12_runs_19 : decode cX12_runs 19 = .ok (.ifCond .ne 7, 3) := dAt wdX12_runs_0 adX12_runs_0.2.2.2.2.2.2.2.2.2.2.2.1 rfl
theorem dX12_runs_22 : decode cX12_runs 22 = .ok (.iconst 2, 1) := dAt wdX12_runs_0 adX12_runs_0.2.2.2.2.2.2.2.2.2.2.2.2.1 rfl
theorem dX12_runs_23 : decode cX12_runs 23 = .ok (.goto 4, 3) := dAt wdX12_runs_0 adX12_runs_0.2.2.2.2.2.2.2.2.2.2.2.2.2.1 rfl
theorem dX12_runs_26 : decode cX12_runs 26 = .ok (.iconst 0, 1) := dAt wdX12_runs_0 adX12_runs_0.2.2.2.2.2.2.2.2.2.2.2.2.2.2.1 rfl
theorem dX12_runs_27 : decode cX12_runs 27 = .ok (.putfield 122, 3) := dAt wdX12_runs_0 adX12_runs_0.2.2.2.2.2.2.2.2.2.2.2.2.2.2.2 rfl
def bdX12_runs_30 : ByteArray := .mk #[42, 180, 0, 122, 158, 0, 5, 3, 172, 27, 184, 1, 104, 62, 28, 154, 0, 15, 42, 180, 0, 8, 29, 16, 29, 96, 46]
theorem wdX12_runs_30 : LocW cX12_runs 30 bdX12_runs_30 := loc_of (by decide +kernel)
theorem adX12_runs_30 : De bdX12_runs_30 0 (.aload_n 0) 1 ∧ De bdX12_runs_30 1 (.getfield 122) 3 ∧ De bdX12_runs_30 4 (.ifCond .le 5) 3 ∧ De bdX12_runs_30 7 (.iconst 0) 1 ∧ De bdX12_runs_30 8 (.ireturn) 1 ∧ De bdX12_runs_30 9 (.iload_n 1) 1 ∧ De bdX12_runs_30 10 (.invokestatic 360) 3 ∧ De bdX12_runs_30 13 (.istore_n 3) 1 ∧ De bdX12_runs_30 14 (.iload_n 2) 1 ∧ De bdX12_runs_30 15 (.ifCond .ne 15) 3 ∧ De bdX12_runs_30 18 (.aload_n 0) 1 ∧ De bdX12_runs_30 19 (.getfield 8) 3 ∧ De bdX12_runs_30 22 (.iload_n 3) 1 ∧ De bdX12_runs_30 23 (.bipush 29) 2 ∧ De bdX12_runs_30 25 (.iadd) 1 ∧ De bdX12_runs_30 26 (.iaload) 1 := by decide +kernel
theorem dX12_runs_30 : decode cX12_runs 30 = .ok (.aload_n 0, 1) := dAt wdX12_runs_30 adX12_runs_30.1 rfl
theorem dX12_runs_31 : decode cX12_runs 31 = .ok (.getfield 122, 3) := dAt wdX12_runs_30 adX12_runs_30.2.1 rfl
theorem dX12_runs_34 : decode cX12_runs 34 = .ok (.ifCond .le 5, 3) := dAt wdX12_runs_30 adX12_runs_30.2.2.1 rfl
theorem dX12_runs_37 : decode cX12_runs 37 = .ok (.iconst 0, 1) := dAt wdX12_runs_30 adX12_runs_30.2.2.2.1 rfl
theorem dX12_runs_38 : decode cX12_runs 38 = .ok (.ireturn, 1) := dAt wdX12_runs_30 adX12_runs_30.2.2.2.2.1 rfl
theorem dX12_runs_39 : decode cX12_runs 39 = .ok (.iload_n 1, 1) := dAt wdX12_runs_30 adX12_runs_30.2.2.2.2.2.1 rfl
theorem dX12_runs_40 : decode cX12_runs 40 = .ok (.invokestatic 360, 3) := dAt wdX12_runs_30 adX12_runs_30.2.2.2.2.2.2.1 rfl
theorem dX12_runs_43 : decode cX12_runs 43 = .ok (.istore_n 3, 1) := dAt wdX12_runs_30 adX12_runs_30.2.2.2.2.2.2.2.1 rfl
theorem dX12_runs_44 : decode cX12_runs 44 = .ok (.iload_n 2, 1) := dAt wdX12_runs_30 adX12_runs_30.2.2.2.2.2.2.2.2.1 rfl
theorem dX12_runs_45 : decode cX12_runs 45 = .ok (.ifCond .ne 15, 3) := dAt wdX12_runs_30 adX12_runs_30.2.2.2.2.2.2.2.2.2.1 rfl
theorem dX12_runs_48 : decode cX12_runs 48 = .ok (.aload_n 0, 1) := dAt wdX12_runs_30 adX12_runs_30.2.2.2.2.2.2.2.2.2.2.1 rfl
theorem dX12_runs_49 : decode cX12_runs 49 = .ok (.getfield 8, 3) := dAt wdX12_runs_30 adX12_runs_30.2.2.2.2.2.2.2.2.2.2.2.1 rfl
theorem dX12_runs_52 : decode cX12_runs 52 = .ok (.iload_n 3, 1) := dAt wdX12_runs_30 adX12_runs_30.2.2.2.2.2.2.2.2.2.2.2.2.1 rfl
theorem dX12_runs_53 : decode cX12_runs 53 = .ok (.bipush 29, 2) := dAt wdX12_runs_30 adX12_runs_30.2.2.2.2.2.2.2.2.2.2.2.2.2.1 rfl
theorem dX12_runs_55 : decode cX12_runs 55 = .ok (.iadd, 1) := dAt wdX12_runs_30 adX12_runs_30.2.2.2.2.2.2.2.2.2.2.2.2.2.2.1 rfl
theorem dX12_runs_56 : decode cX12_runs 56 = .ok (.iaload, 1) := dAt wdX12_runs_30 adX12_runs_30.2.2.2.2.2.2.2.2.2.2.2.2.2.2.2 rfl
def bdX12_runs_57 : ByteArray := .mk #[167, 0, 96, 28, 4, 160, 0, 15, 42, 180, 0, 8, 29, 16, 30, 96, 46, 167, 0, 79, 28, 5, 160, 0, 15, 42, 180, 0, 8]
theorem wdX12_runs_57 : LocW cX12_runs 57 bdX12_runs_57 := loc_of (by decide +kernel)
theorem adX12_runs_57 : De bdX12_runs_57 0 (.goto 96) 3 ∧ De bdX12_runs_57 3 (.iload_n 2) 1 ∧ De bdX12_runs_57 4 (.iconst 1) 1 ∧ De bdX12_runs_57 5 (.if_icmp .ne 15) 3 ∧ De bdX12_runs_57 8 (.aload_n 0) 1 ∧ De bdX12_runs_57 9 (.getfield 8) 3 ∧ De bdX12_runs_57 12 (.iload_n 3) 1 ∧ De bdX12_runs_57 13 (.bipush 30) 2 ∧ De bdX12_runs_57 15 (.iadd) 1 ∧ De bdX12_runs_57 16 (.iaload) 1 ∧ De bdX12_runs_57 17 (.goto 79) 3 ∧ De bdX12_runs_57 20 (.iload_n 2) 1 ∧ De bdX12_runs_57 21 (.iconst 2) 1 ∧ De bdX12_runs_57 22 (.if_icmp .ne 15) 3 ∧ De bdX12_runs_57 25 (.aload_n 0) 1 ∧ De bdX12_runs_57 26 (.getfield 8) 3 := by decide +kernel
theorem dX12_runs_57 : decode cX12_runs 57 = .ok (.goto 96, 3) := dAt wdX12_runs_57 adX12_runs_57.1 rfl
theorem dX12_runs_60 : decode cX12_runs 60 = .ok (.iload_n 2, 1) := dAt wdX12_runs_57 adX12_runs_57.2.1 rfl
theorem dX12_runs_61 : decode cX12_runs 61 = .ok (.iconst 1, 1) := dAt wdX12_runs_57 adX12_runs_57.2.2.1 rfl
theorem dX12_runs_62 : decode cX12_runs 62 = .ok (.if_icmp .ne 15, 3) := dAt wdX12_runs_57 adX12_runs_57.2.2.2.1 rfl
theorem dX12_runs_65 : decode cX12_runs 65 = .ok (.aload_n 0, 1) := dAt wdX12_runs_57 adX12_runs_57.2.2.2.2.1 rfl
theorem dX12_runs_66 : decode cX12_runs 66 = .ok (.getfield 8, 3) := dAt wdX12_runs_57 adX12_runs_57.2.2.2.2.2.1 rfl
theorem dX12_runs_69 : decode cX12_runs 69 = .ok (.iload_n 3, 1) := dAt wdX12_runs_57 adX12_runs_57.2.2.2.2.2.2.1 rfl
theorem dX12_runs_70 : decode cX12_runs 70 = .ok (.bipush 30, 2) := dAt wdX12_runs_57 adX12_runs_57.2.2.2.2.2.2.2.1 rfl
theorem dX12_runs_72 : decode cX12_runs 72 = .ok (.iadd, 1) := dAt wdX12_runs_57 adX12_runs_57.2.2.2.2.2.2.2.2.1 rfl
theorem dX12_runs_73 : decode cX12_runs 73 = .ok (.iaload, 1) := dAt wdX12_runs_57 adX12_runs_57.2.2.2.2.2.2.2.2.2.1 rfl
theorem dX12_runs_74 : decode cX12_runs 74 = .ok (.goto 79, 3) := dAt wdX12_runs_57 adX12_runs_57.2.2.2.2.2.2.2.2.2.2.1 rfl
theorem dX12_runs_77 : decode cX12_runs 77 = .ok (.iload_n 2, 1) := dAt wdX12_runs_57 adX12_runs_57.2.2.2.2.2.2.2.2.2.2.2.1 rfl
theorem dX12_runs_78 : decode cX12_runs 78 = .ok (.iconst 2, 1) := dAt wdX12_runs_57 adX12_runs_57.2.2.2.2.2.2.2.2.2.2.2.2.1 rfl
theorem dX12_runs_79 : decode cX12_runs 79 = .ok (.if_icmp .ne 15, 3) := dAt wdX12_runs_57 adX12_runs_57.2.2.2.2.2.2.2.2.2.2.2.2.2.1 rfl
theorem dX12_runs_82 : decode cX12_runs 82 = .ok (.aload_n 0, 1) := dAt wdX12_runs_57 adX12_runs_57.2.2.2.2.2.2.2.2.2.2.2.2.2.2.1 rfl
theorem dX12_runs_83 : decode cX12_runs 83 = .ok (.getfield 8, 3) := dAt wdX12_runs_57 adX12_runs_57.2.2.2.2.2.2.2.2.2.2.2.2.2.2.2 rfl
def bdX12_runs_86 : ByteArray := .mk #[29, 16, 31, 96, 46, 167, 0, 62, 28, 6, 160, 0, 15, 42, 180, 0, 8, 29, 16, 32, 96, 46, 167, 0, 45, 28]
theorem wdX12_runs_86 : LocW cX12_runs 86 bdX12_runs_86 := loc_of (by decide +kernel)
theorem adX12_runs_86 : De bdX12_runs_86 0 (.iload_n 3) 1 ∧ De bdX12_runs_86 1 (.bipush 31) 2 ∧ De bdX12_runs_86 3 (.iadd) 1 ∧ De bdX12_runs_86 4 (.iaload) 1 ∧ De bdX12_runs_86 5 (.goto 62) 3 ∧ De bdX12_runs_86 8 (.iload_n 2) 1 ∧ De bdX12_runs_86 9 (.iconst 3) 1 ∧ De bdX12_runs_86 10 (.if_icmp .ne 15) 3 ∧ De bdX12_runs_86 13 (.aload_n 0) 1 ∧ De bdX12_runs_86 14 (.getfield 8) 3 ∧ De bdX12_runs_86 17 (.iload_n 3) 1 ∧ De bdX12_runs_86 18 (.bipush 32) 2 ∧ De bdX12_runs_86 20 (.iadd) 1 ∧ De bdX12_runs_86 21 (.iaload) 1 ∧ De bdX12_runs_86 22 (.goto 45) 3 ∧ De bdX12_runs_86 25 (.iload_n 2) 1 := by decide +kernel
theorem dX12_runs_86 : decode cX12_runs 86 = .ok (.iload_n 3, 1) := dAt wdX12_runs_86 adX12_runs_86.1 rfl
theorem dX12_runs_87 : decode cX12_runs 87 = .ok (.bipush 31, 2) := dAt wdX12_runs_86 adX12_runs_86.2.1 rfl
theorem dX12_runs_89 : decode cX12_runs 89 = .ok (.iadd, 1) := dAt wdX12_runs_86 adX12_runs_86.2.2.1 rfl
theorem dX12_runs_90 : decode cX12_runs 90 = .ok (.iaload, 1) := dAt wdX12_runs_86 adX12_runs_86.2.2.2.1 rfl
theorem dX12_runs_91 : decode cX12_runs 91 = .ok (.goto 62, 3) := dAt wdX12_runs_86 adX12_runs_86.2.2.2.2.1 rfl
theorem dX12_runs_94 : decode cX12_runs 94 = .ok (.iload_n 2, 1) := dAt wdX12_runs_86 adX12_runs_86.2.2.2.2.2.1 rfl
theorem dX12_runs_95 : decode cX12_runs 95 = .ok (.iconst 3, 1) := dAt wdX12_runs_86 adX12_runs_86.2.2.2.2.2.2.1 rfl
theorem dX12_runs_96 : decode cX12_runs 96 = .ok (.if_icmp .ne 15, 3) := dAt wdX12_runs_86 adX12_runs_86.2.2.2.2.2.2.2.1 rfl
theorem dX12_runs_99 : decode cX12_runs 99 = .ok (.aload_n 0, 1) := dAt wdX12_runs_86 adX12_runs_86.2.2.2.2.2.2.2.2.1 rfl
theorem dX12_runs_100 : decode cX12_runs 100 = .ok (.getfield 8, 3) := dAt wdX12_runs_86 adX12_runs_86.2.2.2.2.2.2.2.2.2.1 rfl
theorem dX12_runs_103 : decode cX12_runs 103 = .ok (.iload_n 3, 1) := dAt wdX12_runs_86 adX12_runs_86.2.2.2.2.2.2.2.2.2.2.1 rfl
theorem dX12_runs_104 : decode cX12_runs 104 = .ok (.bipush 32, 2) := dAt wdX12_runs_86 adX12_runs_86.2.2.2.2.2.2.2.2.2.2.2.1 rfl
theorem dX12_runs_106 : decode cX12_runs 106 = .ok (.iadd, 1) := dAt wdX12_runs_86 adX12_runs_86.2.2.2.2.2.2.2.2.2.2.2.2.1 rfl
theorem dX12_runs_107 : decode cX12_runs 107 = .ok (.iaload, 1) := dAt wdX12_runs_86 adX12_runs_86.2.2.2.2.2.2.2.2.2.2.2.2.2.1 rfl
theorem dX12_runs_108 : decode cX12_runs 108 = .ok (.goto 45, 3) := dAt wdX12_runs_86 adX12_runs_86.2.2.2.2.2.2.2.2.2.2.2.2.2.2.1 rfl
theorem dX12_runs_111 : decode cX12_runs 111 = .ok (.iload_n 2, 1) := dAt wdX12_runs_86 adX12_runs_86.2.2.2.2.2.2.2.2.2.2.2.2.2.2.2 rfl
def bdX12_runs_112 : ByteArray := .mk #[7, 160, 0, 15, 42, 180, 0, 8, 29, 16, 28, 96, 46, 167, 0, 28, 42, 180, 0, 8, 29, 16, 29, 96, 46, 154, 0, 7]
theorem wdX12_runs_112 : LocW cX12_runs 112 bdX12_runs_112 := loc_of (by decide +kernel)
theorem adX12_runs_112 : De bdX12_runs_112 0 (.iconst 4) 1 ∧ De bdX12_runs_112 1 (.if_icmp .ne 15) 3 ∧ De bdX12_runs_112 4 (.aload_n 0) 1 ∧ De bdX12_runs_112 5 (.getfield 8) 3 ∧ De bdX12_runs_112 8 (.iload_n 3) 1 ∧ De bdX12_runs_112 9 (.bipush 28) 2 ∧ De bdX12_runs_112 11 (.iadd) 1 ∧ De bdX12_runs_112 12 (.iaload) 1 ∧ De bdX12_runs_112 13 (.goto 28) 3 ∧ De bdX12_runs_112 16 (.aload_n 0) 1 ∧ De bdX12_runs_112 17 (.getfield 8) 3 ∧ De bdX12_runs_112 20 (.iload_n 3) 1 ∧ De bdX12_runs_112 21 (.bipush 29) 2 ∧ De bdX12_runs_112 23 (.iadd) 1 ∧ De bdX12_runs_112 24 (.iaload) 1 ∧ De bdX12_runs_112 25 (.ifCond .ne 7) 3 := by decide +kernel
theorem dX12_runs_112 : decode cX12_runs 112 = .ok (.iconst 4, 1) := dAt wdX12_runs_112 adX12_runs_112.1 rfl
theorem dX12_runs_113 : decode cX12_runs 113 = .ok (.if_icmp .ne 15, 3) := dAt wdX12_runs_112 adX12_runs_112.2.1 rfl
theorem dX12_runs_116 : decode cX12_runs 116 = .ok (.aload_n 0, 1) := dAt wdX12_runs_112 adX12_runs_112.2.2.1 rfl
theorem dX12_runs_117 : decode cX12_runs 117 = .ok (.getfield 8, 3) := dAt wdX12_runs_112 adX12_runs_112.2.2.2.1 rfl
theorem dX12_runs_120 : decode cX12_runs 120 = .ok (.iload_n 3, 1) := dAt wdX12_runs_112 adX12_runs_112.2.2.2.2.1 rfl
theorem dX12_runs_121 : decode cX12_runs 121 = .ok (.bipush 28, 2) := dAt wdX12_runs_112 adX12_runs_112.2.2.2.2.2.1 rfl
theorem dX12_runs_123 : decode cX12_runs 123 = .ok (.iadd, 1) := dAt wdX12_runs_112 adX12_runs_112.2.2.2.2.2.2.1 rfl
theorem dX12_runs_124 : decode cX12_runs 124 = .ok (.iaload, 1) := dAt wdX12_runs_112 adX12_runs_112.2.2.2.2.2.2.2.1 rfl
theorem dX12_runs_125 : decode cX12_runs 125 = .ok (.goto 28, 3) := dAt wdX12_runs_112 adX12_runs_112.2.2.2.2.2.2.2.2.1 rfl
theorem dX12_runs_128 : decode cX12_runs 128 = .ok (.aload_n 0, 1) := dAt wdX12_runs_112 adX12_runs_112.2.2.2.2.2.2.2.2.2.1 rfl
theorem dX12_runs_129 : decode cX12_runs 129 = .ok (.getfield 8, 3) := dAt wdX12_runs_112 adX12_runs_112.2.2.2.2.2.2.2.2.2.2.1 rfl
theorem dX12_runs_132 : decode cX12_runs 132 = .ok (.iload_n 3, 1) := dAt wdX12_runs_112 adX12_runs_112.2.2.2.2.2.2.2.2.2.2.2.1 rfl
theorem dX12_runs_133 : decode cX12_runs 133 = .ok (.bipush 29, 2) := dAt wdX12_runs_112 adX12_runs_112.2.2.2.2.2.2.2.2.2.2.2.2.1 rfl
theorem dX12_runs_135 : decode cX12_runs 135 = .ok (.iadd, 1) := dAt wdX12_runs_112 adX12_runs_112.2.2.2.2.2.2.2.2.2.2.2.2.2.1 rfl
theorem dX12_runs_136 : decode cX12_runs 136 = .ok (.iaload, 1) := dAt wdX12_runs_112 adX12_runs_112.2.2.2.2.2.2.2.2.2.2.2.2.2.2.1 rfl
theorem dX12_runs_137 : decode cX12_runs 137 = .ok (.ifCond .ne 7, 3) := dAt wdX12_runs_112 adX12_runs_112.2.2.2.2.2.2.2.2.2.2.2.2.2.2.2 rfl
def bdX12_runs_140 : ByteArray := .mk #[2, 167, 0, 12, 42, 180, 0, 8, 29, 16, 33, 96, 46, 172]
theorem wdX12_runs_140 : LocW cX12_runs 140 bdX12_runs_140 := loc_of (by decide +kernel)
theorem adX12_runs_140 : De bdX12_runs_140 0 (.iconst (-1)) 1 ∧ De bdX12_runs_140 1 (.goto 12) 3 ∧ De bdX12_runs_140 4 (.aload_n 0) 1 ∧ De bdX12_runs_140 5 (.getfield 8) 3 ∧ De bdX12_runs_140 8 (.iload_n 3) 1 ∧ De bdX12_runs_140 9 (.bipush 33) 2 ∧ De bdX12_runs_140 11 (.iadd) 1 ∧ De bdX12_runs_140 12 (.iaload) 1 ∧ De bdX12_runs_140 13 (.ireturn) 1 := by decide +kernel
theorem dX12_runs_140 : decode cX12_runs 140 = .ok (.iconst (-1), 1) := dAt wdX12_runs_140 adX12_runs_140.1 rfl
theorem dX12_runs_141 : decode cX12_runs 141 = .ok (.goto 12, 3) := dAt wdX12_runs_140 adX12_runs_140.2.1 rfl
theorem dX12_runs_144 : decode cX12_runs 144 = .ok (.aload_n 0, 1) := dAt wdX12_runs_140 adX12_runs_140.2.2.1 rfl
theorem dX12_runs_145 : decode cX12_runs 145 = .ok (.getfield 8, 3) := dAt wdX12_runs_140 adX12_runs_140.2.2.2.1 rfl
theorem dX12_runs_148 : decode cX12_runs 148 = .ok (.iload_n 3, 1) := dAt wdX12_runs_140 adX12_runs_140.2.2.2.2.1 rfl
theorem dX12_runs_149 : decode cX12_runs 149 = .ok (.bipush 33, 2) := dAt wdX12_runs_140 adX12_runs_140.2.2.2.2.2.1 rfl
theorem dX12_runs_151 : decode cX12_runs 151 = .ok (.iadd, 1) := dAt wdX12_runs_140 adX12_runs_140.2.2.2.2.2.2.1 rfl
theorem dX12_runs_152 : decode cX12_runs 152 = .ok (.iaload, 1) := dAt wdX12_runs_140 adX12_runs_140.2.2.2.2.2.2.2.1 rfl
theorem dX12_runs_153 : decode cX12_runs 153 = .ok (.ireturn, 1) := dAt wdX12_runs_140 adX12_runs_140.2.2.2.2.2.2.2.2 rfl
def bdX12_isWrong_0 : ByteArray := .mk #[27, 184, 1, 86, 61, 3, 62, 3, 54, 4, 21, 4, 42, 180, 0, 8, 28, 16, 9, 96, 46, 162, 0, 47, 29]
theorem wdX12_isWrong_0 : LocW cX12_isWrong 0 bdX12_isWrong_0 := loc_of (by decide +kernel)
theorem adX12_isWrong_0 : De bdX12_isWrong_0 0 (.iload_n 1) 1 ∧ De bdX12_isWrong_0 1 (.invokestatic 342) 3 ∧ De bdX12_isWrong_0 4 (.istore_n 2) 1 ∧ De bdX12_isWrong_0 5 (.iconst 0) 1 ∧ De bdX12_isWrong_0 6 (.istore_n 3) 1 ∧ De bdX12_isWrong_0 7 (.iconst 0) 1 ∧ De bdX12_isWrong_0 8 (.istore 4) 2 ∧ De bdX12_isWrong_0 10 (.iload 4) 2 ∧ De bdX12_isWrong_0 12 (.aload_n 0) 1 ∧ De bdX12_isWrong_0 13 (.getfield 8) 3 ∧ De bdX12_isWrong_0 16 (.iload_n 2) 1 ∧ De bdX12_isWrong_0 17 (.bipush 9) 2 ∧ De bdX12_isWrong_0 19 (.iadd) 1 ∧ De bdX12_isWrong_0 20 (.iaload) 1 ∧ De bdX12_isWrong_0 21 (.if_icmp .ge 47) 3 ∧ De bdX12_isWrong_0 24 (.iload_n 3) 1 := by decide +kernel
theorem dX12_isWrong_0 : decode cX12_isWrong 0 = .ok (.iload_n 1, 1) := dAt wdX12_isWrong_0 adX12_isWrong_0.1 rfl
theorem dX12_isWrong_1 : decode cX12_isWrong 1 = .ok (.invokestatic 342, 3) := dAt wdX12_isWrong_0 adX12_isWrong_0.2.1 rfl
theorem dX12_isWrong_4 : decode cX12_isWrong 4 = .ok (.istore_n 2, 1) := dAt wdX12_isWrong_0 adX12_isWrong_0.2.2.1 rfl
theorem dX12_isWrong_5 : decode cX12_isWrong 5 = .ok (.iconst 0, 1) := dAt wdX12_isWrong_0 adX12_isWrong_0.2.2.2.1 rfl
theorem dX12_isWrong_6 : decode cX12_isWrong 6 = .ok (.istore_n 3, 1) := dAt wdX12_isWrong_0 adX12_isWrong_0.2.2.2.2.1 rfl
theorem dX12_isWrong_7 : decode cX12_isWrong 7 = .ok (.iconst 0, 1) := dAt wdX12_isWrong_0 adX12_isWrong_0.2.2.2.2.2.1 rfl
theorem dX12_isWrong_8 : decode cX12_isWrong 8 = .ok (.istore 4, 2) := dAt wdX12_isWrong_0 adX12_isWrong_0.2.2.2.2.2.2.1 rfl
theorem dX12_isWrong_10 : decode cX12_isWrong 10 = .ok (.iload 4, 2) := dAt wdX12_isWrong_0 adX12_isWrong_0.2.2.2.2.2.2.2.1 rfl
theorem dX12_isWrong_12 : decode cX12_isWrong 12 = .ok (.aload_n 0, 1) := dAt wdX12_isWrong_0 adX12_isWrong_0.2.2.2.2.2.2.2.2.1 rfl
theorem dX12_isWrong_13 : decode cX12_isWrong 13 = .ok (.getfield 8, 3) := dAt wdX12_isWrong_0 adX12_isWrong_0.2.2.2.2.2.2.2.2.2.1 rfl
theorem dX12_isWrong_16 : decode cX12_isWrong 16 = .ok (.iload_n 2, 1) := dAt wdX12_isWrong_0 adX12_isWrong_0.2.2.2.2.2.2.2.2.2.2.1 rfl
theorem dX12_isWrong_17 : decode cX12_isWrong 17 = .ok (.bipush 9, 2) := dAt wdX12_isWrong_0 adX12_isWrong_0.2.2.2.2.2.2.2.2.2.2.2.1 rfl
theorem dX12_isWrong_19 : decode cX12_isWrong 19 = .ok (.iadd, 1) := dAt wdX12_isWrong_0 adX12_isWrong_0.2.2.2.2.2.2.2.2.2.2.2.2.1 rfl
theorem dX12_isWrong_20 : decode cX12_isWrong 20 = .ok (.iaload, 1) := dAt wdX12_isWrong_0 adX12_isWrong_0.2.2.2.2.2.2.2.2.2.2.2.2.2.1 rfl
theorem dX12_isWrong_21 : decode cX12_isWrong 21 = .ok (.if_icmp .ge 47, 3) := dAt wdX12_isWrong_0 adX12_isWrong_0.2.2.2.2.2.2.2.2.2.2.2.2.2.2.1 rfl
theorem dX12_isWrong_24 : decode cX12_isWrong 24 = .ok (.iload_n 3, 1) := dAt wdX12_isWrong_0 adX12_isWrong_0.2.2.2.2.2.2.2.2.2.2.2.2.2.2.2 rfl
def bdX12_isWrong_25 : ByteArray := .mk #[154, 0, 31, 42, 180, 0, 8, 28, 16, 12, 96, 21, 4, 96, 46, 42, 180, 0, 8, 28, 17, 1, 176, 96, 21, 4, 96]
theorem wdX12_isWrong_25 : LocW cX12_isWrong 25 bdX12_isWrong_25 := loc_of (by decide +kernel)
theorem adX12_isWrong_25 : De bdX12_isWrong_25 0 (.ifCond .ne 31) 3 ∧ De bdX12_isWrong_25 3 (.aload_n 0) 1 ∧ De bdX12_isWrong_25 4 (.getfield 8) 3 ∧ De bdX12_isWrong_25 7 (.iload_n 2) 1 ∧ De bdX12_isWrong_25 8 (.bipush 12) 2 ∧ De bdX12_isWrong_25 10 (.iadd) 1 ∧ De bdX12_isWrong_25 11 (.iload 4) 2 ∧ De bdX12_isWrong_25 13 (.iadd) 1 ∧ De bdX12_isWrong_25 14 (.iaload) 1 ∧ De bdX12_isWrong_25 15 (.aload_n 0) 1 ∧ De bdX12_isWrong_25 16 (.getfield 8) 3 ∧ De bdX12_isWrong_25 19 (.iload_n 2) 1 ∧ De bdX12_isWrong_25 20 (.sipush 432) 3 ∧ De bdX12_isWrong_25 23 (.iadd) 1 ∧ De bdX12_isWrong_25 24 (.iload 4) 2 ∧ De bdX12_isWrong_25 26 (.iadd) 1 := by decide +kernel
theorem dX12_isWrong_25 : decode cX12_isWrong 25 = .ok (.ifCond .ne 31, 3) := dAt wdX12_isWrong_25 adX12_isWrong_25.1 rfl
theorem dX12_isWrong_28 : decode cX12_isWrong 28 = .ok (.aload_n 0, 1) := dAt wdX12_isWrong_25 adX12_isWrong_25.2.1 rfl
theorem dX12_isWrong_29 : decode cX12_isWrong 29 = .ok (.getfield 8, 3) := dAt wdX12_isWrong_25 adX12_isWrong_25.2.2.1 rfl
theorem dX12_isWrong_32 : decode cX12_isWrong 32 = .ok (.iload_n 2, 1) := dAt wdX12_isWrong_25 adX12_isWrong_25.2.2.2.1 rfl
theorem dX12_isWrong_33 : decode cX12_isWrong 33 = .ok (.bipush 12, 2) := dAt wdX12_isWrong_25 adX12_isWrong_25.2.2.2.2.1 rfl
theorem dX12_isWrong_35 : decode cX12_isWrong 35 = .ok (.iadd, 1) := dAt wdX12_isWrong_25 adX12_isWrong_25.2.2.2.2.2.1 rfl
theorem dX12_isWrong_36 : decode cX12_isWrong 36 = .ok (.iload 4, 2) := dAt wdX12_isWrong_25 adX12_isWrong_25.2.2.2.2.2.2.1 rfl
theorem dX12_isWrong_38 : decode cX12_isWrong 38 = .ok (.iadd, 1) := dAt wdX12_isWrong_25 adX12_isWrong_25.2.2.2.2.2.2.2.1 rfl
theorem dX12_isWrong_39 : decode cX12_isWrong 39 = .ok (.iaload, 1) := dAt wdX12_isWrong_25 adX12_isWrong_25.2.2.2.2.2.2.2.2.1 rfl
theorem dX12_isWrong_40 : decode cX12_isWrong 40 = .ok (.aload_n 0, 1) := dAt wdX12_isWrong_25 adX12_isWrong_25.2.2.2.2.2.2.2.2.2.1 rfl
theorem dX12_isWrong_41 : decode cX12_isWrong 41 = .ok (.getfield 8, 3) := dAt wdX12_isWrong_25 adX12_isWrong_25.2.2.2.2.2.2.2.2.2.2.1 rfl
theorem dX12_isWrong_44 : decode cX12_isWrong 44 = .ok (.iload_n 2, 1) := dAt wdX12_isWrong_25 adX12_isWrong_25.2.2.2.2.2.2.2.2.2.2.2.1 rfl
theorem dX12_isWrong_45 : decode cX12_isWrong 45 = .ok (.sipush 432, 3) := dAt wdX12_isWrong_25 adX12_isWrong_25.2.2.2.2.2.2.2.2.2.2.2.2.1 rfl
theorem dX12_isWrong_48 : decode cX12_isWrong 48 = .ok (.iadd, 1) := dAt wdX12_isWrong_25 adX12_isWrong_25.2.2.2.2.2.2.2.2.2.2.2.2.2.1 rfl
theorem dX12_isWrong_49 : decode cX12_isWrong 49 = .ok (.iload 4, 2) := dAt wdX12_isWrong_25 adX12_isWrong_25.2.2.2.2.2.2.2.2.2.2.2.2.2.2.1 rfl
theorem dX12_isWrong_51 : decode cX12_isWrong 51 = .ok (.iadd, 1) := dAt wdX12_isWrong_25 adX12_isWrong_25.2.2.2.2.2.2.2.2.2.2.2.2.2.2.2 rfl
def bdX12_isWrong_52 : ByteArray := .mk #[46, 159, 0, 7, 4, 167, 0, 4, 3, 62, 132, 4, 1, 167, 255, 201, 29, 172]
theorem wdX12_isWrong_52 : LocW cX12_isWrong 52 bdX12_isWrong_52 := loc_of (by decide +kernel)
theorem adX12_isWrong_52 : De bdX12_isWrong_52 0 (.iaload) 1 ∧ De bdX12_isWrong_52 1 (.if_icmp .eq 7) 3 ∧ De bdX12_isWrong_52 4 (.iconst 1) 1 ∧ De bdX12_isWrong_52 5 (.goto 4) 3 ∧ De bdX12_isWrong_52 8 (.iconst 0) 1 ∧ De bdX12_isWrong_52 9 (.istore_n 3) 1 ∧ De bdX12_isWrong_52 10 (.iinc 4 1) 3 ∧ De bdX12_isWrong_52 13 (.goto (-55)) 3 ∧ De bdX12_isWrong_52 16 (.iload_n 3) 1 ∧ De bdX12_isWrong_52 17 (.ireturn) 1 := by decide +kernel
theorem dX12_isWrong_52 : decode cX12_isWrong 52 = .ok (.iaload, 1) := dAt wdX12_isWrong_52 adX12_isWrong_52.1 rfl
theorem dX12_isWrong_53 : decode cX12_isWrong 53 = .ok (.if_icmp .eq 7, 3) := dAt wdX12_isWrong_52 adX12_isWrong_52.2.1 rfl
theorem dX12_isWrong_56 : decode cX12_isWrong 56 = .ok (.iconst 1, 1) := dAt wdX12_isWrong_52 adX12_isWrong_52.2.2.1 rfl
theorem dX12_isWrong_57 : decode cX12_isWrong 57 = .ok (.goto 4, 3) := dAt wdX12_isWrong_52 adX12_isWrong_52.2.2.2.1 rfl
theorem dX12_isWrong_60 : decode cX12_isWrong 60 = .ok (.iconst 0, 1) := dAt wdX12_isWrong_52 adX12_isWrong_52.2.2.2.2.1 rfl
theorem dX12_isWrong_61 : decode cX12_isWrong 61 = .ok (.istore_n 3, 1) := dAt wdX12_isWrong_52 adX12_isWrong_52.2.2.2.2.2.1 rfl
theorem dX12_isWrong_62 : decode cX12_isWrong 62 = .ok (.iinc 4 1, 3) := dAt wdX12_isWrong_52 adX12_isWrong_52.2.2.2.2.2.2.1 rfl
theorem dX12_isWrong_65 : decode cX12_isWrong 65 = .ok (.goto (-55), 3) := dAt wdX12_isWrong_52 adX12_isWrong_52.2.2.2.2.2.2.2.1 rfl
theorem dX12_isWrong_68 : decode cX12_isWrong 68 = .ok (.iload_n 3, 1) := dAt wdX12_isWrong_52 adX12_isWrong_52.2.2.2.2.2.2.2.2.1 rfl
theorem dX12_isWrong_69 : decode cX12_isWrong 69 = .ok (.ireturn, 1) := dAt wdX12_isWrong_52 adX12_isWrong_52.2.2.2.2.2.2.2.2.2 rfl
def bdX12_slug_0 : ByteArray := .mk #[42, 42, 27, 182, 1, 140, 154, 0, 7, 4, 167, 0, 18, 28, 3, 16, 9, 184, 0, 157, 154, 0, 7, 5, 167, 0, 4, 3, 181, 0, 122]
theorem wdX12_slug_0 : LocW cX12_slug 0 bdX12_slug_0 := loc_of (by decide +kernel)
theorem adX12_slug_0 : De bdX12_slug_0 0 (.aload_n 0) 1 ∧ De bdX12_slug_0 1 (.aload_n 0) 1 ∧ De bdX12_slug_0 2 (.iload_n 1) 1 ∧ De bdX12_slug_0 3 (.invokevirtual 396) 3 ∧ De bdX12_slug_0 6 (.ifCond .ne 7) 3 ∧ De bdX12_slug_0 9 (.iconst 1) 1 ∧ De bdX12_slug_0 10 (.goto 18) 3 ∧ De bdX12_slug_0 13 (.iload_n 2) 1 ∧ De bdX12_slug_0 14 (.iconst 0) 1 ∧ De bdX12_slug_0 15 (.bipush 9) 2 ∧ De bdX12_slug_0 17 (.invokestatic 157) 3 ∧ De bdX12_slug_0 20 (.ifCond .ne 7) 3 ∧ De bdX12_slug_0 23 (.iconst 2) 1 ∧ De bdX12_slug_0 24 (.goto 4) 3 ∧ De bdX12_slug_0 27 (.iconst 0) 1 ∧ De bdX12_slug_0 28 (.putfield 122) 3 := by decide +kernel
theorem dX12_slug_0 : decode cX12_slug 0 = .ok (.aload_n 0, 1) := dAt wdX12_slug_0 adX12_slug_0.1 rfl
theorem dX12_slug_1 : decode cX12_slug 1 = .ok (.aload_n 0, 1) := dAt wdX12_slug_0 adX12_slug_0.2.1 rfl
theorem dX12_slug_2 : decode cX12_slug 2 = .ok (.iload_n 1, 1) := dAt wdX12_slug_0 adX12_slug_0.2.2.1 rfl
theorem dX12_slug_3 : decode cX12_slug 3 = .ok (.invokevirtual 396, 3) := dAt wdX12_slug_0 adX12_slug_0.2.2.2.1 rfl
theorem dX12_slug_6 : decode cX12_slug 6 = .ok (.ifCond .ne 7, 3) := dAt wdX12_slug_0 adX12_slug_0.2.2.2.2.1 rfl
theorem dX12_slug_9 : decode cX12_slug 9 = .ok (.iconst 1, 1) := dAt wdX12_slug_0 adX12_slug_0.2.2.2.2.2.1 rfl
theorem dX12_slug_10 : decode cX12_slug 10 = .ok (.goto 18, 3) := dAt wdX12_slug_0 adX12_slug_0.2.2.2.2.2.2.1 rfl
theorem dX12_slug_13 : decode cX12_slug 13 = .ok (.iload_n 2, 1) := dAt wdX12_slug_0 adX12_slug_0.2.2.2.2.2.2.2.1 rfl
theorem dX12_slug_14 : decode cX12_slug 14 = .ok (.iconst 0, 1) := dAt wdX12_slug_0 adX12_slug_0.2.2.2.2.2.2.2.2.1 rfl
theorem dX12_slug_15 : decode cX12_slug 15 = .ok (.bipush 9, 2) := dAt wdX12_slug_0 adX12_slug_0.2.2.2.2.2.2.2.2.2.1 rfl
theorem dX12_slug_17 : decode cX12_slug 17 = .ok (.invokestatic 157, 3) := dAt wdX12_slug_0 adX12_slug_0.2.2.2.2.2.2.2.2.2.2.1 rfl
theorem dX12_slug_20 : decode cX12_slug 20 = .ok (.ifCond .ne 7, 3) := dAt wdX12_slug_0 adX12_slug_0.2.2.2.2.2.2.2.2.2.2.2.1 rfl
theorem dX12_slug_23 : decode cX12_slug 23 = .ok (.iconst 2, 1) := dAt wdX12_slug_0 adX12_slug_0.2.2.2.2.2.2.2.2.2.2.2.2.1 rfl
theorem dX12_slug_24 : decode cX12_slug 24 = .ok (.goto 4, 3) := dAt wdX12_slug_0 adX12_slug_0.2.2.2.2.2.2.2.2.2.2.2.2.2.1 rfl
theorem dX12_slug_27 : decode cX12_slug 27 = .ok (.iconst 0, 1) := dAt wdX12_slug_0 adX12_slug_0.2.2.2.2.2.2.2.2.2.2.2.2.2.2.1 rfl
theorem dX12_slug_28 : decode cX12_slug 28 = .ok (.putfield 122, 3) := dAt wdX12_slug_0 adX12_slug_0.2.2.2.2.2.2.2.2.2.2.2.2.2.2.2 rfl
def bdX12_slug_31 : ByteArray := .mk #[42, 180, 0, 122, 158, 0, 5, 3, 172, 27, 184, 1, 86, 62, 28, 16, 8, 160, 0, 17, 42, 27, 182, 1, 143, 153, 0, 7, 4]
theorem wdX12_slug_31 : LocW cX12_slug 31 bdX12_slug_31 := loc_of (by decide +kernel)
theorem adX12_slug_31 : De bdX12_slug_31 0 (.aload_n 0) 1 ∧ De bdX12_slug_31 1 (.getfield 122) 3 ∧ De bdX12_slug_31 4 (.ifCond .le 5) 3 ∧ De bdX12_slug_31 7 (.iconst 0) 1 ∧ De bdX12_slug_31 8 (.ireturn) 1 ∧ De bdX12_slug_31 9 (.iload_n 1) 1 ∧ De bdX12_slug_31 10 (.invokestatic 342) 3 ∧ De bdX12_slug_31 13 (.istore_n 3) 1 ∧ De bdX12_slug_31 14 (.iload_n 2) 1 ∧ De bdX12_slug_31 15 (.bipush 8) 2 ∧ De bdX12_slug_31 17 (.if_icmp .ne 17) 3 ∧ De bdX12_slug_31 20 (.aload_n 0) 1 ∧ De bdX12_slug_31 21 (.iload_n 1) 1 ∧ De bdX12_slug_31 22 (.invokevirtual 399) 3 ∧ De bdX12_slug_31 25 (.ifCond .eq 7) 3 ∧ De bdX12_slug_31 28 (.iconst 1) 1 := by decide +kernel
theorem dX12_slug_31 : decode cX12_slug 31 = .ok (.aload_n 0, 1) := dAt wdX12_slug_31 adX12_slug_31.1 rfl
theorem dX12_slug_32 : decode cX12_slug 32 = .ok (.getfield 122, 3) := dAt wdX12_slug_31 adX12_slug_31.2.1 rfl
theorem dX12_slug_35 : decode cX12_slug 35 = .ok (.ifCond .le 5, 3) := dAt wdX12_slug_31 adX12_slug_31.2.2.1 rfl
theorem dX12_slug_38 : decode cX12_slug 38 = .ok (.iconst 0, 1) := dAt wdX12_slug_31 adX12_slug_31.2.2.2.1 rfl
theorem dX12_slug_39 : decode cX12_slug 39 = .ok (.ireturn, 1) := dAt wdX12_slug_31 adX12_slug_31.2.2.2.2.1 rfl
theorem dX12_slug_40 : decode cX12_slug 40 = .ok (.iload_n 1, 1) := dAt wdX12_slug_31 adX12_slug_31.2.2.2.2.2.1 rfl
theorem dX12_slug_41 : decode cX12_slug 41 = .ok (.invokestatic 342, 3) := dAt wdX12_slug_31 adX12_slug_31.2.2.2.2.2.2.1 rfl
theorem dX12_slug_44 : decode cX12_slug 44 = .ok (.istore_n 3, 1) := dAt wdX12_slug_31 adX12_slug_31.2.2.2.2.2.2.2.1 rfl
theorem dX12_slug_45 : decode cX12_slug 45 = .ok (.iload_n 2, 1) := dAt wdX12_slug_31 adX12_slug_31.2.2.2.2.2.2.2.2.1 rfl
theorem dX12_slug_46 : decode cX12_slug 46 = .ok (.bipush 8, 2) := dAt wdX12_slug_31 adX12_slug_31.2.2.2.2.2.2.2.2.2.1 rfl
theorem dX12_slug_48 : decode cX12_slug 48 = .ok (.if_icmp .ne 17, 3) := dAt wdX12_slug_31 adX12_slug_31.2.2.2.2.2.2.2.2.2.2.1 rfl
theorem dX12_slug_51 : decode cX12_slug 51 = .ok (.aload_n 0, 1) := dAt wdX12_slug_31 adX12_slug_31.2.2.2.2.2.2.2.2.2.2.2.1 rfl
theorem dX12_slug_52 : decode cX12_slug 52 = .ok (.iload_n 1, 1) := dAt wdX12_slug_31 adX12_slug_31.2.2.2.2.2.2.2.2.2.2.2.2.1 rfl
theorem dX12_slug_53 : decode cX12_slug 53 = .ok (.invokevirtual 399, 3) := dAt wdX12_slug_31 adX12_slug_31.2.2.2.2.2.2.2.2.2.2.2.2.2.1 rfl
theorem dX12_slug_56 : decode cX12_slug 56 = .ok (.ifCond .eq 7, 3) := dAt wdX12_slug_31 adX12_slug_31.2.2.2.2.2.2.2.2.2.2.2.2.2.2.1 rfl
theorem dX12_slug_59 : decode cX12_slug 59 = .ok (.iconst 1, 1) := dAt wdX12_slug_31 adX12_slug_31.2.2.2.2.2.2.2.2.2.2.2.2.2.2.2 rfl
def bdX12_slug_60 : ByteArray := .mk #[167, 0, 4, 3, 172, 28, 8, 162, 0, 14, 42, 180, 0, 8, 29, 28, 96, 46, 167, 0, 64, 28, 8, 160, 0, 14]
theorem wdX12_slug_60 : LocW cX12_slug 60 bdX12_slug_60 := loc_of (by decide +kernel)
theorem adX12_slug_60 : De bdX12_slug_60 0 (.goto 4) 3 ∧ De bdX12_slug_60 3 (.iconst 0) 1 ∧ De bdX12_slug_60 4 (.ireturn) 1 ∧ De bdX12_slug_60 5 (.iload_n 2) 1 ∧ De bdX12_slug_60 6 (.iconst 5) 1 ∧ De bdX12_slug_60 7 (.if_icmp .ge 14) 3 ∧ De bdX12_slug_60 10 (.aload_n 0) 1 ∧ De bdX12_slug_60 11 (.getfield 8) 3 ∧ De bdX12_slug_60 14 (.iload_n 3) 1 ∧ De bdX12_slug_60 15 (.iload_n 2) 1 ∧ De bdX12_slug_60 16 (.iadd) 1 ∧ De bdX12_slug_60 17 (.iaload) 1 ∧ De bdX12_slug_60 18 (.goto 64) 3 ∧ De bdX12_slug_60 21 (.iload_n 2) 1 ∧ De bdX12_slug_60 22 (.iconst 5) 1 ∧ De bdX12_slug_60 23 (.if_icmp .ne 14) 3 := by decide +kernel
theorem dX12_slug_60 : decode cX12_slug 60 = .ok (.goto 4, 3) := dAt wdX12_slug_60 adX12_slug_60.1 rfl
theorem dX12_slug_63 : decode cX12_slug 63 = .ok (.iconst 0, 1) := dAt wdX12_slug_60 adX12_slug_60.2.1 rfl
theorem dX12_slug_64 : decode cX12_slug 64 = .ok (.ireturn, 1) := dAt wdX12_slug_60 adX12_slug_60.2.2.1 rfl
theorem dX12_slug_65 : decode cX12_slug 65 = .ok (.iload_n 2, 1) := dAt wdX12_slug_60 adX12_slug_60.2.2.2.1 rfl
theorem dX12_slug_66 : decode cX12_slug 66 = .ok (.iconst 5, 1) := dAt wdX12_slug_60 adX12_slug_60.2.2.2.2.1 rfl
theorem dX12_slug_67 : decode cX12_slug 67 = .ok (.if_icmp .ge 14, 3) := dAt wdX12_slug_60 adX12_slug_60.2.2.2.2.2.1 rfl
theorem dX12_slug_70 : decode cX12_slug 70 = .ok (.aload_n 0, 1) := dAt wdX12_slug_60 adX12_slug_60.2.2.2.2.2.2.1 rfl
theorem dX12_slug_71 : decode cX12_slug 71 = .ok (.getfield 8, 3) := dAt wdX12_slug_60 adX12_slug_60.2.2.2.2.2.2.2.1 rfl
theorem dX12_slug_74 : decode cX12_slug 74 = .ok (.iload_n 3, 1) := dAt wdX12_slug_60 adX12_slug_60.2.2.2.2.2.2.2.2.1 rfl
theorem dX12_slug_75 : decode cX12_slug 75 = .ok (.iload_n 2, 1) := dAt wdX12_slug_60 adX12_slug_60.2.2.2.2.2.2.2.2.2.1 rfl
theorem dX12_slug_76 : decode cX12_slug 76 = .ok (.iadd, 1) := dAt wdX12_slug_60 adX12_slug_60.2.2.2.2.2.2.2.2.2.2.1 rfl
theorem dX12_slug_77 : decode cX12_slug 77 = .ok (.iaload, 1) := dAt wdX12_slug_60 adX12_slug_60.2.2.2.2.2.2.2.2.2.2.2.1 rfl
theorem dX12_slug_78 : decode cX12_slug 78 = .ok (.goto 64, 3) := dAt wdX12_slug_60 adX12_slug_60.2.2.2.2.2.2.2.2.2.2.2.2.1 rfl
theorem dX12_slug_81 : decode cX12_slug 81 = .ok (.iload_n 2, 1) := dAt wdX12_slug_60 adX12_slug_60.2.2.2.2.2.2.2.2.2.2.2.2.2.1 rfl
theorem dX12_slug_82 : decode cX12_slug 82 = .ok (.iconst 5, 1) := dAt wdX12_slug_60 adX12_slug_60.2.2.2.2.2.2.2.2.2.2.2.2.2.2.1 rfl
theorem dX12_slug_83 : decode cX12_slug 83 = .ok (.if_icmp .ne 14, 3) := dAt wdX12_slug_60 adX12_slug_60.2.2.2.2.2.2.2.2.2.2.2.2.2.2.2 rfl
def bdX12_slug_86 : ByteArray := .mk #[42, 180, 0, 8, 29, 8, 96, 46, 167, 0, 48, 28, 16, 6, 160, 0, 15, 42, 180, 0, 8, 29, 16, 6, 96, 46]
theorem wdX12_slug_86 : LocW cX12_slug 86 bdX12_slug_86 := loc_of (by decide +kernel)
theorem adX12_slug_86 : De bdX12_slug_86 0 (.aload_n 0) 1 ∧ De bdX12_slug_86 1 (.getfield 8) 3 ∧ De bdX12_slug_86 4 (.iload_n 3) 1 ∧ De bdX12_slug_86 5 (.iconst 5) 1 ∧ De bdX12_slug_86 6 (.iadd) 1 ∧ De bdX12_slug_86 7 (.iaload) 1 ∧ De bdX12_slug_86 8 (.goto 48) 3 ∧ De bdX12_slug_86 11 (.iload_n 2) 1 ∧ De bdX12_slug_86 12 (.bipush 6) 2 ∧ De bdX12_slug_86 14 (.if_icmp .ne 15) 3 ∧ De bdX12_slug_86 17 (.aload_n 0) 1 ∧ De bdX12_slug_86 18 (.getfield 8) 3 ∧ De bdX12_slug_86 21 (.iload_n 3) 1 ∧ De bdX12_slug_86 22 (.bipush 6) 2 ∧ De bdX12_slug_86 24 (.iadd) 1 ∧ De bdX12_slug_86 25 (.iaload) 1 := by decide +kernel
theorem dX12_slug_86 : decode cX12_slug 86 = .ok (.aload_n 0, 1) := dAt wdX12_slug_86 adX12_slug_86.1 rfl
theorem dX12_slug_87 : decode cX12_slug 87 = .ok (.getfield 8, 3) := dAt wdX12_slug_86 adX12_slug_86.2.1 rfl
theorem dX12_slug_90 : decode cX12_slug 90 = .ok (.iload_n 3, 1) := dAt wdX12_slug_86 adX12_slug_86.2.2.1 rfl
theorem dX12_slug_91 : decode cX12_slug 91 = .ok (.iconst 5, 1) := dAt wdX12_slug_86 adX12_slug_86.2.2.2.1 rfl
theorem dX12_slug_92 : decode cX12_slug 92 = .ok (.iadd, 1) := dAt wdX12_slug_86 adX12_slug_86.2.2.2.2.1 rfl
theorem dX12_slug_93 : decode cX12_slug 93 = .ok (.iaload, 1) := dAt wdX12_slug_86 adX12_slug_86.2.2.2.2.2.1 rfl
theorem dX12_slug_94 : decode cX12_slug 94 = .ok (.goto 48, 3) := dAt wdX12_slug_86 adX12_slug_86.2.2.2.2.2.2.1 rfl
theorem dX12_slug_97 : decode cX12_slug 97 = .ok (.iload_n 2, 1) := dAt wdX12_slug_86 adX12_slug_86.2.2.2.2.2.2.2.1 rfl
theorem dX12_slug_98 : decode cX12_slug 98 = .ok (.bipush 6, 2) := dAt wdX12_slug_86 adX12_slug_86.2.2.2.2.2.2.2.2.1 rfl
theorem dX12_slug_100 : decode cX12_slug 100 = .ok (.if_icmp .ne 15, 3) := dAt wdX12_slug_86 adX12_slug_86.2.2.2.2.2.2.2.2.2.1 rfl
theorem dX12_slug_103 : decode cX12_slug 103 = .ok (.aload_n 0, 1) := dAt wdX12_slug_86 adX12_slug_86.2.2.2.2.2.2.2.2.2.2.1 rfl
theorem dX12_slug_104 : decode cX12_slug 104 = .ok (.getfield 8, 3) := dAt wdX12_slug_86 adX12_slug_86.2.2.2.2.2.2.2.2.2.2.2.1 rfl
theorem dX12_slug_107 : decode cX12_slug 107 = .ok (.iload_n 3, 1) := dAt wdX12_slug_86 adX12_slug_86.2.2.2.2.2.2.2.2.2.2.2.2.1 rfl
theorem dX12_slug_108 : decode cX12_slug 108 = .ok (.bipush 6, 2) := dAt wdX12_slug_86 adX12_slug_86.2.2.2.2.2.2.2.2.2.2.2.2.2.1 rfl
theorem dX12_slug_110 : decode cX12_slug 110 = .ok (.iadd, 1) := dAt wdX12_slug_86 adX12_slug_86.2.2.2.2.2.2.2.2.2.2.2.2.2.2.1 rfl
theorem dX12_slug_111 : decode cX12_slug 111 = .ok (.iaload, 1) := dAt wdX12_slug_86 adX12_slug_86.2.2.2.2.2.2.2.2.2.2.2.2.2.2.2 rfl
def bdX12_slug_112 : ByteArray := .mk #[167, 0, 30, 28, 16, 7, 160, 0, 15, 42, 180, 0, 8, 29, 16, 7, 96, 46, 167, 0, 12, 42, 180, 0, 8, 29, 16, 8, 96]
theorem wdX12_slug_112 : LocW cX12_slug 112 bdX12_slug_112 := loc_of (by decide +kernel)
theorem adX12_slug_112 : De bdX12_slug_112 0 (.goto 30) 3 ∧ De bdX12_slug_112 3 (.iload_n 2) 1 ∧ De bdX12_slug_112 4 (.bipush 7) 2 ∧ De bdX12_slug_112 6 (.if_icmp .ne 15) 3 ∧ De bdX12_slug_112 9 (.aload_n 0) 1 ∧ De bdX12_slug_112 10 (.getfield 8) 3 ∧ De bdX12_slug_112 13 (.iload_n 3) 1 ∧ De bdX12_slug_112 14 (.bipush 7) 2 ∧ De bdX12_slug_112 16 (.iadd) 1 ∧ De bdX12_slug_112 17 (.iaload) 1 ∧ De bdX12_slug_112 18 (.goto 12) 3 ∧ De bdX12_slug_112 21 (.aload_n 0) 1 ∧ De bdX12_slug_112 22 (.getfield 8) 3 ∧ De bdX12_slug_112 25 (.iload_n 3) 1 ∧ De bdX12_slug_112 26 (.bipush 8) 2 ∧ De bdX12_slug_112 28 (.iadd) 1 := by decide +kernel
theorem dX12_slug_112 : decode cX12_slug 112 = .ok (.goto 30, 3) := dAt wdX12_slug_112 adX12_slug_112.1 rfl
theorem dX12_slug_115 : decode cX12_slug 115 = .ok (.iload_n 2, 1) := dAt wdX12_slug_112 adX12_slug_112.2.1 rfl
theorem dX12_slug_116 : decode cX12_slug 116 = .ok (.bipush 7, 2) := dAt wdX12_slug_112 adX12_slug_112.2.2.1 rfl
theorem dX12_slug_118 : decode cX12_slug 118 = .ok (.if_icmp .ne 15, 3) := dAt wdX12_slug_112 adX12_slug_112.2.2.2.1 rfl
theorem dX12_slug_121 : decode cX12_slug 121 = .ok (.aload_n 0, 1) := dAt wdX12_slug_112 adX12_slug_112.2.2.2.2.1 rfl
theorem dX12_slug_122 : decode cX12_slug 122 = .ok (.getfield 8, 3) := dAt wdX12_slug_112 adX12_slug_112.2.2.2.2.2.1 rfl
theorem dX12_slug_125 : decode cX12_slug 125 = .ok (.iload_n 3, 1) := dAt wdX12_slug_112 adX12_slug_112.2.2.2.2.2.2.1 rfl
theorem dX12_slug_126 : decode cX12_slug 126 = .ok (.bipush 7, 2) := dAt wdX12_slug_112 adX12_slug_112.2.2.2.2.2.2.2.1 rfl
theorem dX12_slug_128 : decode cX12_slug 128 = .ok (.iadd, 1) := dAt wdX12_slug_112 adX12_slug_112.2.2.2.2.2.2.2.2.1 rfl
theorem dX12_slug_129 : decode cX12_slug 129 = .ok (.iaload, 1) := dAt wdX12_slug_112 adX12_slug_112.2.2.2.2.2.2.2.2.2.1 rfl
theorem dX12_slug_130 : decode cX12_slug 130 = .ok (.goto 12, 3) := dAt wdX12_slug_112 adX12_slug_112.2.2.2.2.2.2.2.2.2.2.1 rfl
theorem dX12_slug_133 : decode cX12_slug 133 = .ok (.aload_n 0, 1) := dAt wdX12_slug_112 adX12_slug_112.2.2.2.2.2.2.2.2.2.2.2.1 rfl
theorem dX12_slug_134 : decode cX12_slug 134 = .ok (.getfield 8, 3) := dAt wdX12_slug_112 adX12_slug_112.2.2.2.2.2.2.2.2.2.2.2.2.1 rfl
theorem dX12_slug_137 : decode cX12_slug 137 = .ok (.iload_n 3, 1) := dAt wdX12_slug_112 adX12_slug_112.2.2.2.2.2.2.2.2.2.2.2.2.2.1 rfl
theorem dX12_slug_138 : decode cX12_slug 138 = .ok (.bipush 8, 2) := dAt wdX12_slug_112 adX12_slug_112.2.2.2.2.2.2.2.2.2.2.2.2.2.2.1 rfl
theorem dX12_slug_140 : decode cX12_slug 140 = .ok (.iadd, 1) := dAt wdX12_slug_112 adX12_slug_112.2.2.2.2.2.2.2.2.2.2.2.2.2.2.2 rfl
def bdX12_slug_141 : ByteArray := .mk #[46, 172]
theorem wdX12_slug_141 : LocW cX12_slug 141 bdX12_slug_141 := loc_of (by decide +kernel)
theorem adX12_slug_141 : De bdX12_slug_141 0 (.iaload) 1 ∧ De bdX12_slug_141 1 (.ireturn) 1 := by decide +kernel
theorem dX12_slug_141 : decode cX12_slug 141 = .ok (.iaload, 1) := dAt wdX12_slug_141 adX12_slug_141.1 rfl
theorem dX12_slug_142 : decode cX12_slug 142 = .ok (.ireturn, 1) := dAt wdX12_slug_141 adX12_slug_141.2 rfl
def bdX12_says_0 : ByteArray := .mk #[42, 42, 27, 182, 1, 140, 154, 0, 7, 4, 167, 0, 4, 3, 181, 0, 122, 42, 180, 0, 122, 158, 0, 5, 3, 172, 28, 3]
theorem wdX12_says_0 : LocW cX12_says 0 bdX12_says_0 := loc_of (by decide +kernel)
theorem adX12_says_0 : De bdX12_says_0 0 (.aload_n 0) 1 ∧ De bdX12_says_0 1 (.aload_n 0) 1 ∧ De bdX12_says_0 2 (.iload_n 1) 1 ∧ De bdX12_says_0 3 (.invokevirtual 396) 3 ∧ De bdX12_says_0 6 (.ifCond .ne 7) 3 ∧ De bdX12_says_0 9 (.iconst 1) 1 ∧ De bdX12_says_0 10 (.goto 4) 3 ∧ De bdX12_says_0 13 (.iconst 0) 1 ∧ De bdX12_says_0 14 (.putfield 122) 3 ∧ De bdX12_says_0 17 (.aload_n 0) 1 ∧ De bdX12_says_0 18 (.getfield 122) 3 ∧ De bdX12_says_0 21 (.ifCond .le 5) 3 ∧ De bdX12_says_0 24 (.iconst 0) 1 ∧ De bdX12_says_0 25 (.ireturn) 1 ∧ De bdX12_says_0 26 (.iload_n 2) 1 ∧ De bdX12_says_0 27 (.iconst 0) 1 := by decide +kernel
theorem dX12_says_0 : decode cX12_says 0 = .ok (.aload_n 0, 1) := dAt wdX12_says_0 adX12_says_0.1 rfl
theorem dX12_says_1 : decode cX12_says 1 = .ok (.aload_n 0, 1) := dAt wdX12_says_0 adX12_says_0.2.1 rfl
theorem dX12_says_2 : decode cX12_says 2 = .ok (.iload_n 1, 1) := dAt wdX12_says_0 adX12_says_0.2.2.1 rfl
theorem dX12_says_3 : decode cX12_says 3 = .ok (.invokevirtual 396, 3) := dAt wdX12_says_0 adX12_says_0.2.2.2.1 rfl
theorem dX12_says_6 : decode cX12_says 6 = .ok (.ifCond .ne 7, 3) := dAt wdX12_says_0 adX12_says_0.2.2.2.2.1 rfl
theorem dX12_says_9 : decode cX12_says 9 = .ok (.iconst 1, 1) := dAt wdX12_says_0 adX12_says_0.2.2.2.2.2.1 rfl
theorem dX12_says_10 : decode cX12_says 10 = .ok (.goto 4, 3) := dAt wdX12_says_0 adX12_says_0.2.2.2.2.2.2.1 rfl
theorem dX12_says_13 : decode cX12_says 13 = .ok (.iconst 0, 1) := dAt wdX12_says_0 adX12_says_0.2.2.2.2.2.2.2.1 rfl
theorem dX12_says_14 : decode cX12_says 14 = .ok (.putfield 122, 3) := dAt wdX12_says_0 adX12_says_0.2.2.2.2.2.2.2.2.1 rfl
theorem dX12_says_17 : decode cX12_says 17 = .ok (.aload_n 0, 1) := dAt wdX12_says_0 adX12_says_0.2.2.2.2.2.2.2.2.2.1 rfl
theorem dX12_says_18 : decode cX12_says 18 = .ok (.getfield 122, 3) := dAt wdX12_says_0 adX12_says_0.2.2.2.2.2.2.2.2.2.2.1 rfl
theorem dX12_says_21 : decode cX12_says 21 = .ok (.ifCond .le 5, 3) := dAt wdX12_says_0 adX12_says_0.2.2.2.2.2.2.2.2.2.2.2.1 rfl
theorem dX12_says_24 : decode cX12_says 24 = .ok (.iconst 0, 1) := dAt wdX12_says_0 adX12_says_0.2.2.2.2.2.2.2.2.2.2.2.2.1 rfl
theorem dX12_says_25 : decode cX12_says 25 = .ok (.ireturn, 1) := dAt wdX12_says_0 adX12_says_0.2.2.2.2.2.2.2.2.2.2.2.2.2.1 rfl
theorem dX12_says_26 : decode cX12_says 26 = .ok (.iload_n 2, 1) := dAt wdX12_says_0 adX12_says_0.2.2.2.2.2.2.2.2.2.2.2.2.2.2.1 rfl
theorem dX12_says_27 : decode cX12_says 27 = .ok (.iconst 0, 1) := dAt wdX12_says_0 adX12_says_0.2.2.2.2.2.2.2.2.2.2.2.2.2.2.2 rfl
def bdX12_says_28 : ByteArray := .mk #[42, 180, 0, 8, 27, 184, 1, 86, 16, 9, 96, 46, 4, 100, 184, 0, 157, 153, 0, 21, 42, 180, 0, 8, 27, 184, 1, 86, 17, 1, 176]
theorem wdX12_says_28 : LocW cX12_says 28 bdX12_says_28 := loc_of (by decide +kernel)
theorem adX12_says_28 : De bdX12_says_28 0 (.aload_n 0) 1 ∧ De bdX12_says_28 1 (.getfield 8) 3 ∧ De bdX12_says_28 4 (.iload_n 1) 1 ∧ De bdX12_says_28 5 (.invokestatic 342) 3 ∧ De bdX12_says_28 8 (.bipush 9) 2 ∧ De bdX12_says_28 10 (.iadd) 1 ∧ De bdX12_says_28 11 (.iaload) 1 ∧ De bdX12_says_28 12 (.iconst 1) 1 ∧ De bdX12_says_28 13 (.isub) 1 ∧ De bdX12_says_28 14 (.invokestatic 157) 3 ∧ De bdX12_says_28 17 (.ifCond .eq 21) 3 ∧ De bdX12_says_28 20 (.aload_n 0) 1 ∧ De bdX12_says_28 21 (.getfield 8) 3 ∧ De bdX12_says_28 24 (.iload_n 1) 1 ∧ De bdX12_says_28 25 (.invokestatic 342) 3 ∧ De bdX12_says_28 28 (.sipush 432) 3 := by decide +kernel
theorem dX12_says_28 : decode cX12_says 28 = .ok (.aload_n 0, 1) := dAt wdX12_says_28 adX12_says_28.1 rfl
theorem dX12_says_29 : decode cX12_says 29 = .ok (.getfield 8, 3) := dAt wdX12_says_28 adX12_says_28.2.1 rfl
theorem dX12_says_32 : decode cX12_says 32 = .ok (.iload_n 1, 1) := dAt wdX12_says_28 adX12_says_28.2.2.1 rfl
theorem dX12_says_33 : decode cX12_says 33 = .ok (.invokestatic 342, 3) := dAt wdX12_says_28 adX12_says_28.2.2.2.1 rfl
theorem dX12_says_36 : decode cX12_says 36 = .ok (.bipush 9, 2) := dAt wdX12_says_28 adX12_says_28.2.2.2.2.1 rfl
theorem dX12_says_38 : decode cX12_says 38 = .ok (.iadd, 1) := dAt wdX12_says_28 adX12_says_28.2.2.2.2.2.1 rfl
theorem dX12_says_39 : decode cX12_says 39 = .ok (.iaload, 1) := dAt wdX12_says_28 adX12_says_28.2.2.2.2.2.2.1 rfl
theorem dX12_says_40 : decode cX12_says 40 = .ok (.iconst 1, 1) := dAt wdX12_says_28 adX12_says_28.2.2.2.2.2.2.2.1 rfl
theorem dX12_says_41 : decode cX12_says 41 = .ok (.isub, 1) := dAt wdX12_says_28 adX12_says_28.2.2.2.2.2.2.2.2.1 rfl
theorem dX12_says_42 : decode cX12_says 42 = .ok (.invokestatic 157, 3) := dAt wdX12_says_28 adX12_says_28.2.2.2.2.2.2.2.2.2.1 rfl
theorem dX12_says_45 : decode cX12_says 45 = .ok (.ifCond .eq 21, 3) := dAt wdX12_says_28 adX12_says_28.2.2.2.2.2.2.2.2.2.2.1 rfl
theorem dX12_says_48 : decode cX12_says 48 = .ok (.aload_n 0, 1) := dAt wdX12_says_28 adX12_says_28.2.2.2.2.2.2.2.2.2.2.2.1 rfl
theorem dX12_says_49 : decode cX12_says 49 = .ok (.getfield 8, 3) := dAt wdX12_says_28 adX12_says_28.2.2.2.2.2.2.2.2.2.2.2.2.1 rfl
theorem dX12_says_52 : decode cX12_says 52 = .ok (.iload_n 1, 1) := dAt wdX12_says_28 adX12_says_28.2.2.2.2.2.2.2.2.2.2.2.2.2.1 rfl
theorem dX12_says_53 : decode cX12_says 53 = .ok (.invokestatic 342, 3) := dAt wdX12_says_28 adX12_says_28.2.2.2.2.2.2.2.2.2.2.2.2.2.2.1 rfl
theorem dX12_says_56 : decode cX12_says 56 = .ok (.sipush 432, 3) := dAt wdX12_says_28 adX12_says_28.2.2.2.2.2.2.2.2.2.2.2.2.2.2.2 rfl
def bdX12_says_59 : ByteArray := .mk #[96, 28, 96, 46, 167, 0, 4, 2, 172]
theorem wdX12_says_59 : LocW cX12_says 59 bdX12_says_59 := loc_of (by decide +kernel)
theorem adX12_says_59 : De bdX12_says_59 0 (.iadd) 1 ∧ De bdX12_says_59 1 (.iload_n 2) 1 ∧ De bdX12_says_59 2 (.iadd) 1 ∧ De bdX12_says_59 3 (.iaload) 1 ∧ De bdX12_says_59 4 (.goto 4) 3 ∧ De bdX12_says_59 7 (.iconst (-1)) 1 ∧ De bdX12_says_59 8 (.ireturn) 1 := by decide +kernel
theorem dX12_says_59 : decode cX12_says 59 = .ok (.iadd, 1) := dAt wdX12_says_59 adX12_says_59.1 rfl
theorem dX12_says_60 : decode cX12_says 60 = .ok (.iload_n 2, 1) := dAt wdX12_says_59 adX12_says_59.2.1 rfl
theorem dX12_says_61 : decode cX12_says 61 = .ok (.iadd, 1) := dAt wdX12_says_59 adX12_says_59.2.2.1 rfl
theorem dX12_says_62 : decode cX12_says 62 = .ok (.iaload, 1) := dAt wdX12_says_59 adX12_says_59.2.2.2.1 rfl
theorem dX12_says_63 : decode cX12_says 63 = .ok (.goto 4, 3) := dAt wdX12_says_59 adX12_says_59.2.2.2.2.1 rfl
theorem dX12_says_66 : decode cX12_says 66 = .ok (.iconst (-1), 1) := dAt wdX12_says_59 adX12_says_59.2.2.2.2.2.1 rfl
theorem dX12_says_67 : decode cX12_says 67 = .ok (.ireturn, 1) := dAt wdX12_says_59 adX12_says_59.2.2.2.2.2.2 rfl
def bdX12_noPlace_0 : ByteArray := .mk #[27, 184, 0, 164, 62, 42, 180, 0, 8, 29, 6, 96, 46, 154, 0, 7, 5, 167, 0, 26, 28, 3, 42, 180, 0, 8]
theorem wdX12_noPlace_0 : LocW cX12_noPlace 0 bdX12_noPlace_0 := loc_of (by decide +kernel)
theorem adX12_noPlace_0 : De bdX12_noPlace_0 0 (.iload_n 1) 1 ∧ De bdX12_noPlace_0 1 (.invokestatic 164) 3 ∧ De bdX12_noPlace_0 4 (.istore_n 3) 1 ∧ De bdX12_noPlace_0 5 (.aload_n 0) 1 ∧ De bdX12_noPlace_0 6 (.getfield 8) 3 ∧ De bdX12_noPlace_0 9 (.iload_n 3) 1 ∧ De bdX12_noPlace_0 10 (.iconst 3) 1 ∧ De bdX12_noPlace_0 11 (.iadd) 1 ∧ De bdX12_noPlace_0 12 (.iaload) 1 ∧ De bdX12_noPlace_0 13 (.ifCond .ne 7) 3 ∧ De bdX12_noPlace_0 16 (.iconst 2) 1 ∧ De bdX12_noPlace_0 17 (.goto 26) 3 ∧ De bdX12_noPlace_0 20 (.iload_n 2) 1 ∧ De bdX12_noPlace_0 21 (.iconst 0) 1 ∧ De bdX12_noPlace_0 22 (.aload_n 0) 1 ∧ De bdX12_noPlace_0 23 (.getfield 8) 3 := by decide +kernel
theorem dX12_noPlace_0 : decode cX12_noPlace 0 = .ok (.iload_n 1, 1) := dAt wdX12_noPlace_0 adX12_noPlace_0.1 rfl
theorem dX12_noPlace_1 : decode cX12_noPlace 1 = .ok (.invokestatic 164, 3) := dAt wdX12_noPlace_0 adX12_noPlace_0.2.1 rfl
theorem dX12_noPlace_4 : decode cX12_noPlace 4 = .ok (.istore_n 3, 1) := dAt wdX12_noPlace_0 adX12_noPlace_0.2.2.1 rfl
theorem dX12_noPlace_5 : decode cX12_noPlace 5 = .ok (.aload_n 0, 1) := dAt wdX12_noPlace_0 adX12_noPlace_0.2.2.2.1 rfl
theorem dX12_noPlace_6 : decode cX12_noPlace 6 = .ok (.getfield 8, 3) := dAt wdX12_noPlace_0 adX12_noPlace_0.2.2.2.2.1 rfl
theorem dX12_noPlace_9 : decode cX12_noPlace 9 = .ok (.iload_n 3, 1) := dAt wdX12_noPlace_0 adX12_noPlace_0.2.2.2.2.2.1 rfl
theorem dX12_noPlace_10 : decode cX12_noPlace 10 = .ok (.iconst 3, 1) := dAt wdX12_noPlace_0 adX12_noPlace_0.2.2.2.2.2.2.1 rfl
theorem dX12_noPlace_11 : decode cX12_noPlace 11 = .ok (.iadd, 1) := dAt wdX12_noPlace_0 adX12_noPlace_0.2.2.2.2.2.2.2.1 rfl
theorem dX12_noPlace_12 : decode cX12_noPlace 12 = .ok (.iaload, 1) := dAt wdX12_noPlace_0 adX12_noPlace_0.2.2.2.2.2.2.2.2.1 rfl
theorem dX12_noPlace_13 : decode cX12_noPlace 13 = .ok (.ifCond .ne 7, 3) := dAt wdX12_noPlace_0 adX12_noPlace_0.2.2.2.2.2.2.2.2.2.1 rfl
theorem dX12_noPlace_16 : decode cX12_noPlace 16 = .ok (.iconst 2, 1) := dAt wdX12_noPlace_0 adX12_noPlace_0.2.2.2.2.2.2.2.2.2.2.1 rfl
theorem dX12_noPlace_17 : decode cX12_noPlace 17 = .ok (.goto 26, 3) := dAt wdX12_noPlace_0 adX12_noPlace_0.2.2.2.2.2.2.2.2.2.2.2.1 rfl
theorem dX12_noPlace_20 : decode cX12_noPlace 20 = .ok (.iload_n 2, 1) := dAt wdX12_noPlace_0 adX12_noPlace_0.2.2.2.2.2.2.2.2.2.2.2.2.1 rfl
theorem dX12_noPlace_21 : decode cX12_noPlace 21 = .ok (.iconst 0, 1) := dAt wdX12_noPlace_0 adX12_noPlace_0.2.2.2.2.2.2.2.2.2.2.2.2.2.1 rfl
theorem dX12_noPlace_22 : decode cX12_noPlace 22 = .ok (.aload_n 0, 1) := dAt wdX12_noPlace_0 adX12_noPlace_0.2.2.2.2.2.2.2.2.2.2.2.2.2.2.1 rfl
theorem dX12_noPlace_23 : decode cX12_noPlace 23 = .ok (.getfield 8, 3) := dAt wdX12_noPlace_0 adX12_noPlace_0.2.2.2.2.2.2.2.2.2.2.2.2.2.2.2 rfl
def bdX12_noPlace_26 : ByteArray := .mk #[29, 7, 96, 46, 4, 100, 184, 0, 157, 154, 0, 7, 4, 167, 0, 4, 3, 172]
theorem wdX12_noPlace_26 : LocW cX12_noPlace 26 bdX12_noPlace_26 := loc_of (by decide +kernel)
theorem adX12_noPlace_26 : De bdX12_noPlace_26 0 (.iload_n 3) 1 ∧ De bdX12_noPlace_26 1 (.iconst 4) 1 ∧ De bdX12_noPlace_26 2 (.iadd) 1 ∧ De bdX12_noPlace_26 3 (.iaload) 1 ∧ De bdX12_noPlace_26 4 (.iconst 1) 1 ∧ De bdX12_noPlace_26 5 (.isub) 1 ∧ De bdX12_noPlace_26 6 (.invokestatic 157) 3 ∧ De bdX12_noPlace_26 9 (.ifCond .ne 7) 3 ∧ De bdX12_noPlace_26 12 (.iconst 1) 1 ∧ De bdX12_noPlace_26 13 (.goto 4) 3 ∧ De bdX12_noPlace_26 16 (.iconst 0) 1 ∧ De bdX12_noPlace_26 17 (.ireturn) 1 := by decide +kernel
theorem dX12_noPlace_26 : decode cX12_noPlace 26 = .ok (.iload_n 3, 1) := dAt wdX12_noPlace_26 adX12_noPlace_26.1 rfl
theorem dX12_noPlace_27 : decode cX12_noPlace 27 = .ok (.iconst 4, 1) := dAt wdX12_noPlace_26 adX12_noPlace_26.2.1 rfl
theorem dX12_noPlace_28 : decode cX12_noPlace 28 = .ok (.iadd, 1) := dAt wdX12_noPlace_26 adX12_noPlace_26.2.2.1 rfl
theorem dX12_noPlace_29 : decode cX12_noPlace 29 = .ok (.iaload, 1) := dAt wdX12_noPlace_26 adX12_noPlace_26.2.2.2.1 rfl
theorem dX12_noPlace_30 : decode cX12_noPlace 30 = .ok (.iconst 1, 1) := dAt wdX12_noPlace_26 adX12_noPlace_26.2.2.2.2.1 rfl
theorem dX12_noPlace_31 : decode cX12_noPlace 31 = .ok (.isub, 1) := dAt wdX12_noPlace_26 adX12_noPlace_26.2.2.2.2.2.1 rfl
theorem dX12_noPlace_32 : decode cX12_noPlace 32 = .ok (.invokestatic 157, 3) := dAt wdX12_noPlace_26 adX12_noPlace_26.2.2.2.2.2.2.1 rfl
theorem dX12_noPlace_35 : decode cX12_noPlace 35 = .ok (.ifCond .ne 7, 3) := dAt wdX12_noPlace_26 adX12_noPlace_26.2.2.2.2.2.2.2.1 rfl
theorem dX12_noPlace_38 : decode cX12_noPlace 38 = .ok (.iconst 1, 1) := dAt wdX12_noPlace_26 adX12_noPlace_26.2.2.2.2.2.2.2.2.1 rfl
theorem dX12_noPlace_39 : decode cX12_noPlace 39 = .ok (.goto 4, 3) := dAt wdX12_noPlace_26 adX12_noPlace_26.2.2.2.2.2.2.2.2.2.1 rfl
theorem dX12_noPlace_42 : decode cX12_noPlace 42 = .ok (.iconst 0, 1) := dAt wdX12_noPlace_26 adX12_noPlace_26.2.2.2.2.2.2.2.2.2.2.1 rfl
theorem dX12_noPlace_43 : decode cX12_noPlace 43 = .ok (.ireturn, 1) := dAt wdX12_noPlace_26 adX12_noPlace_26.2.2.2.2.2.2.2.2.2.2.2 rfl
def bdX12_lies_0 : ByteArray := .mk #[42, 42, 27, 182, 1, 55, 154, 0, 7, 4, 167, 0, 9, 42, 27, 28, 182, 1, 146, 181, 0, 122, 42, 180, 0, 122, 158, 0, 5, 3]
theorem wdX12_lies_0 : LocW cX12_lies 0 bdX12_lies_0 := loc_of (by decide +kernel)
theorem adX12_lies_0 : De bdX12_lies_0 0 (.aload_n 0) 1 ∧ De bdX12_lies_0 1 (.aload_n 0) 1 ∧ De bdX12_lies_0 2 (.iload_n 1) 1 ∧ De bdX12_lies_0 3 (.invokevirtual 311) 3 ∧ De bdX12_lies_0 6 (.ifCond .ne 7) 3 ∧ De bdX12_lies_0 9 (.iconst 1) 1 ∧ De bdX12_lies_0 10 (.goto 9) 3 ∧ De bdX12_lies_0 13 (.aload_n 0) 1 ∧ De bdX12_lies_0 14 (.iload_n 1) 1 ∧ De bdX12_lies_0 15 (.iload_n 2) 1 ∧ De bdX12_lies_0 16 (.invokevirtual 402) 3 ∧ De bdX12_lies_0 19 (.putfield 122) 3 ∧ De bdX12_lies_0 22 (.aload_n 0) 1 ∧ De bdX12_lies_0 23 (.getfield 122) 3 ∧ De bdX12_lies_0 26 (.ifCond .le 5) 3 ∧ De bdX12_lies_0 29 (.iconst 0) 1 := by decide +kernel
theorem dX12_lies_0 : decode cX12_lies 0 = .ok (.aload_n 0, 1) := dAt wdX12_lies_0 adX12_lies_0.1 rfl
theorem dX12_lies_1 : decode cX12_lies 1 = .ok (.aload_n 0, 1) := dAt wdX12_lies_0 adX12_lies_0.2.1 rfl
theorem dX12_lies_2 : decode cX12_lies 2 = .ok (.iload_n 1, 1) := dAt wdX12_lies_0 adX12_lies_0.2.2.1 rfl
theorem dX12_lies_3 : decode cX12_lies 3 = .ok (.invokevirtual 311, 3) := dAt wdX12_lies_0 adX12_lies_0.2.2.2.1 rfl
theorem dX12_lies_6 : decode cX12_lies 6 = .ok (.ifCond .ne 7, 3) := dAt wdX12_lies_0 adX12_lies_0.2.2.2.2.1 rfl
theorem dX12_lies_9 : decode cX12_lies 9 = .ok (.iconst 1, 1) := dAt wdX12_lies_0 adX12_lies_0.2.2.2.2.2.1 rfl
theorem dX12_lies_10 : decode cX12_lies 10 = .ok (.goto 9, 3) := dAt wdX12_lies_0 adX12_lies_0.2.2.2.2.2.2.1 rfl
theorem dX12_lies_13 : decode cX12_lies 13 = .ok (.aload_n 0, 1) := dAt wdX12_lies_0 adX12_lies_0.2.2.2.2.2.2.2.1 rfl
theorem dX12_lies_14 : decode cX12_lies 14 = .ok (.iload_n 1, 1) := dAt wdX12_lies_0 adX12_lies_0.2.2.2.2.2.2.2.2.1 rfl
theorem dX12_lies_15 : decode cX12_lies 15 = .ok (.iload_n 2, 1) := dAt wdX12_lies_0 adX12_lies_0.2.2.2.2.2.2.2.2.2.1 rfl
theorem dX12_lies_16 : decode cX12_lies 16 = .ok (.invokevirtual 402, 3) := dAt wdX12_lies_0 adX12_lies_0.2.2.2.2.2.2.2.2.2.2.1 rfl
theorem dX12_lies_19 : decode cX12_lies 19 = .ok (.putfield 122, 3) := dAt wdX12_lies_0 adX12_lies_0.2.2.2.2.2.2.2.2.2.2.2.1 rfl
theorem dX12_lies_22 : decode cX12_lies 22 = .ok (.aload_n 0, 1) := dAt wdX12_lies_0 adX12_lies_0.2.2.2.2.2.2.2.2.2.2.2.2.1 rfl
theorem dX12_lies_23 : decode cX12_lies 23 = .ok (.getfield 122, 3) := dAt wdX12_lies_0 adX12_lies_0.2.2.2.2.2.2.2.2.2.2.2.2.2.1 rfl
theorem dX12_lies_26 : decode cX12_lies 26 = .ok (.ifCond .le 5, 3) := dAt wdX12_lies_0 adX12_lies_0.2.2.2.2.2.2.2.2.2.2.2.2.2.2.1 rfl
theorem dX12_lies_29 : decode cX12_lies 29 = .ok (.iconst 0, 1) := dAt wdX12_lies_0 adX12_lies_0.2.2.2.2.2.2.2.2.2.2.2.2.2.2.2 rfl
def bdX12_lies_30 : ByteArray := .mk #[172, 42, 180, 0, 8, 27, 184, 0, 164, 16, 45, 96, 28, 96, 46, 4, 100, 172]
theorem wdX12_lies_30 : LocW cX12_lies 30 bdX12_lies_30 := loc_of (by decide +kernel)
theorem adX12_lies_30 : De bdX12_lies_30 0 (.ireturn) 1 ∧ De bdX12_lies_30 1 (.aload_n 0) 1 ∧ De bdX12_lies_30 2 (.getfield 8) 3 ∧ De bdX12_lies_30 5 (.iload_n 1) 1 ∧ De bdX12_lies_30 6 (.invokestatic 164) 3 ∧ De bdX12_lies_30 9 (.bipush 45) 2 ∧ De bdX12_lies_30 11 (.iadd) 1 ∧ De bdX12_lies_30 12 (.iload_n 2) 1 ∧ De bdX12_lies_30 13 (.iadd) 1 ∧ De bdX12_lies_30 14 (.iaload) 1 ∧ De bdX12_lies_30 15 (.iconst 1) 1 ∧ De bdX12_lies_30 16 (.isub) 1 ∧ De bdX12_lies_30 17 (.ireturn) 1 := by decide +kernel
theorem dX12_lies_30 : decode cX12_lies 30 = .ok (.ireturn, 1) := dAt wdX12_lies_30 adX12_lies_30.1 rfl
theorem dX12_lies_31 : decode cX12_lies 31 = .ok (.aload_n 0, 1) := dAt wdX12_lies_30 adX12_lies_30.2.1 rfl
theorem dX12_lies_32 : decode cX12_lies 32 = .ok (.getfield 8, 3) := dAt wdX12_lies_30 adX12_lies_30.2.2.1 rfl
theorem dX12_lies_35 : decode cX12_lies 35 = .ok (.iload_n 1, 1) := dAt wdX12_lies_30 adX12_lies_30.2.2.2.1 rfl
theorem dX12_lies_36 : decode cX12_lies 36 = .ok (.invokestatic 164, 3) := dAt wdX12_lies_30 adX12_lies_30.2.2.2.2.1 rfl
theorem dX12_lies_39 : decode cX12_lies 39 = .ok (.bipush 45, 2) := dAt wdX12_lies_30 adX12_lies_30.2.2.2.2.2.1 rfl
theorem dX12_lies_41 : decode cX12_lies 41 = .ok (.iadd, 1) := dAt wdX12_lies_30 adX12_lies_30.2.2.2.2.2.2.1 rfl
theorem dX12_lies_42 : decode cX12_lies 42 = .ok (.iload_n 2, 1) := dAt wdX12_lies_30 adX12_lies_30.2.2.2.2.2.2.2.1 rfl
theorem dX12_lies_43 : decode cX12_lies 43 = .ok (.iadd, 1) := dAt wdX12_lies_30 adX12_lies_30.2.2.2.2.2.2.2.2.1 rfl
theorem dX12_lies_44 : decode cX12_lies 44 = .ok (.iaload, 1) := dAt wdX12_lies_30 adX12_lies_30.2.2.2.2.2.2.2.2.2.1 rfl
theorem dX12_lies_45 : decode cX12_lies 45 = .ok (.iconst 1, 1) := dAt wdX12_lies_30 adX12_lies_30.2.2.2.2.2.2.2.2.2.2.1 rfl
theorem dX12_lies_46 : decode cX12_lies 46 = .ok (.isub, 1) := dAt wdX12_lies_30 adX12_lies_30.2.2.2.2.2.2.2.2.2.2.2.1 rfl
theorem dX12_lies_47 : decode cX12_lies 47 = .ok (.ireturn, 1) := dAt wdX12_lies_30 adX12_lies_30.2.2.2.2.2.2.2.2.2.2.2.2 rfl
def bdX12_judge_0 : ByteArray := .mk #[42, 42, 27, 182, 1, 55, 154, 0, 7, 4, 167, 0, 22, 42, 180, 0, 8, 27, 184, 0, 164, 6, 96, 46, 154, 0, 7, 5]
theorem wdX12_judge_0 : LocW cX12_judge 0 bdX12_judge_0 := loc_of (by decide +kernel)
theorem adX12_judge_0 : De bdX12_judge_0 0 (.aload_n 0) 1 ∧ De bdX12_judge_0 1 (.aload_n 0) 1 ∧ De bdX12_judge_0 2 (.iload_n 1) 1 ∧ De bdX12_judge_0 3 (.invokevirtual 311) 3 ∧ De bdX12_judge_0 6 (.ifCond .ne 7) 3 ∧ De bdX12_judge_0 9 (.iconst 1) 1 ∧ De bdX12_judge_0 10 (.goto 22) 3 ∧ De bdX12_judge_0 13 (.aload_n 0) 1 ∧ De bdX12_judge_0 14 (.getfield 8) 3 ∧ De bdX12_judge_0 17 (.iload_n 1) 1 ∧ De bdX12_judge_0 18 (.invokestatic 164) 3 ∧ De bdX12_judge_0 21 (.iconst 3) 1 ∧ De bdX12_judge_0 22 (.iadd) 1 ∧ De bdX12_judge_0 23 (.iaload) 1 ∧ De bdX12_judge_0 24 (.ifCond .ne 7) 3 ∧ De bdX12_judge_0 27 (.iconst 2) 1 := by decide +kernel
theorem dX12_judge_0 : decode cX12_judge 0 = .ok (.aload_n 0, 1) := dAt wdX12_judge_0 adX12_judge_0.1 rfl
theorem dX12_judge_1 : decode cX12_judge 1 = .ok (.aload_n 0, 1) := dAt wdX12_judge_0 adX12_judge_0.2.1 rfl
theorem dX12_judge_2 : decode cX12_judge 2 = .ok (.iload_n 1, 1) := dAt wdX12_judge_0 adX12_judge_0.2.2.1 rfl
theorem dX12_judge_3 : decode cX12_judge 3 = .ok (.invokevirtual 311, 3) := dAt wdX12_judge_0 adX12_judge_0.2.2.2.1 rfl
theorem dX12_judge_6 : decode cX12_judge 6 = .ok (.ifCond .ne 7, 3) := dAt wdX12_judge_0 adX12_judge_0.2.2.2.2.1 rfl
theorem dX12_judge_9 : decode cX12_judge 9 = .ok (.iconst 1, 1) := dAt wdX12_judge_0 adX12_judge_0.2.2.2.2.2.1 rfl
theorem dX12_judge_10 : decode cX12_judge 10 = .ok (.goto 22, 3) := dAt wdX12_judge_0 adX12_judge_0.2.2.2.2.2.2.1 rfl
theorem dX12_judge_13 : decode cX12_judge 13 = .ok (.aload_n 0, 1) := dAt wdX12_judge_0 adX12_judge_0.2.2.2.2.2.2.2.1 rfl
theorem dX12_judge_14 : decode cX12_judge 14 = .ok (.getfield 8, 3) := dAt wdX12_judge_0 adX12_judge_0.2.2.2.2.2.2.2.2.1 rfl
theorem dX12_judge_17 : decode cX12_judge 17 = .ok (.iload_n 1, 1) := dAt wdX12_judge_0 adX12_judge_0.2.2.2.2.2.2.2.2.2.1 rfl
theorem dX12_judge_18 : decode cX12_judge 18 = .ok (.invokestatic 164, 3) := dAt wdX12_judge_0 adX12_judge_0.2.2.2.2.2.2.2.2.2.2.1 rfl
theorem dX12_judge_21 : decode cX12_judge 21 = .ok (.iconst 3, 1) := dAt wdX12_judge_0 adX12_judge_0.2.2.2.2.2.2.2.2.2.2.2.1 rfl
theorem dX12_judge_22 : decode cX12_judge 22 = .ok (.iadd, 1) := dAt wdX12_judge_0 adX12_judge_0.2.2.2.2.2.2.2.2.2.2.2.2.1 rfl
theorem dX12_judge_23 : decode cX12_judge 23 = .ok (.iaload, 1) := dAt wdX12_judge_0 adX12_judge_0.2.2.2.2.2.2.2.2.2.2.2.2.2.1 rfl
theorem dX12_judge_24 : decode cX12_judge 24 = .ok (.ifCond .ne 7, 3) := dAt wdX12_judge_0 adX12_judge_0.2.2.2.2.2.2.2.2.2.2.2.2.2.2.1 rfl
theorem dX12_judge_27 : decode cX12_judge 27 = .ok (.iconst 2, 1) := dAt wdX12_judge_0 adX12_judge_0.2.2.2.2.2.2.2.2.2.2.2.2.2.2.2 rfl
def bdX12_judge_28 : ByteArray := .mk #[167, 0, 4, 3, 181, 0, 122, 42, 180, 0, 122, 158, 0, 5, 3, 172, 3, 61, 28, 42, 180, 0, 8, 27, 184, 0, 164, 7]
theorem wdX12_judge_28 : LocW cX12_judge 28 bdX12_judge_28 := loc_of (by decide +kernel)
theorem adX12_judge_28 : De bdX12_judge_28 0 (.goto 4) 3 ∧ De bdX12_judge_28 3 (.iconst 0) 1 ∧ De bdX12_judge_28 4 (.putfield 122) 3 ∧ De bdX12_judge_28 7 (.aload_n 0) 1 ∧ De bdX12_judge_28 8 (.getfield 122) 3 ∧ De bdX12_judge_28 11 (.ifCond .le 5) 3 ∧ De bdX12_judge_28 14 (.iconst 0) 1 ∧ De bdX12_judge_28 15 (.ireturn) 1 ∧ De bdX12_judge_28 16 (.iconst 0) 1 ∧ De bdX12_judge_28 17 (.istore_n 2) 1 ∧ De bdX12_judge_28 18 (.iload_n 2) 1 ∧ De bdX12_judge_28 19 (.aload_n 0) 1 ∧ De bdX12_judge_28 20 (.getfield 8) 3 ∧ De bdX12_judge_28 23 (.iload_n 1) 1 ∧ De bdX12_judge_28 24 (.invokestatic 164) 3 ∧ De bdX12_judge_28 27 (.iconst 4) 1 := by decide +kernel
theorem dX12_judge_28 : decode cX12_judge 28 = .ok (.goto 4, 3) := dAt wdX12_judge_28 adX12_judge_28.1 rfl
theorem dX12_judge_31 : decode cX12_judge 31 = .ok (.iconst 0, 1) := dAt wdX12_judge_28 adX12_judge_28.2.1 rfl
theorem dX12_judge_32 : decode cX12_judge 32 = .ok (.putfield 122, 3) := dAt wdX12_judge_28 adX12_judge_28.2.2.1 rfl
theorem dX12_judge_35 : decode cX12_judge 35 = .ok (.aload_n 0, 1) := dAt wdX12_judge_28 adX12_judge_28.2.2.2.1 rfl
theorem dX12_judge_36 : decode cX12_judge 36 = .ok (.getfield 122, 3) := dAt wdX12_judge_28 adX12_judge_28.2.2.2.2.1 rfl
theorem dX12_judge_39 : decode cX12_judge 39 = .ok (.ifCond .le 5, 3) := dAt wdX12_judge_28 adX12_judge_28.2.2.2.2.2.1 rfl
theorem dX12_judge_42 : decode cX12_judge 42 = .ok (.iconst 0, 1) := dAt wdX12_judge_28 adX12_judge_28.2.2.2.2.2.2.1 rfl
theorem dX12_judge_43 : decode cX12_judge 43 = .ok (.ireturn, 1) := dAt wdX12_judge_28 adX12_judge_28.2.2.2.2.2.2.2.1 rfl
theorem dX12_judge_44 : decode cX12_judge 44 = .ok (.iconst 0, 1) := dAt wdX12_judge_28 adX12_judge_28.2.2.2.2.2.2.2.2.1 rfl
theorem dX12_judge_45 : decode cX12_judge 45 = .ok (.istore_n 2, 1) := dAt wdX12_judge_28 adX12_judge_28.2.2.2.2.2.2.2.2.2.1 rfl
theorem dX12_judge_46 : decode cX12_judge 46 = .ok (.iload_n 2, 1) := dAt wdX12_judge_28 adX12_judge_28.2.2.2.2.2.2.2.2.2.2.1 rfl
theorem dX12_judge_47 : decode cX12_judge 47 = .ok (.aload_n 0, 1) := dAt wdX12_judge_28 adX12_judge_28.2.2.2.2.2.2.2.2.2.2.2.1 rfl
theorem dX12_judge_48 : decode cX12_judge 48 = .ok (.getfield 8, 3) := dAt wdX12_judge_28 adX12_judge_28.2.2.2.2.2.2.2.2.2.2.2.2.1 rfl
theorem dX12_judge_51 : decode cX12_judge 51 = .ok (.iload_n 1, 1) := dAt wdX12_judge_28 adX12_judge_28.2.2.2.2.2.2.2.2.2.2.2.2.2.1 rfl
theorem dX12_judge_52 : decode cX12_judge 52 = .ok (.invokestatic 164, 3) := dAt wdX12_judge_28 adX12_judge_28.2.2.2.2.2.2.2.2.2.2.2.2.2.2.1 rfl
theorem dX12_judge_55 : decode cX12_judge 55 = .ok (.iconst 4, 1) := dAt wdX12_judge_28 adX12_judge_28.2.2.2.2.2.2.2.2.2.2.2.2.2.2.2 rfl
def bdX12_judge_56 : ByteArray := .mk #[96, 46, 162, 0, 20, 42, 27, 28, 182, 1, 83, 154, 0, 5, 28, 172, 132, 2, 1, 167, 255, 227, 2, 172]
theorem wdX12_judge_56 : LocW cX12_judge 56 bdX12_judge_56 := loc_of (by decide +kernel)
theorem adX12_judge_56 : De bdX12_judge_56 0 (.iadd) 1 ∧ De bdX12_judge_56 1 (.iaload) 1 ∧ De bdX12_judge_56 2 (.if_icmp .ge 20) 3 ∧ De bdX12_judge_56 5 (.aload_n 0) 1 ∧ De bdX12_judge_56 6 (.iload_n 1) 1 ∧ De bdX12_judge_56 7 (.iload_n 2) 1 ∧ De bdX12_judge_56 8 (.invokevirtual 339) 3 ∧ De bdX12_judge_56 11 (.ifCond .ne 5) 3 ∧ De bdX12_judge_56 14 (.iload_n 2) 1 ∧ De bdX12_judge_56 15 (.ireturn) 1 ∧ De bdX12_judge_56 16 (.iinc 2 1) 3 ∧ De bdX12_judge_56 19 (.goto (-29)) 3 ∧ De bdX12_judge_56 22 (.iconst (-1)) 1 ∧ De bdX12_judge_56 23 (.ireturn) 1 := by decide +kernel
theorem dX12_judge_56 : decode cX12_judge 56 = .ok (.iadd, 1) := dAt wdX12_judge_56 adX12_judge_56.1 rfl
theorem dX12_judge_57 : decode cX12_judge 57 = .ok (.iaload, 1) := dAt wdX12_judge_56 adX12_judge_56.2.1 rfl
theorem dX12_judge_58 : decode cX12_judge 58 = .ok (.if_icmp .ge 20, 3) := dAt wdX12_judge_56 adX12_judge_56.2.2.1 rfl
theorem dX12_judge_61 : decode cX12_judge 61 = .ok (.aload_n 0, 1) := dAt wdX12_judge_56 adX12_judge_56.2.2.2.1 rfl
theorem dX12_judge_62 : decode cX12_judge 62 = .ok (.iload_n 1, 1) := dAt wdX12_judge_56 adX12_judge_56.2.2.2.2.1 rfl
theorem dX12_judge_63 : decode cX12_judge 63 = .ok (.iload_n 2, 1) := dAt wdX12_judge_56 adX12_judge_56.2.2.2.2.2.1 rfl
theorem dX12_judge_64 : decode cX12_judge 64 = .ok (.invokevirtual 339, 3) := dAt wdX12_judge_56 adX12_judge_56.2.2.2.2.2.2.1 rfl
theorem dX12_judge_67 : decode cX12_judge 67 = .ok (.ifCond .ne 5, 3) := dAt wdX12_judge_56 adX12_judge_56.2.2.2.2.2.2.2.1 rfl
theorem dX12_judge_70 : decode cX12_judge 70 = .ok (.iload_n 2, 1) := dAt wdX12_judge_56 adX12_judge_56.2.2.2.2.2.2.2.2.1 rfl
theorem dX12_judge_71 : decode cX12_judge 71 = .ok (.ireturn, 1) := dAt wdX12_judge_56 adX12_judge_56.2.2.2.2.2.2.2.2.2.1 rfl
theorem dX12_judge_72 : decode cX12_judge 72 = .ok (.iinc 2 1, 3) := dAt wdX12_judge_56 adX12_judge_56.2.2.2.2.2.2.2.2.2.2.1 rfl
theorem dX12_judge_75 : decode cX12_judge 75 = .ok (.goto (-29), 3) := dAt wdX12_judge_56 adX12_judge_56.2.2.2.2.2.2.2.2.2.2.2.1 rfl
theorem dX12_judge_78 : decode cX12_judge 78 = .ok (.iconst (-1), 1) := dAt wdX12_judge_56 adX12_judge_56.2.2.2.2.2.2.2.2.2.2.2.2.1 rfl
theorem dX12_judge_79 : decode cX12_judge 79 = .ok (.ireturn, 1) := dAt wdX12_judge_56 adX12_judge_56.2.2.2.2.2.2.2.2.2.2.2.2.2 rfl
def bdX12_pie_0 : ByteArray := .mk #[42, 42, 27, 182, 1, 140, 154, 0, 7, 4, 167, 0, 4, 3, 181, 0, 122, 42, 180, 0, 122, 158, 0, 5, 3, 172, 27, 184, 1, 86]
theorem wdX12_pie_0 : LocW cX12_pie 0 bdX12_pie_0 := loc_of (by decide +kernel)
theorem adX12_pie_0 : De bdX12_pie_0 0 (.aload_n 0) 1 ∧ De bdX12_pie_0 1 (.aload_n 0) 1 ∧ De bdX12_pie_0 2 (.iload_n 1) 1 ∧ De bdX12_pie_0 3 (.invokevirtual 396) 3 ∧ De bdX12_pie_0 6 (.ifCond .ne 7) 3 ∧ De bdX12_pie_0 9 (.iconst 1) 1 ∧ De bdX12_pie_0 10 (.goto 4) 3 ∧ De bdX12_pie_0 13 (.iconst 0) 1 ∧ De bdX12_pie_0 14 (.putfield 122) 3 ∧ De bdX12_pie_0 17 (.aload_n 0) 1 ∧ De bdX12_pie_0 18 (.getfield 122) 3 ∧ De bdX12_pie_0 21 (.ifCond .le 5) 3 ∧ De bdX12_pie_0 24 (.iconst 0) 1 ∧ De bdX12_pie_0 25 (.ireturn) 1 ∧ De bdX12_pie_0 26 (.iload_n 1) 1 ∧ De bdX12_pie_0 27 (.invokestatic 342) 3 := by decide +kernel
theorem dX12_pie_0 : decode cX12_pie 0 = .ok (.aload_n 0, 1) := dAt wdX12_pie_0 adX12_pie_0.1 rfl
theorem dX12_pie_1 : decode cX12_pie 1 = .ok (.aload_n 0, 1) := dAt wdX12_pie_0 adX12_pie_0.2.1 rfl
theorem dX12_pie_2 : decode cX12_pie 2 = .ok (.iload_n 1, 1) := dAt wdX12_pie_0 adX12_pie_0.2.2.1 rfl
theorem dX12_pie_3 : decode cX12_pie 3 = .ok (.invokevirtual 396, 3) := dAt wdX12_pie_0 adX12_pie_0.2.2.2.1 rfl
theorem dX12_pie_6 : decode cX12_pie 6 = .ok (.ifCond .ne 7, 3) := dAt wdX12_pie_0 adX12_pie_0.2.2.2.2.1 rfl
theorem dX12_pie_9 : decode cX12_pie 9 = .ok (.iconst 1, 1) := dAt wdX12_pie_0 adX12_pie_0.2.2.2.2.2.1 rfl
theorem dX12_pie_10 : decode cX12_pie 10 = .ok (.goto 4, 3) := dAt wdX12_pie_0 adX12_pie_0.2.2.2.2.2.2.1 rfl
theorem dX12_pie_13 : decode cX12_pie 13 = .ok (.iconst 0, 1) := dAt wdX12_pie_0 adX12_pie_0.2.2.2.2.2.2.2.1 rfl
theorem dX12_pie_14 : decode cX12_pie 14 = .ok (.putfield 122, 3) := dAt wdX12_pie_0 adX12_pie_0.2.2.2.2.2.2.2.2.1 rfl
theorem dX12_pie_17 : decode cX12_pie 17 = .ok (.aload_n 0, 1) := dAt wdX12_pie_0 adX12_pie_0.2.2.2.2.2.2.2.2.2.1 rfl
theorem dX12_pie_18 : decode cX12_pie 18 = .ok (.getfield 122, 3) := dAt wdX12_pie_0 adX12_pie_0.2.2.2.2.2.2.2.2.2.2.1 rfl
theorem dX12_pie_21 : decode cX12_pie 21 = .ok (.ifCond .le 5, 3) := dAt wdX12_pie_0 adX12_pie_0.2.2.2.2.2.2.2.2.2.2.2.1 rfl
theorem dX12_pie_24 : decode cX12_pie 24 = .ok (.iconst 0, 1) := dAt wdX12_pie_0 adX12_pie_0.2.2.2.2.2.2.2.2.2.2.2.2.1 rfl
theorem dX12_pie_25 : decode cX12_pie 25 = .ok (.ireturn, 1) := dAt wdX12_pie_0 adX12_pie_0.2.2.2.2.2.2.2.2.2.2.2.2.2.1 rfl
theorem dX12_pie_26 : decode cX12_pie 26 = .ok (.iload_n 1, 1) := dAt wdX12_pie_0 adX12_pie_0.2.2.2.2.2.2.2.2.2.2.2.2.2.2.1 rfl
theorem dX12_pie_27 : decode cX12_pie 27 = .ok (.invokestatic 342, 3) := dAt wdX12_pie_0 adX12_pie_0.2.2.2.2.2.2.2.2.2.2.2.2.2.2.2 rfl
def bdX12_pie_30 : ByteArray := .mk #[61, 42, 180, 0, 8, 28, 7, 96, 46, 153, 0, 5, 3, 172, 42, 180, 0, 8, 42, 180, 0, 8, 28, 16, 6]
theorem wdX12_pie_30 : LocW cX12_pie 30 bdX12_pie_30 := loc_of (by decide +kernel)
theorem adX12_pie_30 : De bdX12_pie_30 0 (.istore_n 2) 1 ∧ De bdX12_pie_30 1 (.aload_n 0) 1 ∧ De bdX12_pie_30 2 (.getfield 8) 3 ∧ De bdX12_pie_30 5 (.iload_n 2) 1 ∧ De bdX12_pie_30 6 (.iconst 4) 1 ∧ De bdX12_pie_30 7 (.iadd) 1 ∧ De bdX12_pie_30 8 (.iaload) 1 ∧ De bdX12_pie_30 9 (.ifCond .eq 5) 3 ∧ De bdX12_pie_30 12 (.iconst 0) 1 ∧ De bdX12_pie_30 13 (.ireturn) 1 ∧ De bdX12_pie_30 14 (.aload_n 0) 1 ∧ De bdX12_pie_30 15 (.getfield 8) 3 ∧ De bdX12_pie_30 18 (.aload_n 0) 1 ∧ De bdX12_pie_30 19 (.getfield 8) 3 ∧ De bdX12_pie_30 22 (.iload_n 2) 1 ∧ De bdX12_pie_30 23 (.bipush 6) 2 := by decide +kernel
theorem dX12_pie_30 : decode cX12_pie 30 = .ok (.istore_n 2, 1) := dAt wdX12_pie_30 adX12_pie_30.1 rfl
theorem dX12_pie_31 : decode cX12_pie 31 = .ok (.aload_n 0, 1) := dAt wdX12_pie_30 adX12_pie_30.2.1 rfl
theorem dX12_pie_32 : decode cX12_pie 32 = .ok (.getfield 8, 3) := dAt wdX12_pie_30 adX12_pie_30.2.2.1 rfl
theorem dX12_pie_35 : decode cX12_pie 35 = .ok (.iload_n 2, 1) := dAt wdX12_pie_30 adX12_pie_30.2.2.2.1 rfl
theorem dX12_pie_36 : decode cX12_pie 36 = .ok (.iconst 4, 1) := dAt wdX12_pie_30 adX12_pie_30.2.2.2.2.1 rfl
theorem dX12_pie_37 : decode cX12_pie 37 = .ok (.iadd, 1) := dAt wdX12_pie_30 adX12_pie_30.2.2.2.2.2.1 rfl
theorem dX12_pie_38 : decode cX12_pie 38 = .ok (.iaload, 1) := dAt wdX12_pie_30 adX12_pie_30.2.2.2.2.2.2.1 rfl
theorem dX12_pie_39 : decode cX12_pie 39 = .ok (.ifCond .eq 5, 3) := dAt wdX12_pie_30 adX12_pie_30.2.2.2.2.2.2.2.1 rfl
theorem dX12_pie_42 : decode cX12_pie 42 = .ok (.iconst 0, 1) := dAt wdX12_pie_30 adX12_pie_30.2.2.2.2.2.2.2.2.1 rfl
theorem dX12_pie_43 : decode cX12_pie 43 = .ok (.ireturn, 1) := dAt wdX12_pie_30 adX12_pie_30.2.2.2.2.2.2.2.2.2.1 rfl
theorem dX12_pie_44 : decode cX12_pie 44 = .ok (.aload_n 0, 1) := dAt wdX12_pie_30 adX12_pie_30.2.2.2.2.2.2.2.2.2.2.1 rfl
theorem dX12_pie_45 : decode cX12_pie 45 = .ok (.getfield 8, 3) := dAt wdX12_pie_30 adX12_pie_30.2.2.2.2.2.2.2.2.2.2.2.1 rfl
theorem dX12_pie_48 : decode cX12_pie 48 = .ok (.aload_n 0, 1) := dAt wdX12_pie_30 adX12_pie_30.2.2.2.2.2.2.2.2.2.2.2.2.1 rfl
theorem dX12_pie_49 : decode cX12_pie 49 = .ok (.getfield 8, 3) := dAt wdX12_pie_30 adX12_pie_30.2.2.2.2.2.2.2.2.2.2.2.2.2.1 rfl
theorem dX12_pie_52 : decode cX12_pie 52 = .ok (.iload_n 2, 1) := dAt wdX12_pie_30 adX12_pie_30.2.2.2.2.2.2.2.2.2.2.2.2.2.2.1 rfl
theorem dX12_pie_53 : decode cX12_pie 53 = .ok (.bipush 6, 2) := dAt wdX12_pie_30 adX12_pie_30.2.2.2.2.2.2.2.2.2.2.2.2.2.2.2 rfl
def bdX12_pie_55 : ByteArray := .mk #[96, 46, 184, 0, 164, 16, 45, 96, 42, 180, 0, 8, 28, 8, 96, 46, 96, 3, 79, 42, 180, 0, 8]
theorem wdX12_pie_55 : LocW cX12_pie 55 bdX12_pie_55 := loc_of (by decide +kernel)
theorem adX12_pie_55 : De bdX12_pie_55 0 (.iadd) 1 ∧ De bdX12_pie_55 1 (.iaload) 1 ∧ De bdX12_pie_55 2 (.invokestatic 164) 3 ∧ De bdX12_pie_55 5 (.bipush 45) 2 ∧ De bdX12_pie_55 7 (.iadd) 1 ∧ De bdX12_pie_55 8 (.aload_n 0) 1 ∧ De bdX12_pie_55 9 (.getfield 8) 3 ∧ De bdX12_pie_55 12 (.iload_n 2) 1 ∧ De bdX12_pie_55 13 (.iconst 5) 1 ∧ De bdX12_pie_55 14 (.iadd) 1 ∧ De bdX12_pie_55 15 (.iaload) 1 ∧ De bdX12_pie_55 16 (.iadd) 1 ∧ De bdX12_pie_55 17 (.iconst 0) 1 ∧ De bdX12_pie_55 18 (.iastore) 1 ∧ De bdX12_pie_55 19 (.aload_n 0) 1 ∧ De bdX12_pie_55 20 (.getfield 8) 3 := by decide +kernel
theorem dX12_pie_55 : decode cX12_pie 55 = .ok (.iadd, 1) := dAt wdX12_pie_55 adX12_pie_55.1 rfl
theorem dX12_pie_56 : decode cX12_pie 56 = .ok (.iaload, 1) := dAt wdX12_pie_55 adX12_pie_55.2.1 rfl
theorem dX12_pie_57 : decode cX12_pie 57 = .ok (.invokestatic 164, 3) := dAt wdX12_pie_55 adX12_pie_55.2.2.1 rfl
theorem dX12_pie_60 : decode cX12_pie 60 = .ok (.bipush 45, 2) := dAt wdX12_pie_55 adX12_pie_55.2.2.2.1 rfl
theorem dX12_pie_62 : decode cX12_pie 62 = .ok (.iadd, 1) := dAt wdX12_pie_55 adX12_pie_55.2.2.2.2.1 rfl
theorem dX12_pie_63 : decode cX12_pie 63 = .ok (.aload_n 0, 1) := dAt wdX12_pie_55 adX12_pie_55.2.2.2.2.2.1 rfl
theorem dX12_pie_64 : decode cX12_pie 64 = .ok (.getfield 8, 3) := dAt wdX12_pie_55 adX12_pie_55.2.2.2.2.2.2.1 rfl
theorem dX12_pie_67 : decode cX12_pie 67 = .ok (.iload_n 2, 1) := dAt wdX12_pie_55 adX12_pie_55.2.2.2.2.2.2.2.1 rfl
theorem dX12_pie_68 : decode cX12_pie 68 = .ok (.iconst 5, 1) := dAt wdX12_pie_55 adX12_pie_55.2.2.2.2.2.2.2.2.1 rfl
theorem dX12_pie_69 : decode cX12_pie 69 = .ok (.iadd, 1) := dAt wdX12_pie_55 adX12_pie_55.2.2.2.2.2.2.2.2.2.1 rfl
theorem dX12_pie_70 : decode cX12_pie 70 = .ok (.iaload, 1) := dAt wdX12_pie_55 adX12_pie_55.2.2.2.2.2.2.2.2.2.2.1 rfl
theorem dX12_pie_71 : decode cX12_pie 71 = .ok (.iadd, 1) := dAt wdX12_pie_55 adX12_pie_55.2.2.2.2.2.2.2.2.2.2.2.1 rfl
theorem dX12_pie_72 : decode cX12_pie 72 = .ok (.iconst 0, 1) := dAt wdX12_pie_55 adX12_pie_55.2.2.2.2.2.2.2.2.2.2.2.2.1 rfl
theorem dX12_pie_73 : decode cX12_pie 73 = .ok (.iastore, 1) := dAt wdX12_pie_55 adX12_pie_55.2.2.2.2.2.2.2.2.2.2.2.2.2.1 rfl
theorem dX12_pie_74 : decode cX12_pie 74 = .ok (.aload_n 0, 1) := dAt wdX12_pie_55 adX12_pie_55.2.2.2.2.2.2.2.2.2.2.2.2.2.2.1 rfl
theorem dX12_pie_75 : decode cX12_pie 75 = .ok (.getfield 8, 3) := dAt wdX12_pie_55 adX12_pie_55.2.2.2.2.2.2.2.2.2.2.2.2.2.2.2 rfl
def bdX12_pie_78 : ByteArray := .mk #[28, 7, 96, 4, 79, 42, 180, 0, 8, 28, 8, 96, 2, 79, 42, 180, 0, 8, 28, 16, 6]
theorem wdX12_pie_78 : LocW cX12_pie 78 bdX12_pie_78 := loc_of (by decide +kernel)
theorem adX12_pie_78 : De bdX12_pie_78 0 (.iload_n 2) 1 ∧ De bdX12_pie_78 1 (.iconst 4) 1 ∧ De bdX12_pie_78 2 (.iadd) 1 ∧ De bdX12_pie_78 3 (.iconst 1) 1 ∧ De bdX12_pie_78 4 (.iastore) 1 ∧ De bdX12_pie_78 5 (.aload_n 0) 1 ∧ De bdX12_pie_78 6 (.getfield 8) 3 ∧ De bdX12_pie_78 9 (.iload_n 2) 1 ∧ De bdX12_pie_78 10 (.iconst 5) 1 ∧ De bdX12_pie_78 11 (.iadd) 1 ∧ De bdX12_pie_78 12 (.iconst (-1)) 1 ∧ De bdX12_pie_78 13 (.iastore) 1 ∧ De bdX12_pie_78 14 (.aload_n 0) 1 ∧ De bdX12_pie_78 15 (.getfield 8) 3 ∧ De bdX12_pie_78 18 (.iload_n 2) 1 ∧ De bdX12_pie_78 19 (.bipush 6) 2 := by decide +kernel
theorem dX12_pie_78 : decode cX12_pie 78 = .ok (.iload_n 2, 1) := dAt wdX12_pie_78 adX12_pie_78.1 rfl
theorem dX12_pie_79 : decode cX12_pie 79 = .ok (.iconst 4, 1) := dAt wdX12_pie_78 adX12_pie_78.2.1 rfl
theorem dX12_pie_80 : decode cX12_pie 80 = .ok (.iadd, 1) := dAt wdX12_pie_78 adX12_pie_78.2.2.1 rfl
theorem dX12_pie_81 : decode cX12_pie 81 = .ok (.iconst 1, 1) := dAt wdX12_pie_78 adX12_pie_78.2.2.2.1 rfl
theorem dX12_pie_82 : decode cX12_pie 82 = .ok (.iastore, 1) := dAt wdX12_pie_78 adX12_pie_78.2.2.2.2.1 rfl
theorem dX12_pie_83 : decode cX12_pie 83 = .ok (.aload_n 0, 1) := dAt wdX12_pie_78 adX12_pie_78.2.2.2.2.2.1 rfl
theorem dX12_pie_84 : decode cX12_pie 84 = .ok (.getfield 8, 3) := dAt wdX12_pie_78 adX12_pie_78.2.2.2.2.2.2.1 rfl
theorem dX12_pie_87 : decode cX12_pie 87 = .ok (.iload_n 2, 1) := dAt wdX12_pie_78 adX12_pie_78.2.2.2.2.2.2.2.1 rfl
theorem dX12_pie_88 : decode cX12_pie 88 = .ok (.iconst 5, 1) := dAt wdX12_pie_78 adX12_pie_78.2.2.2.2.2.2.2.2.1 rfl
theorem dX12_pie_89 : decode cX12_pie 89 = .ok (.iadd, 1) := dAt wdX12_pie_78 adX12_pie_78.2.2.2.2.2.2.2.2.2.1 rfl
theorem dX12_pie_90 : decode cX12_pie 90 = .ok (.iconst (-1), 1) := dAt wdX12_pie_78 adX12_pie_78.2.2.2.2.2.2.2.2.2.2.1 rfl
theorem dX12_pie_91 : decode cX12_pie 91 = .ok (.iastore, 1) := dAt wdX12_pie_78 adX12_pie_78.2.2.2.2.2.2.2.2.2.2.2.1 rfl
theorem dX12_pie_92 : decode cX12_pie 92 = .ok (.aload_n 0, 1) := dAt wdX12_pie_78 adX12_pie_78.2.2.2.2.2.2.2.2.2.2.2.2.1 rfl
theorem dX12_pie_93 : decode cX12_pie 93 = .ok (.getfield 8, 3) := dAt wdX12_pie_78 adX12_pie_78.2.2.2.2.2.2.2.2.2.2.2.2.2.1 rfl
theorem dX12_pie_96 : decode cX12_pie 96 = .ok (.iload_n 2, 1) := dAt wdX12_pie_78 adX12_pie_78.2.2.2.2.2.2.2.2.2.2.2.2.2.2.1 rfl
theorem dX12_pie_97 : decode cX12_pie 97 = .ok (.bipush 6, 2) := dAt wdX12_pie_78 adX12_pie_78.2.2.2.2.2.2.2.2.2.2.2.2.2.2.2 rfl
def bdX12_pie_99 : ByteArray := .mk #[96, 2, 79, 4, 172]
theorem wdX12_pie_99 : LocW cX12_pie 99 bdX12_pie_99 := loc_of (by decide +kernel)
theorem adX12_pie_99 : De bdX12_pie_99 0 (.iadd) 1 ∧ De bdX12_pie_99 1 (.iconst (-1)) 1 ∧ De bdX12_pie_99 2 (.iastore) 1 ∧ De bdX12_pie_99 3 (.iconst 1) 1 ∧ De bdX12_pie_99 4 (.ireturn) 1 := by decide +kernel
theorem dX12_pie_99 : decode cX12_pie 99 = .ok (.iadd, 1) := dAt wdX12_pie_99 adX12_pie_99.1 rfl
theorem dX12_pie_100 : decode cX12_pie 100 = .ok (.iconst (-1), 1) := dAt wdX12_pie_99 adX12_pie_99.2.1 rfl
theorem dX12_pie_101 : decode cX12_pie 101 = .ok (.iastore, 1) := dAt wdX12_pie_99 adX12_pie_99.2.2.1 rfl
theorem dX12_pie_102 : decode cX12_pie 102 = .ok (.iconst 1, 1) := dAt wdX12_pie_99 adX12_pie_99.2.2.2.1 rfl
theorem dX12_pie_103 : decode cX12_pie 103 = .ok (.ireturn, 1) := dAt wdX12_pie_99 adX12_pie_99.2.2.2.2 rfl
def bdX12_change_0 : ByteArray := .mk #[42, 42, 27, 182, 1, 140, 153, 0, 11, 42, 28, 182, 1, 140, 154, 0, 7, 4, 167, 0, 4, 3, 181, 0, 122, 42, 180, 0, 122, 158, 0, 5]
theorem wdX12_change_0 : LocW cX12_change 0 bdX12_change_0 := loc_of (by decide +kernel)
theorem adX12_change_0 : De bdX12_change_0 0 (.aload_n 0) 1 ∧ De bdX12_change_0 1 (.aload_n 0) 1 ∧ De bdX12_change_0 2 (.iload_n 1) 1 ∧ De bdX12_change_0 3 (.invokevirtual 396) 3 ∧ De bdX12_change_0 6 (.ifCond .eq 11) 3 ∧ De bdX12_change_0 9 (.aload_n 0) 1 ∧ De bdX12_change_0 10 (.iload_n 2) 1 ∧ De bdX12_change_0 11 (.invokevirtual 396) 3 ∧ De bdX12_change_0 14 (.ifCond .ne 7) 3 ∧ De bdX12_change_0 17 (.iconst 1) 1 ∧ De bdX12_change_0 18 (.goto 4) 3 ∧ De bdX12_change_0 21 (.iconst 0) 1 ∧ De bdX12_change_0 22 (.putfield 122) 3 ∧ De bdX12_change_0 25 (.aload_n 0) 1 ∧ De bdX12_change_0 26 (.getfield 122) 3 ∧ De bdX12_change_0 29 (.ifCond .le 5) 3 := by decide +kernel
theorem dX12_change_0 : decode cX12_change 0 = .ok (.aload_n 0, 1) := dAt wdX12_change_0 adX12_change_0.1 rfl
theorem dX12_change_1 : decode cX12_change 1 = .ok (.aload_n 0, 1) := dAt wdX12_change_0 adX12_change_0.2.1 rfl
theorem dX12_change_2 : decode cX12_change 2 = .ok (.iload_n 1, 1) := dAt wdX12_change_0 adX12_change_0.2.2.1 rfl
theorem dX12_change_3 : decode cX12_change 3 = .ok (.invokevirtual 396, 3) := dAt wdX12_change_0 adX12_change_0.2.2.2.1 rfl
theorem dX12_change_6 : decode cX12_change 6 = .ok (.ifCond .eq 11, 3) := dAt wdX12_change_0 adX12_change_0.2.2.2.2.1 rfl
theorem dX12_change_9 : decode cX12_change 9 = .ok (.aload_n 0, 1) := dAt wdX12_change_0 adX12_change_0.2.2.2.2.2.1 rfl
theorem dX12_change_10 : decode cX12_change 10 = .ok (.iload_n 2, 1) := dAt wdX12_change_0 adX12_change_0.2.2.2.2.2.2.1 rfl
theorem dX12_change_11 : decode cX12_change 11 = .ok (.invokevirtual 396, 3) := dAt wdX12_change_0 adX12_change_0.2.2.2.2.2.2.2.1 rfl
theorem dX12_change_14 : decode cX12_change 14 = .ok (.ifCond .ne 7, 3) := dAt wdX12_change_0 adX12_change_0.2.2.2.2.2.2.2.2.1 rfl
theorem dX12_change_17 : decode cX12_change 17 = .ok (.iconst 1, 1) := dAt wdX12_change_0 adX12_change_0.2.2.2.2.2.2.2.2.2.1 rfl
theorem dX12_change_18 : decode cX12_change 18 = .ok (.goto 4, 3) := dAt wdX12_change_0 adX12_change_0.2.2.2.2.2.2.2.2.2.2.1 rfl
theorem dX12_change_21 : decode cX12_change 21 = .ok (.iconst 0, 1) := dAt wdX12_change_0 adX12_change_0.2.2.2.2.2.2.2.2.2.2.2.1 rfl
theorem dX12_change_22 : decode cX12_change 22 = .ok (.putfield 122, 3) := dAt wdX12_change_0 adX12_change_0.2.2.2.2.2.2.2.2.2.2.2.2.1 rfl
theorem dX12_change_25 : decode cX12_change 25 = .ok (.aload_n 0, 1) := dAt wdX12_change_0 adX12_change_0.2.2.2.2.2.2.2.2.2.2.2.2.2.1 rfl
theorem dX12_change_26 : decode cX12_change 26 = .ok (.getfield 122, 3) := dAt wdX12_change_0 adX12_change_0.2.2.2.2.2.2.2.2.2.2.2.2.2.2.1 rfl
theorem dX12_change_29 : decode cX12_change 29 = .ok (.ifCond .le 5, 3) := dAt wdX12_change_0 adX12_change_0.2.2.2.2.2.2.2.2.2.2.2.2.2.2.2 rfl
def bdX12_change_32 : ByteArray := .mk #[3, 172, 27, 184, 1, 86, 62, 28, 184, 1, 86, 54, 4, 42, 180, 0, 8, 29, 7, 96, 46, 154, 0, 15, 42]
theorem wdX12_change_32 : LocW cX12_change 32 bdX12_change_32 := loc_of (by decide +kernel)
theorem adX12_change_32 : De bdX12_change_32 0 (.iconst 0) 1 ∧ De bdX12_change_32 1 (.ireturn) 1 ∧ De bdX12_change_32 2 (.iload_n 1) 1 ∧ De bdX12_change_32 3 (.invokestatic 342) 3 ∧ De bdX12_change_32 6 (.istore_n 3) 1 ∧ De bdX12_change_32 7 (.iload_n 2) 1 ∧ De bdX12_change_32 8 (.invokestatic 342) 3 ∧ De bdX12_change_32 11 (.istore 4) 2 ∧ De bdX12_change_32 13 (.aload_n 0) 1 ∧ De bdX12_change_32 14 (.getfield 8) 3 ∧ De bdX12_change_32 17 (.iload_n 3) 1 ∧ De bdX12_change_32 18 (.iconst 4) 1 ∧ De bdX12_change_32 19 (.iadd) 1 ∧ De bdX12_change_32 20 (.iaload) 1 ∧ De bdX12_change_32 21 (.ifCond .ne 15) 3 ∧ De bdX12_change_32 24 (.aload_n 0) 1 := by decide +kernel
theorem dX12_change_32 : decode cX12_change 32 = .ok (.iconst 0, 1) := dAt wdX12_change_32 adX12_change_32.1 rfl
theorem dX12_change_33 : decode cX12_change 33 = .ok (.ireturn, 1) := dAt wdX12_change_32 adX12_change_32.2.1 rfl
theorem dX12_change_34 : decode cX12_change 34 = .ok (.iload_n 1, 1) := dAt wdX12_change_32 adX12_change_32.2.2.1 rfl
theorem dX12_change_35 : decode cX12_change 35 = .ok (.invokestatic 342, 3) := dAt wdX12_change_32 adX12_change_32.2.2.2.1 rfl
theorem dX12_change_38 : decode cX12_change 38 = .ok (.istore_n 3, 1) := dAt wdX12_change_32 adX12_change_32.2.2.2.2.1 rfl
theorem dX12_change_39 : decode cX12_change 39 = .ok (.iload_n 2, 1) := dAt wdX12_change_32 adX12_change_32.2.2.2.2.2.1 rfl
theorem dX12_change_40 : decode cX12_change 40 = .ok (.invokestatic 342, 3) := dAt wdX12_change_32 adX12_change_32.2.2.2.2.2.2.1 rfl
theorem dX12_change_43 : decode cX12_change 43 = .ok (.istore 4, 2) := dAt wdX12_change_32 adX12_change_32.2.2.2.2.2.2.2.1 rfl
theorem dX12_change_45 : decode cX12_change 45 = .ok (.aload_n 0, 1) := dAt wdX12_change_32 adX12_change_32.2.2.2.2.2.2.2.2.1 rfl
theorem dX12_change_46 : decode cX12_change 46 = .ok (.getfield 8, 3) := dAt wdX12_change_32 adX12_change_32.2.2.2.2.2.2.2.2.2.1 rfl
theorem dX12_change_49 : decode cX12_change 49 = .ok (.iload_n 3, 1) := dAt wdX12_change_32 adX12_change_32.2.2.2.2.2.2.2.2.2.2.1 rfl
theorem dX12_change_50 : decode cX12_change 50 = .ok (.iconst 4, 1) := dAt wdX12_change_32 adX12_change_32.2.2.2.2.2.2.2.2.2.2.2.1 rfl
theorem dX12_change_51 : decode cX12_change 51 = .ok (.iadd, 1) := dAt wdX12_change_32 adX12_change_32.2.2.2.2.2.2.2.2.2.2.2.2.1 rfl
theorem dX12_change_52 : decode cX12_change 52 = .ok (.iaload, 1) := dAt wdX12_change_32 adX12_change_32.2.2.2.2.2.2.2.2.2.2.2.2.2.1 rfl
theorem dX12_change_53 : decode cX12_change 53 = .ok (.ifCond .ne 15, 3) := dAt wdX12_change_32 adX12_change_32.2.2.2.2.2.2.2.2.2.2.2.2.2.2.1 rfl
theorem dX12_change_56 : decode cX12_change 56 = .ok (.aload_n 0, 1) := dAt wdX12_change_32 adX12_change_32.2.2.2.2.2.2.2.2.2.2.2.2.2.2.2 rfl
def bdX12_change_57 : ByteArray := .mk #[180, 0, 8, 21, 4, 7, 96, 46, 153, 0, 5, 3, 172, 42, 180, 0, 8, 29, 16, 6, 96, 46, 54, 5, 42]
theorem wdX12_change_57 : LocW cX12_change 57 bdX12_change_57 := loc_of (by decide +kernel)
theorem adX12_change_57 : De bdX12_change_57 0 (.getfield 8) 3 ∧ De bdX12_change_57 3 (.iload 4) 2 ∧ De bdX12_change_57 5 (.iconst 4) 1 ∧ De bdX12_change_57 6 (.iadd) 1 ∧ De bdX12_change_57 7 (.iaload) 1 ∧ De bdX12_change_57 8 (.ifCond .eq 5) 3 ∧ De bdX12_change_57 11 (.iconst 0) 1 ∧ De bdX12_change_57 12 (.ireturn) 1 ∧ De bdX12_change_57 13 (.aload_n 0) 1 ∧ De bdX12_change_57 14 (.getfield 8) 3 ∧ De bdX12_change_57 17 (.iload_n 3) 1 ∧ De bdX12_change_57 18 (.bipush 6) 2 ∧ De bdX12_change_57 20 (.iadd) 1 ∧ De bdX12_change_57 21 (.iaload) 1 ∧ De bdX12_change_57 22 (.istore 5) 2 ∧ De bdX12_change_57 24 (.aload_n 0) 1 := by decide +kernel
theorem dX12_change_57 : decode cX12_change 57 = .ok (.getfield 8, 3) := dAt wdX12_change_57 adX12_change_57.1 rfl
theorem dX12_change_60 : decode cX12_change 60 = .ok (.iload 4, 2) := dAt wdX12_change_57 adX12_change_57.2.1 rfl
theorem dX12_change_62 : decode cX12_change 62 = .ok (.iconst 4, 1) := dAt wdX12_change_57 adX12_change_57.2.2.1 rfl
theorem dX12_change_63 : decode cX12_change 63 = .ok (.iadd, 1) := dAt wdX12_change_57 adX12_change_57.2.2.2.1 rfl
theorem dX12_change_64 : decode cX12_change 64 = .ok (.iaload, 1) := dAt wdX12_change_57 adX12_change_57.2.2.2.2.1 rfl
theorem dX12_change_65 : decode cX12_change 65 = .ok (.ifCond .eq 5, 3) := dAt wdX12_change_57 adX12_change_57.2.2.2.2.2.1 rfl
theorem dX12_change_68 : decode cX12_change 68 = .ok (.iconst 0, 1) := dAt wdX12_change_57 adX12_change_57.2.2.2.2.2.2.1 rfl
theorem dX12_change_69 : decode cX12_change 69 = .ok (.ireturn, 1) := dAt wdX12_change_57 adX12_change_57.2.2.2.2.2.2.2.1 rfl
theorem dX12_change_70 : decode cX12_change 70 = .ok (.aload_n 0, 1) := dAt wdX12_change_57 adX12_change_57.2.2.2.2.2.2.2.2.1 rfl
theorem dX12_change_71 : decode cX12_change 71 = .ok (.getfield 8, 3) := dAt wdX12_change_57 adX12_change_57.2.2.2.2.2.2.2.2.2.1 rfl
theorem dX12_change_74 : decode cX12_change 74 = .ok (.iload_n 3, 1) := dAt wdX12_change_57 adX12_change_57.2.2.2.2.2.2.2.2.2.2.1 rfl
theorem dX12_change_75 : decode cX12_change 75 = .ok (.bipush 6, 2) := dAt wdX12_change_57 adX12_change_57.2.2.2.2.2.2.2.2.2.2.2.1 rfl
theorem dX12_change_77 : decode cX12_change 77 = .ok (.iadd, 1) := dAt wdX12_change_57 adX12_change_57.2.2.2.2.2.2.2.2.2.2.2.2.1 rfl
theorem dX12_change_78 : decode cX12_change 78 = .ok (.iaload, 1) := dAt wdX12_change_57 adX12_change_57.2.2.2.2.2.2.2.2.2.2.2.2.2.1 rfl
theorem dX12_change_79 : decode cX12_change 79 = .ok (.istore 5, 2) := dAt wdX12_change_57 adX12_change_57.2.2.2.2.2.2.2.2.2.2.2.2.2.2.1 rfl
theorem dX12_change_81 : decode cX12_change 81 = .ok (.aload_n 0, 1) := dAt wdX12_change_57 adX12_change_57.2.2.2.2.2.2.2.2.2.2.2.2.2.2.2 rfl
def bdX12_change_82 : ByteArray := .mk #[180, 0, 8, 29, 8, 96, 46, 54, 6, 42, 27, 42, 180, 0, 8, 21, 4, 16, 6, 96, 46, 42, 180, 0, 8]
theorem wdX12_change_82 : LocW cX12_change 82 bdX12_change_82 := loc_of (by decide +kernel)
theorem adX12_change_82 : De bdX12_change_82 0 (.getfield 8) 3 ∧ De bdX12_change_82 3 (.iload_n 3) 1 ∧ De bdX12_change_82 4 (.iconst 5) 1 ∧ De bdX12_change_82 5 (.iadd) 1 ∧ De bdX12_change_82 6 (.iaload) 1 ∧ De bdX12_change_82 7 (.istore 6) 2 ∧ De bdX12_change_82 9 (.aload_n 0) 1 ∧ De bdX12_change_82 10 (.iload_n 1) 1 ∧ De bdX12_change_82 11 (.aload_n 0) 1 ∧ De bdX12_change_82 12 (.getfield 8) 3 ∧ De bdX12_change_82 15 (.iload 4) 2 ∧ De bdX12_change_82 17 (.bipush 6) 2 ∧ De bdX12_change_82 19 (.iadd) 1 ∧ De bdX12_change_82 20 (.iaload) 1 ∧ De bdX12_change_82 21 (.aload_n 0) 1 ∧ De bdX12_change_82 22 (.getfield 8) 3 := by decide +kernel
theorem dX12_change_82 : decode cX12_change 82 = .ok (.getfield 8, 3) := dAt wdX12_change_82 adX12_change_82.1 rfl
theorem dX12_change_85 : decode cX12_change 85 = .ok (.iload_n 3, 1) := dAt wdX12_change_82 adX12_change_82.2.1 rfl
theorem dX12_change_86 : decode cX12_change 86 = .ok (.iconst 5, 1) := dAt wdX12_change_82 adX12_change_82.2.2.1 rfl
theorem dX12_change_87 : decode cX12_change 87 = .ok (.iadd, 1) := dAt wdX12_change_82 adX12_change_82.2.2.2.1 rfl
theorem dX12_change_88 : decode cX12_change 88 = .ok (.iaload, 1) := dAt wdX12_change_82 adX12_change_82.2.2.2.2.1 rfl
theorem dX12_change_89 : decode cX12_change 89 = .ok (.istore 6, 2) := dAt wdX12_change_82 adX12_change_82.2.2.2.2.2.1 rfl
theorem dX12_change_91 : decode cX12_change 91 = .ok (.aload_n 0, 1) := dAt wdX12_change_82 adX12_change_82.2.2.2.2.2.2.1 rfl
theorem dX12_change_92 : decode cX12_change 92 = .ok (.iload_n 1, 1) := dAt wdX12_change_82 adX12_change_82.2.2.2.2.2.2.2.1 rfl
theorem dX12_change_93 : decode cX12_change 93 = .ok (.aload_n 0, 1) := dAt wdX12_change_82 adX12_change_82.2.2.2.2.2.2.2.2.1 rfl
theorem dX12_change_94 : decode cX12_change 94 = .ok (.getfield 8, 3) := dAt wdX12_change_82 adX12_change_82.2.2.2.2.2.2.2.2.2.1 rfl
theorem dX12_change_97 : decode cX12_change 97 = .ok (.iload 4, 2) := dAt wdX12_change_82 adX12_change_82.2.2.2.2.2.2.2.2.2.2.1 rfl
theorem dX12_change_99 : decode cX12_change 99 = .ok (.bipush 6, 2) := dAt wdX12_change_82 adX12_change_82.2.2.2.2.2.2.2.2.2.2.2.1 rfl
theorem dX12_change_101 : decode cX12_change 101 = .ok (.iadd, 1) := dAt wdX12_change_82 adX12_change_82.2.2.2.2.2.2.2.2.2.2.2.2.1 rfl
theorem dX12_change_102 : decode cX12_change 102 = .ok (.iaload, 1) := dAt wdX12_change_82 adX12_change_82.2.2.2.2.2.2.2.2.2.2.2.2.2.1 rfl
theorem dX12_change_103 : decode cX12_change 103 = .ok (.aload_n 0, 1) := dAt wdX12_change_82 adX12_change_82.2.2.2.2.2.2.2.2.2.2.2.2.2.2.1 rfl
theorem dX12_change_104 : decode cX12_change 104 = .ok (.getfield 8, 3) := dAt wdX12_change_82 adX12_change_82.2.2.2.2.2.2.2.2.2.2.2.2.2.2.2 rfl
def bdX12_change_107 : ByteArray := .mk #[21, 4, 8, 96, 46, 182, 1, 130, 42, 28, 21, 5, 21, 6, 182, 1, 130, 4, 172]
theorem wdX12_change_107 : LocW cX12_change 107 bdX12_change_107 := loc_of (by decide +kernel)
theorem adX12_change_107 : De bdX12_change_107 0 (.iload 4) 2 ∧ De bdX12_change_107 2 (.iconst 5) 1 ∧ De bdX12_change_107 3 (.iadd) 1 ∧ De bdX12_change_107 4 (.iaload) 1 ∧ De bdX12_change_107 5 (.invokevirtual 386) 3 ∧ De bdX12_change_107 8 (.aload_n 0) 1 ∧ De bdX12_change_107 9 (.iload_n 2) 1 ∧ De bdX12_change_107 10 (.iload 5) 2 ∧ De bdX12_change_107 12 (.iload 6) 2 ∧ De bdX12_change_107 14 (.invokevirtual 386) 3 ∧ De bdX12_change_107 17 (.iconst 1) 1 ∧ De bdX12_change_107 18 (.ireturn) 1 := by decide +kernel
theorem dX12_change_107 : decode cX12_change 107 = .ok (.iload 4, 2) := dAt wdX12_change_107 adX12_change_107.1 rfl
theorem dX12_change_109 : decode cX12_change 109 = .ok (.iconst 5, 1) := dAt wdX12_change_107 adX12_change_107.2.1 rfl
theorem dX12_change_110 : decode cX12_change 110 = .ok (.iadd, 1) := dAt wdX12_change_107 adX12_change_107.2.2.1 rfl
theorem dX12_change_111 : decode cX12_change 111 = .ok (.iaload, 1) := dAt wdX12_change_107 adX12_change_107.2.2.2.1 rfl
theorem dX12_change_112 : decode cX12_change 112 = .ok (.invokevirtual 386, 3) := dAt wdX12_change_107 adX12_change_107.2.2.2.2.1 rfl
theorem dX12_change_115 : decode cX12_change 115 = .ok (.aload_n 0, 1) := dAt wdX12_change_107 adX12_change_107.2.2.2.2.2.1 rfl
theorem dX12_change_116 : decode cX12_change 116 = .ok (.iload_n 2, 1) := dAt wdX12_change_107 adX12_change_107.2.2.2.2.2.2.1 rfl
theorem dX12_change_117 : decode cX12_change 117 = .ok (.iload 5, 2) := dAt wdX12_change_107 adX12_change_107.2.2.2.2.2.2.2.1 rfl
theorem dX12_change_119 : decode cX12_change 119 = .ok (.iload 6, 2) := dAt wdX12_change_107 adX12_change_107.2.2.2.2.2.2.2.2.1 rfl
theorem dX12_change_121 : decode cX12_change 121 = .ok (.invokevirtual 386, 3) := dAt wdX12_change_107 adX12_change_107.2.2.2.2.2.2.2.2.2.1 rfl
theorem dX12_change_124 : decode cX12_change 124 = .ok (.iconst 1, 1) := dAt wdX12_change_107 adX12_change_107.2.2.2.2.2.2.2.2.2.2.1 rfl
theorem dX12_change_125 : decode cX12_change 125 = .ok (.ireturn, 1) := dAt wdX12_change_107 adX12_change_107.2.2.2.2.2.2.2.2.2.2.2 rfl
def bdX12_again_0 : ByteArray := .mk #[42, 42, 27, 182, 1, 55, 153, 0, 11, 42, 29, 182, 1, 107, 154, 0, 7, 4, 167, 0, 9, 42, 27, 28, 182, 1, 146, 181, 0, 122]
theorem wdX12_again_0 : LocW cX12_again 0 bdX12_again_0 := loc_of (by decide +kernel)
theorem adX12_again_0 : De bdX12_again_0 0 (.aload_n 0) 1 ∧ De bdX12_again_0 1 (.aload_n 0) 1 ∧ De bdX12_again_0 2 (.iload_n 1) 1 ∧ De bdX12_again_0 3 (.invokevirtual 311) 3 ∧ De bdX12_again_0 6 (.ifCond .eq 11) 3 ∧ De bdX12_again_0 9 (.aload_n 0) 1 ∧ De bdX12_again_0 10 (.iload_n 3) 1 ∧ De bdX12_again_0 11 (.invokevirtual 363) 3 ∧ De bdX12_again_0 14 (.ifCond .ne 7) 3 ∧ De bdX12_again_0 17 (.iconst 1) 1 ∧ De bdX12_again_0 18 (.goto 9) 3 ∧ De bdX12_again_0 21 (.aload_n 0) 1 ∧ De bdX12_again_0 22 (.iload_n 1) 1 ∧ De bdX12_again_0 23 (.iload_n 2) 1 ∧ De bdX12_again_0 24 (.invokevirtual 402) 3 ∧ De bdX12_again_0 27 (.putfield 122) 3 := by decide +kernel
theorem dX12_again_0 : decode cX12_again 0 = .ok (.aload_n 0, 1) := dAt wdX12_again_0 adX12_again_0.1 rfl
theorem dX12_again_1 : decode cX12_again 1 = .ok (.aload_n 0, 1) := dAt wdX12_again_0 adX12_again_0.2.1 rfl
theorem dX12_again_2 : decode cX12_again 2 = .ok (.iload_n 1, 1) := dAt wdX12_again_0 adX12_again_0.2.2.1 rfl
theorem dX12_again_3 : decode cX12_again 3 = .ok (.invokevirtual 311, 3) := dAt wdX12_again_0 adX12_again_0.2.2.2.1 rfl
theorem dX12_again_6 : decode cX12_again 6 = .ok (.ifCond .eq 11, 3) := dAt wdX12_again_0 adX12_again_0.2.2.2.2.1 rfl
theorem dX12_again_9 : decode cX12_again 9 = .ok (.aload_n 0, 1) := dAt wdX12_again_0 adX12_again_0.2.2.2.2.2.1 rfl
theorem dX12_again_10 : decode cX12_again 10 = .ok (.iload_n 3, 1) := dAt wdX12_again_0 adX12_again_0.2.2.2.2.2.2.1 rfl
theorem dX12_again_11 : decode cX12_again 11 = .ok (.invokevirtual 363, 3) := dAt wdX12_again_0 adX12_again_0.2.2.2.2.2.2.2.1 rfl
theorem dX12_again_14 : decode cX12_again 14 = .ok (.ifCond .ne 7, 3) := dAt wdX12_again_0 adX12_again_0.2.2.2.2.2.2.2.2.1 rfl
theorem dX12_again_17 : decode cX12_again 17 = .ok (.iconst 1, 1) := dAt wdX12_again_0 adX12_again_0.2.2.2.2.2.2.2.2.2.1 rfl
theorem dX12_again_18 : decode cX12_again 18 = .ok (.goto 9, 3) := dAt wdX12_again_0 adX12_again_0.2.2.2.2.2.2.2.2.2.2.1 rfl
theorem dX12_again_21 : decode cX12_again 21 = .ok (.aload_n 0, 1) := dAt wdX12_again_0 adX12_again_0.2.2.2.2.2.2.2.2.2.2.2.1 rfl
theorem dX12_again_22 : decode cX12_again 22 = .ok (.iload_n 1, 1) := dAt wdX12_again_0 adX12_again_0.2.2.2.2.2.2.2.2.2.2.2.2.1 rfl
theorem dX12_again_23 : decode cX12_again 23 = .ok (.iload_n 2, 1) := dAt wdX12_again_0 adX12_again_0.2.2.2.2.2.2.2.2.2.2.2.2.2.1 rfl
theorem dX12_again_24 : decode cX12_again 24 = .ok (.invokevirtual 402, 3) := dAt wdX12_again_0 adX12_again_0.2.2.2.2.2.2.2.2.2.2.2.2.2.2.1 rfl
theorem dX12_again_27 : decode cX12_again 27 = .ok (.putfield 122, 3) := dAt wdX12_again_0 adX12_again_0.2.2.2.2.2.2.2.2.2.2.2.2.2.2.2 rfl
def bdX12_again_30 : ByteArray := .mk #[42, 180, 0, 122, 158, 0, 5, 3, 172, 42, 180, 0, 8, 29, 184, 1, 104, 16, 29, 96, 46, 16, 30, 162, 0, 7, 4, 167, 0, 4]
theorem wdX12_again_30 : LocW cX12_again 30 bdX12_again_30 := loc_of (by decide +kernel)
theorem adX12_again_30 : De bdX12_again_30 0 (.aload_n 0) 1 ∧ De bdX12_again_30 1 (.getfield 122) 3 ∧ De bdX12_again_30 4 (.ifCond .le 5) 3 ∧ De bdX12_again_30 7 (.iconst 0) 1 ∧ De bdX12_again_30 8 (.ireturn) 1 ∧ De bdX12_again_30 9 (.aload_n 0) 1 ∧ De bdX12_again_30 10 (.getfield 8) 3 ∧ De bdX12_again_30 13 (.iload_n 3) 1 ∧ De bdX12_again_30 14 (.invokestatic 360) 3 ∧ De bdX12_again_30 17 (.bipush 29) 2 ∧ De bdX12_again_30 19 (.iadd) 1 ∧ De bdX12_again_30 20 (.iaload) 1 ∧ De bdX12_again_30 21 (.bipush 30) 2 ∧ De bdX12_again_30 23 (.if_icmp .ge 7) 3 ∧ De bdX12_again_30 26 (.iconst 1) 1 ∧ De bdX12_again_30 27 (.goto 4) 3 := by decide +kernel
theorem dX12_again_30 : decode cX12_again 30 = .ok (.aload_n 0, 1) := dAt wdX12_again_30 adX12_again_30.1 rfl
theorem dX12_again_31 : decode cX12_again 31 = .ok (.getfield 122, 3) := dAt wdX12_again_30 adX12_again_30.2.1 rfl
theorem dX12_again_34 : decode cX12_again 34 = .ok (.ifCond .le 5, 3) := dAt wdX12_again_30 adX12_again_30.2.2.1 rfl
theorem dX12_again_37 : decode cX12_again 37 = .ok (.iconst 0, 1) := dAt wdX12_again_30 adX12_again_30.2.2.2.1 rfl
theorem dX12_again_38 : decode cX12_again 38 = .ok (.ireturn, 1) := dAt wdX12_again_30 adX12_again_30.2.2.2.2.1 rfl
theorem dX12_again_39 : decode cX12_again 39 = .ok (.aload_n 0, 1) := dAt wdX12_again_30 adX12_again_30.2.2.2.2.2.1 rfl
theorem dX12_again_40 : decode cX12_again 40 = .ok (.getfield 8, 3) := dAt wdX12_again_30 adX12_again_30.2.2.2.2.2.2.1 rfl
theorem dX12_again_43 : decode cX12_again 43 = .ok (.iload_n 3, 1) := dAt wdX12_again_30 adX12_again_30.2.2.2.2.2.2.2.1 rfl
theorem dX12_again_44 : decode cX12_again 44 = .ok (.invokestatic 360, 3) := dAt wdX12_again_30 adX12_again_30.2.2.2.2.2.2.2.2.1 rfl
theorem dX12_again_47 : decode cX12_again 47 = .ok (.bipush 29, 2) := dAt wdX12_again_30 adX12_again_30.2.2.2.2.2.2.2.2.2.1 rfl
theorem dX12_again_49 : decode cX12_again 49 = .ok (.iadd, 1) := dAt wdX12_again_30 adX12_again_30.2.2.2.2.2.2.2.2.2.2.1 rfl
theorem dX12_again_50 : decode cX12_again 50 = .ok (.iaload, 1) := dAt wdX12_again_30 adX12_again_30.2.2.2.2.2.2.2.2.2.2.2.1 rfl
theorem dX12_again_51 : decode cX12_again 51 = .ok (.bipush 30, 2) := dAt wdX12_again_30 adX12_again_30.2.2.2.2.2.2.2.2.2.2.2.2.1 rfl
theorem dX12_again_53 : decode cX12_again 53 = .ok (.if_icmp .ge 7, 3) := dAt wdX12_again_30 adX12_again_30.2.2.2.2.2.2.2.2.2.2.2.2.2.1 rfl
theorem dX12_again_56 : decode cX12_again 56 = .ok (.iconst 1, 1) := dAt wdX12_again_30 adX12_again_30.2.2.2.2.2.2.2.2.2.2.2.2.2.2.1 rfl
theorem dX12_again_57 : decode cX12_again 57 = .ok (.goto 4, 3) := dAt wdX12_again_30 adX12_again_30.2.2.2.2.2.2.2.2.2.2.2.2.2.2.2 rfl
def bdX12_again_60 : ByteArray := .mk #[3, 54, 4, 42, 21, 4, 154, 0, 7, 6, 167, 0, 4, 3, 181, 0, 122, 42, 180, 0, 122, 158, 0, 5, 3, 172, 42, 180, 0, 8]
theorem wdX12_again_60 : LocW cX12_again 60 bdX12_again_60 := loc_of (by decide +kernel)
theorem adX12_again_60 : De bdX12_again_60 0 (.iconst 0) 1 ∧ De bdX12_again_60 1 (.istore 4) 2 ∧ De bdX12_again_60 3 (.aload_n 0) 1 ∧ De bdX12_again_60 4 (.iload 4) 2 ∧ De bdX12_again_60 6 (.ifCond .ne 7) 3 ∧ De bdX12_again_60 9 (.iconst 3) 1 ∧ De bdX12_again_60 10 (.goto 4) 3 ∧ De bdX12_again_60 13 (.iconst 0) 1 ∧ De bdX12_again_60 14 (.putfield 122) 3 ∧ De bdX12_again_60 17 (.aload_n 0) 1 ∧ De bdX12_again_60 18 (.getfield 122) 3 ∧ De bdX12_again_60 21 (.ifCond .le 5) 3 ∧ De bdX12_again_60 24 (.iconst 0) 1 ∧ De bdX12_again_60 25 (.ireturn) 1 ∧ De bdX12_again_60 26 (.aload_n 0) 1 ∧ De bdX12_again_60 27 (.getfield 8) 3 := by decide +kernel
theorem dX12_again_60 : decode cX12_again 60 = .ok (.iconst 0, 1) := dAt wdX12_again_60 adX12_again_60.1 rfl
theorem dX12_again_61 : decode cX12_again 61 = .ok (.istore 4, 2) := dAt wdX12_again_60 adX12_again_60.2.1 rfl
theorem dX12_again_63 : decode cX12_again 63 = .ok (.aload_n 0, 1) := dAt wdX12_again_60 adX12_again_60.2.2.1 rfl
theorem dX12_again_64 : decode cX12_again 64 = .ok (.iload 4, 2) := dAt wdX12_again_60 adX12_again_60.2.2.2.1 rfl
theorem dX12_again_66 : decode cX12_again 66 = .ok (.ifCond .ne 7, 3) := dAt wdX12_again_60 adX12_again_60.2.2.2.2.1 rfl
theorem dX12_again_69 : decode cX12_again 69 = .ok (.iconst 3, 1) := dAt wdX12_again_60 adX12_again_60.2.2.2.2.2.1 rfl
theorem dX12_again_70 : decode cX12_again 70 = .ok (.goto 4, 3) := dAt wdX12_again_60 adX12_again_60.2.2.2.2.2.2.1 rfl
theorem dX12_again_73 : decode cX12_again 73 = .ok (.iconst 0, 1) := dAt wdX12_again_60 adX12_again_60.2.2.2.2.2.2.2.1 rfl
theorem dX12_again_74 : decode cX12_again 74 = .ok (.putfield 122, 3) := dAt wdX12_again_60 adX12_again_60.2.2.2.2.2.2.2.2.1 rfl
theorem dX12_again_77 : decode cX12_again 77 = .ok (.aload_n 0, 1) := dAt wdX12_again_60 adX12_again_60.2.2.2.2.2.2.2.2.2.1 rfl
theorem dX12_again_78 : decode cX12_again 78 = .ok (.getfield 122, 3) := dAt wdX12_again_60 adX12_again_60.2.2.2.2.2.2.2.2.2.2.1 rfl
theorem dX12_again_81 : decode cX12_again 81 = .ok (.ifCond .le 5, 3) := dAt wdX12_again_60 adX12_again_60.2.2.2.2.2.2.2.2.2.2.2.1 rfl
theorem dX12_again_84 : decode cX12_again 84 = .ok (.iconst 0, 1) := dAt wdX12_again_60 adX12_again_60.2.2.2.2.2.2.2.2.2.2.2.2.1 rfl
theorem dX12_again_85 : decode cX12_again 85 = .ok (.ireturn, 1) := dAt wdX12_again_60 adX12_again_60.2.2.2.2.2.2.2.2.2.2.2.2.2.1 rfl
theorem dX12_again_86 : decode cX12_again 86 = .ok (.aload_n 0, 1) := dAt wdX12_again_60 adX12_again_60.2.2.2.2.2.2.2.2.2.2.2.2.2.2.1 rfl
theorem dX12_again_87 : decode cX12_again 87 = .ok (.getfield 8, 3) := dAt wdX12_again_60 adX12_again_60.2.2.2.2.2.2.2.2.2.2.2.2.2.2.2 rfl
def bdX12_again_90 : ByteArray := .mk #[27, 184, 0, 164, 16, 45, 96, 28, 96, 46, 158, 0, 7, 2, 167, 0, 15, 42, 29, 27, 28, 28, 4]
theorem wdX12_again_90 : LocW cX12_again 90 bdX12_again_90 := loc_of (by decide +kernel)
theorem adX12_again_90 : De bdX12_again_90 0 (.iload_n 1) 1 ∧ De bdX12_again_90 1 (.invokestatic 164) 3 ∧ De bdX12_again_90 4 (.bipush 45) 2 ∧ De bdX12_again_90 6 (.iadd) 1 ∧ De bdX12_again_90 7 (.iload_n 2) 1 ∧ De bdX12_again_90 8 (.iadd) 1 ∧ De bdX12_again_90 9 (.iaload) 1 ∧ De bdX12_again_90 10 (.ifCond .le 7) 3 ∧ De bdX12_again_90 13 (.iconst (-1)) 1 ∧ De bdX12_again_90 14 (.goto 15) 3 ∧ De bdX12_again_90 17 (.aload_n 0) 1 ∧ De bdX12_again_90 18 (.iload_n 3) 1 ∧ De bdX12_again_90 19 (.iload_n 1) 1 ∧ De bdX12_again_90 20 (.iload_n 2) 1 ∧ De bdX12_again_90 21 (.iload_n 2) 1 ∧ De bdX12_again_90 22 (.iconst 1) 1 := by decide +kernel
theorem dX12_again_90 : decode cX12_again 90 = .ok (.iload_n 1, 1) := dAt wdX12_again_90 adX12_again_90.1 rfl
theorem dX12_again_91 : decode cX12_again 91 = .ok (.invokestatic 164, 3) := dAt wdX12_again_90 adX12_again_90.2.1 rfl
theorem dX12_again_94 : decode cX12_again 94 = .ok (.bipush 45, 2) := dAt wdX12_again_90 adX12_again_90.2.2.1 rfl
theorem dX12_again_96 : decode cX12_again 96 = .ok (.iadd, 1) := dAt wdX12_again_90 adX12_again_90.2.2.2.1 rfl
theorem dX12_again_97 : decode cX12_again 97 = .ok (.iload_n 2, 1) := dAt wdX12_again_90 adX12_again_90.2.2.2.2.1 rfl
theorem dX12_again_98 : decode cX12_again 98 = .ok (.iadd, 1) := dAt wdX12_again_90 adX12_again_90.2.2.2.2.2.1 rfl
theorem dX12_again_99 : decode cX12_again 99 = .ok (.iaload, 1) := dAt wdX12_again_90 adX12_again_90.2.2.2.2.2.2.1 rfl
theorem dX12_again_100 : decode cX12_again 100 = .ok (.ifCond .le 7, 3) := dAt wdX12_again_90 adX12_again_90.2.2.2.2.2.2.2.1 rfl
theorem dX12_again_103 : decode cX12_again 103 = .ok (.iconst (-1), 1) := dAt wdX12_again_90 adX12_again_90.2.2.2.2.2.2.2.2.1 rfl
theorem dX12_again_104 : decode cX12_again 104 = .ok (.goto 15, 3) := dAt wdX12_again_90 adX12_again_90.2.2.2.2.2.2.2.2.2.1 rfl
theorem dX12_again_107 : decode cX12_again 107 = .ok (.aload_n 0, 1) := dAt wdX12_again_90 adX12_again_90.2.2.2.2.2.2.2.2.2.2.1 rfl
theorem dX12_again_108 : decode cX12_again 108 = .ok (.iload_n 3, 1) := dAt wdX12_again_90 adX12_again_90.2.2.2.2.2.2.2.2.2.2.2.1 rfl
theorem dX12_again_109 : decode cX12_again 109 = .ok (.iload_n 1, 1) := dAt wdX12_again_90 adX12_again_90.2.2.2.2.2.2.2.2.2.2.2.2.1 rfl
theorem dX12_again_110 : decode cX12_again 110 = .ok (.iload_n 2, 1) := dAt wdX12_again_90 adX12_again_90.2.2.2.2.2.2.2.2.2.2.2.2.2.1 rfl
theorem dX12_again_111 : decode cX12_again 111 = .ok (.iload_n 2, 1) := dAt wdX12_again_90 adX12_again_90.2.2.2.2.2.2.2.2.2.2.2.2.2.2.1 rfl
theorem dX12_again_112 : decode cX12_again 112 = .ok (.iconst 1, 1) := dAt wdX12_again_90 adX12_again_90.2.2.2.2.2.2.2.2.2.2.2.2.2.2.2 rfl
def bdX12_again_113 : ByteArray := .mk #[96, 3, 3, 182, 1, 113, 172]
theorem wdX12_again_113 : LocW cX12_again 113 bdX12_again_113 := loc_of (by decide +kernel)
theorem adX12_again_113 : De bdX12_again_113 0 (.iadd) 1 ∧ De bdX12_again_113 1 (.iconst 0) 1 ∧ De bdX12_again_113 2 (.iconst 0) 1 ∧ De bdX12_again_113 3 (.invokevirtual 369) 3 ∧ De bdX12_again_113 6 (.ireturn) 1 := by decide +kernel
theorem dX12_again_113 : decode cX12_again 113 = .ok (.iadd, 1) := dAt wdX12_again_113 adX12_again_113.1 rfl
theorem dX12_again_114 : decode cX12_again 114 = .ok (.iconst 0, 1) := dAt wdX12_again_113 adX12_again_113.2.1 rfl
theorem dX12_again_115 : decode cX12_again 115 = .ok (.iconst 0, 1) := dAt wdX12_again_113 adX12_again_113.2.2.1 rfl
theorem dX12_again_116 : decode cX12_again 116 = .ok (.invokevirtual 369, 3) := dAt wdX12_again_113 adX12_again_113.2.2.2.1 rfl
theorem dX12_again_119 : decode cX12_again 119 = .ok (.ireturn, 1) := dAt wdX12_again_113 adX12_again_113.2.2.2.2 rfl
def bdX12_slip_0 : ByteArray := .mk #[42, 42, 27, 182, 1, 140, 154, 0, 7, 4, 167, 0, 4, 3, 181, 0, 122, 42, 180, 0, 122, 158, 0, 5, 3, 172, 27, 184, 1, 86]
theorem wdX12_slip_0 : LocW cX12_slip 0 bdX12_slip_0 := loc_of (by decide +kernel)
theorem adX12_slip_0 : De bdX12_slip_0 0 (.aload_n 0) 1 ∧ De bdX12_slip_0 1 (.aload_n 0) 1 ∧ De bdX12_slip_0 2 (.iload_n 1) 1 ∧ De bdX12_slip_0 3 (.invokevirtual 396) 3 ∧ De bdX12_slip_0 6 (.ifCond .ne 7) 3 ∧ De bdX12_slip_0 9 (.iconst 1) 1 ∧ De bdX12_slip_0 10 (.goto 4) 3 ∧ De bdX12_slip_0 13 (.iconst 0) 1 ∧ De bdX12_slip_0 14 (.putfield 122) 3 ∧ De bdX12_slip_0 17 (.aload_n 0) 1 ∧ De bdX12_slip_0 18 (.getfield 122) 3 ∧ De bdX12_slip_0 21 (.ifCond .le 5) 3 ∧ De bdX12_slip_0 24 (.iconst 0) 1 ∧ De bdX12_slip_0 25 (.ireturn) 1 ∧ De bdX12_slip_0 26 (.iload_n 1) 1 ∧ De bdX12_slip_0 27 (.invokestatic 342) 3 := by decide +kernel
theorem dX12_slip_0 : decode cX12_slip 0 = .ok (.aload_n 0, 1) := dAt wdX12_slip_0 adX12_slip_0.1 rfl
theorem dX12_slip_1 : decode cX12_slip 1 = .ok (.aload_n 0, 1) := dAt wdX12_slip_0 adX12_slip_0.2.1 rfl
theorem dX12_slip_2 : decode cX12_slip 2 = .ok (.iload_n 1, 1) := dAt wdX12_slip_0 adX12_slip_0.2.2.1 rfl
theorem dX12_slip_3 : decode cX12_slip 3 = .ok (.invokevirtual 396, 3) := dAt wdX12_slip_0 adX12_slip_0.2.2.2.1 rfl
theorem dX12_slip_6 : decode cX12_slip 6 = .ok (.ifCond .ne 7, 3) := dAt wdX12_slip_0 adX12_slip_0.2.2.2.2.1 rfl
theorem dX12_slip_9 : decode cX12_slip 9 = .ok (.iconst 1, 1) := dAt wdX12_slip_0 adX12_slip_0.2.2.2.2.2.1 rfl
theorem dX12_slip_10 : decode cX12_slip 10 = .ok (.goto 4, 3) := dAt wdX12_slip_0 adX12_slip_0.2.2.2.2.2.2.1 rfl
theorem dX12_slip_13 : decode cX12_slip 13 = .ok (.iconst 0, 1) := dAt wdX12_slip_0 adX12_slip_0.2.2.2.2.2.2.2.1 rfl
theorem dX12_slip_14 : decode cX12_slip 14 = .ok (.putfield 122, 3) := dAt wdX12_slip_0 adX12_slip_0.2.2.2.2.2.2.2.2.1 rfl
theorem dX12_slip_17 : decode cX12_slip 17 = .ok (.aload_n 0, 1) := dAt wdX12_slip_0 adX12_slip_0.2.2.2.2.2.2.2.2.2.1 rfl
theorem dX12_slip_18 : decode cX12_slip 18 = .ok (.getfield 122, 3) := dAt wdX12_slip_0 adX12_slip_0.2.2.2.2.2.2.2.2.2.2.1 rfl
theorem dX12_slip_21 : decode cX12_slip 21 = .ok (.ifCond .le 5, 3) := dAt wdX12_slip_0 adX12_slip_0.2.2.2.2.2.2.2.2.2.2.2.1 rfl
theorem dX12_slip_24 : decode cX12_slip 24 = .ok (.iconst 0, 1) := dAt wdX12_slip_0 adX12_slip_0.2.2.2.2.2.2.2.2.2.2.2.2.1 rfl
theorem dX12_slip_25 : decode cX12_slip 25 = .ok (.ireturn, 1) := dAt wdX12_slip_0 adX12_slip_0.2.2.2.2.2.2.2.2.2.2.2.2.2.1 rfl
theorem dX12_slip_26 : decode cX12_slip 26 = .ok (.iload_n 1, 1) := dAt wdX12_slip_0 adX12_slip_0.2.2.2.2.2.2.2.2.2.2.2.2.2.2.1 rfl
theorem dX12_slip_27 : decode cX12_slip 27 = .ok (.invokestatic 342, 3) := dAt wdX12_slip_0 adX12_slip_0.2.2.2.2.2.2.2.2.2.2.2.2.2.2.2 rfl
def bdX12_slip_30 : ByteArray := .mk #[54, 4, 2, 54, 5, 28, 54, 6, 3, 54, 7, 21, 7, 42, 180, 0, 8, 21, 4, 16, 9, 96, 46, 162, 0, 54, 21, 5]
theorem wdX12_slip_30 : LocW cX12_slip 30 bdX12_slip_30 := loc_of (by decide +kernel)
theorem adX12_slip_30 : De bdX12_slip_30 0 (.istore 4) 2 ∧ De bdX12_slip_30 2 (.iconst (-1)) 1 ∧ De bdX12_slip_30 3 (.istore 5) 2 ∧ De bdX12_slip_30 5 (.iload_n 2) 1 ∧ De bdX12_slip_30 6 (.istore 6) 2 ∧ De bdX12_slip_30 8 (.iconst 0) 1 ∧ De bdX12_slip_30 9 (.istore 7) 2 ∧ De bdX12_slip_30 11 (.iload 7) 2 ∧ De bdX12_slip_30 13 (.aload_n 0) 1 ∧ De bdX12_slip_30 14 (.getfield 8) 3 ∧ De bdX12_slip_30 17 (.iload 4) 2 ∧ De bdX12_slip_30 19 (.bipush 9) 2 ∧ De bdX12_slip_30 21 (.iadd) 1 ∧ De bdX12_slip_30 22 (.iaload) 1 ∧ De bdX12_slip_30 23 (.if_icmp .ge 54) 3 ∧ De bdX12_slip_30 26 (.iload 5) 2 := by decide +kernel
theorem dX12_slip_30 : decode cX12_slip 30 = .ok (.istore 4, 2) := dAt wdX12_slip_30 adX12_slip_30.1 rfl
theorem dX12_slip_32 : decode cX12_slip 32 = .ok (.iconst (-1), 1) := dAt wdX12_slip_30 adX12_slip_30.2.1 rfl
theorem dX12_slip_33 : decode cX12_slip 33 = .ok (.istore 5, 2) := dAt wdX12_slip_30 adX12_slip_30.2.2.1 rfl
theorem dX12_slip_35 : decode cX12_slip 35 = .ok (.iload_n 2, 1) := dAt wdX12_slip_30 adX12_slip_30.2.2.2.1 rfl
theorem dX12_slip_36 : decode cX12_slip 36 = .ok (.istore 6, 2) := dAt wdX12_slip_30 adX12_slip_30.2.2.2.2.1 rfl
theorem dX12_slip_38 : decode cX12_slip 38 = .ok (.iconst 0, 1) := dAt wdX12_slip_30 adX12_slip_30.2.2.2.2.2.1 rfl
theorem dX12_slip_39 : decode cX12_slip 39 = .ok (.istore 7, 2) := dAt wdX12_slip_30 adX12_slip_30.2.2.2.2.2.2.1 rfl
theorem dX12_slip_41 : decode cX12_slip 41 = .ok (.iload 7, 2) := dAt wdX12_slip_30 adX12_slip_30.2.2.2.2.2.2.2.1 rfl
theorem dX12_slip_43 : decode cX12_slip 43 = .ok (.aload_n 0, 1) := dAt wdX12_slip_30 adX12_slip_30.2.2.2.2.2.2.2.2.1 rfl
theorem dX12_slip_44 : decode cX12_slip 44 = .ok (.getfield 8, 3) := dAt wdX12_slip_30 adX12_slip_30.2.2.2.2.2.2.2.2.2.1 rfl
theorem dX12_slip_47 : decode cX12_slip 47 = .ok (.iload 4, 2) := dAt wdX12_slip_30 adX12_slip_30.2.2.2.2.2.2.2.2.2.2.1 rfl
theorem dX12_slip_49 : decode cX12_slip 49 = .ok (.bipush 9, 2) := dAt wdX12_slip_30 adX12_slip_30.2.2.2.2.2.2.2.2.2.2.2.1 rfl
theorem dX12_slip_51 : decode cX12_slip 51 = .ok (.iadd, 1) := dAt wdX12_slip_30 adX12_slip_30.2.2.2.2.2.2.2.2.2.2.2.2.1 rfl
theorem dX12_slip_52 : decode cX12_slip 52 = .ok (.iaload, 1) := dAt wdX12_slip_30 adX12_slip_30.2.2.2.2.2.2.2.2.2.2.2.2.2.1 rfl
theorem dX12_slip_53 : decode cX12_slip 53 = .ok (.if_icmp .ge 54, 3) := dAt wdX12_slip_30 adX12_slip_30.2.2.2.2.2.2.2.2.2.2.2.2.2.2.1 rfl
theorem dX12_slip_56 : decode cX12_slip 56 = .ok (.iload 5, 2) := dAt wdX12_slip_30 adX12_slip_30.2.2.2.2.2.2.2.2.2.2.2.2.2.2.2 rfl
def bdX12_slip_58 : ByteArray := .mk #[2, 160, 0, 48, 28, 155, 0, 44, 42, 180, 0, 8, 21, 4, 17, 1, 176, 96, 21, 7, 96, 46, 184, 0, 143, 154, 0, 6, 167, 0, 15, 21, 6]
theorem wdX12_slip_58 : LocW cX12_slip 58 bdX12_slip_58 := loc_of (by decide +kernel)
theorem adX12_slip_58 : De bdX12_slip_58 0 (.iconst (-1)) 1 ∧ De bdX12_slip_58 1 (.if_icmp .ne 48) 3 ∧ De bdX12_slip_58 4 (.iload_n 2) 1 ∧ De bdX12_slip_58 5 (.ifCond .lt 44) 3 ∧ De bdX12_slip_58 8 (.aload_n 0) 1 ∧ De bdX12_slip_58 9 (.getfield 8) 3 ∧ De bdX12_slip_58 12 (.iload 4) 2 ∧ De bdX12_slip_58 14 (.sipush 432) 3 ∧ De bdX12_slip_58 17 (.iadd) 1 ∧ De bdX12_slip_58 18 (.iload 7) 2 ∧ De bdX12_slip_58 20 (.iadd) 1 ∧ De bdX12_slip_58 21 (.iaload) 1 ∧ De bdX12_slip_58 22 (.invokestatic 143) 3 ∧ De bdX12_slip_58 25 (.ifCond .ne 6) 3 ∧ De bdX12_slip_58 28 (.goto 15) 3 ∧ De bdX12_slip_58 31 (.iload 6) 2 := by decide +kernel
theorem dX12_slip_58 : decode cX12_slip 58 = .ok (.iconst (-1), 1) := dAt wdX12_slip_58 adX12_slip_58.1 rfl
theorem dX12_slip_59 : decode cX12_slip 59 = .ok (.if_icmp .ne 48, 3) := dAt wdX12_slip_58 adX12_slip_58.2.1 rfl
theorem dX12_slip_62 : decode cX12_slip 62 = .ok (.iload_n 2, 1) := dAt wdX12_slip_58 adX12_slip_58.2.2.1 rfl
theorem dX12_slip_63 : decode cX12_slip 63 = .ok (.ifCond .lt 44, 3) := dAt wdX12_slip_58 adX12_slip_58.2.2.2.1 rfl
theorem dX12_slip_66 : decode cX12_slip 66 = .ok (.aload_n 0, 1) := dAt wdX12_slip_58 adX12_slip_58.2.2.2.2.1 rfl
theorem dX12_slip_67 : decode cX12_slip 67 = .ok (.getfield 8, 3) := dAt wdX12_slip_58 adX12_slip_58.2.2.2.2.2.1 rfl
theorem dX12_slip_70 : decode cX12_slip 70 = .ok (.iload 4, 2) := dAt wdX12_slip_58 adX12_slip_58.2.2.2.2.2.2.1 rfl
theorem dX12_slip_72 : decode cX12_slip 72 = .ok (.sipush 432, 3) := dAt wdX12_slip_58 adX12_slip_58.2.2.2.2.2.2.2.1 rfl
theorem dX12_slip_75 : decode cX12_slip 75 = .ok (.iadd, 1) := dAt wdX12_slip_58 adX12_slip_58.2.2.2.2.2.2.2.2.1 rfl
theorem dX12_slip_76 : decode cX12_slip 76 = .ok (.iload 7, 2) := dAt wdX12_slip_58 adX12_slip_58.2.2.2.2.2.2.2.2.2.1 rfl
theorem dX12_slip_78 : decode cX12_slip 78 = .ok (.iadd, 1) := dAt wdX12_slip_58 adX12_slip_58.2.2.2.2.2.2.2.2.2.2.1 rfl
theorem dX12_slip_79 : decode cX12_slip 79 = .ok (.iaload, 1) := dAt wdX12_slip_58 adX12_slip_58.2.2.2.2.2.2.2.2.2.2.2.1 rfl
theorem dX12_slip_80 : decode cX12_slip 80 = .ok (.invokestatic 143, 3) := dAt wdX12_slip_58 adX12_slip_58.2.2.2.2.2.2.2.2.2.2.2.2.1 rfl
theorem dX12_slip_83 : decode cX12_slip 83 = .ok (.ifCond .ne 6, 3) := dAt wdX12_slip_58 adX12_slip_58.2.2.2.2.2.2.2.2.2.2.2.2.2.1 rfl
theorem dX12_slip_86 : decode cX12_slip 86 = .ok (.goto 15, 3) := dAt wdX12_slip_58 adX12_slip_58.2.2.2.2.2.2.2.2.2.2.2.2.2.2.1 rfl
theorem dX12_slip_89 : decode cX12_slip 89 = .ok (.iload 6, 2) := dAt wdX12_slip_58 adX12_slip_58.2.2.2.2.2.2.2.2.2.2.2.2.2.2.2 rfl
def bdX12_slip_91 : ByteArray := .mk #[154, 0, 7, 21, 7, 54, 5, 132, 6, 255, 132, 7, 1, 167, 255, 193, 42, 21, 5, 2, 159, 0, 13, 29, 3, 16, 25, 184, 0, 157, 154, 0, 7, 5]
theorem wdX12_slip_91 : LocW cX12_slip 91 bdX12_slip_91 := loc_of (by decide +kernel)
theorem adX12_slip_91 : De bdX12_slip_91 0 (.ifCond .ne 7) 3 ∧ De bdX12_slip_91 3 (.iload 7) 2 ∧ De bdX12_slip_91 5 (.istore 5) 2 ∧ De bdX12_slip_91 7 (.iinc 6 (-1)) 3 ∧ De bdX12_slip_91 10 (.iinc 7 1) 3 ∧ De bdX12_slip_91 13 (.goto (-63)) 3 ∧ De bdX12_slip_91 16 (.aload_n 0) 1 ∧ De bdX12_slip_91 17 (.iload 5) 2 ∧ De bdX12_slip_91 19 (.iconst (-1)) 1 ∧ De bdX12_slip_91 20 (.if_icmp .eq 13) 3 ∧ De bdX12_slip_91 23 (.iload_n 3) 1 ∧ De bdX12_slip_91 24 (.iconst 0) 1 ∧ De bdX12_slip_91 25 (.bipush 25) 2 ∧ De bdX12_slip_91 27 (.invokestatic 157) 3 ∧ De bdX12_slip_91 30 (.ifCond .ne 7) 3 ∧ De bdX12_slip_91 33 (.iconst 2) 1 := by decide +kernel
theorem dX12_slip_91 : decode cX12_slip 91 = .ok (.ifCond .ne 7, 3) := dAt wdX12_slip_91 adX12_slip_91.1 rfl
theorem dX12_slip_94 : decode cX12_slip 94 = .ok (.iload 7, 2) := dAt wdX12_slip_91 adX12_slip_91.2.1 rfl
theorem dX12_slip_96 : decode cX12_slip 96 = .ok (.istore 5, 2) := dAt wdX12_slip_91 adX12_slip_91.2.2.1 rfl
theorem dX12_slip_98 : decode cX12_slip 98 = .ok (.iinc 6 (-1), 3) := dAt wdX12_slip_91 adX12_slip_91.2.2.2.1 rfl
theorem dX12_slip_101 : decode cX12_slip 101 = .ok (.iinc 7 1, 3) := dAt wdX12_slip_91 adX12_slip_91.2.2.2.2.1 rfl
theorem dX12_slip_104 : decode cX12_slip 104 = .ok (.goto (-63), 3) := dAt wdX12_slip_91 adX12_slip_91.2.2.2.2.2.1 rfl
theorem dX12_slip_107 : decode cX12_slip 107 = .ok (.aload_n 0, 1) := dAt wdX12_slip_91 adX12_slip_91.2.2.2.2.2.2.1 rfl
theorem dX12_slip_108 : decode cX12_slip 108 = .ok (.iload 5, 2) := dAt wdX12_slip_91 adX12_slip_91.2.2.2.2.2.2.2.1 rfl
theorem dX12_slip_110 : decode cX12_slip 110 = .ok (.iconst (-1), 1) := dAt wdX12_slip_91 adX12_slip_91.2.2.2.2.2.2.2.2.1 rfl
theorem dX12_slip_111 : decode cX12_slip 111 = .ok (.if_icmp .eq 13, 3) := dAt wdX12_slip_91 adX12_slip_91.2.2.2.2.2.2.2.2.2.1 rfl
theorem dX12_slip_114 : decode cX12_slip 114 = .ok (.iload_n 3, 1) := dAt wdX12_slip_91 adX12_slip_91.2.2.2.2.2.2.2.2.2.2.1 rfl
theorem dX12_slip_115 : decode cX12_slip 115 = .ok (.iconst 0, 1) := dAt wdX12_slip_91 adX12_slip_91.2.2.2.2.2.2.2.2.2.2.2.1 rfl
theorem dX12_slip_116 : decode cX12_slip 116 = .ok (.bipush 25, 2) := dAt wdX12_slip_91 adX12_slip_91.2.2.2.2.2.2.2.2.2.2.2.2.1 rfl
theorem dX12_slip_118 : decode cX12_slip 118 = .ok (.invokestatic 157, 3) := dAt wdX12_slip_91 adX12_slip_91.2.2.2.2.2.2.2.2.2.2.2.2.2.1 rfl
theorem dX12_slip_121 : decode cX12_slip 121 = .ok (.ifCond .ne 7, 3) := dAt wdX12_slip_91 adX12_slip_91.2.2.2.2.2.2.2.2.2.2.2.2.2.2.1 rfl
theorem dX12_slip_124 : decode cX12_slip 124 = .ok (.iconst 2, 1) := dAt wdX12_slip_91 adX12_slip_91.2.2.2.2.2.2.2.2.2.2.2.2.2.2.2 rfl
def bdX12_slip_125 : ByteArray := .mk #[167, 0, 4, 3, 181, 0, 122, 42, 180, 0, 122, 158, 0, 5, 3, 172, 42, 180, 0, 8, 21, 4, 17, 1, 176, 96, 21, 5, 96, 46]
theorem wdX12_slip_125 : LocW cX12_slip 125 bdX12_slip_125 := loc_of (by decide +kernel)
theorem adX12_slip_125 : De bdX12_slip_125 0 (.goto 4) 3 ∧ De bdX12_slip_125 3 (.iconst 0) 1 ∧ De bdX12_slip_125 4 (.putfield 122) 3 ∧ De bdX12_slip_125 7 (.aload_n 0) 1 ∧ De bdX12_slip_125 8 (.getfield 122) 3 ∧ De bdX12_slip_125 11 (.ifCond .le 5) 3 ∧ De bdX12_slip_125 14 (.iconst 0) 1 ∧ De bdX12_slip_125 15 (.ireturn) 1 ∧ De bdX12_slip_125 16 (.aload_n 0) 1 ∧ De bdX12_slip_125 17 (.getfield 8) 3 ∧ De bdX12_slip_125 20 (.iload 4) 2 ∧ De bdX12_slip_125 22 (.sipush 432) 3 ∧ De bdX12_slip_125 25 (.iadd) 1 ∧ De bdX12_slip_125 26 (.iload 5) 2 ∧ De bdX12_slip_125 28 (.iadd) 1 ∧ De bdX12_slip_125 29 (.iaload) 1 := by decide +kernel
theorem dX12_slip_125 : decode cX12_slip 125 = .ok (.goto 4, 3) := dAt wdX12_slip_125 adX12_slip_125.1 rfl
theorem dX12_slip_128 : decode cX12_slip 128 = .ok (.iconst 0, 1) := dAt wdX12_slip_125 adX12_slip_125.2.1 rfl
theorem dX12_slip_129 : decode cX12_slip 129 = .ok (.putfield 122, 3) := dAt wdX12_slip_125 adX12_slip_125.2.2.1 rfl
theorem dX12_slip_132 : decode cX12_slip 132 = .ok (.aload_n 0, 1) := dAt wdX12_slip_125 adX12_slip_125.2.2.2.1 rfl
theorem dX12_slip_133 : decode cX12_slip 133 = .ok (.getfield 122, 3) := dAt wdX12_slip_125 adX12_slip_125.2.2.2.2.1 rfl
theorem dX12_slip_136 : decode cX12_slip 136 = .ok (.ifCond .le 5, 3) := dAt wdX12_slip_125 adX12_slip_125.2.2.2.2.2.1 rfl
theorem dX12_slip_139 : decode cX12_slip 139 = .ok (.iconst 0, 1) := dAt wdX12_slip_125 adX12_slip_125.2.2.2.2.2.2.1 rfl
theorem dX12_slip_140 : decode cX12_slip 140 = .ok (.ireturn, 1) := dAt wdX12_slip_125 adX12_slip_125.2.2.2.2.2.2.2.1 rfl
theorem dX12_slip_141 : decode cX12_slip 141 = .ok (.aload_n 0, 1) := dAt wdX12_slip_125 adX12_slip_125.2.2.2.2.2.2.2.2.1 rfl
theorem dX12_slip_142 : decode cX12_slip 142 = .ok (.getfield 8, 3) := dAt wdX12_slip_125 adX12_slip_125.2.2.2.2.2.2.2.2.2.1 rfl
theorem dX12_slip_145 : decode cX12_slip 145 = .ok (.iload 4, 2) := dAt wdX12_slip_125 adX12_slip_125.2.2.2.2.2.2.2.2.2.2.1 rfl
theorem dX12_slip_147 : decode cX12_slip 147 = .ok (.sipush 432, 3) := dAt wdX12_slip_125 adX12_slip_125.2.2.2.2.2.2.2.2.2.2.2.1 rfl
theorem dX12_slip_150 : decode cX12_slip 150 = .ok (.iadd, 1) := dAt wdX12_slip_125 adX12_slip_125.2.2.2.2.2.2.2.2.2.2.2.2.1 rfl
theorem dX12_slip_151 : decode cX12_slip 151 = .ok (.iload 5, 2) := dAt wdX12_slip_125 adX12_slip_125.2.2.2.2.2.2.2.2.2.2.2.2.2.1 rfl
theorem dX12_slip_153 : decode cX12_slip 153 = .ok (.iadd, 1) := dAt wdX12_slip_125 adX12_slip_125.2.2.2.2.2.2.2.2.2.2.2.2.2.2.1 rfl
theorem dX12_slip_154 : decode cX12_slip 154 = .ok (.iaload, 1) := dAt wdX12_slip_125 adX12_slip_125.2.2.2.2.2.2.2.2.2.2.2.2.2.2.2 rfl
def bdX12_slip_155 : ByteArray := .mk #[16, 97, 29, 96, 159, 0, 7, 4, 167, 0, 4, 3, 54, 7, 42, 180, 0, 8, 21, 4, 17, 1, 176, 96, 21, 5, 96, 16, 97]
theorem wdX12_slip_155 : LocW cX12_slip 155 bdX12_slip_155 := loc_of (by decide +kernel)
theorem adX12_slip_155 : De bdX12_slip_155 0 (.bipush 97) 2 ∧ De bdX12_slip_155 2 (.iload_n 3) 1 ∧ De bdX12_slip_155 3 (.iadd) 1 ∧ De bdX12_slip_155 4 (.if_icmp .eq 7) 3 ∧ De bdX12_slip_155 7 (.iconst 1) 1 ∧ De bdX12_slip_155 8 (.goto 4) 3 ∧ De bdX12_slip_155 11 (.iconst 0) 1 ∧ De bdX12_slip_155 12 (.istore 7) 2 ∧ De bdX12_slip_155 14 (.aload_n 0) 1 ∧ De bdX12_slip_155 15 (.getfield 8) 3 ∧ De bdX12_slip_155 18 (.iload 4) 2 ∧ De bdX12_slip_155 20 (.sipush 432) 3 ∧ De bdX12_slip_155 23 (.iadd) 1 ∧ De bdX12_slip_155 24 (.iload 5) 2 ∧ De bdX12_slip_155 26 (.iadd) 1 ∧ De bdX12_slip_155 27 (.bipush 97) 2 := by decide +kernel
theorem dX12_slip_155 : decode cX12_slip 155 = .ok (.bipush 97, 2) := dAt wdX12_slip_155 adX12_slip_155.1 rfl
theorem dX12_slip_157 : decode cX12_slip 157 = .ok (.iload_n 3, 1) := dAt wdX12_slip_155 adX12_slip_155.2.1 rfl
theorem dX12_slip_158 : decode cX12_slip 158 = .ok (.iadd, 1) := dAt wdX12_slip_155 adX12_slip_155.2.2.1 rfl
theorem dX12_slip_159 : decode cX12_slip 159 = .ok (.if_icmp .eq 7, 3) := dAt wdX12_slip_155 adX12_slip_155.2.2.2.1 rfl
theorem dX12_slip_162 : decode cX12_slip 162 = .ok (.iconst 1, 1) := dAt wdX12_slip_155 adX12_slip_155.2.2.2.2.1 rfl
theorem dX12_slip_163 : decode cX12_slip 163 = .ok (.goto 4, 3) := dAt wdX12_slip_155 adX12_slip_155.2.2.2.2.2.1 rfl
theorem dX12_slip_166 : decode cX12_slip 166 = .ok (.iconst 0, 1) := dAt wdX12_slip_155 adX12_slip_155.2.2.2.2.2.2.1 rfl
theorem dX12_slip_167 : decode cX12_slip 167 = .ok (.istore 7, 2) := dAt wdX12_slip_155 adX12_slip_155.2.2.2.2.2.2.2.1 rfl
theorem dX12_slip_169 : decode cX12_slip 169 = .ok (.aload_n 0, 1) := dAt wdX12_slip_155 adX12_slip_155.2.2.2.2.2.2.2.2.1 rfl
theorem dX12_slip_170 : decode cX12_slip 170 = .ok (.getfield 8, 3) := dAt wdX12_slip_155 adX12_slip_155.2.2.2.2.2.2.2.2.2.1 rfl
theorem dX12_slip_173 : decode cX12_slip 173 = .ok (.iload 4, 2) := dAt wdX12_slip_155 adX12_slip_155.2.2.2.2.2.2.2.2.2.2.1 rfl
theorem dX12_slip_175 : decode cX12_slip 175 = .ok (.sipush 432, 3) := dAt wdX12_slip_155 adX12_slip_155.2.2.2.2.2.2.2.2.2.2.2.1 rfl
theorem dX12_slip_178 : decode cX12_slip 178 = .ok (.iadd, 1) := dAt wdX12_slip_155 adX12_slip_155.2.2.2.2.2.2.2.2.2.2.2.2.1 rfl
theorem dX12_slip_179 : decode cX12_slip 179 = .ok (.iload 5, 2) := dAt wdX12_slip_155 adX12_slip_155.2.2.2.2.2.2.2.2.2.2.2.2.2.1 rfl
theorem dX12_slip_181 : decode cX12_slip 181 = .ok (.iadd, 1) := dAt wdX12_slip_155 adX12_slip_155.2.2.2.2.2.2.2.2.2.2.2.2.2.2.1 rfl
theorem dX12_slip_182 : decode cX12_slip 182 = .ok (.bipush 97, 2) := dAt wdX12_slip_155 adX12_slip_155.2.2.2.2.2.2.2.2.2.2.2.2.2.2.2 rfl
def bdX12_slip_184 : ByteArray := .mk #[29, 96, 79, 21, 7, 172]
theorem wdX12_slip_184 : LocW cX12_slip 184 bdX12_slip_184 := loc_of (by decide +kernel)
theorem adX12_slip_184 : De bdX12_slip_184 0 (.iload_n 3) 1 ∧ De bdX12_slip_184 1 (.iadd) 1 ∧ De bdX12_slip_184 2 (.iastore) 1 ∧ De bdX12_slip_184 3 (.iload 7) 2 ∧ De bdX12_slip_184 5 (.ireturn) 1 := by decide +kernel
theorem dX12_slip_184 : decode cX12_slip 184 = .ok (.iload_n 3, 1) := dAt wdX12_slip_184 adX12_slip_184.1 rfl
theorem dX12_slip_185 : decode cX12_slip 185 = .ok (.iadd, 1) := dAt wdX12_slip_184 adX12_slip_184.2.1 rfl
theorem dX12_slip_186 : decode cX12_slip 186 = .ok (.iastore, 1) := dAt wdX12_slip_184 adX12_slip_184.2.2.1 rfl
theorem dX12_slip_187 : decode cX12_slip 187 = .ok (.iload 7, 2) := dAt wdX12_slip_184 adX12_slip_184.2.2.2.1 rfl
theorem dX12_slip_189 : decode cX12_slip 189 = .ok (.ireturn, 1) := dAt wdX12_slip_184 adX12_slip_184.2.2.2.2 rfl
def bdX12_readOne_0 : ByteArray := .mk #[42, 3, 181, 0, 140, 42, 180, 0, 36, 3, 3, 79, 42, 182, 0, 147, 42, 180, 0, 137, 42, 180, 0, 134, 162, 0, 18, 42]
theorem wdX12_readOne_0 : LocW cX12_readOne 0 bdX12_readOne_0 := loc_of (by decide +kernel)
theorem adX12_readOne_0 : De bdX12_readOne_0 0 (.aload_n 0) 1 ∧ De bdX12_readOne_0 1 (.iconst 0) 1 ∧ De bdX12_readOne_0 2 (.putfield 140) 3 ∧ De bdX12_readOne_0 5 (.aload_n 0) 1 ∧ De bdX12_readOne_0 6 (.getfield 36) 3 ∧ De bdX12_readOne_0 9 (.iconst 0) 1 ∧ De bdX12_readOne_0 10 (.iconst 0) 1 ∧ De bdX12_readOne_0 11 (.iastore) 1 ∧ De bdX12_readOne_0 12 (.aload_n 0) 1 ∧ De bdX12_readOne_0 13 (.invokevirtual 147) 3 ∧ De bdX12_readOne_0 16 (.aload_n 0) 1 ∧ De bdX12_readOne_0 17 (.getfield 137) 3 ∧ De bdX12_readOne_0 20 (.aload_n 0) 1 ∧ De bdX12_readOne_0 21 (.getfield 134) 3 ∧ De bdX12_readOne_0 24 (.if_icmp .ge 18) 3 ∧ De bdX12_readOne_0 27 (.aload_n 0) 1 := by decide +kernel
theorem dX12_readOne_0 : decode cX12_readOne 0 = .ok (.aload_n 0, 1) := dAt wdX12_readOne_0 adX12_readOne_0.1 rfl
theorem dX12_readOne_1 : decode cX12_readOne 1 = .ok (.iconst 0, 1) := dAt wdX12_readOne_0 adX12_readOne_0.2.1 rfl
theorem dX12_readOne_2 : decode cX12_readOne 2 = .ok (.putfield 140, 3) := dAt wdX12_readOne_0 adX12_readOne_0.2.2.1 rfl
theorem dX12_readOne_5 : decode cX12_readOne 5 = .ok (.aload_n 0, 1) := dAt wdX12_readOne_0 adX12_readOne_0.2.2.2.1 rfl
theorem dX12_readOne_6 : decode cX12_readOne 6 = .ok (.getfield 36, 3) := dAt wdX12_readOne_0 adX12_readOne_0.2.2.2.2.1 rfl
theorem dX12_readOne_9 : decode cX12_readOne 9 = .ok (.iconst 0, 1) := dAt wdX12_readOne_0 adX12_readOne_0.2.2.2.2.2.1 rfl
theorem dX12_readOne_10 : decode cX12_readOne 10 = .ok (.iconst 0, 1) := dAt wdX12_readOne_0 adX12_readOne_0.2.2.2.2.2.2.1 rfl
theorem dX12_readOne_11 : decode cX12_readOne 11 = .ok (.iastore, 1) := dAt wdX12_readOne_0 adX12_readOne_0.2.2.2.2.2.2.2.1 rfl
theorem dX12_readOne_12 : decode cX12_readOne 12 = .ok (.aload_n 0, 1) := dAt wdX12_readOne_0 adX12_readOne_0.2.2.2.2.2.2.2.2.1 rfl
theorem dX12_readOne_13 : decode cX12_readOne 13 = .ok (.invokevirtual 147, 3) := dAt wdX12_readOne_0 adX12_readOne_0.2.2.2.2.2.2.2.2.2.1 rfl
theorem dX12_readOne_16 : decode cX12_readOne 16 = .ok (.aload_n 0, 1) := dAt wdX12_readOne_0 adX12_readOne_0.2.2.2.2.2.2.2.2.2.2.1 rfl
theorem dX12_readOne_17 : decode cX12_readOne 17 = .ok (.getfield 137, 3) := dAt wdX12_readOne_0 adX12_readOne_0.2.2.2.2.2.2.2.2.2.2.2.1 rfl
theorem dX12_readOne_20 : decode cX12_readOne 20 = .ok (.aload_n 0, 1) := dAt wdX12_readOne_0 adX12_readOne_0.2.2.2.2.2.2.2.2.2.2.2.2.1 rfl
theorem dX12_readOne_21 : decode cX12_readOne 21 = .ok (.getfield 134, 3) := dAt wdX12_readOne_0 adX12_readOne_0.2.2.2.2.2.2.2.2.2.2.2.2.2.1 rfl
theorem dX12_readOne_24 : decode cX12_readOne 24 = .ok (.if_icmp .ge 18, 3) := dAt wdX12_readOne_0 adX12_readOne_0.2.2.2.2.2.2.2.2.2.2.2.2.2.2.1 rfl
theorem dX12_readOne_27 : decode cX12_readOne 27 = .ok (.aload_n 0, 1) := dAt wdX12_readOne_0 adX12_readOne_0.2.2.2.2.2.2.2.2.2.2.2.2.2.2.2 rfl
def bdX12_readOne_28 : ByteArray := .mk #[180, 0, 20, 42, 180, 0, 137, 46, 184, 0, 143, 154, 0, 8, 42, 182, 0, 223, 172, 42, 3, 3, 27, 182, 0, 150, 154, 0, 5, 3]
theorem wdX12_readOne_28 : LocW cX12_readOne 28 bdX12_readOne_28 := loc_of (by decide +kernel)
theorem adX12_readOne_28 : De bdX12_readOne_28 0 (.getfield 20) 3 ∧ De bdX12_readOne_28 3 (.aload_n 0) 1 ∧ De bdX12_readOne_28 4 (.getfield 137) 3 ∧ De bdX12_readOne_28 7 (.iaload) 1 ∧ De bdX12_readOne_28 8 (.invokestatic 143) 3 ∧ De bdX12_readOne_28 11 (.ifCond .ne 8) 3 ∧ De bdX12_readOne_28 14 (.aload_n 0) 1 ∧ De bdX12_readOne_28 15 (.invokevirtual 223) 3 ∧ De bdX12_readOne_28 18 (.ireturn) 1 ∧ De bdX12_readOne_28 19 (.aload_n 0) 1 ∧ De bdX12_readOne_28 20 (.iconst 0) 1 ∧ De bdX12_readOne_28 21 (.iconst 0) 1 ∧ De bdX12_readOne_28 22 (.iload_n 1) 1 ∧ De bdX12_readOne_28 23 (.invokevirtual 150) 3 ∧ De bdX12_readOne_28 26 (.ifCond .ne 5) 3 ∧ De bdX12_readOne_28 29 (.iconst 0) 1 := by decide +kernel
theorem dX12_readOne_28 : decode cX12_readOne 28 = .ok (.getfield 20, 3) := dAt wdX12_readOne_28 adX12_readOne_28.1 rfl
theorem dX12_readOne_31 : decode cX12_readOne 31 = .ok (.aload_n 0, 1) := dAt wdX12_readOne_28 adX12_readOne_28.2.1 rfl
theorem dX12_readOne_32 : decode cX12_readOne 32 = .ok (.getfield 137, 3) := dAt wdX12_readOne_28 adX12_readOne_28.2.2.1 rfl
theorem dX12_readOne_35 : decode cX12_readOne 35 = .ok (.iaload, 1) := dAt wdX12_readOne_28 adX12_readOne_28.2.2.2.1 rfl
theorem dX12_readOne_36 : decode cX12_readOne 36 = .ok (.invokestatic 143, 3) := dAt wdX12_readOne_28 adX12_readOne_28.2.2.2.2.1 rfl
theorem dX12_readOne_39 : decode cX12_readOne 39 = .ok (.ifCond .ne 8, 3) := dAt wdX12_readOne_28 adX12_readOne_28.2.2.2.2.2.1 rfl
theorem dX12_readOne_42 : decode cX12_readOne 42 = .ok (.aload_n 0, 1) := dAt wdX12_readOne_28 adX12_readOne_28.2.2.2.2.2.2.1 rfl
theorem dX12_readOne_43 : decode cX12_readOne 43 = .ok (.invokevirtual 223, 3) := dAt wdX12_readOne_28 adX12_readOne_28.2.2.2.2.2.2.2.1 rfl
theorem dX12_readOne_46 : decode cX12_readOne 46 = .ok (.ireturn, 1) := dAt wdX12_readOne_28 adX12_readOne_28.2.2.2.2.2.2.2.2.1 rfl
theorem dX12_readOne_47 : decode cX12_readOne 47 = .ok (.aload_n 0, 1) := dAt wdX12_readOne_28 adX12_readOne_28.2.2.2.2.2.2.2.2.2.1 rfl
theorem dX12_readOne_48 : decode cX12_readOne 48 = .ok (.iconst 0, 1) := dAt wdX12_readOne_28 adX12_readOne_28.2.2.2.2.2.2.2.2.2.2.1 rfl
theorem dX12_readOne_49 : decode cX12_readOne 49 = .ok (.iconst 0, 1) := dAt wdX12_readOne_28 adX12_readOne_28.2.2.2.2.2.2.2.2.2.2.2.1 rfl
theorem dX12_readOne_50 : decode cX12_readOne 50 = .ok (.iload_n 1, 1) := dAt wdX12_readOne_28 adX12_readOne_28.2.2.2.2.2.2.2.2.2.2.2.2.1 rfl
theorem dX12_readOne_51 : decode cX12_readOne 51 = .ok (.invokevirtual 150, 3) := dAt wdX12_readOne_28 adX12_readOne_28.2.2.2.2.2.2.2.2.2.2.2.2.2.1 rfl
theorem dX12_readOne_54 : decode cX12_readOne 54 = .ok (.ifCond .ne 5, 3) := dAt wdX12_readOne_28 adX12_readOne_28.2.2.2.2.2.2.2.2.2.2.2.2.2.2.1 rfl
theorem dX12_readOne_57 : decode cX12_readOne 57 = .ok (.iconst 0, 1) := dAt wdX12_readOne_28 adX12_readOne_28.2.2.2.2.2.2.2.2.2.2.2.2.2.2.2 rfl
def bdX12_readOne_58 : ByteArray := .mk #[172, 42, 182, 0, 147, 42, 180, 0, 137, 42, 180, 0, 134, 162, 0, 10, 42, 182, 0, 223, 153, 0, 7, 4, 167, 0, 4, 3, 172]
theorem wdX12_readOne_58 : LocW cX12_readOne 58 bdX12_readOne_58 := loc_of (by decide +kernel)
theorem adX12_readOne_58 : De bdX12_readOne_58 0 (.ireturn) 1 ∧ De bdX12_readOne_58 1 (.aload_n 0) 1 ∧ De bdX12_readOne_58 2 (.invokevirtual 147) 3 ∧ De bdX12_readOne_58 5 (.aload_n 0) 1 ∧ De bdX12_readOne_58 6 (.getfield 137) 3 ∧ De bdX12_readOne_58 9 (.aload_n 0) 1 ∧ De bdX12_readOne_58 10 (.getfield 134) 3 ∧ De bdX12_readOne_58 13 (.if_icmp .ge 10) 3 ∧ De bdX12_readOne_58 16 (.aload_n 0) 1 ∧ De bdX12_readOne_58 17 (.invokevirtual 223) 3 ∧ De bdX12_readOne_58 20 (.ifCond .eq 7) 3 ∧ De bdX12_readOne_58 23 (.iconst 1) 1 ∧ De bdX12_readOne_58 24 (.goto 4) 3 ∧ De bdX12_readOne_58 27 (.iconst 0) 1 ∧ De bdX12_readOne_58 28 (.ireturn) 1 := by decide +kernel
theorem dX12_readOne_58 : decode cX12_readOne 58 = .ok (.ireturn, 1) := dAt wdX12_readOne_58 adX12_readOne_58.1 rfl
theorem dX12_readOne_59 : decode cX12_readOne 59 = .ok (.aload_n 0, 1) := dAt wdX12_readOne_58 adX12_readOne_58.2.1 rfl
theorem dX12_readOne_60 : decode cX12_readOne 60 = .ok (.invokevirtual 147, 3) := dAt wdX12_readOne_58 adX12_readOne_58.2.2.1 rfl
theorem dX12_readOne_63 : decode cX12_readOne 63 = .ok (.aload_n 0, 1) := dAt wdX12_readOne_58 adX12_readOne_58.2.2.2.1 rfl
theorem dX12_readOne_64 : decode cX12_readOne 64 = .ok (.getfield 137, 3) := dAt wdX12_readOne_58 adX12_readOne_58.2.2.2.2.1 rfl
theorem dX12_readOne_67 : decode cX12_readOne 67 = .ok (.aload_n 0, 1) := dAt wdX12_readOne_58 adX12_readOne_58.2.2.2.2.2.1 rfl
theorem dX12_readOne_68 : decode cX12_readOne 68 = .ok (.getfield 134, 3) := dAt wdX12_readOne_58 adX12_readOne_58.2.2.2.2.2.2.1 rfl
theorem dX12_readOne_71 : decode cX12_readOne 71 = .ok (.if_icmp .ge 10, 3) := dAt wdX12_readOne_58 adX12_readOne_58.2.2.2.2.2.2.2.1 rfl
theorem dX12_readOne_74 : decode cX12_readOne 74 = .ok (.aload_n 0, 1) := dAt wdX12_readOne_58 adX12_readOne_58.2.2.2.2.2.2.2.2.1 rfl
theorem dX12_readOne_75 : decode cX12_readOne 75 = .ok (.invokevirtual 223, 3) := dAt wdX12_readOne_58 adX12_readOne_58.2.2.2.2.2.2.2.2.2.1 rfl
theorem dX12_readOne_78 : decode cX12_readOne 78 = .ok (.ifCond .eq 7, 3) := dAt wdX12_readOne_58 adX12_readOne_58.2.2.2.2.2.2.2.2.2.2.1 rfl
theorem dX12_readOne_81 : decode cX12_readOne 81 = .ok (.iconst 1, 1) := dAt wdX12_readOne_58 adX12_readOne_58.2.2.2.2.2.2.2.2.2.2.2.1 rfl
theorem dX12_readOne_82 : decode cX12_readOne 82 = .ok (.goto 4, 3) := dAt wdX12_readOne_58 adX12_readOne_58.2.2.2.2.2.2.2.2.2.2.2.2.1 rfl
theorem dX12_readOne_85 : decode cX12_readOne 85 = .ok (.iconst 0, 1) := dAt wdX12_readOne_58 adX12_readOne_58.2.2.2.2.2.2.2.2.2.2.2.2.2.1 rfl
theorem dX12_readOne_86 : decode cX12_readOne 86 = .ok (.ireturn, 1) := dAt wdX12_readOne_58 adX12_readOne_58.2.2.2.2.2.2.2.2.2.2.2.2.2.2 rfl
def bdX12_hasJob_0 : ByteArray := .mk #[3, 61, 3, 62, 29, 42, 180, 0, 8, 6, 46, 162, 0, 66, 3, 54, 4, 21, 4, 42, 180, 0, 8, 29]
theorem wdX12_hasJob_0 : LocW cX12_hasJob 0 bdX12_hasJob_0 := loc_of (by decide +kernel)
theorem adX12_hasJob_0 : De bdX12_hasJob_0 0 (.iconst 0) 1 ∧ De bdX12_hasJob_0 1 (.istore_n 2) 1 ∧ De bdX12_hasJob_0 2 (.iconst 0) 1 ∧ De bdX12_hasJob_0 3 (.istore_n 3) 1 ∧ De bdX12_hasJob_0 4 (.iload_n 3) 1 ∧ De bdX12_hasJob_0 5 (.aload_n 0) 1 ∧ De bdX12_hasJob_0 6 (.getfield 8) 3 ∧ De bdX12_hasJob_0 9 (.iconst 3) 1 ∧ De bdX12_hasJob_0 10 (.iaload) 1 ∧ De bdX12_hasJob_0 11 (.if_icmp .ge 66) 3 ∧ De bdX12_hasJob_0 14 (.iconst 0) 1 ∧ De bdX12_hasJob_0 15 (.istore 4) 2 ∧ De bdX12_hasJob_0 17 (.iload 4) 2 ∧ De bdX12_hasJob_0 19 (.aload_n 0) 1 ∧ De bdX12_hasJob_0 20 (.getfield 8) 3 ∧ De bdX12_hasJob_0 23 (.iload_n 3) 1 := by decide +kernel
theorem dX12_hasJob_0 : decode cX12_hasJob 0 = .ok (.iconst 0, 1) := dAt wdX12_hasJob_0 adX12_hasJob_0.1 rfl
theorem dX12_hasJob_1 : decode cX12_hasJob 1 = .ok (.istore_n 2, 1) := dAt wdX12_hasJob_0 adX12_hasJob_0.2.1 rfl
theorem dX12_hasJob_2 : decode cX12_hasJob 2 = .ok (.iconst 0, 1) := dAt wdX12_hasJob_0 adX12_hasJob_0.2.2.1 rfl
theorem dX12_hasJob_3 : decode cX12_hasJob 3 = .ok (.istore_n 3, 1) := dAt wdX12_hasJob_0 adX12_hasJob_0.2.2.2.1 rfl
theorem dX12_hasJob_4 : decode cX12_hasJob 4 = .ok (.iload_n 3, 1) := dAt wdX12_hasJob_0 adX12_hasJob_0.2.2.2.2.1 rfl
theorem dX12_hasJob_5 : decode cX12_hasJob 5 = .ok (.aload_n 0, 1) := dAt wdX12_hasJob_0 adX12_hasJob_0.2.2.2.2.2.1 rfl
theorem dX12_hasJob_6 : decode cX12_hasJob 6 = .ok (.getfield 8, 3) := dAt wdX12_hasJob_0 adX12_hasJob_0.2.2.2.2.2.2.1 rfl
theorem dX12_hasJob_9 : decode cX12_hasJob 9 = .ok (.iconst 3, 1) := dAt wdX12_hasJob_0 adX12_hasJob_0.2.2.2.2.2.2.2.1 rfl
theorem dX12_hasJob_10 : decode cX12_hasJob 10 = .ok (.iaload, 1) := dAt wdX12_hasJob_0 adX12_hasJob_0.2.2.2.2.2.2.2.2.1 rfl
theorem dX12_hasJob_11 : decode cX12_hasJob 11 = .ok (.if_icmp .ge 66, 3) := dAt wdX12_hasJob_0 adX12_hasJob_0.2.2.2.2.2.2.2.2.2.1 rfl
theorem dX12_hasJob_14 : decode cX12_hasJob 14 = .ok (.iconst 0, 1) := dAt wdX12_hasJob_0 adX12_hasJob_0.2.2.2.2.2.2.2.2.2.2.1 rfl
theorem dX12_hasJob_15 : decode cX12_hasJob 15 = .ok (.istore 4, 2) := dAt wdX12_hasJob_0 adX12_hasJob_0.2.2.2.2.2.2.2.2.2.2.2.1 rfl
theorem dX12_hasJob_17 : decode cX12_hasJob 17 = .ok (.iload 4, 2) := dAt wdX12_hasJob_0 adX12_hasJob_0.2.2.2.2.2.2.2.2.2.2.2.2.1 rfl
theorem dX12_hasJob_19 : decode cX12_hasJob 19 = .ok (.aload_n 0, 1) := dAt wdX12_hasJob_0 adX12_hasJob_0.2.2.2.2.2.2.2.2.2.2.2.2.2.1 rfl
theorem dX12_hasJob_20 : decode cX12_hasJob 20 = .ok (.getfield 8, 3) := dAt wdX12_hasJob_0 adX12_hasJob_0.2.2.2.2.2.2.2.2.2.2.2.2.2.2.1 rfl
theorem dX12_hasJob_23 : decode cX12_hasJob 23 = .ok (.iload_n 3, 1) := dAt wdX12_hasJob_0 adX12_hasJob_0.2.2.2.2.2.2.2.2.2.2.2.2.2.2.2 rfl
def bdX12_hasJob_24 : ByteArray := .mk #[184, 1, 104, 16, 29, 96, 46, 162, 0, 40, 28, 154, 0, 24, 42, 180, 0, 8, 29, 184, 1, 104, 16, 33, 96, 8, 21, 4, 104]
theorem wdX12_hasJob_24 : LocW cX12_hasJob 24 bdX12_hasJob_24 := loc_of (by decide +kernel)
theorem adX12_hasJob_24 : De bdX12_hasJob_24 0 (.invokestatic 360) 3 ∧ De bdX12_hasJob_24 3 (.bipush 29) 2 ∧ De bdX12_hasJob_24 5 (.iadd) 1 ∧ De bdX12_hasJob_24 6 (.iaload) 1 ∧ De bdX12_hasJob_24 7 (.if_icmp .ge 40) 3 ∧ De bdX12_hasJob_24 10 (.iload_n 2) 1 ∧ De bdX12_hasJob_24 11 (.ifCond .ne 24) 3 ∧ De bdX12_hasJob_24 14 (.aload_n 0) 1 ∧ De bdX12_hasJob_24 15 (.getfield 8) 3 ∧ De bdX12_hasJob_24 18 (.iload_n 3) 1 ∧ De bdX12_hasJob_24 19 (.invokestatic 360) 3 ∧ De bdX12_hasJob_24 22 (.bipush 33) 2 ∧ De bdX12_hasJob_24 24 (.iadd) 1 ∧ De bdX12_hasJob_24 25 (.iconst 5) 1 ∧ De bdX12_hasJob_24 26 (.iload 4) 2 ∧ De bdX12_hasJob_24 28 (.imul) 1 := by decide +kernel
theorem dX12_hasJob_24 : decode cX12_hasJob 24 = .ok (.invokestatic 360, 3) := dAt wdX12_hasJob_24 adX12_hasJob_24.1 rfl
theorem dX12_hasJob_27 : decode cX12_hasJob 27 = .ok (.bipush 29, 2) := dAt wdX12_hasJob_24 adX12_hasJob_24.2.1 rfl
theorem dX12_hasJob_29 : decode cX12_hasJob 29 = .ok (.iadd, 1) := dAt wdX12_hasJob_24 adX12_hasJob_24.2.2.1 rfl
theorem dX12_hasJob_30 : decode cX12_hasJob 30 = .ok (.iaload, 1) := dAt wdX12_hasJob_24 adX12_hasJob_24.2.2.2.1 rfl
theorem dX12_hasJob_31 : decode cX12_hasJob 31 = .ok (.if_icmp .ge 40, 3) := dAt wdX12_hasJob_24 adX12_hasJob_24.2.2.2.2.1 rfl
theorem dX12_hasJob_34 : decode cX12_hasJob 34 = .ok (.iload_n 2, 1) := dAt wdX12_hasJob_24 adX12_hasJob_24.2.2.2.2.2.1 rfl
theorem dX12_hasJob_35 : decode cX12_hasJob 35 = .ok (.ifCond .ne 24, 3) := dAt wdX12_hasJob_24 adX12_hasJob_24.2.2.2.2.2.2.1 rfl
theorem dX12_hasJob_38 : decode cX12_hasJob 38 = .ok (.aload_n 0, 1) := dAt wdX12_hasJob_24 adX12_hasJob_24.2.2.2.2.2.2.2.1 rfl
theorem dX12_hasJob_39 : decode cX12_hasJob 39 = .ok (.getfield 8, 3) := dAt wdX12_hasJob_24 adX12_hasJob_24.2.2.2.2.2.2.2.2.1 rfl
theorem dX12_hasJob_42 : decode cX12_hasJob 42 = .ok (.iload_n 3, 1) := dAt wdX12_hasJob_24 adX12_hasJob_24.2.2.2.2.2.2.2.2.2.1 rfl
theorem dX12_hasJob_43 : decode cX12_hasJob 43 = .ok (.invokestatic 360, 3) := dAt wdX12_hasJob_24 adX12_hasJob_24.2.2.2.2.2.2.2.2.2.2.1 rfl
theorem dX12_hasJob_46 : decode cX12_hasJob 46 = .ok (.bipush 33, 2) := dAt wdX12_hasJob_24 adX12_hasJob_24.2.2.2.2.2.2.2.2.2.2.2.1 rfl
theorem dX12_hasJob_48 : decode cX12_hasJob 48 = .ok (.iadd, 1) := dAt wdX12_hasJob_24 adX12_hasJob_24.2.2.2.2.2.2.2.2.2.2.2.2.1 rfl
theorem dX12_hasJob_49 : decode cX12_hasJob 49 = .ok (.iconst 5, 1) := dAt wdX12_hasJob_24 adX12_hasJob_24.2.2.2.2.2.2.2.2.2.2.2.2.2.1 rfl
theorem dX12_hasJob_50 : decode cX12_hasJob 50 = .ok (.iload 4, 2) := dAt wdX12_hasJob_24 adX12_hasJob_24.2.2.2.2.2.2.2.2.2.2.2.2.2.2.1 rfl
theorem dX12_hasJob_52 : decode cX12_hasJob 52 = .ok (.imul, 1) := dAt wdX12_hasJob_24 adX12_hasJob_24.2.2.2.2.2.2.2.2.2.2.2.2.2.2.2 rfl
def bdX12_hasJob_53 : ByteArray := .mk #[96, 46, 27, 160, 0, 7, 4, 167, 0, 4, 3, 61, 132, 4, 1, 167, 255, 205, 132, 3, 1, 167, 255, 186, 28, 172]
theorem wdX12_hasJob_53 : LocW cX12_hasJob 53 bdX12_hasJob_53 := loc_of (by decide +kernel)
theorem adX12_hasJob_53 : De bdX12_hasJob_53 0 (.iadd) 1 ∧ De bdX12_hasJob_53 1 (.iaload) 1 ∧ De bdX12_hasJob_53 2 (.iload_n 1) 1 ∧ De bdX12_hasJob_53 3 (.if_icmp .ne 7) 3 ∧ De bdX12_hasJob_53 6 (.iconst 1) 1 ∧ De bdX12_hasJob_53 7 (.goto 4) 3 ∧ De bdX12_hasJob_53 10 (.iconst 0) 1 ∧ De bdX12_hasJob_53 11 (.istore_n 2) 1 ∧ De bdX12_hasJob_53 12 (.iinc 4 1) 3 ∧ De bdX12_hasJob_53 15 (.goto (-51)) 3 ∧ De bdX12_hasJob_53 18 (.iinc 3 1) 3 ∧ De bdX12_hasJob_53 21 (.goto (-70)) 3 ∧ De bdX12_hasJob_53 24 (.iload_n 2) 1 ∧ De bdX12_hasJob_53 25 (.ireturn) 1 := by decide +kernel
theorem dX12_hasJob_53 : decode cX12_hasJob 53 = .ok (.iadd, 1) := dAt wdX12_hasJob_53 adX12_hasJob_53.1 rfl
theorem dX12_hasJob_54 : decode cX12_hasJob 54 = .ok (.iaload, 1) := dAt wdX12_hasJob_53 adX12_hasJob_53.2.1 rfl
theorem dX12_hasJob_55 : decode cX12_hasJob 55 = .ok (.iload_n 1, 1) := dAt wdX12_hasJob_53 adX12_hasJob_53.2.2.1 rfl
theorem dX12_hasJob_56 : decode cX12_hasJob 56 = .ok (.if_icmp .ne 7, 3) := dAt wdX12_hasJob_53 adX12_hasJob_53.2.2.2.1 rfl
theorem dX12_hasJob_59 : decode cX12_hasJob 59 = .ok (.iconst 1, 1) := dAt wdX12_hasJob_53 adX12_hasJob_53.2.2.2.2.1 rfl
theorem dX12_hasJob_60 : decode cX12_hasJob 60 = .ok (.goto 4, 3) := dAt wdX12_hasJob_53 adX12_hasJob_53.2.2.2.2.2.1 rfl
theorem dX12_hasJob_63 : decode cX12_hasJob 63 = .ok (.iconst 0, 1) := dAt wdX12_hasJob_53 adX12_hasJob_53.2.2.2.2.2.2.1 rfl
theorem dX12_hasJob_64 : decode cX12_hasJob 64 = .ok (.istore_n 2, 1) := dAt wdX12_hasJob_53 adX12_hasJob_53.2.2.2.2.2.2.2.1 rfl
theorem dX12_hasJob_65 : decode cX12_hasJob 65 = .ok (.iinc 4 1, 3) := dAt wdX12_hasJob_53 adX12_hasJob_53.2.2.2.2.2.2.2.2.1 rfl
theorem dX12_hasJob_68 : decode cX12_hasJob 68 = .ok (.goto (-51), 3) := dAt wdX12_hasJob_53 adX12_hasJob_53.2.2.2.2.2.2.2.2.2.1 rfl
theorem dX12_hasJob_71 : decode cX12_hasJob 71 = .ok (.iinc 3 1, 3) := dAt wdX12_hasJob_53 adX12_hasJob_53.2.2.2.2.2.2.2.2.2.2.1 rfl
theorem dX12_hasJob_74 : decode cX12_hasJob 74 = .ok (.goto (-70), 3) := dAt wdX12_hasJob_53 adX12_hasJob_53.2.2.2.2.2.2.2.2.2.2.2.1 rfl
theorem dX12_hasJob_77 : decode cX12_hasJob 77 = .ok (.iload_n 2, 1) := dAt wdX12_hasJob_53 adX12_hasJob_53.2.2.2.2.2.2.2.2.2.2.2.2.1 rfl
theorem dX12_hasJob_78 : decode cX12_hasJob 78 = .ok (.ireturn, 1) := dAt wdX12_hasJob_53 adX12_hasJob_53.2.2.2.2.2.2.2.2.2.2.2.2.2 rfl
def bdX12_changes_0 : ByteArray := .mk #[42, 180, 0, 8, 27, 4, 96, 46, 54, 5, 42, 180, 0, 36, 3, 46, 21, 4, 100, 54, 6, 29, 21, 4]
theorem wdX12_changes_0 : LocW cX12_changes 0 bdX12_changes_0 := loc_of (by decide +kernel)
theorem adX12_changes_0 : De bdX12_changes_0 0 (.aload_n 0) 1 ∧ De bdX12_changes_0 1 (.getfield 8) 3 ∧ De bdX12_changes_0 4 (.iload_n 1) 1 ∧ De bdX12_changes_0 5 (.iconst 1) 1 ∧ De bdX12_changes_0 6 (.iadd) 1 ∧ De bdX12_changes_0 7 (.iaload) 1 ∧ De bdX12_changes_0 8 (.istore 5) 2 ∧ De bdX12_changes_0 10 (.aload_n 0) 1 ∧ De bdX12_changes_0 11 (.getfield 36) 3 ∧ De bdX12_changes_0 14 (.iconst 0) 1 ∧ De bdX12_changes_0 15 (.iaload) 1 ∧ De bdX12_changes_0 16 (.iload 4) 2 ∧ De bdX12_changes_0 18 (.isub) 1 ∧ De bdX12_changes_0 19 (.istore 6) 2 ∧ De bdX12_changes_0 21 (.iload_n 3) 1 ∧ De bdX12_changes_0 22 (.iload 4) 2 := by decide +kernel
theorem dX12_changes_0 : decode cX12_changes 0 = .ok (.aload_n 0, 1) := dAt wdX12_changes_0 adX12_changes_0.1 rfl
theorem dX12_changes_1 : decode cX12_changes 1 = .ok (.getfield 8, 3) := dAt wdX12_changes_0 adX12_changes_0.2.1 rfl
theorem dX12_changes_4 : decode cX12_changes 4 = .ok (.iload_n 1, 1) := dAt wdX12_changes_0 adX12_changes_0.2.2.1 rfl
theorem dX12_changes_5 : decode cX12_changes 5 = .ok (.iconst 1, 1) := dAt wdX12_changes_0 adX12_changes_0.2.2.2.1 rfl
theorem dX12_changes_6 : decode cX12_changes 6 = .ok (.iadd, 1) := dAt wdX12_changes_0 adX12_changes_0.2.2.2.2.1 rfl
theorem dX12_changes_7 : decode cX12_changes 7 = .ok (.iaload, 1) := dAt wdX12_changes_0 adX12_changes_0.2.2.2.2.2.1 rfl
theorem dX12_changes_8 : decode cX12_changes 8 = .ok (.istore 5, 2) := dAt wdX12_changes_0 adX12_changes_0.2.2.2.2.2.2.1 rfl
theorem dX12_changes_10 : decode cX12_changes 10 = .ok (.aload_n 0, 1) := dAt wdX12_changes_0 adX12_changes_0.2.2.2.2.2.2.2.1 rfl
theorem dX12_changes_11 : decode cX12_changes 11 = .ok (.getfield 36, 3) := dAt wdX12_changes_0 adX12_changes_0.2.2.2.2.2.2.2.2.1 rfl
theorem dX12_changes_14 : decode cX12_changes 14 = .ok (.iconst 0, 1) := dAt wdX12_changes_0 adX12_changes_0.2.2.2.2.2.2.2.2.2.1 rfl
theorem dX12_changes_15 : decode cX12_changes 15 = .ok (.iaload, 1) := dAt wdX12_changes_0 adX12_changes_0.2.2.2.2.2.2.2.2.2.2.1 rfl
theorem dX12_changes_16 : decode cX12_changes 16 = .ok (.iload 4, 2) := dAt wdX12_changes_0 adX12_changes_0.2.2.2.2.2.2.2.2.2.2.2.1 rfl
theorem dX12_changes_18 : decode cX12_changes 18 = .ok (.isub, 1) := dAt wdX12_changes_0 adX12_changes_0.2.2.2.2.2.2.2.2.2.2.2.2.1 rfl
theorem dX12_changes_19 : decode cX12_changes 19 = .ok (.istore 6, 2) := dAt wdX12_changes_0 adX12_changes_0.2.2.2.2.2.2.2.2.2.2.2.2.2.1 rfl
theorem dX12_changes_21 : decode cX12_changes 21 = .ok (.iload_n 3, 1) := dAt wdX12_changes_0 adX12_changes_0.2.2.2.2.2.2.2.2.2.2.2.2.2.2.1 rfl
theorem dX12_changes_22 : decode cX12_changes 22 = .ok (.iload 4, 2) := dAt wdX12_changes_0 adX12_changes_0.2.2.2.2.2.2.2.2.2.2.2.2.2.2.2 rfl
def bdX12_changes_24 : ByteArray := .mk #[96, 54, 7, 21, 7, 21, 5, 162, 0, 95, 42, 180, 0, 85, 21, 7, 42, 180, 0, 8, 27, 16, 85, 96, 21, 7, 96, 46]
theorem wdX12_changes_24 : LocW cX12_changes 24 bdX12_changes_24 := loc_of (by decide +kernel)
theorem adX12_changes_24 : De bdX12_changes_24 0 (.iadd) 1 ∧ De bdX12_changes_24 1 (.istore 7) 2 ∧ De bdX12_changes_24 3 (.iload 7) 2 ∧ De bdX12_changes_24 5 (.iload 5) 2 ∧ De bdX12_changes_24 7 (.if_icmp .ge 95) 3 ∧ De bdX12_changes_24 10 (.aload_n 0) 1 ∧ De bdX12_changes_24 11 (.getfield 85) 3 ∧ De bdX12_changes_24 14 (.iload 7) 2 ∧ De bdX12_changes_24 16 (.aload_n 0) 1 ∧ De bdX12_changes_24 17 (.getfield 8) 3 ∧ De bdX12_changes_24 20 (.iload_n 1) 1 ∧ De bdX12_changes_24 21 (.bipush 85) 2 ∧ De bdX12_changes_24 23 (.iadd) 1 ∧ De bdX12_changes_24 24 (.iload 7) 2 ∧ De bdX12_changes_24 26 (.iadd) 1 ∧ De bdX12_changes_24 27 (.iaload) 1 := by decide +kernel
theorem dX12_changes_24 : decode cX12_changes 24 = .ok (.iadd, 1) := dAt wdX12_changes_24 adX12_changes_24.1 rfl
theorem dX12_changes_25 : decode cX12_changes 25 = .ok (.istore 7, 2) := dAt wdX12_changes_24 adX12_changes_24.2.1 rfl
theorem dX12_changes_27 : decode cX12_changes 27 = .ok (.iload 7, 2) := dAt wdX12_changes_24 adX12_changes_24.2.2.1 rfl
theorem dX12_changes_29 : decode cX12_changes 29 = .ok (.iload 5, 2) := dAt wdX12_changes_24 adX12_changes_24.2.2.2.1 rfl
theorem dX12_changes_31 : decode cX12_changes 31 = .ok (.if_icmp .ge 95, 3) := dAt wdX12_changes_24 adX12_changes_24.2.2.2.2.1 rfl
theorem dX12_changes_34 : decode cX12_changes 34 = .ok (.aload_n 0, 1) := dAt wdX12_changes_24 adX12_changes_24.2.2.2.2.2.1 rfl
theorem dX12_changes_35 : decode cX12_changes 35 = .ok (.getfield 85, 3) := dAt wdX12_changes_24 adX12_changes_24.2.2.2.2.2.2.1 rfl
theorem dX12_changes_38 : decode cX12_changes 38 = .ok (.iload 7, 2) := dAt wdX12_changes_24 adX12_changes_24.2.2.2.2.2.2.2.1 rfl
theorem dX12_changes_40 : decode cX12_changes 40 = .ok (.aload_n 0, 1) := dAt wdX12_changes_24 adX12_changes_24.2.2.2.2.2.2.2.2.1 rfl
theorem dX12_changes_41 : decode cX12_changes 41 = .ok (.getfield 8, 3) := dAt wdX12_changes_24 adX12_changes_24.2.2.2.2.2.2.2.2.2.1 rfl
theorem dX12_changes_44 : decode cX12_changes 44 = .ok (.iload_n 1, 1) := dAt wdX12_changes_24 adX12_changes_24.2.2.2.2.2.2.2.2.2.2.1 rfl
theorem dX12_changes_45 : decode cX12_changes 45 = .ok (.bipush 85, 2) := dAt wdX12_changes_24 adX12_changes_24.2.2.2.2.2.2.2.2.2.2.2.1 rfl
theorem dX12_changes_47 : decode cX12_changes 47 = .ok (.iadd, 1) := dAt wdX12_changes_24 adX12_changes_24.2.2.2.2.2.2.2.2.2.2.2.2.1 rfl
theorem dX12_changes_48 : decode cX12_changes 48 = .ok (.iload 7, 2) := dAt wdX12_changes_24 adX12_changes_24.2.2.2.2.2.2.2.2.2.2.2.2.2.1 rfl
theorem dX12_changes_50 : decode cX12_changes 50 = .ok (.iadd, 1) := dAt wdX12_changes_24 adX12_changes_24.2.2.2.2.2.2.2.2.2.2.2.2.2.2.1 rfl
theorem dX12_changes_51 : decode cX12_changes 51 = .ok (.iaload, 1) := dAt wdX12_changes_24 adX12_changes_24.2.2.2.2.2.2.2.2.2.2.2.2.2.2.2 rfl
def bdX12_changes_52 : ByteArray := .mk #[79, 42, 180, 0, 88, 21, 7, 42, 180, 0, 8, 27, 16, 125, 96, 21, 7, 96, 46, 79, 3, 54, 8, 21, 8]
theorem wdX12_changes_52 : LocW cX12_changes 52 bdX12_changes_52 := loc_of (by decide +kernel)
theorem adX12_changes_52 : De bdX12_changes_52 0 (.iastore) 1 ∧ De bdX12_changes_52 1 (.aload_n 0) 1 ∧ De bdX12_changes_52 2 (.getfield 88) 3 ∧ De bdX12_changes_52 5 (.iload 7) 2 ∧ De bdX12_changes_52 7 (.aload_n 0) 1 ∧ De bdX12_changes_52 8 (.getfield 8) 3 ∧ De bdX12_changes_52 11 (.iload_n 1) 1 ∧ De bdX12_changes_52 12 (.bipush 125) 2 ∧ De bdX12_changes_52 14 (.iadd) 1 ∧ De bdX12_changes_52 15 (.iload 7) 2 ∧ De bdX12_changes_52 17 (.iadd) 1 ∧ De bdX12_changes_52 18 (.iaload) 1 ∧ De bdX12_changes_52 19 (.iastore) 1 ∧ De bdX12_changes_52 20 (.iconst 0) 1 ∧ De bdX12_changes_52 21 (.istore 8) 2 ∧ De bdX12_changes_52 23 (.iload 8) 2 := by decide +kernel
theorem dX12_changes_52 : decode cX12_changes 52 = .ok (.iastore, 1) := dAt wdX12_changes_52 adX12_changes_52.1 rfl
theorem dX12_changes_53 : decode cX12_changes 53 = .ok (.aload_n 0, 1) := dAt wdX12_changes_52 adX12_changes_52.2.1 rfl
theorem dX12_changes_54 : decode cX12_changes 54 = .ok (.getfield 88, 3) := dAt wdX12_changes_52 adX12_changes_52.2.2.1 rfl
theorem dX12_changes_57 : decode cX12_changes 57 = .ok (.iload 7, 2) := dAt wdX12_changes_52 adX12_changes_52.2.2.2.1 rfl
theorem dX12_changes_59 : decode cX12_changes 59 = .ok (.aload_n 0, 1) := dAt wdX12_changes_52 adX12_changes_52.2.2.2.2.1 rfl
theorem dX12_changes_60 : decode cX12_changes 60 = .ok (.getfield 8, 3) := dAt wdX12_changes_52 adX12_changes_52.2.2.2.2.2.1 rfl
theorem dX12_changes_63 : decode cX12_changes 63 = .ok (.iload_n 1, 1) := dAt wdX12_changes_52 adX12_changes_52.2.2.2.2.2.2.1 rfl
theorem dX12_changes_64 : decode cX12_changes 64 = .ok (.bipush 125, 2) := dAt wdX12_changes_52 adX12_changes_52.2.2.2.2.2.2.2.1 rfl
theorem dX12_changes_66 : decode cX12_changes 66 = .ok (.iadd, 1) := dAt wdX12_changes_52 adX12_changes_52.2.2.2.2.2.2.2.2.1 rfl
theorem dX12_changes_67 : decode cX12_changes 67 = .ok (.iload 7, 2) := dAt wdX12_changes_52 adX12_changes_52.2.2.2.2.2.2.2.2.2.1 rfl
theorem dX12_changes_69 : decode cX12_changes 69 = .ok (.iadd, 1) := dAt wdX12_changes_52 adX12_changes_52.2.2.2.2.2.2.2.2.2.2.1 rfl
theorem dX12_changes_70 : decode cX12_changes 70 = .ok (.iaload, 1) := dAt wdX12_changes_52 adX12_changes_52.2.2.2.2.2.2.2.2.2.2.2.1 rfl
theorem dX12_changes_71 : decode cX12_changes 71 = .ok (.iastore, 1) := dAt wdX12_changes_52 adX12_changes_52.2.2.2.2.2.2.2.2.2.2.2.2.1 rfl
theorem dX12_changes_72 : decode cX12_changes 72 = .ok (.iconst 0, 1) := dAt wdX12_changes_52 adX12_changes_52.2.2.2.2.2.2.2.2.2.2.2.2.2.1 rfl
theorem dX12_changes_73 : decode cX12_changes 73 = .ok (.istore 8, 2) := dAt wdX12_changes_52 adX12_changes_52.2.2.2.2.2.2.2.2.2.2.2.2.2.2.1 rfl
theorem dX12_changes_75 : decode cX12_changes 75 = .ok (.iload 8, 2) := dAt wdX12_changes_52 adX12_changes_52.2.2.2.2.2.2.2.2.2.2.2.2.2.2.2 rfl
def bdX12_changes_77 : ByteArray := .mk #[16, 12, 162, 0, 41, 42, 180, 0, 91, 16, 12, 21, 7, 104, 21, 8, 96, 42, 180, 0, 8, 27, 17, 0, 165, 96, 16, 12, 21, 7]
theorem wdX12_changes_77 : LocW cX12_changes 77 bdX12_changes_77 := loc_of (by decide +kernel)
theorem adX12_changes_77 : De bdX12_changes_77 0 (.bipush 12) 2 ∧ De bdX12_changes_77 2 (.if_icmp .ge 41) 3 ∧ De bdX12_changes_77 5 (.aload_n 0) 1 ∧ De bdX12_changes_77 6 (.getfield 91) 3 ∧ De bdX12_changes_77 9 (.bipush 12) 2 ∧ De bdX12_changes_77 11 (.iload 7) 2 ∧ De bdX12_changes_77 13 (.imul) 1 ∧ De bdX12_changes_77 14 (.iload 8) 2 ∧ De bdX12_changes_77 16 (.iadd) 1 ∧ De bdX12_changes_77 17 (.aload_n 0) 1 ∧ De bdX12_changes_77 18 (.getfield 8) 3 ∧ De bdX12_changes_77 21 (.iload_n 1) 1 ∧ De bdX12_changes_77 22 (.sipush 165) 3 ∧ De bdX12_changes_77 25 (.iadd) 1 ∧ De bdX12_changes_77 26 (.bipush 12) 2 ∧ De bdX12_changes_77 28 (.iload 7) 2 := by decide +kernel
theorem dX12_changes_77 : decode cX12_changes 77 = .ok (.bipush 12, 2) := dAt wdX12_changes_77 adX12_changes_77.1 rfl
theorem dX12_changes_79 : decode cX12_changes 79 = .ok (.if_icmp .ge 41, 3) := dAt wdX12_changes_77 adX12_changes_77.2.1 rfl
theorem dX12_changes_82 : decode cX12_changes 82 = .ok (.aload_n 0, 1) := dAt wdX12_changes_77 adX12_changes_77.2.2.1 rfl
theorem dX12_changes_83 : decode cX12_changes 83 = .ok (.getfield 91, 3) := dAt wdX12_changes_77 adX12_changes_77.2.2.2.1 rfl
theorem dX12_changes_86 : decode cX12_changes 86 = .ok (.bipush 12, 2) := dAt wdX12_changes_77 adX12_changes_77.2.2.2.2.1 rfl
theorem dX12_changes_88 : decode cX12_changes 88 = .ok (.iload 7, 2) := dAt wdX12_changes_77 adX12_changes_77.2.2.2.2.2.1 rfl
theorem dX12_changes_90 : decode cX12_changes 90 = .ok (.imul, 1) := dAt wdX12_changes_77 adX12_changes_77.2.2.2.2.2.2.1 rfl
theorem dX12_changes_91 : decode cX12_changes 91 = .ok (.iload 8, 2) := dAt wdX12_changes_77 adX12_changes_77.2.2.2.2.2.2.2.1 rfl
theorem dX12_changes_93 : decode cX12_changes 93 = .ok (.iadd, 1) := dAt wdX12_changes_77 adX12_changes_77.2.2.2.2.2.2.2.2.1 rfl
theorem dX12_changes_94 : decode cX12_changes 94 = .ok (.aload_n 0, 1) := dAt wdX12_changes_77 adX12_changes_77.2.2.2.2.2.2.2.2.2.1 rfl
theorem dX12_changes_95 : decode cX12_changes 95 = .ok (.getfield 8, 3) := dAt wdX12_changes_77 adX12_changes_77.2.2.2.2.2.2.2.2.2.2.1 rfl
theorem dX12_changes_98 : decode cX12_changes 98 = .ok (.iload_n 1, 1) := dAt wdX12_changes_77 adX12_changes_77.2.2.2.2.2.2.2.2.2.2.2.1 rfl
theorem dX12_changes_99 : decode cX12_changes 99 = .ok (.sipush 165, 3) := dAt wdX12_changes_77 adX12_changes_77.2.2.2.2.2.2.2.2.2.2.2.2.1 rfl
theorem dX12_changes_102 : decode cX12_changes 102 = .ok (.iadd, 1) := dAt wdX12_changes_77 adX12_changes_77.2.2.2.2.2.2.2.2.2.2.2.2.2.1 rfl
theorem dX12_changes_103 : decode cX12_changes 103 = .ok (.bipush 12, 2) := dAt wdX12_changes_77 adX12_changes_77.2.2.2.2.2.2.2.2.2.2.2.2.2.2.1 rfl
theorem dX12_changes_105 : decode cX12_changes 105 = .ok (.iload 7, 2) := dAt wdX12_changes_77 adX12_changes_77.2.2.2.2.2.2.2.2.2.2.2.2.2.2.2 rfl
def bdX12_changes_107 : ByteArray := .mk #[104, 96, 21, 8, 96, 46, 79, 132, 8, 1, 167, 255, 214, 132, 7, 1, 167, 255, 160, 29, 21, 4, 96, 54, 7, 21, 7, 21, 5]
theorem wdX12_changes_107 : LocW cX12_changes 107 bdX12_changes_107 := loc_of (by decide +kernel)
theorem adX12_changes_107 : De bdX12_changes_107 0 (.imul) 1 ∧ De bdX12_changes_107 1 (.iadd) 1 ∧ De bdX12_changes_107 2 (.iload 8) 2 ∧ De bdX12_changes_107 4 (.iadd) 1 ∧ De bdX12_changes_107 5 (.iaload) 1 ∧ De bdX12_changes_107 6 (.iastore) 1 ∧ De bdX12_changes_107 7 (.iinc 8 1) 3 ∧ De bdX12_changes_107 10 (.goto (-42)) 3 ∧ De bdX12_changes_107 13 (.iinc 7 1) 3 ∧ De bdX12_changes_107 16 (.goto (-96)) 3 ∧ De bdX12_changes_107 19 (.iload_n 3) 1 ∧ De bdX12_changes_107 20 (.iload 4) 2 ∧ De bdX12_changes_107 22 (.iadd) 1 ∧ De bdX12_changes_107 23 (.istore 7) 2 ∧ De bdX12_changes_107 25 (.iload 7) 2 ∧ De bdX12_changes_107 27 (.iload 5) 2 := by decide +kernel
theorem dX12_changes_107 : decode cX12_changes 107 = .ok (.imul, 1) := dAt wdX12_changes_107 adX12_changes_107.1 rfl
theorem dX12_changes_108 : decode cX12_changes 108 = .ok (.iadd, 1) := dAt wdX12_changes_107 adX12_changes_107.2.1 rfl
theorem dX12_changes_109 : decode cX12_changes 109 = .ok (.iload 8, 2) := dAt wdX12_changes_107 adX12_changes_107.2.2.1 rfl
theorem dX12_changes_111 : decode cX12_changes 111 = .ok (.iadd, 1) := dAt wdX12_changes_107 adX12_changes_107.2.2.2.1 rfl
theorem dX12_changes_112 : decode cX12_changes 112 = .ok (.iaload, 1) := dAt wdX12_changes_107 adX12_changes_107.2.2.2.2.1 rfl
theorem dX12_changes_113 : decode cX12_changes 113 = .ok (.iastore, 1) := dAt wdX12_changes_107 adX12_changes_107.2.2.2.2.2.1 rfl
theorem dX12_changes_114 : decode cX12_changes 114 = .ok (.iinc 8 1, 3) := dAt wdX12_changes_107 adX12_changes_107.2.2.2.2.2.2.1 rfl
theorem dX12_changes_117 : decode cX12_changes 117 = .ok (.goto (-42), 3) := dAt wdX12_changes_107 adX12_changes_107.2.2.2.2.2.2.2.1 rfl
theorem dX12_changes_120 : decode cX12_changes 120 = .ok (.iinc 7 1, 3) := dAt wdX12_changes_107 adX12_changes_107.2.2.2.2.2.2.2.2.1 rfl
theorem dX12_changes_123 : decode cX12_changes 123 = .ok (.goto (-96), 3) := dAt wdX12_changes_107 adX12_changes_107.2.2.2.2.2.2.2.2.2.1 rfl
theorem dX12_changes_126 : decode cX12_changes 126 = .ok (.iload_n 3, 1) := dAt wdX12_changes_107 adX12_changes_107.2.2.2.2.2.2.2.2.2.2.1 rfl
theorem dX12_changes_127 : decode cX12_changes 127 = .ok (.iload 4, 2) := dAt wdX12_changes_107 adX12_changes_107.2.2.2.2.2.2.2.2.2.2.2.1 rfl
theorem dX12_changes_129 : decode cX12_changes 129 = .ok (.iadd, 1) := dAt wdX12_changes_107 adX12_changes_107.2.2.2.2.2.2.2.2.2.2.2.2.1 rfl
theorem dX12_changes_130 : decode cX12_changes 130 = .ok (.istore 7, 2) := dAt wdX12_changes_107 adX12_changes_107.2.2.2.2.2.2.2.2.2.2.2.2.2.1 rfl
theorem dX12_changes_132 : decode cX12_changes 132 = .ok (.iload 7, 2) := dAt wdX12_changes_107 adX12_changes_107.2.2.2.2.2.2.2.2.2.2.2.2.2.2.1 rfl
theorem dX12_changes_134 : decode cX12_changes 134 = .ok (.iload 5, 2) := dAt wdX12_changes_107 adX12_changes_107.2.2.2.2.2.2.2.2.2.2.2.2.2.2.2 rfl
def bdX12_changes_136 : ByteArray := .mk #[162, 0, 104, 42, 180, 0, 8, 27, 16, 85, 96, 21, 7, 96, 21, 6, 96, 42, 180, 0, 85, 21, 7, 46, 79, 42]
theorem wdX12_changes_136 : LocW cX12_changes 136 bdX12_changes_136 := loc_of (by decide +kernel)
theorem adX12_changes_136 : De bdX12_changes_136 0 (.if_icmp .ge 104) 3 ∧ De bdX12_changes_136 3 (.aload_n 0) 1 ∧ De bdX12_changes_136 4 (.getfield 8) 3 ∧ De bdX12_changes_136 7 (.iload_n 1) 1 ∧ De bdX12_changes_136 8 (.bipush 85) 2 ∧ De bdX12_changes_136 10 (.iadd) 1 ∧ De bdX12_changes_136 11 (.iload 7) 2 ∧ De bdX12_changes_136 13 (.iadd) 1 ∧ De bdX12_changes_136 14 (.iload 6) 2 ∧ De bdX12_changes_136 16 (.iadd) 1 ∧ De bdX12_changes_136 17 (.aload_n 0) 1 ∧ De bdX12_changes_136 18 (.getfield 85) 3 ∧ De bdX12_changes_136 21 (.iload 7) 2 ∧ De bdX12_changes_136 23 (.iaload) 1 ∧ De bdX12_changes_136 24 (.iastore) 1 ∧ De bdX12_changes_136 25 (.aload_n 0) 1 := by decide +kernel
theorem dX12_changes_136 : decode cX12_changes 136 = .ok (.if_icmp .ge 104, 3) := dAt wdX12_changes_136 adX12_changes_136.1 rfl
theorem dX12_changes_139 : decode cX12_changes 139 = .ok (.aload_n 0, 1) := dAt wdX12_changes_136 adX12_changes_136.2.1 rfl
theorem dX12_changes_140 : decode cX12_changes 140 = .ok (.getfield 8, 3) := dAt wdX12_changes_136 adX12_changes_136.2.2.1 rfl
theorem dX12_changes_143 : decode cX12_changes 143 = .ok (.iload_n 1, 1) := dAt wdX12_changes_136 adX12_changes_136.2.2.2.1 rfl
theorem dX12_changes_144 : decode cX12_changes 144 = .ok (.bipush 85, 2) := dAt wdX12_changes_136 adX12_changes_136.2.2.2.2.1 rfl
theorem dX12_changes_146 : decode cX12_changes 146 = .ok (.iadd, 1) := dAt wdX12_changes_136 adX12_changes_136.2.2.2.2.2.1 rfl
theorem dX12_changes_147 : decode cX12_changes 147 = .ok (.iload 7, 2) := dAt wdX12_changes_136 adX12_changes_136.2.2.2.2.2.2.1 rfl
theorem dX12_changes_149 : decode cX12_changes 149 = .ok (.iadd, 1) := dAt wdX12_changes_136 adX12_changes_136.2.2.2.2.2.2.2.1 rfl
theorem dX12_changes_150 : decode cX12_changes 150 = .ok (.iload 6, 2) := dAt wdX12_changes_136 adX12_changes_136.2.2.2.2.2.2.2.2.1 rfl
theorem dX12_changes_152 : decode cX12_changes 152 = .ok (.iadd, 1) := dAt wdX12_changes_136 adX12_changes_136.2.2.2.2.2.2.2.2.2.1 rfl
theorem dX12_changes_153 : decode cX12_changes 153 = .ok (.aload_n 0, 1) := dAt wdX12_changes_136 adX12_changes_136.2.2.2.2.2.2.2.2.2.2.1 rfl
theorem dX12_changes_154 : decode cX12_changes 154 = .ok (.getfield 85, 3) := dAt wdX12_changes_136 adX12_changes_136.2.2.2.2.2.2.2.2.2.2.2.1 rfl
theorem dX12_changes_157 : decode cX12_changes 157 = .ok (.iload 7, 2) := dAt wdX12_changes_136 adX12_changes_136.2.2.2.2.2.2.2.2.2.2.2.2.1 rfl
theorem dX12_changes_159 : decode cX12_changes 159 = .ok (.iaload, 1) := dAt wdX12_changes_136 adX12_changes_136.2.2.2.2.2.2.2.2.2.2.2.2.2.1 rfl
theorem dX12_changes_160 : decode cX12_changes 160 = .ok (.iastore, 1) := dAt wdX12_changes_136 adX12_changes_136.2.2.2.2.2.2.2.2.2.2.2.2.2.2.1 rfl
theorem dX12_changes_161 : decode cX12_changes 161 = .ok (.aload_n 0, 1) := dAt wdX12_changes_136 adX12_changes_136.2.2.2.2.2.2.2.2.2.2.2.2.2.2.2 rfl
def bdX12_changes_162 : ByteArray := .mk #[180, 0, 8, 27, 16, 125, 96, 21, 7, 96, 21, 6, 96, 42, 180, 0, 88, 21, 7, 46, 79, 3, 54, 8, 21, 8]
theorem wdX12_changes_162 : LocW cX12_changes 162 bdX12_changes_162 := loc_of (by decide +kernel)
theorem adX12_changes_162 : De bdX12_changes_162 0 (.getfield 8) 3 ∧ De bdX12_changes_162 3 (.iload_n 1) 1 ∧ De bdX12_changes_162 4 (.bipush 125) 2 ∧ De bdX12_changes_162 6 (.iadd) 1 ∧ De bdX12_changes_162 7 (.iload 7) 2 ∧ De bdX12_changes_162 9 (.iadd) 1 ∧ De bdX12_changes_162 10 (.iload 6) 2 ∧ De bdX12_changes_162 12 (.iadd) 1 ∧ De bdX12_changes_162 13 (.aload_n 0) 1 ∧ De bdX12_changes_162 14 (.getfield 88) 3 ∧ De bdX12_changes_162 17 (.iload 7) 2 ∧ De bdX12_changes_162 19 (.iaload) 1 ∧ De bdX12_changes_162 20 (.iastore) 1 ∧ De bdX12_changes_162 21 (.iconst 0) 1 ∧ De bdX12_changes_162 22 (.istore 8) 2 ∧ De bdX12_changes_162 24 (.iload 8) 2 := by decide +kernel
theorem dX12_changes_162 : decode cX12_changes 162 = .ok (.getfield 8, 3) := dAt wdX12_changes_162 adX12_changes_162.1 rfl
theorem dX12_changes_165 : decode cX12_changes 165 = .ok (.iload_n 1, 1) := dAt wdX12_changes_162 adX12_changes_162.2.1 rfl
theorem dX12_changes_166 : decode cX12_changes 166 = .ok (.bipush 125, 2) := dAt wdX12_changes_162 adX12_changes_162.2.2.1 rfl
theorem dX12_changes_168 : decode cX12_changes 168 = .ok (.iadd, 1) := dAt wdX12_changes_162 adX12_changes_162.2.2.2.1 rfl
theorem dX12_changes_169 : decode cX12_changes 169 = .ok (.iload 7, 2) := dAt wdX12_changes_162 adX12_changes_162.2.2.2.2.1 rfl
theorem dX12_changes_171 : decode cX12_changes 171 = .ok (.iadd, 1) := dAt wdX12_changes_162 adX12_changes_162.2.2.2.2.2.1 rfl
theorem dX12_changes_172 : decode cX12_changes 172 = .ok (.iload 6, 2) := dAt wdX12_changes_162 adX12_changes_162.2.2.2.2.2.2.1 rfl
theorem dX12_changes_174 : decode cX12_changes 174 = .ok (.iadd, 1) := dAt wdX12_changes_162 adX12_changes_162.2.2.2.2.2.2.2.1 rfl
theorem dX12_changes_175 : decode cX12_changes 175 = .ok (.aload_n 0, 1) := dAt wdX12_changes_162 adX12_changes_162.2.2.2.2.2.2.2.2.1 rfl
theorem dX12_changes_176 : decode cX12_changes 176 = .ok (.getfield 88, 3) := dAt wdX12_changes_162 adX12_changes_162.2.2.2.2.2.2.2.2.2.1 rfl
theorem dX12_changes_179 : decode cX12_changes 179 = .ok (.iload 7, 2) := dAt wdX12_changes_162 adX12_changes_162.2.2.2.2.2.2.2.2.2.2.1 rfl
theorem dX12_changes_181 : decode cX12_changes 181 = .ok (.iaload, 1) := dAt wdX12_changes_162 adX12_changes_162.2.2.2.2.2.2.2.2.2.2.2.1 rfl
theorem dX12_changes_182 : decode cX12_changes 182 = .ok (.iastore, 1) := dAt wdX12_changes_162 adX12_changes_162.2.2.2.2.2.2.2.2.2.2.2.2.1 rfl
theorem dX12_changes_183 : decode cX12_changes 183 = .ok (.iconst 0, 1) := dAt wdX12_changes_162 adX12_changes_162.2.2.2.2.2.2.2.2.2.2.2.2.2.1 rfl
theorem dX12_changes_184 : decode cX12_changes 184 = .ok (.istore 8, 2) := dAt wdX12_changes_162 adX12_changes_162.2.2.2.2.2.2.2.2.2.2.2.2.2.2.1 rfl
theorem dX12_changes_186 : decode cX12_changes 186 = .ok (.iload 8, 2) := dAt wdX12_changes_162 adX12_changes_162.2.2.2.2.2.2.2.2.2.2.2.2.2.2.2 rfl
def bdX12_changes_188 : ByteArray := .mk #[16, 12, 162, 0, 44, 42, 180, 0, 8, 27, 17, 0, 165, 96, 16, 12, 21, 7, 21, 6, 96, 104, 96, 21, 8, 96, 42]
theorem wdX12_changes_188 : LocW cX12_changes 188 bdX12_changes_188 := loc_of (by decide +kernel)
theorem adX12_changes_188 : De bdX12_changes_188 0 (.bipush 12) 2 ∧ De bdX12_changes_188 2 (.if_icmp .ge 44) 3 ∧ De bdX12_changes_188 5 (.aload_n 0) 1 ∧ De bdX12_changes_188 6 (.getfield 8) 3 ∧ De bdX12_changes_188 9 (.iload_n 1) 1 ∧ De bdX12_changes_188 10 (.sipush 165) 3 ∧ De bdX12_changes_188 13 (.iadd) 1 ∧ De bdX12_changes_188 14 (.bipush 12) 2 ∧ De bdX12_changes_188 16 (.iload 7) 2 ∧ De bdX12_changes_188 18 (.iload 6) 2 ∧ De bdX12_changes_188 20 (.iadd) 1 ∧ De bdX12_changes_188 21 (.imul) 1 ∧ De bdX12_changes_188 22 (.iadd) 1 ∧ De bdX12_changes_188 23 (.iload 8) 2 ∧ De bdX12_changes_188 25 (.iadd) 1 ∧ De bdX12_changes_188 26 (.aload_n 0) 1 := by decide +kernel
theorem dX12_changes_188 : decode cX12_changes 188 = .ok (.bipush 12, 2) := dAt wdX12_changes_188 adX12_changes_188.1 rfl
theorem dX12_changes_190 : decode cX12_changes 190 = .ok (.if_icmp .ge 44, 3) := dAt wdX12_changes_188 adX12_changes_188.2.1 rfl
theorem dX12_changes_193 : decode cX12_changes 193 = .ok (.aload_n 0, 1) := dAt wdX12_changes_188 adX12_changes_188.2.2.1 rfl
theorem dX12_changes_194 : decode cX12_changes 194 = .ok (.getfield 8, 3) := dAt wdX12_changes_188 adX12_changes_188.2.2.2.1 rfl
theorem dX12_changes_197 : decode cX12_changes 197 = .ok (.iload_n 1, 1) := dAt wdX12_changes_188 adX12_changes_188.2.2.2.2.1 rfl
theorem dX12_changes_198 : decode cX12_changes 198 = .ok (.sipush 165, 3) := dAt wdX12_changes_188 adX12_changes_188.2.2.2.2.2.1 rfl
theorem dX12_changes_201 : decode cX12_changes 201 = .ok (.iadd, 1) := dAt wdX12_changes_188 adX12_changes_188.2.2.2.2.2.2.1 rfl
theorem dX12_changes_202 : decode cX12_changes 202 = .ok (.bipush 12, 2) := dAt wdX12_changes_188 adX12_changes_188.2.2.2.2.2.2.2.1 rfl
theorem dX12_changes_204 : decode cX12_changes 204 = .ok (.iload 7, 2) := dAt wdX12_changes_188 adX12_changes_188.2.2.2.2.2.2.2.2.1 rfl
theorem dX12_changes_206 : decode cX12_changes 206 = .ok (.iload 6, 2) := dAt wdX12_changes_188 adX12_changes_188.2.2.2.2.2.2.2.2.2.1 rfl
theorem dX12_changes_208 : decode cX12_changes 208 = .ok (.iadd, 1) := dAt wdX12_changes_188 adX12_changes_188.2.2.2.2.2.2.2.2.2.2.1 rfl
theorem dX12_changes_209 : decode cX12_changes 209 = .ok (.imul, 1) := dAt wdX12_changes_188 adX12_changes_188.2.2.2.2.2.2.2.2.2.2.2.1 rfl
theorem dX12_changes_210 : decode cX12_changes 210 = .ok (.iadd, 1) := dAt wdX12_changes_188 adX12_changes_188.2.2.2.2.2.2.2.2.2.2.2.2.1 rfl
theorem dX12_changes_211 : decode cX12_changes 211 = .ok (.iload 8, 2) := dAt wdX12_changes_188 adX12_changes_188.2.2.2.2.2.2.2.2.2.2.2.2.2.1 rfl
theorem dX12_changes_213 : decode cX12_changes 213 = .ok (.iadd, 1) := dAt wdX12_changes_188 adX12_changes_188.2.2.2.2.2.2.2.2.2.2.2.2.2.2.1 rfl
theorem dX12_changes_214 : decode cX12_changes 214 = .ok (.aload_n 0, 1) := dAt wdX12_changes_188 adX12_changes_188.2.2.2.2.2.2.2.2.2.2.2.2.2.2.2 rfl
def bdX12_changes_215 : ByteArray := .mk #[180, 0, 91, 16, 12, 21, 7, 104, 21, 8, 96, 46, 79, 132, 8, 1, 167, 255, 211, 132, 7, 1, 167, 255, 151, 3, 54, 7, 21, 7, 42]
theorem wdX12_changes_215 : LocW cX12_changes 215 bdX12_changes_215 := loc_of (by decide +kernel)
theorem adX12_changes_215 : De bdX12_changes_215 0 (.getfield 91) 3 ∧ De bdX12_changes_215 3 (.bipush 12) 2 ∧ De bdX12_changes_215 5 (.iload 7) 2 ∧ De bdX12_changes_215 7 (.imul) 1 ∧ De bdX12_changes_215 8 (.iload 8) 2 ∧ De bdX12_changes_215 10 (.iadd) 1 ∧ De bdX12_changes_215 11 (.iaload) 1 ∧ De bdX12_changes_215 12 (.iastore) 1 ∧ De bdX12_changes_215 13 (.iinc 8 1) 3 ∧ De bdX12_changes_215 16 (.goto (-45)) 3 ∧ De bdX12_changes_215 19 (.iinc 7 1) 3 ∧ De bdX12_changes_215 22 (.goto (-105)) 3 ∧ De bdX12_changes_215 25 (.iconst 0) 1 ∧ De bdX12_changes_215 26 (.istore 7) 2 ∧ De bdX12_changes_215 28 (.iload 7) 2 ∧ De bdX12_changes_215 30 (.aload_n 0) 1 := by decide +kernel
theorem dX12_changes_215 : decode cX12_changes 215 = .ok (.getfield 91, 3) := dAt wdX12_changes_215 adX12_changes_215.1 rfl
theorem dX12_changes_218 : decode cX12_changes 218 = .ok (.bipush 12, 2) := dAt wdX12_changes_215 adX12_changes_215.2.1 rfl
theorem dX12_changes_220 : decode cX12_changes 220 = .ok (.iload 7, 2) := dAt wdX12_changes_215 adX12_changes_215.2.2.1 rfl
theorem dX12_changes_222 : decode cX12_changes 222 = .ok (.imul, 1) := dAt wdX12_changes_215 adX12_changes_215.2.2.2.1 rfl
theorem dX12_changes_223 : decode cX12_changes 223 = .ok (.iload 8, 2) := dAt wdX12_changes_215 adX12_changes_215.2.2.2.2.1 rfl
theorem dX12_changes_225 : decode cX12_changes 225 = .ok (.iadd, 1) := dAt wdX12_changes_215 adX12_changes_215.2.2.2.2.2.1 rfl
theorem dX12_changes_226 : decode cX12_changes 226 = .ok (.iaload, 1) := dAt wdX12_changes_215 adX12_changes_215.2.2.2.2.2.2.1 rfl
theorem dX12_changes_227 : decode cX12_changes 227 = .ok (.iastore, 1) := dAt wdX12_changes_215 adX12_changes_215.2.2.2.2.2.2.2.1 rfl
theorem dX12_changes_228 : decode cX12_changes 228 = .ok (.iinc 8 1, 3) := dAt wdX12_changes_215 adX12_changes_215.2.2.2.2.2.2.2.2.1 rfl
theorem dX12_changes_231 : decode cX12_changes 231 = .ok (.goto (-45), 3) := dAt wdX12_changes_215 adX12_changes_215.2.2.2.2.2.2.2.2.2.1 rfl
theorem dX12_changes_234 : decode cX12_changes 234 = .ok (.iinc 7 1, 3) := dAt wdX12_changes_215 adX12_changes_215.2.2.2.2.2.2.2.2.2.2.1 rfl
theorem dX12_changes_237 : decode cX12_changes 237 = .ok (.goto (-105), 3) := dAt wdX12_changes_215 adX12_changes_215.2.2.2.2.2.2.2.2.2.2.2.1 rfl
theorem dX12_changes_240 : decode cX12_changes 240 = .ok (.iconst 0, 1) := dAt wdX12_changes_215 adX12_changes_215.2.2.2.2.2.2.2.2.2.2.2.2.1 rfl
theorem dX12_changes_241 : decode cX12_changes 241 = .ok (.istore 7, 2) := dAt wdX12_changes_215 adX12_changes_215.2.2.2.2.2.2.2.2.2.2.2.2.2.1 rfl
theorem dX12_changes_243 : decode cX12_changes 243 = .ok (.iload 7, 2) := dAt wdX12_changes_215 adX12_changes_215.2.2.2.2.2.2.2.2.2.2.2.2.2.2.1 rfl
theorem dX12_changes_245 : decode cX12_changes 245 = .ok (.aload_n 0, 1) := dAt wdX12_changes_215 adX12_changes_215.2.2.2.2.2.2.2.2.2.2.2.2.2.2.2 rfl
def bdX12_changes_246 : ByteArray := .mk #[180, 0, 36, 3, 46, 162, 0, 95, 42, 180, 0, 8, 27, 16, 85, 96, 29, 96, 21, 7, 96, 28, 79, 42]
theorem wdX12_changes_246 : LocW cX12_changes 246 bdX12_changes_246 := loc_of (by decide +kernel)
theorem adX12_changes_246 : De bdX12_changes_246 0 (.getfield 36) 3 ∧ De bdX12_changes_246 3 (.iconst 0) 1 ∧ De bdX12_changes_246 4 (.iaload) 1 ∧ De bdX12_changes_246 5 (.if_icmp .ge 95) 3 ∧ De bdX12_changes_246 8 (.aload_n 0) 1 ∧ De bdX12_changes_246 9 (.getfield 8) 3 ∧ De bdX12_changes_246 12 (.iload_n 1) 1 ∧ De bdX12_changes_246 13 (.bipush 85) 2 ∧ De bdX12_changes_246 15 (.iadd) 1 ∧ De bdX12_changes_246 16 (.iload_n 3) 1 ∧ De bdX12_changes_246 17 (.iadd) 1 ∧ De bdX12_changes_246 18 (.iload 7) 2 ∧ De bdX12_changes_246 20 (.iadd) 1 ∧ De bdX12_changes_246 21 (.iload_n 2) 1 ∧ De bdX12_changes_246 22 (.iastore) 1 ∧ De bdX12_changes_246 23 (.aload_n 0) 1 := by decide +kernel
theorem dX12_changes_246 : decode cX12_changes 246 = .ok (.getfield 36, 3) := dAt wdX12_changes_246 adX12_changes_246.1 rfl
theorem dX12_changes_249 : decode cX12_changes 249 = .ok (.iconst 0, 1) := dAt wdX12_changes_246 adX12_changes_246.2.1 rfl
theorem dX12_changes_250 : decode cX12_changes 250 = .ok (.iaload, 1) := dAt wdX12_changes_246 adX12_changes_246.2.2.1 rfl
theorem dX12_changes_251 : decode cX12_changes 251 = .ok (.if_icmp .ge 95, 3) := dAt wdX12_changes_246 adX12_changes_246.2.2.2.1 rfl
theorem dX12_changes_254 : decode cX12_changes 254 = .ok (.aload_n 0, 1) := dAt wdX12_changes_246 adX12_changes_246.2.2.2.2.1 rfl
theorem dX12_changes_255 : decode cX12_changes 255 = .ok (.getfield 8, 3) := dAt wdX12_changes_246 adX12_changes_246.2.2.2.2.2.1 rfl
theorem dX12_changes_258 : decode cX12_changes 258 = .ok (.iload_n 1, 1) := dAt wdX12_changes_246 adX12_changes_246.2.2.2.2.2.2.1 rfl
theorem dX12_changes_259 : decode cX12_changes 259 = .ok (.bipush 85, 2) := dAt wdX12_changes_246 adX12_changes_246.2.2.2.2.2.2.2.1 rfl
theorem dX12_changes_261 : decode cX12_changes 261 = .ok (.iadd, 1) := dAt wdX12_changes_246 adX12_changes_246.2.2.2.2.2.2.2.2.1 rfl
theorem dX12_changes_262 : decode cX12_changes 262 = .ok (.iload_n 3, 1) := dAt wdX12_changes_246 adX12_changes_246.2.2.2.2.2.2.2.2.2.1 rfl
theorem dX12_changes_263 : decode cX12_changes 263 = .ok (.iadd, 1) := dAt wdX12_changes_246 adX12_changes_246.2.2.2.2.2.2.2.2.2.2.1 rfl
theorem dX12_changes_264 : decode cX12_changes 264 = .ok (.iload 7, 2) := dAt wdX12_changes_246 adX12_changes_246.2.2.2.2.2.2.2.2.2.2.2.1 rfl
theorem dX12_changes_266 : decode cX12_changes 266 = .ok (.iadd, 1) := dAt wdX12_changes_246 adX12_changes_246.2.2.2.2.2.2.2.2.2.2.2.2.1 rfl
theorem dX12_changes_267 : decode cX12_changes 267 = .ok (.iload_n 2, 1) := dAt wdX12_changes_246 adX12_changes_246.2.2.2.2.2.2.2.2.2.2.2.2.2.1 rfl
theorem dX12_changes_268 : decode cX12_changes 268 = .ok (.iastore, 1) := dAt wdX12_changes_246 adX12_changes_246.2.2.2.2.2.2.2.2.2.2.2.2.2.2.1 rfl
theorem dX12_changes_269 : decode cX12_changes 269 = .ok (.aload_n 0, 1) := dAt wdX12_changes_246 adX12_changes_246.2.2.2.2.2.2.2.2.2.2.2.2.2.2.2 rfl
def bdX12_changes_270 : ByteArray := .mk #[180, 0, 8, 27, 16, 125, 96, 29, 96, 21, 7, 96, 42, 180, 0, 30, 21, 7, 46, 79, 3, 54, 8, 21, 8]
theorem wdX12_changes_270 : LocW cX12_changes 270 bdX12_changes_270 := loc_of (by decide +kernel)
theorem adX12_changes_270 : De bdX12_changes_270 0 (.getfield 8) 3 ∧ De bdX12_changes_270 3 (.iload_n 1) 1 ∧ De bdX12_changes_270 4 (.bipush 125) 2 ∧ De bdX12_changes_270 6 (.iadd) 1 ∧ De bdX12_changes_270 7 (.iload_n 3) 1 ∧ De bdX12_changes_270 8 (.iadd) 1 ∧ De bdX12_changes_270 9 (.iload 7) 2 ∧ De bdX12_changes_270 11 (.iadd) 1 ∧ De bdX12_changes_270 12 (.aload_n 0) 1 ∧ De bdX12_changes_270 13 (.getfield 30) 3 ∧ De bdX12_changes_270 16 (.iload 7) 2 ∧ De bdX12_changes_270 18 (.iaload) 1 ∧ De bdX12_changes_270 19 (.iastore) 1 ∧ De bdX12_changes_270 20 (.iconst 0) 1 ∧ De bdX12_changes_270 21 (.istore 8) 2 ∧ De bdX12_changes_270 23 (.iload 8) 2 := by decide +kernel
theorem dX12_changes_270 : decode cX12_changes 270 = .ok (.getfield 8, 3) := dAt wdX12_changes_270 adX12_changes_270.1 rfl
theorem dX12_changes_273 : decode cX12_changes 273 = .ok (.iload_n 1, 1) := dAt wdX12_changes_270 adX12_changes_270.2.1 rfl
theorem dX12_changes_274 : decode cX12_changes 274 = .ok (.bipush 125, 2) := dAt wdX12_changes_270 adX12_changes_270.2.2.1 rfl
theorem dX12_changes_276 : decode cX12_changes 276 = .ok (.iadd, 1) := dAt wdX12_changes_270 adX12_changes_270.2.2.2.1 rfl
theorem dX12_changes_277 : decode cX12_changes 277 = .ok (.iload_n 3, 1) := dAt wdX12_changes_270 adX12_changes_270.2.2.2.2.1 rfl
theorem dX12_changes_278 : decode cX12_changes 278 = .ok (.iadd, 1) := dAt wdX12_changes_270 adX12_changes_270.2.2.2.2.2.1 rfl
theorem dX12_changes_279 : decode cX12_changes 279 = .ok (.iload 7, 2) := dAt wdX12_changes_270 adX12_changes_270.2.2.2.2.2.2.1 rfl
theorem dX12_changes_281 : decode cX12_changes 281 = .ok (.iadd, 1) := dAt wdX12_changes_270 adX12_changes_270.2.2.2.2.2.2.2.1 rfl
theorem dX12_changes_282 : decode cX12_changes 282 = .ok (.aload_n 0, 1) := dAt wdX12_changes_270 adX12_changes_270.2.2.2.2.2.2.2.2.1 rfl
theorem dX12_changes_283 : decode cX12_changes 283 = .ok (.getfield 30, 3) := dAt wdX12_changes_270 adX12_changes_270.2.2.2.2.2.2.2.2.2.1 rfl
theorem dX12_changes_286 : decode cX12_changes 286 = .ok (.iload 7, 2) := dAt wdX12_changes_270 adX12_changes_270.2.2.2.2.2.2.2.2.2.2.1 rfl
theorem dX12_changes_288 : decode cX12_changes 288 = .ok (.iaload, 1) := dAt wdX12_changes_270 adX12_changes_270.2.2.2.2.2.2.2.2.2.2.2.1 rfl
theorem dX12_changes_289 : decode cX12_changes 289 = .ok (.iastore, 1) := dAt wdX12_changes_270 adX12_changes_270.2.2.2.2.2.2.2.2.2.2.2.2.1 rfl
theorem dX12_changes_290 : decode cX12_changes 290 = .ok (.iconst 0, 1) := dAt wdX12_changes_270 adX12_changes_270.2.2.2.2.2.2.2.2.2.2.2.2.2.1 rfl
theorem dX12_changes_291 : decode cX12_changes 291 = .ok (.istore 8, 2) := dAt wdX12_changes_270 adX12_changes_270.2.2.2.2.2.2.2.2.2.2.2.2.2.2.1 rfl
theorem dX12_changes_293 : decode cX12_changes 293 = .ok (.iload 8, 2) := dAt wdX12_changes_270 adX12_changes_270.2.2.2.2.2.2.2.2.2.2.2.2.2.2.2 rfl
def bdX12_changes_295 : ByteArray := .mk #[16, 12, 162, 0, 43, 42, 180, 0, 8, 27, 17, 0, 165, 96, 16, 12, 29, 21, 7, 96, 104, 96, 21, 8, 96, 42]
theorem wdX12_changes_295 : LocW cX12_changes 295 bdX12_changes_295 := loc_of (by decide +kernel)
theorem adX12_changes_295 : De bdX12_changes_295 0 (.bipush 12) 2 ∧ De bdX12_changes_295 2 (.if_icmp .ge 43) 3 ∧ De bdX12_changes_295 5 (.aload_n 0) 1 ∧ De bdX12_changes_295 6 (.getfield 8) 3 ∧ De bdX12_changes_295 9 (.iload_n 1) 1 ∧ De bdX12_changes_295 10 (.sipush 165) 3 ∧ De bdX12_changes_295 13 (.iadd) 1 ∧ De bdX12_changes_295 14 (.bipush 12) 2 ∧ De bdX12_changes_295 16 (.iload_n 3) 1 ∧ De bdX12_changes_295 17 (.iload 7) 2 ∧ De bdX12_changes_295 19 (.iadd) 1 ∧ De bdX12_changes_295 20 (.imul) 1 ∧ De bdX12_changes_295 21 (.iadd) 1 ∧ De bdX12_changes_295 22 (.iload 8) 2 ∧ De bdX12_changes_295 24 (.iadd) 1 ∧ De bdX12_changes_295 25 (.aload_n 0) 1 := by decide +kernel
theorem dX12_changes_295 : decode cX12_changes 295 = .ok (.bipush 12, 2) := dAt wdX12_changes_295 adX12_changes_295.1 rfl
theorem dX12_changes_297 : decode cX12_changes 297 = .ok (.if_icmp .ge 43, 3) := dAt wdX12_changes_295 adX12_changes_295.2.1 rfl
theorem dX12_changes_300 : decode cX12_changes 300 = .ok (.aload_n 0, 1) := dAt wdX12_changes_295 adX12_changes_295.2.2.1 rfl
theorem dX12_changes_301 : decode cX12_changes 301 = .ok (.getfield 8, 3) := dAt wdX12_changes_295 adX12_changes_295.2.2.2.1 rfl
theorem dX12_changes_304 : decode cX12_changes 304 = .ok (.iload_n 1, 1) := dAt wdX12_changes_295 adX12_changes_295.2.2.2.2.1 rfl
theorem dX12_changes_305 : decode cX12_changes 305 = .ok (.sipush 165, 3) := dAt wdX12_changes_295 adX12_changes_295.2.2.2.2.2.1 rfl
theorem dX12_changes_308 : decode cX12_changes 308 = .ok (.iadd, 1) := dAt wdX12_changes_295 adX12_changes_295.2.2.2.2.2.2.1 rfl
theorem dX12_changes_309 : decode cX12_changes 309 = .ok (.bipush 12, 2) := dAt wdX12_changes_295 adX12_changes_295.2.2.2.2.2.2.2.1 rfl
theorem dX12_changes_311 : decode cX12_changes 311 = .ok (.iload_n 3, 1) := dAt wdX12_changes_295 adX12_changes_295.2.2.2.2.2.2.2.2.1 rfl
theorem dX12_changes_312 : decode cX12_changes 312 = .ok (.iload 7, 2) := dAt wdX12_changes_295 adX12_changes_295.2.2.2.2.2.2.2.2.2.1 rfl
theorem dX12_changes_314 : decode cX12_changes 314 = .ok (.iadd, 1) := dAt wdX12_changes_295 adX12_changes_295.2.2.2.2.2.2.2.2.2.2.1 rfl
theorem dX12_changes_315 : decode cX12_changes 315 = .ok (.imul, 1) := dAt wdX12_changes_295 adX12_changes_295.2.2.2.2.2.2.2.2.2.2.2.1 rfl
theorem dX12_changes_316 : decode cX12_changes 316 = .ok (.iadd, 1) := dAt wdX12_changes_295 adX12_changes_295.2.2.2.2.2.2.2.2.2.2.2.2.1 rfl
theorem dX12_changes_317 : decode cX12_changes 317 = .ok (.iload 8, 2) := dAt wdX12_changes_295 adX12_changes_295.2.2.2.2.2.2.2.2.2.2.2.2.2.1 rfl
theorem dX12_changes_319 : decode cX12_changes 319 = .ok (.iadd, 1) := dAt wdX12_changes_295 adX12_changes_295.2.2.2.2.2.2.2.2.2.2.2.2.2.2.1 rfl
theorem dX12_changes_320 : decode cX12_changes 320 = .ok (.aload_n 0, 1) := dAt wdX12_changes_295 adX12_changes_295.2.2.2.2.2.2.2.2.2.2.2.2.2.2.2 rfl
def bdX12_changes_321 : ByteArray := .mk #[180, 0, 33, 16, 12, 21, 7, 104, 21, 8, 96, 46, 79, 132, 8, 1, 167, 255, 212, 132, 7, 1, 167, 255, 156, 42, 180, 0, 8, 27, 4]
theorem wdX12_changes_321 : LocW cX12_changes 321 bdX12_changes_321 := loc_of (by decide +kernel)
theorem adX12_changes_321 : De bdX12_changes_321 0 (.getfield 33) 3 ∧ De bdX12_changes_321 3 (.bipush 12) 2 ∧ De bdX12_changes_321 5 (.iload 7) 2 ∧ De bdX12_changes_321 7 (.imul) 1 ∧ De bdX12_changes_321 8 (.iload 8) 2 ∧ De bdX12_changes_321 10 (.iadd) 1 ∧ De bdX12_changes_321 11 (.iaload) 1 ∧ De bdX12_changes_321 12 (.iastore) 1 ∧ De bdX12_changes_321 13 (.iinc 8 1) 3 ∧ De bdX12_changes_321 16 (.goto (-44)) 3 ∧ De bdX12_changes_321 19 (.iinc 7 1) 3 ∧ De bdX12_changes_321 22 (.goto (-100)) 3 ∧ De bdX12_changes_321 25 (.aload_n 0) 1 ∧ De bdX12_changes_321 26 (.getfield 8) 3 ∧ De bdX12_changes_321 29 (.iload_n 1) 1 ∧ De bdX12_changes_321 30 (.iconst 1) 1 := by decide +kernel
theorem dX12_changes_321 : decode cX12_changes 321 = .ok (.getfield 33, 3) := dAt wdX12_changes_321 adX12_changes_321.1 rfl
theorem dX12_changes_324 : decode cX12_changes 324 = .ok (.bipush 12, 2) := dAt wdX12_changes_321 adX12_changes_321.2.1 rfl
theorem dX12_changes_326 : decode cX12_changes 326 = .ok (.iload 7, 2) := dAt wdX12_changes_321 adX12_changes_321.2.2.1 rfl
theorem dX12_changes_328 : decode cX12_changes 328 = .ok (.imul, 1) := dAt wdX12_changes_321 adX12_changes_321.2.2.2.1 rfl
theorem dX12_changes_329 : decode cX12_changes 329 = .ok (.iload 8, 2) := dAt wdX12_changes_321 adX12_changes_321.2.2.2.2.1 rfl
theorem dX12_changes_331 : decode cX12_changes 331 = .ok (.iadd, 1) := dAt wdX12_changes_321 adX12_changes_321.2.2.2.2.2.1 rfl
theorem dX12_changes_332 : decode cX12_changes 332 = .ok (.iaload, 1) := dAt wdX12_changes_321 adX12_changes_321.2.2.2.2.2.2.1 rfl
theorem dX12_changes_333 : decode cX12_changes 333 = .ok (.iastore, 1) := dAt wdX12_changes_321 adX12_changes_321.2.2.2.2.2.2.2.1 rfl
theorem dX12_changes_334 : decode cX12_changes 334 = .ok (.iinc 8 1, 3) := dAt wdX12_changes_321 adX12_changes_321.2.2.2.2.2.2.2.2.1 rfl
theorem dX12_changes_337 : decode cX12_changes 337 = .ok (.goto (-44), 3) := dAt wdX12_changes_321 adX12_changes_321.2.2.2.2.2.2.2.2.2.1 rfl
theorem dX12_changes_340 : decode cX12_changes 340 = .ok (.iinc 7 1, 3) := dAt wdX12_changes_321 adX12_changes_321.2.2.2.2.2.2.2.2.2.2.1 rfl
theorem dX12_changes_343 : decode cX12_changes 343 = .ok (.goto (-100), 3) := dAt wdX12_changes_321 adX12_changes_321.2.2.2.2.2.2.2.2.2.2.2.1 rfl
theorem dX12_changes_346 : decode cX12_changes 346 = .ok (.aload_n 0, 1) := dAt wdX12_changes_321 adX12_changes_321.2.2.2.2.2.2.2.2.2.2.2.2.1 rfl
theorem dX12_changes_347 : decode cX12_changes 347 = .ok (.getfield 8, 3) := dAt wdX12_changes_321 adX12_changes_321.2.2.2.2.2.2.2.2.2.2.2.2.2.1 rfl
theorem dX12_changes_350 : decode cX12_changes 350 = .ok (.iload_n 1, 1) := dAt wdX12_changes_321 adX12_changes_321.2.2.2.2.2.2.2.2.2.2.2.2.2.2.1 rfl
theorem dX12_changes_351 : decode cX12_changes 351 = .ok (.iconst 1, 1) := dAt wdX12_changes_321 adX12_changes_321.2.2.2.2.2.2.2.2.2.2.2.2.2.2.2 rfl
def bdX12_changes_352 : ByteArray := .mk #[96, 21, 5, 21, 6, 96, 79, 177]
theorem wdX12_changes_352 : LocW cX12_changes 352 bdX12_changes_352 := loc_of (by decide +kernel)
theorem adX12_changes_352 : De bdX12_changes_352 0 (.iadd) 1 ∧ De bdX12_changes_352 1 (.iload 5) 2 ∧ De bdX12_changes_352 3 (.iload 6) 2 ∧ De bdX12_changes_352 5 (.iadd) 1 ∧ De bdX12_changes_352 6 (.iastore) 1 ∧ De bdX12_changes_352 7 (.return_) 1 := by decide +kernel
theorem dX12_changes_352 : decode cX12_changes 352 = .ok (.iadd, 1) := dAt wdX12_changes_352 adX12_changes_352.1 rfl
theorem dX12_changes_353 : decode cX12_changes 353 = .ok (.iload 5, 2) := dAt wdX12_changes_352 adX12_changes_352.2.1 rfl
theorem dX12_changes_355 : decode cX12_changes 355 = .ok (.iload 6, 2) := dAt wdX12_changes_352 adX12_changes_352.2.2.1 rfl
theorem dX12_changes_357 : decode cX12_changes 357 = .ok (.iadd, 1) := dAt wdX12_changes_352 adX12_changes_352.2.2.2.1 rfl
theorem dX12_changes_358 : decode cX12_changes 358 = .ok (.iastore, 1) := dAt wdX12_changes_352 adX12_changes_352.2.2.2.2.1 rfl
theorem dX12_changes_359 : decode cX12_changes 359 = .ok (.return_, 1) := dAt wdX12_changes_352 adX12_changes_352.2.2.2.2.2 rfl
def bdX12_correct_0 : ByteArray := .mk #[42, 182, 0, 154, 42, 42, 27, 182, 1, 55, 153, 0, 11, 42, 29, 182, 1, 107, 154, 0, 7, 4, 167, 0, 29, 28, 3, 42]
theorem wdX12_correct_0 : LocW cX12_correct 0 bdX12_correct_0 := loc_of (by decide +kernel)
theorem adX12_correct_0 : De bdX12_correct_0 0 (.aload_n 0) 1 ∧ De bdX12_correct_0 1 (.invokevirtual 154) 3 ∧ De bdX12_correct_0 4 (.aload_n 0) 1 ∧ De bdX12_correct_0 5 (.aload_n 0) 1 ∧ De bdX12_correct_0 6 (.iload_n 1) 1 ∧ De bdX12_correct_0 7 (.invokevirtual 311) 3 ∧ De bdX12_correct_0 10 (.ifCond .eq 11) 3 ∧ De bdX12_correct_0 13 (.aload_n 0) 1 ∧ De bdX12_correct_0 14 (.iload_n 3) 1 ∧ De bdX12_correct_0 15 (.invokevirtual 363) 3 ∧ De bdX12_correct_0 18 (.ifCond .ne 7) 3 ∧ De bdX12_correct_0 21 (.iconst 1) 1 ∧ De bdX12_correct_0 22 (.goto 29) 3 ∧ De bdX12_correct_0 25 (.iload_n 2) 1 ∧ De bdX12_correct_0 26 (.iconst 0) 1 ∧ De bdX12_correct_0 27 (.aload_n 0) 1 := by decide +kernel
theorem dX12_correct_0 : decode cX12_correct 0 = .ok (.aload_n 0, 1) := dAt wdX12_correct_0 adX12_correct_0.1 rfl
theorem dX12_correct_1 : decode cX12_correct 1 = .ok (.invokevirtual 154, 3) := dAt wdX12_correct_0 adX12_correct_0.2.1 rfl
theorem dX12_correct_4 : decode cX12_correct 4 = .ok (.aload_n 0, 1) := dAt wdX12_correct_0 adX12_correct_0.2.2.1 rfl
theorem dX12_correct_5 : decode cX12_correct 5 = .ok (.aload_n 0, 1) := dAt wdX12_correct_0 adX12_correct_0.2.2.2.1 rfl
theorem dX12_correct_6 : decode cX12_correct 6 = .ok (.iload_n 1, 1) := dAt wdX12_correct_0 adX12_correct_0.2.2.2.2.1 rfl
theorem dX12_correct_7 : decode cX12_correct 7 = .ok (.invokevirtual 311, 3) := dAt wdX12_correct_0 adX12_correct_0.2.2.2.2.2.1 rfl
theorem dX12_correct_10 : decode cX12_correct 10 = .ok (.ifCond .eq 11, 3) := dAt wdX12_correct_0 adX12_correct_0.2.2.2.2.2.2.1 rfl
theorem dX12_correct_13 : decode cX12_correct 13 = .ok (.aload_n 0, 1) := dAt wdX12_correct_0 adX12_correct_0.2.2.2.2.2.2.2.1 rfl
theorem dX12_correct_14 : decode cX12_correct 14 = .ok (.iload_n 3, 1) := dAt wdX12_correct_0 adX12_correct_0.2.2.2.2.2.2.2.2.1 rfl
theorem dX12_correct_15 : decode cX12_correct 15 = .ok (.invokevirtual 363, 3) := dAt wdX12_correct_0 adX12_correct_0.2.2.2.2.2.2.2.2.2.1 rfl
theorem dX12_correct_18 : decode cX12_correct 18 = .ok (.ifCond .ne 7, 3) := dAt wdX12_correct_0 adX12_correct_0.2.2.2.2.2.2.2.2.2.2.1 rfl
theorem dX12_correct_21 : decode cX12_correct 21 = .ok (.iconst 1, 1) := dAt wdX12_correct_0 adX12_correct_0.2.2.2.2.2.2.2.2.2.2.2.1 rfl
theorem dX12_correct_22 : decode cX12_correct 22 = .ok (.goto 29, 3) := dAt wdX12_correct_0 adX12_correct_0.2.2.2.2.2.2.2.2.2.2.2.2.1 rfl
theorem dX12_correct_25 : decode cX12_correct 25 = .ok (.iload_n 2, 1) := dAt wdX12_correct_0 adX12_correct_0.2.2.2.2.2.2.2.2.2.2.2.2.2.1 rfl
theorem dX12_correct_26 : decode cX12_correct 26 = .ok (.iconst 0, 1) := dAt wdX12_correct_0 adX12_correct_0.2.2.2.2.2.2.2.2.2.2.2.2.2.2.1 rfl
theorem dX12_correct_27 : decode cX12_correct 27 = .ok (.aload_n 0, 1) := dAt wdX12_correct_0 adX12_correct_0.2.2.2.2.2.2.2.2.2.2.2.2.2.2.2 rfl
def bdX12_correct_28 : ByteArray := .mk #[180, 0, 8, 27, 184, 0, 164, 3, 96, 46, 4, 100, 184, 0, 157, 154, 0, 7, 4, 167, 0, 4, 3, 181, 0, 122, 42, 180, 0, 122]
theorem wdX12_correct_28 : LocW cX12_correct 28 bdX12_correct_28 := loc_of (by decide +kernel)
theorem adX12_correct_28 : De bdX12_correct_28 0 (.getfield 8) 3 ∧ De bdX12_correct_28 3 (.iload_n 1) 1 ∧ De bdX12_correct_28 4 (.invokestatic 164) 3 ∧ De bdX12_correct_28 7 (.iconst 0) 1 ∧ De bdX12_correct_28 8 (.iadd) 1 ∧ De bdX12_correct_28 9 (.iaload) 1 ∧ De bdX12_correct_28 10 (.iconst 1) 1 ∧ De bdX12_correct_28 11 (.isub) 1 ∧ De bdX12_correct_28 12 (.invokestatic 157) 3 ∧ De bdX12_correct_28 15 (.ifCond .ne 7) 3 ∧ De bdX12_correct_28 18 (.iconst 1) 1 ∧ De bdX12_correct_28 19 (.goto 4) 3 ∧ De bdX12_correct_28 22 (.iconst 0) 1 ∧ De bdX12_correct_28 23 (.putfield 122) 3 ∧ De bdX12_correct_28 26 (.aload_n 0) 1 ∧ De bdX12_correct_28 27 (.getfield 122) 3 := by decide +kernel
theorem dX12_correct_28 : decode cX12_correct 28 = .ok (.getfield 8, 3) := dAt wdX12_correct_28 adX12_correct_28.1 rfl
theorem dX12_correct_31 : decode cX12_correct 31 = .ok (.iload_n 1, 1) := dAt wdX12_correct_28 adX12_correct_28.2.1 rfl
theorem dX12_correct_32 : decode cX12_correct 32 = .ok (.invokestatic 164, 3) := dAt wdX12_correct_28 adX12_correct_28.2.2.1 rfl
theorem dX12_correct_35 : decode cX12_correct 35 = .ok (.iconst 0, 1) := dAt wdX12_correct_28 adX12_correct_28.2.2.2.1 rfl
theorem dX12_correct_36 : decode cX12_correct 36 = .ok (.iadd, 1) := dAt wdX12_correct_28 adX12_correct_28.2.2.2.2.1 rfl
theorem dX12_correct_37 : decode cX12_correct 37 = .ok (.iaload, 1) := dAt wdX12_correct_28 adX12_correct_28.2.2.2.2.2.1 rfl
theorem dX12_correct_38 : decode cX12_correct 38 = .ok (.iconst 1, 1) := dAt wdX12_correct_28 adX12_correct_28.2.2.2.2.2.2.1 rfl
theorem dX12_correct_39 : decode cX12_correct 39 = .ok (.isub, 1) := dAt wdX12_correct_28 adX12_correct_28.2.2.2.2.2.2.2.1 rfl
theorem dX12_correct_40 : decode cX12_correct 40 = .ok (.invokestatic 157, 3) := dAt wdX12_correct_28 adX12_correct_28.2.2.2.2.2.2.2.2.1 rfl
theorem dX12_correct_43 : decode cX12_correct 43 = .ok (.ifCond .ne 7, 3) := dAt wdX12_correct_28 adX12_correct_28.2.2.2.2.2.2.2.2.2.1 rfl
theorem dX12_correct_46 : decode cX12_correct 46 = .ok (.iconst 1, 1) := dAt wdX12_correct_28 adX12_correct_28.2.2.2.2.2.2.2.2.2.2.1 rfl
theorem dX12_correct_47 : decode cX12_correct 47 = .ok (.goto 4, 3) := dAt wdX12_correct_28 adX12_correct_28.2.2.2.2.2.2.2.2.2.2.2.1 rfl
theorem dX12_correct_50 : decode cX12_correct 50 = .ok (.iconst 0, 1) := dAt wdX12_correct_28 adX12_correct_28.2.2.2.2.2.2.2.2.2.2.2.2.1 rfl
theorem dX12_correct_51 : decode cX12_correct 51 = .ok (.putfield 122, 3) := dAt wdX12_correct_28 adX12_correct_28.2.2.2.2.2.2.2.2.2.2.2.2.2.1 rfl
theorem dX12_correct_54 : decode cX12_correct 54 = .ok (.aload_n 0, 1) := dAt wdX12_correct_28 adX12_correct_28.2.2.2.2.2.2.2.2.2.2.2.2.2.2.1 rfl
theorem dX12_correct_55 : decode cX12_correct 55 = .ok (.getfield 122, 3) := dAt wdX12_correct_28 adX12_correct_28.2.2.2.2.2.2.2.2.2.2.2.2.2.2.2 rfl
def bdX12_correct_58 : ByteArray := .mk #[158, 0, 5, 3, 172, 27, 184, 0, 164, 54, 4, 2, 54, 5, 3, 54, 6, 3, 54, 7, 21, 7, 42, 180, 0, 8, 21, 4]
theorem wdX12_correct_58 : LocW cX12_correct 58 bdX12_correct_58 := loc_of (by decide +kernel)
theorem adX12_correct_58 : De bdX12_correct_58 0 (.ifCond .le 5) 3 ∧ De bdX12_correct_58 3 (.iconst 0) 1 ∧ De bdX12_correct_58 4 (.ireturn) 1 ∧ De bdX12_correct_58 5 (.iload_n 1) 1 ∧ De bdX12_correct_58 6 (.invokestatic 164) 3 ∧ De bdX12_correct_58 9 (.istore 4) 2 ∧ De bdX12_correct_58 11 (.iconst (-1)) 1 ∧ De bdX12_correct_58 12 (.istore 5) 2 ∧ De bdX12_correct_58 14 (.iconst 0) 1 ∧ De bdX12_correct_58 15 (.istore 6) 2 ∧ De bdX12_correct_58 17 (.iconst 0) 1 ∧ De bdX12_correct_58 18 (.istore 7) 2 ∧ De bdX12_correct_58 20 (.iload 7) 2 ∧ De bdX12_correct_58 22 (.aload_n 0) 1 ∧ De bdX12_correct_58 23 (.getfield 8) 3 ∧ De bdX12_correct_58 26 (.iload 4) 2 := by decide +kernel
theorem dX12_correct_58 : decode cX12_correct 58 = .ok (.ifCond .le 5, 3) := dAt wdX12_correct_58 adX12_correct_58.1 rfl
theorem dX12_correct_61 : decode cX12_correct 61 = .ok (.iconst 0, 1) := dAt wdX12_correct_58 adX12_correct_58.2.1 rfl
theorem dX12_correct_62 : decode cX12_correct 62 = .ok (.ireturn, 1) := dAt wdX12_correct_58 adX12_correct_58.2.2.1 rfl
theorem dX12_correct_63 : decode cX12_correct 63 = .ok (.iload_n 1, 1) := dAt wdX12_correct_58 adX12_correct_58.2.2.2.1 rfl
theorem dX12_correct_64 : decode cX12_correct 64 = .ok (.invokestatic 164, 3) := dAt wdX12_correct_58 adX12_correct_58.2.2.2.2.1 rfl
theorem dX12_correct_67 : decode cX12_correct 67 = .ok (.istore 4, 2) := dAt wdX12_correct_58 adX12_correct_58.2.2.2.2.2.1 rfl
theorem dX12_correct_69 : decode cX12_correct 69 = .ok (.iconst (-1), 1) := dAt wdX12_correct_58 adX12_correct_58.2.2.2.2.2.2.1 rfl
theorem dX12_correct_70 : decode cX12_correct 70 = .ok (.istore 5, 2) := dAt wdX12_correct_58 adX12_correct_58.2.2.2.2.2.2.2.1 rfl
theorem dX12_correct_72 : decode cX12_correct 72 = .ok (.iconst 0, 1) := dAt wdX12_correct_58 adX12_correct_58.2.2.2.2.2.2.2.2.1 rfl
theorem dX12_correct_73 : decode cX12_correct 73 = .ok (.istore 6, 2) := dAt wdX12_correct_58 adX12_correct_58.2.2.2.2.2.2.2.2.2.1 rfl
theorem dX12_correct_75 : decode cX12_correct 75 = .ok (.iconst 0, 1) := dAt wdX12_correct_58 adX12_correct_58.2.2.2.2.2.2.2.2.2.2.1 rfl
theorem dX12_correct_76 : decode cX12_correct 76 = .ok (.istore 7, 2) := dAt wdX12_correct_58 adX12_correct_58.2.2.2.2.2.2.2.2.2.2.2.1 rfl
theorem dX12_correct_78 : decode cX12_correct 78 = .ok (.iload 7, 2) := dAt wdX12_correct_58 adX12_correct_58.2.2.2.2.2.2.2.2.2.2.2.2.1 rfl
theorem dX12_correct_80 : decode cX12_correct 80 = .ok (.aload_n 0, 1) := dAt wdX12_correct_58 adX12_correct_58.2.2.2.2.2.2.2.2.2.2.2.2.2.1 rfl
theorem dX12_correct_81 : decode cX12_correct 81 = .ok (.getfield 8, 3) := dAt wdX12_correct_58 adX12_correct_58.2.2.2.2.2.2.2.2.2.2.2.2.2.2.1 rfl
theorem dX12_correct_84 : decode cX12_correct 84 = .ok (.iload 4, 2) := dAt wdX12_correct_58 adX12_correct_58.2.2.2.2.2.2.2.2.2.2.2.2.2.2.2 rfl
def bdX12_correct_86 : ByteArray := .mk #[4, 96, 46, 162, 0, 47, 42, 180, 0, 8, 21, 4, 16, 85, 96, 21, 7, 96, 46, 28, 159, 0, 6, 167, 0, 21, 21, 5]
theorem wdX12_correct_86 : LocW cX12_correct 86 bdX12_correct_86 := loc_of (by decide +kernel)
theorem adX12_correct_86 : De bdX12_correct_86 0 (.iconst 1) 1 ∧ De bdX12_correct_86 1 (.iadd) 1 ∧ De bdX12_correct_86 2 (.iaload) 1 ∧ De bdX12_correct_86 3 (.if_icmp .ge 47) 3 ∧ De bdX12_correct_86 6 (.aload_n 0) 1 ∧ De bdX12_correct_86 7 (.getfield 8) 3 ∧ De bdX12_correct_86 10 (.iload 4) 2 ∧ De bdX12_correct_86 12 (.bipush 85) 2 ∧ De bdX12_correct_86 14 (.iadd) 1 ∧ De bdX12_correct_86 15 (.iload 7) 2 ∧ De bdX12_correct_86 17 (.iadd) 1 ∧ De bdX12_correct_86 18 (.iaload) 1 ∧ De bdX12_correct_86 19 (.iload_n 2) 1 ∧ De bdX12_correct_86 20 (.if_icmp .eq 6) 3 ∧ De bdX12_correct_86 23 (.goto 21) 3 ∧ De bdX12_correct_86 26 (.iload 5) 2 := by decide +kernel
theorem dX12_correct_86 : decode cX12_correct 86 = .ok (.iconst 1, 1) := dAt wdX12_correct_86 adX12_correct_86.1 rfl
theorem dX12_correct_87 : decode cX12_correct 87 = .ok (.iadd, 1) := dAt wdX12_correct_86 adX12_correct_86.2.1 rfl
theorem dX12_correct_88 : decode cX12_correct 88 = .ok (.iaload, 1) := dAt wdX12_correct_86 adX12_correct_86.2.2.1 rfl
theorem dX12_correct_89 : decode cX12_correct 89 = .ok (.if_icmp .ge 47, 3) := dAt wdX12_correct_86 adX12_correct_86.2.2.2.1 rfl
theorem dX12_correct_92 : decode cX12_correct 92 = .ok (.aload_n 0, 1) := dAt wdX12_correct_86 adX12_correct_86.2.2.2.2.1 rfl
theorem dX12_correct_93 : decode cX12_correct 93 = .ok (.getfield 8, 3) := dAt wdX12_correct_86 adX12_correct_86.2.2.2.2.2.1 rfl
theorem dX12_correct_96 : decode cX12_correct 96 = .ok (.iload 4, 2) := dAt wdX12_correct_86 adX12_correct_86.2.2.2.2.2.2.1 rfl
theorem dX12_correct_98 : decode cX12_correct 98 = .ok (.bipush 85, 2) := dAt wdX12_correct_86 adX12_correct_86.2.2.2.2.2.2.2.1 rfl
theorem dX12_correct_100 : decode cX12_correct 100 = .ok (.iadd, 1) := dAt wdX12_correct_86 adX12_correct_86.2.2.2.2.2.2.2.2.1 rfl
theorem dX12_correct_101 : decode cX12_correct 101 = .ok (.iload 7, 2) := dAt wdX12_correct_86 adX12_correct_86.2.2.2.2.2.2.2.2.2.1 rfl
theorem dX12_correct_103 : decode cX12_correct 103 = .ok (.iadd, 1) := dAt wdX12_correct_86 adX12_correct_86.2.2.2.2.2.2.2.2.2.2.1 rfl
theorem dX12_correct_104 : decode cX12_correct 104 = .ok (.iaload, 1) := dAt wdX12_correct_86 adX12_correct_86.2.2.2.2.2.2.2.2.2.2.2.1 rfl
theorem dX12_correct_105 : decode cX12_correct 105 = .ok (.iload_n 2, 1) := dAt wdX12_correct_86 adX12_correct_86.2.2.2.2.2.2.2.2.2.2.2.2.1 rfl
theorem dX12_correct_106 : decode cX12_correct 106 = .ok (.if_icmp .eq 6, 3) := dAt wdX12_correct_86 adX12_correct_86.2.2.2.2.2.2.2.2.2.2.2.2.2.1 rfl
theorem dX12_correct_109 : decode cX12_correct 109 = .ok (.goto 21, 3) := dAt wdX12_correct_86 adX12_correct_86.2.2.2.2.2.2.2.2.2.2.2.2.2.2.1 rfl
theorem dX12_correct_112 : decode cX12_correct 112 = .ok (.iload 5, 2) := dAt wdX12_correct_86 adX12_correct_86.2.2.2.2.2.2.2.2.2.2.2.2.2.2.2 rfl
def bdX12_correct_114 : ByteArray := .mk #[2, 160, 0, 8, 21, 7, 167, 0, 5, 21, 5, 54, 5, 132, 6, 1, 132, 7, 1, 167, 255, 201, 42, 2, 181, 0, 23, 42, 42, 180, 0, 8, 21, 4]
theorem wdX12_correct_114 : LocW cX12_correct 114 bdX12_correct_114 := loc_of (by decide +kernel)
theorem adX12_correct_114 : De bdX12_correct_114 0 (.iconst (-1)) 1 ∧ De bdX12_correct_114 1 (.if_icmp .ne 8) 3 ∧ De bdX12_correct_114 4 (.iload 7) 2 ∧ De bdX12_correct_114 6 (.goto 5) 3 ∧ De bdX12_correct_114 9 (.iload 5) 2 ∧ De bdX12_correct_114 11 (.istore 5) 2 ∧ De bdX12_correct_114 13 (.iinc 6 1) 3 ∧ De bdX12_correct_114 16 (.iinc 7 1) 3 ∧ De bdX12_correct_114 19 (.goto (-55)) 3 ∧ De bdX12_correct_114 22 (.aload_n 0) 1 ∧ De bdX12_correct_114 23 (.iconst (-1)) 1 ∧ De bdX12_correct_114 24 (.putfield 23) 3 ∧ De bdX12_correct_114 27 (.aload_n 0) 1 ∧ De bdX12_correct_114 28 (.aload_n 0) 1 ∧ De bdX12_correct_114 29 (.getfield 8) 3 ∧ De bdX12_correct_114 32 (.iload 4) 2 := by decide +kernel
theorem dX12_correct_114 : decode cX12_correct 114 = .ok (.iconst (-1), 1) := dAt wdX12_correct_114 adX12_correct_114.1 rfl
theorem dX12_correct_115 : decode cX12_correct 115 = .ok (.if_icmp .ne 8, 3) := dAt wdX12_correct_114 adX12_correct_114.2.1 rfl
theorem dX12_correct_118 : decode cX12_correct 118 = .ok (.iload 7, 2) := dAt wdX12_correct_114 adX12_correct_114.2.2.1 rfl
theorem dX12_correct_120 : decode cX12_correct 120 = .ok (.goto 5, 3) := dAt wdX12_correct_114 adX12_correct_114.2.2.2.1 rfl
theorem dX12_correct_123 : decode cX12_correct 123 = .ok (.iload 5, 2) := dAt wdX12_correct_114 adX12_correct_114.2.2.2.2.1 rfl
theorem dX12_correct_125 : decode cX12_correct 125 = .ok (.istore 5, 2) := dAt wdX12_correct_114 adX12_correct_114.2.2.2.2.2.1 rfl
theorem dX12_correct_127 : decode cX12_correct 127 = .ok (.iinc 6 1, 3) := dAt wdX12_correct_114 adX12_correct_114.2.2.2.2.2.2.1 rfl
theorem dX12_correct_130 : decode cX12_correct 130 = .ok (.iinc 7 1, 3) := dAt wdX12_correct_114 adX12_correct_114.2.2.2.2.2.2.2.1 rfl
theorem dX12_correct_133 : decode cX12_correct 133 = .ok (.goto (-55), 3) := dAt wdX12_correct_114 adX12_correct_114.2.2.2.2.2.2.2.2.1 rfl
theorem dX12_correct_136 : decode cX12_correct 136 = .ok (.aload_n 0, 1) := dAt wdX12_correct_114 adX12_correct_114.2.2.2.2.2.2.2.2.2.1 rfl
theorem dX12_correct_137 : decode cX12_correct 137 = .ok (.iconst (-1), 1) := dAt wdX12_correct_114 adX12_correct_114.2.2.2.2.2.2.2.2.2.2.1 rfl
theorem dX12_correct_138 : decode cX12_correct 138 = .ok (.putfield 23, 3) := dAt wdX12_correct_114 adX12_correct_114.2.2.2.2.2.2.2.2.2.2.2.1 rfl
theorem dX12_correct_141 : decode cX12_correct 141 = .ok (.aload_n 0, 1) := dAt wdX12_correct_114 adX12_correct_114.2.2.2.2.2.2.2.2.2.2.2.2.1 rfl
theorem dX12_correct_142 : decode cX12_correct 142 = .ok (.aload_n 0, 1) := dAt wdX12_correct_114 adX12_correct_114.2.2.2.2.2.2.2.2.2.2.2.2.2.1 rfl
theorem dX12_correct_143 : decode cX12_correct 143 = .ok (.getfield 8, 3) := dAt wdX12_correct_114 adX12_correct_114.2.2.2.2.2.2.2.2.2.2.2.2.2.2.1 rfl
theorem dX12_correct_146 : decode cX12_correct 146 = .ok (.iload 4, 2) := dAt wdX12_correct_114 adX12_correct_114.2.2.2.2.2.2.2.2.2.2.2.2.2.2.2 rfl
def bdX12_correct_148 : ByteArray := .mk #[4, 96, 46, 21, 6, 100, 182, 1, 149, 154, 0, 11, 42, 5, 181, 0, 122, 167, 0, 54, 42, 180, 0, 8, 21, 4, 6, 96]
theorem wdX12_correct_148 : LocW cX12_correct 148 bdX12_correct_148 := loc_of (by decide +kernel)
theorem adX12_correct_148 : De bdX12_correct_148 0 (.iconst 1) 1 ∧ De bdX12_correct_148 1 (.iadd) 1 ∧ De bdX12_correct_148 2 (.iaload) 1 ∧ De bdX12_correct_148 3 (.iload 6) 2 ∧ De bdX12_correct_148 5 (.isub) 1 ∧ De bdX12_correct_148 6 (.invokevirtual 405) 3 ∧ De bdX12_correct_148 9 (.ifCond .ne 11) 3 ∧ De bdX12_correct_148 12 (.aload_n 0) 1 ∧ De bdX12_correct_148 13 (.iconst 2) 1 ∧ De bdX12_correct_148 14 (.putfield 122) 3 ∧ De bdX12_correct_148 17 (.goto 54) 3 ∧ De bdX12_correct_148 20 (.aload_n 0) 1 ∧ De bdX12_correct_148 21 (.getfield 8) 3 ∧ De bdX12_correct_148 24 (.iload 4) 2 ∧ De bdX12_correct_148 26 (.iconst 3) 1 ∧ De bdX12_correct_148 27 (.iadd) 1 := by decide +kernel
theorem dX12_correct_148 : decode cX12_correct 148 = .ok (.iconst 1, 1) := dAt wdX12_correct_148 adX12_correct_148.1 rfl
theorem dX12_correct_149 : decode cX12_correct 149 = .ok (.iadd, 1) := dAt wdX12_correct_148 adX12_correct_148.2.1 rfl
theorem dX12_correct_150 : decode cX12_correct 150 = .ok (.iaload, 1) := dAt wdX12_correct_148 adX12_correct_148.2.2.1 rfl
theorem dX12_correct_151 : decode cX12_correct 151 = .ok (.iload 6, 2) := dAt wdX12_correct_148 adX12_correct_148.2.2.2.1 rfl
theorem dX12_correct_153 : decode cX12_correct 153 = .ok (.isub, 1) := dAt wdX12_correct_148 adX12_correct_148.2.2.2.2.1 rfl
theorem dX12_correct_154 : decode cX12_correct 154 = .ok (.invokevirtual 405, 3) := dAt wdX12_correct_148 adX12_correct_148.2.2.2.2.2.1 rfl
theorem dX12_correct_157 : decode cX12_correct 157 = .ok (.ifCond .ne 11, 3) := dAt wdX12_correct_148 adX12_correct_148.2.2.2.2.2.2.1 rfl
theorem dX12_correct_160 : decode cX12_correct 160 = .ok (.aload_n 0, 1) := dAt wdX12_correct_148 adX12_correct_148.2.2.2.2.2.2.2.1 rfl
theorem dX12_correct_161 : decode cX12_correct 161 = .ok (.iconst 2, 1) := dAt wdX12_correct_148 adX12_correct_148.2.2.2.2.2.2.2.2.1 rfl
theorem dX12_correct_162 : decode cX12_correct 162 = .ok (.putfield 122, 3) := dAt wdX12_correct_148 adX12_correct_148.2.2.2.2.2.2.2.2.2.1 rfl
theorem dX12_correct_165 : decode cX12_correct 165 = .ok (.goto 54, 3) := dAt wdX12_correct_148 adX12_correct_148.2.2.2.2.2.2.2.2.2.2.1 rfl
theorem dX12_correct_168 : decode cX12_correct 168 = .ok (.aload_n 0, 1) := dAt wdX12_correct_148 adX12_correct_148.2.2.2.2.2.2.2.2.2.2.2.1 rfl
theorem dX12_correct_169 : decode cX12_correct 169 = .ok (.getfield 8, 3) := dAt wdX12_correct_148 adX12_correct_148.2.2.2.2.2.2.2.2.2.2.2.2.1 rfl
theorem dX12_correct_172 : decode cX12_correct 172 = .ok (.iload 4, 2) := dAt wdX12_correct_148 adX12_correct_148.2.2.2.2.2.2.2.2.2.2.2.2.2.1 rfl
theorem dX12_correct_174 : decode cX12_correct 174 = .ok (.iconst 3, 1) := dAt wdX12_correct_148 adX12_correct_148.2.2.2.2.2.2.2.2.2.2.2.2.2.2.1 rfl
theorem dX12_correct_175 : decode cX12_correct 175 = .ok (.iadd, 1) := dAt wdX12_correct_148 adX12_correct_148.2.2.2.2.2.2.2.2.2.2.2.2.2.2.2 rfl
def bdX12_correct_176 : ByteArray := .mk #[46, 4, 160, 0, 19, 42, 27, 182, 1, 152, 153, 0, 11, 42, 6, 181, 0, 122, 167, 0, 25, 42, 180, 0, 8, 29, 184, 1, 104, 16, 29]
theorem wdX12_correct_176 : LocW cX12_correct 176 bdX12_correct_176 := loc_of (by decide +kernel)
theorem adX12_correct_176 : De bdX12_correct_176 0 (.iaload) 1 ∧ De bdX12_correct_176 1 (.iconst 1) 1 ∧ De bdX12_correct_176 2 (.if_icmp .ne 19) 3 ∧ De bdX12_correct_176 5 (.aload_n 0) 1 ∧ De bdX12_correct_176 6 (.iload_n 1) 1 ∧ De bdX12_correct_176 7 (.invokevirtual 408) 3 ∧ De bdX12_correct_176 10 (.ifCond .eq 11) 3 ∧ De bdX12_correct_176 13 (.aload_n 0) 1 ∧ De bdX12_correct_176 14 (.iconst 3) 1 ∧ De bdX12_correct_176 15 (.putfield 122) 3 ∧ De bdX12_correct_176 18 (.goto 25) 3 ∧ De bdX12_correct_176 21 (.aload_n 0) 1 ∧ De bdX12_correct_176 22 (.getfield 8) 3 ∧ De bdX12_correct_176 25 (.iload_n 3) 1 ∧ De bdX12_correct_176 26 (.invokestatic 360) 3 ∧ De bdX12_correct_176 29 (.bipush 29) 2 := by decide +kernel
theorem dX12_correct_176 : decode cX12_correct 176 = .ok (.iaload, 1) := dAt wdX12_correct_176 adX12_correct_176.1 rfl
theorem dX12_correct_177 : decode cX12_correct 177 = .ok (.iconst 1, 1) := dAt wdX12_correct_176 adX12_correct_176.2.1 rfl
theorem dX12_correct_178 : decode cX12_correct 178 = .ok (.if_icmp .ne 19, 3) := dAt wdX12_correct_176 adX12_correct_176.2.2.1 rfl
theorem dX12_correct_181 : decode cX12_correct 181 = .ok (.aload_n 0, 1) := dAt wdX12_correct_176 adX12_correct_176.2.2.2.1 rfl
theorem dX12_correct_182 : decode cX12_correct 182 = .ok (.iload_n 1, 1) := dAt wdX12_correct_176 adX12_correct_176.2.2.2.2.1 rfl
theorem dX12_correct_183 : decode cX12_correct 183 = .ok (.invokevirtual 408, 3) := dAt wdX12_correct_176 adX12_correct_176.2.2.2.2.2.1 rfl
theorem dX12_correct_186 : decode cX12_correct 186 = .ok (.ifCond .eq 11, 3) := dAt wdX12_correct_176 adX12_correct_176.2.2.2.2.2.2.1 rfl
theorem dX12_correct_189 : decode cX12_correct 189 = .ok (.aload_n 0, 1) := dAt wdX12_correct_176 adX12_correct_176.2.2.2.2.2.2.2.1 rfl
theorem dX12_correct_190 : decode cX12_correct 190 = .ok (.iconst 3, 1) := dAt wdX12_correct_176 adX12_correct_176.2.2.2.2.2.2.2.2.1 rfl
theorem dX12_correct_191 : decode cX12_correct 191 = .ok (.putfield 122, 3) := dAt wdX12_correct_176 adX12_correct_176.2.2.2.2.2.2.2.2.2.1 rfl
theorem dX12_correct_194 : decode cX12_correct 194 = .ok (.goto 25, 3) := dAt wdX12_correct_176 adX12_correct_176.2.2.2.2.2.2.2.2.2.2.1 rfl
theorem dX12_correct_197 : decode cX12_correct 197 = .ok (.aload_n 0, 1) := dAt wdX12_correct_176 adX12_correct_176.2.2.2.2.2.2.2.2.2.2.2.1 rfl
theorem dX12_correct_198 : decode cX12_correct 198 = .ok (.getfield 8, 3) := dAt wdX12_correct_176 adX12_correct_176.2.2.2.2.2.2.2.2.2.2.2.2.1 rfl
theorem dX12_correct_201 : decode cX12_correct 201 = .ok (.iload_n 3, 1) := dAt wdX12_correct_176 adX12_correct_176.2.2.2.2.2.2.2.2.2.2.2.2.2.1 rfl
theorem dX12_correct_202 : decode cX12_correct 202 = .ok (.invokestatic 360, 3) := dAt wdX12_correct_176 adX12_correct_176.2.2.2.2.2.2.2.2.2.2.2.2.2.2.1 rfl
theorem dX12_correct_205 : decode cX12_correct 205 = .ok (.bipush 29, 2) := dAt wdX12_correct_176 adX12_correct_176.2.2.2.2.2.2.2.2.2.2.2.2.2.2.2 rfl
def bdX12_correct_207 : ByteArray := .mk #[96, 46, 16, 30, 160, 0, 8, 42, 7, 181, 0, 122, 42, 180, 0, 122, 158, 0, 5, 3, 172, 42, 180, 0, 8, 21, 4, 6]
theorem wdX12_correct_207 : LocW cX12_correct 207 bdX12_correct_207 := loc_of (by decide +kernel)
theorem adX12_correct_207 : De bdX12_correct_207 0 (.iadd) 1 ∧ De bdX12_correct_207 1 (.iaload) 1 ∧ De bdX12_correct_207 2 (.bipush 30) 2 ∧ De bdX12_correct_207 4 (.if_icmp .ne 8) 3 ∧ De bdX12_correct_207 7 (.aload_n 0) 1 ∧ De bdX12_correct_207 8 (.iconst 4) 1 ∧ De bdX12_correct_207 9 (.putfield 122) 3 ∧ De bdX12_correct_207 12 (.aload_n 0) 1 ∧ De bdX12_correct_207 13 (.getfield 122) 3 ∧ De bdX12_correct_207 16 (.ifCond .le 5) 3 ∧ De bdX12_correct_207 19 (.iconst 0) 1 ∧ De bdX12_correct_207 20 (.ireturn) 1 ∧ De bdX12_correct_207 21 (.aload_n 0) 1 ∧ De bdX12_correct_207 22 (.getfield 8) 3 ∧ De bdX12_correct_207 25 (.iload 4) 2 ∧ De bdX12_correct_207 27 (.iconst 3) 1 := by decide +kernel
theorem dX12_correct_207 : decode cX12_correct 207 = .ok (.iadd, 1) := dAt wdX12_correct_207 adX12_correct_207.1 rfl
theorem dX12_correct_208 : decode cX12_correct 208 = .ok (.iaload, 1) := dAt wdX12_correct_207 adX12_correct_207.2.1 rfl
theorem dX12_correct_209 : decode cX12_correct 209 = .ok (.bipush 30, 2) := dAt wdX12_correct_207 adX12_correct_207.2.2.1 rfl
theorem dX12_correct_211 : decode cX12_correct 211 = .ok (.if_icmp .ne 8, 3) := dAt wdX12_correct_207 adX12_correct_207.2.2.2.1 rfl
theorem dX12_correct_214 : decode cX12_correct 214 = .ok (.aload_n 0, 1) := dAt wdX12_correct_207 adX12_correct_207.2.2.2.2.1 rfl
theorem dX12_correct_215 : decode cX12_correct 215 = .ok (.iconst 4, 1) := dAt wdX12_correct_207 adX12_correct_207.2.2.2.2.2.1 rfl
theorem dX12_correct_216 : decode cX12_correct 216 = .ok (.putfield 122, 3) := dAt wdX12_correct_207 adX12_correct_207.2.2.2.2.2.2.1 rfl
theorem dX12_correct_219 : decode cX12_correct 219 = .ok (.aload_n 0, 1) := dAt wdX12_correct_207 adX12_correct_207.2.2.2.2.2.2.2.1 rfl
theorem dX12_correct_220 : decode cX12_correct 220 = .ok (.getfield 122, 3) := dAt wdX12_correct_207 adX12_correct_207.2.2.2.2.2.2.2.2.1 rfl
theorem dX12_correct_223 : decode cX12_correct 223 = .ok (.ifCond .le 5, 3) := dAt wdX12_correct_207 adX12_correct_207.2.2.2.2.2.2.2.2.2.1 rfl
theorem dX12_correct_226 : decode cX12_correct 226 = .ok (.iconst 0, 1) := dAt wdX12_correct_207 adX12_correct_207.2.2.2.2.2.2.2.2.2.2.1 rfl
theorem dX12_correct_227 : decode cX12_correct 227 = .ok (.ireturn, 1) := dAt wdX12_correct_207 adX12_correct_207.2.2.2.2.2.2.2.2.2.2.2.1 rfl
theorem dX12_correct_228 : decode cX12_correct 228 = .ok (.aload_n 0, 1) := dAt wdX12_correct_207 adX12_correct_207.2.2.2.2.2.2.2.2.2.2.2.2.1 rfl
theorem dX12_correct_229 : decode cX12_correct 229 = .ok (.getfield 8, 3) := dAt wdX12_correct_207 adX12_correct_207.2.2.2.2.2.2.2.2.2.2.2.2.2.1 rfl
theorem dX12_correct_232 : decode cX12_correct 232 = .ok (.iload 4, 2) := dAt wdX12_correct_207 adX12_correct_207.2.2.2.2.2.2.2.2.2.2.2.2.2.2.1 rfl
theorem dX12_correct_234 : decode cX12_correct 234 = .ok (.iconst 3, 1) := dAt wdX12_correct_207 adX12_correct_207.2.2.2.2.2.2.2.2.2.2.2.2.2.2.2 rfl
def bdX12_correct_235 : ByteArray := .mk #[96, 46, 154, 0, 16, 42, 21, 4, 28, 21, 5, 21, 6, 182, 1, 155, 3, 172, 3, 54, 7, 42, 180, 0, 8, 21, 4]
theorem wdX12_correct_235 : LocW cX12_correct 235 bdX12_correct_235 := loc_of (by decide +kernel)
theorem adX12_correct_235 : De bdX12_correct_235 0 (.iadd) 1 ∧ De bdX12_correct_235 1 (.iaload) 1 ∧ De bdX12_correct_235 2 (.ifCond .ne 16) 3 ∧ De bdX12_correct_235 5 (.aload_n 0) 1 ∧ De bdX12_correct_235 6 (.iload 4) 2 ∧ De bdX12_correct_235 8 (.iload_n 2) 1 ∧ De bdX12_correct_235 9 (.iload 5) 2 ∧ De bdX12_correct_235 11 (.iload 6) 2 ∧ De bdX12_correct_235 13 (.invokevirtual 411) 3 ∧ De bdX12_correct_235 16 (.iconst 0) 1 ∧ De bdX12_correct_235 17 (.ireturn) 1 ∧ De bdX12_correct_235 18 (.iconst 0) 1 ∧ De bdX12_correct_235 19 (.istore 7) 2 ∧ De bdX12_correct_235 21 (.aload_n 0) 1 ∧ De bdX12_correct_235 22 (.getfield 8) 3 ∧ De bdX12_correct_235 25 (.iload 4) 2 := by decide +kernel
theorem dX12_correct_235 : decode cX12_correct 235 = .ok (.iadd, 1) := dAt wdX12_correct_235 adX12_correct_235.1 rfl
theorem dX12_correct_236 : decode cX12_correct 236 = .ok (.iaload, 1) := dAt wdX12_correct_235 adX12_correct_235.2.1 rfl
theorem dX12_correct_237 : decode cX12_correct 237 = .ok (.ifCond .ne 16, 3) := dAt wdX12_correct_235 adX12_correct_235.2.2.1 rfl
theorem dX12_correct_240 : decode cX12_correct 240 = .ok (.aload_n 0, 1) := dAt wdX12_correct_235 adX12_correct_235.2.2.2.1 rfl
theorem dX12_correct_241 : decode cX12_correct 241 = .ok (.iload 4, 2) := dAt wdX12_correct_235 adX12_correct_235.2.2.2.2.1 rfl
theorem dX12_correct_243 : decode cX12_correct 243 = .ok (.iload_n 2, 1) := dAt wdX12_correct_235 adX12_correct_235.2.2.2.2.2.1 rfl
theorem dX12_correct_244 : decode cX12_correct 244 = .ok (.iload 5, 2) := dAt wdX12_correct_235 adX12_correct_235.2.2.2.2.2.2.1 rfl
theorem dX12_correct_246 : decode cX12_correct 246 = .ok (.iload 6, 2) := dAt wdX12_correct_235 adX12_correct_235.2.2.2.2.2.2.2.1 rfl
theorem dX12_correct_248 : decode cX12_correct 248 = .ok (.invokevirtual 411, 3) := dAt wdX12_correct_235 adX12_correct_235.2.2.2.2.2.2.2.2.1 rfl
theorem dX12_correct_251 : decode cX12_correct 251 = .ok (.iconst 0, 1) := dAt wdX12_correct_235 adX12_correct_235.2.2.2.2.2.2.2.2.2.1 rfl
theorem dX12_correct_252 : decode cX12_correct 252 = .ok (.ireturn, 1) := dAt wdX12_correct_235 adX12_correct_235.2.2.2.2.2.2.2.2.2.2.1 rfl
theorem dX12_correct_253 : decode cX12_correct 253 = .ok (.iconst 0, 1) := dAt wdX12_correct_235 adX12_correct_235.2.2.2.2.2.2.2.2.2.2.2.1 rfl
theorem dX12_correct_254 : decode cX12_correct 254 = .ok (.istore 7, 2) := dAt wdX12_correct_235 adX12_correct_235.2.2.2.2.2.2.2.2.2.2.2.2.1 rfl
theorem dX12_correct_256 : decode cX12_correct 256 = .ok (.aload_n 0, 1) := dAt wdX12_correct_235 adX12_correct_235.2.2.2.2.2.2.2.2.2.2.2.2.2.1 rfl
theorem dX12_correct_257 : decode cX12_correct 257 = .ok (.getfield 8, 3) := dAt wdX12_correct_235 adX12_correct_235.2.2.2.2.2.2.2.2.2.2.2.2.2.2.1 rfl
theorem dX12_correct_260 : decode cX12_correct 260 = .ok (.iload 4, 2) := dAt wdX12_correct_235 adX12_correct_235.2.2.2.2.2.2.2.2.2.2.2.2.2.2.2 rfl
def bdX12_correct_262 : ByteArray := .mk #[8, 96, 21, 7, 96, 46, 21, 5, 162, 0, 9, 132, 7, 1, 167, 255, 236, 42, 180, 0, 8, 21, 4, 7, 96, 46, 54, 8]
theorem wdX12_correct_262 : LocW cX12_correct 262 bdX12_correct_262 := loc_of (by decide +kernel)
theorem adX12_correct_262 : De bdX12_correct_262 0 (.iconst 5) 1 ∧ De bdX12_correct_262 1 (.iadd) 1 ∧ De bdX12_correct_262 2 (.iload 7) 2 ∧ De bdX12_correct_262 4 (.iadd) 1 ∧ De bdX12_correct_262 5 (.iaload) 1 ∧ De bdX12_correct_262 6 (.iload 5) 2 ∧ De bdX12_correct_262 8 (.if_icmp .ge 9) 3 ∧ De bdX12_correct_262 11 (.iinc 7 1) 3 ∧ De bdX12_correct_262 14 (.goto (-20)) 3 ∧ De bdX12_correct_262 17 (.aload_n 0) 1 ∧ De bdX12_correct_262 18 (.getfield 8) 3 ∧ De bdX12_correct_262 21 (.iload 4) 2 ∧ De bdX12_correct_262 23 (.iconst 4) 1 ∧ De bdX12_correct_262 24 (.iadd) 1 ∧ De bdX12_correct_262 25 (.iaload) 1 ∧ De bdX12_correct_262 26 (.istore 8) 2 := by decide +kernel
theorem dX12_correct_262 : decode cX12_correct 262 = .ok (.iconst 5, 1) := dAt wdX12_correct_262 adX12_correct_262.1 rfl
theorem dX12_correct_263 : decode cX12_correct 263 = .ok (.iadd, 1) := dAt wdX12_correct_262 adX12_correct_262.2.1 rfl
theorem dX12_correct_264 : decode cX12_correct 264 = .ok (.iload 7, 2) := dAt wdX12_correct_262 adX12_correct_262.2.2.1 rfl
theorem dX12_correct_266 : decode cX12_correct 266 = .ok (.iadd, 1) := dAt wdX12_correct_262 adX12_correct_262.2.2.2.1 rfl
theorem dX12_correct_267 : decode cX12_correct 267 = .ok (.iaload, 1) := dAt wdX12_correct_262 adX12_correct_262.2.2.2.2.1 rfl
theorem dX12_correct_268 : decode cX12_correct 268 = .ok (.iload 5, 2) := dAt wdX12_correct_262 adX12_correct_262.2.2.2.2.2.1 rfl
theorem dX12_correct_270 : decode cX12_correct 270 = .ok (.if_icmp .ge 9, 3) := dAt wdX12_correct_262 adX12_correct_262.2.2.2.2.2.2.1 rfl
theorem dX12_correct_273 : decode cX12_correct 273 = .ok (.iinc 7 1, 3) := dAt wdX12_correct_262 adX12_correct_262.2.2.2.2.2.2.2.1 rfl
theorem dX12_correct_276 : decode cX12_correct 276 = .ok (.goto (-20), 3) := dAt wdX12_correct_262 adX12_correct_262.2.2.2.2.2.2.2.2.1 rfl
theorem dX12_correct_279 : decode cX12_correct 279 = .ok (.aload_n 0, 1) := dAt wdX12_correct_262 adX12_correct_262.2.2.2.2.2.2.2.2.2.1 rfl
theorem dX12_correct_280 : decode cX12_correct 280 = .ok (.getfield 8, 3) := dAt wdX12_correct_262 adX12_correct_262.2.2.2.2.2.2.2.2.2.2.1 rfl
theorem dX12_correct_283 : decode cX12_correct 283 = .ok (.iload 4, 2) := dAt wdX12_correct_262 adX12_correct_262.2.2.2.2.2.2.2.2.2.2.2.1 rfl
theorem dX12_correct_285 : decode cX12_correct 285 = .ok (.iconst 4, 1) := dAt wdX12_correct_262 adX12_correct_262.2.2.2.2.2.2.2.2.2.2.2.2.1 rfl
theorem dX12_correct_286 : decode cX12_correct 286 = .ok (.iadd, 1) := dAt wdX12_correct_262 adX12_correct_262.2.2.2.2.2.2.2.2.2.2.2.2.2.1 rfl
theorem dX12_correct_287 : decode cX12_correct 287 = .ok (.iaload, 1) := dAt wdX12_correct_262 adX12_correct_262.2.2.2.2.2.2.2.2.2.2.2.2.2.2.1 rfl
theorem dX12_correct_288 : decode cX12_correct 288 = .ok (.istore 8, 2) := dAt wdX12_correct_262 adX12_correct_262.2.2.2.2.2.2.2.2.2.2.2.2.2.2.2 rfl
def bdX12_correct_290 : ByteArray := .mk #[21, 7, 54, 9, 21, 9, 21, 8, 162, 0, 88, 42, 27, 21, 9, 182, 1, 101, 42, 180, 0, 76, 21, 9, 42, 180, 1, 95, 79, 42]
theorem wdX12_correct_290 : LocW cX12_correct 290 bdX12_correct_290 := loc_of (by decide +kernel)
theorem adX12_correct_290 : De bdX12_correct_290 0 (.iload 7) 2 ∧ De bdX12_correct_290 2 (.istore 9) 2 ∧ De bdX12_correct_290 4 (.iload 9) 2 ∧ De bdX12_correct_290 6 (.iload 8) 2 ∧ De bdX12_correct_290 8 (.if_icmp .ge 88) 3 ∧ De bdX12_correct_290 11 (.aload_n 0) 1 ∧ De bdX12_correct_290 12 (.iload_n 1) 1 ∧ De bdX12_correct_290 13 (.iload 9) 2 ∧ De bdX12_correct_290 15 (.invokevirtual 357) 3 ∧ De bdX12_correct_290 18 (.aload_n 0) 1 ∧ De bdX12_correct_290 19 (.getfield 76) 3 ∧ De bdX12_correct_290 22 (.iload 9) 2 ∧ De bdX12_correct_290 24 (.aload_n 0) 1 ∧ De bdX12_correct_290 25 (.getfield 351) 3 ∧ De bdX12_correct_290 28 (.iastore) 1 ∧ De bdX12_correct_290 29 (.aload_n 0) 1 := by decide +kernel
theorem dX12_correct_290 : decode cX12_correct 290 = .ok (.iload 7, 2) := dAt wdX12_correct_290 adX12_correct_290.1 rfl
theorem dX12_correct_292 : decode cX12_correct 292 = .ok (.istore 9, 2) := dAt wdX12_correct_290 adX12_correct_290.2.1 rfl
theorem dX12_correct_294 : decode cX12_correct 294 = .ok (.iload 9, 2) := dAt wdX12_correct_290 adX12_correct_290.2.2.1 rfl
theorem dX12_correct_296 : decode cX12_correct 296 = .ok (.iload 8, 2) := dAt wdX12_correct_290 adX12_correct_290.2.2.2.1 rfl
theorem dX12_correct_298 : decode cX12_correct 298 = .ok (.if_icmp .ge 88, 3) := dAt wdX12_correct_290 adX12_correct_290.2.2.2.2.1 rfl
theorem dX12_correct_301 : decode cX12_correct 301 = .ok (.aload_n 0, 1) := dAt wdX12_correct_290 adX12_correct_290.2.2.2.2.2.1 rfl
theorem dX12_correct_302 : decode cX12_correct 302 = .ok (.iload_n 1, 1) := dAt wdX12_correct_290 adX12_correct_290.2.2.2.2.2.2.1 rfl
theorem dX12_correct_303 : decode cX12_correct 303 = .ok (.iload 9, 2) := dAt wdX12_correct_290 adX12_correct_290.2.2.2.2.2.2.2.1 rfl
theorem dX12_correct_305 : decode cX12_correct 305 = .ok (.invokevirtual 357, 3) := dAt wdX12_correct_290 adX12_correct_290.2.2.2.2.2.2.2.2.1 rfl
theorem dX12_correct_308 : decode cX12_correct 308 = .ok (.aload_n 0, 1) := dAt wdX12_correct_290 adX12_correct_290.2.2.2.2.2.2.2.2.2.1 rfl
theorem dX12_correct_309 : decode cX12_correct 309 = .ok (.getfield 76, 3) := dAt wdX12_correct_290 adX12_correct_290.2.2.2.2.2.2.2.2.2.2.1 rfl
theorem dX12_correct_312 : decode cX12_correct 312 = .ok (.iload 9, 2) := dAt wdX12_correct_290 adX12_correct_290.2.2.2.2.2.2.2.2.2.2.2.1 rfl
theorem dX12_correct_314 : decode cX12_correct 314 = .ok (.aload_n 0, 1) := dAt wdX12_correct_290 adX12_correct_290.2.2.2.2.2.2.2.2.2.2.2.2.1 rfl
theorem dX12_correct_315 : decode cX12_correct 315 = .ok (.getfield 351, 3) := dAt wdX12_correct_290 adX12_correct_290.2.2.2.2.2.2.2.2.2.2.2.2.2.1 rfl
theorem dX12_correct_318 : decode cX12_correct 318 = .ok (.iastore, 1) := dAt wdX12_correct_290 adX12_correct_290.2.2.2.2.2.2.2.2.2.2.2.2.2.2.1 rfl
theorem dX12_correct_319 : decode cX12_correct 319 = .ok (.aload_n 0, 1) := dAt wdX12_correct_290 adX12_correct_290.2.2.2.2.2.2.2.2.2.2.2.2.2.2.2 rfl
def bdX12_correct_320 : ByteArray := .mk #[180, 0, 79, 21, 9, 42, 180, 0, 8, 21, 4, 16, 45, 96, 21, 9, 96, 46, 4, 100, 79, 3, 54, 10, 21, 10]
theorem wdX12_correct_320 : LocW cX12_correct 320 bdX12_correct_320 := loc_of (by decide +kernel)
theorem adX12_correct_320 : De bdX12_correct_320 0 (.getfield 79) 3 ∧ De bdX12_correct_320 3 (.iload 9) 2 ∧ De bdX12_correct_320 5 (.aload_n 0) 1 ∧ De bdX12_correct_320 6 (.getfield 8) 3 ∧ De bdX12_correct_320 9 (.iload 4) 2 ∧ De bdX12_correct_320 11 (.bipush 45) 2 ∧ De bdX12_correct_320 13 (.iadd) 1 ∧ De bdX12_correct_320 14 (.iload 9) 2 ∧ De bdX12_correct_320 16 (.iadd) 1 ∧ De bdX12_correct_320 17 (.iaload) 1 ∧ De bdX12_correct_320 18 (.iconst 1) 1 ∧ De bdX12_correct_320 19 (.isub) 1 ∧ De bdX12_correct_320 20 (.iastore) 1 ∧ De bdX12_correct_320 21 (.iconst 0) 1 ∧ De bdX12_correct_320 22 (.istore 10) 2 ∧ De bdX12_correct_320 24 (.iload 10) 2 := by decide +kernel
theorem dX12_correct_320 : decode cX12_correct 320 = .ok (.getfield 79, 3) := dAt wdX12_correct_320 adX12_correct_320.1 rfl
theorem dX12_correct_323 : decode cX12_correct 323 = .ok (.iload 9, 2) := dAt wdX12_correct_320 adX12_correct_320.2.1 rfl
theorem dX12_correct_325 : decode cX12_correct 325 = .ok (.aload_n 0, 1) := dAt wdX12_correct_320 adX12_correct_320.2.2.1 rfl
theorem dX12_correct_326 : decode cX12_correct 326 = .ok (.getfield 8, 3) := dAt wdX12_correct_320 adX12_correct_320.2.2.2.1 rfl
theorem dX12_correct_329 : decode cX12_correct 329 = .ok (.iload 4, 2) := dAt wdX12_correct_320 adX12_correct_320.2.2.2.2.1 rfl
theorem dX12_correct_331 : decode cX12_correct 331 = .ok (.bipush 45, 2) := dAt wdX12_correct_320 adX12_correct_320.2.2.2.2.2.1 rfl
theorem dX12_correct_333 : decode cX12_correct 333 = .ok (.iadd, 1) := dAt wdX12_correct_320 adX12_correct_320.2.2.2.2.2.2.1 rfl
theorem dX12_correct_334 : decode cX12_correct 334 = .ok (.iload 9, 2) := dAt wdX12_correct_320 adX12_correct_320.2.2.2.2.2.2.2.1 rfl
theorem dX12_correct_336 : decode cX12_correct 336 = .ok (.iadd, 1) := dAt wdX12_correct_320 adX12_correct_320.2.2.2.2.2.2.2.2.1 rfl
theorem dX12_correct_337 : decode cX12_correct 337 = .ok (.iaload, 1) := dAt wdX12_correct_320 adX12_correct_320.2.2.2.2.2.2.2.2.2.1 rfl
theorem dX12_correct_338 : decode cX12_correct 338 = .ok (.iconst 1, 1) := dAt wdX12_correct_320 adX12_correct_320.2.2.2.2.2.2.2.2.2.2.1 rfl
theorem dX12_correct_339 : decode cX12_correct 339 = .ok (.isub, 1) := dAt wdX12_correct_320 adX12_correct_320.2.2.2.2.2.2.2.2.2.2.2.1 rfl
theorem dX12_correct_340 : decode cX12_correct 340 = .ok (.iastore, 1) := dAt wdX12_correct_320 adX12_correct_320.2.2.2.2.2.2.2.2.2.2.2.2.1 rfl
theorem dX12_correct_341 : decode cX12_correct 341 = .ok (.iconst 0, 1) := dAt wdX12_correct_320 adX12_correct_320.2.2.2.2.2.2.2.2.2.2.2.2.2.1 rfl
theorem dX12_correct_342 : decode cX12_correct 342 = .ok (.istore 10, 2) := dAt wdX12_correct_320 adX12_correct_320.2.2.2.2.2.2.2.2.2.2.2.2.2.2.1 rfl
theorem dX12_correct_344 : decode cX12_correct 344 = .ok (.iload 10, 2) := dAt wdX12_correct_320 adX12_correct_320.2.2.2.2.2.2.2.2.2.2.2.2.2.2.2 rfl
def bdX12_correct_346 : ByteArray := .mk #[42, 180, 1, 95, 162, 0, 30, 42, 180, 0, 73, 17, 1, 174, 21, 9, 104, 21, 10, 96, 42, 180, 0, 64, 21, 10, 46, 79, 132, 10, 1]
theorem wdX12_correct_346 : LocW cX12_correct 346 bdX12_correct_346 := loc_of (by decide +kernel)
theorem adX12_correct_346 : De bdX12_correct_346 0 (.aload_n 0) 1 ∧ De bdX12_correct_346 1 (.getfield 351) 3 ∧ De bdX12_correct_346 4 (.if_icmp .ge 30) 3 ∧ De bdX12_correct_346 7 (.aload_n 0) 1 ∧ De bdX12_correct_346 8 (.getfield 73) 3 ∧ De bdX12_correct_346 11 (.sipush 430) 3 ∧ De bdX12_correct_346 14 (.iload 9) 2 ∧ De bdX12_correct_346 16 (.imul) 1 ∧ De bdX12_correct_346 17 (.iload 10) 2 ∧ De bdX12_correct_346 19 (.iadd) 1 ∧ De bdX12_correct_346 20 (.aload_n 0) 1 ∧ De bdX12_correct_346 21 (.getfield 64) 3 ∧ De bdX12_correct_346 24 (.iload 10) 2 ∧ De bdX12_correct_346 26 (.iaload) 1 ∧ De bdX12_correct_346 27 (.iastore) 1 ∧ De bdX12_correct_346 28 (.iinc 10 1) 3 := by decide +kernel
theorem dX12_correct_346 : decode cX12_correct 346 = .ok (.aload_n 0, 1) := dAt wdX12_correct_346 adX12_correct_346.1 rfl
theorem dX12_correct_347 : decode cX12_correct 347 = .ok (.getfield 351, 3) := dAt wdX12_correct_346 adX12_correct_346.2.1 rfl
theorem dX12_correct_350 : decode cX12_correct 350 = .ok (.if_icmp .ge 30, 3) := dAt wdX12_correct_346 adX12_correct_346.2.2.1 rfl
theorem dX12_correct_353 : decode cX12_correct 353 = .ok (.aload_n 0, 1) := dAt wdX12_correct_346 adX12_correct_346.2.2.2.1 rfl
theorem dX12_correct_354 : decode cX12_correct 354 = .ok (.getfield 73, 3) := dAt wdX12_correct_346 adX12_correct_346.2.2.2.2.1 rfl
theorem dX12_correct_357 : decode cX12_correct 357 = .ok (.sipush 430, 3) := dAt wdX12_correct_346 adX12_correct_346.2.2.2.2.2.1 rfl
theorem dX12_correct_360 : decode cX12_correct 360 = .ok (.iload 9, 2) := dAt wdX12_correct_346 adX12_correct_346.2.2.2.2.2.2.1 rfl
theorem dX12_correct_362 : decode cX12_correct 362 = .ok (.imul, 1) := dAt wdX12_correct_346 adX12_correct_346.2.2.2.2.2.2.2.1 rfl
theorem dX12_correct_363 : decode cX12_correct 363 = .ok (.iload 10, 2) := dAt wdX12_correct_346 adX12_correct_346.2.2.2.2.2.2.2.2.1 rfl
theorem dX12_correct_365 : decode cX12_correct 365 = .ok (.iadd, 1) := dAt wdX12_correct_346 adX12_correct_346.2.2.2.2.2.2.2.2.2.1 rfl
theorem dX12_correct_366 : decode cX12_correct 366 = .ok (.aload_n 0, 1) := dAt wdX12_correct_346 adX12_correct_346.2.2.2.2.2.2.2.2.2.2.1 rfl
theorem dX12_correct_367 : decode cX12_correct 367 = .ok (.getfield 64, 3) := dAt wdX12_correct_346 adX12_correct_346.2.2.2.2.2.2.2.2.2.2.2.1 rfl
theorem dX12_correct_370 : decode cX12_correct 370 = .ok (.iload 10, 2) := dAt wdX12_correct_346 adX12_correct_346.2.2.2.2.2.2.2.2.2.2.2.2.1 rfl
theorem dX12_correct_372 : decode cX12_correct 372 = .ok (.iaload, 1) := dAt wdX12_correct_346 adX12_correct_346.2.2.2.2.2.2.2.2.2.2.2.2.2.1 rfl
theorem dX12_correct_373 : decode cX12_correct 373 = .ok (.iastore, 1) := dAt wdX12_correct_346 adX12_correct_346.2.2.2.2.2.2.2.2.2.2.2.2.2.2.1 rfl
theorem dX12_correct_374 : decode cX12_correct 374 = .ok (.iinc 10 1, 3) := dAt wdX12_correct_346 adX12_correct_346.2.2.2.2.2.2.2.2.2.2.2.2.2.2.2 rfl
def bdX12_correct_377 : ByteArray := .mk #[167, 255, 223, 132, 9, 1, 167, 255, 167, 42, 21, 4, 21, 7, 182, 1, 98, 54, 9, 3, 54, 10, 21, 10, 17, 2, 133, 162, 0, 26, 42, 180, 0, 82, 21, 10]
theorem wdX12_correct_377 : LocW cX12_correct 377 bdX12_correct_377 := loc_of (by decide +kernel)
theorem adX12_correct_377 : De bdX12_correct_377 0 (.goto (-33)) 3 ∧ De bdX12_correct_377 3 (.iinc 9 1) 3 ∧ De bdX12_correct_377 6 (.goto (-89)) 3 ∧ De bdX12_correct_377 9 (.aload_n 0) 1 ∧ De bdX12_correct_377 10 (.iload 4) 2 ∧ De bdX12_correct_377 12 (.iload 7) 2 ∧ De bdX12_correct_377 14 (.invokevirtual 354) 3 ∧ De bdX12_correct_377 17 (.istore 9) 2 ∧ De bdX12_correct_377 19 (.iconst 0) 1 ∧ De bdX12_correct_377 20 (.istore 10) 2 ∧ De bdX12_correct_377 22 (.iload 10) 2 ∧ De bdX12_correct_377 24 (.sipush 645) 3 ∧ De bdX12_correct_377 27 (.if_icmp .ge 26) 3 ∧ De bdX12_correct_377 30 (.aload_n 0) 1 ∧ De bdX12_correct_377 31 (.getfield 82) 3 ∧ De bdX12_correct_377 34 (.iload 10) 2 := by decide +kernel
theorem dX12_correct_377 : decode cX12_correct 377 = .ok (.goto (-33), 3) := dAt wdX12_correct_377 adX12_correct_377.1 rfl
theorem dX12_correct_380 : decode cX12_correct 380 = .ok (.iinc 9 1, 3) := dAt wdX12_correct_377 adX12_correct_377.2.1 rfl
theorem dX12_correct_383 : decode cX12_correct 383 = .ok (.goto (-89), 3) := dAt wdX12_correct_377 adX12_correct_377.2.2.1 rfl
theorem dX12_correct_386 : decode cX12_correct 386 = .ok (.aload_n 0, 1) := dAt wdX12_correct_377 adX12_correct_377.2.2.2.1 rfl
theorem dX12_correct_387 : decode cX12_correct 387 = .ok (.iload 4, 2) := dAt wdX12_correct_377 adX12_correct_377.2.2.2.2.1 rfl
theorem dX12_correct_389 : decode cX12_correct 389 = .ok (.iload 7, 2) := dAt wdX12_correct_377 adX12_correct_377.2.2.2.2.2.1 rfl
theorem dX12_correct_391 : decode cX12_correct 391 = .ok (.invokevirtual 354, 3) := dAt wdX12_correct_377 adX12_correct_377.2.2.2.2.2.2.1 rfl
theorem dX12_correct_394 : decode cX12_correct 394 = .ok (.istore 9, 2) := dAt wdX12_correct_377 adX12_correct_377.2.2.2.2.2.2.2.1 rfl
theorem dX12_correct_396 : decode cX12_correct 396 = .ok (.iconst 0, 1) := dAt wdX12_correct_377 adX12_correct_377.2.2.2.2.2.2.2.2.1 rfl
theorem dX12_correct_397 : decode cX12_correct 397 = .ok (.istore 10, 2) := dAt wdX12_correct_377 adX12_correct_377.2.2.2.2.2.2.2.2.2.1 rfl
theorem dX12_correct_399 : decode cX12_correct 399 = .ok (.iload 10, 2) := dAt wdX12_correct_377 adX12_correct_377.2.2.2.2.2.2.2.2.2.2.1 rfl
theorem dX12_correct_401 : decode cX12_correct 401 = .ok (.sipush 645, 3) := dAt wdX12_correct_377 adX12_correct_377.2.2.2.2.2.2.2.2.2.2.2.1 rfl
theorem dX12_correct_404 : decode cX12_correct 404 = .ok (.if_icmp .ge 26, 3) := dAt wdX12_correct_377 adX12_correct_377.2.2.2.2.2.2.2.2.2.2.2.2.1 rfl
theorem dX12_correct_407 : decode cX12_correct 407 = .ok (.aload_n 0, 1) := dAt wdX12_correct_377 adX12_correct_377.2.2.2.2.2.2.2.2.2.2.2.2.2.1 rfl
theorem dX12_correct_408 : decode cX12_correct 408 = .ok (.getfield 82, 3) := dAt wdX12_correct_377 adX12_correct_377.2.2.2.2.2.2.2.2.2.2.2.2.2.2.1 rfl
theorem dX12_correct_411 : decode cX12_correct 411 = .ok (.iload 10, 2) := dAt wdX12_correct_377 adX12_correct_377.2.2.2.2.2.2.2.2.2.2.2.2.2.2.2 rfl
def bdX12_correct_413 : ByteArray := .mk #[42, 180, 0, 8, 21, 4, 21, 10, 96, 46, 79, 132, 10, 1, 167, 255, 228, 42, 21, 4, 28, 21, 5, 21, 6, 182, 1, 155, 42]
theorem wdX12_correct_413 : LocW cX12_correct 413 bdX12_correct_413 := loc_of (by decide +kernel)
theorem adX12_correct_413 : De bdX12_correct_413 0 (.aload_n 0) 1 ∧ De bdX12_correct_413 1 (.getfield 8) 3 ∧ De bdX12_correct_413 4 (.iload 4) 2 ∧ De bdX12_correct_413 6 (.iload 10) 2 ∧ De bdX12_correct_413 8 (.iadd) 1 ∧ De bdX12_correct_413 9 (.iaload) 1 ∧ De bdX12_correct_413 10 (.iastore) 1 ∧ De bdX12_correct_413 11 (.iinc 10 1) 3 ∧ De bdX12_correct_413 14 (.goto (-28)) 3 ∧ De bdX12_correct_413 17 (.aload_n 0) 1 ∧ De bdX12_correct_413 18 (.iload 4) 2 ∧ De bdX12_correct_413 20 (.iload_n 2) 1 ∧ De bdX12_correct_413 21 (.iload 5) 2 ∧ De bdX12_correct_413 23 (.iload 6) 2 ∧ De bdX12_correct_413 25 (.invokevirtual 411) 3 ∧ De bdX12_correct_413 28 (.aload_n 0) 1 := by decide +kernel
theorem dX12_correct_413 : decode cX12_correct 413 = .ok (.aload_n 0, 1) := dAt wdX12_correct_413 adX12_correct_413.1 rfl
theorem dX12_correct_414 : decode cX12_correct 414 = .ok (.getfield 8, 3) := dAt wdX12_correct_413 adX12_correct_413.2.1 rfl
theorem dX12_correct_417 : decode cX12_correct 417 = .ok (.iload 4, 2) := dAt wdX12_correct_413 adX12_correct_413.2.2.1 rfl
theorem dX12_correct_419 : decode cX12_correct 419 = .ok (.iload 10, 2) := dAt wdX12_correct_413 adX12_correct_413.2.2.2.1 rfl
theorem dX12_correct_421 : decode cX12_correct 421 = .ok (.iadd, 1) := dAt wdX12_correct_413 adX12_correct_413.2.2.2.2.1 rfl
theorem dX12_correct_422 : decode cX12_correct 422 = .ok (.iaload, 1) := dAt wdX12_correct_413 adX12_correct_413.2.2.2.2.2.1 rfl
theorem dX12_correct_423 : decode cX12_correct 423 = .ok (.iastore, 1) := dAt wdX12_correct_413 adX12_correct_413.2.2.2.2.2.2.1 rfl
theorem dX12_correct_424 : decode cX12_correct 424 = .ok (.iinc 10 1, 3) := dAt wdX12_correct_413 adX12_correct_413.2.2.2.2.2.2.2.1 rfl
theorem dX12_correct_427 : decode cX12_correct 427 = .ok (.goto (-28), 3) := dAt wdX12_correct_413 adX12_correct_413.2.2.2.2.2.2.2.2.1 rfl
theorem dX12_correct_430 : decode cX12_correct 430 = .ok (.aload_n 0, 1) := dAt wdX12_correct_413 adX12_correct_413.2.2.2.2.2.2.2.2.2.1 rfl
theorem dX12_correct_431 : decode cX12_correct 431 = .ok (.iload 4, 2) := dAt wdX12_correct_413 adX12_correct_413.2.2.2.2.2.2.2.2.2.2.1 rfl
theorem dX12_correct_433 : decode cX12_correct 433 = .ok (.iload_n 2, 1) := dAt wdX12_correct_413 adX12_correct_413.2.2.2.2.2.2.2.2.2.2.2.1 rfl
theorem dX12_correct_434 : decode cX12_correct 434 = .ok (.iload 5, 2) := dAt wdX12_correct_413 adX12_correct_413.2.2.2.2.2.2.2.2.2.2.2.2.1 rfl
theorem dX12_correct_436 : decode cX12_correct 436 = .ok (.iload 6, 2) := dAt wdX12_correct_413 adX12_correct_413.2.2.2.2.2.2.2.2.2.2.2.2.2.1 rfl
theorem dX12_correct_438 : decode cX12_correct 438 = .ok (.invokevirtual 411, 3) := dAt wdX12_correct_413 adX12_correct_413.2.2.2.2.2.2.2.2.2.2.2.2.2.2.1 rfl
theorem dX12_correct_441 : decode cX12_correct 441 = .ok (.aload_n 0, 1) := dAt wdX12_correct_413 adX12_correct_413.2.2.2.2.2.2.2.2.2.2.2.2.2.2.2 rfl
def bdX12_correct_442 : ByteArray := .mk #[27, 42, 180, 0, 8, 3, 46, 182, 1, 89, 42, 180, 0, 55, 21, 9, 46, 2, 160, 0, 39, 3, 54, 10, 21, 10, 17, 2, 133]
theorem wdX12_correct_442 : LocW cX12_correct 442 bdX12_correct_442 := loc_of (by decide +kernel)
theorem adX12_correct_442 : De bdX12_correct_442 0 (.iload_n 1) 1 ∧ De bdX12_correct_442 1 (.aload_n 0) 1 ∧ De bdX12_correct_442 2 (.getfield 8) 3 ∧ De bdX12_correct_442 5 (.iconst 0) 1 ∧ De bdX12_correct_442 6 (.iaload) 1 ∧ De bdX12_correct_442 7 (.invokevirtual 345) 3 ∧ De bdX12_correct_442 10 (.aload_n 0) 1 ∧ De bdX12_correct_442 11 (.getfield 55) 3 ∧ De bdX12_correct_442 14 (.iload 9) 2 ∧ De bdX12_correct_442 16 (.iaload) 1 ∧ De bdX12_correct_442 17 (.iconst (-1)) 1 ∧ De bdX12_correct_442 18 (.if_icmp .ne 39) 3 ∧ De bdX12_correct_442 21 (.iconst 0) 1 ∧ De bdX12_correct_442 22 (.istore 10) 2 ∧ De bdX12_correct_442 24 (.iload 10) 2 ∧ De bdX12_correct_442 26 (.sipush 645) 3 := by decide +kernel
theorem dX12_correct_442 : decode cX12_correct 442 = .ok (.iload_n 1, 1) := dAt wdX12_correct_442 adX12_correct_442.1 rfl
theorem dX12_correct_443 : decode cX12_correct 443 = .ok (.aload_n 0, 1) := dAt wdX12_correct_442 adX12_correct_442.2.1 rfl
theorem dX12_correct_444 : decode cX12_correct 444 = .ok (.getfield 8, 3) := dAt wdX12_correct_442 adX12_correct_442.2.2.1 rfl
theorem dX12_correct_447 : decode cX12_correct 447 = .ok (.iconst 0, 1) := dAt wdX12_correct_442 adX12_correct_442.2.2.2.1 rfl
theorem dX12_correct_448 : decode cX12_correct 448 = .ok (.iaload, 1) := dAt wdX12_correct_442 adX12_correct_442.2.2.2.2.1 rfl
theorem dX12_correct_449 : decode cX12_correct 449 = .ok (.invokevirtual 345, 3) := dAt wdX12_correct_442 adX12_correct_442.2.2.2.2.2.1 rfl
theorem dX12_correct_452 : decode cX12_correct 452 = .ok (.aload_n 0, 1) := dAt wdX12_correct_442 adX12_correct_442.2.2.2.2.2.2.1 rfl
theorem dX12_correct_453 : decode cX12_correct 453 = .ok (.getfield 55, 3) := dAt wdX12_correct_442 adX12_correct_442.2.2.2.2.2.2.2.1 rfl
theorem dX12_correct_456 : decode cX12_correct 456 = .ok (.iload 9, 2) := dAt wdX12_correct_442 adX12_correct_442.2.2.2.2.2.2.2.2.1 rfl
theorem dX12_correct_458 : decode cX12_correct 458 = .ok (.iaload, 1) := dAt wdX12_correct_442 adX12_correct_442.2.2.2.2.2.2.2.2.2.1 rfl
theorem dX12_correct_459 : decode cX12_correct 459 = .ok (.iconst (-1), 1) := dAt wdX12_correct_442 adX12_correct_442.2.2.2.2.2.2.2.2.2.2.1 rfl
theorem dX12_correct_460 : decode cX12_correct 460 = .ok (.if_icmp .ne 39, 3) := dAt wdX12_correct_442 adX12_correct_442.2.2.2.2.2.2.2.2.2.2.2.1 rfl
theorem dX12_correct_463 : decode cX12_correct 463 = .ok (.iconst 0, 1) := dAt wdX12_correct_442 adX12_correct_442.2.2.2.2.2.2.2.2.2.2.2.2.1 rfl
theorem dX12_correct_464 : decode cX12_correct 464 = .ok (.istore 10, 2) := dAt wdX12_correct_442 adX12_correct_442.2.2.2.2.2.2.2.2.2.2.2.2.2.1 rfl
theorem dX12_correct_466 : decode cX12_correct 466 = .ok (.iload 10, 2) := dAt wdX12_correct_442 adX12_correct_442.2.2.2.2.2.2.2.2.2.2.2.2.2.2.1 rfl
theorem dX12_correct_468 : decode cX12_correct 468 = .ok (.sipush 645, 3) := dAt wdX12_correct_442 adX12_correct_442.2.2.2.2.2.2.2.2.2.2.2.2.2.2.2 rfl
def bdX12_correct_471 : ByteArray := .mk #[162, 0, 26, 42, 180, 0, 8, 21, 4, 21, 10, 96, 42, 180, 0, 82, 21, 10, 46, 79, 132, 10, 1, 167, 255, 228, 2, 172, 21, 9]
theorem wdX12_correct_471 : LocW cX12_correct 471 bdX12_correct_471 := loc_of (by decide +kernel)
theorem adX12_correct_471 : De bdX12_correct_471 0 (.if_icmp .ge 26) 3 ∧ De bdX12_correct_471 3 (.aload_n 0) 1 ∧ De bdX12_correct_471 4 (.getfield 8) 3 ∧ De bdX12_correct_471 7 (.iload 4) 2 ∧ De bdX12_correct_471 9 (.iload 10) 2 ∧ De bdX12_correct_471 11 (.iadd) 1 ∧ De bdX12_correct_471 12 (.aload_n 0) 1 ∧ De bdX12_correct_471 13 (.getfield 82) 3 ∧ De bdX12_correct_471 16 (.iload 10) 2 ∧ De bdX12_correct_471 18 (.iaload) 1 ∧ De bdX12_correct_471 19 (.iastore) 1 ∧ De bdX12_correct_471 20 (.iinc 10 1) 3 ∧ De bdX12_correct_471 23 (.goto (-28)) 3 ∧ De bdX12_correct_471 26 (.iconst (-1)) 1 ∧ De bdX12_correct_471 27 (.ireturn) 1 ∧ De bdX12_correct_471 28 (.iload 9) 2 := by decide +kernel
theorem dX12_correct_471 : decode cX12_correct 471 = .ok (.if_icmp .ge 26, 3) := dAt wdX12_correct_471 adX12_correct_471.1 rfl
theorem dX12_correct_474 : decode cX12_correct 474 = .ok (.aload_n 0, 1) := dAt wdX12_correct_471 adX12_correct_471.2.1 rfl
theorem dX12_correct_475 : decode cX12_correct 475 = .ok (.getfield 8, 3) := dAt wdX12_correct_471 adX12_correct_471.2.2.1 rfl
theorem dX12_correct_478 : decode cX12_correct 478 = .ok (.iload 4, 2) := dAt wdX12_correct_471 adX12_correct_471.2.2.2.1 rfl
theorem dX12_correct_480 : decode cX12_correct 480 = .ok (.iload 10, 2) := dAt wdX12_correct_471 adX12_correct_471.2.2.2.2.1 rfl
theorem dX12_correct_482 : decode cX12_correct 482 = .ok (.iadd, 1) := dAt wdX12_correct_471 adX12_correct_471.2.2.2.2.2.1 rfl
theorem dX12_correct_483 : decode cX12_correct 483 = .ok (.aload_n 0, 1) := dAt wdX12_correct_471 adX12_correct_471.2.2.2.2.2.2.1 rfl
theorem dX12_correct_484 : decode cX12_correct 484 = .ok (.getfield 82, 3) := dAt wdX12_correct_471 adX12_correct_471.2.2.2.2.2.2.2.1 rfl
theorem dX12_correct_487 : decode cX12_correct 487 = .ok (.iload 10, 2) := dAt wdX12_correct_471 adX12_correct_471.2.2.2.2.2.2.2.2.1 rfl
theorem dX12_correct_489 : decode cX12_correct 489 = .ok (.iaload, 1) := dAt wdX12_correct_471 adX12_correct_471.2.2.2.2.2.2.2.2.2.1 rfl
theorem dX12_correct_490 : decode cX12_correct 490 = .ok (.iastore, 1) := dAt wdX12_correct_471 adX12_correct_471.2.2.2.2.2.2.2.2.2.2.1 rfl
theorem dX12_correct_491 : decode cX12_correct 491 = .ok (.iinc 10 1, 3) := dAt wdX12_correct_471 adX12_correct_471.2.2.2.2.2.2.2.2.2.2.2.1 rfl
theorem dX12_correct_494 : decode cX12_correct 494 = .ok (.goto (-28), 3) := dAt wdX12_correct_471 adX12_correct_471.2.2.2.2.2.2.2.2.2.2.2.2.1 rfl
theorem dX12_correct_497 : decode cX12_correct 497 = .ok (.iconst (-1), 1) := dAt wdX12_correct_471 adX12_correct_471.2.2.2.2.2.2.2.2.2.2.2.2.2.1 rfl
theorem dX12_correct_498 : decode cX12_correct 498 = .ok (.ireturn, 1) := dAt wdX12_correct_471 adX12_correct_471.2.2.2.2.2.2.2.2.2.2.2.2.2.2.1 rfl
theorem dX12_correct_499 : decode cX12_correct 499 = .ok (.iload 9, 2) := dAt wdX12_correct_471 adX12_correct_471.2.2.2.2.2.2.2.2.2.2.2.2.2.2.2 rfl
def bdX12_correct_501 : ByteArray := .mk #[54, 10, 21, 7, 54, 11, 21, 10, 42, 180, 0, 8, 21, 4, 4, 96, 46, 162, 0, 48, 42, 180, 0, 61, 21, 10, 46, 54, 10]
theorem wdX12_correct_501 : LocW cX12_correct 501 bdX12_correct_501 := loc_of (by decide +kernel)
theorem adX12_correct_501 : De bdX12_correct_501 0 (.istore 10) 2 ∧ De bdX12_correct_501 2 (.iload 7) 2 ∧ De bdX12_correct_501 4 (.istore 11) 2 ∧ De bdX12_correct_501 6 (.iload 10) 2 ∧ De bdX12_correct_501 8 (.aload_n 0) 1 ∧ De bdX12_correct_501 9 (.getfield 8) 3 ∧ De bdX12_correct_501 12 (.iload 4) 2 ∧ De bdX12_correct_501 14 (.iconst 1) 1 ∧ De bdX12_correct_501 15 (.iadd) 1 ∧ De bdX12_correct_501 16 (.iaload) 1 ∧ De bdX12_correct_501 17 (.if_icmp .ge 48) 3 ∧ De bdX12_correct_501 20 (.aload_n 0) 1 ∧ De bdX12_correct_501 21 (.getfield 61) 3 ∧ De bdX12_correct_501 24 (.iload 10) 2 ∧ De bdX12_correct_501 26 (.iaload) 1 ∧ De bdX12_correct_501 27 (.istore 10) 2 := by decide +kernel
theorem dX12_correct_501 : decode cX12_correct 501 = .ok (.istore 10, 2) := dAt wdX12_correct_501 adX12_correct_501.1 rfl
theorem dX12_correct_503 : decode cX12_correct 503 = .ok (.iload 7, 2) := dAt wdX12_correct_501 adX12_correct_501.2.1 rfl
theorem dX12_correct_505 : decode cX12_correct 505 = .ok (.istore 11, 2) := dAt wdX12_correct_501 adX12_correct_501.2.2.1 rfl
theorem dX12_correct_507 : decode cX12_correct 507 = .ok (.iload 10, 2) := dAt wdX12_correct_501 adX12_correct_501.2.2.2.1 rfl
theorem dX12_correct_509 : decode cX12_correct 509 = .ok (.aload_n 0, 1) := dAt wdX12_correct_501 adX12_correct_501.2.2.2.2.1 rfl
theorem dX12_correct_510 : decode cX12_correct 510 = .ok (.getfield 8, 3) := dAt wdX12_correct_501 adX12_correct_501.2.2.2.2.2.1 rfl
theorem dX12_correct_513 : decode cX12_correct 513 = .ok (.iload 4, 2) := dAt wdX12_correct_501 adX12_correct_501.2.2.2.2.2.2.1 rfl
theorem dX12_correct_515 : decode cX12_correct 515 = .ok (.iconst 1, 1) := dAt wdX12_correct_501 adX12_correct_501.2.2.2.2.2.2.2.1 rfl
theorem dX12_correct_516 : decode cX12_correct 516 = .ok (.iadd, 1) := dAt wdX12_correct_501 adX12_correct_501.2.2.2.2.2.2.2.2.1 rfl
theorem dX12_correct_517 : decode cX12_correct 517 = .ok (.iaload, 1) := dAt wdX12_correct_501 adX12_correct_501.2.2.2.2.2.2.2.2.2.1 rfl
theorem dX12_correct_518 : decode cX12_correct 518 = .ok (.if_icmp .ge 48, 3) := dAt wdX12_correct_501 adX12_correct_501.2.2.2.2.2.2.2.2.2.2.1 rfl
theorem dX12_correct_521 : decode cX12_correct 521 = .ok (.aload_n 0, 1) := dAt wdX12_correct_501 adX12_correct_501.2.2.2.2.2.2.2.2.2.2.2.1 rfl
theorem dX12_correct_522 : decode cX12_correct 522 = .ok (.getfield 61, 3) := dAt wdX12_correct_501 adX12_correct_501.2.2.2.2.2.2.2.2.2.2.2.2.1 rfl
theorem dX12_correct_525 : decode cX12_correct 525 = .ok (.iload 10, 2) := dAt wdX12_correct_501 adX12_correct_501.2.2.2.2.2.2.2.2.2.2.2.2.2.1 rfl
theorem dX12_correct_527 : decode cX12_correct 527 = .ok (.iaload, 1) := dAt wdX12_correct_501 adX12_correct_501.2.2.2.2.2.2.2.2.2.2.2.2.2.2.1 rfl
theorem dX12_correct_528 : decode cX12_correct 528 = .ok (.istore 10, 2) := dAt wdX12_correct_501 adX12_correct_501.2.2.2.2.2.2.2.2.2.2.2.2.2.2.2 rfl
def bdX12_correct_530 : ByteArray := .mk #[42, 180, 0, 8, 21, 4, 8, 96, 21, 11, 96, 21, 10, 4, 100, 79, 42, 180, 0, 8, 21, 4, 16, 45, 96]
theorem wdX12_correct_530 : LocW cX12_correct 530 bdX12_correct_530 := loc_of (by decide +kernel)
theorem adX12_correct_530 : De bdX12_correct_530 0 (.aload_n 0) 1 ∧ De bdX12_correct_530 1 (.getfield 8) 3 ∧ De bdX12_correct_530 4 (.iload 4) 2 ∧ De bdX12_correct_530 6 (.iconst 5) 1 ∧ De bdX12_correct_530 7 (.iadd) 1 ∧ De bdX12_correct_530 8 (.iload 11) 2 ∧ De bdX12_correct_530 10 (.iadd) 1 ∧ De bdX12_correct_530 11 (.iload 10) 2 ∧ De bdX12_correct_530 13 (.iconst 1) 1 ∧ De bdX12_correct_530 14 (.isub) 1 ∧ De bdX12_correct_530 15 (.iastore) 1 ∧ De bdX12_correct_530 16 (.aload_n 0) 1 ∧ De bdX12_correct_530 17 (.getfield 8) 3 ∧ De bdX12_correct_530 20 (.iload 4) 2 ∧ De bdX12_correct_530 22 (.bipush 45) 2 ∧ De bdX12_correct_530 24 (.iadd) 1 := by decide +kernel
theorem dX12_correct_530 : decode cX12_correct 530 = .ok (.aload_n 0, 1) := dAt wdX12_correct_530 adX12_correct_530.1 rfl
theorem dX12_correct_531 : decode cX12_correct 531 = .ok (.getfield 8, 3) := dAt wdX12_correct_530 adX12_correct_530.2.1 rfl
theorem dX12_correct_534 : decode cX12_correct 534 = .ok (.iload 4, 2) := dAt wdX12_correct_530 adX12_correct_530.2.2.1 rfl
theorem dX12_correct_536 : decode cX12_correct 536 = .ok (.iconst 5, 1) := dAt wdX12_correct_530 adX12_correct_530.2.2.2.1 rfl
theorem dX12_correct_537 : decode cX12_correct 537 = .ok (.iadd, 1) := dAt wdX12_correct_530 adX12_correct_530.2.2.2.2.1 rfl
theorem dX12_correct_538 : decode cX12_correct 538 = .ok (.iload 11, 2) := dAt wdX12_correct_530 adX12_correct_530.2.2.2.2.2.1 rfl
theorem dX12_correct_540 : decode cX12_correct 540 = .ok (.iadd, 1) := dAt wdX12_correct_530 adX12_correct_530.2.2.2.2.2.2.1 rfl
theorem dX12_correct_541 : decode cX12_correct 541 = .ok (.iload 10, 2) := dAt wdX12_correct_530 adX12_correct_530.2.2.2.2.2.2.2.1 rfl
theorem dX12_correct_543 : decode cX12_correct 543 = .ok (.iconst 1, 1) := dAt wdX12_correct_530 adX12_correct_530.2.2.2.2.2.2.2.2.1 rfl
theorem dX12_correct_544 : decode cX12_correct 544 = .ok (.isub, 1) := dAt wdX12_correct_530 adX12_correct_530.2.2.2.2.2.2.2.2.2.1 rfl
theorem dX12_correct_545 : decode cX12_correct 545 = .ok (.iastore, 1) := dAt wdX12_correct_530 adX12_correct_530.2.2.2.2.2.2.2.2.2.2.1 rfl
theorem dX12_correct_546 : decode cX12_correct 546 = .ok (.aload_n 0, 1) := dAt wdX12_correct_530 adX12_correct_530.2.2.2.2.2.2.2.2.2.2.2.1 rfl
theorem dX12_correct_547 : decode cX12_correct 547 = .ok (.getfield 8, 3) := dAt wdX12_correct_530 adX12_correct_530.2.2.2.2.2.2.2.2.2.2.2.2.1 rfl
theorem dX12_correct_550 : decode cX12_correct 550 = .ok (.iload 4, 2) := dAt wdX12_correct_530 adX12_correct_530.2.2.2.2.2.2.2.2.2.2.2.2.2.1 rfl
theorem dX12_correct_552 : decode cX12_correct 552 = .ok (.bipush 45, 2) := dAt wdX12_correct_530 adX12_correct_530.2.2.2.2.2.2.2.2.2.2.2.2.2.2.1 rfl
theorem dX12_correct_554 : decode cX12_correct 554 = .ok (.iadd, 1) := dAt wdX12_correct_530 adX12_correct_530.2.2.2.2.2.2.2.2.2.2.2.2.2.2.2 rfl
def bdX12_correct_555 : ByteArray := .mk #[21, 11, 96, 3, 79, 132, 11, 1, 167, 255, 200, 42, 180, 0, 8, 21, 4, 7, 96, 21, 11, 79, 3, 54, 12, 21, 12]
theorem wdX12_correct_555 : LocW cX12_correct 555 bdX12_correct_555 := loc_of (by decide +kernel)
theorem adX12_correct_555 : De bdX12_correct_555 0 (.iload 11) 2 ∧ De bdX12_correct_555 2 (.iadd) 1 ∧ De bdX12_correct_555 3 (.iconst 0) 1 ∧ De bdX12_correct_555 4 (.iastore) 1 ∧ De bdX12_correct_555 5 (.iinc 11 1) 3 ∧ De bdX12_correct_555 8 (.goto (-56)) 3 ∧ De bdX12_correct_555 11 (.aload_n 0) 1 ∧ De bdX12_correct_555 12 (.getfield 8) 3 ∧ De bdX12_correct_555 15 (.iload 4) 2 ∧ De bdX12_correct_555 17 (.iconst 4) 1 ∧ De bdX12_correct_555 18 (.iadd) 1 ∧ De bdX12_correct_555 19 (.iload 11) 2 ∧ De bdX12_correct_555 21 (.iastore) 1 ∧ De bdX12_correct_555 22 (.iconst 0) 1 ∧ De bdX12_correct_555 23 (.istore 12) 2 ∧ De bdX12_correct_555 25 (.iload 12) 2 := by decide +kernel
theorem dX12_correct_555 : decode cX12_correct 555 = .ok (.iload 11, 2) := dAt wdX12_correct_555 adX12_correct_555.1 rfl
theorem dX12_correct_557 : decode cX12_correct 557 = .ok (.iadd, 1) := dAt wdX12_correct_555 adX12_correct_555.2.1 rfl
theorem dX12_correct_558 : decode cX12_correct 558 = .ok (.iconst 0, 1) := dAt wdX12_correct_555 adX12_correct_555.2.2.1 rfl
theorem dX12_correct_559 : decode cX12_correct 559 = .ok (.iastore, 1) := dAt wdX12_correct_555 adX12_correct_555.2.2.2.1 rfl
theorem dX12_correct_560 : decode cX12_correct 560 = .ok (.iinc 11 1, 3) := dAt wdX12_correct_555 adX12_correct_555.2.2.2.2.1 rfl
theorem dX12_correct_563 : decode cX12_correct 563 = .ok (.goto (-56), 3) := dAt wdX12_correct_555 adX12_correct_555.2.2.2.2.2.1 rfl
theorem dX12_correct_566 : decode cX12_correct 566 = .ok (.aload_n 0, 1) := dAt wdX12_correct_555 adX12_correct_555.2.2.2.2.2.2.1 rfl
theorem dX12_correct_567 : decode cX12_correct 567 = .ok (.getfield 8, 3) := dAt wdX12_correct_555 adX12_correct_555.2.2.2.2.2.2.2.1 rfl
theorem dX12_correct_570 : decode cX12_correct 570 = .ok (.iload 4, 2) := dAt wdX12_correct_555 adX12_correct_555.2.2.2.2.2.2.2.2.1 rfl
theorem dX12_correct_572 : decode cX12_correct 572 = .ok (.iconst 4, 1) := dAt wdX12_correct_555 adX12_correct_555.2.2.2.2.2.2.2.2.2.1 rfl
theorem dX12_correct_573 : decode cX12_correct 573 = .ok (.iadd, 1) := dAt wdX12_correct_555 adX12_correct_555.2.2.2.2.2.2.2.2.2.2.1 rfl
theorem dX12_correct_574 : decode cX12_correct 574 = .ok (.iload 11, 2) := dAt wdX12_correct_555 adX12_correct_555.2.2.2.2.2.2.2.2.2.2.2.1 rfl
theorem dX12_correct_576 : decode cX12_correct 576 = .ok (.iastore, 1) := dAt wdX12_correct_555 adX12_correct_555.2.2.2.2.2.2.2.2.2.2.2.2.1 rfl
theorem dX12_correct_577 : decode cX12_correct 577 = .ok (.iconst 0, 1) := dAt wdX12_correct_555 adX12_correct_555.2.2.2.2.2.2.2.2.2.2.2.2.2.1 rfl
theorem dX12_correct_578 : decode cX12_correct 578 = .ok (.istore 12, 2) := dAt wdX12_correct_555 adX12_correct_555.2.2.2.2.2.2.2.2.2.2.2.2.2.2.1 rfl
theorem dX12_correct_580 : decode cX12_correct 580 = .ok (.iload 12, 2) := dAt wdX12_correct_555 adX12_correct_555.2.2.2.2.2.2.2.2.2.2.2.2.2.2.2 rfl
def bdX12_correct_582 : ByteArray := .mk #[21, 8, 21, 7, 100, 162, 0, 41, 21, 12, 21, 11, 21, 7, 100, 162, 0, 31, 42, 27, 21, 8, 4, 100, 21, 12, 100]
theorem wdX12_correct_582 : LocW cX12_correct 582 bdX12_correct_582 := loc_of (by decide +kernel)
theorem adX12_correct_582 : De bdX12_correct_582 0 (.iload 8) 2 ∧ De bdX12_correct_582 2 (.iload 7) 2 ∧ De bdX12_correct_582 4 (.isub) 1 ∧ De bdX12_correct_582 5 (.if_icmp .ge 41) 3 ∧ De bdX12_correct_582 8 (.iload 12) 2 ∧ De bdX12_correct_582 10 (.iload 11) 2 ∧ De bdX12_correct_582 12 (.iload 7) 2 ∧ De bdX12_correct_582 14 (.isub) 1 ∧ De bdX12_correct_582 15 (.if_icmp .ge 31) 3 ∧ De bdX12_correct_582 18 (.aload_n 0) 1 ∧ De bdX12_correct_582 19 (.iload_n 1) 1 ∧ De bdX12_correct_582 20 (.iload 8) 2 ∧ De bdX12_correct_582 22 (.iconst 1) 1 ∧ De bdX12_correct_582 23 (.isub) 1 ∧ De bdX12_correct_582 24 (.iload 12) 2 ∧ De bdX12_correct_582 26 (.isub) 1 := by decide +kernel
theorem dX12_correct_582 : decode cX12_correct 582 = .ok (.iload 8, 2) := dAt wdX12_correct_582 adX12_correct_582.1 rfl
theorem dX12_correct_584 : decode cX12_correct 584 = .ok (.iload 7, 2) := dAt wdX12_correct_582 adX12_correct_582.2.1 rfl
theorem dX12_correct_586 : decode cX12_correct 586 = .ok (.isub, 1) := dAt wdX12_correct_582 adX12_correct_582.2.2.1 rfl
theorem dX12_correct_587 : decode cX12_correct 587 = .ok (.if_icmp .ge 41, 3) := dAt wdX12_correct_582 adX12_correct_582.2.2.2.1 rfl
theorem dX12_correct_590 : decode cX12_correct 590 = .ok (.iload 12, 2) := dAt wdX12_correct_582 adX12_correct_582.2.2.2.2.1 rfl
theorem dX12_correct_592 : decode cX12_correct 592 = .ok (.iload 11, 2) := dAt wdX12_correct_582 adX12_correct_582.2.2.2.2.2.1 rfl
theorem dX12_correct_594 : decode cX12_correct 594 = .ok (.iload 7, 2) := dAt wdX12_correct_582 adX12_correct_582.2.2.2.2.2.2.1 rfl
theorem dX12_correct_596 : decode cX12_correct 596 = .ok (.isub, 1) := dAt wdX12_correct_582 adX12_correct_582.2.2.2.2.2.2.2.1 rfl
theorem dX12_correct_597 : decode cX12_correct 597 = .ok (.if_icmp .ge 31, 3) := dAt wdX12_correct_582 adX12_correct_582.2.2.2.2.2.2.2.2.1 rfl
theorem dX12_correct_600 : decode cX12_correct 600 = .ok (.aload_n 0, 1) := dAt wdX12_correct_582 adX12_correct_582.2.2.2.2.2.2.2.2.2.1 rfl
theorem dX12_correct_601 : decode cX12_correct 601 = .ok (.iload_n 1, 1) := dAt wdX12_correct_582 adX12_correct_582.2.2.2.2.2.2.2.2.2.2.1 rfl
theorem dX12_correct_602 : decode cX12_correct 602 = .ok (.iload 8, 2) := dAt wdX12_correct_582 adX12_correct_582.2.2.2.2.2.2.2.2.2.2.2.1 rfl
theorem dX12_correct_604 : decode cX12_correct 604 = .ok (.iconst 1, 1) := dAt wdX12_correct_582 adX12_correct_582.2.2.2.2.2.2.2.2.2.2.2.2.1 rfl
theorem dX12_correct_605 : decode cX12_correct 605 = .ok (.isub, 1) := dAt wdX12_correct_582 adX12_correct_582.2.2.2.2.2.2.2.2.2.2.2.2.2.1 rfl
theorem dX12_correct_606 : decode cX12_correct 606 = .ok (.iload 12, 2) := dAt wdX12_correct_582 adX12_correct_582.2.2.2.2.2.2.2.2.2.2.2.2.2.2.1 rfl
theorem dX12_correct_608 : decode cX12_correct 608 = .ok (.isub, 1) := dAt wdX12_correct_582 adX12_correct_582.2.2.2.2.2.2.2.2.2.2.2.2.2.2.2 rfl
def bdX12_correct_609 : ByteArray := .mk #[21, 11, 4, 100, 21, 12, 100, 182, 1, 158, 153, 0, 9, 132, 12, 1, 167, 255, 211, 21, 7, 54, 13, 21, 13, 21, 8, 162, 0, 67, 42, 180, 0, 79]
theorem wdX12_correct_609 : LocW cX12_correct 609 bdX12_correct_609 := loc_of (by decide +kernel)
theorem adX12_correct_609 : De bdX12_correct_609 0 (.iload 11) 2 ∧ De bdX12_correct_609 2 (.iconst 1) 1 ∧ De bdX12_correct_609 3 (.isub) 1 ∧ De bdX12_correct_609 4 (.iload 12) 2 ∧ De bdX12_correct_609 6 (.isub) 1 ∧ De bdX12_correct_609 7 (.invokevirtual 414) 3 ∧ De bdX12_correct_609 10 (.ifCond .eq 9) 3 ∧ De bdX12_correct_609 13 (.iinc 12 1) 3 ∧ De bdX12_correct_609 16 (.goto (-45)) 3 ∧ De bdX12_correct_609 19 (.iload 7) 2 ∧ De bdX12_correct_609 21 (.istore 13) 2 ∧ De bdX12_correct_609 23 (.iload 13) 2 ∧ De bdX12_correct_609 25 (.iload 8) 2 ∧ De bdX12_correct_609 27 (.if_icmp .ge 67) 3 ∧ De bdX12_correct_609 30 (.aload_n 0) 1 ∧ De bdX12_correct_609 31 (.getfield 79) 3 := by decide +kernel
theorem dX12_correct_609 : decode cX12_correct 609 = .ok (.iload 11, 2) := dAt wdX12_correct_609 adX12_correct_609.1 rfl
theorem dX12_correct_611 : decode cX12_correct 611 = .ok (.iconst 1, 1) := dAt wdX12_correct_609 adX12_correct_609.2.1 rfl
theorem dX12_correct_612 : decode cX12_correct 612 = .ok (.isub, 1) := dAt wdX12_correct_609 adX12_correct_609.2.2.1 rfl
theorem dX12_correct_613 : decode cX12_correct 613 = .ok (.iload 12, 2) := dAt wdX12_correct_609 adX12_correct_609.2.2.2.1 rfl
theorem dX12_correct_615 : decode cX12_correct 615 = .ok (.isub, 1) := dAt wdX12_correct_609 adX12_correct_609.2.2.2.2.1 rfl
theorem dX12_correct_616 : decode cX12_correct 616 = .ok (.invokevirtual 414, 3) := dAt wdX12_correct_609 adX12_correct_609.2.2.2.2.2.1 rfl
theorem dX12_correct_619 : decode cX12_correct 619 = .ok (.ifCond .eq 9, 3) := dAt wdX12_correct_609 adX12_correct_609.2.2.2.2.2.2.1 rfl
theorem dX12_correct_622 : decode cX12_correct 622 = .ok (.iinc 12 1, 3) := dAt wdX12_correct_609 adX12_correct_609.2.2.2.2.2.2.2.1 rfl
theorem dX12_correct_625 : decode cX12_correct 625 = .ok (.goto (-45), 3) := dAt wdX12_correct_609 adX12_correct_609.2.2.2.2.2.2.2.2.1 rfl
theorem dX12_correct_628 : decode cX12_correct 628 = .ok (.iload 7, 2) := dAt wdX12_correct_609 adX12_correct_609.2.2.2.2.2.2.2.2.2.1 rfl
theorem dX12_correct_630 : decode cX12_correct 630 = .ok (.istore 13, 2) := dAt wdX12_correct_609 adX12_correct_609.2.2.2.2.2.2.2.2.2.2.1 rfl
theorem dX12_correct_632 : decode cX12_correct 632 = .ok (.iload 13, 2) := dAt wdX12_correct_609 adX12_correct_609.2.2.2.2.2.2.2.2.2.2.2.1 rfl
theorem dX12_correct_634 : decode cX12_correct 634 = .ok (.iload 8, 2) := dAt wdX12_correct_609 adX12_correct_609.2.2.2.2.2.2.2.2.2.2.2.2.1 rfl
theorem dX12_correct_636 : decode cX12_correct 636 = .ok (.if_icmp .ge 67, 3) := dAt wdX12_correct_609 adX12_correct_609.2.2.2.2.2.2.2.2.2.2.2.2.2.1 rfl
theorem dX12_correct_639 : decode cX12_correct 639 = .ok (.aload_n 0, 1) := dAt wdX12_correct_609 adX12_correct_609.2.2.2.2.2.2.2.2.2.2.2.2.2.2.1 rfl
theorem dX12_correct_640 : decode cX12_correct 640 = .ok (.getfield 79, 3) := dAt wdX12_correct_609 adX12_correct_609.2.2.2.2.2.2.2.2.2.2.2.2.2.2.2 rfl
def bdX12_correct_643 : ByteArray := .mk #[21, 13, 46, 2, 160, 0, 6, 167, 0, 47, 21, 13, 21, 8, 21, 12, 100, 161, 0, 26, 42, 42, 180, 0, 79, 21, 13, 46, 27]
theorem wdX12_correct_643 : LocW cX12_correct 643 bdX12_correct_643 := loc_of (by decide +kernel)
theorem adX12_correct_643 : De bdX12_correct_643 0 (.iload 13) 2 ∧ De bdX12_correct_643 2 (.iaload) 1 ∧ De bdX12_correct_643 3 (.iconst (-1)) 1 ∧ De bdX12_correct_643 4 (.if_icmp .ne 6) 3 ∧ De bdX12_correct_643 7 (.goto 47) 3 ∧ De bdX12_correct_643 10 (.iload 13) 2 ∧ De bdX12_correct_643 12 (.iload 8) 2 ∧ De bdX12_correct_643 14 (.iload 12) 2 ∧ De bdX12_correct_643 16 (.isub) 1 ∧ De bdX12_correct_643 17 (.if_icmp .lt 26) 3 ∧ De bdX12_correct_643 20 (.aload_n 0) 1 ∧ De bdX12_correct_643 21 (.aload_n 0) 1 ∧ De bdX12_correct_643 22 (.getfield 79) 3 ∧ De bdX12_correct_643 25 (.iload 13) 2 ∧ De bdX12_correct_643 27 (.iaload) 1 ∧ De bdX12_correct_643 28 (.iload_n 1) 1 := by decide +kernel
theorem dX12_correct_643 : decode cX12_correct 643 = .ok (.iload 13, 2) := dAt wdX12_correct_643 adX12_correct_643.1 rfl
theorem dX12_correct_645 : decode cX12_correct 645 = .ok (.iaload, 1) := dAt wdX12_correct_643 adX12_correct_643.2.1 rfl
theorem dX12_correct_646 : decode cX12_correct 646 = .ok (.iconst (-1), 1) := dAt wdX12_correct_643 adX12_correct_643.2.2.1 rfl
theorem dX12_correct_647 : decode cX12_correct 647 = .ok (.if_icmp .ne 6, 3) := dAt wdX12_correct_643 adX12_correct_643.2.2.2.1 rfl
theorem dX12_correct_650 : decode cX12_correct 650 = .ok (.goto 47, 3) := dAt wdX12_correct_643 adX12_correct_643.2.2.2.2.1 rfl
theorem dX12_correct_653 : decode cX12_correct 653 = .ok (.iload 13, 2) := dAt wdX12_correct_643 adX12_correct_643.2.2.2.2.2.1 rfl
theorem dX12_correct_655 : decode cX12_correct 655 = .ok (.iload 8, 2) := dAt wdX12_correct_643 adX12_correct_643.2.2.2.2.2.2.1 rfl
theorem dX12_correct_657 : decode cX12_correct 657 = .ok (.iload 12, 2) := dAt wdX12_correct_643 adX12_correct_643.2.2.2.2.2.2.2.1 rfl
theorem dX12_correct_659 : decode cX12_correct 659 = .ok (.isub, 1) := dAt wdX12_correct_643 adX12_correct_643.2.2.2.2.2.2.2.2.1 rfl
theorem dX12_correct_660 : decode cX12_correct 660 = .ok (.if_icmp .lt 26, 3) := dAt wdX12_correct_643 adX12_correct_643.2.2.2.2.2.2.2.2.2.1 rfl
theorem dX12_correct_663 : decode cX12_correct 663 = .ok (.aload_n 0, 1) := dAt wdX12_correct_643 adX12_correct_643.2.2.2.2.2.2.2.2.2.2.1 rfl
theorem dX12_correct_664 : decode cX12_correct 664 = .ok (.aload_n 0, 1) := dAt wdX12_correct_643 adX12_correct_643.2.2.2.2.2.2.2.2.2.2.2.1 rfl
theorem dX12_correct_665 : decode cX12_correct 665 = .ok (.getfield 79, 3) := dAt wdX12_correct_643 adX12_correct_643.2.2.2.2.2.2.2.2.2.2.2.2.1 rfl
theorem dX12_correct_668 : decode cX12_correct 668 = .ok (.iload 13, 2) := dAt wdX12_correct_643 adX12_correct_643.2.2.2.2.2.2.2.2.2.2.2.2.2.1 rfl
theorem dX12_correct_670 : decode cX12_correct 670 = .ok (.iaload, 1) := dAt wdX12_correct_643 adX12_correct_643.2.2.2.2.2.2.2.2.2.2.2.2.2.2.1 rfl
theorem dX12_correct_671 : decode cX12_correct 671 = .ok (.iload_n 1, 1) := dAt wdX12_correct_643 adX12_correct_643.2.2.2.2.2.2.2.2.2.2.2.2.2.2.2 rfl
def bdX12_correct_672 : ByteArray := .mk #[21, 13, 21, 8, 100, 21, 11, 96, 182, 1, 130, 167, 0, 14, 42, 42, 180, 0, 79, 21, 13, 46, 182, 1, 127, 132, 13, 1, 167, 255, 188, 21, 11]
theorem wdX12_correct_672 : LocW cX12_correct 672 bdX12_correct_672 := loc_of (by decide +kernel)
theorem adX12_correct_672 : De bdX12_correct_672 0 (.iload 13) 2 ∧ De bdX12_correct_672 2 (.iload 8) 2 ∧ De bdX12_correct_672 4 (.isub) 1 ∧ De bdX12_correct_672 5 (.iload 11) 2 ∧ De bdX12_correct_672 7 (.iadd) 1 ∧ De bdX12_correct_672 8 (.invokevirtual 386) 3 ∧ De bdX12_correct_672 11 (.goto 14) 3 ∧ De bdX12_correct_672 14 (.aload_n 0) 1 ∧ De bdX12_correct_672 15 (.aload_n 0) 1 ∧ De bdX12_correct_672 16 (.getfield 79) 3 ∧ De bdX12_correct_672 19 (.iload 13) 2 ∧ De bdX12_correct_672 21 (.iaload) 1 ∧ De bdX12_correct_672 22 (.invokevirtual 383) 3 ∧ De bdX12_correct_672 25 (.iinc 13 1) 3 ∧ De bdX12_correct_672 28 (.goto (-68)) 3 ∧ De bdX12_correct_672 31 (.iload 11) 2 := by decide +kernel
theorem dX12_correct_672 : decode cX12_correct 672 = .ok (.iload 13, 2) := dAt wdX12_correct_672 adX12_correct_672.1 rfl
theorem dX12_correct_674 : decode cX12_correct 674 = .ok (.iload 8, 2) := dAt wdX12_correct_672 adX12_correct_672.2.1 rfl
theorem dX12_correct_676 : decode cX12_correct 676 = .ok (.isub, 1) := dAt wdX12_correct_672 adX12_correct_672.2.2.1 rfl
theorem dX12_correct_677 : decode cX12_correct 677 = .ok (.iload 11, 2) := dAt wdX12_correct_672 adX12_correct_672.2.2.2.1 rfl
theorem dX12_correct_679 : decode cX12_correct 679 = .ok (.iadd, 1) := dAt wdX12_correct_672 adX12_correct_672.2.2.2.2.1 rfl
theorem dX12_correct_680 : decode cX12_correct 680 = .ok (.invokevirtual 386, 3) := dAt wdX12_correct_672 adX12_correct_672.2.2.2.2.2.1 rfl
theorem dX12_correct_683 : decode cX12_correct 683 = .ok (.goto 14, 3) := dAt wdX12_correct_672 adX12_correct_672.2.2.2.2.2.2.1 rfl
theorem dX12_correct_686 : decode cX12_correct 686 = .ok (.aload_n 0, 1) := dAt wdX12_correct_672 adX12_correct_672.2.2.2.2.2.2.2.1 rfl
theorem dX12_correct_687 : decode cX12_correct 687 = .ok (.aload_n 0, 1) := dAt wdX12_correct_672 adX12_correct_672.2.2.2.2.2.2.2.2.1 rfl
theorem dX12_correct_688 : decode cX12_correct 688 = .ok (.getfield 79, 3) := dAt wdX12_correct_672 adX12_correct_672.2.2.2.2.2.2.2.2.2.1 rfl
theorem dX12_correct_691 : decode cX12_correct 691 = .ok (.iload 13, 2) := dAt wdX12_correct_672 adX12_correct_672.2.2.2.2.2.2.2.2.2.2.1 rfl
theorem dX12_correct_693 : decode cX12_correct 693 = .ok (.iaload, 1) := dAt wdX12_correct_672 adX12_correct_672.2.2.2.2.2.2.2.2.2.2.2.1 rfl
theorem dX12_correct_694 : decode cX12_correct 694 = .ok (.invokevirtual 383, 3) := dAt wdX12_correct_672 adX12_correct_672.2.2.2.2.2.2.2.2.2.2.2.2.1 rfl
theorem dX12_correct_697 : decode cX12_correct 697 = .ok (.iinc 13 1, 3) := dAt wdX12_correct_672 adX12_correct_672.2.2.2.2.2.2.2.2.2.2.2.2.2.1 rfl
theorem dX12_correct_700 : decode cX12_correct 700 = .ok (.goto (-68), 3) := dAt wdX12_correct_672 adX12_correct_672.2.2.2.2.2.2.2.2.2.2.2.2.2.2.1 rfl
theorem dX12_correct_703 : decode cX12_correct 703 = .ok (.iload 11, 2) := dAt wdX12_correct_672 adX12_correct_672.2.2.2.2.2.2.2.2.2.2.2.2.2.2.2 rfl
def bdX12_correct_705 : ByteArray := .mk #[21, 7, 100, 21, 12, 100, 54, 13, 21, 13, 158, 0, 19, 42, 29, 27, 21, 7, 21, 7, 21, 13, 96, 4, 3]
theorem wdX12_correct_705 : LocW cX12_correct 705 bdX12_correct_705 := loc_of (by decide +kernel)
theorem adX12_correct_705 : De bdX12_correct_705 0 (.iload 7) 2 ∧ De bdX12_correct_705 2 (.isub) 1 ∧ De bdX12_correct_705 3 (.iload 12) 2 ∧ De bdX12_correct_705 5 (.isub) 1 ∧ De bdX12_correct_705 6 (.istore 13) 2 ∧ De bdX12_correct_705 8 (.iload 13) 2 ∧ De bdX12_correct_705 10 (.ifCond .le 19) 3 ∧ De bdX12_correct_705 13 (.aload_n 0) 1 ∧ De bdX12_correct_705 14 (.iload_n 3) 1 ∧ De bdX12_correct_705 15 (.iload_n 1) 1 ∧ De bdX12_correct_705 16 (.iload 7) 2 ∧ De bdX12_correct_705 18 (.iload 7) 2 ∧ De bdX12_correct_705 20 (.iload 13) 2 ∧ De bdX12_correct_705 22 (.iadd) 1 ∧ De bdX12_correct_705 23 (.iconst 1) 1 ∧ De bdX12_correct_705 24 (.iconst 0) 1 := by decide +kernel
theorem dX12_correct_705 : decode cX12_correct 705 = .ok (.iload 7, 2) := dAt wdX12_correct_705 adX12_correct_705.1 rfl
theorem dX12_correct_707 : decode cX12_correct 707 = .ok (.isub, 1) := dAt wdX12_correct_705 adX12_correct_705.2.1 rfl
theorem dX12_correct_708 : decode cX12_correct 708 = .ok (.iload 12, 2) := dAt wdX12_correct_705 adX12_correct_705.2.2.1 rfl
theorem dX12_correct_710 : decode cX12_correct 710 = .ok (.isub, 1) := dAt wdX12_correct_705 adX12_correct_705.2.2.2.1 rfl
theorem dX12_correct_711 : decode cX12_correct 711 = .ok (.istore 13, 2) := dAt wdX12_correct_705 adX12_correct_705.2.2.2.2.1 rfl
theorem dX12_correct_713 : decode cX12_correct 713 = .ok (.iload 13, 2) := dAt wdX12_correct_705 adX12_correct_705.2.2.2.2.2.1 rfl
theorem dX12_correct_715 : decode cX12_correct 715 = .ok (.ifCond .le 19, 3) := dAt wdX12_correct_705 adX12_correct_705.2.2.2.2.2.2.1 rfl
theorem dX12_correct_718 : decode cX12_correct 718 = .ok (.aload_n 0, 1) := dAt wdX12_correct_705 adX12_correct_705.2.2.2.2.2.2.2.1 rfl
theorem dX12_correct_719 : decode cX12_correct 719 = .ok (.iload_n 3, 1) := dAt wdX12_correct_705 adX12_correct_705.2.2.2.2.2.2.2.2.1 rfl
theorem dX12_correct_720 : decode cX12_correct 720 = .ok (.iload_n 1, 1) := dAt wdX12_correct_705 adX12_correct_705.2.2.2.2.2.2.2.2.2.1 rfl
theorem dX12_correct_721 : decode cX12_correct 721 = .ok (.iload 7, 2) := dAt wdX12_correct_705 adX12_correct_705.2.2.2.2.2.2.2.2.2.2.1 rfl
theorem dX12_correct_723 : decode cX12_correct 723 = .ok (.iload 7, 2) := dAt wdX12_correct_705 adX12_correct_705.2.2.2.2.2.2.2.2.2.2.2.1 rfl
theorem dX12_correct_725 : decode cX12_correct 725 = .ok (.iload 13, 2) := dAt wdX12_correct_705 adX12_correct_705.2.2.2.2.2.2.2.2.2.2.2.2.1 rfl
theorem dX12_correct_727 : decode cX12_correct 727 = .ok (.iadd, 1) := dAt wdX12_correct_705 adX12_correct_705.2.2.2.2.2.2.2.2.2.2.2.2.2.1 rfl
theorem dX12_correct_728 : decode cX12_correct 728 = .ok (.iconst 1, 1) := dAt wdX12_correct_705 adX12_correct_705.2.2.2.2.2.2.2.2.2.2.2.2.2.2.1 rfl
theorem dX12_correct_729 : decode cX12_correct 729 = .ok (.iconst 0, 1) := dAt wdX12_correct_705 adX12_correct_705.2.2.2.2.2.2.2.2.2.2.2.2.2.2.2 rfl
def bdX12_correct_730 : ByteArray := .mk #[182, 1, 113, 87, 21, 13, 172]
theorem wdX12_correct_730 : LocW cX12_correct 730 bdX12_correct_730 := loc_of (by decide +kernel)
theorem adX12_correct_730 : De bdX12_correct_730 0 (.invokevirtual 369) 3 ∧ De bdX12_correct_730 3 (.pop) 1 ∧ De bdX12_correct_730 4 (.iload 13) 2 ∧ De bdX12_correct_730 6 (.ireturn) 1 := by decide +kernel
theorem dX12_correct_730 : decode cX12_correct 730 = .ok (.invokevirtual 369, 3) := dAt wdX12_correct_730 adX12_correct_730.1 rfl
theorem dX12_correct_733 : decode cX12_correct 733 = .ok (.pop, 1) := dAt wdX12_correct_730 adX12_correct_730.2.1 rfl
theorem dX12_correct_734 : decode cX12_correct 734 = .ok (.iload 13, 2) := dAt wdX12_correct_730 adX12_correct_730.2.2.1 rfl
theorem dX12_correct_736 : decode cX12_correct 736 = .ok (.ireturn, 1) := dAt wdX12_correct_730 adX12_correct_730.2.2.2 rfl
def bdX12_isSame_0 : ByteArray := .mk #[42, 27, 29, 182, 1, 101, 42, 180, 0, 76, 28, 46, 42, 180, 1, 95, 160, 0, 7, 4, 167, 0, 4, 3, 54, 4, 3]
theorem wdX12_isSame_0 : LocW cX12_isSame 0 bdX12_isSame_0 := loc_of (by decide +kernel)
theorem adX12_isSame_0 : De bdX12_isSame_0 0 (.aload_n 0) 1 ∧ De bdX12_isSame_0 1 (.iload_n 1) 1 ∧ De bdX12_isSame_0 2 (.iload_n 3) 1 ∧ De bdX12_isSame_0 3 (.invokevirtual 357) 3 ∧ De bdX12_isSame_0 6 (.aload_n 0) 1 ∧ De bdX12_isSame_0 7 (.getfield 76) 3 ∧ De bdX12_isSame_0 10 (.iload_n 2) 1 ∧ De bdX12_isSame_0 11 (.iaload) 1 ∧ De bdX12_isSame_0 12 (.aload_n 0) 1 ∧ De bdX12_isSame_0 13 (.getfield 351) 3 ∧ De bdX12_isSame_0 16 (.if_icmp .ne 7) 3 ∧ De bdX12_isSame_0 19 (.iconst 1) 1 ∧ De bdX12_isSame_0 20 (.goto 4) 3 ∧ De bdX12_isSame_0 23 (.iconst 0) 1 ∧ De bdX12_isSame_0 24 (.istore 4) 2 ∧ De bdX12_isSame_0 26 (.iconst 0) 1 := by decide +kernel
theorem dX12_isSame_0 : decode cX12_isSame 0 = .ok (.aload_n 0, 1) := dAt wdX12_isSame_0 adX12_isSame_0.1 rfl
theorem dX12_isSame_1 : decode cX12_isSame 1 = .ok (.iload_n 1, 1) := dAt wdX12_isSame_0 adX12_isSame_0.2.1 rfl
theorem dX12_isSame_2 : decode cX12_isSame 2 = .ok (.iload_n 3, 1) := dAt wdX12_isSame_0 adX12_isSame_0.2.2.1 rfl
theorem dX12_isSame_3 : decode cX12_isSame 3 = .ok (.invokevirtual 357, 3) := dAt wdX12_isSame_0 adX12_isSame_0.2.2.2.1 rfl
theorem dX12_isSame_6 : decode cX12_isSame 6 = .ok (.aload_n 0, 1) := dAt wdX12_isSame_0 adX12_isSame_0.2.2.2.2.1 rfl
theorem dX12_isSame_7 : decode cX12_isSame 7 = .ok (.getfield 76, 3) := dAt wdX12_isSame_0 adX12_isSame_0.2.2.2.2.2.1 rfl
theorem dX12_isSame_10 : decode cX12_isSame 10 = .ok (.iload_n 2, 1) := dAt wdX12_isSame_0 adX12_isSame_0.2.2.2.2.2.2.1 rfl
theorem dX12_isSame_11 : decode cX12_isSame 11 = .ok (.iaload, 1) := dAt wdX12_isSame_0 adX12_isSame_0.2.2.2.2.2.2.2.1 rfl
theorem dX12_isSame_12 : decode cX12_isSame 12 = .ok (.aload_n 0, 1) := dAt wdX12_isSame_0 adX12_isSame_0.2.2.2.2.2.2.2.2.1 rfl
theorem dX12_isSame_13 : decode cX12_isSame 13 = .ok (.getfield 351, 3) := dAt wdX12_isSame_0 adX12_isSame_0.2.2.2.2.2.2.2.2.2.1 rfl
theorem dX12_isSame_16 : decode cX12_isSame 16 = .ok (.if_icmp .ne 7, 3) := dAt wdX12_isSame_0 adX12_isSame_0.2.2.2.2.2.2.2.2.2.2.1 rfl
theorem dX12_isSame_19 : decode cX12_isSame 19 = .ok (.iconst 1, 1) := dAt wdX12_isSame_0 adX12_isSame_0.2.2.2.2.2.2.2.2.2.2.2.1 rfl
theorem dX12_isSame_20 : decode cX12_isSame 20 = .ok (.goto 4, 3) := dAt wdX12_isSame_0 adX12_isSame_0.2.2.2.2.2.2.2.2.2.2.2.2.1 rfl
theorem dX12_isSame_23 : decode cX12_isSame 23 = .ok (.iconst 0, 1) := dAt wdX12_isSame_0 adX12_isSame_0.2.2.2.2.2.2.2.2.2.2.2.2.2.1 rfl
theorem dX12_isSame_24 : decode cX12_isSame 24 = .ok (.istore 4, 2) := dAt wdX12_isSame_0 adX12_isSame_0.2.2.2.2.2.2.2.2.2.2.2.2.2.2.1 rfl
theorem dX12_isSame_26 : decode cX12_isSame 26 = .ok (.iconst 0, 1) := dAt wdX12_isSame_0 adX12_isSame_0.2.2.2.2.2.2.2.2.2.2.2.2.2.2.2 rfl
def bdX12_isSame_27 : ByteArray := .mk #[54, 5, 21, 5, 42, 180, 1, 95, 162, 0, 44, 21, 4, 153, 0, 39, 42, 180, 0, 73, 17, 1, 174, 28, 104, 21, 5, 96, 46, 42]
theorem wdX12_isSame_27 : LocW cX12_isSame 27 bdX12_isSame_27 := loc_of (by decide +kernel)
theorem adX12_isSame_27 : De bdX12_isSame_27 0 (.istore 5) 2 ∧ De bdX12_isSame_27 2 (.iload 5) 2 ∧ De bdX12_isSame_27 4 (.aload_n 0) 1 ∧ De bdX12_isSame_27 5 (.getfield 351) 3 ∧ De bdX12_isSame_27 8 (.if_icmp .ge 44) 3 ∧ De bdX12_isSame_27 11 (.iload 4) 2 ∧ De bdX12_isSame_27 13 (.ifCond .eq 39) 3 ∧ De bdX12_isSame_27 16 (.aload_n 0) 1 ∧ De bdX12_isSame_27 17 (.getfield 73) 3 ∧ De bdX12_isSame_27 20 (.sipush 430) 3 ∧ De bdX12_isSame_27 23 (.iload_n 2) 1 ∧ De bdX12_isSame_27 24 (.imul) 1 ∧ De bdX12_isSame_27 25 (.iload 5) 2 ∧ De bdX12_isSame_27 27 (.iadd) 1 ∧ De bdX12_isSame_27 28 (.iaload) 1 ∧ De bdX12_isSame_27 29 (.aload_n 0) 1 := by decide +kernel
theorem dX12_isSame_27 : decode cX12_isSame 27 = .ok (.istore 5, 2) := dAt wdX12_isSame_27 adX12_isSame_27.1 rfl
theorem dX12_isSame_29 : decode cX12_isSame 29 = .ok (.iload 5, 2) := dAt wdX12_isSame_27 adX12_isSame_27.2.1 rfl
theorem dX12_isSame_31 : decode cX12_isSame 31 = .ok (.aload_n 0, 1) := dAt wdX12_isSame_27 adX12_isSame_27.2.2.1 rfl
theorem dX12_isSame_32 : decode cX12_isSame 32 = .ok (.getfield 351, 3) := dAt wdX12_isSame_27 adX12_isSame_27.2.2.2.1 rfl
theorem dX12_isSame_35 : decode cX12_isSame 35 = .ok (.if_icmp .ge 44, 3) := dAt wdX12_isSame_27 adX12_isSame_27.2.2.2.2.1 rfl
theorem dX12_isSame_38 : decode cX12_isSame 38 = .ok (.iload 4, 2) := dAt wdX12_isSame_27 adX12_isSame_27.2.2.2.2.2.1 rfl
theorem dX12_isSame_40 : decode cX12_isSame 40 = .ok (.ifCond .eq 39, 3) := dAt wdX12_isSame_27 adX12_isSame_27.2.2.2.2.2.2.1 rfl
theorem dX12_isSame_43 : decode cX12_isSame 43 = .ok (.aload_n 0, 1) := dAt wdX12_isSame_27 adX12_isSame_27.2.2.2.2.2.2.2.1 rfl
theorem dX12_isSame_44 : decode cX12_isSame 44 = .ok (.getfield 73, 3) := dAt wdX12_isSame_27 adX12_isSame_27.2.2.2.2.2.2.2.2.1 rfl
theorem dX12_isSame_47 : decode cX12_isSame 47 = .ok (.sipush 430, 3) := dAt wdX12_isSame_27 adX12_isSame_27.2.2.2.2.2.2.2.2.2.1 rfl
theorem dX12_isSame_50 : decode cX12_isSame 50 = .ok (.iload_n 2, 1) := dAt wdX12_isSame_27 adX12_isSame_27.2.2.2.2.2.2.2.2.2.2.1 rfl
theorem dX12_isSame_51 : decode cX12_isSame 51 = .ok (.imul, 1) := dAt wdX12_isSame_27 adX12_isSame_27.2.2.2.2.2.2.2.2.2.2.2.1 rfl
theorem dX12_isSame_52 : decode cX12_isSame 52 = .ok (.iload 5, 2) := dAt wdX12_isSame_27 adX12_isSame_27.2.2.2.2.2.2.2.2.2.2.2.2.1 rfl
theorem dX12_isSame_54 : decode cX12_isSame 54 = .ok (.iadd, 1) := dAt wdX12_isSame_27 adX12_isSame_27.2.2.2.2.2.2.2.2.2.2.2.2.2.1 rfl
theorem dX12_isSame_55 : decode cX12_isSame 55 = .ok (.iaload, 1) := dAt wdX12_isSame_27 adX12_isSame_27.2.2.2.2.2.2.2.2.2.2.2.2.2.2.1 rfl
theorem dX12_isSame_56 : decode cX12_isSame 56 = .ok (.aload_n 0, 1) := dAt wdX12_isSame_27 adX12_isSame_27.2.2.2.2.2.2.2.2.2.2.2.2.2.2.2 rfl
def bdX12_isSame_57 : ByteArray := .mk #[180, 0, 64, 21, 5, 46, 160, 0, 7, 4, 167, 0, 4, 3, 54, 4, 132, 5, 1, 167, 255, 209, 21, 4, 172]
theorem wdX12_isSame_57 : LocW cX12_isSame 57 bdX12_isSame_57 := loc_of (by decide +kernel)
theorem adX12_isSame_57 : De bdX12_isSame_57 0 (.getfield 64) 3 ∧ De bdX12_isSame_57 3 (.iload 5) 2 ∧ De bdX12_isSame_57 5 (.iaload) 1 ∧ De bdX12_isSame_57 6 (.if_icmp .ne 7) 3 ∧ De bdX12_isSame_57 9 (.iconst 1) 1 ∧ De bdX12_isSame_57 10 (.goto 4) 3 ∧ De bdX12_isSame_57 13 (.iconst 0) 1 ∧ De bdX12_isSame_57 14 (.istore 4) 2 ∧ De bdX12_isSame_57 16 (.iinc 5 1) 3 ∧ De bdX12_isSame_57 19 (.goto (-47)) 3 ∧ De bdX12_isSame_57 22 (.iload 4) 2 ∧ De bdX12_isSame_57 24 (.ireturn) 1 := by decide +kernel
theorem dX12_isSame_57 : decode cX12_isSame 57 = .ok (.getfield 64, 3) := dAt wdX12_isSame_57 adX12_isSame_57.1 rfl
theorem dX12_isSame_60 : decode cX12_isSame 60 = .ok (.iload 5, 2) := dAt wdX12_isSame_57 adX12_isSame_57.2.1 rfl
theorem dX12_isSame_62 : decode cX12_isSame 62 = .ok (.iaload, 1) := dAt wdX12_isSame_57 adX12_isSame_57.2.2.1 rfl
theorem dX12_isSame_63 : decode cX12_isSame 63 = .ok (.if_icmp .ne 7, 3) := dAt wdX12_isSame_57 adX12_isSame_57.2.2.2.1 rfl
theorem dX12_isSame_66 : decode cX12_isSame 66 = .ok (.iconst 1, 1) := dAt wdX12_isSame_57 adX12_isSame_57.2.2.2.2.1 rfl
theorem dX12_isSame_67 : decode cX12_isSame 67 = .ok (.goto 4, 3) := dAt wdX12_isSame_57 adX12_isSame_57.2.2.2.2.2.1 rfl
theorem dX12_isSame_70 : decode cX12_isSame 70 = .ok (.iconst 0, 1) := dAt wdX12_isSame_57 adX12_isSame_57.2.2.2.2.2.2.1 rfl
theorem dX12_isSame_71 : decode cX12_isSame 71 = .ok (.istore 4, 2) := dAt wdX12_isSame_57 adX12_isSame_57.2.2.2.2.2.2.2.1 rfl
theorem dX12_isSame_73 : decode cX12_isSame 73 = .ok (.iinc 5 1, 3) := dAt wdX12_isSame_57 adX12_isSame_57.2.2.2.2.2.2.2.2.1 rfl
theorem dX12_isSame_76 : decode cX12_isSame 76 = .ok (.goto (-47), 3) := dAt wdX12_isSame_57 adX12_isSame_57.2.2.2.2.2.2.2.2.2.1 rfl
theorem dX12_isSame_79 : decode cX12_isSame 79 = .ok (.iload 4, 2) := dAt wdX12_isSame_57 adX12_isSame_57.2.2.2.2.2.2.2.2.2.2.1 rfl
theorem dX12_isSame_81 : decode cX12_isSame 81 = .ok (.ireturn, 1) := dAt wdX12_isSame_57 adX12_isSame_57.2.2.2.2.2.2.2.2.2.2.2 rfl
def bdX12_read_0 : ByteArray := .mk #[42, 27, 3, 4, 184, 0, 157, 153, 0, 11, 42, 28, 182, 1, 140, 154, 0, 7, 4, 167, 0, 4, 3, 181, 0, 122, 42, 180, 0, 122]
theorem wdX12_read_0 : LocW cX12_read 0 bdX12_read_0 := loc_of (by decide +kernel)
theorem adX12_read_0 : De bdX12_read_0 0 (.aload_n 0) 1 ∧ De bdX12_read_0 1 (.iload_n 1) 1 ∧ De bdX12_read_0 2 (.iconst 0) 1 ∧ De bdX12_read_0 3 (.iconst 1) 1 ∧ De bdX12_read_0 4 (.invokestatic 157) 3 ∧ De bdX12_read_0 7 (.ifCond .eq 11) 3 ∧ De bdX12_read_0 10 (.aload_n 0) 1 ∧ De bdX12_read_0 11 (.iload_n 2) 1 ∧ De bdX12_read_0 12 (.invokevirtual 396) 3 ∧ De bdX12_read_0 15 (.ifCond .ne 7) 3 ∧ De bdX12_read_0 18 (.iconst 1) 1 ∧ De bdX12_read_0 19 (.goto 4) 3 ∧ De bdX12_read_0 22 (.iconst 0) 1 ∧ De bdX12_read_0 23 (.putfield 122) 3 ∧ De bdX12_read_0 26 (.aload_n 0) 1 ∧ De bdX12_read_0 27 (.getfield 122) 3 := by decide +kernel
theorem dX12_read_0 : decode cX12_read 0 = .ok (.aload_n 0, 1) := dAt wdX12_read_0 adX12_read_0.1 rfl
theorem dX12_read_1 : decode cX12_read 1 = .ok (.iload_n 1, 1) := dAt wdX12_read_0 adX12_read_0.2.1 rfl
theorem dX12_read_2 : decode cX12_read 2 = .ok (.iconst 0, 1) := dAt wdX12_read_0 adX12_read_0.2.2.1 rfl
theorem dX12_read_3 : decode cX12_read 3 = .ok (.iconst 1, 1) := dAt wdX12_read_0 adX12_read_0.2.2.2.1 rfl
theorem dX12_read_4 : decode cX12_read 4 = .ok (.invokestatic 157, 3) := dAt wdX12_read_0 adX12_read_0.2.2.2.2.1 rfl
theorem dX12_read_7 : decode cX12_read 7 = .ok (.ifCond .eq 11, 3) := dAt wdX12_read_0 adX12_read_0.2.2.2.2.2.1 rfl
theorem dX12_read_10 : decode cX12_read 10 = .ok (.aload_n 0, 1) := dAt wdX12_read_0 adX12_read_0.2.2.2.2.2.2.1 rfl
theorem dX12_read_11 : decode cX12_read 11 = .ok (.iload_n 2, 1) := dAt wdX12_read_0 adX12_read_0.2.2.2.2.2.2.2.1 rfl
theorem dX12_read_12 : decode cX12_read 12 = .ok (.invokevirtual 396, 3) := dAt wdX12_read_0 adX12_read_0.2.2.2.2.2.2.2.2.1 rfl
theorem dX12_read_15 : decode cX12_read 15 = .ok (.ifCond .ne 7, 3) := dAt wdX12_read_0 adX12_read_0.2.2.2.2.2.2.2.2.2.1 rfl
theorem dX12_read_18 : decode cX12_read 18 = .ok (.iconst 1, 1) := dAt wdX12_read_0 adX12_read_0.2.2.2.2.2.2.2.2.2.2.1 rfl
theorem dX12_read_19 : decode cX12_read 19 = .ok (.goto 4, 3) := dAt wdX12_read_0 adX12_read_0.2.2.2.2.2.2.2.2.2.2.2.1 rfl
theorem dX12_read_22 : decode cX12_read 22 = .ok (.iconst 0, 1) := dAt wdX12_read_0 adX12_read_0.2.2.2.2.2.2.2.2.2.2.2.2.1 rfl
theorem dX12_read_23 : decode cX12_read 23 = .ok (.putfield 122, 3) := dAt wdX12_read_0 adX12_read_0.2.2.2.2.2.2.2.2.2.2.2.2.2.1 rfl
theorem dX12_read_26 : decode cX12_read 26 = .ok (.aload_n 0, 1) := dAt wdX12_read_0 adX12_read_0.2.2.2.2.2.2.2.2.2.2.2.2.2.2.1 rfl
theorem dX12_read_27 : decode cX12_read 27 = .ok (.getfield 122, 3) := dAt wdX12_read_0 adX12_read_0.2.2.2.2.2.2.2.2.2.2.2.2.2.2.2 rfl
def bdX12_read_30 : ByteArray := .mk #[158, 0, 5, 3, 172, 28, 184, 1, 86, 16, 10, 96, 27, 96, 62, 42, 180, 0, 8, 29, 46, 4, 160, 0, 7]
theorem wdX12_read_30 : LocW cX12_read 30 bdX12_read_30 := loc_of (by decide +kernel)
theorem adX12_read_30 : De bdX12_read_30 0 (.ifCond .le 5) 3 ∧ De bdX12_read_30 3 (.iconst 0) 1 ∧ De bdX12_read_30 4 (.ireturn) 1 ∧ De bdX12_read_30 5 (.iload_n 2) 1 ∧ De bdX12_read_30 6 (.invokestatic 342) 3 ∧ De bdX12_read_30 9 (.bipush 10) 2 ∧ De bdX12_read_30 11 (.iadd) 1 ∧ De bdX12_read_30 12 (.iload_n 1) 1 ∧ De bdX12_read_30 13 (.iadd) 1 ∧ De bdX12_read_30 14 (.istore_n 3) 1 ∧ De bdX12_read_30 15 (.aload_n 0) 1 ∧ De bdX12_read_30 16 (.getfield 8) 3 ∧ De bdX12_read_30 19 (.iload_n 3) 1 ∧ De bdX12_read_30 20 (.iaload) 1 ∧ De bdX12_read_30 21 (.iconst 1) 1 ∧ De bdX12_read_30 22 (.if_icmp .ne 7) 3 := by decide +kernel
theorem dX12_read_30 : decode cX12_read 30 = .ok (.ifCond .le 5, 3) := dAt wdX12_read_30 adX12_read_30.1 rfl
theorem dX12_read_33 : decode cX12_read 33 = .ok (.iconst 0, 1) := dAt wdX12_read_30 adX12_read_30.2.1 rfl
theorem dX12_read_34 : decode cX12_read 34 = .ok (.ireturn, 1) := dAt wdX12_read_30 adX12_read_30.2.2.1 rfl
theorem dX12_read_35 : decode cX12_read 35 = .ok (.iload_n 2, 1) := dAt wdX12_read_30 adX12_read_30.2.2.2.1 rfl
theorem dX12_read_36 : decode cX12_read 36 = .ok (.invokestatic 342, 3) := dAt wdX12_read_30 adX12_read_30.2.2.2.2.1 rfl
theorem dX12_read_39 : decode cX12_read 39 = .ok (.bipush 10, 2) := dAt wdX12_read_30 adX12_read_30.2.2.2.2.2.1 rfl
theorem dX12_read_41 : decode cX12_read 41 = .ok (.iadd, 1) := dAt wdX12_read_30 adX12_read_30.2.2.2.2.2.2.1 rfl
theorem dX12_read_42 : decode cX12_read 42 = .ok (.iload_n 1, 1) := dAt wdX12_read_30 adX12_read_30.2.2.2.2.2.2.2.1 rfl
theorem dX12_read_43 : decode cX12_read 43 = .ok (.iadd, 1) := dAt wdX12_read_30 adX12_read_30.2.2.2.2.2.2.2.2.1 rfl
theorem dX12_read_44 : decode cX12_read 44 = .ok (.istore_n 3, 1) := dAt wdX12_read_30 adX12_read_30.2.2.2.2.2.2.2.2.2.1 rfl
theorem dX12_read_45 : decode cX12_read 45 = .ok (.aload_n 0, 1) := dAt wdX12_read_30 adX12_read_30.2.2.2.2.2.2.2.2.2.2.1 rfl
theorem dX12_read_46 : decode cX12_read 46 = .ok (.getfield 8, 3) := dAt wdX12_read_30 adX12_read_30.2.2.2.2.2.2.2.2.2.2.2.1 rfl
theorem dX12_read_49 : decode cX12_read 49 = .ok (.iload_n 3, 1) := dAt wdX12_read_30 adX12_read_30.2.2.2.2.2.2.2.2.2.2.2.2.1 rfl
theorem dX12_read_50 : decode cX12_read 50 = .ok (.iaload, 1) := dAt wdX12_read_30 adX12_read_30.2.2.2.2.2.2.2.2.2.2.2.2.2.1 rfl
theorem dX12_read_51 : decode cX12_read 51 = .ok (.iconst 1, 1) := dAt wdX12_read_30 adX12_read_30.2.2.2.2.2.2.2.2.2.2.2.2.2.2.1 rfl
theorem dX12_read_52 : decode cX12_read 52 = .ok (.if_icmp .ne 7, 3) := dAt wdX12_read_30 adX12_read_30.2.2.2.2.2.2.2.2.2.2.2.2.2.2.2 rfl
def bdX12_read_55 : ByteArray := .mk #[4, 167, 0, 4, 3, 54, 4, 42, 180, 0, 8, 29, 4, 79, 21, 4, 154, 0, 7, 4, 167, 0, 4, 3, 172]
theorem wdX12_read_55 : LocW cX12_read 55 bdX12_read_55 := loc_of (by decide +kernel)
theorem adX12_read_55 : De bdX12_read_55 0 (.iconst 1) 1 ∧ De bdX12_read_55 1 (.goto 4) 3 ∧ De bdX12_read_55 4 (.iconst 0) 1 ∧ De bdX12_read_55 5 (.istore 4) 2 ∧ De bdX12_read_55 7 (.aload_n 0) 1 ∧ De bdX12_read_55 8 (.getfield 8) 3 ∧ De bdX12_read_55 11 (.iload_n 3) 1 ∧ De bdX12_read_55 12 (.iconst 1) 1 ∧ De bdX12_read_55 13 (.iastore) 1 ∧ De bdX12_read_55 14 (.iload 4) 2 ∧ De bdX12_read_55 16 (.ifCond .ne 7) 3 ∧ De bdX12_read_55 19 (.iconst 1) 1 ∧ De bdX12_read_55 20 (.goto 4) 3 ∧ De bdX12_read_55 23 (.iconst 0) 1 ∧ De bdX12_read_55 24 (.ireturn) 1 := by decide +kernel
theorem dX12_read_55 : decode cX12_read 55 = .ok (.iconst 1, 1) := dAt wdX12_read_55 adX12_read_55.1 rfl
theorem dX12_read_56 : decode cX12_read 56 = .ok (.goto 4, 3) := dAt wdX12_read_55 adX12_read_55.2.1 rfl
theorem dX12_read_59 : decode cX12_read 59 = .ok (.iconst 0, 1) := dAt wdX12_read_55 adX12_read_55.2.2.1 rfl
theorem dX12_read_60 : decode cX12_read 60 = .ok (.istore 4, 2) := dAt wdX12_read_55 adX12_read_55.2.2.2.1 rfl
theorem dX12_read_62 : decode cX12_read 62 = .ok (.aload_n 0, 1) := dAt wdX12_read_55 adX12_read_55.2.2.2.2.1 rfl
theorem dX12_read_63 : decode cX12_read 63 = .ok (.getfield 8, 3) := dAt wdX12_read_55 adX12_read_55.2.2.2.2.2.1 rfl
theorem dX12_read_66 : decode cX12_read 66 = .ok (.iload_n 3, 1) := dAt wdX12_read_55 adX12_read_55.2.2.2.2.2.2.1 rfl
theorem dX12_read_67 : decode cX12_read 67 = .ok (.iconst 1, 1) := dAt wdX12_read_55 adX12_read_55.2.2.2.2.2.2.2.1 rfl
theorem dX12_read_68 : decode cX12_read 68 = .ok (.iastore, 1) := dAt wdX12_read_55 adX12_read_55.2.2.2.2.2.2.2.2.1 rfl
theorem dX12_read_69 : decode cX12_read 69 = .ok (.iload 4, 2) := dAt wdX12_read_55 adX12_read_55.2.2.2.2.2.2.2.2.2.1 rfl
theorem dX12_read_71 : decode cX12_read 71 = .ok (.ifCond .ne 7, 3) := dAt wdX12_read_55 adX12_read_55.2.2.2.2.2.2.2.2.2.2.1 rfl
theorem dX12_read_74 : decode cX12_read 74 = .ok (.iconst 1, 1) := dAt wdX12_read_55 adX12_read_55.2.2.2.2.2.2.2.2.2.2.2.1 rfl
theorem dX12_read_75 : decode cX12_read 75 = .ok (.goto 4, 3) := dAt wdX12_read_55 adX12_read_55.2.2.2.2.2.2.2.2.2.2.2.2.1 rfl
theorem dX12_read_78 : decode cX12_read 78 = .ok (.iconst 0, 1) := dAt wdX12_read_55 adX12_read_55.2.2.2.2.2.2.2.2.2.2.2.2.2.1 rfl
theorem dX12_read_79 : decode cX12_read 79 = .ok (.ireturn, 1) := dAt wdX12_read_55 adX12_read_55.2.2.2.2.2.2.2.2.2.2.2.2.2.2 rfl
def bdX12_proof_0 : ByteArray := .mk #[42, 27, 3, 8, 184, 0, 157, 154, 0, 7, 4, 167, 0, 4, 3, 181, 0, 122, 42, 180, 0, 122, 158, 0, 5, 3, 172, 3]
theorem wdX12_proof_0 : LocW cX12_proof 0 bdX12_proof_0 := loc_of (by decide +kernel)
theorem adX12_proof_0 : De bdX12_proof_0 0 (.aload_n 0) 1 ∧ De bdX12_proof_0 1 (.iload_n 1) 1 ∧ De bdX12_proof_0 2 (.iconst 0) 1 ∧ De bdX12_proof_0 3 (.iconst 5) 1 ∧ De bdX12_proof_0 4 (.invokestatic 157) 3 ∧ De bdX12_proof_0 7 (.ifCond .ne 7) 3 ∧ De bdX12_proof_0 10 (.iconst 1) 1 ∧ De bdX12_proof_0 11 (.goto 4) 3 ∧ De bdX12_proof_0 14 (.iconst 0) 1 ∧ De bdX12_proof_0 15 (.putfield 122) 3 ∧ De bdX12_proof_0 18 (.aload_n 0) 1 ∧ De bdX12_proof_0 19 (.getfield 122) 3 ∧ De bdX12_proof_0 22 (.ifCond .le 5) 3 ∧ De bdX12_proof_0 25 (.iconst 0) 1 ∧ De bdX12_proof_0 26 (.ireturn) 1 ∧ De bdX12_proof_0 27 (.iconst 0) 1 := by decide +kernel
theorem dX12_proof_0 : decode cX12_proof 0 = .ok (.aload_n 0, 1) := dAt wdX12_proof_0 adX12_proof_0.1 rfl
theorem dX12_proof_1 : decode cX12_proof 1 = .ok (.iload_n 1, 1) := dAt wdX12_proof_0 adX12_proof_0.2.1 rfl
theorem dX12_proof_2 : decode cX12_proof 2 = .ok (.iconst 0, 1) := dAt wdX12_proof_0 adX12_proof_0.2.2.1 rfl
theorem dX12_proof_3 : decode cX12_proof 3 = .ok (.iconst 5, 1) := dAt wdX12_proof_0 adX12_proof_0.2.2.2.1 rfl
theorem dX12_proof_4 : decode cX12_proof 4 = .ok (.invokestatic 157, 3) := dAt wdX12_proof_0 adX12_proof_0.2.2.2.2.1 rfl
theorem dX12_proof_7 : decode cX12_proof 7 = .ok (.ifCond .ne 7, 3) := dAt wdX12_proof_0 adX12_proof_0.2.2.2.2.2.1 rfl
theorem dX12_proof_10 : decode cX12_proof 10 = .ok (.iconst 1, 1) := dAt wdX12_proof_0 adX12_proof_0.2.2.2.2.2.2.1 rfl
theorem dX12_proof_11 : decode cX12_proof 11 = .ok (.goto 4, 3) := dAt wdX12_proof_0 adX12_proof_0.2.2.2.2.2.2.2.1 rfl
theorem dX12_proof_14 : decode cX12_proof 14 = .ok (.iconst 0, 1) := dAt wdX12_proof_0 adX12_proof_0.2.2.2.2.2.2.2.2.1 rfl
theorem dX12_proof_15 : decode cX12_proof 15 = .ok (.putfield 122, 3) := dAt wdX12_proof_0 adX12_proof_0.2.2.2.2.2.2.2.2.2.1 rfl
theorem dX12_proof_18 : decode cX12_proof 18 = .ok (.aload_n 0, 1) := dAt wdX12_proof_0 adX12_proof_0.2.2.2.2.2.2.2.2.2.2.1 rfl
theorem dX12_proof_19 : decode cX12_proof 19 = .ok (.getfield 122, 3) := dAt wdX12_proof_0 adX12_proof_0.2.2.2.2.2.2.2.2.2.2.2.1 rfl
theorem dX12_proof_22 : decode cX12_proof 22 = .ok (.ifCond .le 5, 3) := dAt wdX12_proof_0 adX12_proof_0.2.2.2.2.2.2.2.2.2.2.2.2.1 rfl
theorem dX12_proof_25 : decode cX12_proof 25 = .ok (.iconst 0, 1) := dAt wdX12_proof_0 adX12_proof_0.2.2.2.2.2.2.2.2.2.2.2.2.2.1 rfl
theorem dX12_proof_26 : decode cX12_proof 26 = .ok (.ireturn, 1) := dAt wdX12_proof_0 adX12_proof_0.2.2.2.2.2.2.2.2.2.2.2.2.2.2.1 rfl
theorem dX12_proof_27 : decode cX12_proof 27 = .ok (.iconst 0, 1) := dAt wdX12_proof_0 adX12_proof_0.2.2.2.2.2.2.2.2.2.2.2.2.2.2.2 rfl
def bdX12_proof_28 : ByteArray := .mk #[61, 3, 62, 3, 54, 4, 3, 54, 5, 3, 54, 6, 3, 54, 7, 21, 7, 42, 180, 0, 8, 7, 46]
theorem wdX12_proof_28 : LocW cX12_proof 28 bdX12_proof_28 := loc_of (by decide +kernel)
theorem adX12_proof_28 : De bdX12_proof_28 0 (.istore_n 2) 1 ∧ De bdX12_proof_28 1 (.iconst 0) 1 ∧ De bdX12_proof_28 2 (.istore_n 3) 1 ∧ De bdX12_proof_28 3 (.iconst 0) 1 ∧ De bdX12_proof_28 4 (.istore 4) 2 ∧ De bdX12_proof_28 6 (.iconst 0) 1 ∧ De bdX12_proof_28 7 (.istore 5) 2 ∧ De bdX12_proof_28 9 (.iconst 0) 1 ∧ De bdX12_proof_28 10 (.istore 6) 2 ∧ De bdX12_proof_28 12 (.iconst 0) 1 ∧ De bdX12_proof_28 13 (.istore 7) 2 ∧ De bdX12_proof_28 15 (.iload 7) 2 ∧ De bdX12_proof_28 17 (.aload_n 0) 1 ∧ De bdX12_proof_28 18 (.getfield 8) 3 ∧ De bdX12_proof_28 21 (.iconst 4) 1 ∧ De bdX12_proof_28 22 (.iaload) 1 := by decide +kernel
theorem dX12_proof_28 : decode cX12_proof 28 = .ok (.istore_n 2, 1) := dAt wdX12_proof_28 adX12_proof_28.1 rfl
theorem dX12_proof_29 : decode cX12_proof 29 = .ok (.iconst 0, 1) := dAt wdX12_proof_28 adX12_proof_28.2.1 rfl
theorem dX12_proof_30 : decode cX12_proof 30 = .ok (.istore_n 3, 1) := dAt wdX12_proof_28 adX12_proof_28.2.2.1 rfl
theorem dX12_proof_31 : decode cX12_proof 31 = .ok (.iconst 0, 1) := dAt wdX12_proof_28 adX12_proof_28.2.2.2.1 rfl
theorem dX12_proof_32 : decode cX12_proof 32 = .ok (.istore 4, 2) := dAt wdX12_proof_28 adX12_proof_28.2.2.2.2.1 rfl
theorem dX12_proof_34 : decode cX12_proof 34 = .ok (.iconst 0, 1) := dAt wdX12_proof_28 adX12_proof_28.2.2.2.2.2.1 rfl
theorem dX12_proof_35 : decode cX12_proof 35 = .ok (.istore 5, 2) := dAt wdX12_proof_28 adX12_proof_28.2.2.2.2.2.2.1 rfl
theorem dX12_proof_37 : decode cX12_proof 37 = .ok (.iconst 0, 1) := dAt wdX12_proof_28 adX12_proof_28.2.2.2.2.2.2.2.1 rfl
theorem dX12_proof_38 : decode cX12_proof 38 = .ok (.istore 6, 2) := dAt wdX12_proof_28 adX12_proof_28.2.2.2.2.2.2.2.2.1 rfl
theorem dX12_proof_40 : decode cX12_proof 40 = .ok (.iconst 0, 1) := dAt wdX12_proof_28 adX12_proof_28.2.2.2.2.2.2.2.2.2.1 rfl
theorem dX12_proof_41 : decode cX12_proof 41 = .ok (.istore 7, 2) := dAt wdX12_proof_28 adX12_proof_28.2.2.2.2.2.2.2.2.2.2.1 rfl
theorem dX12_proof_43 : decode cX12_proof 43 = .ok (.iload 7, 2) := dAt wdX12_proof_28 adX12_proof_28.2.2.2.2.2.2.2.2.2.2.2.1 rfl
theorem dX12_proof_45 : decode cX12_proof 45 = .ok (.aload_n 0, 1) := dAt wdX12_proof_28 adX12_proof_28.2.2.2.2.2.2.2.2.2.2.2.2.1 rfl
theorem dX12_proof_46 : decode cX12_proof 46 = .ok (.getfield 8, 3) := dAt wdX12_proof_28 adX12_proof_28.2.2.2.2.2.2.2.2.2.2.2.2.2.1 rfl
theorem dX12_proof_49 : decode cX12_proof 49 = .ok (.iconst 4, 1) := dAt wdX12_proof_28 adX12_proof_28.2.2.2.2.2.2.2.2.2.2.2.2.2.2.1 rfl
theorem dX12_proof_50 : decode cX12_proof 50 = .ok (.iaload, 1) := dAt wdX12_proof_28 adX12_proof_28.2.2.2.2.2.2.2.2.2.2.2.2.2.2.2 rfl
def bdX12_proof_51 : ByteArray := .mk #[162, 0, 131, 21, 7, 184, 1, 86, 54, 8, 42, 180, 0, 8, 21, 8, 7, 96, 46, 153, 0, 6, 167, 0, 103, 42, 180, 0, 8, 21, 8, 16, 10]
theorem wdX12_proof_51 : LocW cX12_proof 51 bdX12_proof_51 := loc_of (by decide +kernel)
theorem adX12_proof_51 : De bdX12_proof_51 0 (.if_icmp .ge 131) 3 ∧ De bdX12_proof_51 3 (.iload 7) 2 ∧ De bdX12_proof_51 5 (.invokestatic 342) 3 ∧ De bdX12_proof_51 8 (.istore 8) 2 ∧ De bdX12_proof_51 10 (.aload_n 0) 1 ∧ De bdX12_proof_51 11 (.getfield 8) 3 ∧ De bdX12_proof_51 14 (.iload 8) 2 ∧ De bdX12_proof_51 16 (.iconst 4) 1 ∧ De bdX12_proof_51 17 (.iadd) 1 ∧ De bdX12_proof_51 18 (.iaload) 1 ∧ De bdX12_proof_51 19 (.ifCond .eq 6) 3 ∧ De bdX12_proof_51 22 (.goto 103) 3 ∧ De bdX12_proof_51 25 (.aload_n 0) 1 ∧ De bdX12_proof_51 26 (.getfield 8) 3 ∧ De bdX12_proof_51 29 (.iload 8) 2 ∧ De bdX12_proof_51 31 (.bipush 10) 2 := by decide +kernel
theorem dX12_proof_51 : decode cX12_proof 51 = .ok (.if_icmp .ge 131, 3) := dAt wdX12_proof_51 adX12_proof_51.1 rfl
theorem dX12_proof_54 : decode cX12_proof 54 = .ok (.iload 7, 2) := dAt wdX12_proof_51 adX12_proof_51.2.1 rfl
theorem dX12_proof_56 : decode cX12_proof 56 = .ok (.invokestatic 342, 3) := dAt wdX12_proof_51 adX12_proof_51.2.2.1 rfl
theorem dX12_proof_59 : decode cX12_proof 59 = .ok (.istore 8, 2) := dAt wdX12_proof_51 adX12_proof_51.2.2.2.1 rfl
theorem dX12_proof_61 : decode cX12_proof 61 = .ok (.aload_n 0, 1) := dAt wdX12_proof_51 adX12_proof_51.2.2.2.2.1 rfl
theorem dX12_proof_62 : decode cX12_proof 62 = .ok (.getfield 8, 3) := dAt wdX12_proof_51 adX12_proof_51.2.2.2.2.2.1 rfl
theorem dX12_proof_65 : decode cX12_proof 65 = .ok (.iload 8, 2) := dAt wdX12_proof_51 adX12_proof_51.2.2.2.2.2.2.1 rfl
theorem dX12_proof_67 : decode cX12_proof 67 = .ok (.iconst 4, 1) := dAt wdX12_proof_51 adX12_proof_51.2.2.2.2.2.2.2.1 rfl
theorem dX12_proof_68 : decode cX12_proof 68 = .ok (.iadd, 1) := dAt wdX12_proof_51 adX12_proof_51.2.2.2.2.2.2.2.2.1 rfl
theorem dX12_proof_69 : decode cX12_proof 69 = .ok (.iaload, 1) := dAt wdX12_proof_51 adX12_proof_51.2.2.2.2.2.2.2.2.2.1 rfl
theorem dX12_proof_70 : decode cX12_proof 70 = .ok (.ifCond .eq 6, 3) := dAt wdX12_proof_51 adX12_proof_51.2.2.2.2.2.2.2.2.2.2.1 rfl
theorem dX12_proof_73 : decode cX12_proof 73 = .ok (.goto 103, 3) := dAt wdX12_proof_51 adX12_proof_51.2.2.2.2.2.2.2.2.2.2.2.1 rfl
theorem dX12_proof_76 : decode cX12_proof 76 = .ok (.aload_n 0, 1) := dAt wdX12_proof_51 adX12_proof_51.2.2.2.2.2.2.2.2.2.2.2.2.1 rfl
theorem dX12_proof_77 : decode cX12_proof 77 = .ok (.getfield 8, 3) := dAt wdX12_proof_51 adX12_proof_51.2.2.2.2.2.2.2.2.2.2.2.2.2.1 rfl
theorem dX12_proof_80 : decode cX12_proof 80 = .ok (.iload 8, 2) := dAt wdX12_proof_51 adX12_proof_51.2.2.2.2.2.2.2.2.2.2.2.2.2.2.1 rfl
theorem dX12_proof_82 : decode cX12_proof 82 = .ok (.bipush 10, 2) := dAt wdX12_proof_51 adX12_proof_51.2.2.2.2.2.2.2.2.2.2.2.2.2.2.2 rfl
def bdX12_proof_84 : ByteArray := .mk #[96, 46, 54, 9, 42, 180, 0, 8, 21, 8, 16, 10, 96, 4, 96, 46, 54, 10, 28, 21, 9, 96, 61]
theorem wdX12_proof_84 : LocW cX12_proof 84 bdX12_proof_84 := loc_of (by decide +kernel)
theorem adX12_proof_84 : De bdX12_proof_84 0 (.iadd) 1 ∧ De bdX12_proof_84 1 (.iaload) 1 ∧ De bdX12_proof_84 2 (.istore 9) 2 ∧ De bdX12_proof_84 4 (.aload_n 0) 1 ∧ De bdX12_proof_84 5 (.getfield 8) 3 ∧ De bdX12_proof_84 8 (.iload 8) 2 ∧ De bdX12_proof_84 10 (.bipush 10) 2 ∧ De bdX12_proof_84 12 (.iadd) 1 ∧ De bdX12_proof_84 13 (.iconst 1) 1 ∧ De bdX12_proof_84 14 (.iadd) 1 ∧ De bdX12_proof_84 15 (.iaload) 1 ∧ De bdX12_proof_84 16 (.istore 10) 2 ∧ De bdX12_proof_84 18 (.iload_n 2) 1 ∧ De bdX12_proof_84 19 (.iload 9) 2 ∧ De bdX12_proof_84 21 (.iadd) 1 ∧ De bdX12_proof_84 22 (.istore_n 2) 1 := by decide +kernel
theorem dX12_proof_84 : decode cX12_proof 84 = .ok (.iadd, 1) := dAt wdX12_proof_84 adX12_proof_84.1 rfl
theorem dX12_proof_85 : decode cX12_proof 85 = .ok (.iaload, 1) := dAt wdX12_proof_84 adX12_proof_84.2.1 rfl
theorem dX12_proof_86 : decode cX12_proof 86 = .ok (.istore 9, 2) := dAt wdX12_proof_84 adX12_proof_84.2.2.1 rfl
theorem dX12_proof_88 : decode cX12_proof 88 = .ok (.aload_n 0, 1) := dAt wdX12_proof_84 adX12_proof_84.2.2.2.1 rfl
theorem dX12_proof_89 : decode cX12_proof 89 = .ok (.getfield 8, 3) := dAt wdX12_proof_84 adX12_proof_84.2.2.2.2.1 rfl
theorem dX12_proof_92 : decode cX12_proof 92 = .ok (.iload 8, 2) := dAt wdX12_proof_84 adX12_proof_84.2.2.2.2.2.1 rfl
theorem dX12_proof_94 : decode cX12_proof 94 = .ok (.bipush 10, 2) := dAt wdX12_proof_84 adX12_proof_84.2.2.2.2.2.2.1 rfl
theorem dX12_proof_96 : decode cX12_proof 96 = .ok (.iadd, 1) := dAt wdX12_proof_84 adX12_proof_84.2.2.2.2.2.2.2.1 rfl
theorem dX12_proof_97 : decode cX12_proof 97 = .ok (.iconst 1, 1) := dAt wdX12_proof_84 adX12_proof_84.2.2.2.2.2.2.2.2.1 rfl
theorem dX12_proof_98 : decode cX12_proof 98 = .ok (.iadd, 1) := dAt wdX12_proof_84 adX12_proof_84.2.2.2.2.2.2.2.2.2.1 rfl
theorem dX12_proof_99 : decode cX12_proof 99 = .ok (.iaload, 1) := dAt wdX12_proof_84 adX12_proof_84.2.2.2.2.2.2.2.2.2.2.1 rfl
theorem dX12_proof_100 : decode cX12_proof 100 = .ok (.istore 10, 2) := dAt wdX12_proof_84 adX12_proof_84.2.2.2.2.2.2.2.2.2.2.2.1 rfl
theorem dX12_proof_102 : decode cX12_proof 102 = .ok (.iload_n 2, 1) := dAt wdX12_proof_84 adX12_proof_84.2.2.2.2.2.2.2.2.2.2.2.2.1 rfl
theorem dX12_proof_103 : decode cX12_proof 103 = .ok (.iload 9, 2) := dAt wdX12_proof_84 adX12_proof_84.2.2.2.2.2.2.2.2.2.2.2.2.2.1 rfl
theorem dX12_proof_105 : decode cX12_proof 105 = .ok (.iadd, 1) := dAt wdX12_proof_84 adX12_proof_84.2.2.2.2.2.2.2.2.2.2.2.2.2.2.1 rfl
theorem dX12_proof_106 : decode cX12_proof 106 = .ok (.istore_n 2, 1) := dAt wdX12_proof_84 adX12_proof_84.2.2.2.2.2.2.2.2.2.2.2.2.2.2.2 rfl
def bdX12_proof_107 : ByteArray := .mk #[29, 21, 10, 96, 62, 21, 4, 21, 9, 21, 10, 104, 96, 54, 4, 42, 21, 7, 182, 1, 143, 54, 11, 21, 5, 21, 9]
theorem wdX12_proof_107 : LocW cX12_proof 107 bdX12_proof_107 := loc_of (by decide +kernel)
theorem adX12_proof_107 : De bdX12_proof_107 0 (.iload_n 3) 1 ∧ De bdX12_proof_107 1 (.iload 10) 2 ∧ De bdX12_proof_107 3 (.iadd) 1 ∧ De bdX12_proof_107 4 (.istore_n 3) 1 ∧ De bdX12_proof_107 5 (.iload 4) 2 ∧ De bdX12_proof_107 7 (.iload 9) 2 ∧ De bdX12_proof_107 9 (.iload 10) 2 ∧ De bdX12_proof_107 11 (.imul) 1 ∧ De bdX12_proof_107 12 (.iadd) 1 ∧ De bdX12_proof_107 13 (.istore 4) 2 ∧ De bdX12_proof_107 15 (.aload_n 0) 1 ∧ De bdX12_proof_107 16 (.iload 7) 2 ∧ De bdX12_proof_107 18 (.invokevirtual 399) 3 ∧ De bdX12_proof_107 21 (.istore 11) 2 ∧ De bdX12_proof_107 23 (.iload 5) 2 ∧ De bdX12_proof_107 25 (.iload 9) 2 := by decide +kernel
theorem dX12_proof_107 : decode cX12_proof 107 = .ok (.iload_n 3, 1) := dAt wdX12_proof_107 adX12_proof_107.1 rfl
theorem dX12_proof_108 : decode cX12_proof 108 = .ok (.iload 10, 2) := dAt wdX12_proof_107 adX12_proof_107.2.1 rfl
theorem dX12_proof_110 : decode cX12_proof 110 = .ok (.iadd, 1) := dAt wdX12_proof_107 adX12_proof_107.2.2.1 rfl
theorem dX12_proof_111 : decode cX12_proof 111 = .ok (.istore_n 3, 1) := dAt wdX12_proof_107 adX12_proof_107.2.2.2.1 rfl
theorem dX12_proof_112 : decode cX12_proof 112 = .ok (.iload 4, 2) := dAt wdX12_proof_107 adX12_proof_107.2.2.2.2.1 rfl
theorem dX12_proof_114 : decode cX12_proof 114 = .ok (.iload 9, 2) := dAt wdX12_proof_107 adX12_proof_107.2.2.2.2.2.1 rfl
theorem dX12_proof_116 : decode cX12_proof 116 = .ok (.iload 10, 2) := dAt wdX12_proof_107 adX12_proof_107.2.2.2.2.2.2.1 rfl
theorem dX12_proof_118 : decode cX12_proof 118 = .ok (.imul, 1) := dAt wdX12_proof_107 adX12_proof_107.2.2.2.2.2.2.2.1 rfl
theorem dX12_proof_119 : decode cX12_proof 119 = .ok (.iadd, 1) := dAt wdX12_proof_107 adX12_proof_107.2.2.2.2.2.2.2.2.1 rfl
theorem dX12_proof_120 : decode cX12_proof 120 = .ok (.istore 4, 2) := dAt wdX12_proof_107 adX12_proof_107.2.2.2.2.2.2.2.2.2.1 rfl
theorem dX12_proof_122 : decode cX12_proof 122 = .ok (.aload_n 0, 1) := dAt wdX12_proof_107 adX12_proof_107.2.2.2.2.2.2.2.2.2.2.1 rfl
theorem dX12_proof_123 : decode cX12_proof 123 = .ok (.iload 7, 2) := dAt wdX12_proof_107 adX12_proof_107.2.2.2.2.2.2.2.2.2.2.2.1 rfl
theorem dX12_proof_125 : decode cX12_proof 125 = .ok (.invokevirtual 399, 3) := dAt wdX12_proof_107 adX12_proof_107.2.2.2.2.2.2.2.2.2.2.2.2.1 rfl
theorem dX12_proof_128 : decode cX12_proof 128 = .ok (.istore 11, 2) := dAt wdX12_proof_107 adX12_proof_107.2.2.2.2.2.2.2.2.2.2.2.2.2.1 rfl
theorem dX12_proof_130 : decode cX12_proof 130 = .ok (.iload 5, 2) := dAt wdX12_proof_107 adX12_proof_107.2.2.2.2.2.2.2.2.2.2.2.2.2.2.1 rfl
theorem dX12_proof_132 : decode cX12_proof 132 = .ok (.iload 9, 2) := dAt wdX12_proof_107 adX12_proof_107.2.2.2.2.2.2.2.2.2.2.2.2.2.2.2 rfl
def bdX12_proof_134 : ByteArray := .mk #[21, 10, 96, 158, 0, 12, 21, 11, 154, 0, 7, 4, 167, 0, 4, 3, 96, 54, 5, 21, 6, 21, 9, 21, 10, 96, 154, 0, 12, 21, 11]
theorem wdX12_proof_134 : LocW cX12_proof 134 bdX12_proof_134 := loc_of (by decide +kernel)
theorem adX12_proof_134 : De bdX12_proof_134 0 (.iload 10) 2 ∧ De bdX12_proof_134 2 (.iadd) 1 ∧ De bdX12_proof_134 3 (.ifCond .le 12) 3 ∧ De bdX12_proof_134 6 (.iload 11) 2 ∧ De bdX12_proof_134 8 (.ifCond .ne 7) 3 ∧ De bdX12_proof_134 11 (.iconst 1) 1 ∧ De bdX12_proof_134 12 (.goto 4) 3 ∧ De bdX12_proof_134 15 (.iconst 0) 1 ∧ De bdX12_proof_134 16 (.iadd) 1 ∧ De bdX12_proof_134 17 (.istore 5) 2 ∧ De bdX12_proof_134 19 (.iload 6) 2 ∧ De bdX12_proof_134 21 (.iload 9) 2 ∧ De bdX12_proof_134 23 (.iload 10) 2 ∧ De bdX12_proof_134 25 (.iadd) 1 ∧ De bdX12_proof_134 26 (.ifCond .ne 12) 3 ∧ De bdX12_proof_134 29 (.iload 11) 2 := by decide +kernel
theorem dX12_proof_134 : decode cX12_proof 134 = .ok (.iload 10, 2) := dAt wdX12_proof_134 adX12_proof_134.1 rfl
theorem dX12_proof_136 : decode cX12_proof 136 = .ok (.iadd, 1) := dAt wdX12_proof_134 adX12_proof_134.2.1 rfl
theorem dX12_proof_137 : decode cX12_proof 137 = .ok (.ifCond .le 12, 3) := dAt wdX12_proof_134 adX12_proof_134.2.2.1 rfl
theorem dX12_proof_140 : decode cX12_proof 140 = .ok (.iload 11, 2) := dAt wdX12_proof_134 adX12_proof_134.2.2.2.1 rfl
theorem dX12_proof_142 : decode cX12_proof 142 = .ok (.ifCond .ne 7, 3) := dAt wdX12_proof_134 adX12_proof_134.2.2.2.2.1 rfl
theorem dX12_proof_145 : decode cX12_proof 145 = .ok (.iconst 1, 1) := dAt wdX12_proof_134 adX12_proof_134.2.2.2.2.2.1 rfl
theorem dX12_proof_146 : decode cX12_proof 146 = .ok (.goto 4, 3) := dAt wdX12_proof_134 adX12_proof_134.2.2.2.2.2.2.1 rfl
theorem dX12_proof_149 : decode cX12_proof 149 = .ok (.iconst 0, 1) := dAt wdX12_proof_134 adX12_proof_134.2.2.2.2.2.2.2.1 rfl
theorem dX12_proof_150 : decode cX12_proof 150 = .ok (.iadd, 1) := dAt wdX12_proof_134 adX12_proof_134.2.2.2.2.2.2.2.2.1 rfl
theorem dX12_proof_151 : decode cX12_proof 151 = .ok (.istore 5, 2) := dAt wdX12_proof_134 adX12_proof_134.2.2.2.2.2.2.2.2.2.1 rfl
theorem dX12_proof_153 : decode cX12_proof 153 = .ok (.iload 6, 2) := dAt wdX12_proof_134 adX12_proof_134.2.2.2.2.2.2.2.2.2.2.1 rfl
theorem dX12_proof_155 : decode cX12_proof 155 = .ok (.iload 9, 2) := dAt wdX12_proof_134 adX12_proof_134.2.2.2.2.2.2.2.2.2.2.2.1 rfl
theorem dX12_proof_157 : decode cX12_proof 157 = .ok (.iload 10, 2) := dAt wdX12_proof_134 adX12_proof_134.2.2.2.2.2.2.2.2.2.2.2.2.1 rfl
theorem dX12_proof_159 : decode cX12_proof 159 = .ok (.iadd, 1) := dAt wdX12_proof_134 adX12_proof_134.2.2.2.2.2.2.2.2.2.2.2.2.2.1 rfl
theorem dX12_proof_160 : decode cX12_proof 160 = .ok (.ifCond .ne 12, 3) := dAt wdX12_proof_134 adX12_proof_134.2.2.2.2.2.2.2.2.2.2.2.2.2.2.1 rfl
theorem dX12_proof_163 : decode cX12_proof 163 = .ok (.iload 11, 2) := dAt wdX12_proof_134 adX12_proof_134.2.2.2.2.2.2.2.2.2.2.2.2.2.2.2 rfl
def bdX12_proof_165 : ByteArray := .mk #[153, 0, 7, 4, 167, 0, 4, 3, 96, 54, 6, 132, 7, 1, 167, 255, 120, 27, 6, 160, 0, 25, 21, 4, 154, 0, 7, 2, 167, 0, 15, 28]
theorem wdX12_proof_165 : LocW cX12_proof 165 bdX12_proof_165 := loc_of (by decide +kernel)
theorem adX12_proof_165 : De bdX12_proof_165 0 (.ifCond .eq 7) 3 ∧ De bdX12_proof_165 3 (.iconst 1) 1 ∧ De bdX12_proof_165 4 (.goto 4) 3 ∧ De bdX12_proof_165 7 (.iconst 0) 1 ∧ De bdX12_proof_165 8 (.iadd) 1 ∧ De bdX12_proof_165 9 (.istore 6) 2 ∧ De bdX12_proof_165 11 (.iinc 7 1) 3 ∧ De bdX12_proof_165 14 (.goto (-136)) 3 ∧ De bdX12_proof_165 17 (.iload_n 1) 1 ∧ De bdX12_proof_165 18 (.iconst 3) 1 ∧ De bdX12_proof_165 19 (.if_icmp .ne 25) 3 ∧ De bdX12_proof_165 22 (.iload 4) 2 ∧ De bdX12_proof_165 24 (.ifCond .ne 7) 3 ∧ De bdX12_proof_165 27 (.iconst (-1)) 1 ∧ De bdX12_proof_165 28 (.goto 15) 3 ∧ De bdX12_proof_165 31 (.iload_n 2) 1 := by decide +kernel
theorem dX12_proof_165 : decode cX12_proof 165 = .ok (.ifCond .eq 7, 3) := dAt wdX12_proof_165 adX12_proof_165.1 rfl
theorem dX12_proof_168 : decode cX12_proof 168 = .ok (.iconst 1, 1) := dAt wdX12_proof_165 adX12_proof_165.2.1 rfl
theorem dX12_proof_169 : decode cX12_proof 169 = .ok (.goto 4, 3) := dAt wdX12_proof_165 adX12_proof_165.2.2.1 rfl
theorem dX12_proof_172 : decode cX12_proof 172 = .ok (.iconst 0, 1) := dAt wdX12_proof_165 adX12_proof_165.2.2.2.1 rfl
theorem dX12_proof_173 : decode cX12_proof 173 = .ok (.iadd, 1) := dAt wdX12_proof_165 adX12_proof_165.2.2.2.2.1 rfl
theorem dX12_proof_174 : decode cX12_proof 174 = .ok (.istore 6, 2) := dAt wdX12_proof_165 adX12_proof_165.2.2.2.2.2.1 rfl
theorem dX12_proof_176 : decode cX12_proof 176 = .ok (.iinc 7 1, 3) := dAt wdX12_proof_165 adX12_proof_165.2.2.2.2.2.2.1 rfl
theorem dX12_proof_179 : decode cX12_proof 179 = .ok (.goto (-136), 3) := dAt wdX12_proof_165 adX12_proof_165.2.2.2.2.2.2.2.1 rfl
theorem dX12_proof_182 : decode cX12_proof 182 = .ok (.iload_n 1, 1) := dAt wdX12_proof_165 adX12_proof_165.2.2.2.2.2.2.2.2.1 rfl
theorem dX12_proof_183 : decode cX12_proof 183 = .ok (.iconst 3, 1) := dAt wdX12_proof_165 adX12_proof_165.2.2.2.2.2.2.2.2.2.1 rfl
theorem dX12_proof_184 : decode cX12_proof 184 = .ok (.if_icmp .ne 25, 3) := dAt wdX12_proof_165 adX12_proof_165.2.2.2.2.2.2.2.2.2.2.1 rfl
theorem dX12_proof_187 : decode cX12_proof 187 = .ok (.iload 4, 2) := dAt wdX12_proof_165 adX12_proof_165.2.2.2.2.2.2.2.2.2.2.2.1 rfl
theorem dX12_proof_189 : decode cX12_proof 189 = .ok (.ifCond .ne 7, 3) := dAt wdX12_proof_165 adX12_proof_165.2.2.2.2.2.2.2.2.2.2.2.2.1 rfl
theorem dX12_proof_192 : decode cX12_proof 192 = .ok (.iconst (-1), 1) := dAt wdX12_proof_165 adX12_proof_165.2.2.2.2.2.2.2.2.2.2.2.2.2.1 rfl
theorem dX12_proof_193 : decode cX12_proof 193 = .ok (.goto 15, 3) := dAt wdX12_proof_165 adX12_proof_165.2.2.2.2.2.2.2.2.2.2.2.2.2.2.1 rfl
theorem dX12_proof_196 : decode cX12_proof 196 = .ok (.iload_n 2, 1) := dAt wdX12_proof_165 adX12_proof_165.2.2.2.2.2.2.2.2.2.2.2.2.2.2.2 rfl
def bdX12_proof_197 : ByteArray := .mk #[21, 4, 100, 29, 21, 4, 100, 104, 21, 4, 108, 172, 27, 154, 0, 7, 28, 167, 0, 34, 27, 4, 160, 0, 7]
theorem wdX12_proof_197 : LocW cX12_proof 197 bdX12_proof_197 := loc_of (by decide +kernel)
theorem adX12_proof_197 : De bdX12_proof_197 0 (.iload 4) 2 ∧ De bdX12_proof_197 2 (.isub) 1 ∧ De bdX12_proof_197 3 (.iload_n 3) 1 ∧ De bdX12_proof_197 4 (.iload 4) 2 ∧ De bdX12_proof_197 6 (.isub) 1 ∧ De bdX12_proof_197 7 (.imul) 1 ∧ De bdX12_proof_197 8 (.iload 4) 2 ∧ De bdX12_proof_197 10 (.idiv) 1 ∧ De bdX12_proof_197 11 (.ireturn) 1 ∧ De bdX12_proof_197 12 (.iload_n 1) 1 ∧ De bdX12_proof_197 13 (.ifCond .ne 7) 3 ∧ De bdX12_proof_197 16 (.iload_n 2) 1 ∧ De bdX12_proof_197 17 (.goto 34) 3 ∧ De bdX12_proof_197 20 (.iload_n 1) 1 ∧ De bdX12_proof_197 21 (.iconst 1) 1 ∧ De bdX12_proof_197 22 (.if_icmp .ne 7) 3 := by decide +kernel
theorem dX12_proof_197 : decode cX12_proof 197 = .ok (.iload 4, 2) := dAt wdX12_proof_197 adX12_proof_197.1 rfl
theorem dX12_proof_199 : decode cX12_proof 199 = .ok (.isub, 1) := dAt wdX12_proof_197 adX12_proof_197.2.1 rfl
theorem dX12_proof_200 : decode cX12_proof 200 = .ok (.iload_n 3, 1) := dAt wdX12_proof_197 adX12_proof_197.2.2.1 rfl
theorem dX12_proof_201 : decode cX12_proof 201 = .ok (.iload 4, 2) := dAt wdX12_proof_197 adX12_proof_197.2.2.2.1 rfl
theorem dX12_proof_203 : decode cX12_proof 203 = .ok (.isub, 1) := dAt wdX12_proof_197 adX12_proof_197.2.2.2.2.1 rfl
theorem dX12_proof_204 : decode cX12_proof 204 = .ok (.imul, 1) := dAt wdX12_proof_197 adX12_proof_197.2.2.2.2.2.1 rfl
theorem dX12_proof_205 : decode cX12_proof 205 = .ok (.iload 4, 2) := dAt wdX12_proof_197 adX12_proof_197.2.2.2.2.2.2.1 rfl
theorem dX12_proof_207 : decode cX12_proof 207 = .ok (.idiv, 1) := dAt wdX12_proof_197 adX12_proof_197.2.2.2.2.2.2.2.1 rfl
theorem dX12_proof_208 : decode cX12_proof 208 = .ok (.ireturn, 1) := dAt wdX12_proof_197 adX12_proof_197.2.2.2.2.2.2.2.2.1 rfl
theorem dX12_proof_209 : decode cX12_proof 209 = .ok (.iload_n 1, 1) := dAt wdX12_proof_197 adX12_proof_197.2.2.2.2.2.2.2.2.2.1 rfl
theorem dX12_proof_210 : decode cX12_proof 210 = .ok (.ifCond .ne 7, 3) := dAt wdX12_proof_197 adX12_proof_197.2.2.2.2.2.2.2.2.2.2.1 rfl
theorem dX12_proof_213 : decode cX12_proof 213 = .ok (.iload_n 2, 1) := dAt wdX12_proof_197 adX12_proof_197.2.2.2.2.2.2.2.2.2.2.2.1 rfl
theorem dX12_proof_214 : decode cX12_proof 214 = .ok (.goto 34, 3) := dAt wdX12_proof_197 adX12_proof_197.2.2.2.2.2.2.2.2.2.2.2.2.1 rfl
theorem dX12_proof_217 : decode cX12_proof 217 = .ok (.iload_n 1, 1) := dAt wdX12_proof_197 adX12_proof_197.2.2.2.2.2.2.2.2.2.2.2.2.2.1 rfl
theorem dX12_proof_218 : decode cX12_proof 218 = .ok (.iconst 1, 1) := dAt wdX12_proof_197 adX12_proof_197.2.2.2.2.2.2.2.2.2.2.2.2.2.2.1 rfl
theorem dX12_proof_219 : decode cX12_proof 219 = .ok (.if_icmp .ne 7, 3) := dAt wdX12_proof_197 adX12_proof_197.2.2.2.2.2.2.2.2.2.2.2.2.2.2.2 rfl
def bdX12_proof_222 : ByteArray := .mk #[29, 167, 0, 25, 27, 5, 160, 0, 8, 21, 4, 167, 0, 15, 27, 7, 160, 0, 8, 21, 5, 167, 0, 5, 21, 6, 172]
theorem wdX12_proof_222 : LocW cX12_proof 222 bdX12_proof_222 := loc_of (by decide +kernel)
theorem adX12_proof_222 : De bdX12_proof_222 0 (.iload_n 3) 1 ∧ De bdX12_proof_222 1 (.goto 25) 3 ∧ De bdX12_proof_222 4 (.iload_n 1) 1 ∧ De bdX12_proof_222 5 (.iconst 2) 1 ∧ De bdX12_proof_222 6 (.if_icmp .ne 8) 3 ∧ De bdX12_proof_222 9 (.iload 4) 2 ∧ De bdX12_proof_222 11 (.goto 15) 3 ∧ De bdX12_proof_222 14 (.iload_n 1) 1 ∧ De bdX12_proof_222 15 (.iconst 4) 1 ∧ De bdX12_proof_222 16 (.if_icmp .ne 8) 3 ∧ De bdX12_proof_222 19 (.iload 5) 2 ∧ De bdX12_proof_222 21 (.goto 5) 3 ∧ De bdX12_proof_222 24 (.iload 6) 2 ∧ De bdX12_proof_222 26 (.ireturn) 1 := by decide +kernel
theorem dX12_proof_222 : decode cX12_proof 222 = .ok (.iload_n 3, 1) := dAt wdX12_proof_222 adX12_proof_222.1 rfl
theorem dX12_proof_223 : decode cX12_proof 223 = .ok (.goto 25, 3) := dAt wdX12_proof_222 adX12_proof_222.2.1 rfl
theorem dX12_proof_226 : decode cX12_proof 226 = .ok (.iload_n 1, 1) := dAt wdX12_proof_222 adX12_proof_222.2.2.1 rfl
theorem dX12_proof_227 : decode cX12_proof 227 = .ok (.iconst 2, 1) := dAt wdX12_proof_222 adX12_proof_222.2.2.2.1 rfl
theorem dX12_proof_228 : decode cX12_proof 228 = .ok (.if_icmp .ne 8, 3) := dAt wdX12_proof_222 adX12_proof_222.2.2.2.2.1 rfl
theorem dX12_proof_231 : decode cX12_proof 231 = .ok (.iload 4, 2) := dAt wdX12_proof_222 adX12_proof_222.2.2.2.2.2.1 rfl
theorem dX12_proof_233 : decode cX12_proof 233 = .ok (.goto 15, 3) := dAt wdX12_proof_222 adX12_proof_222.2.2.2.2.2.2.1 rfl
theorem dX12_proof_236 : decode cX12_proof 236 = .ok (.iload_n 1, 1) := dAt wdX12_proof_222 adX12_proof_222.2.2.2.2.2.2.2.1 rfl
theorem dX12_proof_237 : decode cX12_proof 237 = .ok (.iconst 4, 1) := dAt wdX12_proof_222 adX12_proof_222.2.2.2.2.2.2.2.2.1 rfl
theorem dX12_proof_238 : decode cX12_proof 238 = .ok (.if_icmp .ne 8, 3) := dAt wdX12_proof_222 adX12_proof_222.2.2.2.2.2.2.2.2.2.1 rfl
theorem dX12_proof_241 : decode cX12_proof 241 = .ok (.iload 5, 2) := dAt wdX12_proof_222 adX12_proof_222.2.2.2.2.2.2.2.2.2.2.1 rfl
theorem dX12_proof_243 : decode cX12_proof 243 = .ok (.goto 5, 3) := dAt wdX12_proof_222 adX12_proof_222.2.2.2.2.2.2.2.2.2.2.2.1 rfl
theorem dX12_proof_246 : decode cX12_proof 246 = .ok (.iload 6, 2) := dAt wdX12_proof_222 adX12_proof_222.2.2.2.2.2.2.2.2.2.2.2.2.1 rfl
theorem dX12_proof_248 : decode cX12_proof 248 = .ok (.ireturn, 1) := dAt wdX12_proof_222 adX12_proof_222.2.2.2.2.2.2.2.2.2.2.2.2.2 rfl
def bdX12_carry_0 : ByteArray := .mk #[42, 42, 27, 182, 1, 140, 154, 0, 7, 4, 167, 0, 42, 28, 3, 16, 9, 184, 0, 157, 153, 0, 27, 29, 42, 180, 0, 8, 27]
theorem wdX12_carry_0 : LocW cX12_carry 0 bdX12_carry_0 := loc_of (by decide +kernel)
theorem adX12_carry_0 : De bdX12_carry_0 0 (.aload_n 0) 1 ∧ De bdX12_carry_0 1 (.aload_n 0) 1 ∧ De bdX12_carry_0 2 (.iload_n 1) 1 ∧ De bdX12_carry_0 3 (.invokevirtual 396) 3 ∧ De bdX12_carry_0 6 (.ifCond .ne 7) 3 ∧ De bdX12_carry_0 9 (.iconst 1) 1 ∧ De bdX12_carry_0 10 (.goto 42) 3 ∧ De bdX12_carry_0 13 (.iload_n 2) 1 ∧ De bdX12_carry_0 14 (.iconst 0) 1 ∧ De bdX12_carry_0 15 (.bipush 9) 2 ∧ De bdX12_carry_0 17 (.invokestatic 157) 3 ∧ De bdX12_carry_0 20 (.ifCond .eq 27) 3 ∧ De bdX12_carry_0 23 (.iload_n 3) 1 ∧ De bdX12_carry_0 24 (.aload_n 0) 1 ∧ De bdX12_carry_0 25 (.getfield 8) 3 ∧ De bdX12_carry_0 28 (.iload_n 1) 1 := by decide +kernel
theorem dX12_carry_0 : decode cX12_carry 0 = .ok (.aload_n 0, 1) := dAt wdX12_carry_0 adX12_carry_0.1 rfl
theorem dX12_carry_1 : decode cX12_carry 1 = .ok (.aload_n 0, 1) := dAt wdX12_carry_0 adX12_carry_0.2.1 rfl
theorem dX12_carry_2 : decode cX12_carry 2 = .ok (.iload_n 1, 1) := dAt wdX12_carry_0 adX12_carry_0.2.2.1 rfl
theorem dX12_carry_3 : decode cX12_carry 3 = .ok (.invokevirtual 396, 3) := dAt wdX12_carry_0 adX12_carry_0.2.2.2.1 rfl
theorem dX12_carry_6 : decode cX12_carry 6 = .ok (.ifCond .ne 7, 3) := dAt wdX12_carry_0 adX12_carry_0.2.2.2.2.1 rfl
theorem dX12_carry_9 : decode cX12_carry 9 = .ok (.iconst 1, 1) := dAt wdX12_carry_0 adX12_carry_0.2.2.2.2.2.1 rfl
theorem dX12_carry_10 : decode cX12_carry 10 = .ok (.goto 42, 3) := dAt wdX12_carry_0 adX12_carry_0.2.2.2.2.2.2.1 rfl
theorem dX12_carry_13 : decode cX12_carry 13 = .ok (.iload_n 2, 1) := dAt wdX12_carry_0 adX12_carry_0.2.2.2.2.2.2.2.1 rfl
theorem dX12_carry_14 : decode cX12_carry 14 = .ok (.iconst 0, 1) := dAt wdX12_carry_0 adX12_carry_0.2.2.2.2.2.2.2.2.1 rfl
theorem dX12_carry_15 : decode cX12_carry 15 = .ok (.bipush 9, 2) := dAt wdX12_carry_0 adX12_carry_0.2.2.2.2.2.2.2.2.2.1 rfl
theorem dX12_carry_17 : decode cX12_carry 17 = .ok (.invokestatic 157, 3) := dAt wdX12_carry_0 adX12_carry_0.2.2.2.2.2.2.2.2.2.2.1 rfl
theorem dX12_carry_20 : decode cX12_carry 20 = .ok (.ifCond .eq 27, 3) := dAt wdX12_carry_0 adX12_carry_0.2.2.2.2.2.2.2.2.2.2.2.1 rfl
theorem dX12_carry_23 : decode cX12_carry 23 = .ok (.iload_n 3, 1) := dAt wdX12_carry_0 adX12_carry_0.2.2.2.2.2.2.2.2.2.2.2.2.1 rfl
theorem dX12_carry_24 : decode cX12_carry 24 = .ok (.aload_n 0, 1) := dAt wdX12_carry_0 adX12_carry_0.2.2.2.2.2.2.2.2.2.2.2.2.2.1 rfl
theorem dX12_carry_25 : decode cX12_carry 25 = .ok (.getfield 8, 3) := dAt wdX12_carry_0 adX12_carry_0.2.2.2.2.2.2.2.2.2.2.2.2.2.2.1 rfl
theorem dX12_carry_28 : decode cX12_carry 28 = .ok (.iload_n 1, 1) := dAt wdX12_carry_0 adX12_carry_0.2.2.2.2.2.2.2.2.2.2.2.2.2.2.2 rfl
def bdX12_carry_29 : ByteArray := .mk #[184, 1, 86, 5, 96, 46, 42, 180, 0, 8, 3, 46, 184, 0, 157, 154, 0, 7, 5, 167, 0, 4, 3, 181, 0, 122, 42, 180, 0, 122]
theorem wdX12_carry_29 : LocW cX12_carry 29 bdX12_carry_29 := loc_of (by decide +kernel)
theorem adX12_carry_29 : De bdX12_carry_29 0 (.invokestatic 342) 3 ∧ De bdX12_carry_29 3 (.iconst 2) 1 ∧ De bdX12_carry_29 4 (.iadd) 1 ∧ De bdX12_carry_29 5 (.iaload) 1 ∧ De bdX12_carry_29 6 (.aload_n 0) 1 ∧ De bdX12_carry_29 7 (.getfield 8) 3 ∧ De bdX12_carry_29 10 (.iconst 0) 1 ∧ De bdX12_carry_29 11 (.iaload) 1 ∧ De bdX12_carry_29 12 (.invokestatic 157) 3 ∧ De bdX12_carry_29 15 (.ifCond .ne 7) 3 ∧ De bdX12_carry_29 18 (.iconst 2) 1 ∧ De bdX12_carry_29 19 (.goto 4) 3 ∧ De bdX12_carry_29 22 (.iconst 0) 1 ∧ De bdX12_carry_29 23 (.putfield 122) 3 ∧ De bdX12_carry_29 26 (.aload_n 0) 1 ∧ De bdX12_carry_29 27 (.getfield 122) 3 := by decide +kernel
theorem dX12_carry_29 : decode cX12_carry 29 = .ok (.invokestatic 342, 3) := dAt wdX12_carry_29 adX12_carry_29.1 rfl
theorem dX12_carry_32 : decode cX12_carry 32 = .ok (.iconst 2, 1) := dAt wdX12_carry_29 adX12_carry_29.2.1 rfl
theorem dX12_carry_33 : decode cX12_carry 33 = .ok (.iadd, 1) := dAt wdX12_carry_29 adX12_carry_29.2.2.1 rfl
theorem dX12_carry_34 : decode cX12_carry 34 = .ok (.iaload, 1) := dAt wdX12_carry_29 adX12_carry_29.2.2.2.1 rfl
theorem dX12_carry_35 : decode cX12_carry 35 = .ok (.aload_n 0, 1) := dAt wdX12_carry_29 adX12_carry_29.2.2.2.2.1 rfl
theorem dX12_carry_36 : decode cX12_carry 36 = .ok (.getfield 8, 3) := dAt wdX12_carry_29 adX12_carry_29.2.2.2.2.2.1 rfl
theorem dX12_carry_39 : decode cX12_carry 39 = .ok (.iconst 0, 1) := dAt wdX12_carry_29 adX12_carry_29.2.2.2.2.2.2.1 rfl
theorem dX12_carry_40 : decode cX12_carry 40 = .ok (.iaload, 1) := dAt wdX12_carry_29 adX12_carry_29.2.2.2.2.2.2.2.1 rfl
theorem dX12_carry_41 : decode cX12_carry 41 = .ok (.invokestatic 157, 3) := dAt wdX12_carry_29 adX12_carry_29.2.2.2.2.2.2.2.2.1 rfl
theorem dX12_carry_44 : decode cX12_carry 44 = .ok (.ifCond .ne 7, 3) := dAt wdX12_carry_29 adX12_carry_29.2.2.2.2.2.2.2.2.2.1 rfl
theorem dX12_carry_47 : decode cX12_carry 47 = .ok (.iconst 2, 1) := dAt wdX12_carry_29 adX12_carry_29.2.2.2.2.2.2.2.2.2.2.1 rfl
theorem dX12_carry_48 : decode cX12_carry 48 = .ok (.goto 4, 3) := dAt wdX12_carry_29 adX12_carry_29.2.2.2.2.2.2.2.2.2.2.2.1 rfl
theorem dX12_carry_51 : decode cX12_carry 51 = .ok (.iconst 0, 1) := dAt wdX12_carry_29 adX12_carry_29.2.2.2.2.2.2.2.2.2.2.2.2.1 rfl
theorem dX12_carry_52 : decode cX12_carry 52 = .ok (.putfield 122, 3) := dAt wdX12_carry_29 adX12_carry_29.2.2.2.2.2.2.2.2.2.2.2.2.2.1 rfl
theorem dX12_carry_55 : decode cX12_carry 55 = .ok (.aload_n 0, 1) := dAt wdX12_carry_29 adX12_carry_29.2.2.2.2.2.2.2.2.2.2.2.2.2.2.1 rfl
theorem dX12_carry_56 : decode cX12_carry 56 = .ok (.getfield 122, 3) := dAt wdX12_carry_29 adX12_carry_29.2.2.2.2.2.2.2.2.2.2.2.2.2.2.2 rfl
def bdX12_carry_59 : ByteArray := .mk #[158, 0, 5, 3, 172, 42, 180, 0, 8, 8, 46, 17, 0, 200, 160, 0, 5, 2, 172, 19, 1, 161, 7, 42, 180, 0, 8, 8]
theorem wdX12_carry_59 : LocW cX12_carry 59 bdX12_carry_59 := loc_of (by decide +kernel)
theorem adX12_carry_59 : De bdX12_carry_59 0 (.ifCond .le 5) 3 ∧ De bdX12_carry_59 3 (.iconst 0) 1 ∧ De bdX12_carry_59 4 (.ireturn) 1 ∧ De bdX12_carry_59 5 (.aload_n 0) 1 ∧ De bdX12_carry_59 6 (.getfield 8) 3 ∧ De bdX12_carry_59 9 (.iconst 5) 1 ∧ De bdX12_carry_59 10 (.iaload) 1 ∧ De bdX12_carry_59 11 (.sipush 200) 3 ∧ De bdX12_carry_59 14 (.if_icmp .ne 5) 3 ∧ De bdX12_carry_59 17 (.iconst (-1)) 1 ∧ De bdX12_carry_59 18 (.ireturn) 1 ∧ De bdX12_carry_59 19 (.ldc_w 417) 3 ∧ De bdX12_carry_59 22 (.iconst 4) 1 ∧ De bdX12_carry_59 23 (.aload_n 0) 1 ∧ De bdX12_carry_59 24 (.getfield 8) 3 ∧ De bdX12_carry_59 27 (.iconst 5) 1 := by decide +kernel
theorem dX12_carry_59 : decode cX12_carry 59 = .ok (.ifCond .le 5, 3) := dAt wdX12_carry_59 adX12_carry_59.1 rfl
theorem dX12_carry_62 : decode cX12_carry 62 = .ok (.iconst 0, 1) := dAt wdX12_carry_59 adX12_carry_59.2.1 rfl
theorem dX12_carry_63 : decode cX12_carry 63 = .ok (.ireturn, 1) := dAt wdX12_carry_59 adX12_carry_59.2.2.1 rfl
theorem dX12_carry_64 : decode cX12_carry 64 = .ok (.aload_n 0, 1) := dAt wdX12_carry_59 adX12_carry_59.2.2.2.1 rfl
theorem dX12_carry_65 : decode cX12_carry 65 = .ok (.getfield 8, 3) := dAt wdX12_carry_59 adX12_carry_59.2.2.2.2.1 rfl
theorem dX12_carry_68 : decode cX12_carry 68 = .ok (.iconst 5, 1) := dAt wdX12_carry_59 adX12_carry_59.2.2.2.2.2.1 rfl
theorem dX12_carry_69 : decode cX12_carry 69 = .ok (.iaload, 1) := dAt wdX12_carry_59 adX12_carry_59.2.2.2.2.2.2.1 rfl
theorem dX12_carry_70 : decode cX12_carry 70 = .ok (.sipush 200, 3) := dAt wdX12_carry_59 adX12_carry_59.2.2.2.2.2.2.2.1 rfl
theorem dX12_carry_73 : decode cX12_carry 73 = .ok (.if_icmp .ne 5, 3) := dAt wdX12_carry_59 adX12_carry_59.2.2.2.2.2.2.2.2.1 rfl
theorem dX12_carry_76 : decode cX12_carry 76 = .ok (.iconst (-1), 1) := dAt wdX12_carry_59 adX12_carry_59.2.2.2.2.2.2.2.2.2.1 rfl
theorem dX12_carry_77 : decode cX12_carry 77 = .ok (.ireturn, 1) := dAt wdX12_carry_59 adX12_carry_59.2.2.2.2.2.2.2.2.2.2.1 rfl
theorem dX12_carry_78 : decode cX12_carry 78 = .ok (.ldc_w 417, 3) := dAt wdX12_carry_59 adX12_carry_59.2.2.2.2.2.2.2.2.2.2.2.1 rfl
theorem dX12_carry_81 : decode cX12_carry 81 = .ok (.iconst 4, 1) := dAt wdX12_carry_59 adX12_carry_59.2.2.2.2.2.2.2.2.2.2.2.2.1 rfl
theorem dX12_carry_82 : decode cX12_carry 82 = .ok (.aload_n 0, 1) := dAt wdX12_carry_59 adX12_carry_59.2.2.2.2.2.2.2.2.2.2.2.2.2.1 rfl
theorem dX12_carry_83 : decode cX12_carry 83 = .ok (.getfield 8, 3) := dAt wdX12_carry_59 adX12_carry_59.2.2.2.2.2.2.2.2.2.2.2.2.2.2.1 rfl
theorem dX12_carry_86 : decode cX12_carry 86 = .ok (.iconst 5, 1) := dAt wdX12_carry_59 adX12_carry_59.2.2.2.2.2.2.2.2.2.2.2.2.2.2.2 rfl
def bdX12_carry_87 : ByteArray := .mk #[46, 104, 96, 54, 4, 42, 180, 0, 8, 21, 4, 27, 79, 42, 180, 0, 8, 21, 4, 4, 96, 28, 79]
theorem wdX12_carry_87 : LocW cX12_carry 87 bdX12_carry_87 := loc_of (by decide +kernel)
theorem adX12_carry_87 : De bdX12_carry_87 0 (.iaload) 1 ∧ De bdX12_carry_87 1 (.imul) 1 ∧ De bdX12_carry_87 2 (.iadd) 1 ∧ De bdX12_carry_87 3 (.istore 4) 2 ∧ De bdX12_carry_87 5 (.aload_n 0) 1 ∧ De bdX12_carry_87 6 (.getfield 8) 3 ∧ De bdX12_carry_87 9 (.iload 4) 2 ∧ De bdX12_carry_87 11 (.iload_n 1) 1 ∧ De bdX12_carry_87 12 (.iastore) 1 ∧ De bdX12_carry_87 13 (.aload_n 0) 1 ∧ De bdX12_carry_87 14 (.getfield 8) 3 ∧ De bdX12_carry_87 17 (.iload 4) 2 ∧ De bdX12_carry_87 19 (.iconst 1) 1 ∧ De bdX12_carry_87 20 (.iadd) 1 ∧ De bdX12_carry_87 21 (.iload_n 2) 1 ∧ De bdX12_carry_87 22 (.iastore) 1 := by decide +kernel
theorem dX12_carry_87 : decode cX12_carry 87 = .ok (.iaload, 1) := dAt wdX12_carry_87 adX12_carry_87.1 rfl
theorem dX12_carry_88 : decode cX12_carry 88 = .ok (.imul, 1) := dAt wdX12_carry_87 adX12_carry_87.2.1 rfl
theorem dX12_carry_89 : decode cX12_carry 89 = .ok (.iadd, 1) := dAt wdX12_carry_87 adX12_carry_87.2.2.1 rfl
theorem dX12_carry_90 : decode cX12_carry 90 = .ok (.istore 4, 2) := dAt wdX12_carry_87 adX12_carry_87.2.2.2.1 rfl
theorem dX12_carry_92 : decode cX12_carry 92 = .ok (.aload_n 0, 1) := dAt wdX12_carry_87 adX12_carry_87.2.2.2.2.1 rfl
theorem dX12_carry_93 : decode cX12_carry 93 = .ok (.getfield 8, 3) := dAt wdX12_carry_87 adX12_carry_87.2.2.2.2.2.1 rfl
theorem dX12_carry_96 : decode cX12_carry 96 = .ok (.iload 4, 2) := dAt wdX12_carry_87 adX12_carry_87.2.2.2.2.2.2.1 rfl
theorem dX12_carry_98 : decode cX12_carry 98 = .ok (.iload_n 1, 1) := dAt wdX12_carry_87 adX12_carry_87.2.2.2.2.2.2.2.1 rfl
theorem dX12_carry_99 : decode cX12_carry 99 = .ok (.iastore, 1) := dAt wdX12_carry_87 adX12_carry_87.2.2.2.2.2.2.2.2.1 rfl
theorem dX12_carry_100 : decode cX12_carry 100 = .ok (.aload_n 0, 1) := dAt wdX12_carry_87 adX12_carry_87.2.2.2.2.2.2.2.2.2.1 rfl
theorem dX12_carry_101 : decode cX12_carry 101 = .ok (.getfield 8, 3) := dAt wdX12_carry_87 adX12_carry_87.2.2.2.2.2.2.2.2.2.2.1 rfl
theorem dX12_carry_104 : decode cX12_carry 104 = .ok (.iload 4, 2) := dAt wdX12_carry_87 adX12_carry_87.2.2.2.2.2.2.2.2.2.2.2.1 rfl
theorem dX12_carry_106 : decode cX12_carry 106 = .ok (.iconst 1, 1) := dAt wdX12_carry_87 adX12_carry_87.2.2.2.2.2.2.2.2.2.2.2.2.1 rfl
theorem dX12_carry_107 : decode cX12_carry 107 = .ok (.iadd, 1) := dAt wdX12_carry_87 adX12_carry_87.2.2.2.2.2.2.2.2.2.2.2.2.2.1 rfl
theorem dX12_carry_108 : decode cX12_carry 108 = .ok (.iload_n 2, 1) := dAt wdX12_carry_87 adX12_carry_87.2.2.2.2.2.2.2.2.2.2.2.2.2.2.1 rfl
theorem dX12_carry_109 : decode cX12_carry 109 = .ok (.iastore, 1) := dAt wdX12_carry_87 adX12_carry_87.2.2.2.2.2.2.2.2.2.2.2.2.2.2.2 rfl
def bdX12_carry_110 : ByteArray := .mk #[42, 180, 0, 8, 21, 4, 5, 96, 29, 79, 42, 180, 0, 8, 21, 4, 6, 96, 42, 180, 0, 8, 3, 46]
theorem wdX12_carry_110 : LocW cX12_carry 110 bdX12_carry_110 := loc_of (by decide +kernel)
theorem adX12_carry_110 : De bdX12_carry_110 0 (.aload_n 0) 1 ∧ De bdX12_carry_110 1 (.getfield 8) 3 ∧ De bdX12_carry_110 4 (.iload 4) 2 ∧ De bdX12_carry_110 6 (.iconst 2) 1 ∧ De bdX12_carry_110 7 (.iadd) 1 ∧ De bdX12_carry_110 8 (.iload_n 3) 1 ∧ De bdX12_carry_110 9 (.iastore) 1 ∧ De bdX12_carry_110 10 (.aload_n 0) 1 ∧ De bdX12_carry_110 11 (.getfield 8) 3 ∧ De bdX12_carry_110 14 (.iload 4) 2 ∧ De bdX12_carry_110 16 (.iconst 3) 1 ∧ De bdX12_carry_110 17 (.iadd) 1 ∧ De bdX12_carry_110 18 (.aload_n 0) 1 ∧ De bdX12_carry_110 19 (.getfield 8) 3 ∧ De bdX12_carry_110 22 (.iconst 0) 1 ∧ De bdX12_carry_110 23 (.iaload) 1 := by decide +kernel
theorem dX12_carry_110 : decode cX12_carry 110 = .ok (.aload_n 0, 1) := dAt wdX12_carry_110 adX12_carry_110.1 rfl
theorem dX12_carry_111 : decode cX12_carry 111 = .ok (.getfield 8, 3) := dAt wdX12_carry_110 adX12_carry_110.2.1 rfl
theorem dX12_carry_114 : decode cX12_carry 114 = .ok (.iload 4, 2) := dAt wdX12_carry_110 adX12_carry_110.2.2.1 rfl
theorem dX12_carry_116 : decode cX12_carry 116 = .ok (.iconst 2, 1) := dAt wdX12_carry_110 adX12_carry_110.2.2.2.1 rfl
theorem dX12_carry_117 : decode cX12_carry 117 = .ok (.iadd, 1) := dAt wdX12_carry_110 adX12_carry_110.2.2.2.2.1 rfl
theorem dX12_carry_118 : decode cX12_carry 118 = .ok (.iload_n 3, 1) := dAt wdX12_carry_110 adX12_carry_110.2.2.2.2.2.1 rfl
theorem dX12_carry_119 : decode cX12_carry 119 = .ok (.iastore, 1) := dAt wdX12_carry_110 adX12_carry_110.2.2.2.2.2.2.1 rfl
theorem dX12_carry_120 : decode cX12_carry 120 = .ok (.aload_n 0, 1) := dAt wdX12_carry_110 adX12_carry_110.2.2.2.2.2.2.2.1 rfl
theorem dX12_carry_121 : decode cX12_carry 121 = .ok (.getfield 8, 3) := dAt wdX12_carry_110 adX12_carry_110.2.2.2.2.2.2.2.2.1 rfl
theorem dX12_carry_124 : decode cX12_carry 124 = .ok (.iload 4, 2) := dAt wdX12_carry_110 adX12_carry_110.2.2.2.2.2.2.2.2.2.1 rfl
theorem dX12_carry_126 : decode cX12_carry 126 = .ok (.iconst 3, 1) := dAt wdX12_carry_110 adX12_carry_110.2.2.2.2.2.2.2.2.2.2.1 rfl
theorem dX12_carry_127 : decode cX12_carry 127 = .ok (.iadd, 1) := dAt wdX12_carry_110 adX12_carry_110.2.2.2.2.2.2.2.2.2.2.2.1 rfl
theorem dX12_carry_128 : decode cX12_carry 128 = .ok (.aload_n 0, 1) := dAt wdX12_carry_110 adX12_carry_110.2.2.2.2.2.2.2.2.2.2.2.2.1 rfl
theorem dX12_carry_129 : decode cX12_carry 129 = .ok (.getfield 8, 3) := dAt wdX12_carry_110 adX12_carry_110.2.2.2.2.2.2.2.2.2.2.2.2.2.1 rfl
theorem dX12_carry_132 : decode cX12_carry 132 = .ok (.iconst 0, 1) := dAt wdX12_carry_110 adX12_carry_110.2.2.2.2.2.2.2.2.2.2.2.2.2.2.1 rfl
theorem dX12_carry_133 : decode cX12_carry 133 = .ok (.iaload, 1) := dAt wdX12_carry_110 adX12_carry_110.2.2.2.2.2.2.2.2.2.2.2.2.2.2.2 rfl
def bdX12_carry_134 : ByteArray := .mk #[79, 42, 180, 0, 8, 8, 92, 46, 4, 96, 79, 42, 180, 0, 8, 8, 46, 172]
theorem wdX12_carry_134 : LocW cX12_carry 134 bdX12_carry_134 := loc_of (by decide +kernel)
theorem adX12_carry_134 : De bdX12_carry_134 0 (.iastore) 1 ∧ De bdX12_carry_134 1 (.aload_n 0) 1 ∧ De bdX12_carry_134 2 (.getfield 8) 3 ∧ De bdX12_carry_134 5 (.iconst 5) 1 ∧ De bdX12_carry_134 6 (.dup2) 1 ∧ De bdX12_carry_134 7 (.iaload) 1 ∧ De bdX12_carry_134 8 (.iconst 1) 1 ∧ De bdX12_carry_134 9 (.iadd) 1 ∧ De bdX12_carry_134 10 (.iastore) 1 ∧ De bdX12_carry_134 11 (.aload_n 0) 1 ∧ De bdX12_carry_134 12 (.getfield 8) 3 ∧ De bdX12_carry_134 15 (.iconst 5) 1 ∧ De bdX12_carry_134 16 (.iaload) 1 ∧ De bdX12_carry_134 17 (.ireturn) 1 := by decide +kernel
theorem dX12_carry_134 : decode cX12_carry 134 = .ok (.iastore, 1) := dAt wdX12_carry_134 adX12_carry_134.1 rfl
theorem dX12_carry_135 : decode cX12_carry 135 = .ok (.aload_n 0, 1) := dAt wdX12_carry_134 adX12_carry_134.2.1 rfl
theorem dX12_carry_136 : decode cX12_carry 136 = .ok (.getfield 8, 3) := dAt wdX12_carry_134 adX12_carry_134.2.2.1 rfl
theorem dX12_carry_139 : decode cX12_carry 139 = .ok (.iconst 5, 1) := dAt wdX12_carry_134 adX12_carry_134.2.2.2.1 rfl
theorem dX12_carry_140 : decode cX12_carry 140 = .ok (.dup2, 1) := dAt wdX12_carry_134 adX12_carry_134.2.2.2.2.1 rfl
theorem dX12_carry_141 : decode cX12_carry 141 = .ok (.iaload, 1) := dAt wdX12_carry_134 adX12_carry_134.2.2.2.2.2.1 rfl
theorem dX12_carry_142 : decode cX12_carry 142 = .ok (.iconst 1, 1) := dAt wdX12_carry_134 adX12_carry_134.2.2.2.2.2.2.1 rfl
theorem dX12_carry_143 : decode cX12_carry 143 = .ok (.iadd, 1) := dAt wdX12_carry_134 adX12_carry_134.2.2.2.2.2.2.2.1 rfl
theorem dX12_carry_144 : decode cX12_carry 144 = .ok (.iastore, 1) := dAt wdX12_carry_134 adX12_carry_134.2.2.2.2.2.2.2.2.1 rfl
theorem dX12_carry_145 : decode cX12_carry 145 = .ok (.aload_n 0, 1) := dAt wdX12_carry_134 adX12_carry_134.2.2.2.2.2.2.2.2.2.1 rfl
theorem dX12_carry_146 : decode cX12_carry 146 = .ok (.getfield 8, 3) := dAt wdX12_carry_134 adX12_carry_134.2.2.2.2.2.2.2.2.2.2.1 rfl
theorem dX12_carry_149 : decode cX12_carry 149 = .ok (.iconst 5, 1) := dAt wdX12_carry_134 adX12_carry_134.2.2.2.2.2.2.2.2.2.2.2.1 rfl
theorem dX12_carry_150 : decode cX12_carry 150 = .ok (.iaload, 1) := dAt wdX12_carry_134 adX12_carry_134.2.2.2.2.2.2.2.2.2.2.2.2.1 rfl
theorem dX12_carry_151 : decode cX12_carry 151 = .ok (.ireturn, 1) := dAt wdX12_carry_134 adX12_carry_134.2.2.2.2.2.2.2.2.2.2.2.2.2 rfl
def bdX12_where_0 : ByteArray := .mk #[42, 42, 27, 182, 1, 140, 154, 0, 7, 4, 167, 0, 4, 3, 181, 0, 122, 42, 180, 0, 122, 158, 0, 5, 3, 172, 2, 54, 4]
theorem wdX12_where_0 : LocW cX12_where 0 bdX12_where_0 := loc_of (by decide +kernel)
theorem adX12_where_0 : De bdX12_where_0 0 (.aload_n 0) 1 ∧ De bdX12_where_0 1 (.aload_n 0) 1 ∧ De bdX12_where_0 2 (.iload_n 1) 1 ∧ De bdX12_where_0 3 (.invokevirtual 396) 3 ∧ De bdX12_where_0 6 (.ifCond .ne 7) 3 ∧ De bdX12_where_0 9 (.iconst 1) 1 ∧ De bdX12_where_0 10 (.goto 4) 3 ∧ De bdX12_where_0 13 (.iconst 0) 1 ∧ De bdX12_where_0 14 (.putfield 122) 3 ∧ De bdX12_where_0 17 (.aload_n 0) 1 ∧ De bdX12_where_0 18 (.getfield 122) 3 ∧ De bdX12_where_0 21 (.ifCond .le 5) 3 ∧ De bdX12_where_0 24 (.iconst 0) 1 ∧ De bdX12_where_0 25 (.ireturn) 1 ∧ De bdX12_where_0 26 (.iconst (-1)) 1 ∧ De bdX12_where_0 27 (.istore 4) 2 := by decide +kernel
theorem dX12_where_0 : decode cX12_where 0 = .ok (.aload_n 0, 1) := dAt wdX12_where_0 adX12_where_0.1 rfl
theorem dX12_where_1 : decode cX12_where 1 = .ok (.aload_n 0, 1) := dAt wdX12_where_0 adX12_where_0.2.1 rfl
theorem dX12_where_2 : decode cX12_where 2 = .ok (.iload_n 1, 1) := dAt wdX12_where_0 adX12_where_0.2.2.1 rfl
theorem dX12_where_3 : decode cX12_where 3 = .ok (.invokevirtual 396, 3) := dAt wdX12_where_0 adX12_where_0.2.2.2.1 rfl
theorem dX12_where_6 : decode cX12_where 6 = .ok (.ifCond .ne 7, 3) := dAt wdX12_where_0 adX12_where_0.2.2.2.2.1 rfl
theorem dX12_where_9 : decode cX12_where 9 = .ok (.iconst 1, 1) := dAt wdX12_where_0 adX12_where_0.2.2.2.2.2.1 rfl
theorem dX12_where_10 : decode cX12_where 10 = .ok (.goto 4, 3) := dAt wdX12_where_0 adX12_where_0.2.2.2.2.2.2.1 rfl
theorem dX12_where_13 : decode cX12_where 13 = .ok (.iconst 0, 1) := dAt wdX12_where_0 adX12_where_0.2.2.2.2.2.2.2.1 rfl
theorem dX12_where_14 : decode cX12_where 14 = .ok (.putfield 122, 3) := dAt wdX12_where_0 adX12_where_0.2.2.2.2.2.2.2.2.1 rfl
theorem dX12_where_17 : decode cX12_where 17 = .ok (.aload_n 0, 1) := dAt wdX12_where_0 adX12_where_0.2.2.2.2.2.2.2.2.2.1 rfl
theorem dX12_where_18 : decode cX12_where 18 = .ok (.getfield 122, 3) := dAt wdX12_where_0 adX12_where_0.2.2.2.2.2.2.2.2.2.2.1 rfl
theorem dX12_where_21 : decode cX12_where 21 = .ok (.ifCond .le 5, 3) := dAt wdX12_where_0 adX12_where_0.2.2.2.2.2.2.2.2.2.2.2.1 rfl
theorem dX12_where_24 : decode cX12_where 24 = .ok (.iconst 0, 1) := dAt wdX12_where_0 adX12_where_0.2.2.2.2.2.2.2.2.2.2.2.2.1 rfl
theorem dX12_where_25 : decode cX12_where 25 = .ok (.ireturn, 1) := dAt wdX12_where_0 adX12_where_0.2.2.2.2.2.2.2.2.2.2.2.2.2.1 rfl
theorem dX12_where_26 : decode cX12_where 26 = .ok (.iconst (-1), 1) := dAt wdX12_where_0 adX12_where_0.2.2.2.2.2.2.2.2.2.2.2.2.2.2.1 rfl
theorem dX12_where_27 : decode cX12_where 27 = .ok (.istore 4, 2) := dAt wdX12_where_0 adX12_where_0.2.2.2.2.2.2.2.2.2.2.2.2.2.2.2 rfl
def bdX12_where_29 : ByteArray := .mk #[2, 54, 5, 3, 54, 6, 21, 6, 42, 180, 0, 8, 8, 46, 162, 0, 130, 19, 1, 161, 7, 21, 6, 104, 96, 54, 7]
theorem wdX12_where_29 : LocW cX12_where 29 bdX12_where_29 := loc_of (by decide +kernel)
theorem adX12_where_29 : De bdX12_where_29 0 (.iconst (-1)) 1 ∧ De bdX12_where_29 1 (.istore 5) 2 ∧ De bdX12_where_29 3 (.iconst 0) 1 ∧ De bdX12_where_29 4 (.istore 6) 2 ∧ De bdX12_where_29 6 (.iload 6) 2 ∧ De bdX12_where_29 8 (.aload_n 0) 1 ∧ De bdX12_where_29 9 (.getfield 8) 3 ∧ De bdX12_where_29 12 (.iconst 5) 1 ∧ De bdX12_where_29 13 (.iaload) 1 ∧ De bdX12_where_29 14 (.if_icmp .ge 130) 3 ∧ De bdX12_where_29 17 (.ldc_w 417) 3 ∧ De bdX12_where_29 20 (.iconst 4) 1 ∧ De bdX12_where_29 21 (.iload 6) 2 ∧ De bdX12_where_29 23 (.imul) 1 ∧ De bdX12_where_29 24 (.iadd) 1 ∧ De bdX12_where_29 25 (.istore 7) 2 := by decide +kernel
theorem dX12_where_29 : decode cX12_where 29 = .ok (.iconst (-1), 1) := dAt wdX12_where_29 adX12_where_29.1 rfl
theorem dX12_where_30 : decode cX12_where 30 = .ok (.istore 5, 2) := dAt wdX12_where_29 adX12_where_29.2.1 rfl
theorem dX12_where_32 : decode cX12_where 32 = .ok (.iconst 0, 1) := dAt wdX12_where_29 adX12_where_29.2.2.1 rfl
theorem dX12_where_33 : decode cX12_where 33 = .ok (.istore 6, 2) := dAt wdX12_where_29 adX12_where_29.2.2.2.1 rfl
theorem dX12_where_35 : decode cX12_where 35 = .ok (.iload 6, 2) := dAt wdX12_where_29 adX12_where_29.2.2.2.2.1 rfl
theorem dX12_where_37 : decode cX12_where 37 = .ok (.aload_n 0, 1) := dAt wdX12_where_29 adX12_where_29.2.2.2.2.2.1 rfl
theorem dX12_where_38 : decode cX12_where 38 = .ok (.getfield 8, 3) := dAt wdX12_where_29 adX12_where_29.2.2.2.2.2.2.1 rfl
theorem dX12_where_41 : decode cX12_where 41 = .ok (.iconst 5, 1) := dAt wdX12_where_29 adX12_where_29.2.2.2.2.2.2.2.1 rfl
theorem dX12_where_42 : decode cX12_where 42 = .ok (.iaload, 1) := dAt wdX12_where_29 adX12_where_29.2.2.2.2.2.2.2.2.1 rfl
theorem dX12_where_43 : decode cX12_where 43 = .ok (.if_icmp .ge 130, 3) := dAt wdX12_where_29 adX12_where_29.2.2.2.2.2.2.2.2.2.1 rfl
theorem dX12_where_46 : decode cX12_where 46 = .ok (.ldc_w 417, 3) := dAt wdX12_where_29 adX12_where_29.2.2.2.2.2.2.2.2.2.2.1 rfl
theorem dX12_where_49 : decode cX12_where 49 = .ok (.iconst 4, 1) := dAt wdX12_where_29 adX12_where_29.2.2.2.2.2.2.2.2.2.2.2.1 rfl
theorem dX12_where_50 : decode cX12_where 50 = .ok (.iload 6, 2) := dAt wdX12_where_29 adX12_where_29.2.2.2.2.2.2.2.2.2.2.2.2.1 rfl
theorem dX12_where_52 : decode cX12_where 52 = .ok (.imul, 1) := dAt wdX12_where_29 adX12_where_29.2.2.2.2.2.2.2.2.2.2.2.2.2.1 rfl
theorem dX12_where_53 : decode cX12_where 53 = .ok (.iadd, 1) := dAt wdX12_where_29 adX12_where_29.2.2.2.2.2.2.2.2.2.2.2.2.2.2.1 rfl
theorem dX12_where_54 : decode cX12_where 54 = .ok (.istore 7, 2) := dAt wdX12_where_29 adX12_where_29.2.2.2.2.2.2.2.2.2.2.2.2.2.2.2 rfl
def bdX12_where_56 : ByteArray := .mk #[42, 180, 0, 8, 21, 7, 46, 27, 160, 0, 103, 42, 180, 0, 8, 21, 7, 6, 96, 46, 29, 163, 0, 90, 42, 180, 0, 8]
theorem wdX12_where_56 : LocW cX12_where 56 bdX12_where_56 := loc_of (by decide +kernel)
theorem adX12_where_56 : De bdX12_where_56 0 (.aload_n 0) 1 ∧ De bdX12_where_56 1 (.getfield 8) 3 ∧ De bdX12_where_56 4 (.iload 7) 2 ∧ De bdX12_where_56 6 (.iaload) 1 ∧ De bdX12_where_56 7 (.iload_n 1) 1 ∧ De bdX12_where_56 8 (.if_icmp .ne 103) 3 ∧ De bdX12_where_56 11 (.aload_n 0) 1 ∧ De bdX12_where_56 12 (.getfield 8) 3 ∧ De bdX12_where_56 15 (.iload 7) 2 ∧ De bdX12_where_56 17 (.iconst 3) 1 ∧ De bdX12_where_56 18 (.iadd) 1 ∧ De bdX12_where_56 19 (.iaload) 1 ∧ De bdX12_where_56 20 (.iload_n 3) 1 ∧ De bdX12_where_56 21 (.if_icmp .gt 90) 3 ∧ De bdX12_where_56 24 (.aload_n 0) 1 ∧ De bdX12_where_56 25 (.getfield 8) 3 := by decide +kernel
theorem dX12_where_56 : decode cX12_where 56 = .ok (.aload_n 0, 1) := dAt wdX12_where_56 adX12_where_56.1 rfl
theorem dX12_where_57 : decode cX12_where 57 = .ok (.getfield 8, 3) := dAt wdX12_where_56 adX12_where_56.2.1 rfl
theorem dX12_where_60 : decode cX12_where 60 = .ok (.iload 7, 2) := dAt wdX12_where_56 adX12_where_56.2.2.1 rfl
theorem dX12_where_62 : decode cX12_where 62 = .ok (.iaload, 1) := dAt wdX12_where_56 adX12_where_56.2.2.2.1 rfl
theorem dX12_where_63 : decode cX12_where 63 = .ok (.iload_n 1, 1) := dAt wdX12_where_56 adX12_where_56.2.2.2.2.1 rfl
theorem dX12_where_64 : decode cX12_where 64 = .ok (.if_icmp .ne 103, 3) := dAt wdX12_where_56 adX12_where_56.2.2.2.2.2.1 rfl
theorem dX12_where_67 : decode cX12_where 67 = .ok (.aload_n 0, 1) := dAt wdX12_where_56 adX12_where_56.2.2.2.2.2.2.1 rfl
theorem dX12_where_68 : decode cX12_where 68 = .ok (.getfield 8, 3) := dAt wdX12_where_56 adX12_where_56.2.2.2.2.2.2.2.1 rfl
theorem dX12_where_71 : decode cX12_where 71 = .ok (.iload 7, 2) := dAt wdX12_where_56 adX12_where_56.2.2.2.2.2.2.2.2.1 rfl
theorem dX12_where_73 : decode cX12_where 73 = .ok (.iconst 3, 1) := dAt wdX12_where_56 adX12_where_56.2.2.2.2.2.2.2.2.2.1 rfl
theorem dX12_where_74 : decode cX12_where 74 = .ok (.iadd, 1) := dAt wdX12_where_56 adX12_where_56.2.2.2.2.2.2.2.2.2.2.1 rfl
theorem dX12_where_75 : decode cX12_where 75 = .ok (.iaload, 1) := dAt wdX12_where_56 adX12_where_56.2.2.2.2.2.2.2.2.2.2.2.1 rfl
theorem dX12_where_76 : decode cX12_where 76 = .ok (.iload_n 3, 1) := dAt wdX12_where_56 adX12_where_56.2.2.2.2.2.2.2.2.2.2.2.2.1 rfl
theorem dX12_where_77 : decode cX12_where 77 = .ok (.if_icmp .gt 90, 3) := dAt wdX12_where_56 adX12_where_56.2.2.2.2.2.2.2.2.2.2.2.2.2.1 rfl
theorem dX12_where_80 : decode cX12_where 80 = .ok (.aload_n 0, 1) := dAt wdX12_where_56 adX12_where_56.2.2.2.2.2.2.2.2.2.2.2.2.2.2.1 rfl
theorem dX12_where_81 : decode cX12_where 81 = .ok (.getfield 8, 3) := dAt wdX12_where_56 adX12_where_56.2.2.2.2.2.2.2.2.2.2.2.2.2.2.2 rfl
def bdX12_where_84 : ByteArray := .mk #[21, 7, 5, 96, 46, 28, 163, 0, 77, 42, 180, 0, 8, 21, 7, 5, 96, 46, 21, 5, 162, 0, 6, 167, 0, 60, 42]
theorem wdX12_where_84 : LocW cX12_where 84 bdX12_where_84 := loc_of (by decide +kernel)
theorem adX12_where_84 : De bdX12_where_84 0 (.iload 7) 2 ∧ De bdX12_where_84 2 (.iconst 2) 1 ∧ De bdX12_where_84 3 (.iadd) 1 ∧ De bdX12_where_84 4 (.iaload) 1 ∧ De bdX12_where_84 5 (.iload_n 2) 1 ∧ De bdX12_where_84 6 (.if_icmp .gt 77) 3 ∧ De bdX12_where_84 9 (.aload_n 0) 1 ∧ De bdX12_where_84 10 (.getfield 8) 3 ∧ De bdX12_where_84 13 (.iload 7) 2 ∧ De bdX12_where_84 15 (.iconst 2) 1 ∧ De bdX12_where_84 16 (.iadd) 1 ∧ De bdX12_where_84 17 (.iaload) 1 ∧ De bdX12_where_84 18 (.iload 5) 2 ∧ De bdX12_where_84 20 (.if_icmp .ge 6) 3 ∧ De bdX12_where_84 23 (.goto 60) 3 ∧ De bdX12_where_84 26 (.aload_n 0) 1 := by decide +kernel
theorem dX12_where_84 : decode cX12_where 84 = .ok (.iload 7, 2) := dAt wdX12_where_84 adX12_where_84.1 rfl
theorem dX12_where_86 : decode cX12_where 86 = .ok (.iconst 2, 1) := dAt wdX12_where_84 adX12_where_84.2.1 rfl
theorem dX12_where_87 : decode cX12_where 87 = .ok (.iadd, 1) := dAt wdX12_where_84 adX12_where_84.2.2.1 rfl
theorem dX12_where_88 : decode cX12_where 88 = .ok (.iaload, 1) := dAt wdX12_where_84 adX12_where_84.2.2.2.1 rfl
theorem dX12_where_89 : decode cX12_where 89 = .ok (.iload_n 2, 1) := dAt wdX12_where_84 adX12_where_84.2.2.2.2.1 rfl
theorem dX12_where_90 : decode cX12_where 90 = .ok (.if_icmp .gt 77, 3) := dAt wdX12_where_84 adX12_where_84.2.2.2.2.2.1 rfl
theorem dX12_where_93 : decode cX12_where 93 = .ok (.aload_n 0, 1) := dAt wdX12_where_84 adX12_where_84.2.2.2.2.2.2.1 rfl
theorem dX12_where_94 : decode cX12_where 94 = .ok (.getfield 8, 3) := dAt wdX12_where_84 adX12_where_84.2.2.2.2.2.2.2.1 rfl
theorem dX12_where_97 : decode cX12_where 97 = .ok (.iload 7, 2) := dAt wdX12_where_84 adX12_where_84.2.2.2.2.2.2.2.2.1 rfl
theorem dX12_where_99 : decode cX12_where 99 = .ok (.iconst 2, 1) := dAt wdX12_where_84 adX12_where_84.2.2.2.2.2.2.2.2.2.1 rfl
theorem dX12_where_100 : decode cX12_where 100 = .ok (.iadd, 1) := dAt wdX12_where_84 adX12_where_84.2.2.2.2.2.2.2.2.2.2.1 rfl
theorem dX12_where_101 : decode cX12_where 101 = .ok (.iaload, 1) := dAt wdX12_where_84 adX12_where_84.2.2.2.2.2.2.2.2.2.2.2.1 rfl
theorem dX12_where_102 : decode cX12_where 102 = .ok (.iload 5, 2) := dAt wdX12_where_84 adX12_where_84.2.2.2.2.2.2.2.2.2.2.2.2.1 rfl
theorem dX12_where_104 : decode cX12_where 104 = .ok (.if_icmp .ge 6, 3) := dAt wdX12_where_84 adX12_where_84.2.2.2.2.2.2.2.2.2.2.2.2.2.1 rfl
theorem dX12_where_107 : decode cX12_where 107 = .ok (.goto 60, 3) := dAt wdX12_where_84 adX12_where_84.2.2.2.2.2.2.2.2.2.2.2.2.2.2.1 rfl
theorem dX12_where_110 : decode cX12_where 110 = .ok (.aload_n 0, 1) := dAt wdX12_where_84 adX12_where_84.2.2.2.2.2.2.2.2.2.2.2.2.2.2.2 rfl
def bdX12_where_111 : ByteArray := .mk #[180, 0, 8, 21, 7, 5, 96, 46, 21, 5, 164, 0, 17, 42, 180, 0, 8, 21, 7, 4, 96, 46, 54, 4, 167, 0, 21, 21, 4]
theorem wdX12_where_111 : LocW cX12_where 111 bdX12_where_111 := loc_of (by decide +kernel)
theorem adX12_where_111 : De bdX12_where_111 0 (.getfield 8) 3 ∧ De bdX12_where_111 3 (.iload 7) 2 ∧ De bdX12_where_111 5 (.iconst 2) 1 ∧ De bdX12_where_111 6 (.iadd) 1 ∧ De bdX12_where_111 7 (.iaload) 1 ∧ De bdX12_where_111 8 (.iload 5) 2 ∧ De bdX12_where_111 10 (.if_icmp .le 17) 3 ∧ De bdX12_where_111 13 (.aload_n 0) 1 ∧ De bdX12_where_111 14 (.getfield 8) 3 ∧ De bdX12_where_111 17 (.iload 7) 2 ∧ De bdX12_where_111 19 (.iconst 1) 1 ∧ De bdX12_where_111 20 (.iadd) 1 ∧ De bdX12_where_111 21 (.iaload) 1 ∧ De bdX12_where_111 22 (.istore 4) 2 ∧ De bdX12_where_111 24 (.goto 21) 3 ∧ De bdX12_where_111 27 (.iload 4) 2 := by decide +kernel
theorem dX12_where_111 : decode cX12_where 111 = .ok (.getfield 8, 3) := dAt wdX12_where_111 adX12_where_111.1 rfl
theorem dX12_where_114 : decode cX12_where 114 = .ok (.iload 7, 2) := dAt wdX12_where_111 adX12_where_111.2.1 rfl
theorem dX12_where_116 : decode cX12_where 116 = .ok (.iconst 2, 1) := dAt wdX12_where_111 adX12_where_111.2.2.1 rfl
theorem dX12_where_117 : decode cX12_where 117 = .ok (.iadd, 1) := dAt wdX12_where_111 adX12_where_111.2.2.2.1 rfl
theorem dX12_where_118 : decode cX12_where 118 = .ok (.iaload, 1) := dAt wdX12_where_111 adX12_where_111.2.2.2.2.1 rfl
theorem dX12_where_119 : decode cX12_where 119 = .ok (.iload 5, 2) := dAt wdX12_where_111 adX12_where_111.2.2.2.2.2.1 rfl
theorem dX12_where_121 : decode cX12_where 121 = .ok (.if_icmp .le 17, 3) := dAt wdX12_where_111 adX12_where_111.2.2.2.2.2.2.1 rfl
theorem dX12_where_124 : decode cX12_where 124 = .ok (.aload_n 0, 1) := dAt wdX12_where_111 adX12_where_111.2.2.2.2.2.2.2.1 rfl
theorem dX12_where_125 : decode cX12_where 125 = .ok (.getfield 8, 3) := dAt wdX12_where_111 adX12_where_111.2.2.2.2.2.2.2.2.1 rfl
theorem dX12_where_128 : decode cX12_where 128 = .ok (.iload 7, 2) := dAt wdX12_where_111 adX12_where_111.2.2.2.2.2.2.2.2.2.1 rfl
theorem dX12_where_130 : decode cX12_where 130 = .ok (.iconst 1, 1) := dAt wdX12_where_111 adX12_where_111.2.2.2.2.2.2.2.2.2.2.1 rfl
theorem dX12_where_131 : decode cX12_where 131 = .ok (.iadd, 1) := dAt wdX12_where_111 adX12_where_111.2.2.2.2.2.2.2.2.2.2.2.1 rfl
theorem dX12_where_132 : decode cX12_where 132 = .ok (.iaload, 1) := dAt wdX12_where_111 adX12_where_111.2.2.2.2.2.2.2.2.2.2.2.2.1 rfl
theorem dX12_where_133 : decode cX12_where 133 = .ok (.istore 4, 2) := dAt wdX12_where_111 adX12_where_111.2.2.2.2.2.2.2.2.2.2.2.2.2.1 rfl
theorem dX12_where_135 : decode cX12_where 135 = .ok (.goto 21, 3) := dAt wdX12_where_111 adX12_where_111.2.2.2.2.2.2.2.2.2.2.2.2.2.2.1 rfl
theorem dX12_where_138 : decode cX12_where 138 = .ok (.iload 4, 2) := dAt wdX12_where_111 adX12_where_111.2.2.2.2.2.2.2.2.2.2.2.2.2.2.2 rfl
def bdX12_where_140 : ByteArray := .mk #[42, 180, 0, 8, 21, 7, 4, 96, 46, 159, 0, 7, 16, 254, 54, 4, 42, 180, 0, 8, 21, 7, 5, 96, 46, 54, 5]
theorem wdX12_where_140 : LocW cX12_where 140 bdX12_where_140 := loc_of (by decide +kernel)
theorem adX12_where_140 : De bdX12_where_140 0 (.aload_n 0) 1 ∧ De bdX12_where_140 1 (.getfield 8) 3 ∧ De bdX12_where_140 4 (.iload 7) 2 ∧ De bdX12_where_140 6 (.iconst 1) 1 ∧ De bdX12_where_140 7 (.iadd) 1 ∧ De bdX12_where_140 8 (.iaload) 1 ∧ De bdX12_where_140 9 (.if_icmp .eq 7) 3 ∧ De bdX12_where_140 12 (.bipush (-2)) 2 ∧ De bdX12_where_140 14 (.istore 4) 2 ∧ De bdX12_where_140 16 (.aload_n 0) 1 ∧ De bdX12_where_140 17 (.getfield 8) 3 ∧ De bdX12_where_140 20 (.iload 7) 2 ∧ De bdX12_where_140 22 (.iconst 2) 1 ∧ De bdX12_where_140 23 (.iadd) 1 ∧ De bdX12_where_140 24 (.iaload) 1 ∧ De bdX12_where_140 25 (.istore 5) 2 := by decide +kernel
theorem dX12_where_140 : decode cX12_where 140 = .ok (.aload_n 0, 1) := dAt wdX12_where_140 adX12_where_140.1 rfl
theorem dX12_where_141 : decode cX12_where 141 = .ok (.getfield 8, 3) := dAt wdX12_where_140 adX12_where_140.2.1 rfl
theorem dX12_where_144 : decode cX12_where 144 = .ok (.iload 7, 2) := dAt wdX12_where_140 adX12_where_140.2.2.1 rfl
theorem dX12_where_146 : decode cX12_where 146 = .ok (.iconst 1, 1) := dAt wdX12_where_140 adX12_where_140.2.2.2.1 rfl
theorem dX12_where_147 : decode cX12_where 147 = .ok (.iadd, 1) := dAt wdX12_where_140 adX12_where_140.2.2.2.2.1 rfl
theorem dX12_where_148 : decode cX12_where 148 = .ok (.iaload, 1) := dAt wdX12_where_140 adX12_where_140.2.2.2.2.2.1 rfl
theorem dX12_where_149 : decode cX12_where 149 = .ok (.if_icmp .eq 7, 3) := dAt wdX12_where_140 adX12_where_140.2.2.2.2.2.2.1 rfl
theorem dX12_where_152 : decode cX12_where 152 = .ok (.bipush (-2), 2) := dAt wdX12_where_140 adX12_where_140.2.2.2.2.2.2.2.1 rfl
theorem dX12_where_154 : decode cX12_where 154 = .ok (.istore 4, 2) := dAt wdX12_where_140 adX12_where_140.2.2.2.2.2.2.2.2.1 rfl
theorem dX12_where_156 : decode cX12_where 156 = .ok (.aload_n 0, 1) := dAt wdX12_where_140 adX12_where_140.2.2.2.2.2.2.2.2.2.1 rfl
theorem dX12_where_157 : decode cX12_where 157 = .ok (.getfield 8, 3) := dAt wdX12_where_140 adX12_where_140.2.2.2.2.2.2.2.2.2.2.1 rfl
theorem dX12_where_160 : decode cX12_where 160 = .ok (.iload 7, 2) := dAt wdX12_where_140 adX12_where_140.2.2.2.2.2.2.2.2.2.2.2.1 rfl
theorem dX12_where_162 : decode cX12_where 162 = .ok (.iconst 2, 1) := dAt wdX12_where_140 adX12_where_140.2.2.2.2.2.2.2.2.2.2.2.2.1 rfl
theorem dX12_where_163 : decode cX12_where 163 = .ok (.iadd, 1) := dAt wdX12_where_140 adX12_where_140.2.2.2.2.2.2.2.2.2.2.2.2.2.1 rfl
theorem dX12_where_164 : decode cX12_where 164 = .ok (.iaload, 1) := dAt wdX12_where_140 adX12_where_140.2.2.2.2.2.2.2.2.2.2.2.2.2.2.1 rfl
theorem dX12_where_165 : decode cX12_where 165 = .ok (.istore 5, 2) := dAt wdX12_where_140 adX12_where_140.2.2.2.2.2.2.2.2.2.2.2.2.2.2.2 rfl
def bdX12_where_167 : ByteArray := .mk #[132, 6, 1, 167, 255, 121, 21, 4, 156, 0, 7, 2, 167, 0, 5, 21, 4, 172]
theorem wdX12_where_167 : LocW cX12_where 167 bdX12_where_167 := loc_of (by decide +kernel)
theorem adX12_where_167 : De bdX12_where_167 0 (.iinc 6 1) 3 ∧ De bdX12_where_167 3 (.goto (-135)) 3 ∧ De bdX12_where_167 6 (.iload 4) 2 ∧ De bdX12_where_167 8 (.ifCond .ge 7) 3 ∧ De bdX12_where_167 11 (.iconst (-1)) 1 ∧ De bdX12_where_167 12 (.goto 5) 3 ∧ De bdX12_where_167 15 (.iload 4) 2 ∧ De bdX12_where_167 17 (.ireturn) 1 := by decide +kernel
theorem dX12_where_167 : decode cX12_where 167 = .ok (.iinc 6 1, 3) := dAt wdX12_where_167 adX12_where_167.1 rfl
theorem dX12_where_170 : decode cX12_where 170 = .ok (.goto (-135), 3) := dAt wdX12_where_167 adX12_where_167.2.1 rfl
theorem dX12_where_173 : decode cX12_where 173 = .ok (.iload 4, 2) := dAt wdX12_where_167 adX12_where_167.2.2.1 rfl
theorem dX12_where_175 : decode cX12_where 175 = .ok (.ifCond .ge 7, 3) := dAt wdX12_where_167 adX12_where_167.2.2.2.1 rfl
theorem dX12_where_178 : decode cX12_where 178 = .ok (.iconst (-1), 1) := dAt wdX12_where_167 adX12_where_167.2.2.2.2.1 rfl
theorem dX12_where_179 : decode cX12_where 179 = .ok (.goto 5, 3) := dAt wdX12_where_167 adX12_where_167.2.2.2.2.2.1 rfl
theorem dX12_where_182 : decode cX12_where 182 = .ok (.iload 4, 2) := dAt wdX12_where_167 adX12_where_167.2.2.2.2.2.2.1 rfl
theorem dX12_where_184 : decode cX12_where 184 = .ok (.ireturn, 1) := dAt wdX12_where_167 adX12_where_167.2.2.2.2.2.2.2 rfl
def bdX12_page_0 : ByteArray := .mk #[42, 27, 184, 1, 162, 154, 0, 7, 4, 167, 0, 27, 28, 4, 6, 184, 0, 157, 153, 0, 13, 29, 4, 16, 60, 184, 0, 157, 154, 0, 7]
theorem wdX12_page_0 : LocW cX12_page 0 bdX12_page_0 := loc_of (by decide +kernel)
theorem adX12_page_0 : De bdX12_page_0 0 (.aload_n 0) 1 ∧ De bdX12_page_0 1 (.iload_n 1) 1 ∧ De bdX12_page_0 2 (.invokestatic 418) 3 ∧ De bdX12_page_0 5 (.ifCond .ne 7) 3 ∧ De bdX12_page_0 8 (.iconst 1) 1 ∧ De bdX12_page_0 9 (.goto 27) 3 ∧ De bdX12_page_0 12 (.iload_n 2) 1 ∧ De bdX12_page_0 13 (.iconst 1) 1 ∧ De bdX12_page_0 14 (.iconst 3) 1 ∧ De bdX12_page_0 15 (.invokestatic 157) 3 ∧ De bdX12_page_0 18 (.ifCond .eq 13) 3 ∧ De bdX12_page_0 21 (.iload_n 3) 1 ∧ De bdX12_page_0 22 (.iconst 1) 1 ∧ De bdX12_page_0 23 (.bipush 60) 2 ∧ De bdX12_page_0 25 (.invokestatic 157) 3 ∧ De bdX12_page_0 28 (.ifCond .ne 7) 3 := by decide +kernel
theorem dX12_page_0 : decode cX12_page 0 = .ok (.aload_n 0, 1) := dAt wdX12_page_0 adX12_page_0.1 rfl
theorem dX12_page_1 : decode cX12_page 1 = .ok (.iload_n 1, 1) := dAt wdX12_page_0 adX12_page_0.2.1 rfl
theorem dX12_page_2 : decode cX12_page 2 = .ok (.invokestatic 418, 3) := dAt wdX12_page_0 adX12_page_0.2.2.1 rfl
theorem dX12_page_5 : decode cX12_page 5 = .ok (.ifCond .ne 7, 3) := dAt wdX12_page_0 adX12_page_0.2.2.2.1 rfl
theorem dX12_page_8 : decode cX12_page 8 = .ok (.iconst 1, 1) := dAt wdX12_page_0 adX12_page_0.2.2.2.2.1 rfl
theorem dX12_page_9 : decode cX12_page 9 = .ok (.goto 27, 3) := dAt wdX12_page_0 adX12_page_0.2.2.2.2.2.1 rfl
theorem dX12_page_12 : decode cX12_page 12 = .ok (.iload_n 2, 1) := dAt wdX12_page_0 adX12_page_0.2.2.2.2.2.2.1 rfl
theorem dX12_page_13 : decode cX12_page 13 = .ok (.iconst 1, 1) := dAt wdX12_page_0 adX12_page_0.2.2.2.2.2.2.2.1 rfl
theorem dX12_page_14 : decode cX12_page 14 = .ok (.iconst 3, 1) := dAt wdX12_page_0 adX12_page_0.2.2.2.2.2.2.2.2.1 rfl
theorem dX12_page_15 : decode cX12_page 15 = .ok (.invokestatic 157, 3) := dAt wdX12_page_0 adX12_page_0.2.2.2.2.2.2.2.2.2.1 rfl
theorem dX12_page_18 : decode cX12_page 18 = .ok (.ifCond .eq 13, 3) := dAt wdX12_page_0 adX12_page_0.2.2.2.2.2.2.2.2.2.2.1 rfl
theorem dX12_page_21 : decode cX12_page 21 = .ok (.iload_n 3, 1) := dAt wdX12_page_0 adX12_page_0.2.2.2.2.2.2.2.2.2.2.2.1 rfl
theorem dX12_page_22 : decode cX12_page 22 = .ok (.iconst 1, 1) := dAt wdX12_page_0 adX12_page_0.2.2.2.2.2.2.2.2.2.2.2.2.1 rfl
theorem dX12_page_23 : decode cX12_page 23 = .ok (.bipush 60, 2) := dAt wdX12_page_0 adX12_page_0.2.2.2.2.2.2.2.2.2.2.2.2.2.1 rfl
theorem dX12_page_25 : decode cX12_page 25 = .ok (.invokestatic 157, 3) := dAt wdX12_page_0 adX12_page_0.2.2.2.2.2.2.2.2.2.2.2.2.2.2.1 rfl
theorem dX12_page_28 : decode cX12_page 28 = .ok (.ifCond .ne 7, 3) := dAt wdX12_page_0 adX12_page_0.2.2.2.2.2.2.2.2.2.2.2.2.2.2.2 rfl
def bdX12_page_31 : ByteArray := .mk #[5, 167, 0, 4, 3, 181, 0, 122, 42, 180, 0, 122, 158, 0, 4, 177, 42, 180, 0, 8, 18, 121, 17, 0, 185, 27, 104, 96, 28]
theorem wdX12_page_31 : LocW cX12_page 31 bdX12_page_31 := loc_of (by decide +kernel)
theorem adX12_page_31 : De bdX12_page_31 0 (.iconst 2) 1 ∧ De bdX12_page_31 1 (.goto 4) 3 ∧ De bdX12_page_31 4 (.iconst 0) 1 ∧ De bdX12_page_31 5 (.putfield 122) 3 ∧ De bdX12_page_31 8 (.aload_n 0) 1 ∧ De bdX12_page_31 9 (.getfield 122) 3 ∧ De bdX12_page_31 12 (.ifCond .le 4) 3 ∧ De bdX12_page_31 15 (.return_) 1 ∧ De bdX12_page_31 16 (.aload_n 0) 1 ∧ De bdX12_page_31 17 (.getfield 8) 3 ∧ De bdX12_page_31 20 (.ldc 121) 2 ∧ De bdX12_page_31 22 (.sipush 185) 3 ∧ De bdX12_page_31 25 (.iload_n 1) 1 ∧ De bdX12_page_31 26 (.imul) 1 ∧ De bdX12_page_31 27 (.iadd) 1 ∧ De bdX12_page_31 28 (.iload_n 2) 1 := by decide +kernel
theorem dX12_page_31 : decode cX12_page 31 = .ok (.iconst 2, 1) := dAt wdX12_page_31 adX12_page_31.1 rfl
theorem dX12_page_32 : decode cX12_page 32 = .ok (.goto 4, 3) := dAt wdX12_page_31 adX12_page_31.2.1 rfl
theorem dX12_page_35 : decode cX12_page 35 = .ok (.iconst 0, 1) := dAt wdX12_page_31 adX12_page_31.2.2.1 rfl
theorem dX12_page_36 : decode cX12_page 36 = .ok (.putfield 122, 3) := dAt wdX12_page_31 adX12_page_31.2.2.2.1 rfl
theorem dX12_page_39 : decode cX12_page 39 = .ok (.aload_n 0, 1) := dAt wdX12_page_31 adX12_page_31.2.2.2.2.1 rfl
theorem dX12_page_40 : decode cX12_page 40 = .ok (.getfield 122, 3) := dAt wdX12_page_31 adX12_page_31.2.2.2.2.2.1 rfl
theorem dX12_page_43 : decode cX12_page 43 = .ok (.ifCond .le 4, 3) := dAt wdX12_page_31 adX12_page_31.2.2.2.2.2.2.1 rfl
theorem dX12_page_46 : decode cX12_page 46 = .ok (.return_, 1) := dAt wdX12_page_31 adX12_page_31.2.2.2.2.2.2.2.1 rfl
theorem dX12_page_47 : decode cX12_page 47 = .ok (.aload_n 0, 1) := dAt wdX12_page_31 adX12_page_31.2.2.2.2.2.2.2.2.1 rfl
theorem dX12_page_48 : decode cX12_page 48 = .ok (.getfield 8, 3) := dAt wdX12_page_31 adX12_page_31.2.2.2.2.2.2.2.2.2.1 rfl
theorem dX12_page_51 : decode cX12_page 51 = .ok (.ldc 121, 2) := dAt wdX12_page_31 adX12_page_31.2.2.2.2.2.2.2.2.2.2.1 rfl
theorem dX12_page_53 : decode cX12_page 53 = .ok (.sipush 185, 3) := dAt wdX12_page_31 adX12_page_31.2.2.2.2.2.2.2.2.2.2.2.1 rfl
theorem dX12_page_56 : decode cX12_page 56 = .ok (.iload_n 1, 1) := dAt wdX12_page_31 adX12_page_31.2.2.2.2.2.2.2.2.2.2.2.2.1 rfl
theorem dX12_page_57 : decode cX12_page 57 = .ok (.imul, 1) := dAt wdX12_page_31 adX12_page_31.2.2.2.2.2.2.2.2.2.2.2.2.2.1 rfl
theorem dX12_page_58 : decode cX12_page 58 = .ok (.iadd, 1) := dAt wdX12_page_31 adX12_page_31.2.2.2.2.2.2.2.2.2.2.2.2.2.2.1 rfl
theorem dX12_page_59 : decode cX12_page 59 = .ok (.iload_n 2, 1) := dAt wdX12_page_31 adX12_page_31.2.2.2.2.2.2.2.2.2.2.2.2.2.2.2 rfl
def bdX12_page_60 : ByteArray := .mk #[79, 42, 180, 0, 8, 18, 121, 17, 0, 185, 27, 104, 96, 4, 96, 29, 79, 177]
theorem wdX12_page_60 : LocW cX12_page 60 bdX12_page_60 := loc_of (by decide +kernel)
theorem adX12_page_60 : De bdX12_page_60 0 (.iastore) 1 ∧ De bdX12_page_60 1 (.aload_n 0) 1 ∧ De bdX12_page_60 2 (.getfield 8) 3 ∧ De bdX12_page_60 5 (.ldc 121) 2 ∧ De bdX12_page_60 7 (.sipush 185) 3 ∧ De bdX12_page_60 10 (.iload_n 1) 1 ∧ De bdX12_page_60 11 (.imul) 1 ∧ De bdX12_page_60 12 (.iadd) 1 ∧ De bdX12_page_60 13 (.iconst 1) 1 ∧ De bdX12_page_60 14 (.iadd) 1 ∧ De bdX12_page_60 15 (.iload_n 3) 1 ∧ De bdX12_page_60 16 (.iastore) 1 ∧ De bdX12_page_60 17 (.return_) 1 := by decide +kernel
theorem dX12_page_60 : decode cX12_page 60 = .ok (.iastore, 1) := dAt wdX12_page_60 adX12_page_60.1 rfl
theorem dX12_page_61 : decode cX12_page 61 = .ok (.aload_n 0, 1) := dAt wdX12_page_60 adX12_page_60.2.1 rfl
theorem dX12_page_62 : decode cX12_page 62 = .ok (.getfield 8, 3) := dAt wdX12_page_60 adX12_page_60.2.2.1 rfl
theorem dX12_page_65 : decode cX12_page 65 = .ok (.ldc 121, 2) := dAt wdX12_page_60 adX12_page_60.2.2.2.1 rfl
theorem dX12_page_67 : decode cX12_page 67 = .ok (.sipush 185, 3) := dAt wdX12_page_60 adX12_page_60.2.2.2.2.1 rfl
theorem dX12_page_70 : decode cX12_page 70 = .ok (.iload_n 1, 1) := dAt wdX12_page_60 adX12_page_60.2.2.2.2.2.1 rfl
theorem dX12_page_71 : decode cX12_page 71 = .ok (.imul, 1) := dAt wdX12_page_60 adX12_page_60.2.2.2.2.2.2.1 rfl
theorem dX12_page_72 : decode cX12_page 72 = .ok (.iadd, 1) := dAt wdX12_page_60 adX12_page_60.2.2.2.2.2.2.2.1 rfl
theorem dX12_page_73 : decode cX12_page 73 = .ok (.iconst 1, 1) := dAt wdX12_page_60 adX12_page_60.2.2.2.2.2.2.2.2.1 rfl
theorem dX12_page_74 : decode cX12_page 74 = .ok (.iadd, 1) := dAt wdX12_page_60 adX12_page_60.2.2.2.2.2.2.2.2.2.1 rfl
theorem dX12_page_75 : decode cX12_page 75 = .ok (.iload_n 3, 1) := dAt wdX12_page_60 adX12_page_60.2.2.2.2.2.2.2.2.2.2.1 rfl
theorem dX12_page_76 : decode cX12_page 76 = .ok (.iastore, 1) := dAt wdX12_page_60 adX12_page_60.2.2.2.2.2.2.2.2.2.2.2.1 rfl
theorem dX12_page_77 : decode cX12_page 77 = .ok (.return_, 1) := dAt wdX12_page_60 adX12_page_60.2.2.2.2.2.2.2.2.2.2.2.2 rfl
def bdX12_notFit_0 : ByteArray := .mk #[27, 184, 1, 162, 153, 0, 19, 28, 155, 0, 15, 28, 4, 42, 180, 0, 8, 4, 46, 120, 161, 0, 5, 4, 172, 3]
theorem wdX12_notFit_0 : LocW cX12_notFit 0 bdX12_notFit_0 := loc_of (by decide +kernel)
theorem adX12_notFit_0 : De bdX12_notFit_0 0 (.iload_n 1) 1 ∧ De bdX12_notFit_0 1 (.invokestatic 418) 3 ∧ De bdX12_notFit_0 4 (.ifCond .eq 19) 3 ∧ De bdX12_notFit_0 7 (.iload_n 2) 1 ∧ De bdX12_notFit_0 8 (.ifCond .lt 15) 3 ∧ De bdX12_notFit_0 11 (.iload_n 2) 1 ∧ De bdX12_notFit_0 12 (.iconst 1) 1 ∧ De bdX12_notFit_0 13 (.aload_n 0) 1 ∧ De bdX12_notFit_0 14 (.getfield 8) 3 ∧ De bdX12_notFit_0 17 (.iconst 1) 1 ∧ De bdX12_notFit_0 18 (.iaload) 1 ∧ De bdX12_notFit_0 19 (.ishl) 1 ∧ De bdX12_notFit_0 20 (.if_icmp .lt 5) 3 ∧ De bdX12_notFit_0 23 (.iconst 1) 1 ∧ De bdX12_notFit_0 24 (.ireturn) 1 ∧ De bdX12_notFit_0 25 (.iconst 0) 1 := by decide +kernel
theorem dX12_notFit_0 : decode cX12_notFit 0 = .ok (.iload_n 1, 1) := dAt wdX12_notFit_0 adX12_notFit_0.1 rfl
theorem dX12_notFit_1 : decode cX12_notFit 1 = .ok (.invokestatic 418, 3) := dAt wdX12_notFit_0 adX12_notFit_0.2.1 rfl
theorem dX12_notFit_4 : decode cX12_notFit 4 = .ok (.ifCond .eq 19, 3) := dAt wdX12_notFit_0 adX12_notFit_0.2.2.1 rfl
theorem dX12_notFit_7 : decode cX12_notFit 7 = .ok (.iload_n 2, 1) := dAt wdX12_notFit_0 adX12_notFit_0.2.2.2.1 rfl
theorem dX12_notFit_8 : decode cX12_notFit 8 = .ok (.ifCond .lt 15, 3) := dAt wdX12_notFit_0 adX12_notFit_0.2.2.2.2.1 rfl
theorem dX12_notFit_11 : decode cX12_notFit 11 = .ok (.iload_n 2, 1) := dAt wdX12_notFit_0 adX12_notFit_0.2.2.2.2.2.1 rfl
theorem dX12_notFit_12 : decode cX12_notFit 12 = .ok (.iconst 1, 1) := dAt wdX12_notFit_0 adX12_notFit_0.2.2.2.2.2.2.1 rfl
theorem dX12_notFit_13 : decode cX12_notFit 13 = .ok (.aload_n 0, 1) := dAt wdX12_notFit_0 adX12_notFit_0.2.2.2.2.2.2.2.1 rfl
theorem dX12_notFit_14 : decode cX12_notFit 14 = .ok (.getfield 8, 3) := dAt wdX12_notFit_0 adX12_notFit_0.2.2.2.2.2.2.2.2.1 rfl
theorem dX12_notFit_17 : decode cX12_notFit 17 = .ok (.iconst 1, 1) := dAt wdX12_notFit_0 adX12_notFit_0.2.2.2.2.2.2.2.2.2.1 rfl
theorem dX12_notFit_18 : decode cX12_notFit 18 = .ok (.iaload, 1) := dAt wdX12_notFit_0 adX12_notFit_0.2.2.2.2.2.2.2.2.2.2.1 rfl
theorem dX12_notFit_19 : decode cX12_notFit 19 = .ok (.ishl, 1) := dAt wdX12_notFit_0 adX12_notFit_0.2.2.2.2.2.2.2.2.2.2.2.1 rfl
theorem dX12_notFit_20 : decode cX12_notFit 20 = .ok (.if_icmp .lt 5, 3) := dAt wdX12_notFit_0 adX12_notFit_0.2.2.2.2.2.2.2.2.2.2.2.2.1 rfl
theorem dX12_notFit_23 : decode cX12_notFit 23 = .ok (.iconst 1, 1) := dAt wdX12_notFit_0 adX12_notFit_0.2.2.2.2.2.2.2.2.2.2.2.2.2.1 rfl
theorem dX12_notFit_24 : decode cX12_notFit 24 = .ok (.ireturn, 1) := dAt wdX12_notFit_0 adX12_notFit_0.2.2.2.2.2.2.2.2.2.2.2.2.2.2.1 rfl
theorem dX12_notFit_25 : decode cX12_notFit 25 = .ok (.iconst 0, 1) := dAt wdX12_notFit_0 adX12_notFit_0.2.2.2.2.2.2.2.2.2.2.2.2.2.2.2 rfl
def bdX12_notFit_26 : ByteArray := .mk #[62, 3, 54, 4, 21, 4, 42, 180, 0, 8, 4, 46, 162, 0, 18, 29, 28, 21, 4, 122, 4, 126, 96]
theorem wdX12_notFit_26 : LocW cX12_notFit 26 bdX12_notFit_26 := loc_of (by decide +kernel)
theorem adX12_notFit_26 : De bdX12_notFit_26 0 (.istore_n 3) 1 ∧ De bdX12_notFit_26 1 (.iconst 0) 1 ∧ De bdX12_notFit_26 2 (.istore 4) 2 ∧ De bdX12_notFit_26 4 (.iload 4) 2 ∧ De bdX12_notFit_26 6 (.aload_n 0) 1 ∧ De bdX12_notFit_26 7 (.getfield 8) 3 ∧ De bdX12_notFit_26 10 (.iconst 1) 1 ∧ De bdX12_notFit_26 11 (.iaload) 1 ∧ De bdX12_notFit_26 12 (.if_icmp .ge 18) 3 ∧ De bdX12_notFit_26 15 (.iload_n 3) 1 ∧ De bdX12_notFit_26 16 (.iload_n 2) 1 ∧ De bdX12_notFit_26 17 (.iload 4) 2 ∧ De bdX12_notFit_26 19 (.ishr) 1 ∧ De bdX12_notFit_26 20 (.iconst 1) 1 ∧ De bdX12_notFit_26 21 (.iand) 1 ∧ De bdX12_notFit_26 22 (.iadd) 1 := by decide +kernel
theorem dX12_notFit_26 : decode cX12_notFit 26 = .ok (.istore_n 3, 1) := dAt wdX12_notFit_26 adX12_notFit_26.1 rfl
theorem dX12_notFit_27 : decode cX12_notFit 27 = .ok (.iconst 0, 1) := dAt wdX12_notFit_26 adX12_notFit_26.2.1 rfl
theorem dX12_notFit_28 : decode cX12_notFit 28 = .ok (.istore 4, 2) := dAt wdX12_notFit_26 adX12_notFit_26.2.2.1 rfl
theorem dX12_notFit_30 : decode cX12_notFit 30 = .ok (.iload 4, 2) := dAt wdX12_notFit_26 adX12_notFit_26.2.2.2.1 rfl
theorem dX12_notFit_32 : decode cX12_notFit 32 = .ok (.aload_n 0, 1) := dAt wdX12_notFit_26 adX12_notFit_26.2.2.2.2.1 rfl
theorem dX12_notFit_33 : decode cX12_notFit 33 = .ok (.getfield 8, 3) := dAt wdX12_notFit_26 adX12_notFit_26.2.2.2.2.2.1 rfl
theorem dX12_notFit_36 : decode cX12_notFit 36 = .ok (.iconst 1, 1) := dAt wdX12_notFit_26 adX12_notFit_26.2.2.2.2.2.2.1 rfl
theorem dX12_notFit_37 : decode cX12_notFit 37 = .ok (.iaload, 1) := dAt wdX12_notFit_26 adX12_notFit_26.2.2.2.2.2.2.2.1 rfl
theorem dX12_notFit_38 : decode cX12_notFit 38 = .ok (.if_icmp .ge 18, 3) := dAt wdX12_notFit_26 adX12_notFit_26.2.2.2.2.2.2.2.2.1 rfl
theorem dX12_notFit_41 : decode cX12_notFit 41 = .ok (.iload_n 3, 1) := dAt wdX12_notFit_26 adX12_notFit_26.2.2.2.2.2.2.2.2.2.1 rfl
theorem dX12_notFit_42 : decode cX12_notFit 42 = .ok (.iload_n 2, 1) := dAt wdX12_notFit_26 adX12_notFit_26.2.2.2.2.2.2.2.2.2.2.1 rfl
theorem dX12_notFit_43 : decode cX12_notFit 43 = .ok (.iload 4, 2) := dAt wdX12_notFit_26 adX12_notFit_26.2.2.2.2.2.2.2.2.2.2.2.1 rfl
theorem dX12_notFit_45 : decode cX12_notFit 45 = .ok (.ishr, 1) := dAt wdX12_notFit_26 adX12_notFit_26.2.2.2.2.2.2.2.2.2.2.2.2.1 rfl
theorem dX12_notFit_46 : decode cX12_notFit 46 = .ok (.iconst 1, 1) := dAt wdX12_notFit_26 adX12_notFit_26.2.2.2.2.2.2.2.2.2.2.2.2.2.1 rfl
theorem dX12_notFit_47 : decode cX12_notFit 47 = .ok (.iand, 1) := dAt wdX12_notFit_26 adX12_notFit_26.2.2.2.2.2.2.2.2.2.2.2.2.2.2.1 rfl
theorem dX12_notFit_48 : decode cX12_notFit 48 = .ok (.iadd, 1) := dAt wdX12_notFit_26 adX12_notFit_26.2.2.2.2.2.2.2.2.2.2.2.2.2.2.2 rfl
def bdX12_notFit_49 : ByteArray := .mk #[62, 132, 4, 1, 167, 255, 233, 29, 4, 161, 0, 8, 29, 7, 164, 0, 5, 5, 172, 3, 54, 4, 21, 4, 42, 180, 0, 8]
theorem wdX12_notFit_49 : LocW cX12_notFit 49 bdX12_notFit_49 := loc_of (by decide +kernel)
theorem adX12_notFit_49 : De bdX12_notFit_49 0 (.istore_n 3) 1 ∧ De bdX12_notFit_49 1 (.iinc 4 1) 3 ∧ De bdX12_notFit_49 4 (.goto (-23)) 3 ∧ De bdX12_notFit_49 7 (.iload_n 3) 1 ∧ De bdX12_notFit_49 8 (.iconst 1) 1 ∧ De bdX12_notFit_49 9 (.if_icmp .lt 8) 3 ∧ De bdX12_notFit_49 12 (.iload_n 3) 1 ∧ De bdX12_notFit_49 13 (.iconst 4) 1 ∧ De bdX12_notFit_49 14 (.if_icmp .le 5) 3 ∧ De bdX12_notFit_49 17 (.iconst 2) 1 ∧ De bdX12_notFit_49 18 (.ireturn) 1 ∧ De bdX12_notFit_49 19 (.iconst 0) 1 ∧ De bdX12_notFit_49 20 (.istore 4) 2 ∧ De bdX12_notFit_49 22 (.iload 4) 2 ∧ De bdX12_notFit_49 24 (.aload_n 0) 1 ∧ De bdX12_notFit_49 25 (.getfield 8) 3 := by decide +kernel
theorem dX12_notFit_49 : decode cX12_notFit 49 = .ok (.istore_n 3, 1) := dAt wdX12_notFit_49 adX12_notFit_49.1 rfl
theorem dX12_notFit_50 : decode cX12_notFit 50 = .ok (.iinc 4 1, 3) := dAt wdX12_notFit_49 adX12_notFit_49.2.1 rfl
theorem dX12_notFit_53 : decode cX12_notFit 53 = .ok (.goto (-23), 3) := dAt wdX12_notFit_49 adX12_notFit_49.2.2.1 rfl
theorem dX12_notFit_56 : decode cX12_notFit 56 = .ok (.iload_n 3, 1) := dAt wdX12_notFit_49 adX12_notFit_49.2.2.2.1 rfl
theorem dX12_notFit_57 : decode cX12_notFit 57 = .ok (.iconst 1, 1) := dAt wdX12_notFit_49 adX12_notFit_49.2.2.2.2.1 rfl
theorem dX12_notFit_58 : decode cX12_notFit 58 = .ok (.if_icmp .lt 8, 3) := dAt wdX12_notFit_49 adX12_notFit_49.2.2.2.2.2.1 rfl
theorem dX12_notFit_61 : decode cX12_notFit 61 = .ok (.iload_n 3, 1) := dAt wdX12_notFit_49 adX12_notFit_49.2.2.2.2.2.2.1 rfl
theorem dX12_notFit_62 : decode cX12_notFit 62 = .ok (.iconst 4, 1) := dAt wdX12_notFit_49 adX12_notFit_49.2.2.2.2.2.2.2.1 rfl
theorem dX12_notFit_63 : decode cX12_notFit 63 = .ok (.if_icmp .le 5, 3) := dAt wdX12_notFit_49 adX12_notFit_49.2.2.2.2.2.2.2.2.1 rfl
theorem dX12_notFit_66 : decode cX12_notFit 66 = .ok (.iconst 2, 1) := dAt wdX12_notFit_49 adX12_notFit_49.2.2.2.2.2.2.2.2.2.1 rfl
theorem dX12_notFit_67 : decode cX12_notFit 67 = .ok (.ireturn, 1) := dAt wdX12_notFit_49 adX12_notFit_49.2.2.2.2.2.2.2.2.2.2.1 rfl
theorem dX12_notFit_68 : decode cX12_notFit 68 = .ok (.iconst 0, 1) := dAt wdX12_notFit_49 adX12_notFit_49.2.2.2.2.2.2.2.2.2.2.2.1 rfl
theorem dX12_notFit_69 : decode cX12_notFit 69 = .ok (.istore 4, 2) := dAt wdX12_notFit_49 adX12_notFit_49.2.2.2.2.2.2.2.2.2.2.2.2.1 rfl
theorem dX12_notFit_71 : decode cX12_notFit 71 = .ok (.iload 4, 2) := dAt wdX12_notFit_49 adX12_notFit_49.2.2.2.2.2.2.2.2.2.2.2.2.2.1 rfl
theorem dX12_notFit_73 : decode cX12_notFit 73 = .ok (.aload_n 0, 1) := dAt wdX12_notFit_49 adX12_notFit_49.2.2.2.2.2.2.2.2.2.2.2.2.2.2.1 rfl
theorem dX12_notFit_74 : decode cX12_notFit 74 = .ok (.getfield 8, 3) := dAt wdX12_notFit_49 adX12_notFit_49.2.2.2.2.2.2.2.2.2.2.2.2.2.2.2 rfl
def bdX12_notFit_77 : ByteArray := .mk #[4, 46, 162, 0, 65, 3, 54, 5, 21, 5, 42, 180, 0, 8, 16, 110, 21, 4, 96, 46, 162, 0, 41, 28, 21, 4, 122]
theorem wdX12_notFit_77 : LocW cX12_notFit 77 bdX12_notFit_77 := loc_of (by decide +kernel)
theorem adX12_notFit_77 : De bdX12_notFit_77 0 (.iconst 1) 1 ∧ De bdX12_notFit_77 1 (.iaload) 1 ∧ De bdX12_notFit_77 2 (.if_icmp .ge 65) 3 ∧ De bdX12_notFit_77 5 (.iconst 0) 1 ∧ De bdX12_notFit_77 6 (.istore 5) 2 ∧ De bdX12_notFit_77 8 (.iload 5) 2 ∧ De bdX12_notFit_77 10 (.aload_n 0) 1 ∧ De bdX12_notFit_77 11 (.getfield 8) 3 ∧ De bdX12_notFit_77 14 (.bipush 110) 2 ∧ De bdX12_notFit_77 16 (.iload 4) 2 ∧ De bdX12_notFit_77 18 (.iadd) 1 ∧ De bdX12_notFit_77 19 (.iaload) 1 ∧ De bdX12_notFit_77 20 (.if_icmp .ge 41) 3 ∧ De bdX12_notFit_77 23 (.iload_n 2) 1 ∧ De bdX12_notFit_77 24 (.iload 4) 2 ∧ De bdX12_notFit_77 26 (.ishr) 1 := by decide +kernel
theorem dX12_notFit_77 : decode cX12_notFit 77 = .ok (.iconst 1, 1) := dAt wdX12_notFit_77 adX12_notFit_77.1 rfl
theorem dX12_notFit_78 : decode cX12_notFit 78 = .ok (.iaload, 1) := dAt wdX12_notFit_77 adX12_notFit_77.2.1 rfl
theorem dX12_notFit_79 : decode cX12_notFit 79 = .ok (.if_icmp .ge 65, 3) := dAt wdX12_notFit_77 adX12_notFit_77.2.2.1 rfl
theorem dX12_notFit_82 : decode cX12_notFit 82 = .ok (.iconst 0, 1) := dAt wdX12_notFit_77 adX12_notFit_77.2.2.2.1 rfl
theorem dX12_notFit_83 : decode cX12_notFit 83 = .ok (.istore 5, 2) := dAt wdX12_notFit_77 adX12_notFit_77.2.2.2.2.1 rfl
theorem dX12_notFit_85 : decode cX12_notFit 85 = .ok (.iload 5, 2) := dAt wdX12_notFit_77 adX12_notFit_77.2.2.2.2.2.1 rfl
theorem dX12_notFit_87 : decode cX12_notFit 87 = .ok (.aload_n 0, 1) := dAt wdX12_notFit_77 adX12_notFit_77.2.2.2.2.2.2.1 rfl
theorem dX12_notFit_88 : decode cX12_notFit 88 = .ok (.getfield 8, 3) := dAt wdX12_notFit_77 adX12_notFit_77.2.2.2.2.2.2.2.1 rfl
theorem dX12_notFit_91 : decode cX12_notFit 91 = .ok (.bipush 110, 2) := dAt wdX12_notFit_77 adX12_notFit_77.2.2.2.2.2.2.2.2.1 rfl
theorem dX12_notFit_93 : decode cX12_notFit 93 = .ok (.iload 4, 2) := dAt wdX12_notFit_77 adX12_notFit_77.2.2.2.2.2.2.2.2.2.1 rfl
theorem dX12_notFit_95 : decode cX12_notFit 95 = .ok (.iadd, 1) := dAt wdX12_notFit_77 adX12_notFit_77.2.2.2.2.2.2.2.2.2.2.1 rfl
theorem dX12_notFit_96 : decode cX12_notFit 96 = .ok (.iaload, 1) := dAt wdX12_notFit_77 adX12_notFit_77.2.2.2.2.2.2.2.2.2.2.2.1 rfl
theorem dX12_notFit_97 : decode cX12_notFit 97 = .ok (.if_icmp .ge 41, 3) := dAt wdX12_notFit_77 adX12_notFit_77.2.2.2.2.2.2.2.2.2.2.2.2.1 rfl
theorem dX12_notFit_100 : decode cX12_notFit 100 = .ok (.iload_n 2, 1) := dAt wdX12_notFit_77 adX12_notFit_77.2.2.2.2.2.2.2.2.2.2.2.2.2.1 rfl
theorem dX12_notFit_101 : decode cX12_notFit 101 = .ok (.iload 4, 2) := dAt wdX12_notFit_77 adX12_notFit_77.2.2.2.2.2.2.2.2.2.2.2.2.2.2.1 rfl
theorem dX12_notFit_103 : decode cX12_notFit 103 = .ok (.ishr, 1) := dAt wdX12_notFit_77 adX12_notFit_77.2.2.2.2.2.2.2.2.2.2.2.2.2.2.2 rfl
def bdX12_notFit_104 : ByteArray := .mk #[4, 126, 4, 160, 0, 31, 42, 180, 0, 8, 8, 21, 4, 104, 21, 5, 96, 184, 0, 164, 6, 96, 46, 154, 0, 5]
theorem wdX12_notFit_104 : LocW cX12_notFit 104 bdX12_notFit_104 := loc_of (by decide +kernel)
theorem adX12_notFit_104 : De bdX12_notFit_104 0 (.iconst 1) 1 ∧ De bdX12_notFit_104 1 (.iand) 1 ∧ De bdX12_notFit_104 2 (.iconst 1) 1 ∧ De bdX12_notFit_104 3 (.if_icmp .ne 31) 3 ∧ De bdX12_notFit_104 6 (.aload_n 0) 1 ∧ De bdX12_notFit_104 7 (.getfield 8) 3 ∧ De bdX12_notFit_104 10 (.iconst 5) 1 ∧ De bdX12_notFit_104 11 (.iload 4) 2 ∧ De bdX12_notFit_104 13 (.imul) 1 ∧ De bdX12_notFit_104 14 (.iload 5) 2 ∧ De bdX12_notFit_104 16 (.iadd) 1 ∧ De bdX12_notFit_104 17 (.invokestatic 164) 3 ∧ De bdX12_notFit_104 20 (.iconst 3) 1 ∧ De bdX12_notFit_104 21 (.iadd) 1 ∧ De bdX12_notFit_104 22 (.iaload) 1 ∧ De bdX12_notFit_104 23 (.ifCond .ne 5) 3 := by decide +kernel
theorem dX12_notFit_104 : decode cX12_notFit 104 = .ok (.iconst 1, 1) := dAt wdX12_notFit_104 adX12_notFit_104.1 rfl
theorem dX12_notFit_105 : decode cX12_notFit 105 = .ok (.iand, 1) := dAt wdX12_notFit_104 adX12_notFit_104.2.1 rfl
theorem dX12_notFit_106 : decode cX12_notFit 106 = .ok (.iconst 1, 1) := dAt wdX12_notFit_104 adX12_notFit_104.2.2.1 rfl
theorem dX12_notFit_107 : decode cX12_notFit 107 = .ok (.if_icmp .ne 31, 3) := dAt wdX12_notFit_104 adX12_notFit_104.2.2.2.1 rfl
theorem dX12_notFit_110 : decode cX12_notFit 110 = .ok (.aload_n 0, 1) := dAt wdX12_notFit_104 adX12_notFit_104.2.2.2.2.1 rfl
theorem dX12_notFit_111 : decode cX12_notFit 111 = .ok (.getfield 8, 3) := dAt wdX12_notFit_104 adX12_notFit_104.2.2.2.2.2.1 rfl
theorem dX12_notFit_114 : decode cX12_notFit 114 = .ok (.iconst 5, 1) := dAt wdX12_notFit_104 adX12_notFit_104.2.2.2.2.2.2.1 rfl
theorem dX12_notFit_115 : decode cX12_notFit 115 = .ok (.iload 4, 2) := dAt wdX12_notFit_104 adX12_notFit_104.2.2.2.2.2.2.2.1 rfl
theorem dX12_notFit_117 : decode cX12_notFit 117 = .ok (.imul, 1) := dAt wdX12_notFit_104 adX12_notFit_104.2.2.2.2.2.2.2.2.1 rfl
theorem dX12_notFit_118 : decode cX12_notFit 118 = .ok (.iload 5, 2) := dAt wdX12_notFit_104 adX12_notFit_104.2.2.2.2.2.2.2.2.2.1 rfl
theorem dX12_notFit_120 : decode cX12_notFit 120 = .ok (.iadd, 1) := dAt wdX12_notFit_104 adX12_notFit_104.2.2.2.2.2.2.2.2.2.2.1 rfl
theorem dX12_notFit_121 : decode cX12_notFit 121 = .ok (.invokestatic 164, 3) := dAt wdX12_notFit_104 adX12_notFit_104.2.2.2.2.2.2.2.2.2.2.2.1 rfl
theorem dX12_notFit_124 : decode cX12_notFit 124 = .ok (.iconst 3, 1) := dAt wdX12_notFit_104 adX12_notFit_104.2.2.2.2.2.2.2.2.2.2.2.2.1 rfl
theorem dX12_notFit_125 : decode cX12_notFit 125 = .ok (.iadd, 1) := dAt wdX12_notFit_104 adX12_notFit_104.2.2.2.2.2.2.2.2.2.2.2.2.2.1 rfl
theorem dX12_notFit_126 : decode cX12_notFit 126 = .ok (.iaload, 1) := dAt wdX12_notFit_104 adX12_notFit_104.2.2.2.2.2.2.2.2.2.2.2.2.2.2.1 rfl
theorem dX12_notFit_127 : decode cX12_notFit 127 = .ok (.ifCond .ne 5, 3) := dAt wdX12_notFit_104 adX12_notFit_104.2.2.2.2.2.2.2.2.2.2.2.2.2.2.2 rfl
def bdX12_notFit_130 : ByteArray := .mk #[6, 172, 132, 5, 1, 167, 255, 206, 132, 4, 1, 167, 255, 186, 3, 172]
theorem wdX12_notFit_130 : LocW cX12_notFit 130 bdX12_notFit_130 := loc_of (by decide +kernel)
theorem adX12_notFit_130 : De bdX12_notFit_130 0 (.iconst 3) 1 ∧ De bdX12_notFit_130 1 (.ireturn) 1 ∧ De bdX12_notFit_130 2 (.iinc 5 1) 3 ∧ De bdX12_notFit_130 5 (.goto (-50)) 3 ∧ De bdX12_notFit_130 8 (.iinc 4 1) 3 ∧ De bdX12_notFit_130 11 (.goto (-70)) 3 ∧ De bdX12_notFit_130 14 (.iconst 0) 1 ∧ De bdX12_notFit_130 15 (.ireturn) 1 := by decide +kernel
theorem dX12_notFit_130 : decode cX12_notFit 130 = .ok (.iconst 3, 1) := dAt wdX12_notFit_130 adX12_notFit_130.1 rfl
theorem dX12_notFit_131 : decode cX12_notFit 131 = .ok (.ireturn, 1) := dAt wdX12_notFit_130 adX12_notFit_130.2.1 rfl
theorem dX12_notFit_132 : decode cX12_notFit 132 = .ok (.iinc 5 1, 3) := dAt wdX12_notFit_130 adX12_notFit_130.2.2.1 rfl
theorem dX12_notFit_135 : decode cX12_notFit 135 = .ok (.goto (-50), 3) := dAt wdX12_notFit_130 adX12_notFit_130.2.2.2.1 rfl
theorem dX12_notFit_138 : decode cX12_notFit 138 = .ok (.iinc 4 1, 3) := dAt wdX12_notFit_130 adX12_notFit_130.2.2.2.2.1 rfl
theorem dX12_notFit_141 : decode cX12_notFit 141 = .ok (.goto (-70), 3) := dAt wdX12_notFit_130 adX12_notFit_130.2.2.2.2.2.1 rfl
theorem dX12_notFit_144 : decode cX12_notFit 144 = .ok (.iconst 0, 1) := dAt wdX12_notFit_130 adX12_notFit_130.2.2.2.2.2.2.1 rfl
theorem dX12_notFit_145 : decode cX12_notFit 145 = .ok (.ireturn, 1) := dAt wdX12_notFit_130 adX12_notFit_130.2.2.2.2.2.2.2 rfl
def bdX12_fitting_0 : ByteArray := .mk #[42, 3, 181, 1, 165, 3, 62, 29, 42, 180, 0, 8, 4, 46, 162, 0, 40, 28, 29, 122, 4, 126]
theorem wdX12_fitting_0 : LocW cX12_fitting 0 bdX12_fitting_0 := loc_of (by decide +kernel)
theorem adX12_fitting_0 : De bdX12_fitting_0 0 (.aload_n 0) 1 ∧ De bdX12_fitting_0 1 (.iconst 0) 1 ∧ De bdX12_fitting_0 2 (.putfield 421) 3 ∧ De bdX12_fitting_0 5 (.iconst 0) 1 ∧ De bdX12_fitting_0 6 (.istore_n 3) 1 ∧ De bdX12_fitting_0 7 (.iload_n 3) 1 ∧ De bdX12_fitting_0 8 (.aload_n 0) 1 ∧ De bdX12_fitting_0 9 (.getfield 8) 3 ∧ De bdX12_fitting_0 12 (.iconst 1) 1 ∧ De bdX12_fitting_0 13 (.iaload) 1 ∧ De bdX12_fitting_0 14 (.if_icmp .ge 40) 3 ∧ De bdX12_fitting_0 17 (.iload_n 2) 1 ∧ De bdX12_fitting_0 18 (.iload_n 3) 1 ∧ De bdX12_fitting_0 19 (.ishr) 1 ∧ De bdX12_fitting_0 20 (.iconst 1) 1 ∧ De bdX12_fitting_0 21 (.iand) 1 := by decide +kernel
theorem dX12_fitting_0 : decode cX12_fitting 0 = .ok (.aload_n 0, 1) := dAt wdX12_fitting_0 adX12_fitting_0.1 rfl
theorem dX12_fitting_1 : decode cX12_fitting 1 = .ok (.iconst 0, 1) := dAt wdX12_fitting_0 adX12_fitting_0.2.1 rfl
theorem dX12_fitting_2 : decode cX12_fitting 2 = .ok (.putfield 421, 3) := dAt wdX12_fitting_0 adX12_fitting_0.2.2.1 rfl
theorem dX12_fitting_5 : decode cX12_fitting 5 = .ok (.iconst 0, 1) := dAt wdX12_fitting_0 adX12_fitting_0.2.2.2.1 rfl
theorem dX12_fitting_6 : decode cX12_fitting 6 = .ok (.istore_n 3, 1) := dAt wdX12_fitting_0 adX12_fitting_0.2.2.2.2.1 rfl
theorem dX12_fitting_7 : decode cX12_fitting 7 = .ok (.iload_n 3, 1) := dAt wdX12_fitting_0 adX12_fitting_0.2.2.2.2.2.1 rfl
theorem dX12_fitting_8 : decode cX12_fitting 8 = .ok (.aload_n 0, 1) := dAt wdX12_fitting_0 adX12_fitting_0.2.2.2.2.2.2.1 rfl
theorem dX12_fitting_9 : decode cX12_fitting 9 = .ok (.getfield 8, 3) := dAt wdX12_fitting_0 adX12_fitting_0.2.2.2.2.2.2.2.1 rfl
theorem dX12_fitting_12 : decode cX12_fitting 12 = .ok (.iconst 1, 1) := dAt wdX12_fitting_0 adX12_fitting_0.2.2.2.2.2.2.2.2.1 rfl
theorem dX12_fitting_13 : decode cX12_fitting 13 = .ok (.iaload, 1) := dAt wdX12_fitting_0 adX12_fitting_0.2.2.2.2.2.2.2.2.2.1 rfl
theorem dX12_fitting_14 : decode cX12_fitting 14 = .ok (.if_icmp .ge 40, 3) := dAt wdX12_fitting_0 adX12_fitting_0.2.2.2.2.2.2.2.2.2.2.1 rfl
theorem dX12_fitting_17 : decode cX12_fitting 17 = .ok (.iload_n 2, 1) := dAt wdX12_fitting_0 adX12_fitting_0.2.2.2.2.2.2.2.2.2.2.2.1 rfl
theorem dX12_fitting_18 : decode cX12_fitting 18 = .ok (.iload_n 3, 1) := dAt wdX12_fitting_0 adX12_fitting_0.2.2.2.2.2.2.2.2.2.2.2.2.1 rfl
theorem dX12_fitting_19 : decode cX12_fitting 19 = .ok (.ishr, 1) := dAt wdX12_fitting_0 adX12_fitting_0.2.2.2.2.2.2.2.2.2.2.2.2.2.1 rfl
theorem dX12_fitting_20 : decode cX12_fitting 20 = .ok (.iconst 1, 1) := dAt wdX12_fitting_0 adX12_fitting_0.2.2.2.2.2.2.2.2.2.2.2.2.2.2.1 rfl
theorem dX12_fitting_21 : decode cX12_fitting 21 = .ok (.iand, 1) := dAt wdX12_fitting_0 adX12_fitting_0.2.2.2.2.2.2.2.2.2.2.2.2.2.2.2 rfl
def bdX12_fitting_22 : ByteArray := .mk #[154, 0, 6, 167, 0, 23, 42, 180, 0, 94, 42, 180, 1, 165, 29, 79, 42, 89, 180, 1, 165, 4, 96, 181, 1, 165, 132, 3, 1, 167, 255, 212]
theorem wdX12_fitting_22 : LocW cX12_fitting 22 bdX12_fitting_22 := loc_of (by decide +kernel)
theorem adX12_fitting_22 : De bdX12_fitting_22 0 (.ifCond .ne 6) 3 ∧ De bdX12_fitting_22 3 (.goto 23) 3 ∧ De bdX12_fitting_22 6 (.aload_n 0) 1 ∧ De bdX12_fitting_22 7 (.getfield 94) 3 ∧ De bdX12_fitting_22 10 (.aload_n 0) 1 ∧ De bdX12_fitting_22 11 (.getfield 421) 3 ∧ De bdX12_fitting_22 14 (.iload_n 3) 1 ∧ De bdX12_fitting_22 15 (.iastore) 1 ∧ De bdX12_fitting_22 16 (.aload_n 0) 1 ∧ De bdX12_fitting_22 17 (.dup) 1 ∧ De bdX12_fitting_22 18 (.getfield 421) 3 ∧ De bdX12_fitting_22 21 (.iconst 1) 1 ∧ De bdX12_fitting_22 22 (.iadd) 1 ∧ De bdX12_fitting_22 23 (.putfield 421) 3 ∧ De bdX12_fitting_22 26 (.iinc 3 1) 3 ∧ De bdX12_fitting_22 29 (.goto (-44)) 3 := by decide +kernel
theorem dX12_fitting_22 : decode cX12_fitting 22 = .ok (.ifCond .ne 6, 3) := dAt wdX12_fitting_22 adX12_fitting_22.1 rfl
theorem dX12_fitting_25 : decode cX12_fitting 25 = .ok (.goto 23, 3) := dAt wdX12_fitting_22 adX12_fitting_22.2.1 rfl
theorem dX12_fitting_28 : decode cX12_fitting 28 = .ok (.aload_n 0, 1) := dAt wdX12_fitting_22 adX12_fitting_22.2.2.1 rfl
theorem dX12_fitting_29 : decode cX12_fitting 29 = .ok (.getfield 94, 3) := dAt wdX12_fitting_22 adX12_fitting_22.2.2.2.1 rfl
theorem dX12_fitting_32 : decode cX12_fitting 32 = .ok (.aload_n 0, 1) := dAt wdX12_fitting_22 adX12_fitting_22.2.2.2.2.1 rfl
theorem dX12_fitting_33 : decode cX12_fitting 33 = .ok (.getfield 421, 3) := dAt wdX12_fitting_22 adX12_fitting_22.2.2.2.2.2.1 rfl
theorem dX12_fitting_36 : decode cX12_fitting 36 = .ok (.iload_n 3, 1) := dAt wdX12_fitting_22 adX12_fitting_22.2.2.2.2.2.2.1 rfl
theorem dX12_fitting_37 : decode cX12_fitting 37 = .ok (.iastore, 1) := dAt wdX12_fitting_22 adX12_fitting_22.2.2.2.2.2.2.2.1 rfl
theorem dX12_fitting_38 : decode cX12_fitting 38 = .ok (.aload_n 0, 1) := dAt wdX12_fitting_22 adX12_fitting_22.2.2.2.2.2.2.2.2.1 rfl
theorem dX12_fitting_39 : decode cX12_fitting 39 = .ok (.dup, 1) := dAt wdX12_fitting_22 adX12_fitting_22.2.2.2.2.2.2.2.2.2.1 rfl
theorem dX12_fitting_40 : decode cX12_fitting 40 = .ok (.getfield 421, 3) := dAt wdX12_fitting_22 adX12_fitting_22.2.2.2.2.2.2.2.2.2.2.1 rfl
theorem dX12_fitting_43 : decode cX12_fitting 43 = .ok (.iconst 1, 1) := dAt wdX12_fitting_22 adX12_fitting_22.2.2.2.2.2.2.2.2.2.2.2.1 rfl
theorem dX12_fitting_44 : decode cX12_fitting 44 = .ok (.iadd, 1) := dAt wdX12_fitting_22 adX12_fitting_22.2.2.2.2.2.2.2.2.2.2.2.2.1 rfl
theorem dX12_fitting_45 : decode cX12_fitting 45 = .ok (.putfield 421, 3) := dAt wdX12_fitting_22 adX12_fitting_22.2.2.2.2.2.2.2.2.2.2.2.2.2.1 rfl
theorem dX12_fitting_48 : decode cX12_fitting 48 = .ok (.iinc 3 1, 3) := dAt wdX12_fitting_22 adX12_fitting_22.2.2.2.2.2.2.2.2.2.2.2.2.2.2.1 rfl
theorem dX12_fitting_51 : decode cX12_fitting 51 = .ok (.goto (-44), 3) := dAt wdX12_fitting_22 adX12_fitting_22.2.2.2.2.2.2.2.2.2.2.2.2.2.2.2 rfl
def bdX12_fitting_54 : ByteArray := .mk #[42, 2, 181, 1, 168, 42, 27, 3, 182, 1, 171, 177]
theorem wdX12_fitting_54 : LocW cX12_fitting 54 bdX12_fitting_54 := loc_of (by decide +kernel)
theorem adX12_fitting_54 : De bdX12_fitting_54 0 (.aload_n 0) 1 ∧ De bdX12_fitting_54 1 (.iconst (-1)) 1 ∧ De bdX12_fitting_54 2 (.putfield 424) 3 ∧ De bdX12_fitting_54 5 (.aload_n 0) 1 ∧ De bdX12_fitting_54 6 (.iload_n 1) 1 ∧ De bdX12_fitting_54 7 (.iconst 0) 1 ∧ De bdX12_fitting_54 8 (.invokevirtual 427) 3 ∧ De bdX12_fitting_54 11 (.return_) 1 := by decide +kernel
theorem dX12_fitting_54 : decode cX12_fitting 54 = .ok (.aload_n 0, 1) := dAt wdX12_fitting_54 adX12_fitting_54.1 rfl
theorem dX12_fitting_55 : decode cX12_fitting 55 = .ok (.iconst (-1), 1) := dAt wdX12_fitting_54 adX12_fitting_54.2.1 rfl
theorem dX12_fitting_56 : decode cX12_fitting 56 = .ok (.putfield 424, 3) := dAt wdX12_fitting_54 adX12_fitting_54.2.2.1 rfl
theorem dX12_fitting_59 : decode cX12_fitting 59 = .ok (.aload_n 0, 1) := dAt wdX12_fitting_54 adX12_fitting_54.2.2.2.1 rfl
theorem dX12_fitting_60 : decode cX12_fitting 60 = .ok (.iload_n 1, 1) := dAt wdX12_fitting_54 adX12_fitting_54.2.2.2.2.1 rfl
theorem dX12_fitting_61 : decode cX12_fitting 61 = .ok (.iconst 0, 1) := dAt wdX12_fitting_54 adX12_fitting_54.2.2.2.2.2.1 rfl
theorem dX12_fitting_62 : decode cX12_fitting 62 = .ok (.invokevirtual 427, 3) := dAt wdX12_fitting_54 adX12_fitting_54.2.2.2.2.2.2.1 rfl
theorem dX12_fitting_65 : decode cX12_fitting 65 = .ok (.return_, 1) := dAt wdX12_fitting_54 adX12_fitting_54.2.2.2.2.2.2.2 rfl
def bdX12_columns_0 : ByteArray := .mk #[28, 42, 180, 1, 165, 160, 0, 31, 3, 62, 29, 6, 162, 0, 16, 42, 180, 0, 109, 29, 3, 79, 132, 3, 1, 167, 255, 241]
theorem wdX12_columns_0 : LocW cX12_columns 0 bdX12_columns_0 := loc_of (by decide +kernel)
theorem adX12_columns_0 : De bdX12_columns_0 0 (.iload_n 2) 1 ∧ De bdX12_columns_0 1 (.aload_n 0) 1 ∧ De bdX12_columns_0 2 (.getfield 421) 3 ∧ De bdX12_columns_0 5 (.if_icmp .ne 31) 3 ∧ De bdX12_columns_0 8 (.iconst 0) 1 ∧ De bdX12_columns_0 9 (.istore_n 3) 1 ∧ De bdX12_columns_0 10 (.iload_n 3) 1 ∧ De bdX12_columns_0 11 (.iconst 3) 1 ∧ De bdX12_columns_0 12 (.if_icmp .ge 16) 3 ∧ De bdX12_columns_0 15 (.aload_n 0) 1 ∧ De bdX12_columns_0 16 (.getfield 109) 3 ∧ De bdX12_columns_0 19 (.iload_n 3) 1 ∧ De bdX12_columns_0 20 (.iconst 0) 1 ∧ De bdX12_columns_0 21 (.iastore) 1 ∧ De bdX12_columns_0 22 (.iinc 3 1) 3 ∧ De bdX12_columns_0 25 (.goto (-15)) 3 := by decide +kernel
theorem dX12_columns_0 : decode cX12_columns 0 = .ok (.iload_n 2, 1) := dAt wdX12_columns_0 adX12_columns_0.1 rfl
theorem dX12_columns_1 : decode cX12_columns 1 = .ok (.aload_n 0, 1) := dAt wdX12_columns_0 adX12_columns_0.2.1 rfl
theorem dX12_columns_2 : decode cX12_columns 2 = .ok (.getfield 421, 3) := dAt wdX12_columns_0 adX12_columns_0.2.2.1 rfl
theorem dX12_columns_5 : decode cX12_columns 5 = .ok (.if_icmp .ne 31, 3) := dAt wdX12_columns_0 adX12_columns_0.2.2.2.1 rfl
theorem dX12_columns_8 : decode cX12_columns 8 = .ok (.iconst 0, 1) := dAt wdX12_columns_0 adX12_columns_0.2.2.2.2.1 rfl
theorem dX12_columns_9 : decode cX12_columns 9 = .ok (.istore_n 3, 1) := dAt wdX12_columns_0 adX12_columns_0.2.2.2.2.2.1 rfl
theorem dX12_columns_10 : decode cX12_columns 10 = .ok (.iload_n 3, 1) := dAt wdX12_columns_0 adX12_columns_0.2.2.2.2.2.2.1 rfl
theorem dX12_columns_11 : decode cX12_columns 11 = .ok (.iconst 3, 1) := dAt wdX12_columns_0 adX12_columns_0.2.2.2.2.2.2.2.1 rfl
theorem dX12_columns_12 : decode cX12_columns 12 = .ok (.if_icmp .ge 16, 3) := dAt wdX12_columns_0 adX12_columns_0.2.2.2.2.2.2.2.2.1 rfl
theorem dX12_columns_15 : decode cX12_columns 15 = .ok (.aload_n 0, 1) := dAt wdX12_columns_0 adX12_columns_0.2.2.2.2.2.2.2.2.2.1 rfl
theorem dX12_columns_16 : decode cX12_columns 16 = .ok (.getfield 109, 3) := dAt wdX12_columns_0 adX12_columns_0.2.2.2.2.2.2.2.2.2.2.1 rfl
theorem dX12_columns_19 : decode cX12_columns 19 = .ok (.iload_n 3, 1) := dAt wdX12_columns_0 adX12_columns_0.2.2.2.2.2.2.2.2.2.2.2.1 rfl
theorem dX12_columns_20 : decode cX12_columns 20 = .ok (.iconst 0, 1) := dAt wdX12_columns_0 adX12_columns_0.2.2.2.2.2.2.2.2.2.2.2.2.1 rfl
theorem dX12_columns_21 : decode cX12_columns 21 = .ok (.iastore, 1) := dAt wdX12_columns_0 adX12_columns_0.2.2.2.2.2.2.2.2.2.2.2.2.2.1 rfl
theorem dX12_columns_22 : decode cX12_columns 22 = .ok (.iinc 3 1, 3) := dAt wdX12_columns_0 adX12_columns_0.2.2.2.2.2.2.2.2.2.2.2.2.2.2.1 rfl
theorem dX12_columns_25 : decode cX12_columns 25 = .ok (.goto (-15), 3) := dAt wdX12_columns_0 adX12_columns_0.2.2.2.2.2.2.2.2.2.2.2.2.2.2.2 rfl
def bdX12_columns_28 : ByteArray := .mk #[42, 27, 3, 3, 182, 1, 174, 177, 3, 62, 29, 42, 180, 0, 8, 18, 121, 17, 0, 185, 27, 104, 96]
theorem wdX12_columns_28 : LocW cX12_columns 28 bdX12_columns_28 := loc_of (by decide +kernel)
theorem adX12_columns_28 : De bdX12_columns_28 0 (.aload_n 0) 1 ∧ De bdX12_columns_28 1 (.iload_n 1) 1 ∧ De bdX12_columns_28 2 (.iconst 0) 1 ∧ De bdX12_columns_28 3 (.iconst 0) 1 ∧ De bdX12_columns_28 4 (.invokevirtual 430) 3 ∧ De bdX12_columns_28 7 (.return_) 1 ∧ De bdX12_columns_28 8 (.iconst 0) 1 ∧ De bdX12_columns_28 9 (.istore_n 3) 1 ∧ De bdX12_columns_28 10 (.iload_n 3) 1 ∧ De bdX12_columns_28 11 (.aload_n 0) 1 ∧ De bdX12_columns_28 12 (.getfield 8) 3 ∧ De bdX12_columns_28 15 (.ldc 121) 2 ∧ De bdX12_columns_28 17 (.sipush 185) 3 ∧ De bdX12_columns_28 20 (.iload_n 1) 1 ∧ De bdX12_columns_28 21 (.imul) 1 ∧ De bdX12_columns_28 22 (.iadd) 1 := by decide +kernel
theorem dX12_columns_28 : decode cX12_columns 28 = .ok (.aload_n 0, 1) := dAt wdX12_columns_28 adX12_columns_28.1 rfl
theorem dX12_columns_29 : decode cX12_columns 29 = .ok (.iload_n 1, 1) := dAt wdX12_columns_28 adX12_columns_28.2.1 rfl
theorem dX12_columns_30 : decode cX12_columns 30 = .ok (.iconst 0, 1) := dAt wdX12_columns_28 adX12_columns_28.2.2.1 rfl
theorem dX12_columns_31 : decode cX12_columns 31 = .ok (.iconst 0, 1) := dAt wdX12_columns_28 adX12_columns_28.2.2.2.1 rfl
theorem dX12_columns_32 : decode cX12_columns 32 = .ok (.invokevirtual 430, 3) := dAt wdX12_columns_28 adX12_columns_28.2.2.2.2.1 rfl
theorem dX12_columns_35 : decode cX12_columns 35 = .ok (.return_, 1) := dAt wdX12_columns_28 adX12_columns_28.2.2.2.2.2.1 rfl
theorem dX12_columns_36 : decode cX12_columns 36 = .ok (.iconst 0, 1) := dAt wdX12_columns_28 adX12_columns_28.2.2.2.2.2.2.1 rfl
theorem dX12_columns_37 : decode cX12_columns 37 = .ok (.istore_n 3, 1) := dAt wdX12_columns_28 adX12_columns_28.2.2.2.2.2.2.2.1 rfl
theorem dX12_columns_38 : decode cX12_columns 38 = .ok (.iload_n 3, 1) := dAt wdX12_columns_28 adX12_columns_28.2.2.2.2.2.2.2.2.1 rfl
theorem dX12_columns_39 : decode cX12_columns 39 = .ok (.aload_n 0, 1) := dAt wdX12_columns_28 adX12_columns_28.2.2.2.2.2.2.2.2.2.1 rfl
theorem dX12_columns_40 : decode cX12_columns 40 = .ok (.getfield 8, 3) := dAt wdX12_columns_28 adX12_columns_28.2.2.2.2.2.2.2.2.2.2.1 rfl
theorem dX12_columns_43 : decode cX12_columns 43 = .ok (.ldc 121, 2) := dAt wdX12_columns_28 adX12_columns_28.2.2.2.2.2.2.2.2.2.2.2.1 rfl
theorem dX12_columns_45 : decode cX12_columns 45 = .ok (.sipush 185, 3) := dAt wdX12_columns_28 adX12_columns_28.2.2.2.2.2.2.2.2.2.2.2.2.1 rfl
theorem dX12_columns_48 : decode cX12_columns 48 = .ok (.iload_n 1, 1) := dAt wdX12_columns_28 adX12_columns_28.2.2.2.2.2.2.2.2.2.2.2.2.2.1 rfl
theorem dX12_columns_49 : decode cX12_columns 49 = .ok (.imul, 1) := dAt wdX12_columns_28 adX12_columns_28.2.2.2.2.2.2.2.2.2.2.2.2.2.2.1 rfl
theorem dX12_columns_50 : decode cX12_columns 50 = .ok (.iadd, 1) := dAt wdX12_columns_28 adX12_columns_28.2.2.2.2.2.2.2.2.2.2.2.2.2.2.2 rfl
def bdX12_columns_51 : ByteArray := .mk #[46, 162, 0, 24, 42, 180, 0, 97, 28, 29, 79, 42, 27, 28, 4, 96, 182, 1, 171, 132, 3, 1, 167, 255, 221, 177]
theorem wdX12_columns_51 : LocW cX12_columns 51 bdX12_columns_51 := loc_of (by decide +kernel)
theorem adX12_columns_51 : De bdX12_columns_51 0 (.iaload) 1 ∧ De bdX12_columns_51 1 (.if_icmp .ge 24) 3 ∧ De bdX12_columns_51 4 (.aload_n 0) 1 ∧ De bdX12_columns_51 5 (.getfield 97) 3 ∧ De bdX12_columns_51 8 (.iload_n 2) 1 ∧ De bdX12_columns_51 9 (.iload_n 3) 1 ∧ De bdX12_columns_51 10 (.iastore) 1 ∧ De bdX12_columns_51 11 (.aload_n 0) 1 ∧ De bdX12_columns_51 12 (.iload_n 1) 1 ∧ De bdX12_columns_51 13 (.iload_n 2) 1 ∧ De bdX12_columns_51 14 (.iconst 1) 1 ∧ De bdX12_columns_51 15 (.iadd) 1 ∧ De bdX12_columns_51 16 (.invokevirtual 427) 3 ∧ De bdX12_columns_51 19 (.iinc 3 1) 3 ∧ De bdX12_columns_51 22 (.goto (-35)) 3 ∧ De bdX12_columns_51 25 (.return_) 1 := by decide +kernel
theorem dX12_columns_51 : decode cX12_columns 51 = .ok (.iaload, 1) := dAt wdX12_columns_51 adX12_columns_51.1 rfl
theorem dX12_columns_52 : decode cX12_columns 52 = .ok (.if_icmp .ge 24, 3) := dAt wdX12_columns_51 adX12_columns_51.2.1 rfl
theorem dX12_columns_55 : decode cX12_columns 55 = .ok (.aload_n 0, 1) := dAt wdX12_columns_51 adX12_columns_51.2.2.1 rfl
theorem dX12_columns_56 : decode cX12_columns 56 = .ok (.getfield 97, 3) := dAt wdX12_columns_51 adX12_columns_51.2.2.2.1 rfl
theorem dX12_columns_59 : decode cX12_columns 59 = .ok (.iload_n 2, 1) := dAt wdX12_columns_51 adX12_columns_51.2.2.2.2.1 rfl
theorem dX12_columns_60 : decode cX12_columns 60 = .ok (.iload_n 3, 1) := dAt wdX12_columns_51 adX12_columns_51.2.2.2.2.2.1 rfl
theorem dX12_columns_61 : decode cX12_columns 61 = .ok (.iastore, 1) := dAt wdX12_columns_51 adX12_columns_51.2.2.2.2.2.2.1 rfl
theorem dX12_columns_62 : decode cX12_columns 62 = .ok (.aload_n 0, 1) := dAt wdX12_columns_51 adX12_columns_51.2.2.2.2.2.2.2.1 rfl
theorem dX12_columns_63 : decode cX12_columns 63 = .ok (.iload_n 1, 1) := dAt wdX12_columns_51 adX12_columns_51.2.2.2.2.2.2.2.2.1 rfl
theorem dX12_columns_64 : decode cX12_columns 64 = .ok (.iload_n 2, 1) := dAt wdX12_columns_51 adX12_columns_51.2.2.2.2.2.2.2.2.2.1 rfl
theorem dX12_columns_65 : decode cX12_columns 65 = .ok (.iconst 1, 1) := dAt wdX12_columns_51 adX12_columns_51.2.2.2.2.2.2.2.2.2.2.1 rfl
theorem dX12_columns_66 : decode cX12_columns 66 = .ok (.iadd, 1) := dAt wdX12_columns_51 adX12_columns_51.2.2.2.2.2.2.2.2.2.2.2.1 rfl
theorem dX12_columns_67 : decode cX12_columns 67 = .ok (.invokevirtual 427, 3) := dAt wdX12_columns_51 adX12_columns_51.2.2.2.2.2.2.2.2.2.2.2.2.1 rfl
theorem dX12_columns_70 : decode cX12_columns 70 = .ok (.iinc 3 1, 3) := dAt wdX12_columns_51 adX12_columns_51.2.2.2.2.2.2.2.2.2.2.2.2.2.1 rfl
theorem dX12_columns_73 : decode cX12_columns 73 = .ok (.goto (-35), 3) := dAt wdX12_columns_51 adX12_columns_51.2.2.2.2.2.2.2.2.2.2.2.2.2.2.1 rfl
theorem dX12_columns_76 : decode cX12_columns 76 = .ok (.return_, 1) := dAt wdX12_columns_51 adX12_columns_51.2.2.2.2.2.2.2.2.2.2.2.2.2.2.2 rfl
def bdX12_linesOf_0 : ByteArray := .mk #[3, 62, 3, 54, 4, 21, 4, 28, 162, 0, 28, 29, 42, 180, 0, 8, 8, 27, 104, 21, 4, 96, 184, 0, 164]
theorem wdX12_linesOf_0 : LocW cX12_linesOf 0 bdX12_linesOf_0 := loc_of (by decide +kernel)
theorem adX12_linesOf_0 : De bdX12_linesOf_0 0 (.iconst 0) 1 ∧ De bdX12_linesOf_0 1 (.istore_n 3) 1 ∧ De bdX12_linesOf_0 2 (.iconst 0) 1 ∧ De bdX12_linesOf_0 3 (.istore 4) 2 ∧ De bdX12_linesOf_0 5 (.iload 4) 2 ∧ De bdX12_linesOf_0 7 (.iload_n 2) 1 ∧ De bdX12_linesOf_0 8 (.if_icmp .ge 28) 3 ∧ De bdX12_linesOf_0 11 (.iload_n 3) 1 ∧ De bdX12_linesOf_0 12 (.aload_n 0) 1 ∧ De bdX12_linesOf_0 13 (.getfield 8) 3 ∧ De bdX12_linesOf_0 16 (.iconst 5) 1 ∧ De bdX12_linesOf_0 17 (.iload_n 1) 1 ∧ De bdX12_linesOf_0 18 (.imul) 1 ∧ De bdX12_linesOf_0 19 (.iload 4) 2 ∧ De bdX12_linesOf_0 21 (.iadd) 1 ∧ De bdX12_linesOf_0 22 (.invokestatic 164) 3 := by decide +kernel
theorem dX12_linesOf_0 : decode cX12_linesOf 0 = .ok (.iconst 0, 1) := dAt wdX12_linesOf_0 adX12_linesOf_0.1 rfl
theorem dX12_linesOf_1 : decode cX12_linesOf 1 = .ok (.istore_n 3, 1) := dAt wdX12_linesOf_0 adX12_linesOf_0.2.1 rfl
theorem dX12_linesOf_2 : decode cX12_linesOf 2 = .ok (.iconst 0, 1) := dAt wdX12_linesOf_0 adX12_linesOf_0.2.2.1 rfl
theorem dX12_linesOf_3 : decode cX12_linesOf 3 = .ok (.istore 4, 2) := dAt wdX12_linesOf_0 adX12_linesOf_0.2.2.2.1 rfl
theorem dX12_linesOf_5 : decode cX12_linesOf 5 = .ok (.iload 4, 2) := dAt wdX12_linesOf_0 adX12_linesOf_0.2.2.2.2.1 rfl
theorem dX12_linesOf_7 : decode cX12_linesOf 7 = .ok (.iload_n 2, 1) := dAt wdX12_linesOf_0 adX12_linesOf_0.2.2.2.2.2.1 rfl
theorem dX12_linesOf_8 : decode cX12_linesOf 8 = .ok (.if_icmp .ge 28, 3) := dAt wdX12_linesOf_0 adX12_linesOf_0.2.2.2.2.2.2.1 rfl
theorem dX12_linesOf_11 : decode cX12_linesOf 11 = .ok (.iload_n 3, 1) := dAt wdX12_linesOf_0 adX12_linesOf_0.2.2.2.2.2.2.2.1 rfl
theorem dX12_linesOf_12 : decode cX12_linesOf 12 = .ok (.aload_n 0, 1) := dAt wdX12_linesOf_0 adX12_linesOf_0.2.2.2.2.2.2.2.2.1 rfl
theorem dX12_linesOf_13 : decode cX12_linesOf 13 = .ok (.getfield 8, 3) := dAt wdX12_linesOf_0 adX12_linesOf_0.2.2.2.2.2.2.2.2.2.1 rfl
theorem dX12_linesOf_16 : decode cX12_linesOf 16 = .ok (.iconst 5, 1) := dAt wdX12_linesOf_0 adX12_linesOf_0.2.2.2.2.2.2.2.2.2.2.1 rfl
theorem dX12_linesOf_17 : decode cX12_linesOf 17 = .ok (.iload_n 1, 1) := dAt wdX12_linesOf_0 adX12_linesOf_0.2.2.2.2.2.2.2.2.2.2.2.1 rfl
theorem dX12_linesOf_18 : decode cX12_linesOf 18 = .ok (.imul, 1) := dAt wdX12_linesOf_0 adX12_linesOf_0.2.2.2.2.2.2.2.2.2.2.2.2.1 rfl
theorem dX12_linesOf_19 : decode cX12_linesOf 19 = .ok (.iload 4, 2) := dAt wdX12_linesOf_0 adX12_linesOf_0.2.2.2.2.2.2.2.2.2.2.2.2.2.1 rfl
theorem dX12_linesOf_21 : decode cX12_linesOf 21 = .ok (.iadd, 1) := dAt wdX12_linesOf_0 adX12_linesOf_0.2.2.2.2.2.2.2.2.2.2.2.2.2.2.1 rfl
theorem dX12_linesOf_22 : decode cX12_linesOf 22 = .ok (.invokestatic 164, 3) := dAt wdX12_linesOf_0 adX12_linesOf_0.2.2.2.2.2.2.2.2.2.2.2.2.2.2.2 rfl
def bdX12_linesOf_25 : ByteArray := .mk #[7, 96, 46, 96, 62, 132, 4, 1, 167, 255, 228, 29, 172]
theorem wdX12_linesOf_25 : LocW cX12_linesOf 25 bdX12_linesOf_25 := loc_of (by decide +kernel)
theorem adX12_linesOf_25 : De bdX12_linesOf_25 0 (.iconst 4) 1 ∧ De bdX12_linesOf_25 1 (.iadd) 1 ∧ De bdX12_linesOf_25 2 (.iaload) 1 ∧ De bdX12_linesOf_25 3 (.iadd) 1 ∧ De bdX12_linesOf_25 4 (.istore_n 3) 1 ∧ De bdX12_linesOf_25 5 (.iinc 4 1) 3 ∧ De bdX12_linesOf_25 8 (.goto (-28)) 3 ∧ De bdX12_linesOf_25 11 (.iload_n 3) 1 ∧ De bdX12_linesOf_25 12 (.ireturn) 1 := by decide +kernel
theorem dX12_linesOf_25 : decode cX12_linesOf 25 = .ok (.iconst 4, 1) := dAt wdX12_linesOf_25 adX12_linesOf_25.1 rfl
theorem dX12_linesOf_26 : decode cX12_linesOf 26 = .ok (.iadd, 1) := dAt wdX12_linesOf_25 adX12_linesOf_25.2.1 rfl
theorem dX12_linesOf_27 : decode cX12_linesOf 27 = .ok (.iaload, 1) := dAt wdX12_linesOf_25 adX12_linesOf_25.2.2.1 rfl
theorem dX12_linesOf_28 : decode cX12_linesOf 28 = .ok (.iadd, 1) := dAt wdX12_linesOf_25 adX12_linesOf_25.2.2.2.1 rfl
theorem dX12_linesOf_29 : decode cX12_linesOf 29 = .ok (.istore_n 3, 1) := dAt wdX12_linesOf_25 adX12_linesOf_25.2.2.2.2.1 rfl
theorem dX12_linesOf_30 : decode cX12_linesOf 30 = .ok (.iinc 4 1, 3) := dAt wdX12_linesOf_25 adX12_linesOf_25.2.2.2.2.2.1 rfl
theorem dX12_linesOf_33 : decode cX12_linesOf 33 = .ok (.goto (-28), 3) := dAt wdX12_linesOf_25 adX12_linesOf_25.2.2.2.2.2.2.1 rfl
theorem dX12_linesOf_36 : decode cX12_linesOf 36 = .ok (.iload_n 3, 1) := dAt wdX12_linesOf_25 adX12_linesOf_25.2.2.2.2.2.2.2.1 rfl
theorem dX12_linesOf_37 : decode cX12_linesOf 37 = .ok (.ireturn, 1) := dAt wdX12_linesOf_25 adX12_linesOf_25.2.2.2.2.2.2.2.2 rfl
def bdX12_keeps_0 : ByteArray := .mk #[28, 42, 180, 1, 165, 160, 0, 64, 29, 42, 180, 1, 168, 163, 0, 4, 177, 42, 29, 181, 1, 168, 3, 54, 4, 21, 4, 42]
theorem wdX12_keeps_0 : LocW cX12_keeps 0 bdX12_keeps_0 := loc_of (by decide +kernel)
theorem adX12_keeps_0 : De bdX12_keeps_0 0 (.iload_n 2) 1 ∧ De bdX12_keeps_0 1 (.aload_n 0) 1 ∧ De bdX12_keeps_0 2 (.getfield 421) 3 ∧ De bdX12_keeps_0 5 (.if_icmp .ne 64) 3 ∧ De bdX12_keeps_0 8 (.iload_n 3) 1 ∧ De bdX12_keeps_0 9 (.aload_n 0) 1 ∧ De bdX12_keeps_0 10 (.getfield 424) 3 ∧ De bdX12_keeps_0 13 (.if_icmp .gt 4) 3 ∧ De bdX12_keeps_0 16 (.return_) 1 ∧ De bdX12_keeps_0 17 (.aload_n 0) 1 ∧ De bdX12_keeps_0 18 (.iload_n 3) 1 ∧ De bdX12_keeps_0 19 (.putfield 424) 3 ∧ De bdX12_keeps_0 22 (.iconst 0) 1 ∧ De bdX12_keeps_0 23 (.istore 4) 2 ∧ De bdX12_keeps_0 25 (.iload 4) 2 ∧ De bdX12_keeps_0 27 (.aload_n 0) 1 := by decide +kernel
theorem dX12_keeps_0 : decode cX12_keeps 0 = .ok (.iload_n 2, 1) := dAt wdX12_keeps_0 adX12_keeps_0.1 rfl
theorem dX12_keeps_1 : decode cX12_keeps 1 = .ok (.aload_n 0, 1) := dAt wdX12_keeps_0 adX12_keeps_0.2.1 rfl
theorem dX12_keeps_2 : decode cX12_keeps 2 = .ok (.getfield 421, 3) := dAt wdX12_keeps_0 adX12_keeps_0.2.2.1 rfl
theorem dX12_keeps_5 : decode cX12_keeps 5 = .ok (.if_icmp .ne 64, 3) := dAt wdX12_keeps_0 adX12_keeps_0.2.2.2.1 rfl
theorem dX12_keeps_8 : decode cX12_keeps 8 = .ok (.iload_n 3, 1) := dAt wdX12_keeps_0 adX12_keeps_0.2.2.2.2.1 rfl
theorem dX12_keeps_9 : decode cX12_keeps 9 = .ok (.aload_n 0, 1) := dAt wdX12_keeps_0 adX12_keeps_0.2.2.2.2.2.1 rfl
theorem dX12_keeps_10 : decode cX12_keeps 10 = .ok (.getfield 424, 3) := dAt wdX12_keeps_0 adX12_keeps_0.2.2.2.2.2.2.1 rfl
theorem dX12_keeps_13 : decode cX12_keeps 13 = .ok (.if_icmp .gt 4, 3) := dAt wdX12_keeps_0 adX12_keeps_0.2.2.2.2.2.2.2.1 rfl
theorem dX12_keeps_16 : decode cX12_keeps 16 = .ok (.return_, 1) := dAt wdX12_keeps_0 adX12_keeps_0.2.2.2.2.2.2.2.2.1 rfl
theorem dX12_keeps_17 : decode cX12_keeps 17 = .ok (.aload_n 0, 1) := dAt wdX12_keeps_0 adX12_keeps_0.2.2.2.2.2.2.2.2.2.1 rfl
theorem dX12_keeps_18 : decode cX12_keeps 18 = .ok (.iload_n 3, 1) := dAt wdX12_keeps_0 adX12_keeps_0.2.2.2.2.2.2.2.2.2.2.1 rfl
theorem dX12_keeps_19 : decode cX12_keeps 19 = .ok (.putfield 424, 3) := dAt wdX12_keeps_0 adX12_keeps_0.2.2.2.2.2.2.2.2.2.2.2.1 rfl
theorem dX12_keeps_22 : decode cX12_keeps 22 = .ok (.iconst 0, 1) := dAt wdX12_keeps_0 adX12_keeps_0.2.2.2.2.2.2.2.2.2.2.2.2.1 rfl
theorem dX12_keeps_23 : decode cX12_keeps 23 = .ok (.istore 4, 2) := dAt wdX12_keeps_0 adX12_keeps_0.2.2.2.2.2.2.2.2.2.2.2.2.2.1 rfl
theorem dX12_keeps_25 : decode cX12_keeps 25 = .ok (.iload 4, 2) := dAt wdX12_keeps_0 adX12_keeps_0.2.2.2.2.2.2.2.2.2.2.2.2.2.2.1 rfl
theorem dX12_keeps_27 : decode cX12_keeps 27 = .ok (.aload_n 0, 1) := dAt wdX12_keeps_0 adX12_keeps_0.2.2.2.2.2.2.2.2.2.2.2.2.2.2.2 rfl
def bdX12_keeps_28 : ByteArray := .mk #[180, 1, 165, 162, 0, 37, 42, 180, 0, 103, 21, 4, 42, 180, 0, 97, 21, 4, 46, 79, 42, 180, 0, 106, 21, 4, 42, 180, 0, 100, 21, 4]
theorem wdX12_keeps_28 : LocW cX12_keeps 28 bdX12_keeps_28 := loc_of (by decide +kernel)
theorem adX12_keeps_28 : De bdX12_keeps_28 0 (.getfield 421) 3 ∧ De bdX12_keeps_28 3 (.if_icmp .ge 37) 3 ∧ De bdX12_keeps_28 6 (.aload_n 0) 1 ∧ De bdX12_keeps_28 7 (.getfield 103) 3 ∧ De bdX12_keeps_28 10 (.iload 4) 2 ∧ De bdX12_keeps_28 12 (.aload_n 0) 1 ∧ De bdX12_keeps_28 13 (.getfield 97) 3 ∧ De bdX12_keeps_28 16 (.iload 4) 2 ∧ De bdX12_keeps_28 18 (.iaload) 1 ∧ De bdX12_keeps_28 19 (.iastore) 1 ∧ De bdX12_keeps_28 20 (.aload_n 0) 1 ∧ De bdX12_keeps_28 21 (.getfield 106) 3 ∧ De bdX12_keeps_28 24 (.iload 4) 2 ∧ De bdX12_keeps_28 26 (.aload_n 0) 1 ∧ De bdX12_keeps_28 27 (.getfield 100) 3 ∧ De bdX12_keeps_28 30 (.iload 4) 2 := by decide +kernel
theorem dX12_keeps_28 : decode cX12_keeps 28 = .ok (.getfield 421, 3) := dAt wdX12_keeps_28 adX12_keeps_28.1 rfl
theorem dX12_keeps_31 : decode cX12_keeps 31 = .ok (.if_icmp .ge 37, 3) := dAt wdX12_keeps_28 adX12_keeps_28.2.1 rfl
theorem dX12_keeps_34 : decode cX12_keeps 34 = .ok (.aload_n 0, 1) := dAt wdX12_keeps_28 adX12_keeps_28.2.2.1 rfl
theorem dX12_keeps_35 : decode cX12_keeps 35 = .ok (.getfield 103, 3) := dAt wdX12_keeps_28 adX12_keeps_28.2.2.2.1 rfl
theorem dX12_keeps_38 : decode cX12_keeps 38 = .ok (.iload 4, 2) := dAt wdX12_keeps_28 adX12_keeps_28.2.2.2.2.1 rfl
theorem dX12_keeps_40 : decode cX12_keeps 40 = .ok (.aload_n 0, 1) := dAt wdX12_keeps_28 adX12_keeps_28.2.2.2.2.2.1 rfl
theorem dX12_keeps_41 : decode cX12_keeps 41 = .ok (.getfield 97, 3) := dAt wdX12_keeps_28 adX12_keeps_28.2.2.2.2.2.2.1 rfl
theorem dX12_keeps_44 : decode cX12_keeps 44 = .ok (.iload 4, 2) := dAt wdX12_keeps_28 adX12_keeps_28.2.2.2.2.2.2.2.1 rfl
theorem dX12_keeps_46 : decode cX12_keeps 46 = .ok (.iaload, 1) := dAt wdX12_keeps_28 adX12_keeps_28.2.2.2.2.2.2.2.2.1 rfl
theorem dX12_keeps_47 : decode cX12_keeps 47 = .ok (.iastore, 1) := dAt wdX12_keeps_28 adX12_keeps_28.2.2.2.2.2.2.2.2.2.1 rfl
theorem dX12_keeps_48 : decode cX12_keeps 48 = .ok (.aload_n 0, 1) := dAt wdX12_keeps_28 adX12_keeps_28.2.2.2.2.2.2.2.2.2.2.1 rfl
theorem dX12_keeps_49 : decode cX12_keeps 49 = .ok (.getfield 106, 3) := dAt wdX12_keeps_28 adX12_keeps_28.2.2.2.2.2.2.2.2.2.2.2.1 rfl
theorem dX12_keeps_52 : decode cX12_keeps 52 = .ok (.iload 4, 2) := dAt wdX12_keeps_28 adX12_keeps_28.2.2.2.2.2.2.2.2.2.2.2.2.1 rfl
theorem dX12_keeps_54 : decode cX12_keeps 54 = .ok (.aload_n 0, 1) := dAt wdX12_keeps_28 adX12_keeps_28.2.2.2.2.2.2.2.2.2.2.2.2.2.1 rfl
theorem dX12_keeps_55 : decode cX12_keeps 55 = .ok (.getfield 100, 3) := dAt wdX12_keeps_28 adX12_keeps_28.2.2.2.2.2.2.2.2.2.2.2.2.2.2.1 rfl
theorem dX12_keeps_58 : decode cX12_keeps 58 = .ok (.iload 4, 2) := dAt wdX12_keeps_28 adX12_keeps_28.2.2.2.2.2.2.2.2.2.2.2.2.2.2.2 rfl
def bdX12_keeps_60 : ByteArray := .mk #[46, 79, 132, 4, 1, 167, 255, 216, 177, 42, 180, 0, 97, 28, 46, 54, 4, 42, 180, 0, 8, 16, 110, 42, 180, 0, 94, 28]
theorem wdX12_keeps_60 : LocW cX12_keeps 60 bdX12_keeps_60 := loc_of (by decide +kernel)
theorem adX12_keeps_60 : De bdX12_keeps_60 0 (.iaload) 1 ∧ De bdX12_keeps_60 1 (.iastore) 1 ∧ De bdX12_keeps_60 2 (.iinc 4 1) 3 ∧ De bdX12_keeps_60 5 (.goto (-40)) 3 ∧ De bdX12_keeps_60 8 (.return_) 1 ∧ De bdX12_keeps_60 9 (.aload_n 0) 1 ∧ De bdX12_keeps_60 10 (.getfield 97) 3 ∧ De bdX12_keeps_60 13 (.iload_n 2) 1 ∧ De bdX12_keeps_60 14 (.iaload) 1 ∧ De bdX12_keeps_60 15 (.istore 4) 2 ∧ De bdX12_keeps_60 17 (.aload_n 0) 1 ∧ De bdX12_keeps_60 18 (.getfield 8) 3 ∧ De bdX12_keeps_60 21 (.bipush 110) 2 ∧ De bdX12_keeps_60 23 (.aload_n 0) 1 ∧ De bdX12_keeps_60 24 (.getfield 94) 3 ∧ De bdX12_keeps_60 27 (.iload_n 2) 1 := by decide +kernel
theorem dX12_keeps_60 : decode cX12_keeps 60 = .ok (.iaload, 1) := dAt wdX12_keeps_60 adX12_keeps_60.1 rfl
theorem dX12_keeps_61 : decode cX12_keeps 61 = .ok (.iastore, 1) := dAt wdX12_keeps_60 adX12_keeps_60.2.1 rfl
theorem dX12_keeps_62 : decode cX12_keeps 62 = .ok (.iinc 4 1, 3) := dAt wdX12_keeps_60 adX12_keeps_60.2.2.1 rfl
theorem dX12_keeps_65 : decode cX12_keeps 65 = .ok (.goto (-40), 3) := dAt wdX12_keeps_60 adX12_keeps_60.2.2.2.1 rfl
theorem dX12_keeps_68 : decode cX12_keeps 68 = .ok (.return_, 1) := dAt wdX12_keeps_60 adX12_keeps_60.2.2.2.2.1 rfl
theorem dX12_keeps_69 : decode cX12_keeps 69 = .ok (.aload_n 0, 1) := dAt wdX12_keeps_60 adX12_keeps_60.2.2.2.2.2.1 rfl
theorem dX12_keeps_70 : decode cX12_keeps 70 = .ok (.getfield 97, 3) := dAt wdX12_keeps_60 adX12_keeps_60.2.2.2.2.2.2.1 rfl
theorem dX12_keeps_73 : decode cX12_keeps 73 = .ok (.iload_n 2, 1) := dAt wdX12_keeps_60 adX12_keeps_60.2.2.2.2.2.2.2.1 rfl
theorem dX12_keeps_74 : decode cX12_keeps 74 = .ok (.iaload, 1) := dAt wdX12_keeps_60 adX12_keeps_60.2.2.2.2.2.2.2.2.1 rfl
theorem dX12_keeps_75 : decode cX12_keeps 75 = .ok (.istore 4, 2) := dAt wdX12_keeps_60 adX12_keeps_60.2.2.2.2.2.2.2.2.2.1 rfl
theorem dX12_keeps_77 : decode cX12_keeps 77 = .ok (.aload_n 0, 1) := dAt wdX12_keeps_60 adX12_keeps_60.2.2.2.2.2.2.2.2.2.2.1 rfl
theorem dX12_keeps_78 : decode cX12_keeps 78 = .ok (.getfield 8, 3) := dAt wdX12_keeps_60 adX12_keeps_60.2.2.2.2.2.2.2.2.2.2.2.1 rfl
theorem dX12_keeps_81 : decode cX12_keeps 81 = .ok (.bipush 110, 2) := dAt wdX12_keeps_60 adX12_keeps_60.2.2.2.2.2.2.2.2.2.2.2.2.1 rfl
theorem dX12_keeps_83 : decode cX12_keeps 83 = .ok (.aload_n 0, 1) := dAt wdX12_keeps_60 adX12_keeps_60.2.2.2.2.2.2.2.2.2.2.2.2.2.1 rfl
theorem dX12_keeps_84 : decode cX12_keeps 84 = .ok (.getfield 94, 3) := dAt wdX12_keeps_60 adX12_keeps_60.2.2.2.2.2.2.2.2.2.2.2.2.2.2.1 rfl
theorem dX12_keeps_87 : decode cX12_keeps 87 = .ok (.iload_n 2, 1) := dAt wdX12_keeps_60 adX12_keeps_60.2.2.2.2.2.2.2.2.2.2.2.2.2.2.2 rfl
def bdX12_keeps_88 : ByteArray := .mk #[46, 96, 46, 54, 5, 21, 5, 158, 0, 98, 42, 42, 180, 0, 94, 28, 46, 21, 5, 182, 1, 177, 54, 6, 42, 180, 0, 109]
theorem wdX12_keeps_88 : LocW cX12_keeps 88 bdX12_keeps_88 := loc_of (by decide +kernel)
theorem adX12_keeps_88 : De bdX12_keeps_88 0 (.iaload) 1 ∧ De bdX12_keeps_88 1 (.iadd) 1 ∧ De bdX12_keeps_88 2 (.iaload) 1 ∧ De bdX12_keeps_88 3 (.istore 5) 2 ∧ De bdX12_keeps_88 5 (.iload 5) 2 ∧ De bdX12_keeps_88 7 (.ifCond .le 98) 3 ∧ De bdX12_keeps_88 10 (.aload_n 0) 1 ∧ De bdX12_keeps_88 11 (.aload_n 0) 1 ∧ De bdX12_keeps_88 12 (.getfield 94) 3 ∧ De bdX12_keeps_88 15 (.iload_n 2) 1 ∧ De bdX12_keeps_88 16 (.iaload) 1 ∧ De bdX12_keeps_88 17 (.iload 5) 2 ∧ De bdX12_keeps_88 19 (.invokevirtual 433) 3 ∧ De bdX12_keeps_88 22 (.istore 6) 2 ∧ De bdX12_keeps_88 24 (.aload_n 0) 1 ∧ De bdX12_keeps_88 25 (.getfield 109) 3 := by decide +kernel
theorem dX12_keeps_88 : decode cX12_keeps 88 = .ok (.iaload, 1) := dAt wdX12_keeps_88 adX12_keeps_88.1 rfl
theorem dX12_keeps_89 : decode cX12_keeps 89 = .ok (.iadd, 1) := dAt wdX12_keeps_88 adX12_keeps_88.2.1 rfl
theorem dX12_keeps_90 : decode cX12_keeps 90 = .ok (.iaload, 1) := dAt wdX12_keeps_88 adX12_keeps_88.2.2.1 rfl
theorem dX12_keeps_91 : decode cX12_keeps 91 = .ok (.istore 5, 2) := dAt wdX12_keeps_88 adX12_keeps_88.2.2.2.1 rfl
theorem dX12_keeps_93 : decode cX12_keeps 93 = .ok (.iload 5, 2) := dAt wdX12_keeps_88 adX12_keeps_88.2.2.2.2.1 rfl
theorem dX12_keeps_95 : decode cX12_keeps 95 = .ok (.ifCond .le 98, 3) := dAt wdX12_keeps_88 adX12_keeps_88.2.2.2.2.2.1 rfl
theorem dX12_keeps_98 : decode cX12_keeps 98 = .ok (.aload_n 0, 1) := dAt wdX12_keeps_88 adX12_keeps_88.2.2.2.2.2.2.1 rfl
theorem dX12_keeps_99 : decode cX12_keeps 99 = .ok (.aload_n 0, 1) := dAt wdX12_keeps_88 adX12_keeps_88.2.2.2.2.2.2.2.1 rfl
theorem dX12_keeps_100 : decode cX12_keeps 100 = .ok (.getfield 94, 3) := dAt wdX12_keeps_88 adX12_keeps_88.2.2.2.2.2.2.2.2.1 rfl
theorem dX12_keeps_103 : decode cX12_keeps 103 = .ok (.iload_n 2, 1) := dAt wdX12_keeps_88 adX12_keeps_88.2.2.2.2.2.2.2.2.2.1 rfl
theorem dX12_keeps_104 : decode cX12_keeps 104 = .ok (.iaload, 1) := dAt wdX12_keeps_88 adX12_keeps_88.2.2.2.2.2.2.2.2.2.2.1 rfl
theorem dX12_keeps_105 : decode cX12_keeps 105 = .ok (.iload 5, 2) := dAt wdX12_keeps_88 adX12_keeps_88.2.2.2.2.2.2.2.2.2.2.2.1 rfl
theorem dX12_keeps_107 : decode cX12_keeps 107 = .ok (.invokevirtual 433, 3) := dAt wdX12_keeps_88 adX12_keeps_88.2.2.2.2.2.2.2.2.2.2.2.2.1 rfl
theorem dX12_keeps_110 : decode cX12_keeps 110 = .ok (.istore 6, 2) := dAt wdX12_keeps_88 adX12_keeps_88.2.2.2.2.2.2.2.2.2.2.2.2.2.1 rfl
theorem dX12_keeps_112 : decode cX12_keeps 112 = .ok (.aload_n 0, 1) := dAt wdX12_keeps_88 adX12_keeps_88.2.2.2.2.2.2.2.2.2.2.2.2.2.2.1 rfl
theorem dX12_keeps_113 : decode cX12_keeps 113 = .ok (.getfield 109, 3) := dAt wdX12_keeps_88 adX12_keeps_88.2.2.2.2.2.2.2.2.2.2.2.2.2.2.2 rfl
def bdX12_keeps_116 : ByteArray := .mk #[21, 4, 46, 21, 6, 96, 42, 180, 0, 8, 18, 121, 17, 0, 185, 27, 104, 96, 4, 96, 46, 164, 0, 6, 167, 0, 47]
theorem wdX12_keeps_116 : LocW cX12_keeps 116 bdX12_keeps_116 := loc_of (by decide +kernel)
theorem adX12_keeps_116 : De bdX12_keeps_116 0 (.iload 4) 2 ∧ De bdX12_keeps_116 2 (.iaload) 1 ∧ De bdX12_keeps_116 3 (.iload 6) 2 ∧ De bdX12_keeps_116 5 (.iadd) 1 ∧ De bdX12_keeps_116 6 (.aload_n 0) 1 ∧ De bdX12_keeps_116 7 (.getfield 8) 3 ∧ De bdX12_keeps_116 10 (.ldc 121) 2 ∧ De bdX12_keeps_116 12 (.sipush 185) 3 ∧ De bdX12_keeps_116 15 (.iload_n 1) 1 ∧ De bdX12_keeps_116 16 (.imul) 1 ∧ De bdX12_keeps_116 17 (.iadd) 1 ∧ De bdX12_keeps_116 18 (.iconst 1) 1 ∧ De bdX12_keeps_116 19 (.iadd) 1 ∧ De bdX12_keeps_116 20 (.iaload) 1 ∧ De bdX12_keeps_116 21 (.if_icmp .le 6) 3 ∧ De bdX12_keeps_116 24 (.goto 47) 3 := by decide +kernel
theorem dX12_keeps_116 : decode cX12_keeps 116 = .ok (.iload 4, 2) := dAt wdX12_keeps_116 adX12_keeps_116.1 rfl
theorem dX12_keeps_118 : decode cX12_keeps 118 = .ok (.iaload, 1) := dAt wdX12_keeps_116 adX12_keeps_116.2.1 rfl
theorem dX12_keeps_119 : decode cX12_keeps 119 = .ok (.iload 6, 2) := dAt wdX12_keeps_116 adX12_keeps_116.2.2.1 rfl
theorem dX12_keeps_121 : decode cX12_keeps 121 = .ok (.iadd, 1) := dAt wdX12_keeps_116 adX12_keeps_116.2.2.2.1 rfl
theorem dX12_keeps_122 : decode cX12_keeps 122 = .ok (.aload_n 0, 1) := dAt wdX12_keeps_116 adX12_keeps_116.2.2.2.2.1 rfl
theorem dX12_keeps_123 : decode cX12_keeps 123 = .ok (.getfield 8, 3) := dAt wdX12_keeps_116 adX12_keeps_116.2.2.2.2.2.1 rfl
theorem dX12_keeps_126 : decode cX12_keeps 126 = .ok (.ldc 121, 2) := dAt wdX12_keeps_116 adX12_keeps_116.2.2.2.2.2.2.1 rfl
theorem dX12_keeps_128 : decode cX12_keeps 128 = .ok (.sipush 185, 3) := dAt wdX12_keeps_116 adX12_keeps_116.2.2.2.2.2.2.2.1 rfl
theorem dX12_keeps_131 : decode cX12_keeps 131 = .ok (.iload_n 1, 1) := dAt wdX12_keeps_116 adX12_keeps_116.2.2.2.2.2.2.2.2.1 rfl
theorem dX12_keeps_132 : decode cX12_keeps 132 = .ok (.imul, 1) := dAt wdX12_keeps_116 adX12_keeps_116.2.2.2.2.2.2.2.2.2.1 rfl
theorem dX12_keeps_133 : decode cX12_keeps 133 = .ok (.iadd, 1) := dAt wdX12_keeps_116 adX12_keeps_116.2.2.2.2.2.2.2.2.2.2.1 rfl
theorem dX12_keeps_134 : decode cX12_keeps 134 = .ok (.iconst 1, 1) := dAt wdX12_keeps_116 adX12_keeps_116.2.2.2.2.2.2.2.2.2.2.2.1 rfl
theorem dX12_keeps_135 : decode cX12_keeps 135 = .ok (.iadd, 1) := dAt wdX12_keeps_116 adX12_keeps_116.2.2.2.2.2.2.2.2.2.2.2.2.1 rfl
theorem dX12_keeps_136 : decode cX12_keeps 136 = .ok (.iaload, 1) := dAt wdX12_keeps_116 adX12_keeps_116.2.2.2.2.2.2.2.2.2.2.2.2.2.1 rfl
theorem dX12_keeps_137 : decode cX12_keeps 137 = .ok (.if_icmp .le 6, 3) := dAt wdX12_keeps_116 adX12_keeps_116.2.2.2.2.2.2.2.2.2.2.2.2.2.2.1 rfl
theorem dX12_keeps_140 : decode cX12_keeps 140 = .ok (.goto 47, 3) := dAt wdX12_keeps_116 adX12_keeps_116.2.2.2.2.2.2.2.2.2.2.2.2.2.2.2 rfl
def bdX12_keeps_143 : ByteArray := .mk #[42, 180, 0, 109, 21, 4, 92, 46, 21, 6, 96, 79, 42, 180, 0, 100, 28, 21, 5, 79, 42, 27, 28]
theorem wdX12_keeps_143 : LocW cX12_keeps 143 bdX12_keeps_143 := loc_of (by decide +kernel)
theorem adX12_keeps_143 : De bdX12_keeps_143 0 (.aload_n 0) 1 ∧ De bdX12_keeps_143 1 (.getfield 109) 3 ∧ De bdX12_keeps_143 4 (.iload 4) 2 ∧ De bdX12_keeps_143 6 (.dup2) 1 ∧ De bdX12_keeps_143 7 (.iaload) 1 ∧ De bdX12_keeps_143 8 (.iload 6) 2 ∧ De bdX12_keeps_143 10 (.iadd) 1 ∧ De bdX12_keeps_143 11 (.iastore) 1 ∧ De bdX12_keeps_143 12 (.aload_n 0) 1 ∧ De bdX12_keeps_143 13 (.getfield 100) 3 ∧ De bdX12_keeps_143 16 (.iload_n 2) 1 ∧ De bdX12_keeps_143 17 (.iload 5) 2 ∧ De bdX12_keeps_143 19 (.iastore) 1 ∧ De bdX12_keeps_143 20 (.aload_n 0) 1 ∧ De bdX12_keeps_143 21 (.iload_n 1) 1 ∧ De bdX12_keeps_143 22 (.iload_n 2) 1 := by decide +kernel
theorem dX12_keeps_143 : decode cX12_keeps 143 = .ok (.aload_n 0, 1) := dAt wdX12_keeps_143 adX12_keeps_143.1 rfl
theorem dX12_keeps_144 : decode cX12_keeps 144 = .ok (.getfield 109, 3) := dAt wdX12_keeps_143 adX12_keeps_143.2.1 rfl
theorem dX12_keeps_147 : decode cX12_keeps 147 = .ok (.iload 4, 2) := dAt wdX12_keeps_143 adX12_keeps_143.2.2.1 rfl
theorem dX12_keeps_149 : decode cX12_keeps 149 = .ok (.dup2, 1) := dAt wdX12_keeps_143 adX12_keeps_143.2.2.2.1 rfl
theorem dX12_keeps_150 : decode cX12_keeps 150 = .ok (.iaload, 1) := dAt wdX12_keeps_143 adX12_keeps_143.2.2.2.2.1 rfl
theorem dX12_keeps_151 : decode cX12_keeps 151 = .ok (.iload 6, 2) := dAt wdX12_keeps_143 adX12_keeps_143.2.2.2.2.2.1 rfl
theorem dX12_keeps_153 : decode cX12_keeps 153 = .ok (.iadd, 1) := dAt wdX12_keeps_143 adX12_keeps_143.2.2.2.2.2.2.1 rfl
theorem dX12_keeps_154 : decode cX12_keeps 154 = .ok (.iastore, 1) := dAt wdX12_keeps_143 adX12_keeps_143.2.2.2.2.2.2.2.1 rfl
theorem dX12_keeps_155 : decode cX12_keeps 155 = .ok (.aload_n 0, 1) := dAt wdX12_keeps_143 adX12_keeps_143.2.2.2.2.2.2.2.2.1 rfl
theorem dX12_keeps_156 : decode cX12_keeps 156 = .ok (.getfield 100, 3) := dAt wdX12_keeps_143 adX12_keeps_143.2.2.2.2.2.2.2.2.2.1 rfl
theorem dX12_keeps_159 : decode cX12_keeps 159 = .ok (.iload_n 2, 1) := dAt wdX12_keeps_143 adX12_keeps_143.2.2.2.2.2.2.2.2.2.2.1 rfl
theorem dX12_keeps_160 : decode cX12_keeps 160 = .ok (.iload 5, 2) := dAt wdX12_keeps_143 adX12_keeps_143.2.2.2.2.2.2.2.2.2.2.2.1 rfl
theorem dX12_keeps_162 : decode cX12_keeps 162 = .ok (.iastore, 1) := dAt wdX12_keeps_143 adX12_keeps_143.2.2.2.2.2.2.2.2.2.2.2.2.1 rfl
theorem dX12_keeps_163 : decode cX12_keeps 163 = .ok (.aload_n 0, 1) := dAt wdX12_keeps_143 adX12_keeps_143.2.2.2.2.2.2.2.2.2.2.2.2.2.1 rfl
theorem dX12_keeps_164 : decode cX12_keeps 164 = .ok (.iload_n 1, 1) := dAt wdX12_keeps_143 adX12_keeps_143.2.2.2.2.2.2.2.2.2.2.2.2.2.2.1 rfl
theorem dX12_keeps_165 : decode cX12_keeps 165 = .ok (.iload_n 2, 1) := dAt wdX12_keeps_143 adX12_keeps_143.2.2.2.2.2.2.2.2.2.2.2.2.2.2.2 rfl
def bdX12_keeps_166 : ByteArray := .mk #[4, 96, 29, 21, 6, 96, 182, 1, 174, 42, 180, 0, 109, 21, 4, 92, 46, 21, 6, 100, 79, 132, 5, 255, 167, 255, 159]
theorem wdX12_keeps_166 : LocW cX12_keeps 166 bdX12_keeps_166 := loc_of (by decide +kernel)
theorem adX12_keeps_166 : De bdX12_keeps_166 0 (.iconst 1) 1 ∧ De bdX12_keeps_166 1 (.iadd) 1 ∧ De bdX12_keeps_166 2 (.iload_n 3) 1 ∧ De bdX12_keeps_166 3 (.iload 6) 2 ∧ De bdX12_keeps_166 5 (.iadd) 1 ∧ De bdX12_keeps_166 6 (.invokevirtual 430) 3 ∧ De bdX12_keeps_166 9 (.aload_n 0) 1 ∧ De bdX12_keeps_166 10 (.getfield 109) 3 ∧ De bdX12_keeps_166 13 (.iload 4) 2 ∧ De bdX12_keeps_166 15 (.dup2) 1 ∧ De bdX12_keeps_166 16 (.iaload) 1 ∧ De bdX12_keeps_166 17 (.iload 6) 2 ∧ De bdX12_keeps_166 19 (.isub) 1 ∧ De bdX12_keeps_166 20 (.iastore) 1 ∧ De bdX12_keeps_166 21 (.iinc 5 (-1)) 3 ∧ De bdX12_keeps_166 24 (.goto (-97)) 3 := by decide +kernel
theorem dX12_keeps_166 : decode cX12_keeps 166 = .ok (.iconst 1, 1) := dAt wdX12_keeps_166 adX12_keeps_166.1 rfl
theorem dX12_keeps_167 : decode cX12_keeps 167 = .ok (.iadd, 1) := dAt wdX12_keeps_166 adX12_keeps_166.2.1 rfl
theorem dX12_keeps_168 : decode cX12_keeps 168 = .ok (.iload_n 3, 1) := dAt wdX12_keeps_166 adX12_keeps_166.2.2.1 rfl
theorem dX12_keeps_169 : decode cX12_keeps 169 = .ok (.iload 6, 2) := dAt wdX12_keeps_166 adX12_keeps_166.2.2.2.1 rfl
theorem dX12_keeps_171 : decode cX12_keeps 171 = .ok (.iadd, 1) := dAt wdX12_keeps_166 adX12_keeps_166.2.2.2.2.1 rfl
theorem dX12_keeps_172 : decode cX12_keeps 172 = .ok (.invokevirtual 430, 3) := dAt wdX12_keeps_166 adX12_keeps_166.2.2.2.2.2.1 rfl
theorem dX12_keeps_175 : decode cX12_keeps 175 = .ok (.aload_n 0, 1) := dAt wdX12_keeps_166 adX12_keeps_166.2.2.2.2.2.2.1 rfl
theorem dX12_keeps_176 : decode cX12_keeps 176 = .ok (.getfield 109, 3) := dAt wdX12_keeps_166 adX12_keeps_166.2.2.2.2.2.2.2.1 rfl
theorem dX12_keeps_179 : decode cX12_keeps 179 = .ok (.iload 4, 2) := dAt wdX12_keeps_166 adX12_keeps_166.2.2.2.2.2.2.2.2.1 rfl
theorem dX12_keeps_181 : decode cX12_keeps 181 = .ok (.dup2, 1) := dAt wdX12_keeps_166 adX12_keeps_166.2.2.2.2.2.2.2.2.2.1 rfl
theorem dX12_keeps_182 : decode cX12_keeps 182 = .ok (.iaload, 1) := dAt wdX12_keeps_166 adX12_keeps_166.2.2.2.2.2.2.2.2.2.2.1 rfl
theorem dX12_keeps_183 : decode cX12_keeps 183 = .ok (.iload 6, 2) := dAt wdX12_keeps_166 adX12_keeps_166.2.2.2.2.2.2.2.2.2.2.2.1 rfl
theorem dX12_keeps_185 : decode cX12_keeps 185 = .ok (.isub, 1) := dAt wdX12_keeps_166 adX12_keeps_166.2.2.2.2.2.2.2.2.2.2.2.2.1 rfl
theorem dX12_keeps_186 : decode cX12_keeps 186 = .ok (.iastore, 1) := dAt wdX12_keeps_166 adX12_keeps_166.2.2.2.2.2.2.2.2.2.2.2.2.2.1 rfl
theorem dX12_keeps_187 : decode cX12_keeps 187 = .ok (.iinc 5 (-1), 3) := dAt wdX12_keeps_166 adX12_keeps_166.2.2.2.2.2.2.2.2.2.2.2.2.2.2.1 rfl
theorem dX12_keeps_190 : decode cX12_keeps 190 = .ok (.goto (-97), 3) := dAt wdX12_keeps_166 adX12_keeps_166.2.2.2.2.2.2.2.2.2.2.2.2.2.2.2 rfl
def bdX12_keeps_193 : ByteArray := .mk #[177]
theorem wdX12_keeps_193 : LocW cX12_keeps 193 bdX12_keeps_193 := loc_of (by decide +kernel)
theorem adX12_keeps_193 : De bdX12_keeps_193 0 (.return_) 1 := by decide +kernel
theorem dX12_keeps_193 : decode cX12_keeps 193 = .ok (.return_, 1) := dAt wdX12_keeps_193 adX12_keeps_193 rfl
def bdX12_fit_0 : ByteArray := .mk #[42, 42, 27, 28, 182, 1, 180, 181, 0, 122, 42, 180, 0, 122, 158, 0, 5, 3, 172, 42, 27, 28, 182, 1, 183, 42]
theorem wdX12_fit_0 : LocW cX12_fit 0 bdX12_fit_0 := loc_of (by decide +kernel)
theorem adX12_fit_0 : De bdX12_fit_0 0 (.aload_n 0) 1 ∧ De bdX12_fit_0 1 (.aload_n 0) 1 ∧ De bdX12_fit_0 2 (.iload_n 1) 1 ∧ De bdX12_fit_0 3 (.iload_n 2) 1 ∧ De bdX12_fit_0 4 (.invokevirtual 436) 3 ∧ De bdX12_fit_0 7 (.putfield 122) 3 ∧ De bdX12_fit_0 10 (.aload_n 0) 1 ∧ De bdX12_fit_0 11 (.getfield 122) 3 ∧ De bdX12_fit_0 14 (.ifCond .le 5) 3 ∧ De bdX12_fit_0 17 (.iconst 0) 1 ∧ De bdX12_fit_0 18 (.ireturn) 1 ∧ De bdX12_fit_0 19 (.aload_n 0) 1 ∧ De bdX12_fit_0 20 (.iload_n 1) 1 ∧ De bdX12_fit_0 21 (.iload_n 2) 1 ∧ De bdX12_fit_0 22 (.invokevirtual 439) 3 ∧ De bdX12_fit_0 25 (.aload_n 0) 1 := by decide +kernel
theorem dX12_fit_0 : decode cX12_fit 0 = .ok (.aload_n 0, 1) := dAt wdX12_fit_0 adX12_fit_0.1 rfl
theorem dX12_fit_1 : decode cX12_fit 1 = .ok (.aload_n 0, 1) := dAt wdX12_fit_0 adX12_fit_0.2.1 rfl
theorem dX12_fit_2 : decode cX12_fit 2 = .ok (.iload_n 1, 1) := dAt wdX12_fit_0 adX12_fit_0.2.2.1 rfl
theorem dX12_fit_3 : decode cX12_fit 3 = .ok (.iload_n 2, 1) := dAt wdX12_fit_0 adX12_fit_0.2.2.2.1 rfl
theorem dX12_fit_4 : decode cX12_fit 4 = .ok (.invokevirtual 436, 3) := dAt wdX12_fit_0 adX12_fit_0.2.2.2.2.1 rfl
theorem dX12_fit_7 : decode cX12_fit 7 = .ok (.putfield 122, 3) := dAt wdX12_fit_0 adX12_fit_0.2.2.2.2.2.1 rfl
theorem dX12_fit_10 : decode cX12_fit 10 = .ok (.aload_n 0, 1) := dAt wdX12_fit_0 adX12_fit_0.2.2.2.2.2.2.1 rfl
theorem dX12_fit_11 : decode cX12_fit 11 = .ok (.getfield 122, 3) := dAt wdX12_fit_0 adX12_fit_0.2.2.2.2.2.2.2.1 rfl
theorem dX12_fit_14 : decode cX12_fit 14 = .ok (.ifCond .le 5, 3) := dAt wdX12_fit_0 adX12_fit_0.2.2.2.2.2.2.2.2.1 rfl
theorem dX12_fit_17 : decode cX12_fit 17 = .ok (.iconst 0, 1) := dAt wdX12_fit_0 adX12_fit_0.2.2.2.2.2.2.2.2.2.1 rfl
theorem dX12_fit_18 : decode cX12_fit 18 = .ok (.ireturn, 1) := dAt wdX12_fit_0 adX12_fit_0.2.2.2.2.2.2.2.2.2.2.1 rfl
theorem dX12_fit_19 : decode cX12_fit 19 = .ok (.aload_n 0, 1) := dAt wdX12_fit_0 adX12_fit_0.2.2.2.2.2.2.2.2.2.2.2.1 rfl
theorem dX12_fit_20 : decode cX12_fit 20 = .ok (.iload_n 1, 1) := dAt wdX12_fit_0 adX12_fit_0.2.2.2.2.2.2.2.2.2.2.2.2.1 rfl
theorem dX12_fit_21 : decode cX12_fit 21 = .ok (.iload_n 2, 1) := dAt wdX12_fit_0 adX12_fit_0.2.2.2.2.2.2.2.2.2.2.2.2.2.1 rfl
theorem dX12_fit_22 : decode cX12_fit 22 = .ok (.invokevirtual 439, 3) := dAt wdX12_fit_0 adX12_fit_0.2.2.2.2.2.2.2.2.2.2.2.2.2.2.1 rfl
theorem dX12_fit_25 : decode cX12_fit 25 = .ok (.aload_n 0, 1) := dAt wdX12_fit_0 adX12_fit_0.2.2.2.2.2.2.2.2.2.2.2.2.2.2.2 rfl
def bdX12_fit_26 : ByteArray := .mk #[180, 1, 168, 172]
theorem wdX12_fit_26 : LocW cX12_fit 26 bdX12_fit_26 := loc_of (by decide +kernel)
theorem adX12_fit_26 : De bdX12_fit_26 0 (.getfield 424) 3 ∧ De bdX12_fit_26 3 (.ireturn) 1 := by decide +kernel
theorem dX12_fit_26 : decode cX12_fit 26 = .ok (.getfield 424, 3) := dAt wdX12_fit_26 adX12_fit_26.1 rfl
theorem dX12_fit_29 : decode cX12_fit 29 = .ok (.ireturn, 1) := dAt wdX12_fit_26 adX12_fit_26.2 rfl
def bdX12_fits_0 : ByteArray := .mk #[42, 29, 3, 42, 180, 0, 8, 4, 46, 4, 100, 184, 0, 157, 154, 0, 7, 4, 167, 0, 9, 42, 27, 28]
theorem wdX12_fits_0 : LocW cX12_fits 0 bdX12_fits_0 := loc_of (by decide +kernel)
theorem adX12_fits_0 : De bdX12_fits_0 0 (.aload_n 0) 1 ∧ De bdX12_fits_0 1 (.iload_n 3) 1 ∧ De bdX12_fits_0 2 (.iconst 0) 1 ∧ De bdX12_fits_0 3 (.aload_n 0) 1 ∧ De bdX12_fits_0 4 (.getfield 8) 3 ∧ De bdX12_fits_0 7 (.iconst 1) 1 ∧ De bdX12_fits_0 8 (.iaload) 1 ∧ De bdX12_fits_0 9 (.iconst 1) 1 ∧ De bdX12_fits_0 10 (.isub) 1 ∧ De bdX12_fits_0 11 (.invokestatic 157) 3 ∧ De bdX12_fits_0 14 (.ifCond .ne 7) 3 ∧ De bdX12_fits_0 17 (.iconst 1) 1 ∧ De bdX12_fits_0 18 (.goto 9) 3 ∧ De bdX12_fits_0 21 (.aload_n 0) 1 ∧ De bdX12_fits_0 22 (.iload_n 1) 1 ∧ De bdX12_fits_0 23 (.iload_n 2) 1 := by decide +kernel
theorem dX12_fits_0 : decode cX12_fits 0 = .ok (.aload_n 0, 1) := dAt wdX12_fits_0 adX12_fits_0.1 rfl
theorem dX12_fits_1 : decode cX12_fits 1 = .ok (.iload_n 3, 1) := dAt wdX12_fits_0 adX12_fits_0.2.1 rfl
theorem dX12_fits_2 : decode cX12_fits 2 = .ok (.iconst 0, 1) := dAt wdX12_fits_0 adX12_fits_0.2.2.1 rfl
theorem dX12_fits_3 : decode cX12_fits 3 = .ok (.aload_n 0, 1) := dAt wdX12_fits_0 adX12_fits_0.2.2.2.1 rfl
theorem dX12_fits_4 : decode cX12_fits 4 = .ok (.getfield 8, 3) := dAt wdX12_fits_0 adX12_fits_0.2.2.2.2.1 rfl
theorem dX12_fits_7 : decode cX12_fits 7 = .ok (.iconst 1, 1) := dAt wdX12_fits_0 adX12_fits_0.2.2.2.2.2.1 rfl
theorem dX12_fits_8 : decode cX12_fits 8 = .ok (.iaload, 1) := dAt wdX12_fits_0 adX12_fits_0.2.2.2.2.2.2.1 rfl
theorem dX12_fits_9 : decode cX12_fits 9 = .ok (.iconst 1, 1) := dAt wdX12_fits_0 adX12_fits_0.2.2.2.2.2.2.2.1 rfl
theorem dX12_fits_10 : decode cX12_fits 10 = .ok (.isub, 1) := dAt wdX12_fits_0 adX12_fits_0.2.2.2.2.2.2.2.2.1 rfl
theorem dX12_fits_11 : decode cX12_fits 11 = .ok (.invokestatic 157, 3) := dAt wdX12_fits_0 adX12_fits_0.2.2.2.2.2.2.2.2.2.1 rfl
theorem dX12_fits_14 : decode cX12_fits 14 = .ok (.ifCond .ne 7, 3) := dAt wdX12_fits_0 adX12_fits_0.2.2.2.2.2.2.2.2.2.2.1 rfl
theorem dX12_fits_17 : decode cX12_fits 17 = .ok (.iconst 1, 1) := dAt wdX12_fits_0 adX12_fits_0.2.2.2.2.2.2.2.2.2.2.2.1 rfl
theorem dX12_fits_18 : decode cX12_fits 18 = .ok (.goto 9, 3) := dAt wdX12_fits_0 adX12_fits_0.2.2.2.2.2.2.2.2.2.2.2.2.1 rfl
theorem dX12_fits_21 : decode cX12_fits 21 = .ok (.aload_n 0, 1) := dAt wdX12_fits_0 adX12_fits_0.2.2.2.2.2.2.2.2.2.2.2.2.2.1 rfl
theorem dX12_fits_22 : decode cX12_fits 22 = .ok (.iload_n 1, 1) := dAt wdX12_fits_0 adX12_fits_0.2.2.2.2.2.2.2.2.2.2.2.2.2.2.1 rfl
theorem dX12_fits_23 : decode cX12_fits 23 = .ok (.iload_n 2, 1) := dAt wdX12_fits_0 adX12_fits_0.2.2.2.2.2.2.2.2.2.2.2.2.2.2.2 rfl
def bdX12_fits_24 : ByteArray := .mk #[182, 1, 180, 181, 0, 122, 42, 180, 0, 122, 158, 0, 5, 3, 172, 42, 27, 28, 182, 1, 183, 3, 54, 5, 21, 5, 42, 180, 1, 165]
theorem wdX12_fits_24 : LocW cX12_fits 24 bdX12_fits_24 := loc_of (by decide +kernel)
theorem adX12_fits_24 : De bdX12_fits_24 0 (.invokevirtual 436) 3 ∧ De bdX12_fits_24 3 (.putfield 122) 3 ∧ De bdX12_fits_24 6 (.aload_n 0) 1 ∧ De bdX12_fits_24 7 (.getfield 122) 3 ∧ De bdX12_fits_24 10 (.ifCond .le 5) 3 ∧ De bdX12_fits_24 13 (.iconst 0) 1 ∧ De bdX12_fits_24 14 (.ireturn) 1 ∧ De bdX12_fits_24 15 (.aload_n 0) 1 ∧ De bdX12_fits_24 16 (.iload_n 1) 1 ∧ De bdX12_fits_24 17 (.iload_n 2) 1 ∧ De bdX12_fits_24 18 (.invokevirtual 439) 3 ∧ De bdX12_fits_24 21 (.iconst 0) 1 ∧ De bdX12_fits_24 22 (.istore 5) 2 ∧ De bdX12_fits_24 24 (.iload 5) 2 ∧ De bdX12_fits_24 26 (.aload_n 0) 1 ∧ De bdX12_fits_24 27 (.getfield 421) 3 := by decide +kernel
theorem dX12_fits_24 : decode cX12_fits 24 = .ok (.invokevirtual 436, 3) := dAt wdX12_fits_24 adX12_fits_24.1 rfl
theorem dX12_fits_27 : decode cX12_fits 27 = .ok (.putfield 122, 3) := dAt wdX12_fits_24 adX12_fits_24.2.1 rfl
theorem dX12_fits_30 : decode cX12_fits 30 = .ok (.aload_n 0, 1) := dAt wdX12_fits_24 adX12_fits_24.2.2.1 rfl
theorem dX12_fits_31 : decode cX12_fits 31 = .ok (.getfield 122, 3) := dAt wdX12_fits_24 adX12_fits_24.2.2.2.1 rfl
theorem dX12_fits_34 : decode cX12_fits 34 = .ok (.ifCond .le 5, 3) := dAt wdX12_fits_24 adX12_fits_24.2.2.2.2.1 rfl
theorem dX12_fits_37 : decode cX12_fits 37 = .ok (.iconst 0, 1) := dAt wdX12_fits_24 adX12_fits_24.2.2.2.2.2.1 rfl
theorem dX12_fits_38 : decode cX12_fits 38 = .ok (.ireturn, 1) := dAt wdX12_fits_24 adX12_fits_24.2.2.2.2.2.2.1 rfl
theorem dX12_fits_39 : decode cX12_fits 39 = .ok (.aload_n 0, 1) := dAt wdX12_fits_24 adX12_fits_24.2.2.2.2.2.2.2.1 rfl
theorem dX12_fits_40 : decode cX12_fits 40 = .ok (.iload_n 1, 1) := dAt wdX12_fits_24 adX12_fits_24.2.2.2.2.2.2.2.2.1 rfl
theorem dX12_fits_41 : decode cX12_fits 41 = .ok (.iload_n 2, 1) := dAt wdX12_fits_24 adX12_fits_24.2.2.2.2.2.2.2.2.2.1 rfl
theorem dX12_fits_42 : decode cX12_fits 42 = .ok (.invokevirtual 439, 3) := dAt wdX12_fits_24 adX12_fits_24.2.2.2.2.2.2.2.2.2.2.1 rfl
theorem dX12_fits_45 : decode cX12_fits 45 = .ok (.iconst 0, 1) := dAt wdX12_fits_24 adX12_fits_24.2.2.2.2.2.2.2.2.2.2.2.1 rfl
theorem dX12_fits_46 : decode cX12_fits 46 = .ok (.istore 5, 2) := dAt wdX12_fits_24 adX12_fits_24.2.2.2.2.2.2.2.2.2.2.2.2.1 rfl
theorem dX12_fits_48 : decode cX12_fits 48 = .ok (.iload 5, 2) := dAt wdX12_fits_24 adX12_fits_24.2.2.2.2.2.2.2.2.2.2.2.2.2.1 rfl
theorem dX12_fits_50 : decode cX12_fits 50 = .ok (.aload_n 0, 1) := dAt wdX12_fits_24 adX12_fits_24.2.2.2.2.2.2.2.2.2.2.2.2.2.2.1 rfl
theorem dX12_fits_51 : decode cX12_fits 51 = .ok (.getfield 421, 3) := dAt wdX12_fits_24 adX12_fits_24.2.2.2.2.2.2.2.2.2.2.2.2.2.2.2 rfl
def bdX12_fits_54 : ByteArray := .mk #[162, 0, 51, 42, 180, 1, 168, 2, 159, 0, 43, 42, 180, 0, 94, 21, 5, 46, 29, 160, 0, 26, 21, 4, 153, 0, 13, 42, 180, 0, 106, 21, 5]
theorem wdX12_fits_54 : LocW cX12_fits 54 bdX12_fits_54 := loc_of (by decide +kernel)
theorem adX12_fits_54 : De bdX12_fits_54 0 (.if_icmp .ge 51) 3 ∧ De bdX12_fits_54 3 (.aload_n 0) 1 ∧ De bdX12_fits_54 4 (.getfield 424) 3 ∧ De bdX12_fits_54 7 (.iconst (-1)) 1 ∧ De bdX12_fits_54 8 (.if_icmp .eq 43) 3 ∧ De bdX12_fits_54 11 (.aload_n 0) 1 ∧ De bdX12_fits_54 12 (.getfield 94) 3 ∧ De bdX12_fits_54 15 (.iload 5) 2 ∧ De bdX12_fits_54 17 (.iaload) 1 ∧ De bdX12_fits_54 18 (.iload_n 3) 1 ∧ De bdX12_fits_54 19 (.if_icmp .ne 26) 3 ∧ De bdX12_fits_54 22 (.iload 4) 2 ∧ De bdX12_fits_54 24 (.ifCond .eq 13) 3 ∧ De bdX12_fits_54 27 (.aload_n 0) 1 ∧ De bdX12_fits_54 28 (.getfield 106) 3 ∧ De bdX12_fits_54 31 (.iload 5) 2 := by decide +kernel
theorem dX12_fits_54 : decode cX12_fits 54 = .ok (.if_icmp .ge 51, 3) := dAt wdX12_fits_54 adX12_fits_54.1 rfl
theorem dX12_fits_57 : decode cX12_fits 57 = .ok (.aload_n 0, 1) := dAt wdX12_fits_54 adX12_fits_54.2.1 rfl
theorem dX12_fits_58 : decode cX12_fits 58 = .ok (.getfield 424, 3) := dAt wdX12_fits_54 adX12_fits_54.2.2.1 rfl
theorem dX12_fits_61 : decode cX12_fits 61 = .ok (.iconst (-1), 1) := dAt wdX12_fits_54 adX12_fits_54.2.2.2.1 rfl
theorem dX12_fits_62 : decode cX12_fits 62 = .ok (.if_icmp .eq 43, 3) := dAt wdX12_fits_54 adX12_fits_54.2.2.2.2.1 rfl
theorem dX12_fits_65 : decode cX12_fits 65 = .ok (.aload_n 0, 1) := dAt wdX12_fits_54 adX12_fits_54.2.2.2.2.2.1 rfl
theorem dX12_fits_66 : decode cX12_fits 66 = .ok (.getfield 94, 3) := dAt wdX12_fits_54 adX12_fits_54.2.2.2.2.2.2.1 rfl
theorem dX12_fits_69 : decode cX12_fits 69 = .ok (.iload 5, 2) := dAt wdX12_fits_54 adX12_fits_54.2.2.2.2.2.2.2.1 rfl
theorem dX12_fits_71 : decode cX12_fits 71 = .ok (.iaload, 1) := dAt wdX12_fits_54 adX12_fits_54.2.2.2.2.2.2.2.2.1 rfl
theorem dX12_fits_72 : decode cX12_fits 72 = .ok (.iload_n 3, 1) := dAt wdX12_fits_54 adX12_fits_54.2.2.2.2.2.2.2.2.2.1 rfl
theorem dX12_fits_73 : decode cX12_fits 73 = .ok (.if_icmp .ne 26, 3) := dAt wdX12_fits_54 adX12_fits_54.2.2.2.2.2.2.2.2.2.2.1 rfl
theorem dX12_fits_76 : decode cX12_fits 76 = .ok (.iload 4, 2) := dAt wdX12_fits_54 adX12_fits_54.2.2.2.2.2.2.2.2.2.2.2.1 rfl
theorem dX12_fits_78 : decode cX12_fits 78 = .ok (.ifCond .eq 13, 3) := dAt wdX12_fits_54 adX12_fits_54.2.2.2.2.2.2.2.2.2.2.2.2.1 rfl
theorem dX12_fits_81 : decode cX12_fits 81 = .ok (.aload_n 0, 1) := dAt wdX12_fits_54 adX12_fits_54.2.2.2.2.2.2.2.2.2.2.2.2.2.1 rfl
theorem dX12_fits_82 : decode cX12_fits 82 = .ok (.getfield 106, 3) := dAt wdX12_fits_54 adX12_fits_54.2.2.2.2.2.2.2.2.2.2.2.2.2.2.1 rfl
theorem dX12_fits_85 : decode cX12_fits 85 = .ok (.iload 5, 2) := dAt wdX12_fits_54 adX12_fits_54.2.2.2.2.2.2.2.2.2.2.2.2.2.2.2 rfl
def bdX12_fits_87 : ByteArray := .mk #[46, 167, 0, 10, 42, 180, 0, 103, 21, 5, 46, 172, 132, 5, 1, 167, 255, 202, 2, 172]
theorem wdX12_fits_87 : LocW cX12_fits 87 bdX12_fits_87 := loc_of (by decide +kernel)
theorem adX12_fits_87 : De bdX12_fits_87 0 (.iaload) 1 ∧ De bdX12_fits_87 1 (.goto 10) 3 ∧ De bdX12_fits_87 4 (.aload_n 0) 1 ∧ De bdX12_fits_87 5 (.getfield 103) 3 ∧ De bdX12_fits_87 8 (.iload 5) 2 ∧ De bdX12_fits_87 10 (.iaload) 1 ∧ De bdX12_fits_87 11 (.ireturn) 1 ∧ De bdX12_fits_87 12 (.iinc 5 1) 3 ∧ De bdX12_fits_87 15 (.goto (-54)) 3 ∧ De bdX12_fits_87 18 (.iconst (-1)) 1 ∧ De bdX12_fits_87 19 (.ireturn) 1 := by decide +kernel
theorem dX12_fits_87 : decode cX12_fits 87 = .ok (.iaload, 1) := dAt wdX12_fits_87 adX12_fits_87.1 rfl
theorem dX12_fits_88 : decode cX12_fits 88 = .ok (.goto 10, 3) := dAt wdX12_fits_87 adX12_fits_87.2.1 rfl
theorem dX12_fits_91 : decode cX12_fits 91 = .ok (.aload_n 0, 1) := dAt wdX12_fits_87 adX12_fits_87.2.2.1 rfl
theorem dX12_fits_92 : decode cX12_fits 92 = .ok (.getfield 103, 3) := dAt wdX12_fits_87 adX12_fits_87.2.2.2.1 rfl
theorem dX12_fits_95 : decode cX12_fits 95 = .ok (.iload 5, 2) := dAt wdX12_fits_87 adX12_fits_87.2.2.2.2.1 rfl
theorem dX12_fits_97 : decode cX12_fits 97 = .ok (.iaload, 1) := dAt wdX12_fits_87 adX12_fits_87.2.2.2.2.2.1 rfl
theorem dX12_fits_98 : decode cX12_fits 98 = .ok (.ireturn, 1) := dAt wdX12_fits_87 adX12_fits_87.2.2.2.2.2.2.1 rfl
theorem dX12_fits_99 : decode cX12_fits 99 = .ok (.iinc 5 1, 3) := dAt wdX12_fits_87 adX12_fits_87.2.2.2.2.2.2.2.1 rfl
theorem dX12_fits_102 : decode cX12_fits 102 = .ok (.goto (-54), 3) := dAt wdX12_fits_87 adX12_fits_87.2.2.2.2.2.2.2.2.1 rfl
theorem dX12_fits_105 : decode cX12_fits 105 = .ok (.iconst (-1), 1) := dAt wdX12_fits_87 adX12_fits_87.2.2.2.2.2.2.2.2.2.1 rfl
theorem dX12_fits_106 : decode cX12_fits 106 = .ok (.ireturn, 1) := dAt wdX12_fits_87 adX12_fits_87.2.2.2.2.2.2.2.2.2.2 rfl
def bdX12_lock_0 : ByteArray := .mk #[42, 42, 27, 28, 182, 1, 180, 181, 0, 122, 42, 180, 0, 122, 158, 0, 5, 3, 172, 42, 27, 28, 182, 1, 183, 42]
theorem wdX12_lock_0 : LocW cX12_lock 0 bdX12_lock_0 := loc_of (by decide +kernel)
theorem adX12_lock_0 : De bdX12_lock_0 0 (.aload_n 0) 1 ∧ De bdX12_lock_0 1 (.aload_n 0) 1 ∧ De bdX12_lock_0 2 (.iload_n 1) 1 ∧ De bdX12_lock_0 3 (.iload_n 2) 1 ∧ De bdX12_lock_0 4 (.invokevirtual 436) 3 ∧ De bdX12_lock_0 7 (.putfield 122) 3 ∧ De bdX12_lock_0 10 (.aload_n 0) 1 ∧ De bdX12_lock_0 11 (.getfield 122) 3 ∧ De bdX12_lock_0 14 (.ifCond .le 5) 3 ∧ De bdX12_lock_0 17 (.iconst 0) 1 ∧ De bdX12_lock_0 18 (.ireturn) 1 ∧ De bdX12_lock_0 19 (.aload_n 0) 1 ∧ De bdX12_lock_0 20 (.iload_n 1) 1 ∧ De bdX12_lock_0 21 (.iload_n 2) 1 ∧ De bdX12_lock_0 22 (.invokevirtual 439) 3 ∧ De bdX12_lock_0 25 (.aload_n 0) 1 := by decide +kernel
theorem dX12_lock_0 : decode cX12_lock 0 = .ok (.aload_n 0, 1) := dAt wdX12_lock_0 adX12_lock_0.1 rfl
theorem dX12_lock_1 : decode cX12_lock 1 = .ok (.aload_n 0, 1) := dAt wdX12_lock_0 adX12_lock_0.2.1 rfl
theorem dX12_lock_2 : decode cX12_lock 2 = .ok (.iload_n 1, 1) := dAt wdX12_lock_0 adX12_lock_0.2.2.1 rfl
theorem dX12_lock_3 : decode cX12_lock 3 = .ok (.iload_n 2, 1) := dAt wdX12_lock_0 adX12_lock_0.2.2.2.1 rfl
theorem dX12_lock_4 : decode cX12_lock 4 = .ok (.invokevirtual 436, 3) := dAt wdX12_lock_0 adX12_lock_0.2.2.2.2.1 rfl
theorem dX12_lock_7 : decode cX12_lock 7 = .ok (.putfield 122, 3) := dAt wdX12_lock_0 adX12_lock_0.2.2.2.2.2.1 rfl
theorem dX12_lock_10 : decode cX12_lock 10 = .ok (.aload_n 0, 1) := dAt wdX12_lock_0 adX12_lock_0.2.2.2.2.2.2.1 rfl
theorem dX12_lock_11 : decode cX12_lock 11 = .ok (.getfield 122, 3) := dAt wdX12_lock_0 adX12_lock_0.2.2.2.2.2.2.2.1 rfl
theorem dX12_lock_14 : decode cX12_lock 14 = .ok (.ifCond .le 5, 3) := dAt wdX12_lock_0 adX12_lock_0.2.2.2.2.2.2.2.2.1 rfl
theorem dX12_lock_17 : decode cX12_lock 17 = .ok (.iconst 0, 1) := dAt wdX12_lock_0 adX12_lock_0.2.2.2.2.2.2.2.2.2.1 rfl
theorem dX12_lock_18 : decode cX12_lock 18 = .ok (.ireturn, 1) := dAt wdX12_lock_0 adX12_lock_0.2.2.2.2.2.2.2.2.2.2.1 rfl
theorem dX12_lock_19 : decode cX12_lock 19 = .ok (.aload_n 0, 1) := dAt wdX12_lock_0 adX12_lock_0.2.2.2.2.2.2.2.2.2.2.2.1 rfl
theorem dX12_lock_20 : decode cX12_lock 20 = .ok (.iload_n 1, 1) := dAt wdX12_lock_0 adX12_lock_0.2.2.2.2.2.2.2.2.2.2.2.2.1 rfl
theorem dX12_lock_21 : decode cX12_lock 21 = .ok (.iload_n 2, 1) := dAt wdX12_lock_0 adX12_lock_0.2.2.2.2.2.2.2.2.2.2.2.2.2.1 rfl
theorem dX12_lock_22 : decode cX12_lock 22 = .ok (.invokevirtual 439, 3) := dAt wdX12_lock_0 adX12_lock_0.2.2.2.2.2.2.2.2.2.2.2.2.2.2.1 rfl
theorem dX12_lock_25 : decode cX12_lock 25 = .ok (.aload_n 0, 1) := dAt wdX12_lock_0 adX12_lock_0.2.2.2.2.2.2.2.2.2.2.2.2.2.2.2 rfl
def bdX12_lock_26 : ByteArray := .mk #[180, 1, 168, 2, 159, 0, 7, 4, 167, 0, 4, 3, 62, 3, 54, 4, 21, 4, 42, 180, 1, 165, 162, 0, 95, 29, 153, 0, 91, 3]
theorem wdX12_lock_26 : LocW cX12_lock 26 bdX12_lock_26 := loc_of (by decide +kernel)
theorem adX12_lock_26 : De bdX12_lock_26 0 (.getfield 424) 3 ∧ De bdX12_lock_26 3 (.iconst (-1)) 1 ∧ De bdX12_lock_26 4 (.if_icmp .eq 7) 3 ∧ De bdX12_lock_26 7 (.iconst 1) 1 ∧ De bdX12_lock_26 8 (.goto 4) 3 ∧ De bdX12_lock_26 11 (.iconst 0) 1 ∧ De bdX12_lock_26 12 (.istore_n 3) 1 ∧ De bdX12_lock_26 13 (.iconst 0) 1 ∧ De bdX12_lock_26 14 (.istore 4) 2 ∧ De bdX12_lock_26 16 (.iload 4) 2 ∧ De bdX12_lock_26 18 (.aload_n 0) 1 ∧ De bdX12_lock_26 19 (.getfield 421) 3 ∧ De bdX12_lock_26 22 (.if_icmp .ge 95) 3 ∧ De bdX12_lock_26 25 (.iload_n 3) 1 ∧ De bdX12_lock_26 26 (.ifCond .eq 91) 3 ∧ De bdX12_lock_26 29 (.iconst 0) 1 := by decide +kernel
theorem dX12_lock_26 : decode cX12_lock 26 = .ok (.getfield 424, 3) := dAt wdX12_lock_26 adX12_lock_26.1 rfl
theorem dX12_lock_29 : decode cX12_lock 29 = .ok (.iconst (-1), 1) := dAt wdX12_lock_26 adX12_lock_26.2.1 rfl
theorem dX12_lock_30 : decode cX12_lock 30 = .ok (.if_icmp .eq 7, 3) := dAt wdX12_lock_26 adX12_lock_26.2.2.1 rfl
theorem dX12_lock_33 : decode cX12_lock 33 = .ok (.iconst 1, 1) := dAt wdX12_lock_26 adX12_lock_26.2.2.2.1 rfl
theorem dX12_lock_34 : decode cX12_lock 34 = .ok (.goto 4, 3) := dAt wdX12_lock_26 adX12_lock_26.2.2.2.2.1 rfl
theorem dX12_lock_37 : decode cX12_lock 37 = .ok (.iconst 0, 1) := dAt wdX12_lock_26 adX12_lock_26.2.2.2.2.2.1 rfl
theorem dX12_lock_38 : decode cX12_lock 38 = .ok (.istore_n 3, 1) := dAt wdX12_lock_26 adX12_lock_26.2.2.2.2.2.2.1 rfl
theorem dX12_lock_39 : decode cX12_lock 39 = .ok (.iconst 0, 1) := dAt wdX12_lock_26 adX12_lock_26.2.2.2.2.2.2.2.1 rfl
theorem dX12_lock_40 : decode cX12_lock 40 = .ok (.istore 4, 2) := dAt wdX12_lock_26 adX12_lock_26.2.2.2.2.2.2.2.2.1 rfl
theorem dX12_lock_42 : decode cX12_lock 42 = .ok (.iload 4, 2) := dAt wdX12_lock_26 adX12_lock_26.2.2.2.2.2.2.2.2.2.1 rfl
theorem dX12_lock_44 : decode cX12_lock 44 = .ok (.aload_n 0, 1) := dAt wdX12_lock_26 adX12_lock_26.2.2.2.2.2.2.2.2.2.2.1 rfl
theorem dX12_lock_45 : decode cX12_lock 45 = .ok (.getfield 421, 3) := dAt wdX12_lock_26 adX12_lock_26.2.2.2.2.2.2.2.2.2.2.2.1 rfl
theorem dX12_lock_48 : decode cX12_lock 48 = .ok (.if_icmp .ge 95, 3) := dAt wdX12_lock_26 adX12_lock_26.2.2.2.2.2.2.2.2.2.2.2.2.1 rfl
theorem dX12_lock_51 : decode cX12_lock 51 = .ok (.iload_n 3, 1) := dAt wdX12_lock_26 adX12_lock_26.2.2.2.2.2.2.2.2.2.2.2.2.2.1 rfl
theorem dX12_lock_52 : decode cX12_lock 52 = .ok (.ifCond .eq 91, 3) := dAt wdX12_lock_26 adX12_lock_26.2.2.2.2.2.2.2.2.2.2.2.2.2.2.1 rfl
theorem dX12_lock_55 : decode cX12_lock 55 = .ok (.iconst 0, 1) := dAt wdX12_lock_26 adX12_lock_26.2.2.2.2.2.2.2.2.2.2.2.2.2.2.2 rfl
def bdX12_lock_56 : ByteArray := .mk #[54, 5, 21, 5, 42, 180, 0, 106, 21, 4, 46, 162, 0, 70, 8, 42, 180, 0, 94, 21, 4, 46, 104, 21, 5, 96, 54, 6]
theorem wdX12_lock_56 : LocW cX12_lock 56 bdX12_lock_56 := loc_of (by decide +kernel)
theorem adX12_lock_56 : De bdX12_lock_56 0 (.istore 5) 2 ∧ De bdX12_lock_56 2 (.iload 5) 2 ∧ De bdX12_lock_56 4 (.aload_n 0) 1 ∧ De bdX12_lock_56 5 (.getfield 106) 3 ∧ De bdX12_lock_56 8 (.iload 4) 2 ∧ De bdX12_lock_56 10 (.iaload) 1 ∧ De bdX12_lock_56 11 (.if_icmp .ge 70) 3 ∧ De bdX12_lock_56 14 (.iconst 5) 1 ∧ De bdX12_lock_56 15 (.aload_n 0) 1 ∧ De bdX12_lock_56 16 (.getfield 94) 3 ∧ De bdX12_lock_56 19 (.iload 4) 2 ∧ De bdX12_lock_56 21 (.iaload) 1 ∧ De bdX12_lock_56 22 (.imul) 1 ∧ De bdX12_lock_56 23 (.iload 5) 2 ∧ De bdX12_lock_56 25 (.iadd) 1 ∧ De bdX12_lock_56 26 (.istore 6) 2 := by decide +kernel
theorem dX12_lock_56 : decode cX12_lock 56 = .ok (.istore 5, 2) := dAt wdX12_lock_56 adX12_lock_56.1 rfl
theorem dX12_lock_58 : decode cX12_lock 58 = .ok (.iload 5, 2) := dAt wdX12_lock_56 adX12_lock_56.2.1 rfl
theorem dX12_lock_60 : decode cX12_lock 60 = .ok (.aload_n 0, 1) := dAt wdX12_lock_56 adX12_lock_56.2.2.1 rfl
theorem dX12_lock_61 : decode cX12_lock 61 = .ok (.getfield 106, 3) := dAt wdX12_lock_56 adX12_lock_56.2.2.2.1 rfl
theorem dX12_lock_64 : decode cX12_lock 64 = .ok (.iload 4, 2) := dAt wdX12_lock_56 adX12_lock_56.2.2.2.2.1 rfl
theorem dX12_lock_66 : decode cX12_lock 66 = .ok (.iaload, 1) := dAt wdX12_lock_56 adX12_lock_56.2.2.2.2.2.1 rfl
theorem dX12_lock_67 : decode cX12_lock 67 = .ok (.if_icmp .ge 70, 3) := dAt wdX12_lock_56 adX12_lock_56.2.2.2.2.2.2.1 rfl
theorem dX12_lock_70 : decode cX12_lock 70 = .ok (.iconst 5, 1) := dAt wdX12_lock_56 adX12_lock_56.2.2.2.2.2.2.2.1 rfl
theorem dX12_lock_71 : decode cX12_lock 71 = .ok (.aload_n 0, 1) := dAt wdX12_lock_56 adX12_lock_56.2.2.2.2.2.2.2.2.1 rfl
theorem dX12_lock_72 : decode cX12_lock 72 = .ok (.getfield 94, 3) := dAt wdX12_lock_56 adX12_lock_56.2.2.2.2.2.2.2.2.2.1 rfl
theorem dX12_lock_75 : decode cX12_lock 75 = .ok (.iload 4, 2) := dAt wdX12_lock_56 adX12_lock_56.2.2.2.2.2.2.2.2.2.2.1 rfl
theorem dX12_lock_77 : decode cX12_lock 77 = .ok (.iaload, 1) := dAt wdX12_lock_56 adX12_lock_56.2.2.2.2.2.2.2.2.2.2.2.1 rfl
theorem dX12_lock_78 : decode cX12_lock 78 = .ok (.imul, 1) := dAt wdX12_lock_56 adX12_lock_56.2.2.2.2.2.2.2.2.2.2.2.2.1 rfl
theorem dX12_lock_79 : decode cX12_lock 79 = .ok (.iload 5, 2) := dAt wdX12_lock_56 adX12_lock_56.2.2.2.2.2.2.2.2.2.2.2.2.2.1 rfl
theorem dX12_lock_81 : decode cX12_lock 81 = .ok (.iadd, 1) := dAt wdX12_lock_56 adX12_lock_56.2.2.2.2.2.2.2.2.2.2.2.2.2.2.1 rfl
theorem dX12_lock_82 : decode cX12_lock 82 = .ok (.istore 6, 2) := dAt wdX12_lock_56 adX12_lock_56.2.2.2.2.2.2.2.2.2.2.2.2.2.2.2 rfl
def bdX12_lock_84 : ByteArray := .mk #[3, 54, 7, 21, 7, 42, 180, 0, 8, 21, 6, 184, 0, 164, 7, 96, 46, 162, 0, 30, 29, 153, 0, 18, 42, 21, 6, 21, 7]
theorem wdX12_lock_84 : LocW cX12_lock 84 bdX12_lock_84 := loc_of (by decide +kernel)
theorem adX12_lock_84 : De bdX12_lock_84 0 (.iconst 0) 1 ∧ De bdX12_lock_84 1 (.istore 7) 2 ∧ De bdX12_lock_84 3 (.iload 7) 2 ∧ De bdX12_lock_84 5 (.aload_n 0) 1 ∧ De bdX12_lock_84 6 (.getfield 8) 3 ∧ De bdX12_lock_84 9 (.iload 6) 2 ∧ De bdX12_lock_84 11 (.invokestatic 164) 3 ∧ De bdX12_lock_84 14 (.iconst 4) 1 ∧ De bdX12_lock_84 15 (.iadd) 1 ∧ De bdX12_lock_84 16 (.iaload) 1 ∧ De bdX12_lock_84 17 (.if_icmp .ge 30) 3 ∧ De bdX12_lock_84 20 (.iload_n 3) 1 ∧ De bdX12_lock_84 21 (.ifCond .eq 18) 3 ∧ De bdX12_lock_84 24 (.aload_n 0) 1 ∧ De bdX12_lock_84 25 (.iload 6) 2 ∧ De bdX12_lock_84 27 (.iload 7) 2 := by decide +kernel
theorem dX12_lock_84 : decode cX12_lock 84 = .ok (.iconst 0, 1) := dAt wdX12_lock_84 adX12_lock_84.1 rfl
theorem dX12_lock_85 : decode cX12_lock 85 = .ok (.istore 7, 2) := dAt wdX12_lock_84 adX12_lock_84.2.1 rfl
theorem dX12_lock_87 : decode cX12_lock 87 = .ok (.iload 7, 2) := dAt wdX12_lock_84 adX12_lock_84.2.2.1 rfl
theorem dX12_lock_89 : decode cX12_lock 89 = .ok (.aload_n 0, 1) := dAt wdX12_lock_84 adX12_lock_84.2.2.2.1 rfl
theorem dX12_lock_90 : decode cX12_lock 90 = .ok (.getfield 8, 3) := dAt wdX12_lock_84 adX12_lock_84.2.2.2.2.1 rfl
theorem dX12_lock_93 : decode cX12_lock 93 = .ok (.iload 6, 2) := dAt wdX12_lock_84 adX12_lock_84.2.2.2.2.2.1 rfl
theorem dX12_lock_95 : decode cX12_lock 95 = .ok (.invokestatic 164, 3) := dAt wdX12_lock_84 adX12_lock_84.2.2.2.2.2.2.1 rfl
theorem dX12_lock_98 : decode cX12_lock 98 = .ok (.iconst 4, 1) := dAt wdX12_lock_84 adX12_lock_84.2.2.2.2.2.2.2.1 rfl
theorem dX12_lock_99 : decode cX12_lock 99 = .ok (.iadd, 1) := dAt wdX12_lock_84 adX12_lock_84.2.2.2.2.2.2.2.2.1 rfl
theorem dX12_lock_100 : decode cX12_lock 100 = .ok (.iaload, 1) := dAt wdX12_lock_84 adX12_lock_84.2.2.2.2.2.2.2.2.2.1 rfl
theorem dX12_lock_101 : decode cX12_lock 101 = .ok (.if_icmp .ge 30, 3) := dAt wdX12_lock_84 adX12_lock_84.2.2.2.2.2.2.2.2.2.2.1 rfl
theorem dX12_lock_104 : decode cX12_lock 104 = .ok (.iload_n 3, 1) := dAt wdX12_lock_84 adX12_lock_84.2.2.2.2.2.2.2.2.2.2.2.1 rfl
theorem dX12_lock_105 : decode cX12_lock 105 = .ok (.ifCond .eq 18, 3) := dAt wdX12_lock_84 adX12_lock_84.2.2.2.2.2.2.2.2.2.2.2.2.1 rfl
theorem dX12_lock_108 : decode cX12_lock 108 = .ok (.aload_n 0, 1) := dAt wdX12_lock_84 adX12_lock_84.2.2.2.2.2.2.2.2.2.2.2.2.2.1 rfl
theorem dX12_lock_109 : decode cX12_lock 109 = .ok (.iload 6, 2) := dAt wdX12_lock_84 adX12_lock_84.2.2.2.2.2.2.2.2.2.2.2.2.2.2.1 rfl
theorem dX12_lock_111 : decode cX12_lock 111 = .ok (.iload 7, 2) := dAt wdX12_lock_84 adX12_lock_84.2.2.2.2.2.2.2.2.2.2.2.2.2.2.2 rfl
def bdX12_lock_113 : ByteArray := .mk #[182, 1, 83, 153, 0, 7, 4, 167, 0, 4, 3, 62, 132, 7, 1, 167, 255, 215, 132, 5, 1, 167, 255, 180, 132, 4, 1, 167, 255, 158, 29, 154, 0, 5, 2, 172]
theorem wdX12_lock_113 : LocW cX12_lock 113 bdX12_lock_113 := loc_of (by decide +kernel)
theorem adX12_lock_113 : De bdX12_lock_113 0 (.invokevirtual 339) 3 ∧ De bdX12_lock_113 3 (.ifCond .eq 7) 3 ∧ De bdX12_lock_113 6 (.iconst 1) 1 ∧ De bdX12_lock_113 7 (.goto 4) 3 ∧ De bdX12_lock_113 10 (.iconst 0) 1 ∧ De bdX12_lock_113 11 (.istore_n 3) 1 ∧ De bdX12_lock_113 12 (.iinc 7 1) 3 ∧ De bdX12_lock_113 15 (.goto (-41)) 3 ∧ De bdX12_lock_113 18 (.iinc 5 1) 3 ∧ De bdX12_lock_113 21 (.goto (-76)) 3 ∧ De bdX12_lock_113 24 (.iinc 4 1) 3 ∧ De bdX12_lock_113 27 (.goto (-98)) 3 ∧ De bdX12_lock_113 30 (.iload_n 3) 1 ∧ De bdX12_lock_113 31 (.ifCond .ne 5) 3 ∧ De bdX12_lock_113 34 (.iconst (-1)) 1 ∧ De bdX12_lock_113 35 (.ireturn) 1 := by decide +kernel
theorem dX12_lock_113 : decode cX12_lock 113 = .ok (.invokevirtual 339, 3) := dAt wdX12_lock_113 adX12_lock_113.1 rfl
theorem dX12_lock_116 : decode cX12_lock 116 = .ok (.ifCond .eq 7, 3) := dAt wdX12_lock_113 adX12_lock_113.2.1 rfl
theorem dX12_lock_119 : decode cX12_lock 119 = .ok (.iconst 1, 1) := dAt wdX12_lock_113 adX12_lock_113.2.2.1 rfl
theorem dX12_lock_120 : decode cX12_lock 120 = .ok (.goto 4, 3) := dAt wdX12_lock_113 adX12_lock_113.2.2.2.1 rfl
theorem dX12_lock_123 : decode cX12_lock 123 = .ok (.iconst 0, 1) := dAt wdX12_lock_113 adX12_lock_113.2.2.2.2.1 rfl
theorem dX12_lock_124 : decode cX12_lock 124 = .ok (.istore_n 3, 1) := dAt wdX12_lock_113 adX12_lock_113.2.2.2.2.2.1 rfl
theorem dX12_lock_125 : decode cX12_lock 125 = .ok (.iinc 7 1, 3) := dAt wdX12_lock_113 adX12_lock_113.2.2.2.2.2.2.1 rfl
theorem dX12_lock_128 : decode cX12_lock 128 = .ok (.goto (-41), 3) := dAt wdX12_lock_113 adX12_lock_113.2.2.2.2.2.2.2.1 rfl
theorem dX12_lock_131 : decode cX12_lock 131 = .ok (.iinc 5 1, 3) := dAt wdX12_lock_113 adX12_lock_113.2.2.2.2.2.2.2.2.1 rfl
theorem dX12_lock_134 : decode cX12_lock 134 = .ok (.goto (-76), 3) := dAt wdX12_lock_113 adX12_lock_113.2.2.2.2.2.2.2.2.2.1 rfl
theorem dX12_lock_137 : decode cX12_lock 137 = .ok (.iinc 4 1, 3) := dAt wdX12_lock_113 adX12_lock_113.2.2.2.2.2.2.2.2.2.2.1 rfl
theorem dX12_lock_140 : decode cX12_lock 140 = .ok (.goto (-98), 3) := dAt wdX12_lock_113 adX12_lock_113.2.2.2.2.2.2.2.2.2.2.2.1 rfl
theorem dX12_lock_143 : decode cX12_lock 143 = .ok (.iload_n 3, 1) := dAt wdX12_lock_113 adX12_lock_113.2.2.2.2.2.2.2.2.2.2.2.2.1 rfl
theorem dX12_lock_144 : decode cX12_lock 144 = .ok (.ifCond .ne 5, 3) := dAt wdX12_lock_113 adX12_lock_113.2.2.2.2.2.2.2.2.2.2.2.2.2.1 rfl
theorem dX12_lock_147 : decode cX12_lock 147 = .ok (.iconst (-1), 1) := dAt wdX12_lock_113 adX12_lock_113.2.2.2.2.2.2.2.2.2.2.2.2.2.2.1 rfl
theorem dX12_lock_148 : decode cX12_lock 148 = .ok (.ireturn, 1) := dAt wdX12_lock_113 adX12_lock_113.2.2.2.2.2.2.2.2.2.2.2.2.2.2.2 rfl
def bdX12_lock_149 : ByteArray := .mk #[18, 121, 17, 0, 185, 27, 104, 96, 54, 4, 3, 54, 5, 3, 54, 6, 21, 6, 6, 162, 0, 130, 3, 54, 7, 21, 7]
theorem wdX12_lock_149 : LocW cX12_lock 149 bdX12_lock_149 := loc_of (by decide +kernel)
theorem adX12_lock_149 : De bdX12_lock_149 0 (.ldc 121) 2 ∧ De bdX12_lock_149 2 (.sipush 185) 3 ∧ De bdX12_lock_149 5 (.iload_n 1) 1 ∧ De bdX12_lock_149 6 (.imul) 1 ∧ De bdX12_lock_149 7 (.iadd) 1 ∧ De bdX12_lock_149 8 (.istore 4) 2 ∧ De bdX12_lock_149 10 (.iconst 0) 1 ∧ De bdX12_lock_149 11 (.istore 5) 2 ∧ De bdX12_lock_149 13 (.iconst 0) 1 ∧ De bdX12_lock_149 14 (.istore 6) 2 ∧ De bdX12_lock_149 16 (.iload 6) 2 ∧ De bdX12_lock_149 18 (.iconst 3) 1 ∧ De bdX12_lock_149 19 (.if_icmp .ge 130) 3 ∧ De bdX12_lock_149 22 (.iconst 0) 1 ∧ De bdX12_lock_149 23 (.istore 7) 2 ∧ De bdX12_lock_149 25 (.iload 7) 2 := by decide +kernel
theorem dX12_lock_149 : decode cX12_lock 149 = .ok (.ldc 121, 2) := dAt wdX12_lock_149 adX12_lock_149.1 rfl
theorem dX12_lock_151 : decode cX12_lock 151 = .ok (.sipush 185, 3) := dAt wdX12_lock_149 adX12_lock_149.2.1 rfl
theorem dX12_lock_154 : decode cX12_lock 154 = .ok (.iload_n 1, 1) := dAt wdX12_lock_149 adX12_lock_149.2.2.1 rfl
theorem dX12_lock_155 : decode cX12_lock 155 = .ok (.imul, 1) := dAt wdX12_lock_149 adX12_lock_149.2.2.2.1 rfl
theorem dX12_lock_156 : decode cX12_lock 156 = .ok (.iadd, 1) := dAt wdX12_lock_149 adX12_lock_149.2.2.2.2.1 rfl
theorem dX12_lock_157 : decode cX12_lock 157 = .ok (.istore 4, 2) := dAt wdX12_lock_149 adX12_lock_149.2.2.2.2.2.1 rfl
theorem dX12_lock_159 : decode cX12_lock 159 = .ok (.iconst 0, 1) := dAt wdX12_lock_149 adX12_lock_149.2.2.2.2.2.2.1 rfl
theorem dX12_lock_160 : decode cX12_lock 160 = .ok (.istore 5, 2) := dAt wdX12_lock_149 adX12_lock_149.2.2.2.2.2.2.2.1 rfl
theorem dX12_lock_162 : decode cX12_lock 162 = .ok (.iconst 0, 1) := dAt wdX12_lock_149 adX12_lock_149.2.2.2.2.2.2.2.2.1 rfl
theorem dX12_lock_163 : decode cX12_lock 163 = .ok (.istore 6, 2) := dAt wdX12_lock_149 adX12_lock_149.2.2.2.2.2.2.2.2.2.1 rfl
theorem dX12_lock_165 : decode cX12_lock 165 = .ok (.iload 6, 2) := dAt wdX12_lock_149 adX12_lock_149.2.2.2.2.2.2.2.2.2.2.1 rfl
theorem dX12_lock_167 : decode cX12_lock 167 = .ok (.iconst 3, 1) := dAt wdX12_lock_149 adX12_lock_149.2.2.2.2.2.2.2.2.2.2.2.1 rfl
theorem dX12_lock_168 : decode cX12_lock 168 = .ok (.if_icmp .ge 130, 3) := dAt wdX12_lock_149 adX12_lock_149.2.2.2.2.2.2.2.2.2.2.2.2.1 rfl
theorem dX12_lock_171 : decode cX12_lock 171 = .ok (.iconst 0, 1) := dAt wdX12_lock_149 adX12_lock_149.2.2.2.2.2.2.2.2.2.2.2.2.2.1 rfl
theorem dX12_lock_172 : decode cX12_lock 172 = .ok (.istore 7, 2) := dAt wdX12_lock_149 adX12_lock_149.2.2.2.2.2.2.2.2.2.2.2.2.2.2.1 rfl
theorem dX12_lock_174 : decode cX12_lock 174 = .ok (.iload 7, 2) := dAt wdX12_lock_149 adX12_lock_149.2.2.2.2.2.2.2.2.2.2.2.2.2.2.2 rfl
def bdX12_lock_176 : ByteArray := .mk #[42, 180, 1, 165, 162, 0, 112, 3, 54, 8, 21, 8, 42, 180, 0, 106, 21, 7, 46, 162, 0, 91, 42, 180, 0, 103, 21, 7, 46, 21, 6]
theorem wdX12_lock_176 : LocW cX12_lock 176 bdX12_lock_176 := loc_of (by decide +kernel)
theorem adX12_lock_176 : De bdX12_lock_176 0 (.aload_n 0) 1 ∧ De bdX12_lock_176 1 (.getfield 421) 3 ∧ De bdX12_lock_176 4 (.if_icmp .ge 112) 3 ∧ De bdX12_lock_176 7 (.iconst 0) 1 ∧ De bdX12_lock_176 8 (.istore 8) 2 ∧ De bdX12_lock_176 10 (.iload 8) 2 ∧ De bdX12_lock_176 12 (.aload_n 0) 1 ∧ De bdX12_lock_176 13 (.getfield 106) 3 ∧ De bdX12_lock_176 16 (.iload 7) 2 ∧ De bdX12_lock_176 18 (.iaload) 1 ∧ De bdX12_lock_176 19 (.if_icmp .ge 91) 3 ∧ De bdX12_lock_176 22 (.aload_n 0) 1 ∧ De bdX12_lock_176 23 (.getfield 103) 3 ∧ De bdX12_lock_176 26 (.iload 7) 2 ∧ De bdX12_lock_176 28 (.iaload) 1 ∧ De bdX12_lock_176 29 (.iload 6) 2 := by decide +kernel
theorem dX12_lock_176 : decode cX12_lock 176 = .ok (.aload_n 0, 1) := dAt wdX12_lock_176 adX12_lock_176.1 rfl
theorem dX12_lock_177 : decode cX12_lock 177 = .ok (.getfield 421, 3) := dAt wdX12_lock_176 adX12_lock_176.2.1 rfl
theorem dX12_lock_180 : decode cX12_lock 180 = .ok (.if_icmp .ge 112, 3) := dAt wdX12_lock_176 adX12_lock_176.2.2.1 rfl
theorem dX12_lock_183 : decode cX12_lock 183 = .ok (.iconst 0, 1) := dAt wdX12_lock_176 adX12_lock_176.2.2.2.1 rfl
theorem dX12_lock_184 : decode cX12_lock 184 = .ok (.istore 8, 2) := dAt wdX12_lock_176 adX12_lock_176.2.2.2.2.1 rfl
theorem dX12_lock_186 : decode cX12_lock 186 = .ok (.iload 8, 2) := dAt wdX12_lock_176 adX12_lock_176.2.2.2.2.2.1 rfl
theorem dX12_lock_188 : decode cX12_lock 188 = .ok (.aload_n 0, 1) := dAt wdX12_lock_176 adX12_lock_176.2.2.2.2.2.2.1 rfl
theorem dX12_lock_189 : decode cX12_lock 189 = .ok (.getfield 106, 3) := dAt wdX12_lock_176 adX12_lock_176.2.2.2.2.2.2.2.1 rfl
theorem dX12_lock_192 : decode cX12_lock 192 = .ok (.iload 7, 2) := dAt wdX12_lock_176 adX12_lock_176.2.2.2.2.2.2.2.2.1 rfl
theorem dX12_lock_194 : decode cX12_lock 194 = .ok (.iaload, 1) := dAt wdX12_lock_176 adX12_lock_176.2.2.2.2.2.2.2.2.2.1 rfl
theorem dX12_lock_195 : decode cX12_lock 195 = .ok (.if_icmp .ge 91, 3) := dAt wdX12_lock_176 adX12_lock_176.2.2.2.2.2.2.2.2.2.2.1 rfl
theorem dX12_lock_198 : decode cX12_lock 198 = .ok (.aload_n 0, 1) := dAt wdX12_lock_176 adX12_lock_176.2.2.2.2.2.2.2.2.2.2.2.1 rfl
theorem dX12_lock_199 : decode cX12_lock 199 = .ok (.getfield 103, 3) := dAt wdX12_lock_176 adX12_lock_176.2.2.2.2.2.2.2.2.2.2.2.2.1 rfl
theorem dX12_lock_202 : decode cX12_lock 202 = .ok (.iload 7, 2) := dAt wdX12_lock_176 adX12_lock_176.2.2.2.2.2.2.2.2.2.2.2.2.2.1 rfl
theorem dX12_lock_204 : decode cX12_lock 204 = .ok (.iaload, 1) := dAt wdX12_lock_176 adX12_lock_176.2.2.2.2.2.2.2.2.2.2.2.2.2.2.1 rfl
theorem dX12_lock_205 : decode cX12_lock 205 = .ok (.iload 6, 2) := dAt wdX12_lock_176 adX12_lock_176.2.2.2.2.2.2.2.2.2.2.2.2.2.2.2 rfl
def bdX12_lock_207 : ByteArray := .mk #[160, 0, 79, 8, 42, 180, 0, 94, 21, 7, 46, 104, 21, 8, 96, 184, 0, 164, 54, 9, 3, 54, 10, 21, 10, 42, 180, 0, 8]
theorem wdX12_lock_207 : LocW cX12_lock 207 bdX12_lock_207 := loc_of (by decide +kernel)
theorem adX12_lock_207 : De bdX12_lock_207 0 (.if_icmp .ne 79) 3 ∧ De bdX12_lock_207 3 (.iconst 5) 1 ∧ De bdX12_lock_207 4 (.aload_n 0) 1 ∧ De bdX12_lock_207 5 (.getfield 94) 3 ∧ De bdX12_lock_207 8 (.iload 7) 2 ∧ De bdX12_lock_207 10 (.iaload) 1 ∧ De bdX12_lock_207 11 (.imul) 1 ∧ De bdX12_lock_207 12 (.iload 8) 2 ∧ De bdX12_lock_207 14 (.iadd) 1 ∧ De bdX12_lock_207 15 (.invokestatic 164) 3 ∧ De bdX12_lock_207 18 (.istore 9) 2 ∧ De bdX12_lock_207 20 (.iconst 0) 1 ∧ De bdX12_lock_207 21 (.istore 10) 2 ∧ De bdX12_lock_207 23 (.iload 10) 2 ∧ De bdX12_lock_207 25 (.aload_n 0) 1 ∧ De bdX12_lock_207 26 (.getfield 8) 3 := by decide +kernel
theorem dX12_lock_207 : decode cX12_lock 207 = .ok (.if_icmp .ne 79, 3) := dAt wdX12_lock_207 adX12_lock_207.1 rfl
theorem dX12_lock_210 : decode cX12_lock 210 = .ok (.iconst 5, 1) := dAt wdX12_lock_207 adX12_lock_207.2.1 rfl
theorem dX12_lock_211 : decode cX12_lock 211 = .ok (.aload_n 0, 1) := dAt wdX12_lock_207 adX12_lock_207.2.2.1 rfl
theorem dX12_lock_212 : decode cX12_lock 212 = .ok (.getfield 94, 3) := dAt wdX12_lock_207 adX12_lock_207.2.2.2.1 rfl
theorem dX12_lock_215 : decode cX12_lock 215 = .ok (.iload 7, 2) := dAt wdX12_lock_207 adX12_lock_207.2.2.2.2.1 rfl
theorem dX12_lock_217 : decode cX12_lock 217 = .ok (.iaload, 1) := dAt wdX12_lock_207 adX12_lock_207.2.2.2.2.2.1 rfl
theorem dX12_lock_218 : decode cX12_lock 218 = .ok (.imul, 1) := dAt wdX12_lock_207 adX12_lock_207.2.2.2.2.2.2.1 rfl
theorem dX12_lock_219 : decode cX12_lock 219 = .ok (.iload 8, 2) := dAt wdX12_lock_207 adX12_lock_207.2.2.2.2.2.2.2.1 rfl
theorem dX12_lock_221 : decode cX12_lock 221 = .ok (.iadd, 1) := dAt wdX12_lock_207 adX12_lock_207.2.2.2.2.2.2.2.2.1 rfl
theorem dX12_lock_222 : decode cX12_lock 222 = .ok (.invokestatic 164, 3) := dAt wdX12_lock_207 adX12_lock_207.2.2.2.2.2.2.2.2.2.1 rfl
theorem dX12_lock_225 : decode cX12_lock 225 = .ok (.istore 9, 2) := dAt wdX12_lock_207 adX12_lock_207.2.2.2.2.2.2.2.2.2.2.1 rfl
theorem dX12_lock_227 : decode cX12_lock 227 = .ok (.iconst 0, 1) := dAt wdX12_lock_207 adX12_lock_207.2.2.2.2.2.2.2.2.2.2.2.1 rfl
theorem dX12_lock_228 : decode cX12_lock 228 = .ok (.istore 10, 2) := dAt wdX12_lock_207 adX12_lock_207.2.2.2.2.2.2.2.2.2.2.2.2.1 rfl
theorem dX12_lock_230 : decode cX12_lock 230 = .ok (.iload 10, 2) := dAt wdX12_lock_207 adX12_lock_207.2.2.2.2.2.2.2.2.2.2.2.2.2.1 rfl
theorem dX12_lock_232 : decode cX12_lock 232 = .ok (.aload_n 0, 1) := dAt wdX12_lock_207 adX12_lock_207.2.2.2.2.2.2.2.2.2.2.2.2.2.2.1 rfl
theorem dX12_lock_233 : decode cX12_lock 233 = .ok (.getfield 8, 3) := dAt wdX12_lock_207 adX12_lock_207.2.2.2.2.2.2.2.2.2.2.2.2.2.2.2 rfl
def bdX12_lock_236 : ByteArray := .mk #[21, 9, 7, 96, 46, 162, 0, 39, 42, 180, 0, 8, 21, 4, 8, 96, 21, 5, 96, 42, 180, 0, 8, 21, 9, 16, 45]
theorem wdX12_lock_236 : LocW cX12_lock 236 bdX12_lock_236 := loc_of (by decide +kernel)
theorem adX12_lock_236 : De bdX12_lock_236 0 (.iload 9) 2 ∧ De bdX12_lock_236 2 (.iconst 4) 1 ∧ De bdX12_lock_236 3 (.iadd) 1 ∧ De bdX12_lock_236 4 (.iaload) 1 ∧ De bdX12_lock_236 5 (.if_icmp .ge 39) 3 ∧ De bdX12_lock_236 8 (.aload_n 0) 1 ∧ De bdX12_lock_236 9 (.getfield 8) 3 ∧ De bdX12_lock_236 12 (.iload 4) 2 ∧ De bdX12_lock_236 14 (.iconst 5) 1 ∧ De bdX12_lock_236 15 (.iadd) 1 ∧ De bdX12_lock_236 16 (.iload 5) 2 ∧ De bdX12_lock_236 18 (.iadd) 1 ∧ De bdX12_lock_236 19 (.aload_n 0) 1 ∧ De bdX12_lock_236 20 (.getfield 8) 3 ∧ De bdX12_lock_236 23 (.iload 9) 2 ∧ De bdX12_lock_236 25 (.bipush 45) 2 := by decide +kernel
theorem dX12_lock_236 : decode cX12_lock 236 = .ok (.iload 9, 2) := dAt wdX12_lock_236 adX12_lock_236.1 rfl
theorem dX12_lock_238 : decode cX12_lock 238 = .ok (.iconst 4, 1) := dAt wdX12_lock_236 adX12_lock_236.2.1 rfl
theorem dX12_lock_239 : decode cX12_lock 239 = .ok (.iadd, 1) := dAt wdX12_lock_236 adX12_lock_236.2.2.1 rfl
theorem dX12_lock_240 : decode cX12_lock 240 = .ok (.iaload, 1) := dAt wdX12_lock_236 adX12_lock_236.2.2.2.1 rfl
theorem dX12_lock_241 : decode cX12_lock 241 = .ok (.if_icmp .ge 39, 3) := dAt wdX12_lock_236 adX12_lock_236.2.2.2.2.1 rfl
theorem dX12_lock_244 : decode cX12_lock 244 = .ok (.aload_n 0, 1) := dAt wdX12_lock_236 adX12_lock_236.2.2.2.2.2.1 rfl
theorem dX12_lock_245 : decode cX12_lock 245 = .ok (.getfield 8, 3) := dAt wdX12_lock_236 adX12_lock_236.2.2.2.2.2.2.1 rfl
theorem dX12_lock_248 : decode cX12_lock 248 = .ok (.iload 4, 2) := dAt wdX12_lock_236 adX12_lock_236.2.2.2.2.2.2.2.1 rfl
theorem dX12_lock_250 : decode cX12_lock 250 = .ok (.iconst 5, 1) := dAt wdX12_lock_236 adX12_lock_236.2.2.2.2.2.2.2.2.1 rfl
theorem dX12_lock_251 : decode cX12_lock 251 = .ok (.iadd, 1) := dAt wdX12_lock_236 adX12_lock_236.2.2.2.2.2.2.2.2.2.1 rfl
theorem dX12_lock_252 : decode cX12_lock 252 = .ok (.iload 5, 2) := dAt wdX12_lock_236 adX12_lock_236.2.2.2.2.2.2.2.2.2.2.1 rfl
theorem dX12_lock_254 : decode cX12_lock 254 = .ok (.iadd, 1) := dAt wdX12_lock_236 adX12_lock_236.2.2.2.2.2.2.2.2.2.2.2.1 rfl
theorem dX12_lock_255 : decode cX12_lock 255 = .ok (.aload_n 0, 1) := dAt wdX12_lock_236 adX12_lock_236.2.2.2.2.2.2.2.2.2.2.2.2.1 rfl
theorem dX12_lock_256 : decode cX12_lock 256 = .ok (.getfield 8, 3) := dAt wdX12_lock_236 adX12_lock_236.2.2.2.2.2.2.2.2.2.2.2.2.2.1 rfl
theorem dX12_lock_259 : decode cX12_lock 259 = .ok (.iload 9, 2) := dAt wdX12_lock_236 adX12_lock_236.2.2.2.2.2.2.2.2.2.2.2.2.2.2.1 rfl
theorem dX12_lock_261 : decode cX12_lock 261 = .ok (.bipush 45, 2) := dAt wdX12_lock_236 adX12_lock_236.2.2.2.2.2.2.2.2.2.2.2.2.2.2.2 rfl
def bdX12_lock_263 : ByteArray := .mk #[96, 21, 10, 96, 46, 4, 100, 79, 132, 5, 1, 132, 10, 1, 167, 255, 209, 132, 8, 1, 167, 255, 159, 132, 7, 1, 167, 255, 141, 132, 6, 1, 167, 255, 126]
theorem wdX12_lock_263 : LocW cX12_lock 263 bdX12_lock_263 := loc_of (by decide +kernel)
theorem adX12_lock_263 : De bdX12_lock_263 0 (.iadd) 1 ∧ De bdX12_lock_263 1 (.iload 10) 2 ∧ De bdX12_lock_263 3 (.iadd) 1 ∧ De bdX12_lock_263 4 (.iaload) 1 ∧ De bdX12_lock_263 5 (.iconst 1) 1 ∧ De bdX12_lock_263 6 (.isub) 1 ∧ De bdX12_lock_263 7 (.iastore) 1 ∧ De bdX12_lock_263 8 (.iinc 5 1) 3 ∧ De bdX12_lock_263 11 (.iinc 10 1) 3 ∧ De bdX12_lock_263 14 (.goto (-47)) 3 ∧ De bdX12_lock_263 17 (.iinc 8 1) 3 ∧ De bdX12_lock_263 20 (.goto (-97)) 3 ∧ De bdX12_lock_263 23 (.iinc 7 1) 3 ∧ De bdX12_lock_263 26 (.goto (-115)) 3 ∧ De bdX12_lock_263 29 (.iinc 6 1) 3 ∧ De bdX12_lock_263 32 (.goto (-130)) 3 := by decide +kernel
theorem dX12_lock_263 : decode cX12_lock 263 = .ok (.iadd, 1) := dAt wdX12_lock_263 adX12_lock_263.1 rfl
theorem dX12_lock_264 : decode cX12_lock 264 = .ok (.iload 10, 2) := dAt wdX12_lock_263 adX12_lock_263.2.1 rfl
theorem dX12_lock_266 : decode cX12_lock 266 = .ok (.iadd, 1) := dAt wdX12_lock_263 adX12_lock_263.2.2.1 rfl
theorem dX12_lock_267 : decode cX12_lock 267 = .ok (.iaload, 1) := dAt wdX12_lock_263 adX12_lock_263.2.2.2.1 rfl
theorem dX12_lock_268 : decode cX12_lock 268 = .ok (.iconst 1, 1) := dAt wdX12_lock_263 adX12_lock_263.2.2.2.2.1 rfl
theorem dX12_lock_269 : decode cX12_lock 269 = .ok (.isub, 1) := dAt wdX12_lock_263 adX12_lock_263.2.2.2.2.2.1 rfl
theorem dX12_lock_270 : decode cX12_lock 270 = .ok (.iastore, 1) := dAt wdX12_lock_263 adX12_lock_263.2.2.2.2.2.2.1 rfl
theorem dX12_lock_271 : decode cX12_lock 271 = .ok (.iinc 5 1, 3) := dAt wdX12_lock_263 adX12_lock_263.2.2.2.2.2.2.2.1 rfl
theorem dX12_lock_274 : decode cX12_lock 274 = .ok (.iinc 10 1, 3) := dAt wdX12_lock_263 adX12_lock_263.2.2.2.2.2.2.2.2.1 rfl
theorem dX12_lock_277 : decode cX12_lock 277 = .ok (.goto (-47), 3) := dAt wdX12_lock_263 adX12_lock_263.2.2.2.2.2.2.2.2.2.1 rfl
theorem dX12_lock_280 : decode cX12_lock 280 = .ok (.iinc 8 1, 3) := dAt wdX12_lock_263 adX12_lock_263.2.2.2.2.2.2.2.2.2.2.1 rfl
theorem dX12_lock_283 : decode cX12_lock 283 = .ok (.goto (-97), 3) := dAt wdX12_lock_263 adX12_lock_263.2.2.2.2.2.2.2.2.2.2.2.1 rfl
theorem dX12_lock_286 : decode cX12_lock 286 = .ok (.iinc 7 1, 3) := dAt wdX12_lock_263 adX12_lock_263.2.2.2.2.2.2.2.2.2.2.2.2.1 rfl
theorem dX12_lock_289 : decode cX12_lock 289 = .ok (.goto (-115), 3) := dAt wdX12_lock_263 adX12_lock_263.2.2.2.2.2.2.2.2.2.2.2.2.2.1 rfl
theorem dX12_lock_292 : decode cX12_lock 292 = .ok (.iinc 6 1, 3) := dAt wdX12_lock_263 adX12_lock_263.2.2.2.2.2.2.2.2.2.2.2.2.2.2.1 rfl
theorem dX12_lock_295 : decode cX12_lock 295 = .ok (.goto (-130), 3) := dAt wdX12_lock_263 adX12_lock_263.2.2.2.2.2.2.2.2.2.2.2.2.2.2.2 rfl
def bdX12_lock_298 : ByteArray := .mk #[42, 180, 0, 8, 21, 4, 5, 96, 21, 5, 79, 42, 180, 0, 8, 21, 4, 6, 96, 42, 180, 0, 8, 3, 46]
theorem wdX12_lock_298 : LocW cX12_lock 298 bdX12_lock_298 := loc_of (by decide +kernel)
theorem adX12_lock_298 : De bdX12_lock_298 0 (.aload_n 0) 1 ∧ De bdX12_lock_298 1 (.getfield 8) 3 ∧ De bdX12_lock_298 4 (.iload 4) 2 ∧ De bdX12_lock_298 6 (.iconst 2) 1 ∧ De bdX12_lock_298 7 (.iadd) 1 ∧ De bdX12_lock_298 8 (.iload 5) 2 ∧ De bdX12_lock_298 10 (.iastore) 1 ∧ De bdX12_lock_298 11 (.aload_n 0) 1 ∧ De bdX12_lock_298 12 (.getfield 8) 3 ∧ De bdX12_lock_298 15 (.iload 4) 2 ∧ De bdX12_lock_298 17 (.iconst 3) 1 ∧ De bdX12_lock_298 18 (.iadd) 1 ∧ De bdX12_lock_298 19 (.aload_n 0) 1 ∧ De bdX12_lock_298 20 (.getfield 8) 3 ∧ De bdX12_lock_298 23 (.iconst 0) 1 ∧ De bdX12_lock_298 24 (.iaload) 1 := by decide +kernel
theorem dX12_lock_298 : decode cX12_lock 298 = .ok (.aload_n 0, 1) := dAt wdX12_lock_298 adX12_lock_298.1 rfl
theorem dX12_lock_299 : decode cX12_lock 299 = .ok (.getfield 8, 3) := dAt wdX12_lock_298 adX12_lock_298.2.1 rfl
theorem dX12_lock_302 : decode cX12_lock 302 = .ok (.iload 4, 2) := dAt wdX12_lock_298 adX12_lock_298.2.2.1 rfl
theorem dX12_lock_304 : decode cX12_lock 304 = .ok (.iconst 2, 1) := dAt wdX12_lock_298 adX12_lock_298.2.2.2.1 rfl
theorem dX12_lock_305 : decode cX12_lock 305 = .ok (.iadd, 1) := dAt wdX12_lock_298 adX12_lock_298.2.2.2.2.1 rfl
theorem dX12_lock_306 : decode cX12_lock 306 = .ok (.iload 5, 2) := dAt wdX12_lock_298 adX12_lock_298.2.2.2.2.2.1 rfl
theorem dX12_lock_308 : decode cX12_lock 308 = .ok (.iastore, 1) := dAt wdX12_lock_298 adX12_lock_298.2.2.2.2.2.2.1 rfl
theorem dX12_lock_309 : decode cX12_lock 309 = .ok (.aload_n 0, 1) := dAt wdX12_lock_298 adX12_lock_298.2.2.2.2.2.2.2.1 rfl
theorem dX12_lock_310 : decode cX12_lock 310 = .ok (.getfield 8, 3) := dAt wdX12_lock_298 adX12_lock_298.2.2.2.2.2.2.2.2.1 rfl
theorem dX12_lock_313 : decode cX12_lock 313 = .ok (.iload 4, 2) := dAt wdX12_lock_298 adX12_lock_298.2.2.2.2.2.2.2.2.2.1 rfl
theorem dX12_lock_315 : decode cX12_lock 315 = .ok (.iconst 3, 1) := dAt wdX12_lock_298 adX12_lock_298.2.2.2.2.2.2.2.2.2.2.1 rfl
theorem dX12_lock_316 : decode cX12_lock 316 = .ok (.iadd, 1) := dAt wdX12_lock_298 adX12_lock_298.2.2.2.2.2.2.2.2.2.2.2.1 rfl
theorem dX12_lock_317 : decode cX12_lock 317 = .ok (.aload_n 0, 1) := dAt wdX12_lock_298 adX12_lock_298.2.2.2.2.2.2.2.2.2.2.2.2.1 rfl
theorem dX12_lock_318 : decode cX12_lock 318 = .ok (.getfield 8, 3) := dAt wdX12_lock_298 adX12_lock_298.2.2.2.2.2.2.2.2.2.2.2.2.2.1 rfl
theorem dX12_lock_321 : decode cX12_lock 321 = .ok (.iconst 0, 1) := dAt wdX12_lock_298 adX12_lock_298.2.2.2.2.2.2.2.2.2.2.2.2.2.2.1 rfl
theorem dX12_lock_322 : decode cX12_lock 322 = .ok (.iaload, 1) := dAt wdX12_lock_298 adX12_lock_298.2.2.2.2.2.2.2.2.2.2.2.2.2.2.2 rfl
def bdX12_lock_323 : ByteArray := .mk #[79, 42, 42, 180, 0, 8, 3, 46, 182, 1, 28, 54, 6, 17, 2, 88, 54, 7, 3, 54, 8, 21, 6, 2, 159, 0, 76, 21, 8]
theorem wdX12_lock_323 : LocW cX12_lock 323 bdX12_lock_323 := loc_of (by decide +kernel)
theorem adX12_lock_323 : De bdX12_lock_323 0 (.iastore) 1 ∧ De bdX12_lock_323 1 (.aload_n 0) 1 ∧ De bdX12_lock_323 2 (.aload_n 0) 1 ∧ De bdX12_lock_323 3 (.getfield 8) 3 ∧ De bdX12_lock_323 6 (.iconst 0) 1 ∧ De bdX12_lock_323 7 (.iaload) 1 ∧ De bdX12_lock_323 8 (.invokevirtual 284) 3 ∧ De bdX12_lock_323 11 (.istore 6) 2 ∧ De bdX12_lock_323 13 (.sipush 600) 3 ∧ De bdX12_lock_323 16 (.istore 7) 2 ∧ De bdX12_lock_323 18 (.iconst 0) 1 ∧ De bdX12_lock_323 19 (.istore 8) 2 ∧ De bdX12_lock_323 21 (.iload 6) 2 ∧ De bdX12_lock_323 23 (.iconst (-1)) 1 ∧ De bdX12_lock_323 24 (.if_icmp .eq 76) 3 ∧ De bdX12_lock_323 27 (.iload 8) 2 := by decide +kernel
theorem dX12_lock_323 : decode cX12_lock 323 = .ok (.iastore, 1) := dAt wdX12_lock_323 adX12_lock_323.1 rfl
theorem dX12_lock_324 : decode cX12_lock 324 = .ok (.aload_n 0, 1) := dAt wdX12_lock_323 adX12_lock_323.2.1 rfl
theorem dX12_lock_325 : decode cX12_lock 325 = .ok (.aload_n 0, 1) := dAt wdX12_lock_323 adX12_lock_323.2.2.1 rfl
theorem dX12_lock_326 : decode cX12_lock 326 = .ok (.getfield 8, 3) := dAt wdX12_lock_323 adX12_lock_323.2.2.2.1 rfl
theorem dX12_lock_329 : decode cX12_lock 329 = .ok (.iconst 0, 1) := dAt wdX12_lock_323 adX12_lock_323.2.2.2.2.1 rfl
theorem dX12_lock_330 : decode cX12_lock 330 = .ok (.iaload, 1) := dAt wdX12_lock_323 adX12_lock_323.2.2.2.2.2.1 rfl
theorem dX12_lock_331 : decode cX12_lock 331 = .ok (.invokevirtual 284, 3) := dAt wdX12_lock_323 adX12_lock_323.2.2.2.2.2.2.1 rfl
theorem dX12_lock_334 : decode cX12_lock 334 = .ok (.istore 6, 2) := dAt wdX12_lock_323 adX12_lock_323.2.2.2.2.2.2.2.1 rfl
theorem dX12_lock_336 : decode cX12_lock 336 = .ok (.sipush 600, 3) := dAt wdX12_lock_323 adX12_lock_323.2.2.2.2.2.2.2.2.1 rfl
theorem dX12_lock_339 : decode cX12_lock 339 = .ok (.istore 7, 2) := dAt wdX12_lock_323 adX12_lock_323.2.2.2.2.2.2.2.2.2.1 rfl
theorem dX12_lock_341 : decode cX12_lock 341 = .ok (.iconst 0, 1) := dAt wdX12_lock_323 adX12_lock_323.2.2.2.2.2.2.2.2.2.2.1 rfl
theorem dX12_lock_342 : decode cX12_lock 342 = .ok (.istore 8, 2) := dAt wdX12_lock_323 adX12_lock_323.2.2.2.2.2.2.2.2.2.2.2.1 rfl
theorem dX12_lock_344 : decode cX12_lock 344 = .ok (.iload 6, 2) := dAt wdX12_lock_323 adX12_lock_323.2.2.2.2.2.2.2.2.2.2.2.2.1 rfl
theorem dX12_lock_346 : decode cX12_lock 346 = .ok (.iconst (-1), 1) := dAt wdX12_lock_323 adX12_lock_323.2.2.2.2.2.2.2.2.2.2.2.2.2.1 rfl
theorem dX12_lock_347 : decode cX12_lock 347 = .ok (.if_icmp .eq 76, 3) := dAt wdX12_lock_323 adX12_lock_323.2.2.2.2.2.2.2.2.2.2.2.2.2.2.1 rfl
theorem dX12_lock_350 : decode cX12_lock 350 = .ok (.iload 8, 2) := dAt wdX12_lock_323 adX12_lock_323.2.2.2.2.2.2.2.2.2.2.2.2.2.2.2 rfl
def bdX12_lock_352 : ByteArray := .mk #[42, 180, 0, 8, 21, 6, 4, 96, 46, 162, 0, 62, 42, 180, 0, 8, 21, 6, 5, 96, 8, 21, 8, 104, 96]
theorem wdX12_lock_352 : LocW cX12_lock 352 bdX12_lock_352 := loc_of (by decide +kernel)
theorem adX12_lock_352 : De bdX12_lock_352 0 (.aload_n 0) 1 ∧ De bdX12_lock_352 1 (.getfield 8) 3 ∧ De bdX12_lock_352 4 (.iload 6) 2 ∧ De bdX12_lock_352 6 (.iconst 1) 1 ∧ De bdX12_lock_352 7 (.iadd) 1 ∧ De bdX12_lock_352 8 (.iaload) 1 ∧ De bdX12_lock_352 9 (.if_icmp .ge 62) 3 ∧ De bdX12_lock_352 12 (.aload_n 0) 1 ∧ De bdX12_lock_352 13 (.getfield 8) 3 ∧ De bdX12_lock_352 16 (.iload 6) 2 ∧ De bdX12_lock_352 18 (.iconst 2) 1 ∧ De bdX12_lock_352 19 (.iadd) 1 ∧ De bdX12_lock_352 20 (.iconst 5) 1 ∧ De bdX12_lock_352 21 (.iload 8) 2 ∧ De bdX12_lock_352 23 (.imul) 1 ∧ De bdX12_lock_352 24 (.iadd) 1 := by decide +kernel
theorem dX12_lock_352 : decode cX12_lock 352 = .ok (.aload_n 0, 1) := dAt wdX12_lock_352 adX12_lock_352.1 rfl
theorem dX12_lock_353 : decode cX12_lock 353 = .ok (.getfield 8, 3) := dAt wdX12_lock_352 adX12_lock_352.2.1 rfl
theorem dX12_lock_356 : decode cX12_lock 356 = .ok (.iload 6, 2) := dAt wdX12_lock_352 adX12_lock_352.2.2.1 rfl
theorem dX12_lock_358 : decode cX12_lock 358 = .ok (.iconst 1, 1) := dAt wdX12_lock_352 adX12_lock_352.2.2.2.1 rfl
theorem dX12_lock_359 : decode cX12_lock 359 = .ok (.iadd, 1) := dAt wdX12_lock_352 adX12_lock_352.2.2.2.2.1 rfl
theorem dX12_lock_360 : decode cX12_lock 360 = .ok (.iaload, 1) := dAt wdX12_lock_352 adX12_lock_352.2.2.2.2.2.1 rfl
theorem dX12_lock_361 : decode cX12_lock 361 = .ok (.if_icmp .ge 62, 3) := dAt wdX12_lock_352 adX12_lock_352.2.2.2.2.2.2.1 rfl
theorem dX12_lock_364 : decode cX12_lock 364 = .ok (.aload_n 0, 1) := dAt wdX12_lock_352 adX12_lock_352.2.2.2.2.2.2.2.1 rfl
theorem dX12_lock_365 : decode cX12_lock 365 = .ok (.getfield 8, 3) := dAt wdX12_lock_352 adX12_lock_352.2.2.2.2.2.2.2.2.1 rfl
theorem dX12_lock_368 : decode cX12_lock 368 = .ok (.iload 6, 2) := dAt wdX12_lock_352 adX12_lock_352.2.2.2.2.2.2.2.2.2.1 rfl
theorem dX12_lock_370 : decode cX12_lock 370 = .ok (.iconst 2, 1) := dAt wdX12_lock_352 adX12_lock_352.2.2.2.2.2.2.2.2.2.2.1 rfl
theorem dX12_lock_371 : decode cX12_lock 371 = .ok (.iadd, 1) := dAt wdX12_lock_352 adX12_lock_352.2.2.2.2.2.2.2.2.2.2.2.1 rfl
theorem dX12_lock_372 : decode cX12_lock 372 = .ok (.iconst 5, 1) := dAt wdX12_lock_352 adX12_lock_352.2.2.2.2.2.2.2.2.2.2.2.2.1 rfl
theorem dX12_lock_373 : decode cX12_lock 373 = .ok (.iload 8, 2) := dAt wdX12_lock_352 adX12_lock_352.2.2.2.2.2.2.2.2.2.2.2.2.2.1 rfl
theorem dX12_lock_375 : decode cX12_lock 375 = .ok (.imul, 1) := dAt wdX12_lock_352 adX12_lock_352.2.2.2.2.2.2.2.2.2.2.2.2.2.2.1 rfl
theorem dX12_lock_376 : decode cX12_lock 376 = .ok (.iadd, 1) := dAt wdX12_lock_352 adX12_lock_352.2.2.2.2.2.2.2.2.2.2.2.2.2.2.2 rfl
