theorem dL_law_236 : decode cL_law 236 = .ok (.aload_n 1, 1) := by decide +kernel
theorem dL_law_237 : decode cL_law 237 = .ok (.aload_n 0, 1) := by decide +kernel
theorem dL_law_238 : decode cL_law 238 = .ok (.iload_n 3, 1) := by decide +kernel
theorem dL_law_239 : decode cL_law 239 = .ok (.iconst 1, 1) := by decide +kernel
theorem dL_law_240 : decode cL_law 240 = .ok (.iadd, 1) := by decide +kernel
theorem dL_law_241 : decode cL_law 241 = .ok (.iaload, 1) := by decide +kernel
theorem dL_law_242 : decode cL_law 242 = .ok (.aload_n 0, 1) := by decide +kernel
theorem dL_law_243 : decode cL_law 243 = .ok (.iload_n 3, 1) := by decide +kernel
theorem dL_law_244 : decode cL_law 244 = .ok (.iconst 2, 1) := by decide +kernel
theorem dL_law_245 : decode cL_law 245 = .ok (.iadd, 1) := by decide +kernel
theorem dL_law_246 : decode cL_law 246 = .ok (.iaload, 1) := by decide +kernel
theorem dL_law_247 : decode cL_law 247 = .ok (.aload_n 0, 1) := by decide +kernel
theorem dL_law_248 : decode cL_law 248 = .ok (.iload_n 3, 1) := by decide +kernel
theorem dL_law_249 : decode cL_law 249 = .ok (.iconst 3, 1) := by decide +kernel
theorem dL_law_250 : decode cL_law 250 = .ok (.iadd, 1) := by decide +kernel
theorem dL_law_251 : decode cL_law 251 = .ok (.iaload, 1) := by decide +kernel
theorem dL_law_252 : decode cL_law 252 = .ok (.aload_n 0, 1) := by decide +kernel
theorem dL_law_253 : decode cL_law 253 = .ok (.iload_n 3, 1) := by decide +kernel
theorem dL_law_254 : decode cL_law 254 = .ok (.iconst 4, 1) := by decide +kernel
theorem dL_law_255 : decode cL_law 255 = .ok (.iadd, 1) := by decide +kernel
theorem dL_law_256 : decode cL_law 256 = .ok (.iaload, 1) := by decide +kernel
theorem dL_law_257 : decode cL_law 257 = .ok (.aload_n 0, 1) := by decide +kernel
theorem dL_law_258 : decode cL_law 258 = .ok (.iload_n 3, 1) := by decide +kernel
theorem dL_law_259 : decode cL_law 259 = .ok (.iconst 5, 1) := by decide +kernel
theorem dL_law_260 : decode cL_law 260 = .ok (.iadd, 1) := by decide +kernel
theorem dL_law_261 : decode cL_law 261 = .ok (.iaload, 1) := by decide +kernel
theorem dL_law_262 : decode cL_law 262 = .ok (.invokevirtual 13, 3) := by decide +kernel
theorem wm_723 : (Jvm.Cond.methodLink "GrownKindsLaw" (13 : Nat) ({ cls := "GrownKinds", name := "feed", desc := "(IIIII)I" } : Jvm.MethodName)) ∈ gT := gT_in (List.mem_of_getElem? (i := 723) (by decide +kernel)) (by decide +kernel)
theorem wm_724 : (Jvm.Cond.instanceMethod ({ cls := "GrownKinds", name := "feed", desc := "(IIIII)I" } : Jvm.MethodName)) ∈ gT := gT_in (List.mem_of_getElem? (i := 724) (by decide +kernel)) (by decide +kernel)
theorem wm_725 : (Jvm.Cond.selects "GrownKinds" ({ cls := "GrownKinds", name := "feed", desc := "(IIIII)I" } : Jvm.MethodName) ({ cls := "GrownKinds", name := "feed", desc := "(IIIII)I" } : Jvm.MethodName)) ∈ gT := gT_in (List.mem_of_getElem? (i := 725) (by decide +kernel)) (by decide +kernel)
theorem wm_726 : (Jvm.Cond.code ({ cls := "GrownKinds", name := "feed", desc := "(IIIII)I" } : Jvm.MethodName) prog_1_method_2_code (6 : Nat) (Option.some Jvm.ClassFile.FieldType.int)) ∈ gT := gT_in (List.mem_of_getElem? (i := 726) (by decide +kernel)) (by decide +kernel)
theorem dL_law_265 : decode cL_law 265 = .ok (.aload_n 2, 1) := by decide +kernel
theorem dL_law_266 : decode cL_law 266 = .ok (.aload_n 0, 1) := by decide +kernel
theorem dL_law_267 : decode cL_law 267 = .ok (.iload_n 3, 1) := by decide +kernel
theorem dL_law_268 : decode cL_law 268 = .ok (.iconst 1, 1) := by decide +kernel
theorem dL_law_269 : decode cL_law 269 = .ok (.iadd, 1) := by decide +kernel
theorem dL_law_270 : decode cL_law 270 = .ok (.iaload, 1) := by decide +kernel
theorem dL_law_271 : decode cL_law 271 = .ok (.aload_n 0, 1) := by decide +kernel
theorem dL_law_272 : decode cL_law 272 = .ok (.iload_n 3, 1) := by decide +kernel
theorem dL_law_273 : decode cL_law 273 = .ok (.iconst 2, 1) := by decide +kernel
theorem dL_law_274 : decode cL_law 274 = .ok (.iadd, 1) := by decide +kernel
theorem dL_law_275 : decode cL_law 275 = .ok (.iaload, 1) := by decide +kernel
theorem dL_law_276 : decode cL_law 276 = .ok (.aload_n 0, 1) := by decide +kernel
theorem dL_law_277 : decode cL_law 277 = .ok (.iload_n 3, 1) := by decide +kernel
theorem dL_law_278 : decode cL_law 278 = .ok (.iconst 3, 1) := by decide +kernel
theorem dL_law_279 : decode cL_law 279 = .ok (.iadd, 1) := by decide +kernel
theorem dL_law_280 : decode cL_law 280 = .ok (.iaload, 1) := by decide +kernel
theorem dL_law_281 : decode cL_law 281 = .ok (.aload_n 0, 1) := by decide +kernel
theorem dL_law_282 : decode cL_law 282 = .ok (.iload_n 3, 1) := by decide +kernel
theorem dL_law_283 : decode cL_law 283 = .ok (.iconst 4, 1) := by decide +kernel
theorem dL_law_284 : decode cL_law 284 = .ok (.iadd, 1) := by decide +kernel
theorem dL_law_285 : decode cL_law 285 = .ok (.iaload, 1) := by decide +kernel
theorem dL_law_286 : decode cL_law 286 = .ok (.aload_n 0, 1) := by decide +kernel
theorem dL_law_287 : decode cL_law 287 = .ok (.iload_n 3, 1) := by decide +kernel
theorem dL_law_288 : decode cL_law 288 = .ok (.iconst 5, 1) := by decide +kernel
theorem dL_law_289 : decode cL_law 289 = .ok (.iadd, 1) := by decide +kernel
theorem dL_law_290 : decode cL_law 290 = .ok (.iaload, 1) := by decide +kernel
theorem dL_law_291 : decode cL_law 291 = .ok (.invokevirtual 17, 3) := by decide +kernel
theorem wm_1831 : (Jvm.Cond.methodLink "GrownKindsLaw" (17 : Nat) ({ cls := "GrownKindsModel", name := "feed", desc := "(IIIII)I" } : Jvm.MethodName)) ∈ gT := gT_in (List.mem_of_getElem? (i := 1831) (by decide +kernel)) (by decide +kernel)
theorem wm_1832 : (Jvm.Cond.instanceMethod ({ cls := "GrownKindsModel", name := "feed", desc := "(IIIII)I" } : Jvm.MethodName)) ∈ gT := gT_in (List.mem_of_getElem? (i := 1832) (by decide +kernel)) (by decide +kernel)
theorem wm_1833 : (Jvm.Cond.selects "GrownKindsModel" ({ cls := "GrownKindsModel", name := "feed", desc := "(IIIII)I" } : Jvm.MethodName) ({ cls := "GrownKindsModel", name := "feed", desc := "(IIIII)I" } : Jvm.MethodName)) ∈ gT := gT_in (List.mem_of_getElem? (i := 1833) (by decide +kernel)) (by decide +kernel)
theorem wm_1834 : (Jvm.Cond.code ({ cls := "GrownKindsModel", name := "feed", desc := "(IIIII)I" } : Jvm.MethodName) prog_14_method_8_code (8 : Nat) (Option.some Jvm.ClassFile.FieldType.int)) ∈ gT := gT_in (List.mem_of_getElem? (i := 1834) (by decide +kernel)) (by decide +kernel)
theorem dL_law_294 : decode cL_law 294 = .ok (.if_icmp .eq 1560, 3) := by decide +kernel
theorem dL_law_299 : decode cL_law 299 = .ok (.aload_n 1, 1) := by decide +kernel
theorem dL_law_300 : decode cL_law 300 = .ok (.aload_n 0, 1) := by decide +kernel
theorem dL_law_301 : decode cL_law 301 = .ok (.iload_n 3, 1) := by decide +kernel
theorem dL_law_302 : decode cL_law 302 = .ok (.iconst 1, 1) := by decide +kernel
theorem dL_law_303 : decode cL_law 303 = .ok (.iadd, 1) := by decide +kernel
theorem dL_law_304 : decode cL_law 304 = .ok (.iaload, 1) := by decide +kernel
theorem dL_law_305 : decode cL_law 305 = .ok (.invokevirtual 18, 3) := by decide +kernel
theorem wm_731 : (Jvm.Cond.methodLink "GrownKindsLaw" (18 : Nat) ({ cls := "GrownKinds", name := "end", desc := "(I)I" } : Jvm.MethodName)) ∈ gT := gT_in (List.mem_of_getElem? (i := 731) (by decide +kernel)) (by decide +kernel)
theorem wm_732 : (Jvm.Cond.instanceMethod ({ cls := "GrownKinds", name := "end", desc := "(I)I" } : Jvm.MethodName)) ∈ gT := gT_in (List.mem_of_getElem? (i := 732) (by decide +kernel)) (by decide +kernel)
theorem wm_733 : (Jvm.Cond.selects "GrownKinds" ({ cls := "GrownKinds", name := "end", desc := "(I)I" } : Jvm.MethodName) ({ cls := "GrownKinds", name := "end", desc := "(I)I" } : Jvm.MethodName)) ∈ gT := gT_in (List.mem_of_getElem? (i := 733) (by decide +kernel)) (by decide +kernel)
theorem wm_734 : (Jvm.Cond.code ({ cls := "GrownKinds", name := "end", desc := "(I)I" } : Jvm.MethodName) prog_1_method_4_code (2 : Nat) (Option.some Jvm.ClassFile.FieldType.int)) ∈ gT := gT_in (List.mem_of_getElem? (i := 734) (by decide +kernel)) (by decide +kernel)
theorem dL_law_308 : decode cL_law 308 = .ok (.aload_n 2, 1) := by decide +kernel
theorem dL_law_309 : decode cL_law 309 = .ok (.aload_n 0, 1) := by decide +kernel
theorem dL_law_310 : decode cL_law 310 = .ok (.iload_n 3, 1) := by decide +kernel
theorem dL_law_311 : decode cL_law 311 = .ok (.iconst 1, 1) := by decide +kernel
theorem dL_law_312 : decode cL_law 312 = .ok (.iadd, 1) := by decide +kernel
theorem dL_law_313 : decode cL_law 313 = .ok (.iaload, 1) := by decide +kernel
theorem dL_law_314 : decode cL_law 314 = .ok (.invokevirtual 22, 3) := by decide +kernel
theorem wm_1835 : (Jvm.Cond.methodLink "GrownKindsLaw" (22 : Nat) ({ cls := "GrownKindsModel", name := "end", desc := "(I)I" } : Jvm.MethodName)) ∈ gT := gT_in (List.mem_of_getElem? (i := 1835) (by decide +kernel)) (by decide +kernel)
theorem wm_1836 : (Jvm.Cond.instanceMethod ({ cls := "GrownKindsModel", name := "end", desc := "(I)I" } : Jvm.MethodName)) ∈ gT := gT_in (List.mem_of_getElem? (i := 1836) (by decide +kernel)) (by decide +kernel)
theorem wm_1837 : (Jvm.Cond.selects "GrownKindsModel" ({ cls := "GrownKindsModel", name := "end", desc := "(I)I" } : Jvm.MethodName) ({ cls := "GrownKindsModel", name := "end", desc := "(I)I" } : Jvm.MethodName)) ∈ gT := gT_in (List.mem_of_getElem? (i := 1837) (by decide +kernel)) (by decide +kernel)
theorem wm_1838 : (Jvm.Cond.code ({ cls := "GrownKindsModel", name := "end", desc := "(I)I" } : Jvm.MethodName) prog_14_method_9_code (2 : Nat) (Option.some Jvm.ClassFile.FieldType.int)) ∈ gT := gT_in (List.mem_of_getElem? (i := 1838) (by decide +kernel)) (by decide +kernel)
theorem dL_law_317 : decode cL_law 317 = .ok (.if_icmp .eq 1537, 3) := by decide +kernel
theorem dL_law_322 : decode cL_law 322 = .ok (.aload_n 1, 1) := by decide +kernel
theorem dL_law_323 : decode cL_law 323 = .ok (.invokevirtual 23, 3) := by decide +kernel
theorem wm_735 : (Jvm.Cond.methodLink "GrownKindsLaw" (23 : Nat) ({ cls := "GrownKinds", name := "grammar", desc := "()I" } : Jvm.MethodName)) ∈ gT := gT_in (List.mem_of_getElem? (i := 735) (by decide +kernel)) (by decide +kernel)
theorem wm_736 : (Jvm.Cond.instanceMethod ({ cls := "GrownKinds", name := "grammar", desc := "()I" } : Jvm.MethodName)) ∈ gT := gT_in (List.mem_of_getElem? (i := 736) (by decide +kernel)) (by decide +kernel)
theorem wm_737 : (Jvm.Cond.selects "GrownKinds" ({ cls := "GrownKinds", name := "grammar", desc := "()I" } : Jvm.MethodName) ({ cls := "GrownKinds", name := "grammar", desc := "()I" } : Jvm.MethodName)) ∈ gT := gT_in (List.mem_of_getElem? (i := 737) (by decide +kernel)) (by decide +kernel)
theorem wm_738 : (Jvm.Cond.code ({ cls := "GrownKinds", name := "grammar", desc := "()I" } : Jvm.MethodName) prog_1_method_5_code (2 : Nat) (Option.some Jvm.ClassFile.FieldType.int)) ∈ gT := gT_in (List.mem_of_getElem? (i := 738) (by decide +kernel)) (by decide +kernel)
theorem dL_law_326 : decode cL_law 326 = .ok (.aload_n 2, 1) := by decide +kernel
theorem dL_law_327 : decode cL_law 327 = .ok (.invokevirtual 27, 3) := by decide +kernel
theorem wm_1842 : (Jvm.Cond.methodLink "GrownKindsLaw" (27 : Nat) ({ cls := "GrownKindsModel", name := "grammar", desc := "()I" } : Jvm.MethodName)) ∈ gT := gT_in (List.mem_of_getElem? (i := 1842) (by decide +kernel)) (by decide +kernel)
theorem wm_1843 : (Jvm.Cond.instanceMethod ({ cls := "GrownKindsModel", name := "grammar", desc := "()I" } : Jvm.MethodName)) ∈ gT := gT_in (List.mem_of_getElem? (i := 1843) (by decide +kernel)) (by decide +kernel)
theorem wm_1844 : (Jvm.Cond.selects "GrownKindsModel" ({ cls := "GrownKindsModel", name := "grammar", desc := "()I" } : Jvm.MethodName) ({ cls := "GrownKindsModel", name := "grammar", desc := "()I" } : Jvm.MethodName)) ∈ gT := gT_in (List.mem_of_getElem? (i := 1844) (by decide +kernel)) (by decide +kernel)
theorem wm_1845 : (Jvm.Cond.code ({ cls := "GrownKindsModel", name := "grammar", desc := "()I" } : Jvm.MethodName) prog_14_method_27_code (2 : Nat) (Option.some Jvm.ClassFile.FieldType.int)) ∈ gT := gT_in (List.mem_of_getElem? (i := 1845) (by decide +kernel)) (by decide +kernel)
theorem dL_law_330 : decode cL_law 330 = .ok (.if_icmp .eq 1524, 3) := by decide +kernel
theorem dL_law_335 : decode cL_law 335 = .ok (.aload_n 1, 1) := by decide +kernel
theorem dL_law_336 : decode cL_law 336 = .ok (.aload_n 0, 1) := by decide +kernel
theorem dL_law_337 : decode cL_law 337 = .ok (.iload_n 3, 1) := by decide +kernel
theorem dL_law_338 : decode cL_law 338 = .ok (.iconst 1, 1) := by decide +kernel
theorem dL_law_339 : decode cL_law 339 = .ok (.iadd, 1) := by decide +kernel
theorem dL_law_340 : decode cL_law 340 = .ok (.iaload, 1) := by decide +kernel
theorem dL_law_341 : decode cL_law 341 = .ok (.invokevirtual 28, 3) := by decide +kernel
theorem wm_1089 : (Jvm.Cond.methodLink "GrownKindsLaw" (28 : Nat) ({ cls := "GrownKinds", name := "fault", desc := "(I)I" } : Jvm.MethodName)) ∈ gT := gT_in (List.mem_of_getElem? (i := 1089) (by decide +kernel)) (by decide +kernel)
theorem wm_1090 : (Jvm.Cond.instanceMethod ({ cls := "GrownKinds", name := "fault", desc := "(I)I" } : Jvm.MethodName)) ∈ gT := gT_in (List.mem_of_getElem? (i := 1090) (by decide +kernel)) (by decide +kernel)
theorem wm_1091 : (Jvm.Cond.selects "GrownKinds" ({ cls := "GrownKinds", name := "fault", desc := "(I)I" } : Jvm.MethodName) ({ cls := "GrownKinds", name := "fault", desc := "(I)I" } : Jvm.MethodName)) ∈ gT := gT_in (List.mem_of_getElem? (i := 1091) (by decide +kernel)) (by decide +kernel)
theorem wm_1092 : (Jvm.Cond.code ({ cls := "GrownKinds", name := "fault", desc := "(I)I" } : Jvm.MethodName) prog_1_method_7_code (2 : Nat) (Option.some Jvm.ClassFile.FieldType.int)) ∈ gT := gT_in (List.mem_of_getElem? (i := 1092) (by decide +kernel)) (by decide +kernel)
theorem dL_law_344 : decode cL_law 344 = .ok (.aload_n 2, 1) := by decide +kernel
theorem dL_law_345 : decode cL_law 345 = .ok (.aload_n 0, 1) := by decide +kernel
theorem dL_law_346 : decode cL_law 346 = .ok (.iload_n 3, 1) := by decide +kernel
theorem dL_law_347 : decode cL_law 347 = .ok (.iconst 1, 1) := by decide +kernel
theorem dL_law_348 : decode cL_law 348 = .ok (.iadd, 1) := by decide +kernel
theorem dL_law_349 : decode cL_law 349 = .ok (.iaload, 1) := by decide +kernel
theorem dL_law_350 : decode cL_law 350 = .ok (.invokevirtual 31, 3) := by decide +kernel
theorem wm_1970 : (Jvm.Cond.methodLink "GrownKindsLaw" (31 : Nat) ({ cls := "GrownKindsModel", name := "fault", desc := "(I)I" } : Jvm.MethodName)) ∈ gT := gT_in (List.mem_of_getElem? (i := 1970) (by decide +kernel)) (by decide +kernel)
theorem wm_1971 : (Jvm.Cond.instanceMethod ({ cls := "GrownKindsModel", name := "fault", desc := "(I)I" } : Jvm.MethodName)) ∈ gT := gT_in (List.mem_of_getElem? (i := 1971) (by decide +kernel)) (by decide +kernel)
theorem wm_1972 : (Jvm.Cond.selects "GrownKindsModel" ({ cls := "GrownKindsModel", name := "fault", desc := "(I)I" } : Jvm.MethodName) ({ cls := "GrownKindsModel", name := "fault", desc := "(I)I" } : Jvm.MethodName)) ∈ gT := gT_in (List.mem_of_getElem? (i := 1972) (by decide +kernel)) (by decide +kernel)
theorem wm_1973 : (Jvm.Cond.code ({ cls := "GrownKindsModel", name := "fault", desc := "(I)I" } : Jvm.MethodName) prog_14_method_28_code (2 : Nat) (Option.some Jvm.ClassFile.FieldType.int)) ∈ gT := gT_in (List.mem_of_getElem? (i := 1973) (by decide +kernel)) (by decide +kernel)
theorem dL_law_353 : decode cL_law 353 = .ok (.if_icmp .eq 1501, 3) := by decide +kernel
theorem dL_law_358 : decode cL_law 358 = .ok (.aload_n 1, 1) := by decide +kernel
theorem dL_law_359 : decode cL_law 359 = .ok (.aload_n 0, 1) := by decide +kernel
theorem dL_law_360 : decode cL_law 360 = .ok (.iload_n 3, 1) := by decide +kernel
theorem dL_law_361 : decode cL_law 361 = .ok (.iconst 1, 1) := by decide +kernel
theorem dL_law_362 : decode cL_law 362 = .ok (.iadd, 1) := by decide +kernel
theorem dL_law_363 : decode cL_law 363 = .ok (.iaload, 1) := by decide +kernel
theorem dL_law_364 : decode cL_law 364 = .ok (.invokevirtual 32, 3) := by decide +kernel
theorem wm_1093 : (Jvm.Cond.methodLink "GrownKindsLaw" (32 : Nat) ({ cls := "GrownKinds", name := "count", desc := "(I)I" } : Jvm.MethodName)) ∈ gT := gT_in (List.mem_of_getElem? (i := 1093) (by decide +kernel)) (by decide +kernel)
theorem wm_1094 : (Jvm.Cond.instanceMethod ({ cls := "GrownKinds", name := "count", desc := "(I)I" } : Jvm.MethodName)) ∈ gT := gT_in (List.mem_of_getElem? (i := 1094) (by decide +kernel)) (by decide +kernel)
theorem wm_1095 : (Jvm.Cond.selects "GrownKinds" ({ cls := "GrownKinds", name := "count", desc := "(I)I" } : Jvm.MethodName) ({ cls := "GrownKinds", name := "count", desc := "(I)I" } : Jvm.MethodName)) ∈ gT := gT_in (List.mem_of_getElem? (i := 1095) (by decide +kernel)) (by decide +kernel)
theorem wm_1096 : (Jvm.Cond.code ({ cls := "GrownKinds", name := "count", desc := "(I)I" } : Jvm.MethodName) prog_1_method_8_code (2 : Nat) (Option.some Jvm.ClassFile.FieldType.int)) ∈ gT := gT_in (List.mem_of_getElem? (i := 1096) (by decide +kernel)) (by decide +kernel)
theorem dL_law_367 : decode cL_law 367 = .ok (.aload_n 2, 1) := by decide +kernel
theorem dL_law_368 : decode cL_law 368 = .ok (.aload_n 0, 1) := by decide +kernel
theorem dL_law_369 : decode cL_law 369 = .ok (.iload_n 3, 1) := by decide +kernel
theorem dL_law_370 : decode cL_law 370 = .ok (.iconst 1, 1) := by decide +kernel
theorem dL_law_371 : decode cL_law 371 = .ok (.iadd, 1) := by decide +kernel
theorem dL_law_372 : decode cL_law 372 = .ok (.iaload, 1) := by decide +kernel
theorem dL_law_373 : decode cL_law 373 = .ok (.invokevirtual 35, 3) := by decide +kernel
theorem wm_1974 : (Jvm.Cond.methodLink "GrownKindsLaw" (35 : Nat) ({ cls := "GrownKindsModel", name := "count", desc := "(I)I" } : Jvm.MethodName)) ∈ gT := gT_in (List.mem_of_getElem? (i := 1974) (by decide +kernel)) (by decide +kernel)
theorem wm_1975 : (Jvm.Cond.instanceMethod ({ cls := "GrownKindsModel", name := "count", desc := "(I)I" } : Jvm.MethodName)) ∈ gT := gT_in (List.mem_of_getElem? (i := 1975) (by decide +kernel)) (by decide +kernel)
theorem wm_1976 : (Jvm.Cond.selects "GrownKindsModel" ({ cls := "GrownKindsModel", name := "count", desc := "(I)I" } : Jvm.MethodName) ({ cls := "GrownKindsModel", name := "count", desc := "(I)I" } : Jvm.MethodName)) ∈ gT := gT_in (List.mem_of_getElem? (i := 1976) (by decide +kernel)) (by decide +kernel)
theorem wm_1977 : (Jvm.Cond.code ({ cls := "GrownKindsModel", name := "count", desc := "(I)I" } : Jvm.MethodName) prog_14_method_29_code (2 : Nat) (Option.some Jvm.ClassFile.FieldType.int)) ∈ gT := gT_in (List.mem_of_getElem? (i := 1977) (by decide +kernel)) (by decide +kernel)
theorem dL_law_376 : decode cL_law 376 = .ok (.if_icmp .eq 1478, 3) := by decide +kernel
theorem dL_law_381 : decode cL_law 381 = .ok (.aload_n 1, 1) := by decide +kernel
theorem dL_law_382 : decode cL_law 382 = .ok (.aload_n 0, 1) := by decide +kernel
theorem dL_law_383 : decode cL_law 383 = .ok (.iload_n 3, 1) := by decide +kernel
theorem dL_law_384 : decode cL_law 384 = .ok (.iconst 1, 1) := by decide +kernel
theorem dL_law_385 : decode cL_law 385 = .ok (.iadd, 1) := by decide +kernel
theorem dL_law_386 : decode cL_law 386 = .ok (.iaload, 1) := by decide +kernel
theorem dL_law_387 : decode cL_law 387 = .ok (.invokevirtual 36, 3) := by decide +kernel
theorem wm_1097 : (Jvm.Cond.methodLink "GrownKindsLaw" (36 : Nat) ({ cls := "GrownKinds", name := "terms", desc := "(I)I" } : Jvm.MethodName)) ∈ gT := gT_in (List.mem_of_getElem? (i := 1097) (by decide +kernel)) (by decide +kernel)
theorem wm_1098 : (Jvm.Cond.instanceMethod ({ cls := "GrownKinds", name := "terms", desc := "(I)I" } : Jvm.MethodName)) ∈ gT := gT_in (List.mem_of_getElem? (i := 1098) (by decide +kernel)) (by decide +kernel)
theorem wm_1099 : (Jvm.Cond.selects "GrownKinds" ({ cls := "GrownKinds", name := "terms", desc := "(I)I" } : Jvm.MethodName) ({ cls := "GrownKinds", name := "terms", desc := "(I)I" } : Jvm.MethodName)) ∈ gT := gT_in (List.mem_of_getElem? (i := 1099) (by decide +kernel)) (by decide +kernel)
theorem wm_1100 : (Jvm.Cond.code ({ cls := "GrownKinds", name := "terms", desc := "(I)I" } : Jvm.MethodName) prog_1_method_14_code (2 : Nat) (Option.some Jvm.ClassFile.FieldType.int)) ∈ gT := gT_in (List.mem_of_getElem? (i := 1100) (by decide +kernel)) (by decide +kernel)
theorem dL_law_390 : decode cL_law 390 = .ok (.aload_n 2, 1) := by decide +kernel
theorem dL_law_391 : decode cL_law 391 = .ok (.aload_n 0, 1) := by decide +kernel
theorem dL_law_392 : decode cL_law 392 = .ok (.iload_n 3, 1) := by decide +kernel
theorem dL_law_393 : decode cL_law 393 = .ok (.iconst 1, 1) := by decide +kernel
theorem dL_law_394 : decode cL_law 394 = .ok (.iadd, 1) := by decide +kernel
theorem dL_law_395 : decode cL_law 395 = .ok (.iaload, 1) := by decide +kernel
theorem dL_law_396 : decode cL_law 396 = .ok (.invokevirtual 39, 3) := by decide +kernel
theorem wm_1978 : (Jvm.Cond.methodLink "GrownKindsLaw" (39 : Nat) ({ cls := "GrownKindsModel", name := "terms", desc := "(I)I" } : Jvm.MethodName)) ∈ gT := gT_in (List.mem_of_getElem? (i := 1978) (by decide +kernel)) (by decide +kernel)
theorem wm_1979 : (Jvm.Cond.instanceMethod ({ cls := "GrownKindsModel", name := "terms", desc := "(I)I" } : Jvm.MethodName)) ∈ gT := gT_in (List.mem_of_getElem? (i := 1979) (by decide +kernel)) (by decide +kernel)
theorem wm_1980 : (Jvm.Cond.selects "GrownKindsModel" ({ cls := "GrownKindsModel", name := "terms", desc := "(I)I" } : Jvm.MethodName) ({ cls := "GrownKindsModel", name := "terms", desc := "(I)I" } : Jvm.MethodName)) ∈ gT := gT_in (List.mem_of_getElem? (i := 1980) (by decide +kernel)) (by decide +kernel)
theorem wm_1981 : (Jvm.Cond.code ({ cls := "GrownKindsModel", name := "terms", desc := "(I)I" } : Jvm.MethodName) prog_14_method_34_code (2 : Nat) (Option.some Jvm.ClassFile.FieldType.int)) ∈ gT := gT_in (List.mem_of_getElem? (i := 1981) (by decide +kernel)) (by decide +kernel)
theorem dL_law_399 : decode cL_law 399 = .ok (.if_icmp .eq 1455, 3) := by decide +kernel
theorem dL_law_404 : decode cL_law 404 = .ok (.aload_n 1, 1) := by decide +kernel
theorem dL_law_405 : decode cL_law 405 = .ok (.aload_n 0, 1) := by decide +kernel
theorem dL_law_406 : decode cL_law 406 = .ok (.iload_n 3, 1) := by decide +kernel
theorem dL_law_407 : decode cL_law 407 = .ok (.iconst 1, 1) := by decide +kernel
theorem dL_law_408 : decode cL_law 408 = .ok (.iadd, 1) := by decide +kernel
theorem dL_law_409 : decode cL_law 409 = .ok (.iaload, 1) := by decide +kernel
theorem dL_law_410 : decode cL_law 410 = .ok (.invokevirtual 40, 3) := by decide +kernel
theorem wm_1105 : (Jvm.Cond.methodLink "GrownKindsLaw" (40 : Nat) ({ cls := "GrownKinds", name := "off", desc := "(I)I" } : Jvm.MethodName)) ∈ gT := gT_in (List.mem_of_getElem? (i := 1105) (by decide +kernel)) (by decide +kernel)
theorem wm_1106 : (Jvm.Cond.instanceMethod ({ cls := "GrownKinds", name := "off", desc := "(I)I" } : Jvm.MethodName)) ∈ gT := gT_in (List.mem_of_getElem? (i := 1106) (by decide +kernel)) (by decide +kernel)
theorem wm_1107 : (Jvm.Cond.selects "GrownKinds" ({ cls := "GrownKinds", name := "off", desc := "(I)I" } : Jvm.MethodName) ({ cls := "GrownKinds", name := "off", desc := "(I)I" } : Jvm.MethodName)) ∈ gT := gT_in (List.mem_of_getElem? (i := 1107) (by decide +kernel)) (by decide +kernel)
theorem wm_1108 : (Jvm.Cond.code ({ cls := "GrownKinds", name := "off", desc := "(I)I" } : Jvm.MethodName) prog_1_method_15_code (2 : Nat) (Option.some Jvm.ClassFile.FieldType.int)) ∈ gT := gT_in (List.mem_of_getElem? (i := 1108) (by decide +kernel)) (by decide +kernel)
theorem dL_law_413 : decode cL_law 413 = .ok (.aload_n 2, 1) := by decide +kernel
theorem dL_law_414 : decode cL_law 414 = .ok (.aload_n 0, 1) := by decide +kernel
theorem dL_law_415 : decode cL_law 415 = .ok (.iload_n 3, 1) := by decide +kernel
theorem dL_law_416 : decode cL_law 416 = .ok (.iconst 1, 1) := by decide +kernel
theorem dL_law_417 : decode cL_law 417 = .ok (.iadd, 1) := by decide +kernel
theorem dL_law_418 : decode cL_law 418 = .ok (.iaload, 1) := by decide +kernel
theorem dL_law_419 : decode cL_law 419 = .ok (.invokevirtual 43, 3) := by decide +kernel
theorem wm_1986 : (Jvm.Cond.methodLink "GrownKindsLaw" (43 : Nat) ({ cls := "GrownKindsModel", name := "off", desc := "(I)I" } : Jvm.MethodName)) ∈ gT := gT_in (List.mem_of_getElem? (i := 1986) (by decide +kernel)) (by decide +kernel)
theorem wm_1987 : (Jvm.Cond.instanceMethod ({ cls := "GrownKindsModel", name := "off", desc := "(I)I" } : Jvm.MethodName)) ∈ gT := gT_in (List.mem_of_getElem? (i := 1987) (by decide +kernel)) (by decide +kernel)
theorem wm_1988 : (Jvm.Cond.selects "GrownKindsModel" ({ cls := "GrownKindsModel", name := "off", desc := "(I)I" } : Jvm.MethodName) ({ cls := "GrownKindsModel", name := "off", desc := "(I)I" } : Jvm.MethodName)) ∈ gT := gT_in (List.mem_of_getElem? (i := 1988) (by decide +kernel)) (by decide +kernel)
theorem wm_1989 : (Jvm.Cond.code ({ cls := "GrownKindsModel", name := "off", desc := "(I)I" } : Jvm.MethodName) prog_14_method_35_code (2 : Nat) (Option.some Jvm.ClassFile.FieldType.int)) ∈ gT := gT_in (List.mem_of_getElem? (i := 1989) (by decide +kernel)) (by decide +kernel)
theorem dL_law_422 : decode cL_law 422 = .ok (.if_icmp .eq 1432, 3) := by decide +kernel
theorem dL_law_427 : decode cL_law 427 = .ok (.aload_n 1, 1) := by decide +kernel
theorem dL_law_428 : decode cL_law 428 = .ok (.aload_n 0, 1) := by decide +kernel
theorem dL_law_429 : decode cL_law 429 = .ok (.iload_n 3, 1) := by decide +kernel
theorem dL_law_430 : decode cL_law 430 = .ok (.iconst 1, 1) := by decide +kernel
theorem dL_law_431 : decode cL_law 431 = .ok (.iadd, 1) := by decide +kernel
theorem dL_law_432 : decode cL_law 432 = .ok (.iaload, 1) := by decide +kernel
theorem dL_law_433 : decode cL_law 433 = .ok (.invokevirtual 44, 3) := by decide +kernel
theorem wm_1109 : (Jvm.Cond.methodLink "GrownKindsLaw" (44 : Nat) ({ cls := "GrownKinds", name := "letters", desc := "(I)I" } : Jvm.MethodName)) ∈ gT := gT_in (List.mem_of_getElem? (i := 1109) (by decide +kernel)) (by decide +kernel)
theorem wm_1110 : (Jvm.Cond.instanceMethod ({ cls := "GrownKinds", name := "letters", desc := "(I)I" } : Jvm.MethodName)) ∈ gT := gT_in (List.mem_of_getElem? (i := 1110) (by decide +kernel)) (by decide +kernel)
theorem wm_1111 : (Jvm.Cond.selects "GrownKinds" ({ cls := "GrownKinds", name := "letters", desc := "(I)I" } : Jvm.MethodName) ({ cls := "GrownKinds", name := "letters", desc := "(I)I" } : Jvm.MethodName)) ∈ gT := gT_in (List.mem_of_getElem? (i := 1111) (by decide +kernel)) (by decide +kernel)
theorem wm_1112 : (Jvm.Cond.code ({ cls := "GrownKinds", name := "letters", desc := "(I)I" } : Jvm.MethodName) prog_1_method_16_code (2 : Nat) (Option.some Jvm.ClassFile.FieldType.int)) ∈ gT := gT_in (List.mem_of_getElem? (i := 1112) (by decide +kernel)) (by decide +kernel)
theorem dL_law_436 : decode cL_law 436 = .ok (.aload_n 2, 1) := by decide +kernel
theorem dL_law_437 : decode cL_law 437 = .ok (.aload_n 0, 1) := by decide +kernel
theorem dL_law_438 : decode cL_law 438 = .ok (.iload_n 3, 1) := by decide +kernel
theorem dL_law_439 : decode cL_law 439 = .ok (.iconst 1, 1) := by decide +kernel
theorem dL_law_440 : decode cL_law 440 = .ok (.iadd, 1) := by decide +kernel
theorem dL_law_441 : decode cL_law 441 = .ok (.iaload, 1) := by decide +kernel
theorem dL_law_442 : decode cL_law 442 = .ok (.invokevirtual 47, 3) := by decide +kernel
theorem wm_1990 : (Jvm.Cond.methodLink "GrownKindsLaw" (47 : Nat) ({ cls := "GrownKindsModel", name := "letters", desc := "(I)I" } : Jvm.MethodName)) ∈ gT := gT_in (List.mem_of_getElem? (i := 1990) (by decide +kernel)) (by decide +kernel)
theorem wm_1991 : (Jvm.Cond.instanceMethod ({ cls := "GrownKindsModel", name := "letters", desc := "(I)I" } : Jvm.MethodName)) ∈ gT := gT_in (List.mem_of_getElem? (i := 1991) (by decide +kernel)) (by decide +kernel)
theorem wm_1992 : (Jvm.Cond.selects "GrownKindsModel" ({ cls := "GrownKindsModel", name := "letters", desc := "(I)I" } : Jvm.MethodName) ({ cls := "GrownKindsModel", name := "letters", desc := "(I)I" } : Jvm.MethodName)) ∈ gT := gT_in (List.mem_of_getElem? (i := 1992) (by decide +kernel)) (by decide +kernel)
theorem wm_1993 : (Jvm.Cond.code ({ cls := "GrownKindsModel", name := "letters", desc := "(I)I" } : Jvm.MethodName) prog_14_method_38_code (2 : Nat) (Option.some Jvm.ClassFile.FieldType.int)) ∈ gT := gT_in (List.mem_of_getElem? (i := 1993) (by decide +kernel)) (by decide +kernel)
theorem dL_law_445 : decode cL_law 445 = .ok (.if_icmp .eq 1409, 3) := by decide +kernel
theorem dL_law_450 : decode cL_law 450 = .ok (.aload_n 1, 1) := by decide +kernel
theorem dL_law_451 : decode cL_law 451 = .ok (.aload_n 0, 1) := by decide +kernel
theorem dL_law_452 : decode cL_law 452 = .ok (.iload_n 3, 1) := by decide +kernel
theorem dL_law_453 : decode cL_law 453 = .ok (.iconst 1, 1) := by decide +kernel
theorem dL_law_454 : decode cL_law 454 = .ok (.iadd, 1) := by decide +kernel
theorem dL_law_455 : decode cL_law 455 = .ok (.iaload, 1) := by decide +kernel
theorem dL_law_456 : decode cL_law 456 = .ok (.invokevirtual 48, 3) := by decide +kernel
theorem wm_1113 : (Jvm.Cond.methodLink "GrownKindsLaw" (48 : Nat) ({ cls := "GrownKinds", name := "uses", desc := "(I)I" } : Jvm.MethodName)) ∈ gT := gT_in (List.mem_of_getElem? (i := 1113) (by decide +kernel)) (by decide +kernel)
theorem wm_1114 : (Jvm.Cond.instanceMethod ({ cls := "GrownKinds", name := "uses", desc := "(I)I" } : Jvm.MethodName)) ∈ gT := gT_in (List.mem_of_getElem? (i := 1114) (by decide +kernel)) (by decide +kernel)
theorem wm_1115 : (Jvm.Cond.selects "GrownKinds" ({ cls := "GrownKinds", name := "uses", desc := "(I)I" } : Jvm.MethodName) ({ cls := "GrownKinds", name := "uses", desc := "(I)I" } : Jvm.MethodName)) ∈ gT := gT_in (List.mem_of_getElem? (i := 1115) (by decide +kernel)) (by decide +kernel)
theorem wm_1116 : (Jvm.Cond.code ({ cls := "GrownKinds", name := "uses", desc := "(I)I" } : Jvm.MethodName) prog_1_method_17_code (2 : Nat) (Option.some Jvm.ClassFile.FieldType.int)) ∈ gT := gT_in (List.mem_of_getElem? (i := 1116) (by decide +kernel)) (by decide +kernel)
theorem dL_law_459 : decode cL_law 459 = .ok (.aload_n 2, 1) := by decide +kernel
theorem dL_law_460 : decode cL_law 460 = .ok (.aload_n 0, 1) := by decide +kernel
theorem dL_law_461 : decode cL_law 461 = .ok (.iload_n 3, 1) := by decide +kernel
theorem dL_law_462 : decode cL_law 462 = .ok (.iconst 1, 1) := by decide +kernel
theorem dL_law_463 : decode cL_law 463 = .ok (.iadd, 1) := by decide +kernel
theorem dL_law_464 : decode cL_law 464 = .ok (.iaload, 1) := by decide +kernel
theorem dL_law_465 : decode cL_law 465 = .ok (.invokevirtual 51, 3) := by decide +kernel
theorem wm_2002 : (Jvm.Cond.methodLink "GrownKindsLaw" (51 : Nat) ({ cls := "GrownKindsModel", name := "uses", desc := "(I)I" } : Jvm.MethodName)) ∈ gT := gT_in (List.mem_of_getElem? (i := 2002) (by decide +kernel)) (by decide +kernel)
theorem wm_2003 : (Jvm.Cond.instanceMethod ({ cls := "GrownKindsModel", name := "uses", desc := "(I)I" } : Jvm.MethodName)) ∈ gT := gT_in (List.mem_of_getElem? (i := 2003) (by decide +kernel)) (by decide +kernel)
theorem wm_2004 : (Jvm.Cond.selects "GrownKindsModel" ({ cls := "GrownKindsModel", name := "uses", desc := "(I)I" } : Jvm.MethodName) ({ cls := "GrownKindsModel", name := "uses", desc := "(I)I" } : Jvm.MethodName)) ∈ gT := gT_in (List.mem_of_getElem? (i := 2004) (by decide +kernel)) (by decide +kernel)
theorem wm_2005 : (Jvm.Cond.code ({ cls := "GrownKindsModel", name := "uses", desc := "(I)I" } : Jvm.MethodName) prog_14_method_39_code (2 : Nat) (Option.some Jvm.ClassFile.FieldType.int)) ∈ gT := gT_in (List.mem_of_getElem? (i := 2005) (by decide +kernel)) (by decide +kernel)
theorem dL_law_468 : decode cL_law 468 = .ok (.if_icmp .eq 1386, 3) := by decide +kernel
theorem dL_law_473 : decode cL_law 473 = .ok (.aload_n 1, 1) := by decide +kernel
theorem dL_law_474 : decode cL_law 474 = .ok (.aload_n 0, 1) := by decide +kernel
theorem dL_law_475 : decode cL_law 475 = .ok (.iload_n 3, 1) := by decide +kernel
theorem dL_law_476 : decode cL_law 476 = .ok (.iconst 1, 1) := by decide +kernel
theorem dL_law_477 : decode cL_law 477 = .ok (.iadd, 1) := by decide +kernel
theorem dL_law_478 : decode cL_law 478 = .ok (.iaload, 1) := by decide +kernel
theorem dL_law_479 : decode cL_law 479 = .ok (.invokevirtual 52, 3) := by decide +kernel
theorem wm_1117 : (Jvm.Cond.methodLink "GrownKindsLaw" (52 : Nat) ({ cls := "GrownKinds", name := "reaches", desc := "(I)I" } : Jvm.MethodName)) ∈ gT := gT_in (List.mem_of_getElem? (i := 1117) (by decide +kernel)) (by decide +kernel)
theorem wm_1118 : (Jvm.Cond.instanceMethod ({ cls := "GrownKinds", name := "reaches", desc := "(I)I" } : Jvm.MethodName)) ∈ gT := gT_in (List.mem_of_getElem? (i := 1118) (by decide +kernel)) (by decide +kernel)
theorem wm_1119 : (Jvm.Cond.selects "GrownKinds" ({ cls := "GrownKinds", name := "reaches", desc := "(I)I" } : Jvm.MethodName) ({ cls := "GrownKinds", name := "reaches", desc := "(I)I" } : Jvm.MethodName)) ∈ gT := gT_in (List.mem_of_getElem? (i := 1119) (by decide +kernel)) (by decide +kernel)
theorem wm_1120 : (Jvm.Cond.code ({ cls := "GrownKinds", name := "reaches", desc := "(I)I" } : Jvm.MethodName) prog_1_method_18_code (2 : Nat) (Option.some Jvm.ClassFile.FieldType.int)) ∈ gT := gT_in (List.mem_of_getElem? (i := 1120) (by decide +kernel)) (by decide +kernel)
theorem dL_law_482 : decode cL_law 482 = .ok (.aload_n 2, 1) := by decide +kernel
theorem dL_law_483 : decode cL_law 483 = .ok (.aload_n 0, 1) := by decide +kernel
theorem dL_law_484 : decode cL_law 484 = .ok (.iload_n 3, 1) := by decide +kernel
theorem dL_law_485 : decode cL_law 485 = .ok (.iconst 1, 1) := by decide +kernel
theorem dL_law_486 : decode cL_law 486 = .ok (.iadd, 1) := by decide +kernel
theorem dL_law_487 : decode cL_law 487 = .ok (.iaload, 1) := by decide +kernel
theorem dL_law_488 : decode cL_law 488 = .ok (.invokevirtual 55, 3) := by decide +kernel
theorem wm_2006 : (Jvm.Cond.methodLink "GrownKindsLaw" (55 : Nat) ({ cls := "GrownKindsModel", name := "reaches", desc := "(I)I" } : Jvm.MethodName)) ∈ gT := gT_in (List.mem_of_getElem? (i := 2006) (by decide +kernel)) (by decide +kernel)
theorem wm_2007 : (Jvm.Cond.instanceMethod ({ cls := "GrownKindsModel", name := "reaches", desc := "(I)I" } : Jvm.MethodName)) ∈ gT := gT_in (List.mem_of_getElem? (i := 2007) (by decide +kernel)) (by decide +kernel)
theorem wm_2008 : (Jvm.Cond.selects "GrownKindsModel" ({ cls := "GrownKindsModel", name := "reaches", desc := "(I)I" } : Jvm.MethodName) ({ cls := "GrownKindsModel", name := "reaches", desc := "(I)I" } : Jvm.MethodName)) ∈ gT := gT_in (List.mem_of_getElem? (i := 2008) (by decide +kernel)) (by decide +kernel)
theorem wm_2009 : (Jvm.Cond.code ({ cls := "GrownKindsModel", name := "reaches", desc := "(I)I" } : Jvm.MethodName) prog_14_method_40_code (5 : Nat) (Option.some Jvm.ClassFile.FieldType.int)) ∈ gT := gT_in (List.mem_of_getElem? (i := 2009) (by decide +kernel)) (by decide +kernel)
theorem dL_law_491 : decode cL_law 491 = .ok (.if_icmp .eq 1363, 3) := by decide +kernel
theorem dL_law_496 : decode cL_law 496 = .ok (.aload_n 1, 1) := by decide +kernel
theorem dL_law_497 : decode cL_law 497 = .ok (.aload_n 0, 1) := by decide +kernel
theorem dL_law_498 : decode cL_law 498 = .ok (.iload_n 3, 1) := by decide +kernel
theorem dL_law_499 : decode cL_law 499 = .ok (.iconst 1, 1) := by decide +kernel
theorem dL_law_500 : decode cL_law 500 = .ok (.iadd, 1) := by decide +kernel
theorem dL_law_501 : decode cL_law 501 = .ok (.iaload, 1) := by decide +kernel
theorem dL_law_502 : decode cL_law 502 = .ok (.invokevirtual 56, 3) := by decide +kernel
theorem wm_1122 : (Jvm.Cond.methodLink "GrownKindsLaw" (56 : Nat) ({ cls := "GrownKinds", name := "empty", desc := "(I)I" } : Jvm.MethodName)) ∈ gT := gT_in (List.mem_of_getElem? (i := 1122) (by decide +kernel)) (by decide +kernel)
theorem wm_1123 : (Jvm.Cond.instanceMethod ({ cls := "GrownKinds", name := "empty", desc := "(I)I" } : Jvm.MethodName)) ∈ gT := gT_in (List.mem_of_getElem? (i := 1123) (by decide +kernel)) (by decide +kernel)
theorem wm_1124 : (Jvm.Cond.selects "GrownKinds" ({ cls := "GrownKinds", name := "empty", desc := "(I)I" } : Jvm.MethodName) ({ cls := "GrownKinds", name := "empty", desc := "(I)I" } : Jvm.MethodName)) ∈ gT := gT_in (List.mem_of_getElem? (i := 1124) (by decide +kernel)) (by decide +kernel)
theorem wm_1125 : (Jvm.Cond.code ({ cls := "GrownKinds", name := "empty", desc := "(I)I" } : Jvm.MethodName) prog_1_method_19_code (2 : Nat) (Option.some Jvm.ClassFile.FieldType.int)) ∈ gT := gT_in (List.mem_of_getElem? (i := 1125) (by decide +kernel)) (by decide +kernel)
theorem dL_law_505 : decode cL_law 505 = .ok (.aload_n 2, 1) := by decide +kernel
theorem dL_law_506 : decode cL_law 506 = .ok (.aload_n 0, 1) := by decide +kernel
theorem dL_law_507 : decode cL_law 507 = .ok (.iload_n 3, 1) := by decide +kernel
theorem dL_law_508 : decode cL_law 508 = .ok (.iconst 1, 1) := by decide +kernel
theorem dL_law_509 : decode cL_law 509 = .ok (.iadd, 1) := by decide +kernel
theorem dL_law_510 : decode cL_law 510 = .ok (.iaload, 1) := by decide +kernel
theorem dL_law_511 : decode cL_law 511 = .ok (.invokevirtual 59, 3) := by decide +kernel
theorem wm_2010 : (Jvm.Cond.methodLink "GrownKindsLaw" (59 : Nat) ({ cls := "GrownKindsModel", name := "empty", desc := "(I)I" } : Jvm.MethodName)) ∈ gT := gT_in (List.mem_of_getElem? (i := 2010) (by decide +kernel)) (by decide +kernel)
theorem wm_2011 : (Jvm.Cond.instanceMethod ({ cls := "GrownKindsModel", name := "empty", desc := "(I)I" } : Jvm.MethodName)) ∈ gT := gT_in (List.mem_of_getElem? (i := 2011) (by decide +kernel)) (by decide +kernel)
theorem wm_2012 : (Jvm.Cond.selects "GrownKindsModel" ({ cls := "GrownKindsModel", name := "empty", desc := "(I)I" } : Jvm.MethodName) ({ cls := "GrownKindsModel", name := "empty", desc := "(I)I" } : Jvm.MethodName)) ∈ gT := gT_in (List.mem_of_getElem? (i := 2012) (by decide +kernel)) (by decide +kernel)
theorem wm_2013 : (Jvm.Cond.code ({ cls := "GrownKindsModel", name := "empty", desc := "(I)I" } : Jvm.MethodName) prog_14_method_49_code (2 : Nat) (Option.some Jvm.ClassFile.FieldType.int)) ∈ gT := gT_in (List.mem_of_getElem? (i := 2013) (by decide +kernel)) (by decide +kernel)
theorem dL_law_514 : decode cL_law 514 = .ok (.if_icmp .eq 1340, 3) := by decide +kernel
theorem dL_law_519 : decode cL_law 519 = .ok (.aload_n 1, 1) := by decide +kernel
theorem dL_law_520 : decode cL_law 520 = .ok (.aload_n 0, 1) := by decide +kernel
theorem dL_law_521 : decode cL_law 521 = .ok (.iload_n 3, 1) := by decide +kernel
theorem dL_law_522 : decode cL_law 522 = .ok (.iconst 1, 1) := by decide +kernel
theorem dL_law_523 : decode cL_law 523 = .ok (.iadd, 1) := by decide +kernel
theorem dL_law_524 : decode cL_law 524 = .ok (.iaload, 1) := by decide +kernel
theorem dL_law_525 : decode cL_law 525 = .ok (.invokevirtual 60, 3) := by decide +kernel
theorem wm_1126 : (Jvm.Cond.methodLink "GrownKindsLaw" (60 : Nat) ({ cls := "GrownKinds", name := "leans", desc := "(I)I" } : Jvm.MethodName)) ∈ gT := gT_in (List.mem_of_getElem? (i := 1126) (by decide +kernel)) (by decide +kernel)
theorem wm_1127 : (Jvm.Cond.instanceMethod ({ cls := "GrownKinds", name := "leans", desc := "(I)I" } : Jvm.MethodName)) ∈ gT := gT_in (List.mem_of_getElem? (i := 1127) (by decide +kernel)) (by decide +kernel)
theorem wm_1128 : (Jvm.Cond.selects "GrownKinds" ({ cls := "GrownKinds", name := "leans", desc := "(I)I" } : Jvm.MethodName) ({ cls := "GrownKinds", name := "leans", desc := "(I)I" } : Jvm.MethodName)) ∈ gT := gT_in (List.mem_of_getElem? (i := 1128) (by decide +kernel)) (by decide +kernel)
theorem wm_1129 : (Jvm.Cond.code ({ cls := "GrownKinds", name := "leans", desc := "(I)I" } : Jvm.MethodName) prog_1_method_20_code (2 : Nat) (Option.some Jvm.ClassFile.FieldType.int)) ∈ gT := gT_in (List.mem_of_getElem? (i := 1129) (by decide +kernel)) (by decide +kernel)
theorem dL_law_528 : decode cL_law 528 = .ok (.aload_n 2, 1) := by decide +kernel
theorem dL_law_529 : decode cL_law 529 = .ok (.aload_n 0, 1) := by decide +kernel
theorem dL_law_530 : decode cL_law 530 = .ok (.iload_n 3, 1) := by decide +kernel
theorem dL_law_531 : decode cL_law 531 = .ok (.iconst 1, 1) := by decide +kernel
theorem dL_law_532 : decode cL_law 532 = .ok (.iadd, 1) := by decide +kernel
theorem dL_law_533 : decode cL_law 533 = .ok (.iaload, 1) := by decide +kernel
theorem dL_law_534 : decode cL_law 534 = .ok (.invokevirtual 63, 3) := by decide +kernel
theorem wm_2014 : (Jvm.Cond.methodLink "GrownKindsLaw" (63 : Nat) ({ cls := "GrownKindsModel", name := "leans", desc := "(I)I" } : Jvm.MethodName)) ∈ gT := gT_in (List.mem_of_getElem? (i := 2014) (by decide +kernel)) (by decide +kernel)
theorem wm_2015 : (Jvm.Cond.instanceMethod ({ cls := "GrownKindsModel", name := "leans", desc := "(I)I" } : Jvm.MethodName)) ∈ gT := gT_in (List.mem_of_getElem? (i := 2015) (by decide +kernel)) (by decide +kernel)
theorem wm_2016 : (Jvm.Cond.selects "GrownKindsModel" ({ cls := "GrownKindsModel", name := "leans", desc := "(I)I" } : Jvm.MethodName) ({ cls := "GrownKindsModel", name := "leans", desc := "(I)I" } : Jvm.MethodName)) ∈ gT := gT_in (List.mem_of_getElem? (i := 2016) (by decide +kernel)) (by decide +kernel)
theorem wm_2017 : (Jvm.Cond.code ({ cls := "GrownKindsModel", name := "leans", desc := "(I)I" } : Jvm.MethodName) prog_14_method_50_code (2 : Nat) (Option.some Jvm.ClassFile.FieldType.int)) ∈ gT := gT_in (List.mem_of_getElem? (i := 2017) (by decide +kernel)) (by decide +kernel)
theorem dL_law_537 : decode cL_law 537 = .ok (.if_icmp .eq 1317, 3) := by decide +kernel
theorem dL_law_542 : decode cL_law 542 = .ok (.aload_n 1, 1) := by decide +kernel
theorem dL_law_543 : decode cL_law 543 = .ok (.invokevirtual 64, 3) := by decide +kernel
theorem wm_1130 : (Jvm.Cond.methodLink "GrownKindsLaw" (64 : Nat) ({ cls := "GrownKinds", name := "blank", desc := "()I" } : Jvm.MethodName)) ∈ gT := gT_in (List.mem_of_getElem? (i := 1130) (by decide +kernel)) (by decide +kernel)
theorem wm_1131 : (Jvm.Cond.instanceMethod ({ cls := "GrownKinds", name := "blank", desc := "()I" } : Jvm.MethodName)) ∈ gT := gT_in (List.mem_of_getElem? (i := 1131) (by decide +kernel)) (by decide +kernel)
theorem wm_1132 : (Jvm.Cond.selects "GrownKinds" ({ cls := "GrownKinds", name := "blank", desc := "()I" } : Jvm.MethodName) ({ cls := "GrownKinds", name := "blank", desc := "()I" } : Jvm.MethodName)) ∈ gT := gT_in (List.mem_of_getElem? (i := 1132) (by decide +kernel)) (by decide +kernel)
theorem wm_1133 : (Jvm.Cond.code ({ cls := "GrownKinds", name := "blank", desc := "()I" } : Jvm.MethodName) prog_1_method_21_code (3 : Nat) (Option.some Jvm.ClassFile.FieldType.int)) ∈ gT := gT_in (List.mem_of_getElem? (i := 1133) (by decide +kernel)) (by decide +kernel)
theorem dL_law_546 : decode cL_law 546 = .ok (.aload_n 2, 1) := by decide +kernel
theorem dL_law_547 : decode cL_law 547 = .ok (.invokevirtual 67, 3) := by decide +kernel
theorem wm_2018 : (Jvm.Cond.methodLink "GrownKindsLaw" (67 : Nat) ({ cls := "GrownKindsModel", name := "blank", desc := "()I" } : Jvm.MethodName)) ∈ gT := gT_in (List.mem_of_getElem? (i := 2018) (by decide +kernel)) (by decide +kernel)
theorem wm_2019 : (Jvm.Cond.instanceMethod ({ cls := "GrownKindsModel", name := "blank", desc := "()I" } : Jvm.MethodName)) ∈ gT := gT_in (List.mem_of_getElem? (i := 2019) (by decide +kernel)) (by decide +kernel)
theorem wm_2020 : (Jvm.Cond.selects "GrownKindsModel" ({ cls := "GrownKindsModel", name := "blank", desc := "()I" } : Jvm.MethodName) ({ cls := "GrownKindsModel", name := "blank", desc := "()I" } : Jvm.MethodName)) ∈ gT := gT_in (List.mem_of_getElem? (i := 2020) (by decide +kernel)) (by decide +kernel)
theorem wm_2021 : (Jvm.Cond.code ({ cls := "GrownKindsModel", name := "blank", desc := "()I" } : Jvm.MethodName) prog_14_method_65_code (3 : Nat) (Option.some Jvm.ClassFile.FieldType.int)) ∈ gT := gT_in (List.mem_of_getElem? (i := 2021) (by decide +kernel)) (by decide +kernel)
theorem dL_law_550 : decode cL_law 550 = .ok (.if_icmp .eq 1304, 3) := by decide +kernel
theorem dL_law_555 : decode cL_law 555 = .ok (.aload_n 1, 1) := by decide +kernel
theorem dL_law_556 : decode cL_law 556 = .ok (.aload_n 0, 1) := by decide +kernel
theorem dL_law_557 : decode cL_law 557 = .ok (.iload_n 3, 1) := by decide +kernel
theorem dL_law_558 : decode cL_law 558 = .ok (.iconst 1, 1) := by decide +kernel
theorem dL_law_559 : decode cL_law 559 = .ok (.iadd, 1) := by decide +kernel
theorem dL_law_560 : decode cL_law 560 = .ok (.iaload, 1) := by decide +kernel
theorem dL_law_561 : decode cL_law 561 = .ok (.invokevirtual 68, 3) := by decide +kernel
theorem wm_1151 : (Jvm.Cond.methodLink "GrownKindsLaw" (68 : Nat) ({ cls := "GrownKinds", name := "least", desc := "(I)I" } : Jvm.MethodName)) ∈ gT := gT_in (List.mem_of_getElem? (i := 1151) (by decide +kernel)) (by decide +kernel)
theorem dL_law_564 : decode cL_law 564 = .ok (.aload_n 2, 1) := by decide +kernel
theorem dL_law_565 : decode cL_law 565 = .ok (.aload_n 0, 1) := by decide +kernel
theorem dL_law_566 : decode cL_law 566 = .ok (.iload_n 3, 1) := by decide +kernel
theorem dL_law_567 : decode cL_law 567 = .ok (.iconst 1, 1) := by decide +kernel
theorem dL_law_568 : decode cL_law 568 = .ok (.iadd, 1) := by decide +kernel
theorem dL_law_569 : decode cL_law 569 = .ok (.iaload, 1) := by decide +kernel
theorem dL_law_570 : decode cL_law 570 = .ok (.invokevirtual 71, 3) := by decide +kernel
theorem wm_2085 : (Jvm.Cond.methodLink "GrownKindsLaw" (71 : Nat) ({ cls := "GrownKindsModel", name := "least", desc := "(I)I" } : Jvm.MethodName)) ∈ gT := gT_in (List.mem_of_getElem? (i := 2085) (by decide +kernel)) (by decide +kernel)
theorem wm_2086 : (Jvm.Cond.instanceMethod ({ cls := "GrownKindsModel", name := "least", desc := "(I)I" } : Jvm.MethodName)) ∈ gT := gT_in (List.mem_of_getElem? (i := 2086) (by decide +kernel)) (by decide +kernel)
theorem wm_2087 : (Jvm.Cond.selects "GrownKindsModel" ({ cls := "GrownKindsModel", name := "least", desc := "(I)I" } : Jvm.MethodName) ({ cls := "GrownKindsModel", name := "least", desc := "(I)I" } : Jvm.MethodName)) ∈ gT := gT_in (List.mem_of_getElem? (i := 2087) (by decide +kernel)) (by decide +kernel)
theorem wm_2088 : (Jvm.Cond.code ({ cls := "GrownKindsModel", name := "least", desc := "(I)I" } : Jvm.MethodName) prog_14_method_66_code (2 : Nat) (Option.some Jvm.ClassFile.FieldType.int)) ∈ gT := gT_in (List.mem_of_getElem? (i := 2088) (by decide +kernel)) (by decide +kernel)
theorem dL_law_573 : decode cL_law 573 = .ok (.if_icmp .eq 1281, 3) := by decide +kernel
theorem dL_law_578 : decode cL_law 578 = .ok (.aload_n 1, 1) := by decide +kernel
theorem dL_law_579 : decode cL_law 579 = .ok (.aload_n 0, 1) := by decide +kernel
theorem dL_law_580 : decode cL_law 580 = .ok (.iload_n 3, 1) := by decide +kernel
theorem dL_law_581 : decode cL_law 581 = .ok (.iconst 1, 1) := by decide +kernel
theorem dL_law_582 : decode cL_law 582 = .ok (.iadd, 1) := by decide +kernel
theorem dL_law_583 : decode cL_law 583 = .ok (.iaload, 1) := by decide +kernel
theorem dL_law_584 : decode cL_law 584 = .ok (.aload_n 0, 1) := by decide +kernel
theorem dL_law_585 : decode cL_law 585 = .ok (.iload_n 3, 1) := by decide +kernel
theorem dL_law_586 : decode cL_law 586 = .ok (.iconst 2, 1) := by decide +kernel
theorem dL_law_587 : decode cL_law 587 = .ok (.iadd, 1) := by decide +kernel
theorem dL_law_588 : decode cL_law 588 = .ok (.iaload, 1) := by decide +kernel
theorem dL_law_589 : decode cL_law 589 = .ok (.invokevirtual 72, 3) := by decide +kernel
theorem wm_1152 : (Jvm.Cond.methodLink "GrownKindsLaw" (72 : Nat) ({ cls := "GrownKinds", name := "things", desc := "(II)J" } : Jvm.MethodName)) ∈ gT := gT_in (List.mem_of_getElem? (i := 1152) (by decide +kernel)) (by decide +kernel)
theorem wm_1153 : (Jvm.Cond.instanceMethod ({ cls := "GrownKinds", name := "things", desc := "(II)J" } : Jvm.MethodName)) ∈ gT := gT_in (List.mem_of_getElem? (i := 1153) (by decide +kernel)) (by decide +kernel)
theorem wm_1154 : (Jvm.Cond.selects "GrownKinds" ({ cls := "GrownKinds", name := "things", desc := "(II)J" } : Jvm.MethodName) ({ cls := "GrownKinds", name := "things", desc := "(II)J" } : Jvm.MethodName)) ∈ gT := gT_in (List.mem_of_getElem? (i := 1154) (by decide +kernel)) (by decide +kernel)
theorem wm_1155 : (Jvm.Cond.code ({ cls := "GrownKinds", name := "things", desc := "(II)J" } : Jvm.MethodName) prog_1_method_23_code (3 : Nat) (Option.some Jvm.ClassFile.FieldType.long)) ∈ gT := gT_in (List.mem_of_getElem? (i := 1155) (by decide +kernel)) (by decide +kernel)
theorem dL_law_592 : decode cL_law 592 = .ok (.aload_n 2, 1) := by decide +kernel
theorem dL_law_593 : decode cL_law 593 = .ok (.aload_n 0, 1) := by decide +kernel
theorem dL_law_594 : decode cL_law 594 = .ok (.iload_n 3, 1) := by decide +kernel
theorem dL_law_595 : decode cL_law 595 = .ok (.iconst 1, 1) := by decide +kernel
theorem dL_law_596 : decode cL_law 596 = .ok (.iadd, 1) := by decide +kernel
theorem dL_law_597 : decode cL_law 597 = .ok (.iaload, 1) := by decide +kernel
theorem dL_law_598 : decode cL_law 598 = .ok (.aload_n 0, 1) := by decide +kernel
theorem dL_law_599 : decode cL_law 599 = .ok (.iload_n 3, 1) := by decide +kernel
theorem dL_law_600 : decode cL_law 600 = .ok (.iconst 2, 1) := by decide +kernel
theorem dL_law_601 : decode cL_law 601 = .ok (.iadd, 1) := by decide +kernel
theorem dL_law_602 : decode cL_law 602 = .ok (.iaload, 1) := by decide +kernel
theorem dL_law_603 : decode cL_law 603 = .ok (.invokevirtual 76, 3) := by decide +kernel
theorem wm_2093 : (Jvm.Cond.methodLink "GrownKindsLaw" (76 : Nat) ({ cls := "GrownKindsModel", name := "things", desc := "(II)J" } : Jvm.MethodName)) ∈ gT := gT_in (List.mem_of_getElem? (i := 2093) (by decide +kernel)) (by decide +kernel)
theorem wm_2094 : (Jvm.Cond.instanceMethod ({ cls := "GrownKindsModel", name := "things", desc := "(II)J" } : Jvm.MethodName)) ∈ gT := gT_in (List.mem_of_getElem? (i := 2094) (by decide +kernel)) (by decide +kernel)
theorem wm_2095 : (Jvm.Cond.selects "GrownKindsModel" ({ cls := "GrownKindsModel", name := "things", desc := "(II)J" } : Jvm.MethodName) ({ cls := "GrownKindsModel", name := "things", desc := "(II)J" } : Jvm.MethodName)) ∈ gT := gT_in (List.mem_of_getElem? (i := 2095) (by decide +kernel)) (by decide +kernel)
theorem wm_2096 : (Jvm.Cond.code ({ cls := "GrownKindsModel", name := "things", desc := "(II)J" } : Jvm.MethodName) prog_14_method_67_code (3 : Nat) (Option.some Jvm.ClassFile.FieldType.long)) ∈ gT := gT_in (List.mem_of_getElem? (i := 2096) (by decide +kernel)) (by decide +kernel)
theorem dL_law_606 : decode cL_law 606 = .ok (.lcmp, 1) := by decide +kernel
theorem dL_law_607 : decode cL_law 607 = .ok (.ifCond .eq 1247, 3) := by decide +kernel
theorem dL_law_612 : decode cL_law 612 = .ok (.aload_n 1, 1) := by decide +kernel
theorem dL_law_613 : decode cL_law 613 = .ok (.aload_n 0, 1) := by decide +kernel
theorem dL_law_614 : decode cL_law 614 = .ok (.iload_n 3, 1) := by decide +kernel
theorem dL_law_615 : decode cL_law 615 = .ok (.iconst 1, 1) := by decide +kernel
theorem dL_law_616 : decode cL_law 616 = .ok (.iadd, 1) := by decide +kernel
theorem dL_law_617 : decode cL_law 617 = .ok (.iaload, 1) := by decide +kernel
theorem dL_law_618 : decode cL_law 618 = .ok (.aload_n 0, 1) := by decide +kernel
theorem dL_law_619 : decode cL_law 619 = .ok (.iload_n 3, 1) := by decide +kernel
theorem dL_law_620 : decode cL_law 620 = .ok (.iconst 2, 1) := by decide +kernel
theorem dL_law_621 : decode cL_law 621 = .ok (.iadd, 1) := by decide +kernel
theorem dL_law_622 : decode cL_law 622 = .ok (.iaload, 1) := by decide +kernel
theorem dL_law_623 : decode cL_law 623 = .ok (.invokevirtual 77, 3) := by decide +kernel
theorem wm_1161 : (Jvm.Cond.methodLink "GrownKindsLaw" (77 : Nat) ({ cls := "GrownKinds", name := "upto", desc := "(II)J" } : Jvm.MethodName)) ∈ gT := gT_in (List.mem_of_getElem? (i := 1161) (by decide +kernel)) (by decide +kernel)
theorem wm_1162 : (Jvm.Cond.instanceMethod ({ cls := "GrownKinds", name := "upto", desc := "(II)J" } : Jvm.MethodName)) ∈ gT := gT_in (List.mem_of_getElem? (i := 1162) (by decide +kernel)) (by decide +kernel)
theorem wm_1163 : (Jvm.Cond.selects "GrownKinds" ({ cls := "GrownKinds", name := "upto", desc := "(II)J" } : Jvm.MethodName) ({ cls := "GrownKinds", name := "upto", desc := "(II)J" } : Jvm.MethodName)) ∈ gT := gT_in (List.mem_of_getElem? (i := 1163) (by decide +kernel)) (by decide +kernel)
theorem wm_1164 : (Jvm.Cond.code ({ cls := "GrownKinds", name := "upto", desc := "(II)J" } : Jvm.MethodName) prog_1_method_24_code (3 : Nat) (Option.some Jvm.ClassFile.FieldType.long)) ∈ gT := gT_in (List.mem_of_getElem? (i := 1164) (by decide +kernel)) (by decide +kernel)
theorem dL_law_626 : decode cL_law 626 = .ok (.aload_n 2, 1) := by decide +kernel
theorem dL_law_627 : decode cL_law 627 = .ok (.aload_n 0, 1) := by decide +kernel
theorem dL_law_628 : decode cL_law 628 = .ok (.iload_n 3, 1) := by decide +kernel
theorem dL_law_629 : decode cL_law 629 = .ok (.iconst 1, 1) := by decide +kernel
theorem dL_law_630 : decode cL_law 630 = .ok (.iadd, 1) := by decide +kernel
theorem dL_law_631 : decode cL_law 631 = .ok (.iaload, 1) := by decide +kernel
theorem dL_law_632 : decode cL_law 632 = .ok (.aload_n 0, 1) := by decide +kernel
theorem dL_law_633 : decode cL_law 633 = .ok (.iload_n 3, 1) := by decide +kernel
theorem dL_law_634 : decode cL_law 634 = .ok (.iconst 2, 1) := by decide +kernel
theorem dL_law_635 : decode cL_law 635 = .ok (.iadd, 1) := by decide +kernel
theorem dL_law_636 : decode cL_law 636 = .ok (.iaload, 1) := by decide +kernel
theorem dL_law_637 : decode cL_law 637 = .ok (.invokevirtual 80, 3) := by decide +kernel
theorem wm_2102 : (Jvm.Cond.methodLink "GrownKindsLaw" (80 : Nat) ({ cls := "GrownKindsModel", name := "upto", desc := "(II)J" } : Jvm.MethodName)) ∈ gT := gT_in (List.mem_of_getElem? (i := 2102) (by decide +kernel)) (by decide +kernel)
theorem wm_2103 : (Jvm.Cond.instanceMethod ({ cls := "GrownKindsModel", name := "upto", desc := "(II)J" } : Jvm.MethodName)) ∈ gT := gT_in (List.mem_of_getElem? (i := 2103) (by decide +kernel)) (by decide +kernel)
theorem wm_2104 : (Jvm.Cond.selects "GrownKindsModel" ({ cls := "GrownKindsModel", name := "upto", desc := "(II)J" } : Jvm.MethodName) ({ cls := "GrownKindsModel", name := "upto", desc := "(II)J" } : Jvm.MethodName)) ∈ gT := gT_in (List.mem_of_getElem? (i := 2104) (by decide +kernel)) (by decide +kernel)
theorem wm_2105 : (Jvm.Cond.code ({ cls := "GrownKindsModel", name := "upto", desc := "(II)J" } : Jvm.MethodName) prog_14_method_68_code (3 : Nat) (Option.some Jvm.ClassFile.FieldType.long)) ∈ gT := gT_in (List.mem_of_getElem? (i := 2105) (by decide +kernel)) (by decide +kernel)
theorem dL_law_640 : decode cL_law 640 = .ok (.lcmp, 1) := by decide +kernel
theorem dL_law_641 : decode cL_law 641 = .ok (.ifCond .eq 1213, 3) := by decide +kernel
theorem wV_GrownKindsLaw_13 : gWV "GrownKindsLaw" 13 yX11_feed cX11_feed 6 (some .int) := ⟨wm_723, wm_724, wm_725, wm_177, wm_726, by decide +kernel, by decide +kernel⟩
theorem wV_GrownKindsLaw_17 : gWV "GrownKindsLaw" 17 yX12_feed cX12_feed 8 (some .int) := ⟨wm_1831, wm_1832, wm_1833, wm_188, wm_1834, by decide +kernel, by decide +kernel⟩
def mL_0 (x1 x2 x3 x4 x5 : Int) (S0 : St) : Option St := bd2 (mX11_feed S0 x1 x2 x3 x4 x5) fun r_2 S_3 => nx (msk S_3 S0) fun S_4 => bdG2 S_4 (fun o : St => o) (mX12_feed S_4 x1 x2 x3 x4 x5) fun r_6 S_7 => gd ((inI r_2) ∧ (inI r_6)) <| if r_2 = r_6 then (some (S_7)) else (none)
set_option maxHeartbeats 4000000 in
set_option maxRecDepth 100000 in
theorem lc_0 {p : Program} {l : Launch} {e : Env} {s : State} {m : MethodId} {below : List Frame} {meth : Method} {c : Code} {q0 : Nat} {xs : Nat → Int32} {D : va_G} {cy : Nat → ClassId} {b : Nat} {L : Nat} (hL : L ≤ 3072) (C0 : lw_At p s m meth c q0 L xs) (hbA : ¬ gA b q0) {i : Int} (hi : 0 ≤ i ∧ i + 6 ≤ L) {x1 x2 x3 x4 x5 : Int} (hx1 : (xs (i + 1).toNat).toInt = x1) (hx2 : (xs (i + 2).toNat).toInt = x2) (hx3 : (xs (i + 3).toNat).toInt = x3) (hx4 : (xs (i + 4).toNat).toInt = x4) (hx5 : (xs (i + 5).toNat).toInt = x5) {S0 S1 : St} (hM : mL_0 x1 x2 x3 x4 x5 S0 = some S1) (hOM : gle S1 OM) {ce sl : Nat} {H : Heap} {locs : List Loc} (hG : gX D cy b s H locs S0 ce sl OZ OM) {ls : Array Slot} (hl : lv_has ls 4 [(3, .int (iI i)), (2, .ref (b + 80)), (1, .ref (b + 0)), (0, .ref q0)]) (kk : ∀ (ce sl : Nat) (H : Heap) (locs : List Loc) (ls : Array Slot), gX D cy b s H locs S1 ce sl OZ OM → lv_has ls 4 [(3, .int (iI i)), (2, .ref (b + 80)), (1, .ref (b + 0)), (0, .ref q0)] → W p l e room_1 s m #[Value.ref q0] below meth c H locs ce sl (lw_Z below #[Value.ref q0] s) (F0 m 1854 ls [])) : W p l e room_1 s m #[Value.ref q0] below meth c H locs ce sl (lw_Z below #[Value.ref q0] s) (F0 m 236 ls []) := by
  have hx := C0.1
  have hb := C0.2.1
  have S := lw_S C0
  unfold mL_0 at hM
  refine lv_aload_n hx hb dL_law_236 rfl (lv_at hl 2 rfl) ?_
  refine lv_aload_n hx hb dL_law_237 rfl (lv_at hl 3 rfl) ?_
  refine lv_iload_n hx hb dL_law_238 rfl (lv_at hl 0 rfl) ?_
  refine lv_iconst (v := iI 1) hx hb dL_law_239 (by decide) ?_
  refine gi_add hx hb dL_law_240 ?_
  refine n_sld C0 hbA hG (by omega) hx1 dL_law_241 ?_
  refine lv_aload_n hx hb dL_law_242 rfl (lv_at hl 3 rfl) ?_
  refine lv_iload_n hx hb dL_law_243 rfl (lv_at hl 0 rfl) ?_
  refine lv_iconst (v := iI 2) hx hb dL_law_244 (by decide) ?_
  refine gi_add hx hb dL_law_245 ?_
  refine n_sld C0 hbA hG (by omega) hx2 dL_law_246 ?_
  refine lv_aload_n hx hb dL_law_247 rfl (lv_at hl 3 rfl) ?_
  refine lv_iload_n hx hb dL_law_248 rfl (lv_at hl 0 rfl) ?_
  refine lv_iconst (v := iI 3) hx hb dL_law_249 (by decide) ?_
  refine gi_add hx hb dL_law_250 ?_
  refine n_sld C0 hbA hG (by omega) hx3 dL_law_251 ?_
  refine lv_aload_n hx hb dL_law_252 rfl (lv_at hl 3 rfl) ?_
  refine lv_iload_n hx hb dL_law_253 rfl (lv_at hl 0 rfl) ?_
  refine lv_iconst (v := iI 4) hx hb dL_law_254 (by decide) ?_
  refine gi_add hx hb dL_law_255 ?_
  refine n_sld C0 hbA hG (by omega) hx4 dL_law_256 ?_
  refine lv_aload_n hx hb dL_law_257 rfl (lv_at hl 3 rfl) ?_
  refine lv_iload_n hx hb dL_law_258 rfl (lv_at hl 0 rfl) ?_
  refine lv_iconst (v := iI 5) hx hb dL_law_259 (by decide) ?_
  refine gi_add hx hb dL_law_260 ?_
  refine n_sld C0 hbA hG (by omega) hx5 dL_law_261 ?_
  obtain ⟨r_2, S_3, hc_1, hM⟩ := bd2_some hM
  refine g_vi (As := [.int (iI x1), .int (iI x2), .int (iI x3), .int (iI x4), .int (iI x5)]) (rest := []) S hG.1 hG.2.1 (vX11_feed l hG.2.2.2.1 x1 x2 x3 x4 x5 hc_1) wV_GrownKindsLaw_13 (ec_0 (b := b) (cy := cy) (X := XD b cy S0) _) cpX11 (Nat.lt_of_lt_of_le (Nat.le_of_ble_eq_true rfl) hG.2.2.2.1) dL_law_262 rfl hl.1 (ar := 5) (by decide +kernel) rfl ⟨Nat.le_of_ble_eq_true rfl, Nat.le_of_ble_eq_true rfl, hG.rcL, hG.rsL⟩ (Nat.le_of_ble_eq_true rfl) (fun rv uu H locs hp hGc => ?_)
  obtain ⟨rfl, rfl⟩ := hp
  refine wz ?_
  replace hG := hG.back hGc
  clear hGc
  obtain ⟨S_4, eS_4⟩ : ∃ q, q = msk S_3 S0 := ⟨_, rfl⟩
  rw [← eS_4] at hG
  replace hM := nx_at hM eS_4
  clear eS_4
  refine lv_aload_n hx hb dL_law_265 rfl (lv_at hl 1 rfl) ?_
  refine lv_aload_n hx hb dL_law_266 rfl (lv_at hl 3 rfl) ?_
  refine lv_iload_n hx hb dL_law_267 rfl (lv_at hl 0 rfl) ?_
  refine lv_iconst (v := iI 1) hx hb dL_law_268 (by decide) ?_
  refine gi_add hx hb dL_law_269 ?_
  refine n_sld C0 hbA hG (by omega) hx1 dL_law_270 ?_
  refine lv_aload_n hx hb dL_law_271 rfl (lv_at hl 3 rfl) ?_
  refine lv_iload_n hx hb dL_law_272 rfl (lv_at hl 0 rfl) ?_
  refine lv_iconst (v := iI 2) hx hb dL_law_273 (by decide) ?_
  refine gi_add hx hb dL_law_274 ?_
  refine n_sld C0 hbA hG (by omega) hx2 dL_law_275 ?_
  refine lv_aload_n hx hb dL_law_276 rfl (lv_at hl 3 rfl) ?_
  refine lv_iload_n hx hb dL_law_277 rfl (lv_at hl 0 rfl) ?_
  refine lv_iconst (v := iI 3) hx hb dL_law_278 (by decide) ?_
  refine gi_add hx hb dL_law_279 ?_
  refine n_sld C0 hbA hG (by omega) hx3 dL_law_280 ?_
  refine lv_aload_n hx hb dL_law_281 rfl (lv_at hl 3 rfl) ?_
  refine lv_iload_n hx hb dL_law_282 rfl (lv_at hl 0 rfl) ?_
  refine lv_iconst (v := iI 4) hx hb dL_law_283 (by decide) ?_
  refine gi_add hx hb dL_law_284 ?_
  refine n_sld C0 hbA hG (by omega) hx4 dL_law_285 ?_
  refine lv_aload_n hx hb dL_law_286 rfl (lv_at hl 3 rfl) ?_
  refine lv_iload_n hx hb dL_law_287 rfl (lv_at hl 0 rfl) ?_
  refine lv_iconst (v := iI 5) hx hb dL_law_288 (by decide) ?_
  refine gi_add hx hb dL_law_289 ?_
  refine n_sld C0 hbA hG (by omega) hx5 dL_law_290 ?_
  obtain ⟨r_6, S_7, hc_5, hg_8, hg_9, hM⟩ := bdG2_some hM
  have hg_10 : gle S_7 OM := ⟨Nat.le_trans hg_9.1 hOM.1, Nat.le_trans hg_9.2 hOM.2⟩
  refine g_vi (As := [.int (iI x1), .int (iI x2), .int (iI x3), .int (iI x4), .int (iI x5)]) (rest := [.int (iI r_2)]) S hG.1 hG.2.1 (vX12_feed l hG.2.2.2.1 x1 x2 x3 x4 x5 hc_5) wV_GrownKindsLaw_17 (ec_83 (b := b) (cy := cy) (X := XD b cy S_4) _) cpX12 (Nat.lt_of_lt_of_le (Nat.le_of_ble_eq_true rfl) hG.2.2.2.1) dL_law_291 rfl hl.1 (ar := 5) (by decide +kernel) rfl ⟨Nat.le_of_ble_eq_true rfl, Nat.le_of_ble_eq_true rfl, hG.gcL hg_8 hg_10, hG.gsL hg_8 hg_10⟩ (Nat.le_of_ble_eq_true rfl) (fun rv uu H locs hp hGc => ?_)
  obtain ⟨rfl, rfl⟩ := hp
  replace hG := hG.grow hg_8 hg_10 hGc
  clear hGc
  obtain ⟨hg_11, hM⟩ := gd_some hM
  refine gi_icmp_eq (tgt := 1854) hx hb dL_law_294 (by decide) hg_11.1 hg_11.2 (fun c_12 => ?_) (fun c_12 => ?_)
  · replace hM := ifp hM c_12
    cases hM
    exact kk _ _ H locs ls hG hl
  · replace hM := ifn hM c_12
    cases hM
theorem wV_GrownKindsLaw_18 : gWV "GrownKindsLaw" 18 yX11_end cX11_end 2 (some .int) := ⟨wm_731, wm_732, wm_733, wm_177, wm_734, by decide +kernel, by decide +kernel⟩
theorem wV_GrownKindsLaw_22 : gWV "GrownKindsLaw" 22 yX12_end cX12_end 2 (some .int) := ⟨wm_1835, wm_1836, wm_1837, wm_188, wm_1838, by decide +kernel, by decide +kernel⟩
def mL_1 (x1 x2 x3 x4 x5 : Int) (S0 : St) : Option St := bd2 (mX11_end S0 x1) fun r_2 S_3 => nx (msk S_3 S0) fun S_4 => bd2 (mX12_end S_4 x1) fun r_6 S_7 => nx (msk S_7 S_4) fun S_8 => gd ((inI r_2) ∧ (inI r_6)) <| if r_2 = r_6 then (some (S_8)) else (none)
set_option maxHeartbeats 4000000 in
set_option maxRecDepth 100000 in
theorem lc_1 {p : Program} {l : Launch} {e : Env} {s : State} {m : MethodId} {below : List Frame} {meth : Method} {c : Code} {q0 : Nat} {xs : Nat → Int32} {D : va_G} {cy : Nat → ClassId} {b : Nat} {L : Nat} (hL : L ≤ 3072) (C0 : lw_At p s m meth c q0 L xs) (hbA : ¬ gA b q0) {i : Int} (hi : 0 ≤ i ∧ i + 6 ≤ L) {x1 x2 x3 x4 x5 : Int} (hx1 : (xs (i + 1).toNat).toInt = x1) (hx2 : (xs (i + 2).toNat).toInt = x2) (hx3 : (xs (i + 3).toNat).toInt = x3) (hx4 : (xs (i + 4).toNat).toInt = x4) (hx5 : (xs (i + 5).toNat).toInt = x5) {S0 S1 : St} (hM : mL_1 x1 x2 x3 x4 x5 S0 = some S1) (hOM : gle S1 OM) {ce sl : Nat} {H : Heap} {locs : List Loc} (hG : gX D cy b s H locs S0 ce sl OZ OM) {ls : Array Slot} (hl : lv_has ls 4 [(3, .int (iI i)), (2, .ref (b + 80)), (1, .ref (b + 0)), (0, .ref q0)]) (kk : ∀ (ce sl : Nat) (H : Heap) (locs : List Loc) (ls : Array Slot), gX D cy b s H locs S1 ce sl OZ OM → lv_has ls 4 [(3, .int (iI i)), (2, .ref (b + 80)), (1, .ref (b + 0)), (0, .ref q0)] → W p l e room_1 s m #[Value.ref q0] below meth c H locs ce sl (lw_Z below #[Value.ref q0] s) (F0 m 1854 ls [])) : W p l e room_1 s m #[Value.ref q0] below meth c H locs ce sl (lw_Z below #[Value.ref q0] s) (F0 m 299 ls []) := by
  have hx := C0.1
  have hb := C0.2.1
  have S := lw_S C0
  unfold mL_1 at hM
  refine lv_aload_n hx hb dL_law_299 rfl (lv_at hl 2 rfl) ?_
  refine lv_aload_n hx hb dL_law_300 rfl (lv_at hl 3 rfl) ?_
  refine lv_iload_n hx hb dL_law_301 rfl (lv_at hl 0 rfl) ?_
  refine lv_iconst (v := iI 1) hx hb dL_law_302 (by decide) ?_
  refine gi_add hx hb dL_law_303 ?_
  refine n_sld C0 hbA hG (by omega) hx1 dL_law_304 ?_
  obtain ⟨r_2, S_3, hc_1, hM⟩ := bd2_some hM
  refine g_vi (As := [.int (iI x1)]) (rest := []) S hG.1 hG.2.1 (vX11_end l hG.2.2.2.1 x1 hc_1) wV_GrownKindsLaw_18 (ec_0 (b := b) (cy := cy) (X := XD b cy S0) _) cpX11 (Nat.lt_of_lt_of_le (Nat.le_of_ble_eq_true rfl) hG.2.2.2.1) dL_law_305 rfl hl.1 (ar := 1) (by decide +kernel) rfl ⟨Nat.le_of_ble_eq_true rfl, Nat.le_of_ble_eq_true rfl, hG.rcL, hG.rsL⟩ (Nat.le_of_ble_eq_true rfl) (fun rv uu H locs hp hGc => ?_)
  obtain ⟨rfl, rfl⟩ := hp
  refine wz ?_
  replace hG := hG.back hGc
  clear hGc
  obtain ⟨S_4, eS_4⟩ : ∃ q, q = msk S_3 S0 := ⟨_, rfl⟩
  rw [← eS_4] at hG
  replace hM := nx_at hM eS_4
  clear eS_4
  refine lv_aload_n hx hb dL_law_308 rfl (lv_at hl 1 rfl) ?_
  refine lv_aload_n hx hb dL_law_309 rfl (lv_at hl 3 rfl) ?_
  refine lv_iload_n hx hb dL_law_310 rfl (lv_at hl 0 rfl) ?_
  refine lv_iconst (v := iI 1) hx hb dL_law_311 (by decide) ?_
  refine gi_add hx hb dL_law_312 ?_
  refine n_sld C0 hbA hG (by omega) hx1 dL_law_313 ?_
  obtain ⟨r_6, S_7, hc_5, hM⟩ := bd2_some hM
  refine g_vi (As := [.int (iI x1)]) (rest := [.int (iI r_2)]) S hG.1 hG.2.1 (vX12_end l hG.2.2.2.1 x1 hc_5) wV_GrownKindsLaw_22 (ec_83 (b := b) (cy := cy) (X := XD b cy S_4) _) cpX12 (Nat.lt_of_lt_of_le (Nat.le_of_ble_eq_true rfl) hG.2.2.2.1) dL_law_314 rfl hl.1 (ar := 1) (by decide +kernel) rfl ⟨Nat.le_of_ble_eq_true rfl, Nat.le_of_ble_eq_true rfl, hG.rcL, hG.rsL⟩ (Nat.le_of_ble_eq_true rfl) (fun rv uu H locs hp hGc => ?_)
  obtain ⟨rfl, rfl⟩ := hp
  refine wz ?_
  replace hG := hG.back hGc
  clear hGc
  obtain ⟨S_8, eS_8⟩ : ∃ q, q = msk S_7 S_4 := ⟨_, rfl⟩
  rw [← eS_8] at hG
  replace hM := nx_at hM eS_8
  clear eS_8
  obtain ⟨hg_9, hM⟩ := gd_some hM
  refine gi_icmp_eq (tgt := 1854) hx hb dL_law_317 (by decide) hg_9.1 hg_9.2 (fun c_10 => ?_) (fun c_10 => ?_)
  · replace hM := ifp hM c_10
    cases hM
    exact kk _ _ H locs ls hG hl
  · replace hM := ifn hM c_10
    cases hM
theorem wV_GrownKindsLaw_23 : gWV "GrownKindsLaw" 23 yX11_grammar cX11_grammar 2 (some .int) := ⟨wm_735, wm_736, wm_737, wm_177, wm_738, by decide +kernel, by decide +kernel⟩
theorem wV_GrownKindsLaw_27 : gWV "GrownKindsLaw" 27 yX12_grammar cX12_grammar 2 (some .int) := ⟨wm_1842, wm_1843, wm_1844, wm_188, wm_1845, by decide +kernel, by decide +kernel⟩
def mL_2 (x1 x2 x3 x4 x5 : Int) (S0 : St) : Option St := bd2 (mX11_grammar S0) fun r_2 S_3 => nx (msk S_3 S0) fun S_4 => bd2 (mX12_grammar S_4) fun r_6 S_7 => nx (msk S_7 S_4) fun S_8 => gd ((inI r_2) ∧ (inI r_6)) <| if r_2 = r_6 then (some (S_8)) else (none)
set_option maxHeartbeats 4000000 in
set_option maxRecDepth 100000 in
theorem lc_2 {p : Program} {l : Launch} {e : Env} {s : State} {m : MethodId} {below : List Frame} {meth : Method} {c : Code} {q0 : Nat} {xs : Nat → Int32} {D : va_G} {cy : Nat → ClassId} {b : Nat} {L : Nat} (hL : L ≤ 3072) (C0 : lw_At p s m meth c q0 L xs) (hbA : ¬ gA b q0) {i : Int} (hi : 0 ≤ i ∧ i + 6 ≤ L) {x1 x2 x3 x4 x5 : Int} (hx1 : (xs (i + 1).toNat).toInt = x1) (hx2 : (xs (i + 2).toNat).toInt = x2) (hx3 : (xs (i + 3).toNat).toInt = x3) (hx4 : (xs (i + 4).toNat).toInt = x4) (hx5 : (xs (i + 5).toNat).toInt = x5) {S0 S1 : St} (hM : mL_2 x1 x2 x3 x4 x5 S0 = some S1) (hOM : gle S1 OM) {ce sl : Nat} {H : Heap} {locs : List Loc} (hG : gX D cy b s H locs S0 ce sl OZ OM) {ls : Array Slot} (hl : lv_has ls 4 [(3, .int (iI i)), (2, .ref (b + 80)), (1, .ref (b + 0)), (0, .ref q0)]) (kk : ∀ (ce sl : Nat) (H : Heap) (locs : List Loc) (ls : Array Slot), gX D cy b s H locs S1 ce sl OZ OM → lv_has ls 4 [(3, .int (iI i)), (2, .ref (b + 80)), (1, .ref (b + 0)), (0, .ref q0)] → W p l e room_1 s m #[Value.ref q0] below meth c H locs ce sl (lw_Z below #[Value.ref q0] s) (F0 m 1854 ls [])) : W p l e room_1 s m #[Value.ref q0] below meth c H locs ce sl (lw_Z below #[Value.ref q0] s) (F0 m 322 ls []) := by
  have hx := C0.1
  have hb := C0.2.1
  have S := lw_S C0
  unfold mL_2 at hM
  refine lv_aload_n hx hb dL_law_322 rfl (lv_at hl 2 rfl) ?_
  obtain ⟨r_2, S_3, hc_1, hM⟩ := bd2_some hM
  refine g_vi (As := []) (rest := []) S hG.1 hG.2.1 (vX11_grammar l hG.2.2.2.1  hc_1) wV_GrownKindsLaw_23 (ec_0 (b := b) (cy := cy) (X := XD b cy S0) _) cpX11 (Nat.lt_of_lt_of_le (Nat.le_of_ble_eq_true rfl) hG.2.2.2.1) dL_law_323 rfl hl.1 (ar := 0) (by decide +kernel) rfl ⟨Nat.le_of_ble_eq_true rfl, Nat.le_of_ble_eq_true rfl, hG.rcL, hG.rsL⟩ (Nat.le_of_ble_eq_true rfl) (fun rv uu H locs hp hGc => ?_)
  obtain ⟨rfl, rfl⟩ := hp
  refine wz ?_
  replace hG := hG.back hGc
  clear hGc
  obtain ⟨S_4, eS_4⟩ : ∃ q, q = msk S_3 S0 := ⟨_, rfl⟩
  rw [← eS_4] at hG
  replace hM := nx_at hM eS_4
  clear eS_4
  refine lv_aload_n hx hb dL_law_326 rfl (lv_at hl 1 rfl) ?_
  obtain ⟨r_6, S_7, hc_5, hM⟩ := bd2_some hM
  refine g_vi (As := []) (rest := [.int (iI r_2)]) S hG.1 hG.2.1 (vX12_grammar l hG.2.2.2.1  hc_5) wV_GrownKindsLaw_27 (ec_83 (b := b) (cy := cy) (X := XD b cy S_4) _) cpX12 (Nat.lt_of_lt_of_le (Nat.le_of_ble_eq_true rfl) hG.2.2.2.1) dL_law_327 rfl hl.1 (ar := 0) (by decide +kernel) rfl ⟨Nat.le_of_ble_eq_true rfl, Nat.le_of_ble_eq_true rfl, hG.rcL, hG.rsL⟩ (Nat.le_of_ble_eq_true rfl) (fun rv uu H locs hp hGc => ?_)
  obtain ⟨rfl, rfl⟩ := hp
  refine wz ?_
  replace hG := hG.back hGc
  clear hGc
  obtain ⟨S_8, eS_8⟩ : ∃ q, q = msk S_7 S_4 := ⟨_, rfl⟩
  rw [← eS_8] at hG
  replace hM := nx_at hM eS_8
  clear eS_8
  obtain ⟨hg_9, hM⟩ := gd_some hM
  refine gi_icmp_eq (tgt := 1854) hx hb dL_law_330 (by decide) hg_9.1 hg_9.2 (fun c_10 => ?_) (fun c_10 => ?_)
  · replace hM := ifp hM c_10
    cases hM
    exact kk _ _ H locs ls hG hl
  · replace hM := ifn hM c_10
    cases hM
theorem wV_GrownKindsLaw_28 : gWV "GrownKindsLaw" 28 yX11_fault cX11_fault 2 (some .int) := ⟨wm_1089, wm_1090, wm_1091, wm_177, wm_1092, by decide +kernel, by decide +kernel⟩
theorem wV_GrownKindsLaw_31 : gWV "GrownKindsLaw" 31 yX12_fault cX12_fault 2 (some .int) := ⟨wm_1970, wm_1971, wm_1972, wm_188, wm_1973, by decide +kernel, by decide +kernel⟩
def mL_3 (x1 x2 x3 x4 x5 : Int) (S0 : St) : Option St := bd1 (mX11_fault S0 x1) fun r_2 => bd1 (mX12_fault S0 x1) fun r_4 => gd ((inI r_2) ∧ (inI r_4)) <| if r_2 = r_4 then (some (S0)) else (none)
set_option maxHeartbeats 4000000 in
set_option maxRecDepth 100000 in
theorem lc_3 {p : Program} {l : Launch} {e : Env} {s : State} {m : MethodId} {below : List Frame} {meth : Method} {c : Code} {q0 : Nat} {xs : Nat → Int32} {D : va_G} {cy : Nat → ClassId} {b : Nat} {L : Nat} (hL : L ≤ 3072) (C0 : lw_At p s m meth c q0 L xs) (hbA : ¬ gA b q0) {i : Int} (hi : 0 ≤ i ∧ i + 6 ≤ L) {x1 x2 x3 x4 x5 : Int} (hx1 : (xs (i + 1).toNat).toInt = x1) (hx2 : (xs (i + 2).toNat).toInt = x2) (hx3 : (xs (i + 3).toNat).toInt = x3) (hx4 : (xs (i + 4).toNat).toInt = x4) (hx5 : (xs (i + 5).toNat).toInt = x5) {S0 S1 : St} (hM : mL_3 x1 x2 x3 x4 x5 S0 = some S1) (hOM : gle S1 OM) {ce sl : Nat} {H : Heap} {locs : List Loc} (hG : gX D cy b s H locs S0 ce sl OZ OM) {ls : Array Slot} (hl : lv_has ls 4 [(3, .int (iI i)), (2, .ref (b + 80)), (1, .ref (b + 0)), (0, .ref q0)]) (kk : ∀ (ce sl : Nat) (H : Heap) (locs : List Loc) (ls : Array Slot), gX D cy b s H locs S1 ce sl OZ OM → lv_has ls 4 [(3, .int (iI i)), (2, .ref (b + 80)), (1, .ref (b + 0)), (0, .ref q0)] → W p l e room_1 s m #[Value.ref q0] below meth c H locs ce sl (lw_Z below #[Value.ref q0] s) (F0 m 1854 ls [])) : W p l e room_1 s m #[Value.ref q0] below meth c H locs ce sl (lw_Z below #[Value.ref q0] s) (F0 m 335 ls []) := by
  have hx := C0.1
  have hb := C0.2.1
  have S := lw_S C0
  unfold mL_3 at hM
  refine lv_aload_n hx hb dL_law_335 rfl (lv_at hl 2 rfl) ?_
  refine lv_aload_n hx hb dL_law_336 rfl (lv_at hl 3 rfl) ?_
  refine lv_iload_n hx hb dL_law_337 rfl (lv_at hl 0 rfl) ?_
  refine lv_iconst (v := iI 1) hx hb dL_law_338 (by decide) ?_
  refine gi_add hx hb dL_law_339 ?_
  refine n_sld C0 hbA hG (by omega) hx1 dL_law_340 ?_
  obtain ⟨r_2, hc_1, hM⟩ := bd1_some hM
  refine g_vi (As := [.int (iI x1)]) (rest := []) S hG.1 hG.2.1 (vX11_fault l hG.2.2.2.1 x1 hc_1) wV_GrownKindsLaw_28 (ec_0 (b := b) (cy := cy) (X := XD b cy S0) _) cpX11 (Nat.lt_of_lt_of_le (Nat.le_of_ble_eq_true rfl) hG.2.2.2.1) dL_law_341 rfl hl.1 (ar := 1) (by decide +kernel) rfl ⟨Nat.le_of_ble_eq_true rfl, Nat.le_of_ble_eq_true rfl, hG.rcL, hG.rsL⟩ (Nat.le_of_ble_eq_true rfl) (fun rv uu H locs hp hGc => ?_)
  obtain ⟨rfl, rfl⟩ := hp
  refine wz ?_
  replace hG := hG.same hGc
  clear hGc
  refine lv_aload_n hx hb dL_law_344 rfl (lv_at hl 1 rfl) ?_
  refine lv_aload_n hx hb dL_law_345 rfl (lv_at hl 3 rfl) ?_
  refine lv_iload_n hx hb dL_law_346 rfl (lv_at hl 0 rfl) ?_
  refine lv_iconst (v := iI 1) hx hb dL_law_347 (by decide) ?_
  refine gi_add hx hb dL_law_348 ?_
  refine n_sld C0 hbA hG (by omega) hx1 dL_law_349 ?_
  obtain ⟨r_4, hc_3, hM⟩ := bd1_some hM
  refine g_vi (As := [.int (iI x1)]) (rest := [.int (iI r_2)]) S hG.1 hG.2.1 (vX12_fault l hG.2.2.2.1 x1 hc_3) wV_GrownKindsLaw_31 (ec_83 (b := b) (cy := cy) (X := XD b cy S0) _) cpX12 (Nat.lt_of_lt_of_le (Nat.le_of_ble_eq_true rfl) hG.2.2.2.1) dL_law_350 rfl hl.1 (ar := 1) (by decide +kernel) rfl ⟨Nat.le_of_ble_eq_true rfl, Nat.le_of_ble_eq_true rfl, hG.rcL, hG.rsL⟩ (Nat.le_of_ble_eq_true rfl) (fun rv uu H locs hp hGc => ?_)
  obtain ⟨rfl, rfl⟩ := hp
  refine wz ?_
  replace hG := hG.same hGc
  clear hGc
  obtain ⟨hg_5, hM⟩ := gd_some hM
  refine gi_icmp_eq (tgt := 1854) hx hb dL_law_353 (by decide) hg_5.1 hg_5.2 (fun c_6 => ?_) (fun c_6 => ?_)
  · replace hM := ifp hM c_6
    cases hM
    exact kk _ _ H locs ls hG hl
  · replace hM := ifn hM c_6
    cases hM
theorem wV_GrownKindsLaw_32 : gWV "GrownKindsLaw" 32 yX11_count cX11_count 2 (some .int) := ⟨wm_1093, wm_1094, wm_1095, wm_177, wm_1096, by decide +kernel, by decide +kernel⟩
theorem wV_GrownKindsLaw_35 : gWV "GrownKindsLaw" 35 yX12_count cX12_count 2 (some .int) := ⟨wm_1974, wm_1975, wm_1976, wm_188, wm_1977, by decide +kernel, by decide +kernel⟩
def mL_4 (x1 x2 x3 x4 x5 : Int) (S0 : St) : Option St := bd1 (mX11_count S0 x1) fun r_2 => bd1 (mX12_count S0 x1) fun r_4 => gd ((inI r_2) ∧ (inI r_4)) <| if r_2 = r_4 then (some (S0)) else (none)
set_option maxHeartbeats 4000000 in
set_option maxRecDepth 100000 in
theorem lc_4 {p : Program} {l : Launch} {e : Env} {s : State} {m : MethodId} {below : List Frame} {meth : Method} {c : Code} {q0 : Nat} {xs : Nat → Int32} {D : va_G} {cy : Nat → ClassId} {b : Nat} {L : Nat} (hL : L ≤ 3072) (C0 : lw_At p s m meth c q0 L xs) (hbA : ¬ gA b q0) {i : Int} (hi : 0 ≤ i ∧ i + 6 ≤ L) {x1 x2 x3 x4 x5 : Int} (hx1 : (xs (i + 1).toNat).toInt = x1) (hx2 : (xs (i + 2).toNat).toInt = x2) (hx3 : (xs (i + 3).toNat).toInt = x3) (hx4 : (xs (i + 4).toNat).toInt = x4) (hx5 : (xs (i + 5).toNat).toInt = x5) {S0 S1 : St} (hM : mL_4 x1 x2 x3 x4 x5 S0 = some S1) (hOM : gle S1 OM) {ce sl : Nat} {H : Heap} {locs : List Loc} (hG : gX D cy b s H locs S0 ce sl OZ OM) {ls : Array Slot} (hl : lv_has ls 4 [(3, .int (iI i)), (2, .ref (b + 80)), (1, .ref (b + 0)), (0, .ref q0)]) (kk : ∀ (ce sl : Nat) (H : Heap) (locs : List Loc) (ls : Array Slot), gX D cy b s H locs S1 ce sl OZ OM → lv_has ls 4 [(3, .int (iI i)), (2, .ref (b + 80)), (1, .ref (b + 0)), (0, .ref q0)] → W p l e room_1 s m #[Value.ref q0] below meth c H locs ce sl (lw_Z below #[Value.ref q0] s) (F0 m 1854 ls [])) : W p l e room_1 s m #[Value.ref q0] below meth c H locs ce sl (lw_Z below #[Value.ref q0] s) (F0 m 358 ls []) := by
  have hx := C0.1
  have hb := C0.2.1
  have S := lw_S C0
  unfold mL_4 at hM
  refine lv_aload_n hx hb dL_law_358 rfl (lv_at hl 2 rfl) ?_
  refine lv_aload_n hx hb dL_law_359 rfl (lv_at hl 3 rfl) ?_
  refine lv_iload_n hx hb dL_law_360 rfl (lv_at hl 0 rfl) ?_
  refine lv_iconst (v := iI 1) hx hb dL_law_361 (by decide) ?_
  refine gi_add hx hb dL_law_362 ?_
  refine n_sld C0 hbA hG (by omega) hx1 dL_law_363 ?_
  obtain ⟨r_2, hc_1, hM⟩ := bd1_some hM
  refine g_vi (As := [.int (iI x1)]) (rest := []) S hG.1 hG.2.1 (vX11_count l hG.2.2.2.1 x1 hc_1) wV_GrownKindsLaw_32 (ec_0 (b := b) (cy := cy) (X := XD b cy S0) _) cpX11 (Nat.lt_of_lt_of_le (Nat.le_of_ble_eq_true rfl) hG.2.2.2.1) dL_law_364 rfl hl.1 (ar := 1) (by decide +kernel) rfl ⟨Nat.le_of_ble_eq_true rfl, Nat.le_of_ble_eq_true rfl, hG.rcL, hG.rsL⟩ (Nat.le_of_ble_eq_true rfl) (fun rv uu H locs hp hGc => ?_)
  obtain ⟨rfl, rfl⟩ := hp
  refine wz ?_
  replace hG := hG.same hGc
  clear hGc
  refine lv_aload_n hx hb dL_law_367 rfl (lv_at hl 1 rfl) ?_
  refine lv_aload_n hx hb dL_law_368 rfl (lv_at hl 3 rfl) ?_
  refine lv_iload_n hx hb dL_law_369 rfl (lv_at hl 0 rfl) ?_
  refine lv_iconst (v := iI 1) hx hb dL_law_370 (by decide) ?_
  refine gi_add hx hb dL_law_371 ?_
  refine n_sld C0 hbA hG (by omega) hx1 dL_law_372 ?_
  obtain ⟨r_4, hc_3, hM⟩ := bd1_some hM
  refine g_vi (As := [.int (iI x1)]) (rest := [.int (iI r_2)]) S hG.1 hG.2.1 (vX12_count l hG.2.2.2.1 x1 hc_3) wV_GrownKindsLaw_35 (ec_83 (b := b) (cy := cy) (X := XD b cy S0) _) cpX12 (Nat.lt_of_lt_of_le (Nat.le_of_ble_eq_true rfl) hG.2.2.2.1) dL_law_373 rfl hl.1 (ar := 1) (by decide +kernel) rfl ⟨Nat.le_of_ble_eq_true rfl, Nat.le_of_ble_eq_true rfl, hG.rcL, hG.rsL⟩ (Nat.le_of_ble_eq_true rfl) (fun rv uu H locs hp hGc => ?_)
  obtain ⟨rfl, rfl⟩ := hp
  refine wz ?_
  replace hG := hG.same hGc
  clear hGc
  obtain ⟨hg_5, hM⟩ := gd_some hM
  refine gi_icmp_eq (tgt := 1854) hx hb dL_law_376 (by decide) hg_5.1 hg_5.2 (fun c_6 => ?_) (fun c_6 => ?_)
  · replace hM := ifp hM c_6
    cases hM
    exact kk _ _ H locs ls hG hl
  · replace hM := ifn hM c_6
    cases hM
theorem wV_GrownKindsLaw_36 : gWV "GrownKindsLaw" 36 yX11_terms cX11_terms 2 (some .int) := ⟨wm_1097, wm_1098, wm_1099, wm_177, wm_1100, by decide +kernel, by decide +kernel⟩
theorem wV_GrownKindsLaw_39 : gWV "GrownKindsLaw" 39 yX12_terms cX12_terms 2 (some .int) := ⟨wm_1978, wm_1979, wm_1980, wm_188, wm_1981, by decide +kernel, by decide +kernel⟩
def mL_5 (x1 x2 x3 x4 x5 : Int) (S0 : St) : Option St := bd1 (mX11_terms S0 x1) fun r_2 => bd1 (mX12_terms S0 x1) fun r_4 => gd ((inI r_2) ∧ (inI r_4)) <| if r_2 = r_4 then (some (S0)) else (none)
set_option maxHeartbeats 4000000 in
set_option maxRecDepth 100000 in
theorem lc_5 {p : Program} {l : Launch} {e : Env} {s : State} {m : MethodId} {below : List Frame} {meth : Method} {c : Code} {q0 : Nat} {xs : Nat → Int32} {D : va_G} {cy : Nat → ClassId} {b : Nat} {L : Nat} (hL : L ≤ 3072) (C0 : lw_At p s m meth c q0 L xs) (hbA : ¬ gA b q0) {i : Int} (hi : 0 ≤ i ∧ i + 6 ≤ L) {x1 x2 x3 x4 x5 : Int} (hx1 : (xs (i + 1).toNat).toInt = x1) (hx2 : (xs (i + 2).toNat).toInt = x2) (hx3 : (xs (i + 3).toNat).toInt = x3) (hx4 : (xs (i + 4).toNat).toInt = x4) (hx5 : (xs (i + 5).toNat).toInt = x5) {S0 S1 : St} (hM : mL_5 x1 x2 x3 x4 x5 S0 = some S1) (hOM : gle S1 OM) {ce sl : Nat} {H : Heap} {locs : List Loc} (hG : gX D cy b s H locs S0 ce sl OZ OM) {ls : Array Slot} (hl : lv_has ls 4 [(3, .int (iI i)), (2, .ref (b + 80)), (1, .ref (b + 0)), (0, .ref q0)]) (kk : ∀ (ce sl : Nat) (H : Heap) (locs : List Loc) (ls : Array Slot), gX D cy b s H locs S1 ce sl OZ OM → lv_has ls 4 [(3, .int (iI i)), (2, .ref (b + 80)), (1, .ref (b + 0)), (0, .ref q0)] → W p l e room_1 s m #[Value.ref q0] below meth c H locs ce sl (lw_Z below #[Value.ref q0] s) (F0 m 1854 ls [])) : W p l e room_1 s m #[Value.ref q0] below meth c H locs ce sl (lw_Z below #[Value.ref q0] s) (F0 m 381 ls []) := by
  have hx := C0.1
  have hb := C0.2.1
  have S := lw_S C0
  unfold mL_5 at hM
  refine lv_aload_n hx hb dL_law_381 rfl (lv_at hl 2 rfl) ?_
  refine lv_aload_n hx hb dL_law_382 rfl (lv_at hl 3 rfl) ?_
  refine lv_iload_n hx hb dL_law_383 rfl (lv_at hl 0 rfl) ?_
  refine lv_iconst (v := iI 1) hx hb dL_law_384 (by decide) ?_
  refine gi_add hx hb dL_law_385 ?_
  refine n_sld C0 hbA hG (by omega) hx1 dL_law_386 ?_
  obtain ⟨r_2, hc_1, hM⟩ := bd1_some hM
  refine g_vi (As := [.int (iI x1)]) (rest := []) S hG.1 hG.2.1 (vX11_terms l hG.2.2.2.1 x1 hc_1) wV_GrownKindsLaw_36 (ec_0 (b := b) (cy := cy) (X := XD b cy S0) _) cpX11 (Nat.lt_of_lt_of_le (Nat.le_of_ble_eq_true rfl) hG.2.2.2.1) dL_law_387 rfl hl.1 (ar := 1) (by decide +kernel) rfl ⟨Nat.le_of_ble_eq_true rfl, Nat.le_of_ble_eq_true rfl, hG.rcL, hG.rsL⟩ (Nat.le_of_ble_eq_true rfl) (fun rv uu H locs hp hGc => ?_)
  obtain ⟨rfl, rfl⟩ := hp
  refine wz ?_
  replace hG := hG.same hGc
  clear hGc
  refine lv_aload_n hx hb dL_law_390 rfl (lv_at hl 1 rfl) ?_
  refine lv_aload_n hx hb dL_law_391 rfl (lv_at hl 3 rfl) ?_
  refine lv_iload_n hx hb dL_law_392 rfl (lv_at hl 0 rfl) ?_
  refine lv_iconst (v := iI 1) hx hb dL_law_393 (by decide) ?_
  refine gi_add hx hb dL_law_394 ?_
  refine n_sld C0 hbA hG (by omega) hx1 dL_law_395 ?_
  obtain ⟨r_4, hc_3, hM⟩ := bd1_some hM
  refine g_vi (As := [.int (iI x1)]) (rest := [.int (iI r_2)]) S hG.1 hG.2.1 (vX12_terms l hG.2.2.2.1 x1 hc_3) wV_GrownKindsLaw_39 (ec_83 (b := b) (cy := cy) (X := XD b cy S0) _) cpX12 (Nat.lt_of_lt_of_le (Nat.le_of_ble_eq_true rfl) hG.2.2.2.1) dL_law_396 rfl hl.1 (ar := 1) (by decide +kernel) rfl ⟨Nat.le_of_ble_eq_true rfl, Nat.le_of_ble_eq_true rfl, hG.rcL, hG.rsL⟩ (Nat.le_of_ble_eq_true rfl) (fun rv uu H locs hp hGc => ?_)
  obtain ⟨rfl, rfl⟩ := hp
  refine wz ?_
  replace hG := hG.same hGc
  clear hGc
  obtain ⟨hg_5, hM⟩ := gd_some hM
  refine gi_icmp_eq (tgt := 1854) hx hb dL_law_399 (by decide) hg_5.1 hg_5.2 (fun c_6 => ?_) (fun c_6 => ?_)
  · replace hM := ifp hM c_6
    cases hM
    exact kk _ _ H locs ls hG hl
  · replace hM := ifn hM c_6
    cases hM
theorem wV_GrownKindsLaw_40 : gWV "GrownKindsLaw" 40 yX11_off cX11_off 2 (some .int) := ⟨wm_1105, wm_1106, wm_1107, wm_177, wm_1108, by decide +kernel, by decide +kernel⟩
theorem wV_GrownKindsLaw_43 : gWV "GrownKindsLaw" 43 yX12_off cX12_off 2 (some .int) := ⟨wm_1986, wm_1987, wm_1988, wm_188, wm_1989, by decide +kernel, by decide +kernel⟩
def mL_6 (x1 x2 x3 x4 x5 : Int) (S0 : St) : Option St := bd1 (mX11_off S0 x1) fun r_2 => bd1 (mX12_off S0 x1) fun r_4 => gd ((inI r_2) ∧ (inI r_4)) <| if r_2 = r_4 then (some (S0)) else (none)
set_option maxHeartbeats 4000000 in
set_option maxRecDepth 100000 in
theorem lc_6 {p : Program} {l : Launch} {e : Env} {s : State} {m : MethodId} {below : List Frame} {meth : Method} {c : Code} {q0 : Nat} {xs : Nat → Int32} {D : va_G} {cy : Nat → ClassId} {b : Nat} {L : Nat} (hL : L ≤ 3072) (C0 : lw_At p s m meth c q0 L xs) (hbA : ¬ gA b q0) {i : Int} (hi : 0 ≤ i ∧ i + 6 ≤ L) {x1 x2 x3 x4 x5 : Int} (hx1 : (xs (i + 1).toNat).toInt = x1) (hx2 : (xs (i + 2).toNat).toInt = x2) (hx3 : (xs (i + 3).toNat).toInt = x3) (hx4 : (xs (i + 4).toNat).toInt = x4) (hx5 : (xs (i + 5).toNat).toInt = x5) {S0 S1 : St} (hM : mL_6 x1 x2 x3 x4 x5 S0 = some S1) (hOM : gle S1 OM) {ce sl : Nat} {H : Heap} {locs : List Loc} (hG : gX D cy b s H locs S0 ce sl OZ OM) {ls : Array Slot} (hl : lv_has ls 4 [(3, .int (iI i)), (2, .ref (b + 80)), (1, .ref (b + 0)), (0, .ref q0)]) (kk : ∀ (ce sl : Nat) (H : Heap) (locs : List Loc) (ls : Array Slot), gX D cy b s H locs S1 ce sl OZ OM → lv_has ls 4 [(3, .int (iI i)), (2, .ref (b + 80)), (1, .ref (b + 0)), (0, .ref q0)] → W p l e room_1 s m #[Value.ref q0] below meth c H locs ce sl (lw_Z below #[Value.ref q0] s) (F0 m 1854 ls [])) : W p l e room_1 s m #[Value.ref q0] below meth c H locs ce sl (lw_Z below #[Value.ref q0] s) (F0 m 404 ls []) := by
  have hx := C0.1
  have hb := C0.2.1
  have S := lw_S C0
  unfold mL_6 at hM
  refine lv_aload_n hx hb dL_law_404 rfl (lv_at hl 2 rfl) ?_
  refine lv_aload_n hx hb dL_law_405 rfl (lv_at hl 3 rfl) ?_
  refine lv_iload_n hx hb dL_law_406 rfl (lv_at hl 0 rfl) ?_
  refine lv_iconst (v := iI 1) hx hb dL_law_407 (by decide) ?_
  refine gi_add hx hb dL_law_408 ?_
  refine n_sld C0 hbA hG (by omega) hx1 dL_law_409 ?_
  obtain ⟨r_2, hc_1, hM⟩ := bd1_some hM
  refine g_vi (As := [.int (iI x1)]) (rest := []) S hG.1 hG.2.1 (vX11_off l hG.2.2.2.1 x1 hc_1) wV_GrownKindsLaw_40 (ec_0 (b := b) (cy := cy) (X := XD b cy S0) _) cpX11 (Nat.lt_of_lt_of_le (Nat.le_of_ble_eq_true rfl) hG.2.2.2.1) dL_law_410 rfl hl.1 (ar := 1) (by decide +kernel) rfl ⟨Nat.le_of_ble_eq_true rfl, Nat.le_of_ble_eq_true rfl, hG.rcL, hG.rsL⟩ (Nat.le_of_ble_eq_true rfl) (fun rv uu H locs hp hGc => ?_)
  obtain ⟨rfl, rfl⟩ := hp
  refine wz ?_
  replace hG := hG.same hGc
  clear hGc
  refine lv_aload_n hx hb dL_law_413 rfl (lv_at hl 1 rfl) ?_
  refine lv_aload_n hx hb dL_law_414 rfl (lv_at hl 3 rfl) ?_
  refine lv_iload_n hx hb dL_law_415 rfl (lv_at hl 0 rfl) ?_
  refine lv_iconst (v := iI 1) hx hb dL_law_416 (by decide) ?_
  refine gi_add hx hb dL_law_417 ?_
  refine n_sld C0 hbA hG (by omega) hx1 dL_law_418 ?_
  obtain ⟨r_4, hc_3, hM⟩ := bd1_some hM
  refine g_vi (As := [.int (iI x1)]) (rest := [.int (iI r_2)]) S hG.1 hG.2.1 (vX12_off l hG.2.2.2.1 x1 hc_3) wV_GrownKindsLaw_43 (ec_83 (b := b) (cy := cy) (X := XD b cy S0) _) cpX12 (Nat.lt_of_lt_of_le (Nat.le_of_ble_eq_true rfl) hG.2.2.2.1) dL_law_419 rfl hl.1 (ar := 1) (by decide +kernel) rfl ⟨Nat.le_of_ble_eq_true rfl, Nat.le_of_ble_eq_true rfl, hG.rcL, hG.rsL⟩ (Nat.le_of_ble_eq_true rfl) (fun rv uu H locs hp hGc => ?_)
  obtain ⟨rfl, rfl⟩ := hp
  refine wz ?_
  replace hG := hG.same hGc
  clear hGc
  obtain ⟨hg_5, hM⟩ := gd_some hM
  refine gi_icmp_eq (tgt := 1854) hx hb dL_law_422 (by decide) hg_5.1 hg_5.2 (fun c_6 => ?_) (fun c_6 => ?_)
  · replace hM := ifp hM c_6
    cases hM
    exact kk _ _ H locs ls hG hl
  · replace hM := ifn hM c_6
    cases hM
theorem wV_GrownKindsLaw_44 : gWV "GrownKindsLaw" 44 yX11_letters cX11_letters 2 (some .int) := ⟨wm_1109, wm_1110, wm_1111, wm_177, wm_1112, by decide +kernel, by decide +kernel⟩
theorem wV_GrownKindsLaw_47 : gWV "GrownKindsLaw" 47 yX12_letters cX12_letters 2 (some .int) := ⟨wm_1990, wm_1991, wm_1992, wm_188, wm_1993, by decide +kernel, by decide +kernel⟩
def mL_7 (x1 x2 x3 x4 x5 : Int) (S0 : St) : Option St := bd1 (mX11_letters S0 x1) fun r_2 => bd1 (mX12_letters S0 x1) fun r_4 => gd ((inI r_2) ∧ (inI r_4)) <| if r_2 = r_4 then (some (S0)) else (none)
set_option maxHeartbeats 4000000 in
set_option maxRecDepth 100000 in
theorem lc_7 {p : Program} {l : Launch} {e : Env} {s : State} {m : MethodId} {below : List Frame} {meth : Method} {c : Code} {q0 : Nat} {xs : Nat → Int32} {D : va_G} {cy : Nat → ClassId} {b : Nat} {L : Nat} (hL : L ≤ 3072) (C0 : lw_At p s m meth c q0 L xs) (hbA : ¬ gA b q0) {i : Int} (hi : 0 ≤ i ∧ i + 6 ≤ L) {x1 x2 x3 x4 x5 : Int} (hx1 : (xs (i + 1).toNat).toInt = x1) (hx2 : (xs (i + 2).toNat).toInt = x2) (hx3 : (xs (i + 3).toNat).toInt = x3) (hx4 : (xs (i + 4).toNat).toInt = x4) (hx5 : (xs (i + 5).toNat).toInt = x5) {S0 S1 : St} (hM : mL_7 x1 x2 x3 x4 x5 S0 = some S1) (hOM : gle S1 OM) {ce sl : Nat} {H : Heap} {locs : List Loc} (hG : gX D cy b s H locs S0 ce sl OZ OM) {ls : Array Slot} (hl : lv_has ls 4 [(3, .int (iI i)), (2, .ref (b + 80)), (1, .ref (b + 0)), (0, .ref q0)]) (kk : ∀ (ce sl : Nat) (H : Heap) (locs : List Loc) (ls : Array Slot), gX D cy b s H locs S1 ce sl OZ OM → lv_has ls 4 [(3, .int (iI i)), (2, .ref (b + 80)), (1, .ref (b + 0)), (0, .ref q0)] → W p l e room_1 s m #[Value.ref q0] below meth c H locs ce sl (lw_Z below #[Value.ref q0] s) (F0 m 1854 ls [])) : W p l e room_1 s m #[Value.ref q0] below meth c H locs ce sl (lw_Z below #[Value.ref q0] s) (F0 m 427 ls []) := by
  have hx := C0.1
  have hb := C0.2.1
  have S := lw_S C0
  unfold mL_7 at hM
  refine lv_aload_n hx hb dL_law_427 rfl (lv_at hl 2 rfl) ?_
  refine lv_aload_n hx hb dL_law_428 rfl (lv_at hl 3 rfl) ?_
  refine lv_iload_n hx hb dL_law_429 rfl (lv_at hl 0 rfl) ?_
  refine lv_iconst (v := iI 1) hx hb dL_law_430 (by decide) ?_
  refine gi_add hx hb dL_law_431 ?_
  refine n_sld C0 hbA hG (by omega) hx1 dL_law_432 ?_
  obtain ⟨r_2, hc_1, hM⟩ := bd1_some hM
  refine g_vi (As := [.int (iI x1)]) (rest := []) S hG.1 hG.2.1 (vX11_letters l hG.2.2.2.1 x1 hc_1) wV_GrownKindsLaw_44 (ec_0 (b := b) (cy := cy) (X := XD b cy S0) _) cpX11 (Nat.lt_of_lt_of_le (Nat.le_of_ble_eq_true rfl) hG.2.2.2.1) dL_law_433 rfl hl.1 (ar := 1) (by decide +kernel) rfl ⟨Nat.le_of_ble_eq_true rfl, Nat.le_of_ble_eq_true rfl, hG.rcL, hG.rsL⟩ (Nat.le_of_ble_eq_true rfl) (fun rv uu H locs hp hGc => ?_)
  obtain ⟨rfl, rfl⟩ := hp
  refine wz ?_
  replace hG := hG.same hGc
  clear hGc
  refine lv_aload_n hx hb dL_law_436 rfl (lv_at hl 1 rfl) ?_
  refine lv_aload_n hx hb dL_law_437 rfl (lv_at hl 3 rfl) ?_
  refine lv_iload_n hx hb dL_law_438 rfl (lv_at hl 0 rfl) ?_
  refine lv_iconst (v := iI 1) hx hb dL_law_439 (by decide) ?_
  refine gi_add hx hb dL_law_440 ?_
  refine n_sld C0 hbA hG (by omega) hx1 dL_law_441 ?_
  obtain ⟨r_4, hc_3, hM⟩ := bd1_some hM
  refine g_vi (As := [.int (iI x1)]) (rest := [.int (iI r_2)]) S hG.1 hG.2.1 (vX12_letters l hG.2.2.2.1 x1 hc_3) wV_GrownKindsLaw_47 (ec_83 (b := b) (cy := cy) (X := XD b cy S0) _) cpX12 (Nat.lt_of_lt_of_le (Nat.le_of_ble_eq_true rfl) hG.2.2.2.1) dL_law_442 rfl hl.1 (ar := 1) (by decide +kernel) rfl ⟨Nat.le_of_ble_eq_true rfl, Nat.le_of_ble_eq_true rfl, hG.rcL, hG.rsL⟩ (Nat.le_of_ble_eq_true rfl) (fun rv uu H locs hp hGc => ?_)
  obtain ⟨rfl, rfl⟩ := hp
  refine wz ?_
  replace hG := hG.same hGc
  clear hGc
  obtain ⟨hg_5, hM⟩ := gd_some hM
  refine gi_icmp_eq (tgt := 1854) hx hb dL_law_445 (by decide) hg_5.1 hg_5.2 (fun c_6 => ?_) (fun c_6 => ?_)
  · replace hM := ifp hM c_6
    cases hM
    exact kk _ _ H locs ls hG hl
  · replace hM := ifn hM c_6
    cases hM
theorem wV_GrownKindsLaw_48 : gWV "GrownKindsLaw" 48 yX11_uses cX11_uses 2 (some .int) := ⟨wm_1113, wm_1114, wm_1115, wm_177, wm_1116, by decide +kernel, by decide +kernel⟩
theorem wV_GrownKindsLaw_51 : gWV "GrownKindsLaw" 51 yX12_uses cX12_uses 2 (some .int) := ⟨wm_2002, wm_2003, wm_2004, wm_188, wm_2005, by decide +kernel, by decide +kernel⟩
def mL_8 (x1 x2 x3 x4 x5 : Int) (S0 : St) : Option St := bd1 (mX11_uses S0 x1) fun r_2 => bd1 (mX12_uses S0 x1) fun r_4 => gd ((inI r_2) ∧ (inI r_4)) <| if r_2 = r_4 then (some (S0)) else (none)
set_option maxHeartbeats 4000000 in
set_option maxRecDepth 100000 in
theorem lc_8 {p : Program} {l : Launch} {e : Env} {s : State} {m : MethodId} {below : List Frame} {meth : Method} {c : Code} {q0 : Nat} {xs : Nat → Int32} {D : va_G} {cy : Nat → ClassId} {b : Nat} {L : Nat} (hL : L ≤ 3072) (C0 : lw_At p s m meth c q0 L xs) (hbA : ¬ gA b q0) {i : Int} (hi : 0 ≤ i ∧ i + 6 ≤ L) {x1 x2 x3 x4 x5 : Int} (hx1 : (xs (i + 1).toNat).toInt = x1) (hx2 : (xs (i + 2).toNat).toInt = x2) (hx3 : (xs (i + 3).toNat).toInt = x3) (hx4 : (xs (i + 4).toNat).toInt = x4) (hx5 : (xs (i + 5).toNat).toInt = x5) {S0 S1 : St} (hM : mL_8 x1 x2 x3 x4 x5 S0 = some S1) (hOM : gle S1 OM) {ce sl : Nat} {H : Heap} {locs : List Loc} (hG : gX D cy b s H locs S0 ce sl OZ OM) {ls : Array Slot} (hl : lv_has ls 4 [(3, .int (iI i)), (2, .ref (b + 80)), (1, .ref (b + 0)), (0, .ref q0)]) (kk : ∀ (ce sl : Nat) (H : Heap) (locs : List Loc) (ls : Array Slot), gX D cy b s H locs S1 ce sl OZ OM → lv_has ls 4 [(3, .int (iI i)), (2, .ref (b + 80)), (1, .ref (b + 0)), (0, .ref q0)] → W p l e room_1 s m #[Value.ref q0] below meth c H locs ce sl (lw_Z below #[Value.ref q0] s) (F0 m 1854 ls [])) : W p l e room_1 s m #[Value.ref q0] below meth c H locs ce sl (lw_Z below #[Value.ref q0] s) (F0 m 450 ls []) := by
  have hx := C0.1
  have hb := C0.2.1
  have S := lw_S C0
  unfold mL_8 at hM
  refine lv_aload_n hx hb dL_law_450 rfl (lv_at hl 2 rfl) ?_
  refine lv_aload_n hx hb dL_law_451 rfl (lv_at hl 3 rfl) ?_
  refine lv_iload_n hx hb dL_law_452 rfl (lv_at hl 0 rfl) ?_
  refine lv_iconst (v := iI 1) hx hb dL_law_453 (by decide) ?_
  refine gi_add hx hb dL_law_454 ?_
  refine n_sld C0 hbA hG (by omega) hx1 dL_law_455 ?_
  obtain ⟨r_2, hc_1, hM⟩ := bd1_some hM
  refine g_vi (As := [.int (iI x1)]) (rest := []) S hG.1 hG.2.1 (vX11_uses l hG.2.2.2.1 x1 hc_1) wV_GrownKindsLaw_48 (ec_0 (b := b) (cy := cy) (X := XD b cy S0) _) cpX11 (Nat.lt_of_lt_of_le (Nat.le_of_ble_eq_true rfl) hG.2.2.2.1) dL_law_456 rfl hl.1 (ar := 1) (by decide +kernel) rfl ⟨Nat.le_of_ble_eq_true rfl, Nat.le_of_ble_eq_true rfl, hG.rcL, hG.rsL⟩ (Nat.le_of_ble_eq_true rfl) (fun rv uu H locs hp hGc => ?_)
  obtain ⟨rfl, rfl⟩ := hp
  refine wz ?_
  replace hG := hG.same hGc
  clear hGc
  refine lv_aload_n hx hb dL_law_459 rfl (lv_at hl 1 rfl) ?_
  refine lv_aload_n hx hb dL_law_460 rfl (lv_at hl 3 rfl) ?_
  refine lv_iload_n hx hb dL_law_461 rfl (lv_at hl 0 rfl) ?_
  refine lv_iconst (v := iI 1) hx hb dL_law_462 (by decide) ?_
  refine gi_add hx hb dL_law_463 ?_
  refine n_sld C0 hbA hG (by omega) hx1 dL_law_464 ?_
  obtain ⟨r_4, hc_3, hM⟩ := bd1_some hM
  refine g_vi (As := [.int (iI x1)]) (rest := [.int (iI r_2)]) S hG.1 hG.2.1 (vX12_uses l hG.2.2.2.1 x1 hc_3) wV_GrownKindsLaw_51 (ec_83 (b := b) (cy := cy) (X := XD b cy S0) _) cpX12 (Nat.lt_of_lt_of_le (Nat.le_of_ble_eq_true rfl) hG.2.2.2.1) dL_law_465 rfl hl.1 (ar := 1) (by decide +kernel) rfl ⟨Nat.le_of_ble_eq_true rfl, Nat.le_of_ble_eq_true rfl, hG.rcL, hG.rsL⟩ (Nat.le_of_ble_eq_true rfl) (fun rv uu H locs hp hGc => ?_)
  obtain ⟨rfl, rfl⟩ := hp
  refine wz ?_
  replace hG := hG.same hGc
  clear hGc
  obtain ⟨hg_5, hM⟩ := gd_some hM
  refine gi_icmp_eq (tgt := 1854) hx hb dL_law_468 (by decide) hg_5.1 hg_5.2 (fun c_6 => ?_) (fun c_6 => ?_)
  · replace hM := ifp hM c_6
    cases hM
    exact kk _ _ H locs ls hG hl
  · replace hM := ifn hM c_6
    cases hM
theorem wV_GrownKindsLaw_52 : gWV "GrownKindsLaw" 52 yX11_reaches cX11_reaches 2 (some .int) := ⟨wm_1117, wm_1118, wm_1119, wm_177, wm_1120, by decide +kernel, by decide +kernel⟩
theorem wV_GrownKindsLaw_55 : gWV "GrownKindsLaw" 55 yX12_reaches cX12_reaches 5 (some .int) := ⟨wm_2006, wm_2007, wm_2008, wm_188, wm_2009, by decide +kernel, by decide +kernel⟩
def mL_9 (x1 x2 x3 x4 x5 : Int) (S0 : St) : Option St := bd1 (mX11_reaches S0 x1) fun r_2 => bd1 (mX12_reaches S0 x1) fun r_4 => gd ((inI r_2) ∧ (inI r_4)) <| if r_2 = r_4 then (some (S0)) else (none)
set_option maxHeartbeats 4000000 in
set_option maxRecDepth 100000 in
theorem lc_9 {p : Program} {l : Launch} {e : Env} {s : State} {m : MethodId} {below : List Frame} {meth : Method} {c : Code} {q0 : Nat} {xs : Nat → Int32} {D : va_G} {cy : Nat → ClassId} {b : Nat} {L : Nat} (hL : L ≤ 3072) (C0 : lw_At p s m meth c q0 L xs) (hbA : ¬ gA b q0) {i : Int} (hi : 0 ≤ i ∧ i + 6 ≤ L) {x1 x2 x3 x4 x5 : Int} (hx1 : (xs (i + 1).toNat).toInt = x1) (hx2 : (xs (i + 2).toNat).toInt = x2) (hx3 : (xs (i + 3).toNat).toInt = x3) (hx4 : (xs (i + 4).toNat).toInt = x4) (hx5 : (xs (i + 5).toNat).toInt = x5) {S0 S1 : St} (hM : mL_9 x1 x2 x3 x4 x5 S0 = some S1) (hOM : gle S1 OM) {ce sl : Nat} {H : Heap} {locs : List Loc} (hG : gX D cy b s H locs S0 ce sl OZ OM) {ls : Array Slot} (hl : lv_has ls 4 [(3, .int (iI i)), (2, .ref (b + 80)), (1, .ref (b + 0)), (0, .ref q0)]) (kk : ∀ (ce sl : Nat) (H : Heap) (locs : List Loc) (ls : Array Slot), gX D cy b s H locs S1 ce sl OZ OM → lv_has ls 4 [(3, .int (iI i)), (2, .ref (b + 80)), (1, .ref (b + 0)), (0, .ref q0)] → W p l e room_1 s m #[Value.ref q0] below meth c H locs ce sl (lw_Z below #[Value.ref q0] s) (F0 m 1854 ls [])) : W p l e room_1 s m #[Value.ref q0] below meth c H locs ce sl (lw_Z below #[Value.ref q0] s) (F0 m 473 ls []) := by
  have hx := C0.1
  have hb := C0.2.1
  have S := lw_S C0
  unfold mL_9 at hM
  refine lv_aload_n hx hb dL_law_473 rfl (lv_at hl 2 rfl) ?_
  refine lv_aload_n hx hb dL_law_474 rfl (lv_at hl 3 rfl) ?_
  refine lv_iload_n hx hb dL_law_475 rfl (lv_at hl 0 rfl) ?_
  refine lv_iconst (v := iI 1) hx hb dL_law_476 (by decide) ?_
  refine gi_add hx hb dL_law_477 ?_
  refine n_sld C0 hbA hG (by omega) hx1 dL_law_478 ?_
  obtain ⟨r_2, hc_1, hM⟩ := bd1_some hM
  refine g_vi (As := [.int (iI x1)]) (rest := []) S hG.1 hG.2.1 (vX11_reaches l hG.2.2.2.1 x1 hc_1) wV_GrownKindsLaw_52 (ec_0 (b := b) (cy := cy) (X := XD b cy S0) _) cpX11 (Nat.lt_of_lt_of_le (Nat.le_of_ble_eq_true rfl) hG.2.2.2.1) dL_law_479 rfl hl.1 (ar := 1) (by decide +kernel) rfl ⟨Nat.le_of_ble_eq_true rfl, Nat.le_of_ble_eq_true rfl, hG.rcL, hG.rsL⟩ (Nat.le_of_ble_eq_true rfl) (fun rv uu H locs hp hGc => ?_)
  obtain ⟨rfl, rfl⟩ := hp
  refine wz ?_
  replace hG := hG.same hGc
  clear hGc
  refine lv_aload_n hx hb dL_law_482 rfl (lv_at hl 1 rfl) ?_
  refine lv_aload_n hx hb dL_law_483 rfl (lv_at hl 3 rfl) ?_
  refine lv_iload_n hx hb dL_law_484 rfl (lv_at hl 0 rfl) ?_
  refine lv_iconst (v := iI 1) hx hb dL_law_485 (by decide) ?_
  refine gi_add hx hb dL_law_486 ?_
  refine n_sld C0 hbA hG (by omega) hx1 dL_law_487 ?_
  obtain ⟨r_4, hc_3, hM⟩ := bd1_some hM
  refine g_vi (As := [.int (iI x1)]) (rest := [.int (iI r_2)]) S hG.1 hG.2.1 (vX12_reaches l hG.2.2.2.1 x1 hc_3) wV_GrownKindsLaw_55 (ec_83 (b := b) (cy := cy) (X := XD b cy S0) _) cpX12 (Nat.lt_of_lt_of_le (Nat.le_of_ble_eq_true rfl) hG.2.2.2.1) dL_law_488 rfl hl.1 (ar := 1) (by decide +kernel) rfl ⟨Nat.le_of_ble_eq_true rfl, Nat.le_of_ble_eq_true rfl, hG.rcL, hG.rsL⟩ (Nat.le_of_ble_eq_true rfl) (fun rv uu H locs hp hGc => ?_)
  obtain ⟨rfl, rfl⟩ := hp
  refine wz ?_
  replace hG := hG.same hGc
  clear hGc
  obtain ⟨hg_5, hM⟩ := gd_some hM
  refine gi_icmp_eq (tgt := 1854) hx hb dL_law_491 (by decide) hg_5.1 hg_5.2 (fun c_6 => ?_) (fun c_6 => ?_)
  · replace hM := ifp hM c_6
    cases hM
    exact kk _ _ H locs ls hG hl
  · replace hM := ifn hM c_6
    cases hM
theorem wV_GrownKindsLaw_56 : gWV "GrownKindsLaw" 56 yX11_empty cX11_empty 2 (some .int) := ⟨wm_1122, wm_1123, wm_1124, wm_177, wm_1125, by decide +kernel, by decide +kernel⟩
theorem wV_GrownKindsLaw_59 : gWV "GrownKindsLaw" 59 yX12_empty cX12_empty 2 (some .int) := ⟨wm_2010, wm_2011, wm_2012, wm_188, wm_2013, by decide +kernel, by decide +kernel⟩
def mL_10 (x1 x2 x3 x4 x5 : Int) (S0 : St) : Option St := bd1 (mX11_empty S0 x1) fun r_2 => bd2 (mX12_empty S0 x1) fun r_4 S_5 => nx (msk S_5 S0) fun S_6 => gd ((inI r_2) ∧ (inI r_4)) <| if r_2 = r_4 then (some (S_6)) else (none)
set_option maxHeartbeats 4000000 in
set_option maxRecDepth 100000 in
theorem lc_10 {p : Program} {l : Launch} {e : Env} {s : State} {m : MethodId} {below : List Frame} {meth : Method} {c : Code} {q0 : Nat} {xs : Nat → Int32} {D : va_G} {cy : Nat → ClassId} {b : Nat} {L : Nat} (hL : L ≤ 3072) (C0 : lw_At p s m meth c q0 L xs) (hbA : ¬ gA b q0) {i : Int} (hi : 0 ≤ i ∧ i + 6 ≤ L) {x1 x2 x3 x4 x5 : Int} (hx1 : (xs (i + 1).toNat).toInt = x1) (hx2 : (xs (i + 2).toNat).toInt = x2) (hx3 : (xs (i + 3).toNat).toInt = x3) (hx4 : (xs (i + 4).toNat).toInt = x4) (hx5 : (xs (i + 5).toNat).toInt = x5) {S0 S1 : St} (hM : mL_10 x1 x2 x3 x4 x5 S0 = some S1) (hOM : gle S1 OM) {ce sl : Nat} {H : Heap} {locs : List Loc} (hG : gX D cy b s H locs S0 ce sl OZ OM) {ls : Array Slot} (hl : lv_has ls 4 [(3, .int (iI i)), (2, .ref (b + 80)), (1, .ref (b + 0)), (0, .ref q0)]) (kk : ∀ (ce sl : Nat) (H : Heap) (locs : List Loc) (ls : Array Slot), gX D cy b s H locs S1 ce sl OZ OM → lv_has ls 4 [(3, .int (iI i)), (2, .ref (b + 80)), (1, .ref (b + 0)), (0, .ref q0)] → W p l e room_1 s m #[Value.ref q0] below meth c H locs ce sl (lw_Z below #[Value.ref q0] s) (F0 m 1854 ls [])) : W p l e room_1 s m #[Value.ref q0] below meth c H locs ce sl (lw_Z below #[Value.ref q0] s) (F0 m 496 ls []) := by
  have hx := C0.1
  have hb := C0.2.1
  have S := lw_S C0
  unfold mL_10 at hM
  refine lv_aload_n hx hb dL_law_496 rfl (lv_at hl 2 rfl) ?_
  refine lv_aload_n hx hb dL_law_497 rfl (lv_at hl 3 rfl) ?_
  refine lv_iload_n hx hb dL_law_498 rfl (lv_at hl 0 rfl) ?_
  refine lv_iconst (v := iI 1) hx hb dL_law_499 (by decide) ?_
  refine gi_add hx hb dL_law_500 ?_
  refine n_sld C0 hbA hG (by omega) hx1 dL_law_501 ?_
  obtain ⟨r_2, hc_1, hM⟩ := bd1_some hM
  refine g_vi (As := [.int (iI x1)]) (rest := []) S hG.1 hG.2.1 (vX11_empty l hG.2.2.2.1 x1 hc_1) wV_GrownKindsLaw_56 (ec_0 (b := b) (cy := cy) (X := XD b cy S0) _) cpX11 (Nat.lt_of_lt_of_le (Nat.le_of_ble_eq_true rfl) hG.2.2.2.1) dL_law_502 rfl hl.1 (ar := 1) (by decide +kernel) rfl ⟨Nat.le_of_ble_eq_true rfl, Nat.le_of_ble_eq_true rfl, hG.rcL, hG.rsL⟩ (Nat.le_of_ble_eq_true rfl) (fun rv uu H locs hp hGc => ?_)
  obtain ⟨rfl, rfl⟩ := hp
  refine wz ?_
  replace hG := hG.same hGc
  clear hGc
  refine lv_aload_n hx hb dL_law_505 rfl (lv_at hl 1 rfl) ?_
  refine lv_aload_n hx hb dL_law_506 rfl (lv_at hl 3 rfl) ?_
  refine lv_iload_n hx hb dL_law_507 rfl (lv_at hl 0 rfl) ?_
  refine lv_iconst (v := iI 1) hx hb dL_law_508 (by decide) ?_
  refine gi_add hx hb dL_law_509 ?_
  refine n_sld C0 hbA hG (by omega) hx1 dL_law_510 ?_
  obtain ⟨r_4, S_5, hc_3, hM⟩ := bd2_some hM
  refine g_vi (As := [.int (iI x1)]) (rest := [.int (iI r_2)]) S hG.1 hG.2.1 (vX12_empty l hG.2.2.2.1 x1 hc_3) wV_GrownKindsLaw_59 (ec_83 (b := b) (cy := cy) (X := XD b cy S0) _) cpX12 (Nat.lt_of_lt_of_le (Nat.le_of_ble_eq_true rfl) hG.2.2.2.1) dL_law_511 rfl hl.1 (ar := 1) (by decide +kernel) rfl ⟨Nat.le_of_ble_eq_true rfl, Nat.le_of_ble_eq_true rfl, hG.rcL, hG.rsL⟩ (Nat.le_of_ble_eq_true rfl) (fun rv uu H locs hp hGc => ?_)
  obtain ⟨rfl, rfl⟩ := hp
  refine wz ?_
  replace hG := hG.back hGc
  clear hGc
  obtain ⟨S_6, eS_6⟩ : ∃ q, q = msk S_5 S0 := ⟨_, rfl⟩
  rw [← eS_6] at hG
  replace hM := nx_at hM eS_6
  clear eS_6
  obtain ⟨hg_7, hM⟩ := gd_some hM
  refine gi_icmp_eq (tgt := 1854) hx hb dL_law_514 (by decide) hg_7.1 hg_7.2 (fun c_8 => ?_) (fun c_8 => ?_)
  · replace hM := ifp hM c_8
    cases hM
    exact kk _ _ H locs ls hG hl
  · replace hM := ifn hM c_8
    cases hM
theorem wV_GrownKindsLaw_60 : gWV "GrownKindsLaw" 60 yX11_leans cX11_leans 2 (some .int) := ⟨wm_1126, wm_1127, wm_1128, wm_177, wm_1129, by decide +kernel, by decide +kernel⟩
theorem wV_GrownKindsLaw_63 : gWV "GrownKindsLaw" 63 yX12_leans cX12_leans 2 (some .int) := ⟨wm_2014, wm_2015, wm_2016, wm_188, wm_2017, by decide +kernel, by decide +kernel⟩
def mL_11 (x1 x2 x3 x4 x5 : Int) (S0 : St) : Option St := bd1 (mX11_leans S0 x1) fun r_2 => bd2 (mX12_leans S0 x1) fun r_4 S_5 => nx (msk S_5 S0) fun S_6 => gd ((inI r_2) ∧ (inI r_4)) <| if r_2 = r_4 then (some (S_6)) else (none)
set_option maxHeartbeats 4000000 in
set_option maxRecDepth 100000 in
theorem lc_11 {p : Program} {l : Launch} {e : Env} {s : State} {m : MethodId} {below : List Frame} {meth : Method} {c : Code} {q0 : Nat} {xs : Nat → Int32} {D : va_G} {cy : Nat → ClassId} {b : Nat} {L : Nat} (hL : L ≤ 3072) (C0 : lw_At p s m meth c q0 L xs) (hbA : ¬ gA b q0) {i : Int} (hi : 0 ≤ i ∧ i + 6 ≤ L) {x1 x2 x3 x4 x5 : Int} (hx1 : (xs (i + 1).toNat).toInt = x1) (hx2 : (xs (i + 2).toNat).toInt = x2) (hx3 : (xs (i + 3).toNat).toInt = x3) (hx4 : (xs (i + 4).toNat).toInt = x4) (hx5 : (xs (i + 5).toNat).toInt = x5) {S0 S1 : St} (hM : mL_11 x1 x2 x3 x4 x5 S0 = some S1) (hOM : gle S1 OM) {ce sl : Nat} {H : Heap} {locs : List Loc} (hG : gX D cy b s H locs S0 ce sl OZ OM) {ls : Array Slot} (hl : lv_has ls 4 [(3, .int (iI i)), (2, .ref (b + 80)), (1, .ref (b + 0)), (0, .ref q0)]) (kk : ∀ (ce sl : Nat) (H : Heap) (locs : List Loc) (ls : Array Slot), gX D cy b s H locs S1 ce sl OZ OM → lv_has ls 4 [(3, .int (iI i)), (2, .ref (b + 80)), (1, .ref (b + 0)), (0, .ref q0)] → W p l e room_1 s m #[Value.ref q0] below meth c H locs ce sl (lw_Z below #[Value.ref q0] s) (F0 m 1854 ls [])) : W p l e room_1 s m #[Value.ref q0] below meth c H locs ce sl (lw_Z below #[Value.ref q0] s) (F0 m 519 ls []) := by
  have hx := C0.1
  have hb := C0.2.1
  have S := lw_S C0
  unfold mL_11 at hM
  refine lv_aload_n hx hb dL_law_519 rfl (lv_at hl 2 rfl) ?_
  refine lv_aload_n hx hb dL_law_520 rfl (lv_at hl 3 rfl) ?_
  refine lv_iload_n hx hb dL_law_521 rfl (lv_at hl 0 rfl) ?_
  refine lv_iconst (v := iI 1) hx hb dL_law_522 (by decide) ?_
  refine gi_add hx hb dL_law_523 ?_
  refine n_sld C0 hbA hG (by omega) hx1 dL_law_524 ?_
  obtain ⟨r_2, hc_1, hM⟩ := bd1_some hM
  refine g_vi (As := [.int (iI x1)]) (rest := []) S hG.1 hG.2.1 (vX11_leans l hG.2.2.2.1 x1 hc_1) wV_GrownKindsLaw_60 (ec_0 (b := b) (cy := cy) (X := XD b cy S0) _) cpX11 (Nat.lt_of_lt_of_le (Nat.le_of_ble_eq_true rfl) hG.2.2.2.1) dL_law_525 rfl hl.1 (ar := 1) (by decide +kernel) rfl ⟨Nat.le_of_ble_eq_true rfl, Nat.le_of_ble_eq_true rfl, hG.rcL, hG.rsL⟩ (Nat.le_of_ble_eq_true rfl) (fun rv uu H locs hp hGc => ?_)
  obtain ⟨rfl, rfl⟩ := hp
  refine wz ?_
  replace hG := hG.same hGc
  clear hGc
  refine lv_aload_n hx hb dL_law_528 rfl (lv_at hl 1 rfl) ?_
  refine lv_aload_n hx hb dL_law_529 rfl (lv_at hl 3 rfl) ?_
  refine lv_iload_n hx hb dL_law_530 rfl (lv_at hl 0 rfl) ?_
  refine lv_iconst (v := iI 1) hx hb dL_law_531 (by decide) ?_
  refine gi_add hx hb dL_law_532 ?_
  refine n_sld C0 hbA hG (by omega) hx1 dL_law_533 ?_
  obtain ⟨r_4, S_5, hc_3, hM⟩ := bd2_some hM
  refine g_vi (As := [.int (iI x1)]) (rest := [.int (iI r_2)]) S hG.1 hG.2.1 (vX12_leans l hG.2.2.2.1 x1 hc_3) wV_GrownKindsLaw_63 (ec_83 (b := b) (cy := cy) (X := XD b cy S0) _) cpX12 (Nat.lt_of_lt_of_le (Nat.le_of_ble_eq_true rfl) hG.2.2.2.1) dL_law_534 rfl hl.1 (ar := 1) (by decide +kernel) rfl ⟨Nat.le_of_ble_eq_true rfl, Nat.le_of_ble_eq_true rfl, hG.rcL, hG.rsL⟩ (Nat.le_of_ble_eq_true rfl) (fun rv uu H locs hp hGc => ?_)
  obtain ⟨rfl, rfl⟩ := hp
  refine wz ?_
  replace hG := hG.back hGc
  clear hGc
  obtain ⟨S_6, eS_6⟩ : ∃ q, q = msk S_5 S0 := ⟨_, rfl⟩
  rw [← eS_6] at hG
  replace hM := nx_at hM eS_6
  clear eS_6
  obtain ⟨hg_7, hM⟩ := gd_some hM
  refine gi_icmp_eq (tgt := 1854) hx hb dL_law_537 (by decide) hg_7.1 hg_7.2 (fun c_8 => ?_) (fun c_8 => ?_)
  · replace hM := ifp hM c_8
    cases hM
    exact kk _ _ H locs ls hG hl
  · replace hM := ifn hM c_8
    cases hM
theorem wV_GrownKindsLaw_64 : gWV "GrownKindsLaw" 64 yX11_blank cX11_blank 3 (some .int) := ⟨wm_1130, wm_1131, wm_1132, wm_177, wm_1133, by decide +kernel, by decide +kernel⟩
theorem wV_GrownKindsLaw_67 : gWV "GrownKindsLaw" 67 yX12_blank cX12_blank 3 (some .int) := ⟨wm_2018, wm_2019, wm_2020, wm_188, wm_2021, by decide +kernel, by decide +kernel⟩
def mL_12 (x1 x2 x3 x4 x5 : Int) (S0 : St) : Option St := bd1 (mX11_blank S0) fun r_2 => bd2 (mX12_blank S0) fun r_4 S_5 => nx (msk S_5 S0) fun S_6 => gd ((inI r_2) ∧ (inI r_4)) <| if r_2 = r_4 then (some (S_6)) else (none)
set_option maxHeartbeats 4000000 in
set_option maxRecDepth 100000 in
theorem lc_12 {p : Program} {l : Launch} {e : Env} {s : State} {m : MethodId} {below : List Frame} {meth : Method} {c : Code} {q0 : Nat} {xs : Nat → Int32} {D : va_G} {cy : Nat → ClassId} {b : Nat} {L : Nat} (hL : L ≤ 3072) (C0 : lw_At p s m meth c q0 L xs) (hbA : ¬ gA b q0) {i : Int} (hi : 0 ≤ i ∧ i + 6 ≤ L) {x1 x2 x3 x4 x5 : Int} (hx1 : (xs (i + 1).toNat).toInt = x1) (hx2 : (xs (i + 2).toNat).toInt = x2) (hx3 : (xs (i + 3).toNat).toInt = x3) (hx4 : (xs (i + 4).toNat).toInt = x4) (hx5 : (xs (i + 5).toNat).toInt = x5) {S0 S1 : St} (hM : mL_12 x1 x2 x3 x4 x5 S0 = some S1) (hOM : gle S1 OM) {ce sl : Nat} {H : Heap} {locs : List Loc} (hG : gX D cy b s H locs S0 ce sl OZ OM) {ls : Array Slot} (hl : lv_has ls 4 [(3, .int (iI i)), (2, .ref (b + 80)), (1, .ref (b + 0)), (0, .ref q0)]) (kk : ∀ (ce sl : Nat) (H : Heap) (locs : List Loc) (ls : Array Slot), gX D cy b s H locs S1 ce sl OZ OM → lv_has ls 4 [(3, .int (iI i)), (2, .ref (b + 80)), (1, .ref (b + 0)), (0, .ref q0)] → W p l e room_1 s m #[Value.ref q0] below meth c H locs ce sl (lw_Z below #[Value.ref q0] s) (F0 m 1854 ls [])) : W p l e room_1 s m #[Value.ref q0] below meth c H locs ce sl (lw_Z below #[Value.ref q0] s) (F0 m 542 ls []) := by
  have hx := C0.1
  have hb := C0.2.1
  have S := lw_S C0
  unfold mL_12 at hM
  refine lv_aload_n hx hb dL_law_542 rfl (lv_at hl 2 rfl) ?_
  obtain ⟨r_2, hc_1, hM⟩ := bd1_some hM
  refine g_vi (As := []) (rest := []) S hG.1 hG.2.1 (vX11_blank l hG.2.2.2.1  hc_1) wV_GrownKindsLaw_64 (ec_0 (b := b) (cy := cy) (X := XD b cy S0) _) cpX11 (Nat.lt_of_lt_of_le (Nat.le_of_ble_eq_true rfl) hG.2.2.2.1) dL_law_543 rfl hl.1 (ar := 0) (by decide +kernel) rfl ⟨Nat.le_of_ble_eq_true rfl, Nat.le_of_ble_eq_true rfl, hG.rcL, hG.rsL⟩ (Nat.le_of_ble_eq_true rfl) (fun rv uu H locs hp hGc => ?_)
  obtain ⟨rfl, rfl⟩ := hp
  refine wz ?_
  replace hG := hG.same hGc
  clear hGc
  refine lv_aload_n hx hb dL_law_546 rfl (lv_at hl 1 rfl) ?_
  obtain ⟨r_4, S_5, hc_3, hM⟩ := bd2_some hM
  refine g_vi (As := []) (rest := [.int (iI r_2)]) S hG.1 hG.2.1 (vX12_blank l hG.2.2.2.1  hc_3) wV_GrownKindsLaw_67 (ec_83 (b := b) (cy := cy) (X := XD b cy S0) _) cpX12 (Nat.lt_of_lt_of_le (Nat.le_of_ble_eq_true rfl) hG.2.2.2.1) dL_law_547 rfl hl.1 (ar := 0) (by decide +kernel) rfl ⟨Nat.le_of_ble_eq_true rfl, Nat.le_of_ble_eq_true rfl, hG.rcL, hG.rsL⟩ (Nat.le_of_ble_eq_true rfl) (fun rv uu H locs hp hGc => ?_)
  obtain ⟨rfl, rfl⟩ := hp
  refine wz ?_
  replace hG := hG.back hGc
  clear hGc
  obtain ⟨S_6, eS_6⟩ : ∃ q, q = msk S_5 S0 := ⟨_, rfl⟩
  rw [← eS_6] at hG
  replace hM := nx_at hM eS_6
  clear eS_6
  obtain ⟨hg_7, hM⟩ := gd_some hM
  refine gi_icmp_eq (tgt := 1854) hx hb dL_law_550 (by decide) hg_7.1 hg_7.2 (fun c_8 => ?_) (fun c_8 => ?_)
  · replace hM := ifp hM c_8
    cases hM
    exact kk _ _ H locs ls hG hl
  · replace hM := ifn hM c_8
    cases hM
theorem wV_GrownKindsLaw_68 : gWV "GrownKindsLaw" 68 yX11_least cX11_least 2 (some .int) := ⟨wm_1151, wm_1135, wm_1136, wm_177, wm_1137, by decide +kernel, by decide +kernel⟩
theorem wV_GrownKindsLaw_71 : gWV "GrownKindsLaw" 71 yX12_least cX12_least 2 (some .int) := ⟨wm_2085, wm_2086, wm_2087, wm_188, wm_2088, by decide +kernel, by decide +kernel⟩
def mL_13 (x1 x2 x3 x4 x5 : Int) (S0 : St) : Option St := bd1 (mX11_least S0 x1) fun r_2 => bd2 (mX12_least S0 x1) fun r_4 S_5 => nx (msk S_5 S0) fun S_6 => gd ((inI r_2) ∧ (inI r_4)) <| if r_2 = r_4 then (some (S_6)) else (none)
set_option maxHeartbeats 4000000 in
set_option maxRecDepth 100000 in
theorem lc_13 {p : Program} {l : Launch} {e : Env} {s : State} {m : MethodId} {below : List Frame} {meth : Method} {c : Code} {q0 : Nat} {xs : Nat → Int32} {D : va_G} {cy : Nat → ClassId} {b : Nat} {L : Nat} (hL : L ≤ 3072) (C0 : lw_At p s m meth c q0 L xs) (hbA : ¬ gA b q0) {i : Int} (hi : 0 ≤ i ∧ i + 6 ≤ L) {x1 x2 x3 x4 x5 : Int} (hx1 : (xs (i + 1).toNat).toInt = x1) (hx2 : (xs (i + 2).toNat).toInt = x2) (hx3 : (xs (i + 3).toNat).toInt = x3) (hx4 : (xs (i + 4).toNat).toInt = x4) (hx5 : (xs (i + 5).toNat).toInt = x5) {S0 S1 : St} (hM : mL_13 x1 x2 x3 x4 x5 S0 = some S1) (hOM : gle S1 OM) {ce sl : Nat} {H : Heap} {locs : List Loc} (hG : gX D cy b s H locs S0 ce sl OZ OM) {ls : Array Slot} (hl : lv_has ls 4 [(3, .int (iI i)), (2, .ref (b + 80)), (1, .ref (b + 0)), (0, .ref q0)]) (kk : ∀ (ce sl : Nat) (H : Heap) (locs : List Loc) (ls : Array Slot), gX D cy b s H locs S1 ce sl OZ OM → lv_has ls 4 [(3, .int (iI i)), (2, .ref (b + 80)), (1, .ref (b + 0)), (0, .ref q0)] → W p l e room_1 s m #[Value.ref q0] below meth c H locs ce sl (lw_Z below #[Value.ref q0] s) (F0 m 1854 ls [])) : W p l e room_1 s m #[Value.ref q0] below meth c H locs ce sl (lw_Z below #[Value.ref q0] s) (F0 m 555 ls []) := by
  have hx := C0.1
  have hb := C0.2.1
  have S := lw_S C0
  unfold mL_13 at hM
  refine lv_aload_n hx hb dL_law_555 rfl (lv_at hl 2 rfl) ?_
  refine lv_aload_n hx hb dL_law_556 rfl (lv_at hl 3 rfl) ?_
  refine lv_iload_n hx hb dL_law_557 rfl (lv_at hl 0 rfl) ?_
  refine lv_iconst (v := iI 1) hx hb dL_law_558 (by decide) ?_
  refine gi_add hx hb dL_law_559 ?_
  refine n_sld C0 hbA hG (by omega) hx1 dL_law_560 ?_
  obtain ⟨r_2, hc_1, hM⟩ := bd1_some hM
  refine g_vi (As := [.int (iI x1)]) (rest := []) S hG.1 hG.2.1 (vX11_least l hG.2.2.2.1 x1 hc_1) wV_GrownKindsLaw_68 (ec_0 (b := b) (cy := cy) (X := XD b cy S0) _) cpX11 (Nat.lt_of_lt_of_le (Nat.le_of_ble_eq_true rfl) hG.2.2.2.1) dL_law_561 rfl hl.1 (ar := 1) (by decide +kernel) rfl ⟨Nat.le_of_ble_eq_true rfl, Nat.le_of_ble_eq_true rfl, hG.rcL, hG.rsL⟩ (Nat.le_of_ble_eq_true rfl) (fun rv uu H locs hp hGc => ?_)
  obtain ⟨rfl, rfl⟩ := hp
  refine wz ?_
  replace hG := hG.same hGc
  clear hGc
  refine lv_aload_n hx hb dL_law_564 rfl (lv_at hl 1 rfl) ?_
  refine lv_aload_n hx hb dL_law_565 rfl (lv_at hl 3 rfl) ?_
  refine lv_iload_n hx hb dL_law_566 rfl (lv_at hl 0 rfl) ?_
  refine lv_iconst (v := iI 1) hx hb dL_law_567 (by decide) ?_
  refine gi_add hx hb dL_law_568 ?_
  refine n_sld C0 hbA hG (by omega) hx1 dL_law_569 ?_
  obtain ⟨r_4, S_5, hc_3, hM⟩ := bd2_some hM
  refine g_vi (As := [.int (iI x1)]) (rest := [.int (iI r_2)]) S hG.1 hG.2.1 (vX12_least l hG.2.2.2.1 x1 hc_3) wV_GrownKindsLaw_71 (ec_83 (b := b) (cy := cy) (X := XD b cy S0) _) cpX12 (Nat.lt_of_lt_of_le (Nat.le_of_ble_eq_true rfl) hG.2.2.2.1) dL_law_570 rfl hl.1 (ar := 1) (by decide +kernel) rfl ⟨Nat.le_of_ble_eq_true rfl, Nat.le_of_ble_eq_true rfl, hG.rcL, hG.rsL⟩ (Nat.le_of_ble_eq_true rfl) (fun rv uu H locs hp hGc => ?_)
  obtain ⟨rfl, rfl⟩ := hp
  refine wz ?_
  replace hG := hG.back hGc
  clear hGc
  obtain ⟨S_6, eS_6⟩ : ∃ q, q = msk S_5 S0 := ⟨_, rfl⟩
  rw [← eS_6] at hG
  replace hM := nx_at hM eS_6
  clear eS_6
  obtain ⟨hg_7, hM⟩ := gd_some hM
  refine gi_icmp_eq (tgt := 1854) hx hb dL_law_573 (by decide) hg_7.1 hg_7.2 (fun c_8 => ?_) (fun c_8 => ?_)
  · replace hM := ifp hM c_8
    cases hM
    exact kk _ _ H locs ls hG hl
  · replace hM := ifn hM c_8
    cases hM
theorem wV_GrownKindsLaw_72 : gWV "GrownKindsLaw" 72 yX11_things cX11_things 3 (some .long) := ⟨wm_1152, wm_1153, wm_1154, wm_177, wm_1155, by decide +kernel, by decide +kernel⟩
theorem wV_GrownKindsLaw_76 : gWV "GrownKindsLaw" 76 yX12_things cX12_things 3 (some .long) := ⟨wm_2093, wm_2094, wm_2095, wm_188, wm_2096, by decide +kernel, by decide +kernel⟩
def mL_14 (x1 x2 x3 x4 x5 : Int) (S0 : St) : Option St := bd1 (mX11_things S0 x1 x2) fun r_2 => bd2 (mX12_things S0 x1 x2) fun r_4 S_5 => nx (msk S_5 S0) fun S_6 => gd ((inL r_2) ∧ (inL r_4)) <| if r_2 = r_4 then (some (S_6)) else (none)
set_option maxHeartbeats 4000000 in
set_option maxRecDepth 100000 in
theorem lc_14 {p : Program} {l : Launch} {e : Env} {s : State} {m : MethodId} {below : List Frame} {meth : Method} {c : Code} {q0 : Nat} {xs : Nat → Int32} {D : va_G} {cy : Nat → ClassId} {b : Nat} {L : Nat} (hL : L ≤ 3072) (C0 : lw_At p s m meth c q0 L xs) (hbA : ¬ gA b q0) {i : Int} (hi : 0 ≤ i ∧ i + 6 ≤ L) {x1 x2 x3 x4 x5 : Int} (hx1 : (xs (i + 1).toNat).toInt = x1) (hx2 : (xs (i + 2).toNat).toInt = x2) (hx3 : (xs (i + 3).toNat).toInt = x3) (hx4 : (xs (i + 4).toNat).toInt = x4) (hx5 : (xs (i + 5).toNat).toInt = x5) {S0 S1 : St} (hM : mL_14 x1 x2 x3 x4 x5 S0 = some S1) (hOM : gle S1 OM) {ce sl : Nat} {H : Heap} {locs : List Loc} (hG : gX D cy b s H locs S0 ce sl OZ OM) {ls : Array Slot} (hl : lv_has ls 4 [(3, .int (iI i)), (2, .ref (b + 80)), (1, .ref (b + 0)), (0, .ref q0)]) (kk : ∀ (ce sl : Nat) (H : Heap) (locs : List Loc) (ls : Array Slot), gX D cy b s H locs S1 ce sl OZ OM → lv_has ls 4 [(3, .int (iI i)), (2, .ref (b + 80)), (1, .ref (b + 0)), (0, .ref q0)] → W p l e room_1 s m #[Value.ref q0] below meth c H locs ce sl (lw_Z below #[Value.ref q0] s) (F0 m 1854 ls [])) : W p l e room_1 s m #[Value.ref q0] below meth c H locs ce sl (lw_Z below #[Value.ref q0] s) (F0 m 578 ls []) := by
  have hx := C0.1
  have hb := C0.2.1
  have S := lw_S C0
  unfold mL_14 at hM
  refine lv_aload_n hx hb dL_law_578 rfl (lv_at hl 2 rfl) ?_
  refine lv_aload_n hx hb dL_law_579 rfl (lv_at hl 3 rfl) ?_
  refine lv_iload_n hx hb dL_law_580 rfl (lv_at hl 0 rfl) ?_
  refine lv_iconst (v := iI 1) hx hb dL_law_581 (by decide) ?_
  refine gi_add hx hb dL_law_582 ?_
  refine n_sld C0 hbA hG (by omega) hx1 dL_law_583 ?_
  refine lv_aload_n hx hb dL_law_584 rfl (lv_at hl 3 rfl) ?_
  refine lv_iload_n hx hb dL_law_585 rfl (lv_at hl 0 rfl) ?_
  refine lv_iconst (v := iI 2) hx hb dL_law_586 (by decide) ?_
  refine gi_add hx hb dL_law_587 ?_
  refine n_sld C0 hbA hG (by omega) hx2 dL_law_588 ?_
  obtain ⟨r_2, hc_1, hM⟩ := bd1_some hM
  refine g_vl (As := [.int (iI x1), .int (iI x2)]) (rest := []) S hG.1 hG.2.1 (vX11_things l hG.2.2.2.1 x1 x2 hc_1) wV_GrownKindsLaw_72 (ec_0 (b := b) (cy := cy) (X := XD b cy S0) _) cpX11 (Nat.lt_of_lt_of_le (Nat.le_of_ble_eq_true rfl) hG.2.2.2.1) dL_law_589 rfl hl.1 (ar := 2) (by decide +kernel) rfl ⟨Nat.le_of_ble_eq_true rfl, Nat.le_of_ble_eq_true rfl, hG.rcL, hG.rsL⟩ (Nat.le_of_ble_eq_true rfl) (fun rv uu H locs hp hGc => ?_)
  obtain ⟨rfl, rfl⟩ := hp
  refine wz ?_
  replace hG := hG.same hGc
  clear hGc
  refine lv_aload_n hx hb dL_law_592 rfl (lv_at hl 1 rfl) ?_
  refine lv_aload_n hx hb dL_law_593 rfl (lv_at hl 3 rfl) ?_
  refine lv_iload_n hx hb dL_law_594 rfl (lv_at hl 0 rfl) ?_
  refine lv_iconst (v := iI 1) hx hb dL_law_595 (by decide) ?_
  refine gi_add hx hb dL_law_596 ?_
  refine n_sld C0 hbA hG (by omega) hx1 dL_law_597 ?_
  refine lv_aload_n hx hb dL_law_598 rfl (lv_at hl 3 rfl) ?_
  refine lv_iload_n hx hb dL_law_599 rfl (lv_at hl 0 rfl) ?_
  refine lv_iconst (v := iI 2) hx hb dL_law_600 (by decide) ?_
  refine gi_add hx hb dL_law_601 ?_
  refine n_sld C0 hbA hG (by omega) hx2 dL_law_602 ?_
  obtain ⟨r_4, S_5, hc_3, hM⟩ := bd2_some hM
  refine g_vl (As := [.int (iI x1), .int (iI x2)]) (rest := [.long (jJ r_2)]) S hG.1 hG.2.1 (vX12_things l hG.2.2.2.1 x1 x2 hc_3) wV_GrownKindsLaw_76 (ec_83 (b := b) (cy := cy) (X := XD b cy S0) _) cpX12 (Nat.lt_of_lt_of_le (Nat.le_of_ble_eq_true rfl) hG.2.2.2.1) dL_law_603 rfl hl.1 (ar := 2) (by decide +kernel) rfl ⟨Nat.le_of_ble_eq_true rfl, Nat.le_of_ble_eq_true rfl, hG.rcL, hG.rsL⟩ (Nat.le_of_ble_eq_true rfl) (fun rv uu H locs hp hGc => ?_)
  obtain ⟨rfl, rfl⟩ := hp
  refine wz ?_
  replace hG := hG.back hGc
  clear hGc
  obtain ⟨S_6, eS_6⟩ : ∃ q, q = msk S_5 S0 := ⟨_, rfl⟩
  rw [← eS_6] at hG
  replace hM := nx_at hM eS_6
  clear eS_6
  obtain ⟨hg_7, hM⟩ := gd_some hM
  refine gj_cmp_eq (tgt := 1854) hx hb dL_law_606 dL_law_607 (by decide) hg_7.1 hg_7.2 (fun c_8 => ?_) (fun c_8 => ?_)
  · replace hM := ifp hM c_8
    cases hM
    exact kk _ _ H locs ls hG hl
  · replace hM := ifn hM c_8
    cases hM
theorem wV_GrownKindsLaw_77 : gWV "GrownKindsLaw" 77 yX11_upto cX11_upto 3 (some .long) := ⟨wm_1161, wm_1162, wm_1163, wm_177, wm_1164, by decide +kernel, by decide +kernel⟩
theorem wV_GrownKindsLaw_80 : gWV "GrownKindsLaw" 80 yX12_upto cX12_upto 3 (some .long) := ⟨wm_2102, wm_2103, wm_2104, wm_188, wm_2105, by decide +kernel, by decide +kernel⟩
def mL_15 (x1 x2 x3 x4 x5 : Int) (S0 : St) : Option St := bd1 (mX11_upto S0 x1 x2) fun r_2 => bd2 (mX12_upto S0 x1 x2) fun r_4 S_5 => nx (msk S_5 S0) fun S_6 => gd ((inL r_2) ∧ (inL r_4)) <| if r_2 = r_4 then (some (S_6)) else (none)
set_option maxHeartbeats 4000000 in
set_option maxRecDepth 100000 in
theorem lc_15 {p : Program} {l : Launch} {e : Env} {s : State} {m : MethodId} {below : List Frame} {meth : Method} {c : Code} {q0 : Nat} {xs : Nat → Int32} {D : va_G} {cy : Nat → ClassId} {b : Nat} {L : Nat} (hL : L ≤ 3072) (C0 : lw_At p s m meth c q0 L xs) (hbA : ¬ gA b q0) {i : Int} (hi : 0 ≤ i ∧ i + 6 ≤ L) {x1 x2 x3 x4 x5 : Int} (hx1 : (xs (i + 1).toNat).toInt = x1) (hx2 : (xs (i + 2).toNat).toInt = x2) (hx3 : (xs (i + 3).toNat).toInt = x3) (hx4 : (xs (i + 4).toNat).toInt = x4) (hx5 : (xs (i + 5).toNat).toInt = x5) {S0 S1 : St} (hM : mL_15 x1 x2 x3 x4 x5 S0 = some S1) (hOM : gle S1 OM) {ce sl : Nat} {H : Heap} {locs : List Loc} (hG : gX D cy b s H locs S0 ce sl OZ OM) {ls : Array Slot} (hl : lv_has ls 4 [(3, .int (iI i)), (2, .ref (b + 80)), (1, .ref (b + 0)), (0, .ref q0)]) (kk : ∀ (ce sl : Nat) (H : Heap) (locs : List Loc) (ls : Array Slot), gX D cy b s H locs S1 ce sl OZ OM → lv_has ls 4 [(3, .int (iI i)), (2, .ref (b + 80)), (1, .ref (b + 0)), (0, .ref q0)] → W p l e room_1 s m #[Value.ref q0] below meth c H locs ce sl (lw_Z below #[Value.ref q0] s) (F0 m 1854 ls [])) : W p l e room_1 s m #[Value.ref q0] below meth c H locs ce sl (lw_Z below #[Value.ref q0] s) (F0 m 612 ls []) := by
  have hx := C0.1
  have hb := C0.2.1
  have S := lw_S C0
  unfold mL_15 at hM
  refine lv_aload_n hx hb dL_law_612 rfl (lv_at hl 2 rfl) ?_
  refine lv_aload_n hx hb dL_law_613 rfl (lv_at hl 3 rfl) ?_
  refine lv_iload_n hx hb dL_law_614 rfl (lv_at hl 0 rfl) ?_
  refine lv_iconst (v := iI 1) hx hb dL_law_615 (by decide) ?_
  refine gi_add hx hb dL_law_616 ?_
  refine n_sld C0 hbA hG (by omega) hx1 dL_law_617 ?_
  refine lv_aload_n hx hb dL_law_618 rfl (lv_at hl 3 rfl) ?_
  refine lv_iload_n hx hb dL_law_619 rfl (lv_at hl 0 rfl) ?_
  refine lv_iconst (v := iI 2) hx hb dL_law_620 (by decide) ?_
  refine gi_add hx hb dL_law_621 ?_
  refine n_sld C0 hbA hG (by omega) hx2 dL_law_622 ?_
  obtain ⟨r_2, hc_1, hM⟩ := bd1_some hM
  refine g_vl (As := [.int (iI x1), .int (iI x2)]) (rest := []) S hG.1 hG.2.1 (vX11_upto l hG.2.2.2.1 x1 x2 hc_1) wV_GrownKindsLaw_77 (ec_0 (b := b) (cy := cy) (X := XD b cy S0) _) cpX11 (Nat.lt_of_lt_of_le (Nat.le_of_ble_eq_true rfl) hG.2.2.2.1) dL_law_623 rfl hl.1 (ar := 2) (by decide +kernel) rfl ⟨Nat.le_of_ble_eq_true rfl, Nat.le_of_ble_eq_true rfl, hG.rcL, hG.rsL⟩ (Nat.le_of_ble_eq_true rfl) (fun rv uu H locs hp hGc => ?_)
  obtain ⟨rfl, rfl⟩ := hp
  refine wz ?_
  replace hG := hG.same hGc
  clear hGc
  refine lv_aload_n hx hb dL_law_626 rfl (lv_at hl 1 rfl) ?_
  refine lv_aload_n hx hb dL_law_627 rfl (lv_at hl 3 rfl) ?_
  refine lv_iload_n hx hb dL_law_628 rfl (lv_at hl 0 rfl) ?_
  refine lv_iconst (v := iI 1) hx hb dL_law_629 (by decide) ?_
  refine gi_add hx hb dL_law_630 ?_
  refine n_sld C0 hbA hG (by omega) hx1 dL_law_631 ?_
  refine lv_aload_n hx hb dL_law_632 rfl (lv_at hl 3 rfl) ?_
  refine lv_iload_n hx hb dL_law_633 rfl (lv_at hl 0 rfl) ?_
  refine lv_iconst (v := iI 2) hx hb dL_law_634 (by decide) ?_
  refine gi_add hx hb dL_law_635 ?_
  refine n_sld C0 hbA hG (by omega) hx2 dL_law_636 ?_
  obtain ⟨r_4, S_5, hc_3, hM⟩ := bd2_some hM
  refine g_vl (As := [.int (iI x1), .int (iI x2)]) (rest := [.long (jJ r_2)]) S hG.1 hG.2.1 (vX12_upto l hG.2.2.2.1 x1 x2 hc_3) wV_GrownKindsLaw_80 (ec_83 (b := b) (cy := cy) (X := XD b cy S0) _) cpX12 (Nat.lt_of_lt_of_le (Nat.le_of_ble_eq_true rfl) hG.2.2.2.1) dL_law_637 rfl hl.1 (ar := 2) (by decide +kernel) rfl ⟨Nat.le_of_ble_eq_true rfl, Nat.le_of_ble_eq_true rfl, hG.rcL, hG.rsL⟩ (Nat.le_of_ble_eq_true rfl) (fun rv uu H locs hp hGc => ?_)
  obtain ⟨rfl, rfl⟩ := hp
  refine wz ?_
  replace hG := hG.back hGc
  clear hGc
  obtain ⟨S_6, eS_6⟩ : ∃ q, q = msk S_5 S0 := ⟨_, rfl⟩
  rw [← eS_6] at hG
  replace hM := nx_at hM eS_6
  clear eS_6
  obtain ⟨hg_7, hM⟩ := gd_some hM
  refine gj_cmp_eq (tgt := 1854) hx hb dL_law_640 dL_law_641 (by decide) hg_7.1 hg_7.2 (fun c_8 => ?_) (fun c_8 => ?_)
  · replace hM := ifp hM c_8
    cases hM
    exact kk _ _ H locs ls hG hl
  · replace hM := ifn hM c_8
    cases hM
