theorem dX11_init_0 : decode cX11_init 0 = .ok (.aload_n 0, 1) := by decide +kernel
theorem dX11_init_1 : decode cX11_init 1 = .ok (.invokespecial 3, 3) := by decide +kernel
theorem wm_203 : (Jvm.Cond.methodLink "GrownKinds" (3 : Nat) ({ cls := "java/lang/Object", name := "<init>", desc := "()V" } : Jvm.MethodName)) ∈ gT := gT_in (List.mem_of_getElem? (i := 203) (by decide +kernel)) (by decide +kernel)
theorem wm_204 : (Jvm.Cond.instanceMethod ({ cls := "java/lang/Object", name := "<init>", desc := "()V" } : Jvm.MethodName)) ∈ gT := gT_in (List.mem_of_getElem? (i := 204) (by decide +kernel)) (by decide +kernel)
theorem wm_205 : (Jvm.Cond.code ({ cls := "java/lang/Object", name := "<init>", desc := "()V" } : Jvm.MethodName) object_method_1_code (1 : Nat) (Option.none : Option Jvm.ClassFile.FieldType)) ∈ gT := gT_in (List.mem_of_getElem? (i := 205) (by decide +kernel)) (by decide +kernel)
theorem dX11_init_4 : decode cX11_init 4 = .ok (.aload_n 0, 1) := by decide +kernel
theorem dX11_init_5 : decode cX11_init 5 = .ok (.sipush 400, 3) := by decide +kernel
theorem dX11_init_8 : decode cX11_init 8 = .ok (.newarray .byte, 2) := by decide +kernel
theorem wm_305 : (Jvm.Cond.arrayClass Jvm.ClassFile.FieldType.byte) ∈ gT := gT_in (List.mem_of_getElem? (i := 305) (by decide +kernel)) (by decide +kernel)
theorem dX11_init_10 : decode cX11_init 10 = .ok (.putfield 9, 3) := by decide +kernel
theorem wm_665 : (Jvm.Cond.fieldLink "GrownKinds" (9 : Nat) "GrownKinds" "tape" "[B") ∈ gT := gT_in (List.mem_of_getElem? (i := 665) (by decide +kernel)) (by decide +kernel)
theorem dX11_init_13 : decode cX11_init 13 = .ok (.aload_n 0, 1) := by decide +kernel
theorem dX11_init_14 : decode cX11_init 14 = .ok (.iconst 0, 1) := by decide +kernel
theorem dX11_init_15 : decode cX11_init 15 = .ok (.putfield 13, 3) := by decide +kernel
theorem wm_666 : (Jvm.Cond.fieldLink "GrownKinds" (13 : Nat) "GrownKinds" "tapeSize" "I") ∈ gT := gT_in (List.mem_of_getElem? (i := 666) (by decide +kernel)) (by decide +kernel)
theorem dX11_init_18 : decode cX11_init 18 = .ok (.aload_n 0, 1) := by decide +kernel
theorem dX11_init_19 : decode cX11_init 19 = .ok (.new 17, 3) := by decide +kernel
theorem wm_206 : (Jvm.Cond.classLink "GrownKinds" (17 : Nat) "GrownKinds$Grammar") ∈ gT := gT_in (List.mem_of_getElem? (i := 206) (by decide +kernel)) (by decide +kernel)
theorem wm_207 : (Jvm.Cond.instantiable "GrownKinds$Grammar" (14 : Nat)) ∈ gT := gT_in (List.mem_of_getElem? (i := 207) (by decide +kernel)) (by decide +kernel)
theorem wm_178 : (Jvm.Cond.initialized "GrownKinds$Grammar") ∈ gT := gT_in (List.mem_of_getElem? (i := 178) (by decide +kernel)) (by decide +kernel)
theorem dX11_init_22 : decode cX11_init 22 = .ok (.dup, 1) := by decide +kernel
theorem dX11_init_23 : decode cX11_init 23 = .ok (.invokespecial 19, 3) := by decide +kernel
theorem dX2_init_0 : decode cX2_init 0 = .ok (.aload_n 0, 1) := by decide +kernel
theorem dX2_init_1 : decode cX2_init 1 = .ok (.invokespecial 3, 3) := by decide +kernel
theorem wm_211 : (Jvm.Cond.methodLink "GrownKinds$Grammar" (3 : Nat) ({ cls := "java/lang/Object", name := "<init>", desc := "()V" } : Jvm.MethodName)) ∈ gT := gT_in (List.mem_of_getElem? (i := 211) (by decide +kernel)) (by decide +kernel)
theorem dX2_init_4 : decode cX2_init 4 = .ok (.aload_n 0, 1) := by decide +kernel
theorem dX2_init_5 : decode cX2_init 5 = .ok (.iconst 0, 1) := by decide +kernel
theorem dX2_init_6 : decode cX2_init 6 = .ok (.putfield 9, 3) := by decide +kernel
theorem wm_212 : (Jvm.Cond.fieldLink "GrownKinds$Grammar" (9 : Nat) "GrownKinds$Grammar" "most" "I") ∈ gT := gT_in (List.mem_of_getElem? (i := 212) (by decide +kernel)) (by decide +kernel)
theorem dX2_init_9 : decode cX2_init 9 = .ok (.aload_n 0, 1) := by decide +kernel
theorem dX2_init_10 : decode cX2_init 10 = .ok (.iconst 0, 1) := by decide +kernel
theorem dX2_init_11 : decode cX2_init 11 = .ok (.putfield 15, 3) := by decide +kernel
theorem wm_218 : (Jvm.Cond.fieldLink "GrownKinds$Grammar" (15 : Nat) "GrownKinds$Grammar" "kinds" "I") ∈ gT := gT_in (List.mem_of_getElem? (i := 218) (by decide +kernel)) (by decide +kernel)
theorem dX2_init_14 : decode cX2_init 14 = .ok (.aload_n 0, 1) := by decide +kernel
theorem dX2_init_15 : decode cX2_init 15 = .ok (.iconst 0, 1) := by decide +kernel
theorem dX2_init_16 : decode cX2_init 16 = .ok (.putfield 18, 3) := by decide +kernel
theorem wm_223 : (Jvm.Cond.fieldLink "GrownKinds$Grammar" (18 : Nat) "GrownKinds$Grammar" "lines" "I") ∈ gT := gT_in (List.mem_of_getElem? (i := 223) (by decide +kernel)) (by decide +kernel)
theorem dX2_init_19 : decode cX2_init 19 = .ok (.aload_n 0, 1) := by decide +kernel
theorem dX2_init_20 : decode cX2_init 20 = .ok (.iconst 0, 1) := by decide +kernel
theorem dX2_init_21 : decode cX2_init 21 = .ok (.putfield 21, 3) := by decide +kernel
theorem wm_226 : (Jvm.Cond.fieldLink "GrownKinds$Grammar" (21 : Nat) "GrownKinds$Grammar" "parts" "I") ∈ gT := gT_in (List.mem_of_getElem? (i := 226) (by decide +kernel)) (by decide +kernel)
theorem dX2_init_24 : decode cX2_init 24 = .ok (.aload_n 0, 1) := by decide +kernel
theorem dX2_init_25 : decode cX2_init 25 = .ok (.iconst 0, 1) := by decide +kernel
theorem dX2_init_26 : decode cX2_init 26 = .ok (.putfield 24, 3) := by decide +kernel
theorem wm_231 : (Jvm.Cond.fieldLink "GrownKinds$Grammar" (24 : Nat) "GrownKinds$Grammar" "steps" "I") ∈ gT := gT_in (List.mem_of_getElem? (i := 231) (by decide +kernel)) (by decide +kernel)
theorem dX2_init_29 : decode cX2_init 29 = .ok (.aload_n 0, 1) := by decide +kernel
theorem dX2_init_30 : decode cX2_init 30 = .ok (.bipush 24, 2) := by decide +kernel
theorem dX2_init_32 : decode cX2_init 32 = .ok (.newarray .int, 2) := by decide +kernel
theorem wm_306 : (Jvm.Cond.arrayClass Jvm.ClassFile.FieldType.int) ∈ gT := gT_in (List.mem_of_getElem? (i := 306) (by decide +kernel)) (by decide +kernel)
theorem dX2_init_34 : decode cX2_init 34 = .ok (.putfield 27, 3) := by decide +kernel
theorem wm_234 : (Jvm.Cond.fieldLink "GrownKinds$Grammar" (27 : Nat) "GrownKinds$Grammar" "type" "[I") ∈ gT := gT_in (List.mem_of_getElem? (i := 234) (by decide +kernel)) (by decide +kernel)
theorem dX2_init_37 : decode cX2_init 37 = .ok (.aload_n 0, 1) := by decide +kernel
theorem dX2_init_38 : decode cX2_init 38 = .ok (.bipush 24, 2) := by decide +kernel
theorem dX2_init_40 : decode cX2_init 40 = .ok (.newarray .int, 2) := by decide +kernel
theorem dX2_init_42 : decode cX2_init 42 = .ok (.putfield 31, 3) := by decide +kernel
theorem wm_240 : (Jvm.Cond.fieldLink "GrownKinds$Grammar" (31 : Nat) "GrownKinds$Grammar" "value" "[I") ∈ gT := gT_in (List.mem_of_getElem? (i := 240) (by decide +kernel)) (by decide +kernel)
theorem dX2_init_45 : decode cX2_init 45 = .ok (.aload_n 0, 1) := by decide +kernel
theorem dX2_init_46 : decode cX2_init 46 = .ok (.bipush 24, 2) := by decide +kernel
theorem dX2_init_48 : decode cX2_init 48 = .ok (.newarray .int, 2) := by decide +kernel
theorem dX2_init_50 : decode cX2_init 50 = .ok (.putfield 34, 3) := by decide +kernel
theorem wm_247 : (Jvm.Cond.fieldLink "GrownKinds$Grammar" (34 : Nat) "GrownKinds$Grammar" "inside" "[I") ∈ gT := gT_in (List.mem_of_getElem? (i := 247) (by decide +kernel)) (by decide +kernel)
theorem dX2_init_53 : decode cX2_init 53 = .ok (.aload_n 0, 1) := by decide +kernel
theorem dX2_init_54 : decode cX2_init 54 = .ok (.bipush 24, 2) := by decide +kernel
theorem dX2_init_56 : decode cX2_init 56 = .ok (.newarray .int, 2) := by decide +kernel
theorem dX2_init_58 : decode cX2_init 58 = .ok (.putfield 37, 3) := by decide +kernel
theorem wm_254 : (Jvm.Cond.fieldLink "GrownKinds$Grammar" (37 : Nat) "GrownKinds$Grammar" "next" "[I") ∈ gT := gT_in (List.mem_of_getElem? (i := 254) (by decide +kernel)) (by decide +kernel)
theorem dX2_init_61 : decode cX2_init 61 = .ok (.aload_n 0, 1) := by decide +kernel
theorem dX2_init_62 : decode cX2_init 62 = .ok (.bipush 24, 2) := by decide +kernel
theorem dX2_init_64 : decode cX2_init 64 = .ok (.newarray .int, 2) := by decide +kernel
theorem dX2_init_66 : decode cX2_init 66 = .ok (.putfield 40, 3) := by decide +kernel
theorem wm_260 : (Jvm.Cond.fieldLink "GrownKinds$Grammar" (40 : Nat) "GrownKinds$Grammar" "home" "[I") ∈ gT := gT_in (List.mem_of_getElem? (i := 260) (by decide +kernel)) (by decide +kernel)
theorem dX2_init_69 : decode cX2_init 69 = .ok (.aload_n 0, 1) := by decide +kernel
theorem dX2_init_70 : decode cX2_init 70 = .ok (.bipush 30, 2) := by decide +kernel
theorem dX2_init_72 : decode cX2_init 72 = .ok (.newarray .int, 2) := by decide +kernel
theorem dX2_init_74 : decode cX2_init 74 = .ok (.putfield 43, 3) := by decide +kernel
theorem wm_262 : (Jvm.Cond.fieldLink "GrownKinds$Grammar" (43 : Nat) "GrownKinds$Grammar" "termCount" "[I") ∈ gT := gT_in (List.mem_of_getElem? (i := 262) (by decide +kernel)) (by decide +kernel)
theorem dX2_init_77 : decode cX2_init 77 = .ok (.aload_n 0, 1) := by decide +kernel
theorem dX2_init_78 : decode cX2_init 78 = .ok (.sipush 300, 3) := by decide +kernel
theorem dX2_init_81 : decode cX2_init 81 = .ok (.newarray .int, 2) := by decide +kernel
theorem dX2_init_83 : decode cX2_init 83 = .ok (.putfield 46, 3) := by decide +kernel
theorem wm_269 : (Jvm.Cond.fieldLink "GrownKinds$Grammar" (46 : Nat) "GrownKinds$Grammar" "firstPart" "[I") ∈ gT := gT_in (List.mem_of_getElem? (i := 269) (by decide +kernel)) (by decide +kernel)
theorem dX2_init_86 : decode cX2_init 86 = .ok (.aload_n 0, 1) := by decide +kernel
theorem dX2_init_87 : decode cX2_init 87 = .ok (.bipush 30, 2) := by decide +kernel
theorem dX2_init_89 : decode cX2_init 89 = .ok (.newarray .int, 2) := by decide +kernel
theorem dX2_init_91 : decode cX2_init 91 = .ok (.putfield 49, 3) := by decide +kernel
theorem wm_271 : (Jvm.Cond.fieldLink "GrownKinds$Grammar" (49 : Nat) "GrownKinds$Grammar" "off" "[I") ∈ gT := gT_in (List.mem_of_getElem? (i := 271) (by decide +kernel)) (by decide +kernel)
theorem dX2_init_94 : decode cX2_init 94 = .ok (.aload_n 0, 1) := by decide +kernel
theorem dX2_init_95 : decode cX2_init 95 = .ok (.bipush 54, 2) := by decide +kernel
theorem dX2_init_97 : decode cX2_init 97 = .ok (.newarray .int, 2) := by decide +kernel
theorem dX2_init_99 : decode cX2_init 99 = .ok (.putfield 52, 3) := by decide +kernel
theorem wm_273 : (Jvm.Cond.fieldLink "GrownKinds$Grammar" (52 : Nat) "GrownKinds$Grammar" "order" "[I") ∈ gT := gT_in (List.mem_of_getElem? (i := 273) (by decide +kernel)) (by decide +kernel)
theorem dX2_init_102 : decode cX2_init 102 = .ok (.return_, 1) := by decide +kernel
theorem wm_209 : (Jvm.Cond.instanceMethod ({ cls := "GrownKinds$Grammar", name := "<init>", desc := "()V" } : Jvm.MethodName)) ∈ gT := gT_in (List.mem_of_getElem? (i := 209) (by decide +kernel)) (by decide +kernel)
theorem wm_210 : (Jvm.Cond.code ({ cls := "GrownKinds$Grammar", name := "<init>", desc := "()V" } : Jvm.MethodName) prog_4_method_1_code (1 : Nat) (Option.none : Option Jvm.ClassFile.FieldType)) ∈ gT := gT_in (List.mem_of_getElem? (i := 210) (by decide +kernel)) (by decide +kernel)
theorem dX11_init_26 : decode cX11_init 26 = .ok (.putfield 20, 3) := by decide +kernel
theorem wm_667 : (Jvm.Cond.fieldLink "GrownKinds" (20 : Nat) "GrownKinds" "now" "LGrownKinds$Grammar;") ∈ gT := gT_in (List.mem_of_getElem? (i := 667) (by decide +kernel)) (by decide +kernel)
theorem dX11_init_29 : decode cX11_init 29 = .ok (.aload_n 0, 1) := by decide +kernel
theorem dX11_init_30 : decode cX11_init 30 = .ok (.new 24, 3) := by decide +kernel
theorem wm_307 : (Jvm.Cond.classLink "GrownKinds" (24 : Nat) "GrownKinds$Reader") ∈ gT := gT_in (List.mem_of_getElem? (i := 307) (by decide +kernel)) (by decide +kernel)
theorem wm_308 : (Jvm.Cond.instantiable "GrownKinds$Reader" (13 : Nat)) ∈ gT := gT_in (List.mem_of_getElem? (i := 308) (by decide +kernel)) (by decide +kernel)
theorem wm_179 : (Jvm.Cond.initialized "GrownKinds$Reader") ∈ gT := gT_in (List.mem_of_getElem? (i := 179) (by decide +kernel)) (by decide +kernel)
theorem dX11_init_33 : decode cX11_init 33 = .ok (.dup, 1) := by decide +kernel
theorem dX11_init_34 : decode cX11_init 34 = .ok (.new 17, 3) := by decide +kernel
theorem dX11_init_37 : decode cX11_init 37 = .ok (.dup, 1) := by decide +kernel
theorem dX11_init_38 : decode cX11_init 38 = .ok (.invokespecial 19, 3) := by decide +kernel
theorem dX11_init_41 : decode cX11_init 41 = .ok (.invokespecial 26, 3) := by decide +kernel
theorem wm_309 : (Jvm.Cond.methodLink "GrownKinds" (26 : Nat) ({ cls := "GrownKinds$Reader", name := "<init>", desc := "(LGrownKinds$Grammar;)V" } : Jvm.MethodName)) ∈ gT := gT_in (List.mem_of_getElem? (i := 309) (by decide +kernel)) (by decide +kernel)
theorem wm_310 : (Jvm.Cond.instanceMethod ({ cls := "GrownKinds$Reader", name := "<init>", desc := "(LGrownKinds$Grammar;)V" } : Jvm.MethodName)) ∈ gT := gT_in (List.mem_of_getElem? (i := 310) (by decide +kernel)) (by decide +kernel)
theorem wm_311 : (Jvm.Cond.code ({ cls := "GrownKinds$Reader", name := "<init>", desc := "(LGrownKinds$Grammar;)V" } : Jvm.MethodName) prog_7_method_1_code (2 : Nat) (Option.none : Option Jvm.ClassFile.FieldType)) ∈ gT := gT_in (List.mem_of_getElem? (i := 311) (by decide +kernel)) (by decide +kernel)
theorem dX5_init_0 : decode cX5_init 0 = .ok (.aload_n 0, 1) := by decide +kernel
theorem dX5_init_1 : decode cX5_init 1 = .ok (.invokespecial 3, 3) := by decide +kernel
theorem wm_312 : (Jvm.Cond.methodLink "GrownKinds$Reader" (3 : Nat) ({ cls := "java/lang/Object", name := "<init>", desc := "()V" } : Jvm.MethodName)) ∈ gT := gT_in (List.mem_of_getElem? (i := 312) (by decide +kernel)) (by decide +kernel)
theorem dX5_init_4 : decode cX5_init 4 = .ok (.aload_n 0, 1) := by decide +kernel
theorem dX5_init_5 : decode cX5_init 5 = .ok (.iconst 0, 1) := by decide +kernel
theorem dX5_init_6 : decode cX5_init 6 = .ok (.putfield 9, 3) := by decide +kernel
theorem wm_354 : (Jvm.Cond.fieldLink "GrownKinds$Reader" (9 : Nat) "GrownKinds$Reader" "fault" "I") ∈ gT := gT_in (List.mem_of_getElem? (i := 354) (by decide +kernel)) (by decide +kernel)
theorem dX5_init_9 : decode cX5_init 9 = .ok (.aload_n 0, 1) := by decide +kernel
theorem dX5_init_10 : decode cX5_init 10 = .ok (.iconst (-1), 1) := by decide +kernel
theorem dX5_init_11 : decode cX5_init 11 = .ok (.putfield 15, 3) := by decide +kernel
theorem wm_356 : (Jvm.Cond.fieldLink "GrownKinds$Reader" (15 : Nat) "GrownKinds$Reader" "place" "I") ∈ gT := gT_in (List.mem_of_getElem? (i := 356) (by decide +kernel)) (by decide +kernel)
theorem dX5_init_14 : decode cX5_init 14 = .ok (.aload_n 0, 1) := by decide +kernel
theorem dX5_init_15 : decode cX5_init 15 = .ok (.iconst 0, 1) := by decide +kernel
theorem dX5_init_16 : decode cX5_init 16 = .ok (.newarray .byte, 2) := by decide +kernel
theorem dX5_init_18 : decode cX5_init 18 = .ok (.putfield 18, 3) := by decide +kernel
theorem wm_359 : (Jvm.Cond.fieldLink "GrownKinds$Reader" (18 : Nat) "GrownKinds$Reader" "bytes" "[B") ∈ gT := gT_in (List.mem_of_getElem? (i := 359) (by decide +kernel)) (by decide +kernel)
theorem dX5_init_21 : decode cX5_init 21 = .ok (.aload_n 0, 1) := by decide +kernel
theorem dX5_init_22 : decode cX5_init 22 = .ok (.iconst 0, 1) := by decide +kernel
theorem dX5_init_23 : decode cX5_init 23 = .ok (.putfield 22, 3) := by decide +kernel
theorem wm_360 : (Jvm.Cond.fieldLink "GrownKinds$Reader" (22 : Nat) "GrownKinds$Reader" "length" "I") ∈ gT := gT_in (List.mem_of_getElem? (i := 360) (by decide +kernel)) (by decide +kernel)
theorem dX5_init_26 : decode cX5_init 26 = .ok (.aload_n 0, 1) := by decide +kernel
theorem dX5_init_27 : decode cX5_init 27 = .ok (.iconst 0, 1) := by decide +kernel
theorem dX5_init_28 : decode cX5_init 28 = .ok (.putfield 25, 3) := by decide +kernel
theorem wm_361 : (Jvm.Cond.fieldLink "GrownKinds$Reader" (25 : Nat) "GrownKinds$Reader" "at" "I") ∈ gT := gT_in (List.mem_of_getElem? (i := 361) (by decide +kernel)) (by decide +kernel)
theorem dX5_init_31 : decode cX5_init 31 = .ok (.aload_n 0, 1) := by decide +kernel
theorem dX5_init_32 : decode cX5_init 32 = .ok (.iconst 3, 1) := by decide +kernel
theorem dX5_init_33 : decode cX5_init 33 = .ok (.putfield 28, 3) := by decide +kernel
theorem wm_362 : (Jvm.Cond.fieldLink "GrownKinds$Reader" (28 : Nat) "GrownKinds$Reader" "token" "I") ∈ gT := gT_in (List.mem_of_getElem? (i := 362) (by decide +kernel)) (by decide +kernel)
theorem dX5_init_36 : decode cX5_init 36 = .ok (.aload_n 0, 1) := by decide +kernel
theorem dX5_init_37 : decode cX5_init 37 = .ok (.iconst 0, 1) := by decide +kernel
theorem dX5_init_38 : decode cX5_init 38 = .ok (.putfield 31, 3) := by decide +kernel
theorem wm_363 : (Jvm.Cond.fieldLink "GrownKinds$Reader" (31 : Nat) "GrownKinds$Reader" "start" "I") ∈ gT := gT_in (List.mem_of_getElem? (i := 363) (by decide +kernel)) (by decide +kernel)
theorem dX5_init_41 : decode cX5_init 41 = .ok (.aload_n 0, 1) := by decide +kernel
theorem dX5_init_42 : decode cX5_init 42 = .ok (.iconst 0, 1) := by decide +kernel
theorem dX5_init_43 : decode cX5_init 43 = .ok (.putfield 34, 3) := by decide +kernel
theorem wm_364 : (Jvm.Cond.fieldLink "GrownKinds$Reader" (34 : Nat) "GrownKinds$Reader" "number" "I") ∈ gT := gT_in (List.mem_of_getElem? (i := 364) (by decide +kernel)) (by decide +kernel)
theorem dX5_init_46 : decode cX5_init 46 = .ok (.aload_n 0, 1) := by decide +kernel
theorem dX5_init_47 : decode cX5_init 47 = .ok (.iconst 0, 1) := by decide +kernel
theorem dX5_init_48 : decode cX5_init 48 = .ok (.putfield 37, 3) := by decide +kernel
theorem wm_365 : (Jvm.Cond.fieldLink "GrownKinds$Reader" (37 : Nat) "GrownKinds$Reader" "line" "I") ∈ gT := gT_in (List.mem_of_getElem? (i := 365) (by decide +kernel)) (by decide +kernel)
theorem dX5_init_51 : decode cX5_init 51 = .ok (.aload_n 0, 1) := by decide +kernel
theorem dX5_init_52 : decode cX5_init 52 = .ok (.bipush 6, 2) := by decide +kernel
theorem dX5_init_54 : decode cX5_init 54 = .ok (.newarray .int, 2) := by decide +kernel
theorem dX5_init_56 : decode cX5_init 56 = .ok (.putfield 40, 3) := by decide +kernel
theorem wm_366 : (Jvm.Cond.fieldLink "GrownKinds$Reader" (40 : Nat) "GrownKinds$Reader" "nameStart" "[I") ∈ gT := gT_in (List.mem_of_getElem? (i := 366) (by decide +kernel)) (by decide +kernel)
theorem dX5_init_59 : decode cX5_init 59 = .ok (.aload_n 0, 1) := by decide +kernel
theorem dX5_init_60 : decode cX5_init 60 = .ok (.bipush 6, 2) := by decide +kernel
theorem dX5_init_62 : decode cX5_init 62 = .ok (.newarray .int, 2) := by decide +kernel
theorem dX5_init_64 : decode cX5_init 64 = .ok (.putfield 44, 3) := by decide +kernel
theorem wm_367 : (Jvm.Cond.fieldLink "GrownKinds$Reader" (44 : Nat) "GrownKinds$Reader" "nameLength" "[I") ∈ gT := gT_in (List.mem_of_getElem? (i := 367) (by decide +kernel)) (by decide +kernel)
theorem dX5_init_67 : decode cX5_init 67 = .ok (.aload_n 0, 1) := by decide +kernel
theorem dX5_init_68 : decode cX5_init 68 = .ok (.aload_n 1, 1) := by decide +kernel
theorem dX5_init_69 : decode cX5_init 69 = .ok (.putfield 47, 3) := by decide +kernel
theorem wm_352 : (Jvm.Cond.fieldLink "GrownKinds$Reader" (47 : Nat) "GrownKinds$Reader" "made" "LGrownKinds$Grammar;") ∈ gT := gT_in (List.mem_of_getElem? (i := 352) (by decide +kernel)) (by decide +kernel)
theorem dX5_init_72 : decode cX5_init 72 = .ok (.aload_n 0, 1) := by decide +kernel
theorem dX5_init_73 : decode cX5_init 73 = .ok (.new 51, 3) := by decide +kernel
theorem wm_313 : (Jvm.Cond.classLink "GrownKinds$Reader" (51 : Nat) "GrownKinds$Leaning") ∈ gT := gT_in (List.mem_of_getElem? (i := 313) (by decide +kernel)) (by decide +kernel)
theorem wm_314 : (Jvm.Cond.instantiable "GrownKinds$Leaning" (9 : Nat)) ∈ gT := gT_in (List.mem_of_getElem? (i := 314) (by decide +kernel)) (by decide +kernel)
theorem wm_180 : (Jvm.Cond.initialized "GrownKinds$Leaning") ∈ gT := gT_in (List.mem_of_getElem? (i := 180) (by decide +kernel)) (by decide +kernel)
theorem dX5_init_76 : decode cX5_init 76 = .ok (.dup, 1) := by decide +kernel
theorem dX5_init_77 : decode cX5_init 77 = .ok (.aload_n 1, 1) := by decide +kernel
theorem dX5_init_78 : decode cX5_init 78 = .ok (.invokespecial 53, 3) := by decide +kernel
theorem wm_315 : (Jvm.Cond.methodLink "GrownKinds$Reader" (53 : Nat) ({ cls := "GrownKinds$Leaning", name := "<init>", desc := "(LGrownKinds$Grammar;)V" } : Jvm.MethodName)) ∈ gT := gT_in (List.mem_of_getElem? (i := 315) (by decide +kernel)) (by decide +kernel)
theorem wm_316 : (Jvm.Cond.instanceMethod ({ cls := "GrownKinds$Leaning", name := "<init>", desc := "(LGrownKinds$Grammar;)V" } : Jvm.MethodName)) ∈ gT := gT_in (List.mem_of_getElem? (i := 316) (by decide +kernel)) (by decide +kernel)
theorem wm_317 : (Jvm.Cond.code ({ cls := "GrownKinds$Leaning", name := "<init>", desc := "(LGrownKinds$Grammar;)V" } : Jvm.MethodName) prog_5_method_1_code (2 : Nat) (Option.none : Option Jvm.ClassFile.FieldType)) ∈ gT := gT_in (List.mem_of_getElem? (i := 317) (by decide +kernel)) (by decide +kernel)
theorem dX3_init_0 : decode cX3_init 0 = .ok (.aload_n 0, 1) := by decide +kernel
theorem dX3_init_1 : decode cX3_init 1 = .ok (.invokespecial 3, 3) := by decide +kernel
theorem wm_318 : (Jvm.Cond.methodLink "GrownKinds$Leaning" (3 : Nat) ({ cls := "java/lang/Object", name := "<init>", desc := "()V" } : Jvm.MethodName)) ∈ gT := gT_in (List.mem_of_getElem? (i := 318) (by decide +kernel)) (by decide +kernel)
theorem dX3_init_4 : decode cX3_init 4 = .ok (.aload_n 0, 1) := by decide +kernel
theorem dX3_init_5 : decode cX3_init 5 = .ok (.iconst 0, 1) := by decide +kernel
theorem dX3_init_6 : decode cX3_init 6 = .ok (.putfield 9, 3) := by decide +kernel
theorem wm_320 : (Jvm.Cond.fieldLink "GrownKinds$Leaning" (9 : Nat) "GrownKinds$Leaning" "emptyParts" "I") ∈ gT := gT_in (List.mem_of_getElem? (i := 320) (by decide +kernel)) (by decide +kernel)
theorem dX3_init_9 : decode cX3_init 9 = .ok (.aload_n 0, 1) := by decide +kernel
theorem dX3_init_10 : decode cX3_init 10 = .ok (.iconst 0, 1) := by decide +kernel
theorem dX3_init_11 : decode cX3_init 11 = .ok (.putfield 15, 3) := by decide +kernel
theorem wm_321 : (Jvm.Cond.fieldLink "GrownKinds$Leaning" (15 : Nat) "GrownKinds$Leaning" "emptyKinds" "I") ∈ gT := gT_in (List.mem_of_getElem? (i := 321) (by decide +kernel)) (by decide +kernel)
theorem dX3_init_14 : decode cX3_init 14 = .ok (.aload_n 0, 1) := by decide +kernel
theorem dX3_init_15 : decode cX3_init 15 = .ok (.bipush 24, 2) := by decide +kernel
theorem dX3_init_17 : decode cX3_init 17 = .ok (.newarray .int, 2) := by decide +kernel
theorem dX3_init_19 : decode cX3_init 19 = .ok (.putfield 18, 3) := by decide +kernel
theorem wm_323 : (Jvm.Cond.fieldLink "GrownKinds$Leaning" (18 : Nat) "GrownKinds$Leaning" "leans" "[I") ∈ gT := gT_in (List.mem_of_getElem? (i := 323) (by decide +kernel)) (by decide +kernel)
theorem dX3_init_22 : decode cX3_init 22 = .ok (.aload_n 0, 1) := by decide +kernel
theorem dX3_init_23 : decode cX3_init 23 = .ok (.bipush 24, 2) := by decide +kernel
theorem dX3_init_25 : decode cX3_init 25 = .ok (.newarray .int, 2) := by decide +kernel
theorem dX3_init_27 : decode cX3_init 27 = .ok (.putfield 22, 3) := by decide +kernel
theorem wm_324 : (Jvm.Cond.fieldLink "GrownKinds$Leaning" (22 : Nat) "GrownKinds$Leaning" "uses" "[I") ∈ gT := gT_in (List.mem_of_getElem? (i := 324) (by decide +kernel)) (by decide +kernel)
theorem dX3_init_30 : decode cX3_init 30 = .ok (.aload_n 0, 1) := by decide +kernel
theorem dX3_init_31 : decode cX3_init 31 = .ok (.bipush 24, 2) := by decide +kernel
theorem dX3_init_33 : decode cX3_init 33 = .ok (.newarray .int, 2) := by decide +kernel
theorem dX3_init_35 : decode cX3_init 35 = .ok (.putfield 25, 3) := by decide +kernel
theorem wm_325 : (Jvm.Cond.fieldLink "GrownKinds$Leaning" (25 : Nat) "GrownKinds$Leaning" "letters" "[I") ∈ gT := gT_in (List.mem_of_getElem? (i := 325) (by decide +kernel)) (by decide +kernel)
theorem dX3_init_38 : decode cX3_init 38 = .ok (.aload_n 0, 1) := by decide +kernel
theorem dX3_init_39 : decode cX3_init 39 = .ok (.bipush 6, 2) := by decide +kernel
theorem dX3_init_41 : decode cX3_init 41 = .ok (.newarray .int, 2) := by decide +kernel
theorem dX3_init_43 : decode cX3_init 43 = .ok (.putfield 28, 3) := by decide +kernel
theorem wm_326 : (Jvm.Cond.fieldLink "GrownKinds$Leaning" (28 : Nat) "GrownKinds$Leaning" "kindLeans" "[I") ∈ gT := gT_in (List.mem_of_getElem? (i := 326) (by decide +kernel)) (by decide +kernel)
theorem dX3_init_46 : decode cX3_init 46 = .ok (.aload_n 0, 1) := by decide +kernel
theorem dX3_init_47 : decode cX3_init 47 = .ok (.bipush 6, 2) := by decide +kernel
theorem dX3_init_49 : decode cX3_init 49 = .ok (.newarray .int, 2) := by decide +kernel
theorem dX3_init_51 : decode cX3_init 51 = .ok (.putfield 31, 3) := by decide +kernel
theorem wm_329 : (Jvm.Cond.fieldLink "GrownKinds$Leaning" (31 : Nat) "GrownKinds$Leaning" "kindUses" "[I") ∈ gT := gT_in (List.mem_of_getElem? (i := 329) (by decide +kernel)) (by decide +kernel)
theorem dX3_init_54 : decode cX3_init 54 = .ok (.aload_n 0, 1) := by decide +kernel
theorem dX3_init_55 : decode cX3_init 55 = .ok (.bipush 6, 2) := by decide +kernel
theorem dX3_init_57 : decode cX3_init 57 = .ok (.newarray .int, 2) := by decide +kernel
theorem dX3_init_59 : decode cX3_init 59 = .ok (.putfield 34, 3) := by decide +kernel
theorem wm_331 : (Jvm.Cond.fieldLink "GrownKinds$Leaning" (34 : Nat) "GrownKinds$Leaning" "kindLetters" "[I") ∈ gT := gT_in (List.mem_of_getElem? (i := 331) (by decide +kernel)) (by decide +kernel)
theorem dX3_init_62 : decode cX3_init 62 = .ok (.aload_n 0, 1) := by decide +kernel
theorem dX3_init_63 : decode cX3_init 63 = .ok (.aload_n 1, 1) := by decide +kernel
theorem dX3_init_64 : decode cX3_init 64 = .ok (.putfield 37, 3) := by decide +kernel
theorem wm_319 : (Jvm.Cond.fieldLink "GrownKinds$Leaning" (37 : Nat) "GrownKinds$Leaning" "grammar" "LGrownKinds$Grammar;") ∈ gT := gT_in (List.mem_of_getElem? (i := 319) (by decide +kernel)) (by decide +kernel)
theorem dX3_init_67 : decode cX3_init 67 = .ok (.return_, 1) := by decide +kernel
theorem dX5_init_81 : decode cX5_init 81 = .ok (.putfield 56, 3) := by decide +kernel
theorem wm_358 : (Jvm.Cond.fieldLink "GrownKinds$Reader" (56 : Nat) "GrownKinds$Reader" "lean" "LGrownKinds$Leaning;") ∈ gT := gT_in (List.mem_of_getElem? (i := 358) (by decide +kernel)) (by decide +kernel)
theorem dX5_init_84 : decode cX5_init 84 = .ok (.return_, 1) := by decide +kernel
theorem dX11_init_44 : decode cX11_init 44 = .ok (.putfield 29, 3) := by decide +kernel
theorem wm_668 : (Jvm.Cond.fieldLink "GrownKinds" (29 : Nat) "GrownKinds" "reader" "LGrownKinds$Reader;") ∈ gT := gT_in (List.mem_of_getElem? (i := 668) (by decide +kernel)) (by decide +kernel)
theorem dX11_init_47 : decode cX11_init 47 = .ok (.aload_n 0, 1) := by decide +kernel
theorem dX11_init_48 : decode cX11_init 48 = .ok (.iconst 0, 1) := by decide +kernel
theorem dX11_init_49 : decode cX11_init 49 = .ok (.putfield 33, 3) := by decide +kernel
theorem wm_669 : (Jvm.Cond.fieldLink "GrownKinds" (33 : Nat) "GrownKinds" "faultNumber" "I") ∈ gT := gT_in (List.mem_of_getElem? (i := 669) (by decide +kernel)) (by decide +kernel)
theorem dX11_init_52 : decode cX11_init 52 = .ok (.aload_n 0, 1) := by decide +kernel
theorem dX11_init_53 : decode cX11_init 53 = .ok (.iconst (-1), 1) := by decide +kernel
theorem dX11_init_54 : decode cX11_init 54 = .ok (.putfield 36, 3) := by decide +kernel
theorem wm_670 : (Jvm.Cond.fieldLink "GrownKinds" (36 : Nat) "GrownKinds" "faultPlace" "I") ∈ gT := gT_in (List.mem_of_getElem? (i := 670) (by decide +kernel)) (by decide +kernel)
theorem dX11_init_57 : decode cX11_init 57 = .ok (.aload_n 0, 1) := by decide +kernel
theorem dX11_init_58 : decode cX11_init 58 = .ok (.new 39, 3) := by decide +kernel
theorem wm_395 : (Jvm.Cond.classLink "GrownKinds" (39 : Nat) "GrownKinds$Leaning") ∈ gT := gT_in (List.mem_of_getElem? (i := 395) (by decide +kernel)) (by decide +kernel)
theorem dX11_init_61 : decode cX11_init 61 = .ok (.dup, 1) := by decide +kernel
theorem dX11_init_62 : decode cX11_init 62 = .ok (.aload_n 0, 1) := by decide +kernel
theorem dX11_init_63 : decode cX11_init 63 = .ok (.getfield 20, 3) := by decide +kernel
theorem dX11_init_66 : decode cX11_init 66 = .ok (.invokespecial 41, 3) := by decide +kernel
theorem wm_396 : (Jvm.Cond.methodLink "GrownKinds" (41 : Nat) ({ cls := "GrownKinds$Leaning", name := "<init>", desc := "(LGrownKinds$Grammar;)V" } : Jvm.MethodName)) ∈ gT := gT_in (List.mem_of_getElem? (i := 396) (by decide +kernel)) (by decide +kernel)
theorem dX11_init_69 : decode cX11_init 69 = .ok (.putfield 42, 3) := by decide +kernel
theorem wm_671 : (Jvm.Cond.fieldLink "GrownKinds" (42 : Nat) "GrownKinds" "leaning" "LGrownKinds$Leaning;") ∈ gT := gT_in (List.mem_of_getElem? (i := 671) (by decide +kernel)) (by decide +kernel)
theorem dX11_init_72 : decode cX11_init 72 = .ok (.aload_n 0, 1) := by decide +kernel
theorem dX11_init_73 : decode cX11_init 73 = .ok (.new 46, 3) := by decide +kernel
theorem wm_397 : (Jvm.Cond.classLink "GrownKinds" (46 : Nat) "GrownKinds$Census") ∈ gT := gT_in (List.mem_of_getElem? (i := 397) (by decide +kernel)) (by decide +kernel)
theorem wm_398 : (Jvm.Cond.instantiable "GrownKinds$Census" (8 : Nat)) ∈ gT := gT_in (List.mem_of_getElem? (i := 398) (by decide +kernel)) (by decide +kernel)
theorem wm_181 : (Jvm.Cond.initialized "GrownKinds$Census") ∈ gT := gT_in (List.mem_of_getElem? (i := 181) (by decide +kernel)) (by decide +kernel)
theorem dX11_init_76 : decode cX11_init 76 = .ok (.dup, 1) := by decide +kernel
theorem dX11_init_77 : decode cX11_init 77 = .ok (.aload_n 0, 1) := by decide +kernel
theorem dX11_init_78 : decode cX11_init 78 = .ok (.getfield 20, 3) := by decide +kernel
theorem dX11_init_81 : decode cX11_init 81 = .ok (.iconst 1, 1) := by decide +kernel
theorem dX11_init_82 : decode cX11_init 82 = .ok (.invokespecial 48, 3) := by decide +kernel
theorem wm_399 : (Jvm.Cond.methodLink "GrownKinds" (48 : Nat) ({ cls := "GrownKinds$Census", name := "<init>", desc := "(LGrownKinds$Grammar;Z)V" } : Jvm.MethodName)) ∈ gT := gT_in (List.mem_of_getElem? (i := 399) (by decide +kernel)) (by decide +kernel)
theorem wm_400 : (Jvm.Cond.instanceMethod ({ cls := "GrownKinds$Census", name := "<init>", desc := "(LGrownKinds$Grammar;Z)V" } : Jvm.MethodName)) ∈ gT := gT_in (List.mem_of_getElem? (i := 400) (by decide +kernel)) (by decide +kernel)
theorem wm_401 : (Jvm.Cond.code ({ cls := "GrownKinds$Census", name := "<init>", desc := "(LGrownKinds$Grammar;Z)V" } : Jvm.MethodName) prog_2_method_1_code (3 : Nat) (Option.none : Option Jvm.ClassFile.FieldType)) ∈ gT := gT_in (List.mem_of_getElem? (i := 401) (by decide +kernel)) (by decide +kernel)
theorem dX0_init_0 : decode cX0_init 0 = .ok (.aload_n 0, 1) := by decide +kernel
theorem dX0_init_1 : decode cX0_init 1 = .ok (.invokespecial 3, 3) := by decide +kernel
theorem wm_402 : (Jvm.Cond.methodLink "GrownKinds$Census" (3 : Nat) ({ cls := "java/lang/Object", name := "<init>", desc := "()V" } : Jvm.MethodName)) ∈ gT := gT_in (List.mem_of_getElem? (i := 402) (by decide +kernel)) (by decide +kernel)
theorem dX0_init_4 : decode cX0_init 4 = .ok (.aload_n 0, 1) := by decide +kernel
theorem dX0_init_5 : decode cX0_init 5 = .ok (.iconst (-1), 1) := by decide +kernel
theorem dX0_init_6 : decode cX0_init 6 = .ok (.putfield 9, 3) := by decide +kernel
theorem wm_404 : (Jvm.Cond.fieldLink "GrownKinds$Census" (9 : Nat) "GrownKinds$Census" "mode" "I") ∈ gT := gT_in (List.mem_of_getElem? (i := 404) (by decide +kernel)) (by decide +kernel)
theorem dX0_init_9 : decode cX0_init 9 = .ok (.aload_n 0, 1) := by decide +kernel
theorem dX0_init_10 : decode cX0_init 10 = .ok (.sipush 1536, 3) := by decide +kernel
theorem dX0_init_13 : decode cX0_init 13 = .ok (.newarray .long, 2) := by decide +kernel
theorem wm_428 : (Jvm.Cond.arrayClass Jvm.ClassFile.FieldType.long) ∈ gT := gT_in (List.mem_of_getElem? (i := 428) (by decide +kernel)) (by decide +kernel)
theorem dX0_init_15 : decode cX0_init 15 = .ok (.putfield 15, 3) := by decide +kernel
theorem wm_405 : (Jvm.Cond.fieldLink "GrownKinds$Census" (15 : Nat) "GrownKinds$Census" "own" "[J") ∈ gT := gT_in (List.mem_of_getElem? (i := 405) (by decide +kernel)) (by decide +kernel)
theorem dX0_init_18 : decode cX0_init 18 = .ok (.aload_n 0, 1) := by decide +kernel
theorem dX0_init_19 : decode cX0_init 19 = .ok (.sipush 1536, 3) := by decide +kernel
theorem dX0_init_22 : decode cX0_init 22 = .ok (.newarray .long, 2) := by decide +kernel
theorem dX0_init_24 : decode cX0_init 24 = .ok (.putfield 19, 3) := by decide +kernel
theorem wm_406 : (Jvm.Cond.fieldLink "GrownKinds$Census" (19 : Nat) "GrownKinds$Census" "tail" "[J") ∈ gT := gT_in (List.mem_of_getElem? (i := 406) (by decide +kernel)) (by decide +kernel)
theorem dX0_init_27 : decode cX0_init 27 = .ok (.aload_n 0, 1) := by decide +kernel
theorem dX0_init_28 : decode cX0_init 28 = .ok (.sipush 384, 3) := by decide +kernel
theorem dX0_init_31 : decode cX0_init 31 = .ok (.newarray .long, 2) := by decide +kernel
theorem dX0_init_33 : decode cX0_init 33 = .ok (.putfield 22, 3) := by decide +kernel
theorem wm_407 : (Jvm.Cond.fieldLink "GrownKinds$Census" (22 : Nat) "GrownKinds$Census" "total" "[J") ∈ gT := gT_in (List.mem_of_getElem? (i := 407) (by decide +kernel)) (by decide +kernel)
theorem dX0_init_36 : decode cX0_init 36 = .ok (.aload_n 0, 1) := by decide +kernel
theorem dX0_init_37 : decode cX0_init 37 = .ok (.sipush 12288, 3) := by decide +kernel
theorem dX0_init_40 : decode cX0_init 40 = .ok (.newarray .long, 2) := by decide +kernel
theorem dX0_init_42 : decode cX0_init 42 = .ok (.putfield 25, 3) := by decide +kernel
theorem wm_408 : (Jvm.Cond.fieldLink "GrownKinds$Census" (25 : Nat) "GrownKinds$Census" "rows" "[J") ∈ gT := gT_in (List.mem_of_getElem? (i := 408) (by decide +kernel)) (by decide +kernel)
theorem dX0_init_45 : decode cX0_init 45 = .ok (.aload_n 0, 1) := by decide +kernel
theorem dX0_init_46 : decode cX0_init 46 = .ok (.bipush 8, 2) := by decide +kernel
theorem dX0_init_48 : decode cX0_init 48 = .ok (.newarray .long, 2) := by decide +kernel
theorem dX0_init_50 : decode cX0_init 50 = .ok (.putfield 28, 3) := by decide +kernel
theorem wm_409 : (Jvm.Cond.fieldLink "GrownKinds$Census" (28 : Nat) "GrownKinds$Census" "ways" "[J") ∈ gT := gT_in (List.mem_of_getElem? (i := 409) (by decide +kernel)) (by decide +kernel)
theorem dX0_init_53 : decode cX0_init 53 = .ok (.aload_n 0, 1) := by decide +kernel
theorem dX0_init_54 : decode cX0_init 54 = .ok (.aload_n 1, 1) := by decide +kernel
theorem dX0_init_55 : decode cX0_init 55 = .ok (.putfield 31, 3) := by decide +kernel
theorem wm_403 : (Jvm.Cond.fieldLink "GrownKinds$Census" (31 : Nat) "GrownKinds$Census" "grammar" "LGrownKinds$Grammar;") ∈ gT := gT_in (List.mem_of_getElem? (i := 403) (by decide +kernel)) (by decide +kernel)
theorem dX0_init_58 : decode cX0_init 58 = .ok (.aload_n 0, 1) := by decide +kernel
theorem dX0_init_59 : decode cX0_init 59 = .ok (.iload_n 2, 1) := by decide +kernel
theorem dX0_init_60 : decode cX0_init 60 = .ok (.ifCond .eq 9, 3) := by decide +kernel
theorem dX0_init_63 : decode cX0_init 63 = .ok (.sipush 12288, 3) := by decide +kernel
theorem dX0_init_66 : decode cX0_init 66 = .ok (.goto 4, 3) := by decide +kernel
theorem dX0_init_70 : decode cX0_init 70 = .ok (.newarray .long, 2) := by decide +kernel
theorem dX0_init_72 : decode cX0_init 72 = .ok (.putfield 35, 3) := by decide +kernel
theorem wm_410 : (Jvm.Cond.fieldLink "GrownKinds$Census" (35 : Nat) "GrownKinds$Census" "stages" "[J") ∈ gT := gT_in (List.mem_of_getElem? (i := 410) (by decide +kernel)) (by decide +kernel)
theorem dX0_init_75 : decode cX0_init 75 = .ok (.return_, 1) := by decide +kernel
theorem dX11_init_85 : decode cX11_init 85 = .ok (.putfield 51, 3) := by decide +kernel
theorem wm_672 : (Jvm.Cond.fieldLink "GrownKinds" (51 : Nat) "GrownKinds" "census" "LGrownKinds$Census;") ∈ gT := gT_in (List.mem_of_getElem? (i := 672) (by decide +kernel)) (by decide +kernel)
theorem dX11_init_88 : decode cX11_init 88 = .ok (.aload_n 0, 1) := by decide +kernel
theorem dX11_init_89 : decode cX11_init 89 = .ok (.new 55, 3) := by decide +kernel
theorem wm_429 : (Jvm.Cond.classLink "GrownKinds" (55 : Nat) "GrownKinds$Ledger") ∈ gT := gT_in (List.mem_of_getElem? (i := 429) (by decide +kernel)) (by decide +kernel)
theorem wm_430 : (Jvm.Cond.instantiable "GrownKinds$Ledger" (8 : Nat)) ∈ gT := gT_in (List.mem_of_getElem? (i := 430) (by decide +kernel)) (by decide +kernel)
theorem wm_182 : (Jvm.Cond.initialized "GrownKinds$Ledger") ∈ gT := gT_in (List.mem_of_getElem? (i := 182) (by decide +kernel)) (by decide +kernel)
theorem dX11_init_92 : decode cX11_init 92 = .ok (.dup, 1) := by decide +kernel
theorem dX11_init_93 : decode cX11_init 93 = .ok (.aload_n 0, 1) := by decide +kernel
theorem dX11_init_94 : decode cX11_init 94 = .ok (.getfield 20, 3) := by decide +kernel
theorem dX11_init_97 : decode cX11_init 97 = .ok (.new 46, 3) := by decide +kernel
theorem dX11_init_100 : decode cX11_init 100 = .ok (.dup, 1) := by decide +kernel
theorem dX11_init_101 : decode cX11_init 101 = .ok (.aload_n 0, 1) := by decide +kernel
theorem dX11_init_102 : decode cX11_init 102 = .ok (.getfield 20, 3) := by decide +kernel
theorem dX11_init_105 : decode cX11_init 105 = .ok (.iconst 0, 1) := by decide +kernel
theorem dX11_init_106 : decode cX11_init 106 = .ok (.invokespecial 48, 3) := by decide +kernel
theorem dX0_init_69 : decode cX0_init 69 = .ok (.iconst 0, 1) := by decide +kernel
theorem dX11_init_109 : decode cX11_init 109 = .ok (.invokespecial 57, 3) := by decide +kernel
theorem wm_431 : (Jvm.Cond.methodLink "GrownKinds" (57 : Nat) ({ cls := "GrownKinds$Ledger", name := "<init>", desc := "(LGrownKinds$Grammar;LGrownKinds$Census;)V" } : Jvm.MethodName)) ∈ gT := gT_in (List.mem_of_getElem? (i := 431) (by decide +kernel)) (by decide +kernel)
theorem wm_432 : (Jvm.Cond.instanceMethod ({ cls := "GrownKinds$Ledger", name := "<init>", desc := "(LGrownKinds$Grammar;LGrownKinds$Census;)V" } : Jvm.MethodName)) ∈ gT := gT_in (List.mem_of_getElem? (i := 432) (by decide +kernel)) (by decide +kernel)
theorem wm_433 : (Jvm.Cond.code ({ cls := "GrownKinds$Ledger", name := "<init>", desc := "(LGrownKinds$Grammar;LGrownKinds$Census;)V" } : Jvm.MethodName) prog_6_method_1_code (3 : Nat) (Option.none : Option Jvm.ClassFile.FieldType)) ∈ gT := gT_in (List.mem_of_getElem? (i := 433) (by decide +kernel)) (by decide +kernel)
theorem dX4_init_0 : decode cX4_init 0 = .ok (.aload_n 0, 1) := by decide +kernel
theorem dX4_init_1 : decode cX4_init 1 = .ok (.invokespecial 3, 3) := by decide +kernel
theorem wm_434 : (Jvm.Cond.methodLink "GrownKinds$Ledger" (3 : Nat) ({ cls := "java/lang/Object", name := "<init>", desc := "()V" } : Jvm.MethodName)) ∈ gT := gT_in (List.mem_of_getElem? (i := 434) (by decide +kernel)) (by decide +kernel)
theorem dX4_init_4 : decode cX4_init 4 = .ok (.aload_n 0, 1) := by decide +kernel
theorem dX4_init_5 : decode cX4_init 5 = .ok (.iconst 0, 1) := by decide +kernel
theorem dX4_init_6 : decode cX4_init 6 = .ok (.putfield 9, 3) := by decide +kernel
theorem wm_437 : (Jvm.Cond.fieldLink "GrownKinds$Ledger" (9 : Nat) "GrownKinds$Ledger" "hasLabelled" "Z") ∈ gT := gT_in (List.mem_of_getElem? (i := 437) (by decide +kernel)) (by decide +kernel)
theorem dX4_init_9 : decode cX4_init 9 = .ok (.aload_n 0, 1) := by decide +kernel
theorem dX4_init_10 : decode cX4_init 10 = .ok (.iconst 0, 1) := by decide +kernel
theorem dX4_init_11 : decode cX4_init 11 = .ok (.putfield 15, 3) := by decide +kernel
theorem wm_438 : (Jvm.Cond.fieldLink "GrownKinds$Ledger" (15 : Nat) "GrownKinds$Ledger" "lettersDone" "I") ∈ gT := gT_in (List.mem_of_getElem? (i := 438) (by decide +kernel)) (by decide +kernel)
theorem dX4_init_14 : decode cX4_init 14 = .ok (.aload_n 0, 1) := by decide +kernel
theorem dX4_init_15 : decode cX4_init 15 = .ok (.lconst 0, 1) := by decide +kernel
theorem dX4_init_16 : decode cX4_init 16 = .ok (.putfield 19, 3) := by decide +kernel
theorem wm_439 : (Jvm.Cond.fieldLink "GrownKinds$Ledger" (19 : Nat) "GrownKinds$Ledger" "termsDone" "J") ∈ gT := gT_in (List.mem_of_getElem? (i := 439) (by decide +kernel)) (by decide +kernel)
theorem dX4_init_19 : decode cX4_init 19 = .ok (.aload_n 0, 1) := by decide +kernel
theorem dX4_init_20 : decode cX4_init 20 = .ok (.bipush 48, 2) := by decide +kernel
theorem dX4_init_22 : decode cX4_init 22 = .ok (.newarray .long, 2) := by decide +kernel
theorem dX4_init_24 : decode cX4_init 24 = .ok (.putfield 23, 3) := by decide +kernel
theorem wm_440 : (Jvm.Cond.fieldLink "GrownKinds$Ledger" (23 : Nat) "GrownKinds$Ledger" "labels" "[J") ∈ gT := gT_in (List.mem_of_getElem? (i := 440) (by decide +kernel)) (by decide +kernel)
theorem dX4_init_27 : decode cX4_init 27 = .ok (.aload_n 0, 1) := by decide +kernel
theorem dX4_init_28 : decode cX4_init 28 = .ok (.sipush 9984, 3) := by decide +kernel
theorem dX4_init_31 : decode cX4_init 31 = .ok (.newarray .long, 2) := by decide +kernel
theorem dX4_init_33 : decode cX4_init 33 = .ok (.putfield 27, 3) := by decide +kernel
theorem wm_441 : (Jvm.Cond.fieldLink "GrownKinds$Ledger" (27 : Nat) "GrownKinds$Ledger" "marks" "[J") ∈ gT := gT_in (List.mem_of_getElem? (i := 441) (by decide +kernel)) (by decide +kernel)
theorem dX4_init_36 : decode cX4_init 36 = .ok (.aload_n 0, 1) := by decide +kernel
theorem dX4_init_37 : decode cX4_init 37 = .ok (.sipush 2880, 3) := by decide +kernel
theorem dX4_init_40 : decode cX4_init 40 = .ok (.newarray .long, 2) := by decide +kernel
theorem dX4_init_42 : decode cX4_init 42 = .ok (.putfield 30, 3) := by decide +kernel
theorem wm_442 : (Jvm.Cond.fieldLink "GrownKinds$Ledger" (30 : Nat) "GrownKinds$Ledger" "rest" "[J") ∈ gT := gT_in (List.mem_of_getElem? (i := 442) (by decide +kernel)) (by decide +kernel)
theorem dX4_init_45 : decode cX4_init 45 = .ok (.aload_n 0, 1) := by decide +kernel
theorem dX4_init_46 : decode cX4_init 46 = .ok (.aload_n 1, 1) := by decide +kernel
theorem dX4_init_47 : decode cX4_init 47 = .ok (.putfield 33, 3) := by decide +kernel
theorem wm_435 : (Jvm.Cond.fieldLink "GrownKinds$Ledger" (33 : Nat) "GrownKinds$Ledger" "grammar" "LGrownKinds$Grammar;") ∈ gT := gT_in (List.mem_of_getElem? (i := 435) (by decide +kernel)) (by decide +kernel)
theorem dX4_init_50 : decode cX4_init 50 = .ok (.aload_n 0, 1) := by decide +kernel
theorem dX4_init_51 : decode cX4_init 51 = .ok (.aload_n 2, 1) := by decide +kernel
theorem dX4_init_52 : decode cX4_init 52 = .ok (.putfield 37, 3) := by decide +kernel
theorem wm_436 : (Jvm.Cond.fieldLink "GrownKinds$Ledger" (37 : Nat) "GrownKinds$Ledger" "census" "LGrownKinds$Census;") ∈ gT := gT_in (List.mem_of_getElem? (i := 436) (by decide +kernel)) (by decide +kernel)
theorem dX4_init_55 : decode cX4_init 55 = .ok (.return_, 1) := by decide +kernel
theorem dX11_init_112 : decode cX11_init 112 = .ok (.putfield 60, 3) := by decide +kernel
theorem wm_673 : (Jvm.Cond.fieldLink "GrownKinds" (60 : Nat) "GrownKinds" "ledger" "LGrownKinds$Ledger;") ∈ gT := gT_in (List.mem_of_getElem? (i := 673) (by decide +kernel)) (by decide +kernel)
theorem dX11_init_115 : decode cX11_init 115 = .ok (.aload_n 0, 1) := by decide +kernel
theorem dX11_init_116 : decode cX11_init 116 = .ok (.new 64, 3) := by decide +kernel
theorem wm_460 : (Jvm.Cond.classLink "GrownKinds" (64 : Nat) "GrownKinds$Speller") ∈ gT := gT_in (List.mem_of_getElem? (i := 460) (by decide +kernel)) (by decide +kernel)
theorem wm_461 : (Jvm.Cond.instantiable "GrownKinds$Speller" (15 : Nat)) ∈ gT := gT_in (List.mem_of_getElem? (i := 461) (by decide +kernel)) (by decide +kernel)
theorem wm_183 : (Jvm.Cond.initialized "GrownKinds$Speller") ∈ gT := gT_in (List.mem_of_getElem? (i := 183) (by decide +kernel)) (by decide +kernel)
theorem dX11_init_119 : decode cX11_init 119 = .ok (.dup, 1) := by decide +kernel
theorem dX11_init_120 : decode cX11_init 120 = .ok (.aload_n 0, 1) := by decide +kernel
theorem dX11_init_121 : decode cX11_init 121 = .ok (.getfield 20, 3) := by decide +kernel
theorem dX11_init_124 : decode cX11_init 124 = .ok (.aload_n 0, 1) := by decide +kernel
theorem dX11_init_125 : decode cX11_init 125 = .ok (.getfield 51, 3) := by decide +kernel
theorem dX11_init_128 : decode cX11_init 128 = .ok (.new 66, 3) := by decide +kernel
theorem wm_462 : (Jvm.Cond.classLink "GrownKinds" (66 : Nat) "GrownKinds$Sequences") ∈ gT := gT_in (List.mem_of_getElem? (i := 462) (by decide +kernel)) (by decide +kernel)
theorem wm_463 : (Jvm.Cond.instantiable "GrownKinds$Sequences" (6 : Nat)) ∈ gT := gT_in (List.mem_of_getElem? (i := 463) (by decide +kernel)) (by decide +kernel)
theorem wm_184 : (Jvm.Cond.initialized "GrownKinds$Sequences") ∈ gT := gT_in (List.mem_of_getElem? (i := 184) (by decide +kernel)) (by decide +kernel)
theorem dX11_init_131 : decode cX11_init 131 = .ok (.dup, 1) := by decide +kernel
theorem dX11_init_132 : decode cX11_init 132 = .ok (.aload_n 0, 1) := by decide +kernel
theorem dX11_init_133 : decode cX11_init 133 = .ok (.getfield 20, 3) := by decide +kernel
theorem dX11_init_136 : decode cX11_init 136 = .ok (.aload_n 0, 1) := by decide +kernel
theorem dX11_init_137 : decode cX11_init 137 = .ok (.getfield 51, 3) := by decide +kernel
theorem dX11_init_140 : decode cX11_init 140 = .ok (.invokespecial 68, 3) := by decide +kernel
theorem wm_464 : (Jvm.Cond.methodLink "GrownKinds" (68 : Nat) ({ cls := "GrownKinds$Sequences", name := "<init>", desc := "(LGrownKinds$Grammar;LGrownKinds$Census;)V" } : Jvm.MethodName)) ∈ gT := gT_in (List.mem_of_getElem? (i := 464) (by decide +kernel)) (by decide +kernel)
theorem wm_465 : (Jvm.Cond.instanceMethod ({ cls := "GrownKinds$Sequences", name := "<init>", desc := "(LGrownKinds$Grammar;LGrownKinds$Census;)V" } : Jvm.MethodName)) ∈ gT := gT_in (List.mem_of_getElem? (i := 465) (by decide +kernel)) (by decide +kernel)
theorem wm_466 : (Jvm.Cond.code ({ cls := "GrownKinds$Sequences", name := "<init>", desc := "(LGrownKinds$Grammar;LGrownKinds$Census;)V" } : Jvm.MethodName) prog_10_method_1_code (3 : Nat) (Option.none : Option Jvm.ClassFile.FieldType)) ∈ gT := gT_in (List.mem_of_getElem? (i := 466) (by decide +kernel)) (by decide +kernel)
theorem dX8_init_0 : decode cX8_init 0 = .ok (.aload_n 0, 1) := by decide +kernel
theorem dX8_init_1 : decode cX8_init 1 = .ok (.invokespecial 3, 3) := by decide +kernel
theorem wm_467 : (Jvm.Cond.methodLink "GrownKinds$Sequences" (3 : Nat) ({ cls := "java/lang/Object", name := "<init>", desc := "()V" } : Jvm.MethodName)) ∈ gT := gT_in (List.mem_of_getElem? (i := 467) (by decide +kernel)) (by decide +kernel)
theorem dX8_init_4 : decode cX8_init 4 = .ok (.aload_n 0, 1) := by decide +kernel
theorem dX8_init_5 : decode cX8_init 5 = .ok (.iconst 0, 1) := by decide +kernel
theorem dX8_init_6 : decode cX8_init 6 = .ok (.putfield 9, 3) := by decide +kernel
theorem wm_472 : (Jvm.Cond.fieldLink "GrownKinds$Sequences" (9 : Nat) "GrownKinds$Sequences" "many" "I") ∈ gT := gT_in (List.mem_of_getElem? (i := 472) (by decide +kernel)) (by decide +kernel)
theorem dX8_init_9 : decode cX8_init 9 = .ok (.aload_n 0, 1) := by decide +kernel
theorem dX8_init_10 : decode cX8_init 10 = .ok (.bipush 8, 2) := by decide +kernel
theorem dX8_init_12 : decode cX8_init 12 = .ok (.newarray .int, 2) := by decide +kernel
theorem dX8_init_14 : decode cX8_init 14 = .ok (.putfield 15, 3) := by decide +kernel
theorem wm_474 : (Jvm.Cond.fieldLink "GrownKinds$Sequences" (15 : Nat) "GrownKinds$Sequences" "codes" "[I") ∈ gT := gT_in (List.mem_of_getElem? (i := 474) (by decide +kernel)) (by decide +kernel)
theorem dX8_init_17 : decode cX8_init 17 = .ok (.aload_n 0, 1) := by decide +kernel
theorem dX8_init_18 : decode cX8_init 18 = .ok (.sipush 192, 3) := by decide +kernel
theorem dX8_init_21 : decode cX8_init 21 = .ok (.anewarray 19, 3) := by decide +kernel
theorem wm_468 : (Jvm.Cond.classLink "GrownKinds$Sequences" (19 : Nat) "GrownKinds$RingList") ∈ gT := gT_in (List.mem_of_getElem? (i := 468) (by decide +kernel)) (by decide +kernel)
theorem dX8_init_24 : decode cX8_init 24 = .ok (.putfield 21, 3) := by decide +kernel
theorem wm_476 : (Jvm.Cond.fieldLink "GrownKinds$Sequences" (21 : Nat) "GrownKinds$Sequences" "rings" "[LGrownKinds$RingList;") ∈ gT := gT_in (List.mem_of_getElem? (i := 476) (by decide +kernel)) (by decide +kernel)
theorem dX8_init_27 : decode cX8_init 27 = .ok (.aload_n 0, 1) := by decide +kernel
theorem dX8_init_28 : decode cX8_init 28 = .ok (.iconst 0, 1) := by decide +kernel
theorem dX8_init_29 : decode cX8_init 29 = .ok (.putfield 25, 3) := by decide +kernel
theorem wm_477 : (Jvm.Cond.fieldLink "GrownKinds$Sequences" (25 : Nat) "GrownKinds$Sequences" "inside" "I") ∈ gT := gT_in (List.mem_of_getElem? (i := 477) (by decide +kernel)) (by decide +kernel)
theorem dX8_init_32 : decode cX8_init 32 = .ok (.aload_n 0, 1) := by decide +kernel
theorem dX8_init_33 : decode cX8_init 33 = .ok (.aload_n 1, 1) := by decide +kernel
theorem dX8_init_34 : decode cX8_init 34 = .ok (.putfield 28, 3) := by decide +kernel
theorem wm_470 : (Jvm.Cond.fieldLink "GrownKinds$Sequences" (28 : Nat) "GrownKinds$Sequences" "grammar" "LGrownKinds$Grammar;") ∈ gT := gT_in (List.mem_of_getElem? (i := 470) (by decide +kernel)) (by decide +kernel)
theorem dX8_init_37 : decode cX8_init 37 = .ok (.aload_n 0, 1) := by decide +kernel
theorem dX8_init_38 : decode cX8_init 38 = .ok (.aload_n 2, 1) := by decide +kernel
theorem dX8_init_39 : decode cX8_init 39 = .ok (.putfield 32, 3) := by decide +kernel
theorem wm_471 : (Jvm.Cond.fieldLink "GrownKinds$Sequences" (32 : Nat) "GrownKinds$Sequences" "census" "LGrownKinds$Census;") ∈ gT := gT_in (List.mem_of_getElem? (i := 471) (by decide +kernel)) (by decide +kernel)
theorem dX8_init_42 : decode cX8_init 42 = .ok (.return_, 1) := by decide +kernel
theorem dX11_init_143 : decode cX11_init 143 = .ok (.invokespecial 69, 3) := by decide +kernel
theorem wm_491 : (Jvm.Cond.methodLink "GrownKinds" (69 : Nat) ({ cls := "GrownKinds$Speller", name := "<init>", desc := "(LGrownKinds$Grammar;LGrownKinds$Census;LGrownKinds$Sequences;)V" } : Jvm.MethodName)) ∈ gT := gT_in (List.mem_of_getElem? (i := 491) (by decide +kernel)) (by decide +kernel)
theorem wm_492 : (Jvm.Cond.instanceMethod ({ cls := "GrownKinds$Speller", name := "<init>", desc := "(LGrownKinds$Grammar;LGrownKinds$Census;LGrownKinds$Sequences;)V" } : Jvm.MethodName)) ∈ gT := gT_in (List.mem_of_getElem? (i := 492) (by decide +kernel)) (by decide +kernel)
theorem wm_493 : (Jvm.Cond.code ({ cls := "GrownKinds$Speller", name := "<init>", desc := "(LGrownKinds$Grammar;LGrownKinds$Census;LGrownKinds$Sequences;)V" } : Jvm.MethodName) prog_11_method_1_code (4 : Nat) (Option.none : Option Jvm.ClassFile.FieldType)) ∈ gT := gT_in (List.mem_of_getElem? (i := 493) (by decide +kernel)) (by decide +kernel)
theorem dX9_init_0 : decode cX9_init 0 = .ok (.aload_n 0, 1) := by decide +kernel
theorem dX9_init_1 : decode cX9_init 1 = .ok (.invokespecial 3, 3) := by decide +kernel
theorem wm_494 : (Jvm.Cond.methodLink "GrownKinds$Speller" (3 : Nat) ({ cls := "java/lang/Object", name := "<init>", desc := "()V" } : Jvm.MethodName)) ∈ gT := gT_in (List.mem_of_getElem? (i := 494) (by decide +kernel)) (by decide +kernel)
theorem dX9_init_4 : decode cX9_init 4 = .ok (.aload_n 0, 1) := by decide +kernel
theorem dX9_init_5 : decode cX9_init 5 = .ok (.sipush 256, 3) := by decide +kernel
theorem dX9_init_8 : decode cX9_init 8 = .ok (.newarray .byte, 2) := by decide +kernel
theorem dX9_init_10 : decode cX9_init 10 = .ok (.putfield 9, 3) := by decide +kernel
theorem wm_498 : (Jvm.Cond.fieldLink "GrownKinds$Speller" (9 : Nat) "GrownKinds$Speller" "text" "[B") ∈ gT := gT_in (List.mem_of_getElem? (i := 498) (by decide +kernel)) (by decide +kernel)
theorem dX9_init_13 : decode cX9_init 13 = .ok (.aload_n 0, 1) := by decide +kernel
theorem dX9_init_14 : decode cX9_init 14 = .ok (.iconst 0, 1) := by decide +kernel
theorem dX9_init_15 : decode cX9_init 15 = .ok (.putfield 15, 3) := by decide +kernel
theorem wm_500 : (Jvm.Cond.fieldLink "GrownKinds$Speller" (15 : Nat) "GrownKinds$Speller" "signs" "I") ∈ gT := gT_in (List.mem_of_getElem? (i := 500) (by decide +kernel)) (by decide +kernel)
theorem dX9_init_18 : decode cX9_init 18 = .ok (.aload_n 0, 1) := by decide +kernel
theorem dX9_init_19 : decode cX9_init 19 = .ok (.iconst 0, 1) := by decide +kernel
theorem dX9_init_20 : decode cX9_init 20 = .ok (.putfield 19, 3) := by decide +kernel
theorem wm_502 : (Jvm.Cond.fieldLink "GrownKinds$Speller" (19 : Nat) "GrownKinds$Speller" "depth" "I") ∈ gT := gT_in (List.mem_of_getElem? (i := 502) (by decide +kernel)) (by decide +kernel)
theorem dX9_init_23 : decode cX9_init 23 = .ok (.aload_n 0, 1) := by decide +kernel
theorem dX9_init_24 : decode cX9_init 24 = .ok (.iconst 1, 1) := by decide +kernel
theorem dX9_init_25 : decode cX9_init 25 = .ok (.putfield 22, 3) := by decide +kernel
theorem wm_505 : (Jvm.Cond.fieldLink "GrownKinds$Speller" (22 : Nat) "GrownKinds$Speller" "turns" "I") ∈ gT := gT_in (List.mem_of_getElem? (i := 505) (by decide +kernel)) (by decide +kernel)
theorem dX9_init_28 : decode cX9_init 28 = .ok (.aload_n 0, 1) := by decide +kernel
theorem dX9_init_29 : decode cX9_init 29 = .ok (.iconst 0, 1) := by decide +kernel
theorem dX9_init_30 : decode cX9_init 30 = .ok (.putfield 25, 3) := by decide +kernel
theorem wm_508 : (Jvm.Cond.fieldLink "GrownKinds$Speller" (25 : Nat) "GrownKinds$Speller" "topTerm" "I") ∈ gT := gT_in (List.mem_of_getElem? (i := 508) (by decide +kernel)) (by decide +kernel)
theorem dX9_init_33 : decode cX9_init 33 = .ok (.aload_n 0, 1) := by decide +kernel
theorem dX9_init_34 : decode cX9_init 34 = .ok (.iconst 0, 1) := by decide +kernel
theorem dX9_init_35 : decode cX9_init 35 = .ok (.putfield 28, 3) := by decide +kernel
theorem wm_510 : (Jvm.Cond.fieldLink "GrownKinds$Speller" (28 : Nat) "GrownKinds$Speller" "weight" "I") ∈ gT := gT_in (List.mem_of_getElem? (i := 510) (by decide +kernel)) (by decide +kernel)
theorem dX9_init_38 : decode cX9_init 38 = .ok (.aload_n 0, 1) := by decide +kernel
theorem dX9_init_39 : decode cX9_init 39 = .ok (.bipush 26, 2) := by decide +kernel
theorem dX9_init_41 : decode cX9_init 41 = .ok (.newarray .int, 2) := by decide +kernel
theorem dX9_init_43 : decode cX9_init 43 = .ok (.putfield 31, 3) := by decide +kernel
theorem wm_512 : (Jvm.Cond.fieldLink "GrownKinds$Speller" (31 : Nat) "GrownKinds$Speller" "atomCounts" "[I") ∈ gT := gT_in (List.mem_of_getElem? (i := 512) (by decide +kernel)) (by decide +kernel)
theorem dX9_init_46 : decode cX9_init 46 = .ok (.aload_n 0, 1) := by decide +kernel
theorem dX9_init_47 : decode cX9_init 47 = .ok (.iconst 0, 1) := by decide +kernel
theorem dX9_init_48 : decode cX9_init 48 = .ok (.putfield 35, 3) := by decide +kernel
theorem wm_515 : (Jvm.Cond.fieldLink "GrownKinds$Speller" (35 : Nat) "GrownKinds$Speller" "open" "I") ∈ gT := gT_in (List.mem_of_getElem? (i := 515) (by decide +kernel)) (by decide +kernel)
theorem dX9_init_51 : decode cX9_init 51 = .ok (.aload_n 0, 1) := by decide +kernel
theorem dX9_init_52 : decode cX9_init 52 = .ok (.sipush 1100, 3) := by decide +kernel
theorem dX9_init_55 : decode cX9_init 55 = .ok (.newarray .int, 2) := by decide +kernel
theorem dX9_init_57 : decode cX9_init 57 = .ok (.putfield 38, 3) := by decide +kernel
theorem wm_516 : (Jvm.Cond.fieldLink "GrownKinds$Speller" (38 : Nat) "GrownKinds$Speller" "waiting" "[I") ∈ gT := gT_in (List.mem_of_getElem? (i := 516) (by decide +kernel)) (by decide +kernel)
theorem dX9_init_60 : decode cX9_init 60 = .ok (.aload_n 0, 1) := by decide +kernel
theorem dX9_init_61 : decode cX9_init 61 = .ok (.iconst 0, 1) := by decide +kernel
theorem dX9_init_62 : decode cX9_init 62 = .ok (.putfield 41, 3) := by decide +kernel
theorem wm_517 : (Jvm.Cond.fieldLink "GrownKinds$Speller" (41 : Nat) "GrownKinds$Speller" "top" "I") ∈ gT := gT_in (List.mem_of_getElem? (i := 517) (by decide +kernel)) (by decide +kernel)
theorem dX9_init_65 : decode cX9_init 65 = .ok (.aload_n 0, 1) := by decide +kernel
theorem dX9_init_66 : decode cX9_init 66 = .ok (.iconst (-1), 1) := by decide +kernel
theorem dX9_init_67 : decode cX9_init 67 = .ok (.putfield 44, 3) := by decide +kernel
theorem wm_518 : (Jvm.Cond.fieldLink "GrownKinds$Speller" (44 : Nat) "GrownKinds$Speller" "nowStamp" "I") ∈ gT := gT_in (List.mem_of_getElem? (i := 518) (by decide +kernel)) (by decide +kernel)
theorem dX9_init_70 : decode cX9_init 70 = .ok (.aload_n 0, 1) := by decide +kernel
theorem dX9_init_71 : decode cX9_init 71 = .ok (.iconst (-1), 1) := by decide +kernel
theorem dX9_init_72 : decode cX9_init 72 = .ok (.putfield 47, 3) := by decide +kernel
theorem wm_519 : (Jvm.Cond.fieldLink "GrownKinds$Speller" (47 : Nat) "GrownKinds$Speller" "nowThing" "I") ∈ gT := gT_in (List.mem_of_getElem? (i := 519) (by decide +kernel)) (by decide +kernel)
theorem dX9_init_75 : decode cX9_init 75 = .ok (.aload_n 0, 1) := by decide +kernel
theorem dX9_init_76 : decode cX9_init 76 = .ok (.aload_n 1, 1) := by decide +kernel
theorem dX9_init_77 : decode cX9_init 77 = .ok (.putfield 50, 3) := by decide +kernel
theorem wm_495 : (Jvm.Cond.fieldLink "GrownKinds$Speller" (50 : Nat) "GrownKinds$Speller" "grammar" "LGrownKinds$Grammar;") ∈ gT := gT_in (List.mem_of_getElem? (i := 495) (by decide +kernel)) (by decide +kernel)
theorem dX9_init_80 : decode cX9_init 80 = .ok (.aload_n 0, 1) := by decide +kernel
theorem dX9_init_81 : decode cX9_init 81 = .ok (.aload_n 2, 1) := by decide +kernel
theorem dX9_init_82 : decode cX9_init 82 = .ok (.putfield 54, 3) := by decide +kernel
theorem wm_496 : (Jvm.Cond.fieldLink "GrownKinds$Speller" (54 : Nat) "GrownKinds$Speller" "census" "LGrownKinds$Census;") ∈ gT := gT_in (List.mem_of_getElem? (i := 496) (by decide +kernel)) (by decide +kernel)
theorem dX9_init_85 : decode cX9_init 85 = .ok (.aload_n 0, 1) := by decide +kernel
theorem dX9_init_86 : decode cX9_init 86 = .ok (.aload_n 3, 1) := by decide +kernel
theorem dX9_init_87 : decode cX9_init 87 = .ok (.putfield 58, 3) := by decide +kernel
theorem wm_497 : (Jvm.Cond.fieldLink "GrownKinds$Speller" (58 : Nat) "GrownKinds$Speller" "sequences" "LGrownKinds$Sequences;") ∈ gT := gT_in (List.mem_of_getElem? (i := 497) (by decide +kernel)) (by decide +kernel)
theorem dX9_init_90 : decode cX9_init 90 = .ok (.return_, 1) := by decide +kernel
theorem dX11_init_146 : decode cX11_init 146 = .ok (.putfield 72, 3) := by decide +kernel
theorem wm_674 : (Jvm.Cond.fieldLink "GrownKinds" (72 : Nat) "GrownKinds" "speller" "LGrownKinds$Speller;") ∈ gT := gT_in (List.mem_of_getElem? (i := 674) (by decide +kernel)) (by decide +kernel)
theorem dX11_init_149 : decode cX11_init 149 = .ok (.aload_n 0, 1) := by decide +kernel
theorem dX11_init_150 : decode cX11_init 150 = .ok (.new 76, 3) := by decide +kernel
theorem wm_551 : (Jvm.Cond.classLink "GrownKinds" (76 : Nat) "GrownKinds$ThingReader") ∈ gT := gT_in (List.mem_of_getElem? (i := 551) (by decide +kernel)) (by decide +kernel)
theorem wm_552 : (Jvm.Cond.instantiable "GrownKinds$ThingReader" (13 : Nat)) ∈ gT := gT_in (List.mem_of_getElem? (i := 552) (by decide +kernel)) (by decide +kernel)
theorem wm_185 : (Jvm.Cond.initialized "GrownKinds$ThingReader") ∈ gT := gT_in (List.mem_of_getElem? (i := 185) (by decide +kernel)) (by decide +kernel)
theorem dX11_init_153 : decode cX11_init 153 = .ok (.dup, 1) := by decide +kernel
theorem dX11_init_154 : decode cX11_init 154 = .ok (.aload_n 0, 1) := by decide +kernel
theorem dX11_init_155 : decode cX11_init 155 = .ok (.getfield 20, 3) := by decide +kernel
theorem dX11_init_158 : decode cX11_init 158 = .ok (.invokespecial 78, 3) := by decide +kernel
theorem wm_553 : (Jvm.Cond.methodLink "GrownKinds" (78 : Nat) ({ cls := "GrownKinds$ThingReader", name := "<init>", desc := "(LGrownKinds$Grammar;)V" } : Jvm.MethodName)) ∈ gT := gT_in (List.mem_of_getElem? (i := 553) (by decide +kernel)) (by decide +kernel)
theorem wm_554 : (Jvm.Cond.instanceMethod ({ cls := "GrownKinds$ThingReader", name := "<init>", desc := "(LGrownKinds$Grammar;)V" } : Jvm.MethodName)) ∈ gT := gT_in (List.mem_of_getElem? (i := 554) (by decide +kernel)) (by decide +kernel)
theorem wm_555 : (Jvm.Cond.code ({ cls := "GrownKinds$ThingReader", name := "<init>", desc := "(LGrownKinds$Grammar;)V" } : Jvm.MethodName) prog_12_method_1_code (2 : Nat) (Option.none : Option Jvm.ClassFile.FieldType)) ∈ gT := gT_in (List.mem_of_getElem? (i := 555) (by decide +kernel)) (by decide +kernel)
theorem dX10_init_0 : decode cX10_init 0 = .ok (.aload_n 0, 1) := by decide +kernel
theorem dX10_init_1 : decode cX10_init 1 = .ok (.invokespecial 3, 3) := by decide +kernel
theorem wm_556 : (Jvm.Cond.methodLink "GrownKinds$ThingReader" (3 : Nat) ({ cls := "java/lang/Object", name := "<init>", desc := "()V" } : Jvm.MethodName)) ∈ gT := gT_in (List.mem_of_getElem? (i := 556) (by decide +kernel)) (by decide +kernel)
theorem dX10_init_4 : decode cX10_init 4 = .ok (.aload_n 0, 1) := by decide +kernel
theorem dX10_init_5 : decode cX10_init 5 = .ok (.bipush 40, 2) := by decide +kernel
theorem dX10_init_7 : decode cX10_init 7 = .ok (.newarray .byte, 2) := by decide +kernel
theorem dX10_init_9 : decode cX10_init 9 = .ok (.putfield 9, 3) := by decide +kernel
theorem wm_558 : (Jvm.Cond.fieldLink "GrownKinds$ThingReader" (9 : Nat) "GrownKinds$ThingReader" "text" "[B") ∈ gT := gT_in (List.mem_of_getElem? (i := 558) (by decide +kernel)) (by decide +kernel)
theorem dX10_init_12 : decode cX10_init 12 = .ok (.aload_n 0, 1) := by decide +kernel
theorem dX10_init_13 : decode cX10_init 13 = .ok (.bipush 40, 2) := by decide +kernel
theorem dX10_init_15 : decode cX10_init 15 = .ok (.newarray .byte, 2) := by decide +kernel
theorem dX10_init_17 : decode cX10_init 17 = .ok (.putfield 15, 3) := by decide +kernel
theorem wm_560 : (Jvm.Cond.fieldLink "GrownKinds$ThingReader" (15 : Nat) "GrownKinds$ThingReader" "moved" "[B") ∈ gT := gT_in (List.mem_of_getElem? (i := 560) (by decide +kernel)) (by decide +kernel)
theorem dX10_init_20 : decode cX10_init 20 = .ok (.aload_n 0, 1) := by decide +kernel
theorem dX10_init_21 : decode cX10_init 21 = .ok (.iconst 0, 1) := by decide +kernel
theorem dX10_init_22 : decode cX10_init 22 = .ok (.putfield 18, 3) := by decide +kernel
theorem wm_561 : (Jvm.Cond.fieldLink "GrownKinds$ThingReader" (18 : Nat) "GrownKinds$ThingReader" "length" "I") ∈ gT := gT_in (List.mem_of_getElem? (i := 561) (by decide +kernel)) (by decide +kernel)
theorem dX10_init_25 : decode cX10_init 25 = .ok (.aload_n 0, 1) := by decide +kernel
theorem dX10_init_26 : decode cX10_init 26 = .ok (.iconst 0, 1) := by decide +kernel
theorem dX10_init_27 : decode cX10_init 27 = .ok (.putfield 22, 3) := by decide +kernel
theorem wm_562 : (Jvm.Cond.fieldLink "GrownKinds$ThingReader" (22 : Nat) "GrownKinds$ThingReader" "at" "I") ∈ gT := gT_in (List.mem_of_getElem? (i := 562) (by decide +kernel)) (by decide +kernel)
theorem dX10_init_30 : decode cX10_init 30 = .ok (.aload_n 0, 1) := by decide +kernel
theorem dX10_init_31 : decode cX10_init 31 = .ok (.iconst 0, 1) := by decide +kernel
theorem dX10_init_32 : decode cX10_init 32 = .ok (.putfield 25, 3) := by decide +kernel
theorem wm_563 : (Jvm.Cond.fieldLink "GrownKinds$ThingReader" (25 : Nat) "GrownKinds$ThingReader" "size" "I") ∈ gT := gT_in (List.mem_of_getElem? (i := 563) (by decide +kernel)) (by decide +kernel)
theorem dX10_init_35 : decode cX10_init 35 = .ok (.aload_n 0, 1) := by decide +kernel
theorem dX10_init_36 : decode cX10_init 36 = .ok (.iconst 1, 1) := by decide +kernel
theorem dX10_init_37 : decode cX10_init 37 = .ok (.putfield 28, 3) := by decide +kernel
theorem wm_564 : (Jvm.Cond.fieldLink "GrownKinds$ThingReader" (28 : Nat) "GrownKinds$ThingReader" "fine" "Z") ∈ gT := gT_in (List.mem_of_getElem? (i := 564) (by decide +kernel)) (by decide +kernel)
theorem dX10_init_40 : decode cX10_init 40 = .ok (.aload_n 0, 1) := by decide +kernel
theorem dX10_init_41 : decode cX10_init 41 = .ok (.bipush 40, 2) := by decide +kernel
theorem dX10_init_43 : decode cX10_init 43 = .ok (.newarray .int, 2) := by decide +kernel
theorem dX10_init_45 : decode cX10_init 45 = .ok (.putfield 32, 3) := by decide +kernel
theorem wm_565 : (Jvm.Cond.fieldLink "GrownKinds$ThingReader" (32 : Nat) "GrownKinds$ThingReader" "waiting" "[I") ∈ gT := gT_in (List.mem_of_getElem? (i := 565) (by decide +kernel)) (by decide +kernel)
theorem dX10_init_48 : decode cX10_init 48 = .ok (.aload_n 0, 1) := by decide +kernel
theorem dX10_init_49 : decode cX10_init 49 = .ok (.iconst 0, 1) := by decide +kernel
theorem dX10_init_50 : decode cX10_init 50 = .ok (.putfield 36, 3) := by decide +kernel
theorem wm_566 : (Jvm.Cond.fieldLink "GrownKinds$ThingReader" (36 : Nat) "GrownKinds$ThingReader" "top" "I") ∈ gT := gT_in (List.mem_of_getElem? (i := 566) (by decide +kernel)) (by decide +kernel)
theorem dX10_init_53 : decode cX10_init 53 = .ok (.aload_n 0, 1) := by decide +kernel
theorem dX10_init_54 : decode cX10_init 54 = .ok (.bipush 41, 2) := by decide +kernel
theorem dX10_init_56 : decode cX10_init 56 = .ok (.newarray .int, 2) := by decide +kernel
theorem dX10_init_58 : decode cX10_init 58 = .ok (.putfield 39, 3) := by decide +kernel
theorem wm_567 : (Jvm.Cond.fieldLink "GrownKinds$ThingReader" (39 : Nat) "GrownKinds$ThingReader" "starts" "[I") ∈ gT := gT_in (List.mem_of_getElem? (i := 567) (by decide +kernel)) (by decide +kernel)
theorem dX10_init_61 : decode cX10_init 61 = .ok (.aload_n 0, 1) := by decide +kernel
theorem dX10_init_62 : decode cX10_init 62 = .ok (.iconst 0, 1) := by decide +kernel
theorem dX10_init_63 : decode cX10_init 63 = .ok (.putfield 42, 3) := by decide +kernel
theorem wm_568 : (Jvm.Cond.fieldLink "GrownKinds$ThingReader" (42 : Nat) "GrownKinds$ThingReader" "startCount" "I") ∈ gT := gT_in (List.mem_of_getElem? (i := 568) (by decide +kernel)) (by decide +kernel)
theorem dX10_init_66 : decode cX10_init 66 = .ok (.aload_n 0, 1) := by decide +kernel
theorem dX10_init_67 : decode cX10_init 67 = .ok (.bipush 40, 2) := by decide +kernel
theorem dX10_init_69 : decode cX10_init 69 = .ok (.newarray .int, 2) := by decide +kernel
theorem dX10_init_71 : decode cX10_init 71 = .ok (.putfield 45, 3) := by decide +kernel
theorem wm_569 : (Jvm.Cond.fieldLink "GrownKinds$ThingReader" (45 : Nat) "GrownKinds$ThingReader" "opened" "[I") ∈ gT := gT_in (List.mem_of_getElem? (i := 569) (by decide +kernel)) (by decide +kernel)
theorem dX10_init_74 : decode cX10_init 74 = .ok (.aload_n 0, 1) := by decide +kernel
theorem dX10_init_75 : decode cX10_init 75 = .ok (.iconst 0, 1) := by decide +kernel
theorem dX10_init_76 : decode cX10_init 76 = .ok (.putfield 48, 3) := by decide +kernel
theorem wm_570 : (Jvm.Cond.fieldLink "GrownKinds$ThingReader" (48 : Nat) "GrownKinds$ThingReader" "openCount" "I") ∈ gT := gT_in (List.mem_of_getElem? (i := 570) (by decide +kernel)) (by decide +kernel)
theorem dX10_init_79 : decode cX10_init 79 = .ok (.aload_n 0, 1) := by decide +kernel
theorem dX10_init_80 : decode cX10_init 80 = .ok (.aload_n 1, 1) := by decide +kernel
theorem dX10_init_81 : decode cX10_init 81 = .ok (.putfield 51, 3) := by decide +kernel
theorem wm_557 : (Jvm.Cond.fieldLink "GrownKinds$ThingReader" (51 : Nat) "GrownKinds$ThingReader" "grammar" "LGrownKinds$Grammar;") ∈ gT := gT_in (List.mem_of_getElem? (i := 557) (by decide +kernel)) (by decide +kernel)
theorem dX10_init_84 : decode cX10_init 84 = .ok (.return_, 1) := by decide +kernel
theorem dX11_init_161 : decode cX11_init 161 = .ok (.putfield 79, 3) := by decide +kernel
theorem wm_675 : (Jvm.Cond.fieldLink "GrownKinds" (79 : Nat) "GrownKinds" "thingReader" "LGrownKinds$ThingReader;") ∈ gT := gT_in (List.mem_of_getElem? (i := 675) (by decide +kernel)) (by decide +kernel)
theorem dX11_init_164 : decode cX11_init 164 = .ok (.aload_n 0, 1) := by decide +kernel
theorem dX11_init_165 : decode cX11_init 165 = .ok (.new 83, 3) := by decide +kernel
theorem wm_598 : (Jvm.Cond.classLink "GrownKinds" (83 : Nat) "GrownKinds$Roll") ∈ gT := gT_in (List.mem_of_getElem? (i := 598) (by decide +kernel)) (by decide +kernel)
theorem wm_599 : (Jvm.Cond.instantiable "GrownKinds$Roll" (9 : Nat)) ∈ gT := gT_in (List.mem_of_getElem? (i := 599) (by decide +kernel)) (by decide +kernel)
theorem wm_186 : (Jvm.Cond.initialized "GrownKinds$Roll") ∈ gT := gT_in (List.mem_of_getElem? (i := 186) (by decide +kernel)) (by decide +kernel)
theorem dX11_init_168 : decode cX11_init 168 = .ok (.dup, 1) := by decide +kernel
theorem dX11_init_169 : decode cX11_init 169 = .ok (.aload_n 0, 1) := by decide +kernel
theorem dX11_init_170 : decode cX11_init 170 = .ok (.getfield 72, 3) := by decide +kernel
theorem dX11_init_173 : decode cX11_init 173 = .ok (.invokespecial 85, 3) := by decide +kernel
theorem wm_600 : (Jvm.Cond.methodLink "GrownKinds" (85 : Nat) ({ cls := "GrownKinds$Roll", name := "<init>", desc := "(LGrownKinds$Speller;)V" } : Jvm.MethodName)) ∈ gT := gT_in (List.mem_of_getElem? (i := 600) (by decide +kernel)) (by decide +kernel)
theorem wm_601 : (Jvm.Cond.instanceMethod ({ cls := "GrownKinds$Roll", name := "<init>", desc := "(LGrownKinds$Speller;)V" } : Jvm.MethodName)) ∈ gT := gT_in (List.mem_of_getElem? (i := 601) (by decide +kernel)) (by decide +kernel)
theorem wm_602 : (Jvm.Cond.code ({ cls := "GrownKinds$Roll", name := "<init>", desc := "(LGrownKinds$Speller;)V" } : Jvm.MethodName) prog_9_method_1_code (2 : Nat) (Option.none : Option Jvm.ClassFile.FieldType)) ∈ gT := gT_in (List.mem_of_getElem? (i := 602) (by decide +kernel)) (by decide +kernel)
theorem dX7_init_0 : decode cX7_init 0 = .ok (.aload_n 0, 1) := by decide +kernel
theorem dX7_init_1 : decode cX7_init 1 = .ok (.invokespecial 3, 3) := by decide +kernel
theorem wm_603 : (Jvm.Cond.methodLink "GrownKinds$Roll" (3 : Nat) ({ cls := "java/lang/Object", name := "<init>", desc := "()V" } : Jvm.MethodName)) ∈ gT := gT_in (List.mem_of_getElem? (i := 603) (by decide +kernel)) (by decide +kernel)
theorem dX7_init_4 : decode cX7_init 4 = .ok (.aload_n 0, 1) := by decide +kernel
theorem dX7_init_5 : decode cX7_init 5 = .ok (.lconst 0, 1) := by decide +kernel
theorem dX7_init_6 : decode cX7_init 6 = .ok (.putfield 9, 3) := by decide +kernel
theorem wm_605 : (Jvm.Cond.fieldLink "GrownKinds$Roll" (9 : Nat) "GrownKinds$Roll" "called" "J") ∈ gT := gT_in (List.mem_of_getElem? (i := 605) (by decide +kernel)) (by decide +kernel)
theorem dX7_init_9 : decode cX7_init 9 = .ok (.aload_n 0, 1) := by decide +kernel
theorem dX7_init_10 : decode cX7_init 10 = .ok (.bipush 48, 2) := by decide +kernel
theorem dX7_init_12 : decode cX7_init 12 = .ok (.newarray .int, 2) := by decide +kernel
theorem dX7_init_14 : decode cX7_init 14 = .ok (.putfield 15, 3) := by decide +kernel
theorem wm_606 : (Jvm.Cond.fieldLink "GrownKinds$Roll" (15 : Nat) "GrownKinds$Roll" "deepestRank" "[I") ∈ gT := gT_in (List.mem_of_getElem? (i := 606) (by decide +kernel)) (by decide +kernel)
theorem dX7_init_17 : decode cX7_init 17 = .ok (.aload_n 0, 1) := by decide +kernel
theorem dX7_init_18 : decode cX7_init 18 = .ok (.bipush 48, 2) := by decide +kernel
theorem dX7_init_20 : decode cX7_init 20 = .ok (.newarray .int, 2) := by decide +kernel
theorem dX7_init_22 : decode cX7_init 22 = .ok (.putfield 19, 3) := by decide +kernel
theorem wm_608 : (Jvm.Cond.fieldLink "GrownKinds$Roll" (19 : Nat) "GrownKinds$Roll" "stiffestRank" "[I") ∈ gT := gT_in (List.mem_of_getElem? (i := 608) (by decide +kernel)) (by decide +kernel)
theorem dX7_init_25 : decode cX7_init 25 = .ok (.aload_n 0, 1) := by decide +kernel
theorem dX7_init_26 : decode cX7_init 26 = .ok (.sipush 1248, 3) := by decide +kernel
theorem dX7_init_29 : decode cX7_init 29 = .ok (.newarray .int, 2) := by decide +kernel
theorem dX7_init_31 : decode cX7_init 31 = .ok (.putfield 22, 3) := by decide +kernel
theorem wm_610 : (Jvm.Cond.fieldLink "GrownKinds$Roll" (22 : Nat) "GrownKinds$Roll" "fullestRank" "[I") ∈ gT := gT_in (List.mem_of_getElem? (i := 610) (by decide +kernel)) (by decide +kernel)
theorem dX7_init_34 : decode cX7_init 34 = .ok (.aload_n 0, 1) := by decide +kernel
theorem dX7_init_35 : decode cX7_init 35 = .ok (.sipush 1248, 3) := by decide +kernel
theorem dX7_init_38 : decode cX7_init 38 = .ok (.newarray .int, 2) := by decide +kernel
theorem dX7_init_40 : decode cX7_init 40 = .ok (.putfield 25, 3) := by decide +kernel
theorem wm_612 : (Jvm.Cond.fieldLink "GrownKinds$Roll" (25 : Nat) "GrownKinds$Roll" "atomSums" "[I") ∈ gT := gT_in (List.mem_of_getElem? (i := 612) (by decide +kernel)) (by decide +kernel)
theorem dX7_init_43 : decode cX7_init 43 = .ok (.aload_n 0, 1) := by decide +kernel
theorem dX7_init_44 : decode cX7_init 44 = .ok (.iconst (-1), 1) := by decide +kernel
theorem dX7_init_45 : decode cX7_init 45 = .ok (.putfield 28, 3) := by decide +kernel
theorem wm_614 : (Jvm.Cond.fieldLink "GrownKinds$Roll" (28 : Nat) "GrownKinds$Roll" "mostDeep" "I") ∈ gT := gT_in (List.mem_of_getElem? (i := 614) (by decide +kernel)) (by decide +kernel)
theorem dX7_init_48 : decode cX7_init 48 = .ok (.aload_n 0, 1) := by decide +kernel
theorem dX7_init_49 : decode cX7_init 49 = .ok (.iconst (-1), 1) := by decide +kernel
theorem dX7_init_50 : decode cX7_init 50 = .ok (.putfield 32, 3) := by decide +kernel
theorem wm_615 : (Jvm.Cond.fieldLink "GrownKinds$Roll" (32 : Nat) "GrownKinds$Roll" "mostStiff" "I") ∈ gT := gT_in (List.mem_of_getElem? (i := 615) (by decide +kernel)) (by decide +kernel)
theorem dX7_init_53 : decode cX7_init 53 = .ok (.aload_n 0, 1) := by decide +kernel
theorem dX7_init_54 : decode cX7_init 54 = .ok (.bipush 26, 2) := by decide +kernel
theorem dX7_init_56 : decode cX7_init 56 = .ok (.newarray .int, 2) := by decide +kernel
theorem dX7_init_58 : decode cX7_init 58 = .ok (.putfield 35, 3) := by decide +kernel
theorem wm_616 : (Jvm.Cond.fieldLink "GrownKinds$Roll" (35 : Nat) "GrownKinds$Roll" "mostAtoms" "[I") ∈ gT := gT_in (List.mem_of_getElem? (i := 616) (by decide +kernel)) (by decide +kernel)
theorem dX7_init_61 : decode cX7_init 61 = .ok (.aload_n 0, 1) := by decide +kernel
theorem dX7_init_62 : decode cX7_init 62 = .ok (.aload_n 1, 1) := by decide +kernel
theorem dX7_init_63 : decode cX7_init 63 = .ok (.putfield 38, 3) := by decide +kernel
theorem wm_604 : (Jvm.Cond.fieldLink "GrownKinds$Roll" (38 : Nat) "GrownKinds$Roll" "speller" "LGrownKinds$Speller;") ∈ gT := gT_in (List.mem_of_getElem? (i := 604) (by decide +kernel)) (by decide +kernel)
theorem dX7_init_66 : decode cX7_init 66 = .ok (.return_, 1) := by decide +kernel
theorem dX11_init_176 : decode cX11_init 176 = .ok (.putfield 88, 3) := by decide +kernel
theorem wm_676 : (Jvm.Cond.fieldLink "GrownKinds" (88 : Nat) "GrownKinds" "roll" "LGrownKinds$Roll;") ∈ gT := gT_in (List.mem_of_getElem? (i := 676) (by decide +kernel)) (by decide +kernel)
theorem dX11_init_179 : decode cX11_init 179 = .ok (.aload_n 0, 1) := by decide +kernel
theorem dX11_init_180 : decode cX11_init 180 = .ok (.new 92, 3) := by decide +kernel
theorem wm_636 : (Jvm.Cond.classLink "GrownKinds" (92 : Nat) "GrownKinds$Dealer") ∈ gT := gT_in (List.mem_of_getElem? (i := 636) (by decide +kernel)) (by decide +kernel)
theorem wm_637 : (Jvm.Cond.instantiable "GrownKinds$Dealer" (7 : Nat)) ∈ gT := gT_in (List.mem_of_getElem? (i := 637) (by decide +kernel)) (by decide +kernel)
theorem wm_187 : (Jvm.Cond.initialized "GrownKinds$Dealer") ∈ gT := gT_in (List.mem_of_getElem? (i := 187) (by decide +kernel)) (by decide +kernel)
theorem dX11_init_183 : decode cX11_init 183 = .ok (.dup, 1) := by decide +kernel
theorem dX11_init_184 : decode cX11_init 184 = .ok (.aload_n 0, 1) := by decide +kernel
theorem dX11_init_185 : decode cX11_init 185 = .ok (.getfield 51, 3) := by decide +kernel
theorem dX11_init_188 : decode cX11_init 188 = .ok (.invokespecial 94, 3) := by decide +kernel
theorem wm_638 : (Jvm.Cond.methodLink "GrownKinds" (94 : Nat) ({ cls := "GrownKinds$Dealer", name := "<init>", desc := "(LGrownKinds$Census;)V" } : Jvm.MethodName)) ∈ gT := gT_in (List.mem_of_getElem? (i := 638) (by decide +kernel)) (by decide +kernel)
theorem wm_639 : (Jvm.Cond.instanceMethod ({ cls := "GrownKinds$Dealer", name := "<init>", desc := "(LGrownKinds$Census;)V" } : Jvm.MethodName)) ∈ gT := gT_in (List.mem_of_getElem? (i := 639) (by decide +kernel)) (by decide +kernel)
theorem wm_640 : (Jvm.Cond.code ({ cls := "GrownKinds$Dealer", name := "<init>", desc := "(LGrownKinds$Census;)V" } : Jvm.MethodName) prog_3_method_1_code (2 : Nat) (Option.none : Option Jvm.ClassFile.FieldType)) ∈ gT := gT_in (List.mem_of_getElem? (i := 640) (by decide +kernel)) (by decide +kernel)
theorem dX1_init_0 : decode cX1_init 0 = .ok (.aload_n 0, 1) := by decide +kernel
theorem dX1_init_1 : decode cX1_init 1 = .ok (.invokespecial 3, 3) := by decide +kernel
theorem wm_641 : (Jvm.Cond.methodLink "GrownKinds$Dealer" (3 : Nat) ({ cls := "java/lang/Object", name := "<init>", desc := "()V" } : Jvm.MethodName)) ∈ gT := gT_in (List.mem_of_getElem? (i := 641) (by decide +kernel)) (by decide +kernel)
theorem dX1_init_4 : decode cX1_init 4 = .ok (.aload_n 0, 1) := by decide +kernel
theorem dX1_init_5 : decode cX1_init 5 = .ok (.iconst 0, 1) := by decide +kernel
theorem dX1_init_6 : decode cX1_init 6 = .ok (.putfield 9, 3) := by decide +kernel
theorem wm_643 : (Jvm.Cond.fieldLink "GrownKinds$Dealer" (9 : Nat) "GrownKinds$Dealer" "leftOver" "I") ∈ gT := gT_in (List.mem_of_getElem? (i := 643) (by decide +kernel)) (by decide +kernel)
theorem dX1_init_9 : decode cX1_init 9 = .ok (.aload_n 0, 1) := by decide +kernel
theorem dX1_init_10 : decode cX1_init 10 = .ok (.iconst 0, 1) := by decide +kernel
theorem dX1_init_11 : decode cX1_init 11 = .ok (.putfield 15, 3) := by decide +kernel
theorem wm_645 : (Jvm.Cond.fieldLink "GrownKinds$Dealer" (15 : Nat) "GrownKinds$Dealer" "kind" "I") ∈ gT := gT_in (List.mem_of_getElem? (i := 645) (by decide +kernel)) (by decide +kernel)
theorem dX1_init_14 : decode cX1_init 14 = .ok (.aload_n 0, 1) := by decide +kernel
theorem dX1_init_15 : decode cX1_init 15 = .ok (.iconst 0, 1) := by decide +kernel
theorem dX1_init_16 : decode cX1_init 16 = .ok (.putfield 18, 3) := by decide +kernel
theorem wm_646 : (Jvm.Cond.fieldLink "GrownKinds$Dealer" (18 : Nat) "GrownKinds$Dealer" "low" "I") ∈ gT := gT_in (List.mem_of_getElem? (i := 646) (by decide +kernel)) (by decide +kernel)
theorem dX1_init_19 : decode cX1_init 19 = .ok (.aload_n 0, 1) := by decide +kernel
theorem dX1_init_20 : decode cX1_init 20 = .ok (.iconst 0, 1) := by decide +kernel
theorem dX1_init_21 : decode cX1_init 21 = .ok (.putfield 21, 3) := by decide +kernel
theorem wm_647 : (Jvm.Cond.fieldLink "GrownKinds$Dealer" (21 : Nat) "GrownKinds$Dealer" "many" "I") ∈ gT := gT_in (List.mem_of_getElem? (i := 647) (by decide +kernel)) (by decide +kernel)
theorem dX1_init_24 : decode cX1_init 24 = .ok (.aload_n 0, 1) := by decide +kernel
theorem dX1_init_25 : decode cX1_init 25 = .ok (.iconst 0, 1) := by decide +kernel
theorem dX1_init_26 : decode cX1_init 26 = .ok (.putfield 24, 3) := by decide +kernel
theorem wm_648 : (Jvm.Cond.fieldLink "GrownKinds$Dealer" (24 : Nat) "GrownKinds$Dealer" "mask" "I") ∈ gT := gT_in (List.mem_of_getElem? (i := 648) (by decide +kernel)) (by decide +kernel)
theorem dX1_init_29 : decode cX1_init 29 = .ok (.aload_n 0, 1) := by decide +kernel
theorem dX1_init_30 : decode cX1_init 30 = .ok (.iconst 0, 1) := by decide +kernel
theorem dX1_init_31 : decode cX1_init 31 = .ok (.putfield 27, 3) := by decide +kernel
theorem wm_649 : (Jvm.Cond.fieldLink "GrownKinds$Dealer" (27 : Nat) "GrownKinds$Dealer" "place" "I") ∈ gT := gT_in (List.mem_of_getElem? (i := 649) (by decide +kernel)) (by decide +kernel)
theorem dX1_init_34 : decode cX1_init 34 = .ok (.aload_n 0, 1) := by decide +kernel
theorem dX1_init_35 : decode cX1_init 35 = .ok (.aload_n 1, 1) := by decide +kernel
theorem dX1_init_36 : decode cX1_init 36 = .ok (.putfield 30, 3) := by decide +kernel
theorem wm_642 : (Jvm.Cond.fieldLink "GrownKinds$Dealer" (30 : Nat) "GrownKinds$Dealer" "census" "LGrownKinds$Census;") ∈ gT := gT_in (List.mem_of_getElem? (i := 642) (by decide +kernel)) (by decide +kernel)
theorem dX1_init_39 : decode cX1_init 39 = .ok (.return_, 1) := by decide +kernel
theorem dX11_init_191 : decode cX11_init 191 = .ok (.putfield 97, 3) := by decide +kernel
theorem wm_677 : (Jvm.Cond.fieldLink "GrownKinds" (97 : Nat) "GrownKinds" "dealer" "LGrownKinds$Dealer;") ∈ gT := gT_in (List.mem_of_getElem? (i := 677) (by decide +kernel)) (by decide +kernel)
theorem dX11_init_194 : decode cX11_init 194 = .ok (.aload_n 0, 1) := by decide +kernel
theorem dX11_init_195 : decode cX11_init 195 = .ok (.bipush 40, 2) := by decide +kernel
theorem dX11_init_197 : decode cX11_init 197 = .ok (.newarray .byte, 2) := by decide +kernel
theorem dX11_init_199 : decode cX11_init 199 = .ok (.putfield 101, 3) := by decide +kernel
theorem wm_678 : (Jvm.Cond.fieldLink "GrownKinds" (101 : Nat) "GrownKinds" "wanted" "[B") ∈ gT := gT_in (List.mem_of_getElem? (i := 678) (by decide +kernel)) (by decide +kernel)
theorem dX11_init_202 : decode cX11_init 202 = .ok (.aload_n 0, 1) := by decide +kernel
theorem dX11_init_203 : decode cX11_init 203 = .ok (.bipush 10, 2) := by decide +kernel
theorem dX11_init_205 : decode cX11_init 205 = .ok (.newarray .int, 2) := by decide +kernel
theorem dX11_init_207 : decode cX11_init 207 = .ok (.putfield 104, 3) := by decide +kernel
theorem wm_679 : (Jvm.Cond.fieldLink "GrownKinds" (104 : Nat) "GrownKinds" "acts" "[I") ∈ gT := gT_in (List.mem_of_getElem? (i := 679) (by decide +kernel)) (by decide +kernel)
theorem dX11_init_210 : decode cX11_init 210 = .ok (.aload_n 0, 1) := by decide +kernel
theorem dX11_init_211 : decode cX11_init 211 = .ok (.iconst 0, 1) := by decide +kernel
theorem dX11_init_212 : decode cX11_init 212 = .ok (.putfield 108, 3) := by decide +kernel
theorem wm_680 : (Jvm.Cond.fieldLink "GrownKinds" (108 : Nat) "GrownKinds" "actCount" "I") ∈ gT := gT_in (List.mem_of_getElem? (i := 680) (by decide +kernel)) (by decide +kernel)
theorem dX11_init_215 : decode cX11_init 215 = .ok (.aload_n 0, 1) := by decide +kernel
theorem dX11_init_216 : decode cX11_init 216 = .ok (.iconst 0, 1) := by decide +kernel
theorem dX11_init_217 : decode cX11_init 217 = .ok (.putfield 111, 3) := by decide +kernel
theorem wm_681 : (Jvm.Cond.fieldLink "GrownKinds" (111 : Nat) "GrownKinds" "stamp" "I") ∈ gT := gT_in (List.mem_of_getElem? (i := 681) (by decide +kernel)) (by decide +kernel)
theorem dX11_init_220 : decode cX11_init 220 = .ok (.aload_n 0, 1) := by decide +kernel
theorem dX11_init_221 : decode cX11_init 221 = .ok (.iconst (-1), 1) := by decide +kernel
theorem dX11_init_222 : decode cX11_init 222 = .ok (.putfield 114, 3) := by decide +kernel
theorem wm_682 : (Jvm.Cond.fieldLink "GrownKinds" (114 : Nat) "GrownKinds" "toldSize" "I") ∈ gT := gT_in (List.mem_of_getElem? (i := 682) (by decide +kernel)) (by decide +kernel)
theorem dX11_init_225 : decode cX11_init 225 = .ok (.aload_n 0, 1) := by decide +kernel
theorem dX11_init_226 : decode cX11_init 226 = .ok (.iconst (-1), 1) := by decide +kernel
theorem dX11_init_227 : decode cX11_init 227 = .ok (.putfield 117, 3) := by decide +kernel
theorem wm_683 : (Jvm.Cond.fieldLink "GrownKinds" (117 : Nat) "GrownKinds" "toldRank" "I") ∈ gT := gT_in (List.mem_of_getElem? (i := 683) (by decide +kernel)) (by decide +kernel)
theorem dX11_init_230 : decode cX11_init 230 = .ok (.return_, 1) := by decide +kernel
set_option maxHeartbeats 4000000 in
set_option maxRecDepth 100000 in
theorem kX2_init_2 (l : Launch) {D : va_G} {cy : Nat → ClassId} {b : Nat} {E : Nat → va_E} (h2 : E 2 = .inr (2, [.int 0, .int 0, .int 0, .int 0, .int 0, .null, .null, .null, .null, .null, .null, .null, .null, .null])) : gV l yX2_init cX2_init 1 1 9 534 D cy b 3 E [.ref (b + 2)] (fun u => u.1 = 12 ∧ (∀ j, j < 3 → j ≠ 2 → u.2 j = E j) ∧ u.2 2 = .inr (2, [.int 0, .int 0, .int 0, .int 0, .int 0, .ref (b + 3), .ref (b + 4), .ref (b + 5), .ref (b + 6), .ref (b + 7), .ref (b + 8), .ref (b + 9), .ref (b + 10), .ref (b + 11)]) ∧ u.2 3 = .inl (cy 1, 24, .inl (fun _ => 0)) ∧ u.2 4 = .inl (cy 1, 24, .inl (fun _ => 0)) ∧ u.2 5 = .inl (cy 1, 24, .inl (fun _ => 0)) ∧ u.2 6 = .inl (cy 1, 24, .inl (fun _ => 0)) ∧ u.2 7 = .inl (cy 1, 24, .inl (fun _ => 0)) ∧ u.2 8 = .inl (cy 1, 30, .inl (fun _ => 0)) ∧ u.2 9 = .inl (cy 1, 300, .inl (fun _ => 0)) ∧ u.2 10 = .inl (cy 1, 30, .inl (fun _ => 0)) ∧ u.2 11 = .inl (cy 1, 54, .inl (fun _ => 0))) := by
  refine gV_of (by decide) (Nat.le_of_ble_eq_true rfl) ?_
  intro p e s m args below meth c S hr hlk hin hsz ls hl hG
  have hx := S.1
  have hb := S.2.1
  have hl : lv_has ls 1 [(0, .ref (b + 2))] := hl
  refine lv_aload_n hx hb dX2_init_0 rfl (lv_at hl 0 rfl) ?_
  refine g_objInit S wm_211 wm_204 wm_205 hl.1 dX2_init_1 ⟨Nat.le_of_ble_eq_true rfl, Nat.le_of_ble_eq_true rfl⟩ ?_
  refine lv_aload_n hx hb dX2_init_4 rfl (lv_at hl 0 rfl) ?_
  refine lv_iconst (v := 0) hx hb dX2_init_5 (by decide) ?_
  refine g_put (fs' := [.int 0, .int 0, .int 0, .int 0, .int 0, .null, .null, .null, .null, .null, .null, .null, .null, .null]) S hG 2 0 h2 cpX2 wm_212 dX2_init_6 rfl (by omega) (by decide) (Nat.le_of_ble_eq_true rfl) rfl rfl rfl (fun H locs hG => ?_)
  refine lv_aload_n hx hb dX2_init_9 rfl (lv_at hl 0 rfl) ?_
  refine lv_iconst (v := 0) hx hb dX2_init_10 (by decide) ?_
  refine g_put (fs' := [.int 0, .int 0, .int 0, .int 0, .int 0, .null, .null, .null, .null, .null, .null, .null, .null, .null]) S hG 2 1 rfl cpX2 wm_218 dX2_init_11 rfl (by omega) (by decide) (Nat.le_of_ble_eq_true rfl) rfl rfl rfl (fun H locs hG => ?_)
  refine lv_aload_n hx hb dX2_init_14 rfl (lv_at hl 0 rfl) ?_
  refine lv_iconst (v := 0) hx hb dX2_init_15 (by decide) ?_
  refine g_put (fs' := [.int 0, .int 0, .int 0, .int 0, .int 0, .null, .null, .null, .null, .null, .null, .null, .null, .null]) S hG 2 2 rfl cpX2 wm_223 dX2_init_16 rfl (by omega) (by decide) (Nat.le_of_ble_eq_true rfl) rfl rfl rfl (fun H locs hG => ?_)
  refine lv_aload_n hx hb dX2_init_19 rfl (lv_at hl 0 rfl) ?_
  refine lv_iconst (v := 0) hx hb dX2_init_20 (by decide) ?_
  refine g_put (fs' := [.int 0, .int 0, .int 0, .int 0, .int 0, .null, .null, .null, .null, .null, .null, .null, .null, .null]) S hG 2 3 rfl cpX2 wm_226 dX2_init_21 rfl (by omega) (by decide) (Nat.le_of_ble_eq_true rfl) rfl rfl rfl (fun H locs hG => ?_)
  refine lv_aload_n hx hb dX2_init_24 rfl (lv_at hl 0 rfl) ?_
  refine lv_iconst (v := 0) hx hb dX2_init_25 (by decide) ?_
  refine g_put (fs' := [.int 0, .int 0, .int 0, .int 0, .int 0, .null, .null, .null, .null, .null, .null, .null, .null, .null]) S hG 2 4 rfl cpX2 wm_231 dX2_init_26 rfl (by omega) (by decide) (Nat.le_of_ble_eq_true rfl) rfl rfl rfl (fun H locs hG => ?_)
  refine lv_aload_n hx hb dX2_init_29 rfl (lv_at hl 0 rfl) ?_
  refine lv_bipush (v := 24) hx hb dX2_init_30 (by decide) ?_
  refine g_newa (atype := .int) (ty := .int) (N := 24) (a0 := (24, .inl (fun _ => 0))) S hG (by omega) 1 rfl rfl (fun h => h) wm_306 (fun _ => rfl) dX2_init_32 (by decide) (by decide) (by decide) ⟨Nat.le_of_ble_eq_true rfl, Nat.le_of_ble_eq_true rfl⟩ (fun H hG => ?_)
  refine W.widen (k := 1) (n := 24) (Nat.le_of_ble_eq_true rfl) (Nat.le_of_ble_eq_true rfl) ?_
  refine g_putF (fs' := [.int 0, .int 0, .int 0, .int 0, .int 0, .ref (b + 3), .null, .null, .null, .null, .null, .null, .null, .null]) S hG (hin rfl) 2 5 rfl cpX2 wm_234 dX2_init_34 rfl (by omega) (by decide) (Nat.le_of_ble_eq_true rfl) rfl rfl rfl rfl (fun H locs hG => ?_)
  refine lv_aload_n hx hb dX2_init_37 rfl (lv_at hl 0 rfl) ?_
  refine lv_bipush (v := 24) hx hb dX2_init_38 (by decide) ?_
  refine g_newa (atype := .int) (ty := .int) (N := 24) (a0 := (24, .inl (fun _ => 0))) S hG (by omega) 1 rfl rfl (fun h => h) wm_306 (fun _ => rfl) dX2_init_40 (by decide) (by decide) (by decide) ⟨Nat.le_of_ble_eq_true rfl, Nat.le_of_ble_eq_true rfl⟩ (fun H hG => ?_)
  refine W.widen (k := 2) (n := 48) (Nat.le_of_ble_eq_true rfl) (Nat.le_of_ble_eq_true rfl) ?_
  refine g_putF (fs' := [.int 0, .int 0, .int 0, .int 0, .int 0, .ref (b + 3), .ref (b + 4), .null, .null, .null, .null, .null, .null, .null]) S hG (hin rfl) 2 6 rfl cpX2 wm_240 dX2_init_42 rfl (by omega) (by decide) (Nat.le_of_ble_eq_true rfl) rfl rfl rfl rfl (fun H locs hG => ?_)
  refine lv_aload_n hx hb dX2_init_45 rfl (lv_at hl 0 rfl) ?_
  refine lv_bipush (v := 24) hx hb dX2_init_46 (by decide) ?_
  refine g_newa (atype := .int) (ty := .int) (N := 24) (a0 := (24, .inl (fun _ => 0))) S hG (by omega) 1 rfl rfl (fun h => h) wm_306 (fun _ => rfl) dX2_init_48 (by decide) (by decide) (by decide) ⟨Nat.le_of_ble_eq_true rfl, Nat.le_of_ble_eq_true rfl⟩ (fun H hG => ?_)
  refine W.widen (k := 3) (n := 72) (Nat.le_of_ble_eq_true rfl) (Nat.le_of_ble_eq_true rfl) ?_
  refine g_putF (fs' := [.int 0, .int 0, .int 0, .int 0, .int 0, .ref (b + 3), .ref (b + 4), .ref (b + 5), .null, .null, .null, .null, .null, .null]) S hG (hin rfl) 2 7 rfl cpX2 wm_247 dX2_init_50 rfl (by omega) (by decide) (Nat.le_of_ble_eq_true rfl) rfl rfl rfl rfl (fun H locs hG => ?_)
  refine lv_aload_n hx hb dX2_init_53 rfl (lv_at hl 0 rfl) ?_
  refine lv_bipush (v := 24) hx hb dX2_init_54 (by decide) ?_
  refine g_newa (atype := .int) (ty := .int) (N := 24) (a0 := (24, .inl (fun _ => 0))) S hG (by omega) 1 rfl rfl (fun h => h) wm_306 (fun _ => rfl) dX2_init_56 (by decide) (by decide) (by decide) ⟨Nat.le_of_ble_eq_true rfl, Nat.le_of_ble_eq_true rfl⟩ (fun H hG => ?_)
  refine W.widen (k := 4) (n := 96) (Nat.le_of_ble_eq_true rfl) (Nat.le_of_ble_eq_true rfl) ?_
  refine g_putF (fs' := [.int 0, .int 0, .int 0, .int 0, .int 0, .ref (b + 3), .ref (b + 4), .ref (b + 5), .ref (b + 6), .null, .null, .null, .null, .null]) S hG (hin rfl) 2 8 rfl cpX2 wm_254 dX2_init_58 rfl (by omega) (by decide) (Nat.le_of_ble_eq_true rfl) rfl rfl rfl rfl (fun H locs hG => ?_)
  refine lv_aload_n hx hb dX2_init_61 rfl (lv_at hl 0 rfl) ?_
  refine lv_bipush (v := 24) hx hb dX2_init_62 (by decide) ?_
  refine g_newa (atype := .int) (ty := .int) (N := 24) (a0 := (24, .inl (fun _ => 0))) S hG (by omega) 1 rfl rfl (fun h => h) wm_306 (fun _ => rfl) dX2_init_64 (by decide) (by decide) (by decide) ⟨Nat.le_of_ble_eq_true rfl, Nat.le_of_ble_eq_true rfl⟩ (fun H hG => ?_)
  refine W.widen (k := 5) (n := 120) (Nat.le_of_ble_eq_true rfl) (Nat.le_of_ble_eq_true rfl) ?_
  refine g_putF (fs' := [.int 0, .int 0, .int 0, .int 0, .int 0, .ref (b + 3), .ref (b + 4), .ref (b + 5), .ref (b + 6), .ref (b + 7), .null, .null, .null, .null]) S hG (hin rfl) 2 9 rfl cpX2 wm_260 dX2_init_66 rfl (by omega) (by decide) (Nat.le_of_ble_eq_true rfl) rfl rfl rfl rfl (fun H locs hG => ?_)
  refine lv_aload_n hx hb dX2_init_69 rfl (lv_at hl 0 rfl) ?_
  refine lv_bipush (v := 30) hx hb dX2_init_70 (by decide) ?_
  refine g_newa (atype := .int) (ty := .int) (N := 30) (a0 := (30, .inl (fun _ => 0))) S hG (by omega) 1 rfl rfl (fun h => h) wm_306 (fun _ => rfl) dX2_init_72 (by decide) (by decide) (by decide) ⟨Nat.le_of_ble_eq_true rfl, Nat.le_of_ble_eq_true rfl⟩ (fun H hG => ?_)
  refine W.widen (k := 6) (n := 150) (Nat.le_of_ble_eq_true rfl) (Nat.le_of_ble_eq_true rfl) ?_
  refine g_putF (fs' := [.int 0, .int 0, .int 0, .int 0, .int 0, .ref (b + 3), .ref (b + 4), .ref (b + 5), .ref (b + 6), .ref (b + 7), .ref (b + 8), .null, .null, .null]) S hG (hin rfl) 2 10 rfl cpX2 wm_262 dX2_init_74 rfl (by omega) (by decide) (Nat.le_of_ble_eq_true rfl) rfl rfl rfl rfl (fun H locs hG => ?_)
  refine lv_aload_n hx hb dX2_init_77 rfl (lv_at hl 0 rfl) ?_
  refine lv_sipush (v := 300) hx hb dX2_init_78 (by decide) ?_
  refine g_newa (atype := .int) (ty := .int) (N := 300) (a0 := (300, .inl (fun _ => 0))) S hG (by omega) 1 rfl rfl (fun h => h) wm_306 (fun _ => rfl) dX2_init_81 (by decide) (by decide) (by decide) ⟨Nat.le_of_ble_eq_true rfl, Nat.le_of_ble_eq_true rfl⟩ (fun H hG => ?_)
  refine W.widen (k := 7) (n := 450) (Nat.le_of_ble_eq_true rfl) (Nat.le_of_ble_eq_true rfl) ?_
  refine g_putF (fs' := [.int 0, .int 0, .int 0, .int 0, .int 0, .ref (b + 3), .ref (b + 4), .ref (b + 5), .ref (b + 6), .ref (b + 7), .ref (b + 8), .ref (b + 9), .null, .null]) S hG (hin rfl) 2 11 rfl cpX2 wm_269 dX2_init_83 rfl (by omega) (by decide) (Nat.le_of_ble_eq_true rfl) rfl rfl rfl rfl (fun H locs hG => ?_)
  refine lv_aload_n hx hb dX2_init_86 rfl (lv_at hl 0 rfl) ?_
  refine lv_bipush (v := 30) hx hb dX2_init_87 (by decide) ?_
  refine g_newa (atype := .int) (ty := .int) (N := 30) (a0 := (30, .inl (fun _ => 0))) S hG (by omega) 1 rfl rfl (fun h => h) wm_306 (fun _ => rfl) dX2_init_89 (by decide) (by decide) (by decide) ⟨Nat.le_of_ble_eq_true rfl, Nat.le_of_ble_eq_true rfl⟩ (fun H hG => ?_)
  refine W.widen (k := 8) (n := 480) (Nat.le_of_ble_eq_true rfl) (Nat.le_of_ble_eq_true rfl) ?_
  refine g_putF (fs' := [.int 0, .int 0, .int 0, .int 0, .int 0, .ref (b + 3), .ref (b + 4), .ref (b + 5), .ref (b + 6), .ref (b + 7), .ref (b + 8), .ref (b + 9), .ref (b + 10), .null]) S hG (hin rfl) 2 12 rfl cpX2 wm_271 dX2_init_91 rfl (by omega) (by decide) (Nat.le_of_ble_eq_true rfl) rfl rfl rfl rfl (fun H locs hG => ?_)
  refine lv_aload_n hx hb dX2_init_94 rfl (lv_at hl 0 rfl) ?_
  refine lv_bipush (v := 54) hx hb dX2_init_95 (by decide) ?_
  refine g_newa (atype := .int) (ty := .int) (N := 54) (a0 := (54, .inl (fun _ => 0))) S hG (by omega) 1 rfl rfl (fun h => h) wm_306 (fun _ => rfl) dX2_init_97 (by decide) (by decide) (by decide) ⟨Nat.le_of_ble_eq_true rfl, Nat.le_of_ble_eq_true rfl⟩ (fun H hG => ?_)
  refine W.widen (k := 9) (n := 534) (Nat.le_of_ble_eq_true rfl) (Nat.le_of_ble_eq_true rfl) ?_
  refine g_putF (fs' := [.int 0, .int 0, .int 0, .int 0, .int 0, .ref (b + 3), .ref (b + 4), .ref (b + 5), .ref (b + 6), .ref (b + 7), .ref (b + 8), .ref (b + 9), .ref (b + 10), .ref (b + 11)]) S hG (hin rfl) 2 13 rfl cpX2 wm_273 dX2_init_99 rfl (by omega) (by decide) (Nat.le_of_ble_eq_true rfl) rfl rfl rfl rfl (fun H locs hG => ?_)
  exact g_vret S hr hlk hG (by omega) dX2_init_102 ⟨Nat.le_of_ble_eq_true rfl, Nat.le_of_ble_eq_true rfl⟩ ⟨rfl, fun j h1 h2 => (upE_n (by omega)).trans ((upE_n (by omega)).trans ((upE_n (by omega)).trans ((upE_n (by omega)).trans ((upE_n (by omega)).trans ((upE_n (by omega)).trans ((upE_n (by omega)).trans ((upE_n (by omega)).trans ((upE_n (by omega)).trans ((upE_n (by omega)).trans ((upE_n (by omega)).trans ((upE_n (by omega)).trans ((upE_n (by omega)).trans ((upE_n (by omega)).trans ((upE_n (by omega)).trans ((upE_n (by omega)).trans ((upE_n (by omega)).trans ((upE_n (by omega)).trans ((upE_n (by omega)).trans ((upE_n (by omega)).trans ((upE_n (by omega)).trans ((upE_n (by omega)).trans ((upE_n (by omega)).trans (rfl))))))))))))))))))))))), rfl, rfl, rfl, rfl, rfl, rfl, rfl, rfl, rfl, rfl⟩
set_option maxHeartbeats 4000000 in
set_option maxRecDepth 100000 in
theorem kX2_init_13 (l : Launch) {D : va_G} {cy : Nat → ClassId} {b : Nat} {E : Nat → va_E} (h13 : E 13 = .inr (2, [.int 0, .int 0, .int 0, .int 0, .int 0, .null, .null, .null, .null, .null, .null, .null, .null, .null])) : gV l yX2_init cX2_init 1 1 9 534 D cy b 14 E [.ref (b + 13)] (fun u => u.1 = 23 ∧ (∀ j, j < 14 → j ≠ 13 → u.2 j = E j) ∧ u.2 13 = .inr (2, [.int 0, .int 0, .int 0, .int 0, .int 0, .ref (b + 14), .ref (b + 15), .ref (b + 16), .ref (b + 17), .ref (b + 18), .ref (b + 19), .ref (b + 20), .ref (b + 21), .ref (b + 22)]) ∧ u.2 14 = .inl (cy 1, 24, .inl (fun _ => 0)) ∧ u.2 15 = .inl (cy 1, 24, .inl (fun _ => 0)) ∧ u.2 16 = .inl (cy 1, 24, .inl (fun _ => 0)) ∧ u.2 17 = .inl (cy 1, 24, .inl (fun _ => 0)) ∧ u.2 18 = .inl (cy 1, 24, .inl (fun _ => 0)) ∧ u.2 19 = .inl (cy 1, 30, .inl (fun _ => 0)) ∧ u.2 20 = .inl (cy 1, 300, .inl (fun _ => 0)) ∧ u.2 21 = .inl (cy 1, 30, .inl (fun _ => 0)) ∧ u.2 22 = .inl (cy 1, 54, .inl (fun _ => 0))) := by
  refine gV_of (by decide) (Nat.le_of_ble_eq_true rfl) ?_
  intro p e s m args below meth c S hr hlk hin hsz ls hl hG
  have hx := S.1
  have hb := S.2.1
  have hl : lv_has ls 1 [(0, .ref (b + 13))] := hl
  refine lv_aload_n hx hb dX2_init_0 rfl (lv_at hl 0 rfl) ?_
  refine g_objInit S wm_211 wm_204 wm_205 hl.1 dX2_init_1 ⟨Nat.le_of_ble_eq_true rfl, Nat.le_of_ble_eq_true rfl⟩ ?_
  refine lv_aload_n hx hb dX2_init_4 rfl (lv_at hl 0 rfl) ?_
  refine lv_iconst (v := 0) hx hb dX2_init_5 (by decide) ?_
  refine g_put (fs' := [.int 0, .int 0, .int 0, .int 0, .int 0, .null, .null, .null, .null, .null, .null, .null, .null, .null]) S hG 13 0 h13 cpX2 wm_212 dX2_init_6 rfl (by omega) (by decide) (Nat.le_of_ble_eq_true rfl) rfl rfl rfl (fun H locs hG => ?_)
  refine lv_aload_n hx hb dX2_init_9 rfl (lv_at hl 0 rfl) ?_
  refine lv_iconst (v := 0) hx hb dX2_init_10 (by decide) ?_
  refine g_put (fs' := [.int 0, .int 0, .int 0, .int 0, .int 0, .null, .null, .null, .null, .null, .null, .null, .null, .null]) S hG 13 1 rfl cpX2 wm_218 dX2_init_11 rfl (by omega) (by decide) (Nat.le_of_ble_eq_true rfl) rfl rfl rfl (fun H locs hG => ?_)
  refine lv_aload_n hx hb dX2_init_14 rfl (lv_at hl 0 rfl) ?_
  refine lv_iconst (v := 0) hx hb dX2_init_15 (by decide) ?_
  refine g_put (fs' := [.int 0, .int 0, .int 0, .int 0, .int 0, .null, .null, .null, .null, .null, .null, .null, .null, .null]) S hG 13 2 rfl cpX2 wm_223 dX2_init_16 rfl (by omega) (by decide) (Nat.le_of_ble_eq_true rfl) rfl rfl rfl (fun H locs hG => ?_)
  refine lv_aload_n hx hb dX2_init_19 rfl (lv_at hl 0 rfl) ?_
  refine lv_iconst (v := 0) hx hb dX2_init_20 (by decide) ?_
  refine g_put (fs' := [.int 0, .int 0, .int 0, .int 0, .int 0, .null, .null, .null, .null, .null, .null, .null, .null, .null]) S hG 13 3 rfl cpX2 wm_226 dX2_init_21 rfl (by omega) (by decide) (Nat.le_of_ble_eq_true rfl) rfl rfl rfl (fun H locs hG => ?_)
  refine lv_aload_n hx hb dX2_init_24 rfl (lv_at hl 0 rfl) ?_
  refine lv_iconst (v := 0) hx hb dX2_init_25 (by decide) ?_
  refine g_put (fs' := [.int 0, .int 0, .int 0, .int 0, .int 0, .null, .null, .null, .null, .null, .null, .null, .null, .null]) S hG 13 4 rfl cpX2 wm_231 dX2_init_26 rfl (by omega) (by decide) (Nat.le_of_ble_eq_true rfl) rfl rfl rfl (fun H locs hG => ?_)
  refine lv_aload_n hx hb dX2_init_29 rfl (lv_at hl 0 rfl) ?_
  refine lv_bipush (v := 24) hx hb dX2_init_30 (by decide) ?_
  refine g_newa (atype := .int) (ty := .int) (N := 24) (a0 := (24, .inl (fun _ => 0))) S hG (by omega) 1 rfl rfl (fun h => h) wm_306 (fun _ => rfl) dX2_init_32 (by decide) (by decide) (by decide) ⟨Nat.le_of_ble_eq_true rfl, Nat.le_of_ble_eq_true rfl⟩ (fun H hG => ?_)
  refine W.widen (k := 1) (n := 24) (Nat.le_of_ble_eq_true rfl) (Nat.le_of_ble_eq_true rfl) ?_
  refine g_putF (fs' := [.int 0, .int 0, .int 0, .int 0, .int 0, .ref (b + 14), .null, .null, .null, .null, .null, .null, .null, .null]) S hG (hin rfl) 13 5 rfl cpX2 wm_234 dX2_init_34 rfl (by omega) (by decide) (Nat.le_of_ble_eq_true rfl) rfl rfl rfl rfl (fun H locs hG => ?_)
  refine lv_aload_n hx hb dX2_init_37 rfl (lv_at hl 0 rfl) ?_
  refine lv_bipush (v := 24) hx hb dX2_init_38 (by decide) ?_
  refine g_newa (atype := .int) (ty := .int) (N := 24) (a0 := (24, .inl (fun _ => 0))) S hG (by omega) 1 rfl rfl (fun h => h) wm_306 (fun _ => rfl) dX2_init_40 (by decide) (by decide) (by decide) ⟨Nat.le_of_ble_eq_true rfl, Nat.le_of_ble_eq_true rfl⟩ (fun H hG => ?_)
  refine W.widen (k := 2) (n := 48) (Nat.le_of_ble_eq_true rfl) (Nat.le_of_ble_eq_true rfl) ?_
  refine g_putF (fs' := [.int 0, .int 0, .int 0, .int 0, .int 0, .ref (b + 14), .ref (b + 15), .null, .null, .null, .null, .null, .null, .null]) S hG (hin rfl) 13 6 rfl cpX2 wm_240 dX2_init_42 rfl (by omega) (by decide) (Nat.le_of_ble_eq_true rfl) rfl rfl rfl rfl (fun H locs hG => ?_)
  refine lv_aload_n hx hb dX2_init_45 rfl (lv_at hl 0 rfl) ?_
  refine lv_bipush (v := 24) hx hb dX2_init_46 (by decide) ?_
  refine g_newa (atype := .int) (ty := .int) (N := 24) (a0 := (24, .inl (fun _ => 0))) S hG (by omega) 1 rfl rfl (fun h => h) wm_306 (fun _ => rfl) dX2_init_48 (by decide) (by decide) (by decide) ⟨Nat.le_of_ble_eq_true rfl, Nat.le_of_ble_eq_true rfl⟩ (fun H hG => ?_)
  refine W.widen (k := 3) (n := 72) (Nat.le_of_ble_eq_true rfl) (Nat.le_of_ble_eq_true rfl) ?_
  refine g_putF (fs' := [.int 0, .int 0, .int 0, .int 0, .int 0, .ref (b + 14), .ref (b + 15), .ref (b + 16), .null, .null, .null, .null, .null, .null]) S hG (hin rfl) 13 7 rfl cpX2 wm_247 dX2_init_50 rfl (by omega) (by decide) (Nat.le_of_ble_eq_true rfl) rfl rfl rfl rfl (fun H locs hG => ?_)
  refine lv_aload_n hx hb dX2_init_53 rfl (lv_at hl 0 rfl) ?_
  refine lv_bipush (v := 24) hx hb dX2_init_54 (by decide) ?_
  refine g_newa (atype := .int) (ty := .int) (N := 24) (a0 := (24, .inl (fun _ => 0))) S hG (by omega) 1 rfl rfl (fun h => h) wm_306 (fun _ => rfl) dX2_init_56 (by decide) (by decide) (by decide) ⟨Nat.le_of_ble_eq_true rfl, Nat.le_of_ble_eq_true rfl⟩ (fun H hG => ?_)
  refine W.widen (k := 4) (n := 96) (Nat.le_of_ble_eq_true rfl) (Nat.le_of_ble_eq_true rfl) ?_
  refine g_putF (fs' := [.int 0, .int 0, .int 0, .int 0, .int 0, .ref (b + 14), .ref (b + 15), .ref (b + 16), .ref (b + 17), .null, .null, .null, .null, .null]) S hG (hin rfl) 13 8 rfl cpX2 wm_254 dX2_init_58 rfl (by omega) (by decide) (Nat.le_of_ble_eq_true rfl) rfl rfl rfl rfl (fun H locs hG => ?_)
  refine lv_aload_n hx hb dX2_init_61 rfl (lv_at hl 0 rfl) ?_
  refine lv_bipush (v := 24) hx hb dX2_init_62 (by decide) ?_
  refine g_newa (atype := .int) (ty := .int) (N := 24) (a0 := (24, .inl (fun _ => 0))) S hG (by omega) 1 rfl rfl (fun h => h) wm_306 (fun _ => rfl) dX2_init_64 (by decide) (by decide) (by decide) ⟨Nat.le_of_ble_eq_true rfl, Nat.le_of_ble_eq_true rfl⟩ (fun H hG => ?_)
  refine W.widen (k := 5) (n := 120) (Nat.le_of_ble_eq_true rfl) (Nat.le_of_ble_eq_true rfl) ?_
  refine g_putF (fs' := [.int 0, .int 0, .int 0, .int 0, .int 0, .ref (b + 14), .ref (b + 15), .ref (b + 16), .ref (b + 17), .ref (b + 18), .null, .null, .null, .null]) S hG (hin rfl) 13 9 rfl cpX2 wm_260 dX2_init_66 rfl (by omega) (by decide) (Nat.le_of_ble_eq_true rfl) rfl rfl rfl rfl (fun H locs hG => ?_)
  refine lv_aload_n hx hb dX2_init_69 rfl (lv_at hl 0 rfl) ?_
  refine lv_bipush (v := 30) hx hb dX2_init_70 (by decide) ?_
  refine g_newa (atype := .int) (ty := .int) (N := 30) (a0 := (30, .inl (fun _ => 0))) S hG (by omega) 1 rfl rfl (fun h => h) wm_306 (fun _ => rfl) dX2_init_72 (by decide) (by decide) (by decide) ⟨Nat.le_of_ble_eq_true rfl, Nat.le_of_ble_eq_true rfl⟩ (fun H hG => ?_)
  refine W.widen (k := 6) (n := 150) (Nat.le_of_ble_eq_true rfl) (Nat.le_of_ble_eq_true rfl) ?_
  refine g_putF (fs' := [.int 0, .int 0, .int 0, .int 0, .int 0, .ref (b + 14), .ref (b + 15), .ref (b + 16), .ref (b + 17), .ref (b + 18), .ref (b + 19), .null, .null, .null]) S hG (hin rfl) 13 10 rfl cpX2 wm_262 dX2_init_74 rfl (by omega) (by decide) (Nat.le_of_ble_eq_true rfl) rfl rfl rfl rfl (fun H locs hG => ?_)
  refine lv_aload_n hx hb dX2_init_77 rfl (lv_at hl 0 rfl) ?_
  refine lv_sipush (v := 300) hx hb dX2_init_78 (by decide) ?_
  refine g_newa (atype := .int) (ty := .int) (N := 300) (a0 := (300, .inl (fun _ => 0))) S hG (by omega) 1 rfl rfl (fun h => h) wm_306 (fun _ => rfl) dX2_init_81 (by decide) (by decide) (by decide) ⟨Nat.le_of_ble_eq_true rfl, Nat.le_of_ble_eq_true rfl⟩ (fun H hG => ?_)
  refine W.widen (k := 7) (n := 450) (Nat.le_of_ble_eq_true rfl) (Nat.le_of_ble_eq_true rfl) ?_
  refine g_putF (fs' := [.int 0, .int 0, .int 0, .int 0, .int 0, .ref (b + 14), .ref (b + 15), .ref (b + 16), .ref (b + 17), .ref (b + 18), .ref (b + 19), .ref (b + 20), .null, .null]) S hG (hin rfl) 13 11 rfl cpX2 wm_269 dX2_init_83 rfl (by omega) (by decide) (Nat.le_of_ble_eq_true rfl) rfl rfl rfl rfl (fun H locs hG => ?_)
  refine lv_aload_n hx hb dX2_init_86 rfl (lv_at hl 0 rfl) ?_
  refine lv_bipush (v := 30) hx hb dX2_init_87 (by decide) ?_
  refine g_newa (atype := .int) (ty := .int) (N := 30) (a0 := (30, .inl (fun _ => 0))) S hG (by omega) 1 rfl rfl (fun h => h) wm_306 (fun _ => rfl) dX2_init_89 (by decide) (by decide) (by decide) ⟨Nat.le_of_ble_eq_true rfl, Nat.le_of_ble_eq_true rfl⟩ (fun H hG => ?_)
  refine W.widen (k := 8) (n := 480) (Nat.le_of_ble_eq_true rfl) (Nat.le_of_ble_eq_true rfl) ?_
  refine g_putF (fs' := [.int 0, .int 0, .int 0, .int 0, .int 0, .ref (b + 14), .ref (b + 15), .ref (b + 16), .ref (b + 17), .ref (b + 18), .ref (b + 19), .ref (b + 20), .ref (b + 21), .null]) S hG (hin rfl) 13 12 rfl cpX2 wm_271 dX2_init_91 rfl (by omega) (by decide) (Nat.le_of_ble_eq_true rfl) rfl rfl rfl rfl (fun H locs hG => ?_)
  refine lv_aload_n hx hb dX2_init_94 rfl (lv_at hl 0 rfl) ?_
  refine lv_bipush (v := 54) hx hb dX2_init_95 (by decide) ?_
  refine g_newa (atype := .int) (ty := .int) (N := 54) (a0 := (54, .inl (fun _ => 0))) S hG (by omega) 1 rfl rfl (fun h => h) wm_306 (fun _ => rfl) dX2_init_97 (by decide) (by decide) (by decide) ⟨Nat.le_of_ble_eq_true rfl, Nat.le_of_ble_eq_true rfl⟩ (fun H hG => ?_)
  refine W.widen (k := 9) (n := 534) (Nat.le_of_ble_eq_true rfl) (Nat.le_of_ble_eq_true rfl) ?_
  refine g_putF (fs' := [.int 0, .int 0, .int 0, .int 0, .int 0, .ref (b + 14), .ref (b + 15), .ref (b + 16), .ref (b + 17), .ref (b + 18), .ref (b + 19), .ref (b + 20), .ref (b + 21), .ref (b + 22)]) S hG (hin rfl) 13 13 rfl cpX2 wm_273 dX2_init_99 rfl (by omega) (by decide) (Nat.le_of_ble_eq_true rfl) rfl rfl rfl rfl (fun H locs hG => ?_)
  exact g_vret S hr hlk hG (by omega) dX2_init_102 ⟨Nat.le_of_ble_eq_true rfl, Nat.le_of_ble_eq_true rfl⟩ ⟨rfl, fun j h1 h2 => (upE_n (by omega)).trans ((upE_n (by omega)).trans ((upE_n (by omega)).trans ((upE_n (by omega)).trans ((upE_n (by omega)).trans ((upE_n (by omega)).trans ((upE_n (by omega)).trans ((upE_n (by omega)).trans ((upE_n (by omega)).trans ((upE_n (by omega)).trans ((upE_n (by omega)).trans ((upE_n (by omega)).trans ((upE_n (by omega)).trans ((upE_n (by omega)).trans ((upE_n (by omega)).trans ((upE_n (by omega)).trans ((upE_n (by omega)).trans ((upE_n (by omega)).trans ((upE_n (by omega)).trans ((upE_n (by omega)).trans ((upE_n (by omega)).trans ((upE_n (by omega)).trans ((upE_n (by omega)).trans (rfl))))))))))))))))))))))), rfl, rfl, rfl, rfl, rfl, rfl, rfl, rfl, rfl, rfl⟩
theorem wI_11_26 : gWI "GrownKinds" 26 yX5_init cX5_init 2 := ⟨wm_309, wm_310, wm_179, wm_311, by decide +kernel, by decide +kernel, rfl⟩
theorem wI_5_53 : gWI "GrownKinds$Reader" 53 yX3_init cX3_init 2 := ⟨wm_315, wm_316, wm_180, wm_317, by decide +kernel, by decide +kernel, rfl⟩
set_option maxHeartbeats 4000000 in
set_option maxRecDepth 100000 in
theorem kX3_init_26 (l : Launch) {D : va_G} {cy : Nat → ClassId} {b : Nat} {E : Nat → va_E} (h26 : E 26 = .inr (3, [.null, .int 0, .int 0, .null, .null, .null, .null, .null, .null])) : gV l yX3_init cX3_init 2 1 6 90 D cy b 27 E [.ref (b + 26), .ref (b + 13)] (fun u => u.1 = 33 ∧ (∀ j, j < 27 → j ≠ 26 → u.2 j = E j) ∧ u.2 26 = .inr (3, [.ref (b + 13), .int 0, .int 0, .ref (b + 27), .ref (b + 28), .ref (b + 29), .ref (b + 30), .ref (b + 31), .ref (b + 32)]) ∧ u.2 27 = .inl (cy 1, 24, .inl (fun _ => 0)) ∧ u.2 28 = .inl (cy 1, 24, .inl (fun _ => 0)) ∧ u.2 29 = .inl (cy 1, 24, .inl (fun _ => 0)) ∧ u.2 30 = .inl (cy 1, 6, .inl (fun _ => 0)) ∧ u.2 31 = .inl (cy 1, 6, .inl (fun _ => 0)) ∧ u.2 32 = .inl (cy 1, 6, .inl (fun _ => 0))) := by
  refine gV_of (by decide) (Nat.le_of_ble_eq_true rfl) ?_
  intro p e s m args below meth c S hr hlk hin hsz ls hl hG
  have hx := S.1
  have hb := S.2.1
  have hl : lv_has ls 2 [(0, .ref (b + 26)), (1, .ref (b + 13))] := hl
  refine lv_aload_n hx hb dX3_init_0 rfl (lv_at hl 0 rfl) ?_
  refine g_objInit S wm_318 wm_204 wm_205 hl.1 dX3_init_1 ⟨Nat.le_of_ble_eq_true rfl, Nat.le_of_ble_eq_true rfl⟩ ?_
  refine lv_aload_n hx hb dX3_init_4 rfl (lv_at hl 0 rfl) ?_
  refine lv_iconst (v := 0) hx hb dX3_init_5 (by decide) ?_
  refine g_put (fs' := [.null, .int 0, .int 0, .null, .null, .null, .null, .null, .null]) S hG 26 1 h26 cpX3 wm_320 dX3_init_6 rfl (by omega) (by decide) (Nat.le_of_ble_eq_true rfl) rfl rfl rfl (fun H locs hG => ?_)
  refine lv_aload_n hx hb dX3_init_9 rfl (lv_at hl 0 rfl) ?_
  refine lv_iconst (v := 0) hx hb dX3_init_10 (by decide) ?_
  refine g_put (fs' := [.null, .int 0, .int 0, .null, .null, .null, .null, .null, .null]) S hG 26 2 rfl cpX3 wm_321 dX3_init_11 rfl (by omega) (by decide) (Nat.le_of_ble_eq_true rfl) rfl rfl rfl (fun H locs hG => ?_)
  refine lv_aload_n hx hb dX3_init_14 rfl (lv_at hl 0 rfl) ?_
  refine lv_bipush (v := 24) hx hb dX3_init_15 (by decide) ?_
  refine g_newa (atype := .int) (ty := .int) (N := 24) (a0 := (24, .inl (fun _ => 0))) S hG (by omega) 1 rfl rfl (fun h => h) wm_306 (fun _ => rfl) dX3_init_17 (by decide) (by decide) (by decide) ⟨Nat.le_of_ble_eq_true rfl, Nat.le_of_ble_eq_true rfl⟩ (fun H hG => ?_)
  refine W.widen (k := 1) (n := 24) (Nat.le_of_ble_eq_true rfl) (Nat.le_of_ble_eq_true rfl) ?_
  refine g_putF (fs' := [.null, .int 0, .int 0, .ref (b + 27), .null, .null, .null, .null, .null]) S hG (hin rfl) 26 3 rfl cpX3 wm_323 dX3_init_19 rfl (by omega) (by decide) (Nat.le_of_ble_eq_true rfl) rfl rfl rfl rfl (fun H locs hG => ?_)
  refine lv_aload_n hx hb dX3_init_22 rfl (lv_at hl 0 rfl) ?_
  refine lv_bipush (v := 24) hx hb dX3_init_23 (by decide) ?_
  refine g_newa (atype := .int) (ty := .int) (N := 24) (a0 := (24, .inl (fun _ => 0))) S hG (by omega) 1 rfl rfl (fun h => h) wm_306 (fun _ => rfl) dX3_init_25 (by decide) (by decide) (by decide) ⟨Nat.le_of_ble_eq_true rfl, Nat.le_of_ble_eq_true rfl⟩ (fun H hG => ?_)
  refine W.widen (k := 2) (n := 48) (Nat.le_of_ble_eq_true rfl) (Nat.le_of_ble_eq_true rfl) ?_
  refine g_putF (fs' := [.null, .int 0, .int 0, .ref (b + 27), .ref (b + 28), .null, .null, .null, .null]) S hG (hin rfl) 26 4 rfl cpX3 wm_324 dX3_init_27 rfl (by omega) (by decide) (Nat.le_of_ble_eq_true rfl) rfl rfl rfl rfl (fun H locs hG => ?_)
  refine lv_aload_n hx hb dX3_init_30 rfl (lv_at hl 0 rfl) ?_
  refine lv_bipush (v := 24) hx hb dX3_init_31 (by decide) ?_
  refine g_newa (atype := .int) (ty := .int) (N := 24) (a0 := (24, .inl (fun _ => 0))) S hG (by omega) 1 rfl rfl (fun h => h) wm_306 (fun _ => rfl) dX3_init_33 (by decide) (by decide) (by decide) ⟨Nat.le_of_ble_eq_true rfl, Nat.le_of_ble_eq_true rfl⟩ (fun H hG => ?_)
  refine W.widen (k := 3) (n := 72) (Nat.le_of_ble_eq_true rfl) (Nat.le_of_ble_eq_true rfl) ?_
  refine g_putF (fs' := [.null, .int 0, .int 0, .ref (b + 27), .ref (b + 28), .ref (b + 29), .null, .null, .null]) S hG (hin rfl) 26 5 rfl cpX3 wm_325 dX3_init_35 rfl (by omega) (by decide) (Nat.le_of_ble_eq_true rfl) rfl rfl rfl rfl (fun H locs hG => ?_)
  refine lv_aload_n hx hb dX3_init_38 rfl (lv_at hl 0 rfl) ?_
  refine lv_bipush (v := 6) hx hb dX3_init_39 (by decide) ?_
  refine g_newa (atype := .int) (ty := .int) (N := 6) (a0 := (6, .inl (fun _ => 0))) S hG (by omega) 1 rfl rfl (fun h => h) wm_306 (fun _ => rfl) dX3_init_41 (by decide) (by decide) (by decide) ⟨Nat.le_of_ble_eq_true rfl, Nat.le_of_ble_eq_true rfl⟩ (fun H hG => ?_)
  refine W.widen (k := 4) (n := 78) (Nat.le_of_ble_eq_true rfl) (Nat.le_of_ble_eq_true rfl) ?_
  refine g_putF (fs' := [.null, .int 0, .int 0, .ref (b + 27), .ref (b + 28), .ref (b + 29), .ref (b + 30), .null, .null]) S hG (hin rfl) 26 6 rfl cpX3 wm_326 dX3_init_43 rfl (by omega) (by decide) (Nat.le_of_ble_eq_true rfl) rfl rfl rfl rfl (fun H locs hG => ?_)
  refine lv_aload_n hx hb dX3_init_46 rfl (lv_at hl 0 rfl) ?_
  refine lv_bipush (v := 6) hx hb dX3_init_47 (by decide) ?_
  refine g_newa (atype := .int) (ty := .int) (N := 6) (a0 := (6, .inl (fun _ => 0))) S hG (by omega) 1 rfl rfl (fun h => h) wm_306 (fun _ => rfl) dX3_init_49 (by decide) (by decide) (by decide) ⟨Nat.le_of_ble_eq_true rfl, Nat.le_of_ble_eq_true rfl⟩ (fun H hG => ?_)
  refine W.widen (k := 5) (n := 84) (Nat.le_of_ble_eq_true rfl) (Nat.le_of_ble_eq_true rfl) ?_
  refine g_putF (fs' := [.null, .int 0, .int 0, .ref (b + 27), .ref (b + 28), .ref (b + 29), .ref (b + 30), .ref (b + 31), .null]) S hG (hin rfl) 26 7 rfl cpX3 wm_329 dX3_init_51 rfl (by omega) (by decide) (Nat.le_of_ble_eq_true rfl) rfl rfl rfl rfl (fun H locs hG => ?_)
  refine lv_aload_n hx hb dX3_init_54 rfl (lv_at hl 0 rfl) ?_
  refine lv_bipush (v := 6) hx hb dX3_init_55 (by decide) ?_
  refine g_newa (atype := .int) (ty := .int) (N := 6) (a0 := (6, .inl (fun _ => 0))) S hG (by omega) 1 rfl rfl (fun h => h) wm_306 (fun _ => rfl) dX3_init_57 (by decide) (by decide) (by decide) ⟨Nat.le_of_ble_eq_true rfl, Nat.le_of_ble_eq_true rfl⟩ (fun H hG => ?_)
  refine W.widen (k := 6) (n := 90) (Nat.le_of_ble_eq_true rfl) (Nat.le_of_ble_eq_true rfl) ?_
  refine g_putF (fs' := [.null, .int 0, .int 0, .ref (b + 27), .ref (b + 28), .ref (b + 29), .ref (b + 30), .ref (b + 31), .ref (b + 32)]) S hG (hin rfl) 26 8 rfl cpX3 wm_331 dX3_init_59 rfl (by omega) (by decide) (Nat.le_of_ble_eq_true rfl) rfl rfl rfl rfl (fun H locs hG => ?_)
  refine lv_aload_n hx hb dX3_init_62 rfl (lv_at hl 0 rfl) ?_
  refine lv_aload_n hx hb dX3_init_63 rfl (lv_at hl 1 rfl) ?_
  refine g_putF (fs' := [.ref (b + 13), .int 0, .int 0, .ref (b + 27), .ref (b + 28), .ref (b + 29), .ref (b + 30), .ref (b + 31), .ref (b + 32)]) S hG (hin rfl) 26 0 rfl cpX3 wm_319 dX3_init_64 rfl (by omega) (by decide) (Nat.le_of_ble_eq_true rfl) rfl rfl rfl rfl (fun H locs hG => ?_)
  exact g_vret S hr hlk hG (by omega) dX3_init_67 ⟨Nat.le_of_ble_eq_true rfl, Nat.le_of_ble_eq_true rfl⟩ ⟨rfl, fun j h1 h2 => (upE_n (by omega)).trans ((upE_n (by omega)).trans ((upE_n (by omega)).trans ((upE_n (by omega)).trans ((upE_n (by omega)).trans ((upE_n (by omega)).trans ((upE_n (by omega)).trans ((upE_n (by omega)).trans ((upE_n (by omega)).trans ((upE_n (by omega)).trans ((upE_n (by omega)).trans ((upE_n (by omega)).trans ((upE_n (by omega)).trans ((upE_n (by omega)).trans ((upE_n (by omega)).trans (rfl))))))))))))))), rfl, rfl, rfl, rfl, rfl, rfl, rfl⟩
set_option maxHeartbeats 4000000 in
set_option maxRecDepth 100000 in
theorem kX5_init_12 (l : Launch) {D : va_G} {cy : Nat → ClassId} {b : Nat} {E : Nat → va_E} (h12 : E 12 = .inr (5, [.null, .int 0, .int 0, .null, .null, .int 0, .int 0, .int 0, .int 0, .int 0, .int 0, .null, .null])) : gV l yX5_init cX5_init 2 2 10 111 D cy b 23 E [.ref (b + 12), .ref (b + 13)] (fun u => u.1 = 33 ∧ (∀ j, j < 23 → j ≠ 12 → u.2 j = E j) ∧ u.2 12 = .inr (5, [.ref (b + 13), .int 0, .int (-1), .ref (b + 26), .ref (b + 23), .int 0, .int 0, .int 3, .int 0, .int 0, .int 0, .ref (b + 24), .ref (b + 25)]) ∧ u.2 23 = .inl (cy 0, 0, .inl (fun _ => 0)) ∧ u.2 24 = .inl (cy 1, 6, .inl (fun _ => 0)) ∧ u.2 25 = .inl (cy 1, 6, .inl (fun _ => 0)) ∧ u.2 26 = .inr (3, [.ref (b + 13), .int 0, .int 0, .ref (b + 27), .ref (b + 28), .ref (b + 29), .ref (b + 30), .ref (b + 31), .ref (b + 32)]) ∧ u.2 27 = .inl (cy 1, 24, .inl (fun _ => 0)) ∧ u.2 28 = .inl (cy 1, 24, .inl (fun _ => 0)) ∧ u.2 29 = .inl (cy 1, 24, .inl (fun _ => 0)) ∧ u.2 30 = .inl (cy 1, 6, .inl (fun _ => 0)) ∧ u.2 31 = .inl (cy 1, 6, .inl (fun _ => 0)) ∧ u.2 32 = .inl (cy 1, 6, .inl (fun _ => 0))) := by
  refine gV_of (by decide) (Nat.le_of_ble_eq_true rfl) ?_
  intro p e s m args below meth c S hr hlk hin hsz ls hl hG
  have hx := S.1
  have hb := S.2.1
  have hl : lv_has ls 2 [(0, .ref (b + 12)), (1, .ref (b + 13))] := hl
  refine lv_aload_n hx hb dX5_init_0 rfl (lv_at hl 0 rfl) ?_
  refine g_objInit S wm_312 wm_204 wm_205 hl.1 dX5_init_1 ⟨Nat.le_of_ble_eq_true rfl, Nat.le_of_ble_eq_true rfl⟩ ?_
  refine lv_aload_n hx hb dX5_init_4 rfl (lv_at hl 0 rfl) ?_
  refine lv_iconst (v := 0) hx hb dX5_init_5 (by decide) ?_
  refine g_put (fs' := [.null, .int 0, .int 0, .null, .null, .int 0, .int 0, .int 0, .int 0, .int 0, .int 0, .null, .null]) S hG 12 1 h12 cpX5 wm_354 dX5_init_6 rfl (by omega) (by decide) (Nat.le_of_ble_eq_true rfl) rfl rfl rfl (fun H locs hG => ?_)
  refine lv_aload_n hx hb dX5_init_9 rfl (lv_at hl 0 rfl) ?_
  refine lv_iconst (v := (-1)) hx hb dX5_init_10 (by decide) ?_
  refine g_put (fs' := [.null, .int 0, .int (-1), .null, .null, .int 0, .int 0, .int 0, .int 0, .int 0, .int 0, .null, .null]) S hG 12 2 rfl cpX5 wm_356 dX5_init_11 rfl (by omega) (by decide) (Nat.le_of_ble_eq_true rfl) rfl rfl rfl (fun H locs hG => ?_)
  refine lv_aload_n hx hb dX5_init_14 rfl (lv_at hl 0 rfl) ?_
  refine lv_iconst (v := 0) hx hb dX5_init_15 (by decide) ?_
  refine g_newa (atype := .byte) (ty := .byte) (N := 0) (a0 := (0, .inl (fun _ => 0))) S hG (by omega) 0 rfl rfl (fun h => h) wm_305 (fun _ => rfl) dX5_init_16 (by decide) (by decide) (by decide) ⟨Nat.le_of_ble_eq_true rfl, Nat.le_of_ble_eq_true rfl⟩ (fun H hG => ?_)
  refine W.widen (k := 1) (n := 0) (Nat.le_of_ble_eq_true rfl) (Nat.le_of_ble_eq_true rfl) ?_
  refine g_put (fs' := [.null, .int 0, .int (-1), .null, .ref (b + 23), .int 0, .int 0, .int 0, .int 0, .int 0, .int 0, .null, .null]) S hG 12 4 rfl cpX5 wm_359 dX5_init_18 rfl (by omega) (by decide) (Nat.le_of_ble_eq_true rfl) rfl rfl rfl (fun H locs hG => ?_)
  refine lv_aload_n hx hb dX5_init_21 rfl (lv_at hl 0 rfl) ?_
  refine lv_iconst (v := 0) hx hb dX5_init_22 (by decide) ?_
  refine g_put (fs' := [.null, .int 0, .int (-1), .null, .ref (b + 23), .int 0, .int 0, .int 0, .int 0, .int 0, .int 0, .null, .null]) S hG 12 5 rfl cpX5 wm_360 dX5_init_23 rfl (by omega) (by decide) (Nat.le_of_ble_eq_true rfl) rfl rfl rfl (fun H locs hG => ?_)
  refine lv_aload_n hx hb dX5_init_26 rfl (lv_at hl 0 rfl) ?_
  refine lv_iconst (v := 0) hx hb dX5_init_27 (by decide) ?_
  refine g_put (fs' := [.null, .int 0, .int (-1), .null, .ref (b + 23), .int 0, .int 0, .int 0, .int 0, .int 0, .int 0, .null, .null]) S hG 12 6 rfl cpX5 wm_361 dX5_init_28 rfl (by omega) (by decide) (Nat.le_of_ble_eq_true rfl) rfl rfl rfl (fun H locs hG => ?_)
  refine lv_aload_n hx hb dX5_init_31 rfl (lv_at hl 0 rfl) ?_
  refine lv_iconst (v := 3) hx hb dX5_init_32 (by decide) ?_
  refine g_put (fs' := [.null, .int 0, .int (-1), .null, .ref (b + 23), .int 0, .int 0, .int 3, .int 0, .int 0, .int 0, .null, .null]) S hG 12 7 rfl cpX5 wm_362 dX5_init_33 rfl (by omega) (by decide) (Nat.le_of_ble_eq_true rfl) rfl rfl rfl (fun H locs hG => ?_)
  refine lv_aload_n hx hb dX5_init_36 rfl (lv_at hl 0 rfl) ?_
  refine lv_iconst (v := 0) hx hb dX5_init_37 (by decide) ?_
  refine g_put (fs' := [.null, .int 0, .int (-1), .null, .ref (b + 23), .int 0, .int 0, .int 3, .int 0, .int 0, .int 0, .null, .null]) S hG 12 8 rfl cpX5 wm_363 dX5_init_38 rfl (by omega) (by decide) (Nat.le_of_ble_eq_true rfl) rfl rfl rfl (fun H locs hG => ?_)
  refine lv_aload_n hx hb dX5_init_41 rfl (lv_at hl 0 rfl) ?_
  refine lv_iconst (v := 0) hx hb dX5_init_42 (by decide) ?_
  refine g_put (fs' := [.null, .int 0, .int (-1), .null, .ref (b + 23), .int 0, .int 0, .int 3, .int 0, .int 0, .int 0, .null, .null]) S hG 12 9 rfl cpX5 wm_364 dX5_init_43 rfl (by omega) (by decide) (Nat.le_of_ble_eq_true rfl) rfl rfl rfl (fun H locs hG => ?_)
  refine lv_aload_n hx hb dX5_init_46 rfl (lv_at hl 0 rfl) ?_
  refine lv_iconst (v := 0) hx hb dX5_init_47 (by decide) ?_
  refine g_put (fs' := [.null, .int 0, .int (-1), .null, .ref (b + 23), .int 0, .int 0, .int 3, .int 0, .int 0, .int 0, .null, .null]) S hG 12 10 rfl cpX5 wm_365 dX5_init_48 rfl (by omega) (by decide) (Nat.le_of_ble_eq_true rfl) rfl rfl rfl (fun H locs hG => ?_)
  refine lv_aload_n hx hb dX5_init_51 rfl (lv_at hl 0 rfl) ?_
  refine lv_bipush (v := 6) hx hb dX5_init_52 (by decide) ?_
  refine g_newa (atype := .int) (ty := .int) (N := 6) (a0 := (6, .inl (fun _ => 0))) S hG (by omega) 1 rfl rfl (fun h => h) wm_306 (fun _ => rfl) dX5_init_54 (by decide) (by decide) (by decide) ⟨Nat.le_of_ble_eq_true rfl, Nat.le_of_ble_eq_true rfl⟩ (fun H hG => ?_)
  refine W.widen (k := 2) (n := 6) (Nat.le_of_ble_eq_true rfl) (Nat.le_of_ble_eq_true rfl) ?_
  refine g_putF (fs' := [.null, .int 0, .int (-1), .null, .ref (b + 23), .int 0, .int 0, .int 3, .int 0, .int 0, .int 0, .ref (b + 24), .null]) S hG (hin rfl) 12 11 rfl cpX5 wm_366 dX5_init_56 rfl (by omega) (by decide) (Nat.le_of_ble_eq_true rfl) rfl rfl rfl rfl (fun H locs hG => ?_)
  refine lv_aload_n hx hb dX5_init_59 rfl (lv_at hl 0 rfl) ?_
  refine lv_bipush (v := 6) hx hb dX5_init_60 (by decide) ?_
  refine g_newa (atype := .int) (ty := .int) (N := 6) (a0 := (6, .inl (fun _ => 0))) S hG (by omega) 1 rfl rfl (fun h => h) wm_306 (fun _ => rfl) dX5_init_62 (by decide) (by decide) (by decide) ⟨Nat.le_of_ble_eq_true rfl, Nat.le_of_ble_eq_true rfl⟩ (fun H hG => ?_)
  refine W.widen (k := 3) (n := 12) (Nat.le_of_ble_eq_true rfl) (Nat.le_of_ble_eq_true rfl) ?_
  refine g_putF (fs' := [.null, .int 0, .int (-1), .null, .ref (b + 23), .int 0, .int 0, .int 3, .int 0, .int 0, .int 0, .ref (b + 24), .ref (b + 25)]) S hG (hin rfl) 12 12 rfl cpX5 wm_367 dX5_init_64 rfl (by omega) (by decide) (Nat.le_of_ble_eq_true rfl) rfl rfl rfl rfl (fun H locs hG => ?_)
  refine lv_aload_n hx hb dX5_init_67 rfl (lv_at hl 0 rfl) ?_
  refine lv_aload_n hx hb dX5_init_68 rfl (lv_at hl 1 rfl) ?_
  refine g_putF (fs' := [.ref (b + 13), .int 0, .int (-1), .null, .ref (b + 23), .int 0, .int 0, .int 3, .int 0, .int 0, .int 0, .ref (b + 24), .ref (b + 25)]) S hG (hin rfl) 12 0 rfl cpX5 wm_352 dX5_init_69 rfl (by omega) (by decide) (Nat.le_of_ble_eq_true rfl) rfl rfl rfl rfl (fun H locs hG => ?_)
  refine lv_aload_n hx hb dX5_init_72 rfl (lv_at hl 0 rfl) ?_
  refine g_new (fs := [.null, .int 0, .int 0, .null, .null, .null, .null, .null, .null]) S hG (by omega) cpX3 wm_313 wm_314 wm_180 dX5_init_73 (by decide +kernel) ⟨Nat.le_of_ble_eq_true rfl, Nat.le_of_ble_eq_true rfl⟩ (fun H hG => ?_)
  refine W.widen (k := 4) (n := 21) (Nat.le_of_ble_eq_true rfl) (Nat.le_of_ble_eq_true rfl) ?_
  refine lv_dup hx hb dX5_init_76 rfl ?_
  refine lv_aload_n hx hb dX5_init_77 rfl (lv_at hl 1 rfl) ?_
  refine g_ctor (As := [.ref (b + 13)]) (rest := [.ref (b + 26), .ref (b + 12)]) S hG (by omega) (kX3_init_26 l rfl) wI_5_53 dX5_init_78 rfl hl.1 (ar := 1) (by decide +kernel) rfl ⟨Nat.le_of_ble_eq_true rfl, Nat.le_of_ble_eq_true rfl, Nat.le_of_ble_eq_true rfl, Nat.le_of_ble_eq_true rfl⟩ (Nat.le_of_ble_eq_true rfl) (fun u_E_1 H locs hp_2 hG => ?_)
  obtain ⟨n_E_1, E_1⟩ := u_E_1
  dsimp only at hp_2 hG
  refine W.widen (k := 10) (n := 111) (Nat.le_of_ble_eq_true rfl) (Nat.le_of_ble_eq_true rfl) ?_
  obtain ⟨rfl, hlo_3, hhlo_3_26, hhlo_3_27, hhlo_3_28, hhlo_3_29, hhlo_3_30, hhlo_3_31, hhlo_3_32⟩ := hp_2
  refine g_putF (fs' := [.ref (b + 13), .int 0, .int (-1), .ref (b + 26), .ref (b + 23), .int 0, .int 0, .int 3, .int 0, .int 0, .int 0, .ref (b + 24), .ref (b + 25)]) S hG (hin rfl) 12 3 ((hlo_3 12 (by decide) (by decide)).trans rfl) cpX5 wm_358 dX5_init_81 rfl (by omega) (by decide) (Nat.le_of_ble_eq_true rfl) rfl rfl rfl rfl (fun H locs hG => ?_)
  exact g_vret S hr hlk hG (by omega) dX5_init_84 ⟨Nat.le_of_ble_eq_true rfl, Nat.le_of_ble_eq_true rfl⟩ ⟨rfl, fun j h1 h2 => (upE_n (by omega)).trans ((hlo_3 j (by omega) (by omega)).trans ((upE_n (by omega)).trans ((upE_n (by omega)).trans ((upE_n (by omega)).trans ((upE_n (by omega)).trans ((upE_n (by omega)).trans ((upE_n (by omega)).trans ((upE_n (by omega)).trans ((upE_n (by omega)).trans ((upE_n (by omega)).trans ((upE_n (by omega)).trans ((upE_n (by omega)).trans ((upE_n (by omega)).trans ((upE_n (by omega)).trans ((upE_n (by omega)).trans ((upE_n (by omega)).trans ((upE_n (by omega)).trans (rfl)))))))))))))))))), rfl, ((hlo_3 23 (by decide) (by decide)).trans rfl), ((hlo_3 24 (by decide) (by decide)).trans rfl), ((hlo_3 25 (by decide) (by decide)).trans rfl), hhlo_3_26, hhlo_3_27, hhlo_3_28, hhlo_3_29, hhlo_3_30, hhlo_3_31, hhlo_3_32⟩
theorem wI_11_41 : gWI "GrownKinds" 41 yX3_init cX3_init 2 := ⟨wm_396, wm_316, wm_180, wm_317, by decide +kernel, by decide +kernel, rfl⟩
set_option maxHeartbeats 4000000 in
set_option maxRecDepth 100000 in
theorem kX3_init_33 (l : Launch) {D : va_G} {cy : Nat → ClassId} {b : Nat} {E : Nat → va_E} (h33 : E 33 = .inr (3, [.null, .int 0, .int 0, .null, .null, .null, .null, .null, .null])) : gV l yX3_init cX3_init 2 1 6 90 D cy b 34 E [.ref (b + 33), .ref (b + 2)] (fun u => u.1 = 40 ∧ (∀ j, j < 34 → j ≠ 33 → u.2 j = E j) ∧ u.2 33 = .inr (3, [.ref (b + 2), .int 0, .int 0, .ref (b + 34), .ref (b + 35), .ref (b + 36), .ref (b + 37), .ref (b + 38), .ref (b + 39)]) ∧ u.2 34 = .inl (cy 1, 24, .inl (fun _ => 0)) ∧ u.2 35 = .inl (cy 1, 24, .inl (fun _ => 0)) ∧ u.2 36 = .inl (cy 1, 24, .inl (fun _ => 0)) ∧ u.2 37 = .inl (cy 1, 6, .inl (fun _ => 0)) ∧ u.2 38 = .inl (cy 1, 6, .inl (fun _ => 0)) ∧ u.2 39 = .inl (cy 1, 6, .inl (fun _ => 0))) := by
  refine gV_of (by decide) (Nat.le_of_ble_eq_true rfl) ?_
  intro p e s m args below meth c S hr hlk hin hsz ls hl hG
  have hx := S.1
  have hb := S.2.1
  have hl : lv_has ls 2 [(0, .ref (b + 33)), (1, .ref (b + 2))] := hl
  refine lv_aload_n hx hb dX3_init_0 rfl (lv_at hl 0 rfl) ?_
  refine g_objInit S wm_318 wm_204 wm_205 hl.1 dX3_init_1 ⟨Nat.le_of_ble_eq_true rfl, Nat.le_of_ble_eq_true rfl⟩ ?_
  refine lv_aload_n hx hb dX3_init_4 rfl (lv_at hl 0 rfl) ?_
  refine lv_iconst (v := 0) hx hb dX3_init_5 (by decide) ?_
  refine g_put (fs' := [.null, .int 0, .int 0, .null, .null, .null, .null, .null, .null]) S hG 33 1 h33 cpX3 wm_320 dX3_init_6 rfl (by omega) (by decide) (Nat.le_of_ble_eq_true rfl) rfl rfl rfl (fun H locs hG => ?_)
  refine lv_aload_n hx hb dX3_init_9 rfl (lv_at hl 0 rfl) ?_
  refine lv_iconst (v := 0) hx hb dX3_init_10 (by decide) ?_
  refine g_put (fs' := [.null, .int 0, .int 0, .null, .null, .null, .null, .null, .null]) S hG 33 2 rfl cpX3 wm_321 dX3_init_11 rfl (by omega) (by decide) (Nat.le_of_ble_eq_true rfl) rfl rfl rfl (fun H locs hG => ?_)
  refine lv_aload_n hx hb dX3_init_14 rfl (lv_at hl 0 rfl) ?_
  refine lv_bipush (v := 24) hx hb dX3_init_15 (by decide) ?_
  refine g_newa (atype := .int) (ty := .int) (N := 24) (a0 := (24, .inl (fun _ => 0))) S hG (by omega) 1 rfl rfl (fun h => h) wm_306 (fun _ => rfl) dX3_init_17 (by decide) (by decide) (by decide) ⟨Nat.le_of_ble_eq_true rfl, Nat.le_of_ble_eq_true rfl⟩ (fun H hG => ?_)
  refine W.widen (k := 1) (n := 24) (Nat.le_of_ble_eq_true rfl) (Nat.le_of_ble_eq_true rfl) ?_
  refine g_putF (fs' := [.null, .int 0, .int 0, .ref (b + 34), .null, .null, .null, .null, .null]) S hG (hin rfl) 33 3 rfl cpX3 wm_323 dX3_init_19 rfl (by omega) (by decide) (Nat.le_of_ble_eq_true rfl) rfl rfl rfl rfl (fun H locs hG => ?_)
  refine lv_aload_n hx hb dX3_init_22 rfl (lv_at hl 0 rfl) ?_
  refine lv_bipush (v := 24) hx hb dX3_init_23 (by decide) ?_
  refine g_newa (atype := .int) (ty := .int) (N := 24) (a0 := (24, .inl (fun _ => 0))) S hG (by omega) 1 rfl rfl (fun h => h) wm_306 (fun _ => rfl) dX3_init_25 (by decide) (by decide) (by decide) ⟨Nat.le_of_ble_eq_true rfl, Nat.le_of_ble_eq_true rfl⟩ (fun H hG => ?_)
  refine W.widen (k := 2) (n := 48) (Nat.le_of_ble_eq_true rfl) (Nat.le_of_ble_eq_true rfl) ?_
  refine g_putF (fs' := [.null, .int 0, .int 0, .ref (b + 34), .ref (b + 35), .null, .null, .null, .null]) S hG (hin rfl) 33 4 rfl cpX3 wm_324 dX3_init_27 rfl (by omega) (by decide) (Nat.le_of_ble_eq_true rfl) rfl rfl rfl rfl (fun H locs hG => ?_)
  refine lv_aload_n hx hb dX3_init_30 rfl (lv_at hl 0 rfl) ?_
  refine lv_bipush (v := 24) hx hb dX3_init_31 (by decide) ?_
  refine g_newa (atype := .int) (ty := .int) (N := 24) (a0 := (24, .inl (fun _ => 0))) S hG (by omega) 1 rfl rfl (fun h => h) wm_306 (fun _ => rfl) dX3_init_33 (by decide) (by decide) (by decide) ⟨Nat.le_of_ble_eq_true rfl, Nat.le_of_ble_eq_true rfl⟩ (fun H hG => ?_)
  refine W.widen (k := 3) (n := 72) (Nat.le_of_ble_eq_true rfl) (Nat.le_of_ble_eq_true rfl) ?_
  refine g_putF (fs' := [.null, .int 0, .int 0, .ref (b + 34), .ref (b + 35), .ref (b + 36), .null, .null, .null]) S hG (hin rfl) 33 5 rfl cpX3 wm_325 dX3_init_35 rfl (by omega) (by decide) (Nat.le_of_ble_eq_true rfl) rfl rfl rfl rfl (fun H locs hG => ?_)
  refine lv_aload_n hx hb dX3_init_38 rfl (lv_at hl 0 rfl) ?_
  refine lv_bipush (v := 6) hx hb dX3_init_39 (by decide) ?_
  refine g_newa (atype := .int) (ty := .int) (N := 6) (a0 := (6, .inl (fun _ => 0))) S hG (by omega) 1 rfl rfl (fun h => h) wm_306 (fun _ => rfl) dX3_init_41 (by decide) (by decide) (by decide) ⟨Nat.le_of_ble_eq_true rfl, Nat.le_of_ble_eq_true rfl⟩ (fun H hG => ?_)
  refine W.widen (k := 4) (n := 78) (Nat.le_of_ble_eq_true rfl) (Nat.le_of_ble_eq_true rfl) ?_
  refine g_putF (fs' := [.null, .int 0, .int 0, .ref (b + 34), .ref (b + 35), .ref (b + 36), .ref (b + 37), .null, .null]) S hG (hin rfl) 33 6 rfl cpX3 wm_326 dX3_init_43 rfl (by omega) (by decide) (Nat.le_of_ble_eq_true rfl) rfl rfl rfl rfl (fun H locs hG => ?_)
  refine lv_aload_n hx hb dX3_init_46 rfl (lv_at hl 0 rfl) ?_
  refine lv_bipush (v := 6) hx hb dX3_init_47 (by decide) ?_
  refine g_newa (atype := .int) (ty := .int) (N := 6) (a0 := (6, .inl (fun _ => 0))) S hG (by omega) 1 rfl rfl (fun h => h) wm_306 (fun _ => rfl) dX3_init_49 (by decide) (by decide) (by decide) ⟨Nat.le_of_ble_eq_true rfl, Nat.le_of_ble_eq_true rfl⟩ (fun H hG => ?_)
  refine W.widen (k := 5) (n := 84) (Nat.le_of_ble_eq_true rfl) (Nat.le_of_ble_eq_true rfl) ?_
  refine g_putF (fs' := [.null, .int 0, .int 0, .ref (b + 34), .ref (b + 35), .ref (b + 36), .ref (b + 37), .ref (b + 38), .null]) S hG (hin rfl) 33 7 rfl cpX3 wm_329 dX3_init_51 rfl (by omega) (by decide) (Nat.le_of_ble_eq_true rfl) rfl rfl rfl rfl (fun H locs hG => ?_)
  refine lv_aload_n hx hb dX3_init_54 rfl (lv_at hl 0 rfl) ?_
  refine lv_bipush (v := 6) hx hb dX3_init_55 (by decide) ?_
  refine g_newa (atype := .int) (ty := .int) (N := 6) (a0 := (6, .inl (fun _ => 0))) S hG (by omega) 1 rfl rfl (fun h => h) wm_306 (fun _ => rfl) dX3_init_57 (by decide) (by decide) (by decide) ⟨Nat.le_of_ble_eq_true rfl, Nat.le_of_ble_eq_true rfl⟩ (fun H hG => ?_)
  refine W.widen (k := 6) (n := 90) (Nat.le_of_ble_eq_true rfl) (Nat.le_of_ble_eq_true rfl) ?_
  refine g_putF (fs' := [.null, .int 0, .int 0, .ref (b + 34), .ref (b + 35), .ref (b + 36), .ref (b + 37), .ref (b + 38), .ref (b + 39)]) S hG (hin rfl) 33 8 rfl cpX3 wm_331 dX3_init_59 rfl (by omega) (by decide) (Nat.le_of_ble_eq_true rfl) rfl rfl rfl rfl (fun H locs hG => ?_)
  refine lv_aload_n hx hb dX3_init_62 rfl (lv_at hl 0 rfl) ?_
  refine lv_aload_n hx hb dX3_init_63 rfl (lv_at hl 1 rfl) ?_
  refine g_putF (fs' := [.ref (b + 2), .int 0, .int 0, .ref (b + 34), .ref (b + 35), .ref (b + 36), .ref (b + 37), .ref (b + 38), .ref (b + 39)]) S hG (hin rfl) 33 0 rfl cpX3 wm_319 dX3_init_64 rfl (by omega) (by decide) (Nat.le_of_ble_eq_true rfl) rfl rfl rfl rfl (fun H locs hG => ?_)
  exact g_vret S hr hlk hG (by omega) dX3_init_67 ⟨Nat.le_of_ble_eq_true rfl, Nat.le_of_ble_eq_true rfl⟩ ⟨rfl, fun j h1 h2 => (upE_n (by omega)).trans ((upE_n (by omega)).trans ((upE_n (by omega)).trans ((upE_n (by omega)).trans ((upE_n (by omega)).trans ((upE_n (by omega)).trans ((upE_n (by omega)).trans ((upE_n (by omega)).trans ((upE_n (by omega)).trans ((upE_n (by omega)).trans ((upE_n (by omega)).trans ((upE_n (by omega)).trans ((upE_n (by omega)).trans ((upE_n (by omega)).trans ((upE_n (by omega)).trans (rfl))))))))))))))), rfl, rfl, rfl, rfl, rfl, rfl, rfl⟩
theorem wI_11_48 : gWI "GrownKinds" 48 yX0_init cX0_init 3 := ⟨wm_399, wm_400, wm_181, wm_401, by decide +kernel, by decide +kernel, rfl⟩
set_option maxHeartbeats 4000000 in
set_option maxRecDepth 100000 in
theorem kX0_init_40 (l : Launch) {D : va_G} {cy : Nat → ClassId} {b : Nat} {E : Nat → va_E} (h40 : E 40 = .inr (0, [.null, .int 0, .null, .null, .null, .null, .null, .null])) : gV l yX0_init cX0_init 3 1 6 28040 D cy b 41 E [.ref (b + 40), .ref (b + 2), .int 1] (fun u => u.1 = 47 ∧ (∀ j, j < 41 → j ≠ 40 → u.2 j = E j) ∧ u.2 40 = .inr (0, [.ref (b + 2), .int (-1), .ref (b + 41), .ref (b + 42), .ref (b + 43), .ref (b + 44), .ref (b + 45), .ref (b + 46)]) ∧ u.2 41 = .inl (cy 2, 1536, .inr (.inl (fun _ => 0))) ∧ u.2 42 = .inl (cy 2, 1536, .inr (.inl (fun _ => 0))) ∧ u.2 43 = .inl (cy 2, 384, .inr (.inl (fun _ => 0))) ∧ u.2 44 = .inl (cy 2, 12288, .inr (.inl (fun _ => 0))) ∧ u.2 45 = .inl (cy 2, 8, .inr (.inl (fun _ => 0))) ∧ u.2 46 = .inl (cy 2, 12288, .inr (.inl (fun _ => 0)))) := by
  refine gV_of (by decide) (Nat.le_of_ble_eq_true rfl) ?_
  intro p e s m args below meth c S hr hlk hin hsz ls hl hG
  have hx := S.1
  have hb := S.2.1
  have hl : lv_has ls 3 [(0, .ref (b + 40)), (1, .ref (b + 2)), (2, .int 1)] := hl
  refine lv_aload_n hx hb dX0_init_0 rfl (lv_at hl 0 rfl) ?_
  refine g_objInit S wm_402 wm_204 wm_205 hl.1 dX0_init_1 ⟨Nat.le_of_ble_eq_true rfl, Nat.le_of_ble_eq_true rfl⟩ ?_
  refine lv_aload_n hx hb dX0_init_4 rfl (lv_at hl 0 rfl) ?_
  refine lv_iconst (v := (-1)) hx hb dX0_init_5 (by decide) ?_
  refine g_put (fs' := [.null, .int (-1), .null, .null, .null, .null, .null, .null]) S hG 40 1 h40 cpX0 wm_404 dX0_init_6 rfl (by omega) (by decide) (Nat.le_of_ble_eq_true rfl) rfl rfl rfl (fun H locs hG => ?_)
  refine lv_aload_n hx hb dX0_init_9 rfl (lv_at hl 0 rfl) ?_
  refine lv_sipush (v := 1536) hx hb dX0_init_10 (by decide) ?_
  refine g_newa (atype := .long) (ty := .long) (N := 1536) (a0 := (1536, .inr (.inl (fun _ => 0)))) S hG (by omega) 2 rfl rfl (fun h => h) wm_428 (fun _ => rfl) dX0_init_13 (by decide) (by decide) (by decide) ⟨Nat.le_of_ble_eq_true rfl, Nat.le_of_ble_eq_true rfl⟩ (fun H hG => ?_)
  refine W.widen (k := 1) (n := 1536) (Nat.le_of_ble_eq_true rfl) (Nat.le_of_ble_eq_true rfl) ?_
  refine g_putF (fs' := [.null, .int (-1), .ref (b + 41), .null, .null, .null, .null, .null]) S hG (hin rfl) 40 2 rfl cpX0 wm_405 dX0_init_15 rfl (by omega) (by decide) (Nat.le_of_ble_eq_true rfl) rfl rfl rfl rfl (fun H locs hG => ?_)
  refine lv_aload_n hx hb dX0_init_18 rfl (lv_at hl 0 rfl) ?_
  refine lv_sipush (v := 1536) hx hb dX0_init_19 (by decide) ?_
  refine g_newa (atype := .long) (ty := .long) (N := 1536) (a0 := (1536, .inr (.inl (fun _ => 0)))) S hG (by omega) 2 rfl rfl (fun h => h) wm_428 (fun _ => rfl) dX0_init_22 (by decide) (by decide) (by decide) ⟨Nat.le_of_ble_eq_true rfl, Nat.le_of_ble_eq_true rfl⟩ (fun H hG => ?_)
  refine W.widen (k := 2) (n := 3072) (Nat.le_of_ble_eq_true rfl) (Nat.le_of_ble_eq_true rfl) ?_
  refine g_putF (fs' := [.null, .int (-1), .ref (b + 41), .ref (b + 42), .null, .null, .null, .null]) S hG (hin rfl) 40 3 rfl cpX0 wm_406 dX0_init_24 rfl (by omega) (by decide) (Nat.le_of_ble_eq_true rfl) rfl rfl rfl rfl (fun H locs hG => ?_)
  refine lv_aload_n hx hb dX0_init_27 rfl (lv_at hl 0 rfl) ?_
  refine lv_sipush (v := 384) hx hb dX0_init_28 (by decide) ?_
  refine g_newa (atype := .long) (ty := .long) (N := 384) (a0 := (384, .inr (.inl (fun _ => 0)))) S hG (by omega) 2 rfl rfl (fun h => h) wm_428 (fun _ => rfl) dX0_init_31 (by decide) (by decide) (by decide) ⟨Nat.le_of_ble_eq_true rfl, Nat.le_of_ble_eq_true rfl⟩ (fun H hG => ?_)
  refine W.widen (k := 3) (n := 3456) (Nat.le_of_ble_eq_true rfl) (Nat.le_of_ble_eq_true rfl) ?_
  refine g_putF (fs' := [.null, .int (-1), .ref (b + 41), .ref (b + 42), .ref (b + 43), .null, .null, .null]) S hG (hin rfl) 40 4 rfl cpX0 wm_407 dX0_init_33 rfl (by omega) (by decide) (Nat.le_of_ble_eq_true rfl) rfl rfl rfl rfl (fun H locs hG => ?_)
  refine lv_aload_n hx hb dX0_init_36 rfl (lv_at hl 0 rfl) ?_
  refine lv_sipush (v := 12288) hx hb dX0_init_37 (by decide) ?_
  refine g_newa (atype := .long) (ty := .long) (N := 12288) (a0 := (12288, .inr (.inl (fun _ => 0)))) S hG (by omega) 2 rfl rfl (fun h => h) wm_428 (fun _ => rfl) dX0_init_40 (by decide) (by decide) (by decide) ⟨Nat.le_of_ble_eq_true rfl, Nat.le_of_ble_eq_true rfl⟩ (fun H hG => ?_)
  refine W.widen (k := 4) (n := 15744) (Nat.le_of_ble_eq_true rfl) (Nat.le_of_ble_eq_true rfl) ?_
  refine g_putF (fs' := [.null, .int (-1), .ref (b + 41), .ref (b + 42), .ref (b + 43), .ref (b + 44), .null, .null]) S hG (hin rfl) 40 5 rfl cpX0 wm_408 dX0_init_42 rfl (by omega) (by decide) (Nat.le_of_ble_eq_true rfl) rfl rfl rfl rfl (fun H locs hG => ?_)
  refine lv_aload_n hx hb dX0_init_45 rfl (lv_at hl 0 rfl) ?_
  refine lv_bipush (v := 8) hx hb dX0_init_46 (by decide) ?_
  refine g_newa (atype := .long) (ty := .long) (N := 8) (a0 := (8, .inr (.inl (fun _ => 0)))) S hG (by omega) 2 rfl rfl (fun h => h) wm_428 (fun _ => rfl) dX0_init_48 (by decide) (by decide) (by decide) ⟨Nat.le_of_ble_eq_true rfl, Nat.le_of_ble_eq_true rfl⟩ (fun H hG => ?_)
  refine W.widen (k := 5) (n := 15752) (Nat.le_of_ble_eq_true rfl) (Nat.le_of_ble_eq_true rfl) ?_
  refine g_putF (fs' := [.null, .int (-1), .ref (b + 41), .ref (b + 42), .ref (b + 43), .ref (b + 44), .ref (b + 45), .null]) S hG (hin rfl) 40 6 rfl cpX0 wm_409 dX0_init_50 rfl (by omega) (by decide) (Nat.le_of_ble_eq_true rfl) rfl rfl rfl rfl (fun H locs hG => ?_)
  refine lv_aload_n hx hb dX0_init_53 rfl (lv_at hl 0 rfl) ?_
  refine lv_aload_n hx hb dX0_init_54 rfl (lv_at hl 1 rfl) ?_
  refine g_putF (fs' := [.ref (b + 2), .int (-1), .ref (b + 41), .ref (b + 42), .ref (b + 43), .ref (b + 44), .ref (b + 45), .null]) S hG (hin rfl) 40 0 rfl cpX0 wm_403 dX0_init_55 rfl (by omega) (by decide) (Nat.le_of_ble_eq_true rfl) rfl rfl rfl rfl (fun H locs hG => ?_)
  refine lv_aload_n hx hb dX0_init_58 rfl (lv_at hl 0 rfl) ?_
  refine lv_iload_n hx hb dX0_init_59 rfl (lv_at hl 2 rfl) ?_
  refine lv_if_eq (tgt := 69) hx hb dX0_init_60 (by decide) (fun c_1 => absurd c_1 (by decide)) (fun c_1 => ?_)
  refine lv_sipush (v := 12288) hx hb dX0_init_63 (by decide) ?_
  refine lv_goto (tgt := 70) hx hb dX0_init_66 (by decide) ?_
  refine g_newa (atype := .long) (ty := .long) (N := 12288) (a0 := (12288, .inr (.inl (fun _ => 0)))) S hG (by omega) 2 rfl rfl (fun h => h) wm_428 (fun _ => rfl) dX0_init_70 (by decide) (by decide) (by decide) ⟨Nat.le_of_ble_eq_true rfl, Nat.le_of_ble_eq_true rfl⟩ (fun H hG => ?_)
  refine W.widen (k := 6) (n := 28040) (Nat.le_of_ble_eq_true rfl) (Nat.le_of_ble_eq_true rfl) ?_
  refine g_putF (fs' := [.ref (b + 2), .int (-1), .ref (b + 41), .ref (b + 42), .ref (b + 43), .ref (b + 44), .ref (b + 45), .ref (b + 46)]) S hG (hin rfl) 40 7 rfl cpX0 wm_410 dX0_init_72 rfl (by omega) (by decide) (Nat.le_of_ble_eq_true rfl) rfl rfl rfl rfl (fun H locs hG => ?_)
  exact g_vret S hr hlk hG (by omega) dX0_init_75 ⟨Nat.le_of_ble_eq_true rfl, Nat.le_of_ble_eq_true rfl⟩ ⟨rfl, fun j h1 h2 => (upE_n (by omega)).trans ((upE_n (by omega)).trans ((upE_n (by omega)).trans ((upE_n (by omega)).trans ((upE_n (by omega)).trans ((upE_n (by omega)).trans ((upE_n (by omega)).trans ((upE_n (by omega)).trans ((upE_n (by omega)).trans ((upE_n (by omega)).trans ((upE_n (by omega)).trans ((upE_n (by omega)).trans ((upE_n (by omega)).trans ((upE_n (by omega)).trans (rfl)))))))))))))), rfl, rfl, rfl, rfl, rfl, rfl, rfl⟩
set_option maxHeartbeats 4000000 in
set_option maxRecDepth 100000 in
theorem kX0_init_48 (l : Launch) {D : va_G} {cy : Nat → ClassId} {b : Nat} {E : Nat → va_E} (h48 : E 48 = .inr (0, [.null, .int 0, .null, .null, .null, .null, .null, .null])) : gV l yX0_init cX0_init 3 1 6 15752 D cy b 49 E [.ref (b + 48), .ref (b + 2), .int 0] (fun u => u.1 = 55 ∧ (∀ j, j < 49 → j ≠ 48 → u.2 j = E j) ∧ u.2 48 = .inr (0, [.ref (b + 2), .int (-1), .ref (b + 49), .ref (b + 50), .ref (b + 51), .ref (b + 52), .ref (b + 53), .ref (b + 54)]) ∧ u.2 49 = .inl (cy 2, 1536, .inr (.inl (fun _ => 0))) ∧ u.2 50 = .inl (cy 2, 1536, .inr (.inl (fun _ => 0))) ∧ u.2 51 = .inl (cy 2, 384, .inr (.inl (fun _ => 0))) ∧ u.2 52 = .inl (cy 2, 12288, .inr (.inl (fun _ => 0))) ∧ u.2 53 = .inl (cy 2, 8, .inr (.inl (fun _ => 0))) ∧ u.2 54 = .inl (cy 2, 0, .inr (.inl (fun _ => 0)))) := by
  refine gV_of (by decide) (Nat.le_of_ble_eq_true rfl) ?_
  intro p e s m args below meth c S hr hlk hin hsz ls hl hG
  have hx := S.1
  have hb := S.2.1
  have hl : lv_has ls 3 [(0, .ref (b + 48)), (1, .ref (b + 2)), (2, .int 0)] := hl
  refine lv_aload_n hx hb dX0_init_0 rfl (lv_at hl 0 rfl) ?_
  refine g_objInit S wm_402 wm_204 wm_205 hl.1 dX0_init_1 ⟨Nat.le_of_ble_eq_true rfl, Nat.le_of_ble_eq_true rfl⟩ ?_
  refine lv_aload_n hx hb dX0_init_4 rfl (lv_at hl 0 rfl) ?_
  refine lv_iconst (v := (-1)) hx hb dX0_init_5 (by decide) ?_
  refine g_put (fs' := [.null, .int (-1), .null, .null, .null, .null, .null, .null]) S hG 48 1 h48 cpX0 wm_404 dX0_init_6 rfl (by omega) (by decide) (Nat.le_of_ble_eq_true rfl) rfl rfl rfl (fun H locs hG => ?_)
  refine lv_aload_n hx hb dX0_init_9 rfl (lv_at hl 0 rfl) ?_
  refine lv_sipush (v := 1536) hx hb dX0_init_10 (by decide) ?_
  refine g_newa (atype := .long) (ty := .long) (N := 1536) (a0 := (1536, .inr (.inl (fun _ => 0)))) S hG (by omega) 2 rfl rfl (fun h => h) wm_428 (fun _ => rfl) dX0_init_13 (by decide) (by decide) (by decide) ⟨Nat.le_of_ble_eq_true rfl, Nat.le_of_ble_eq_true rfl⟩ (fun H hG => ?_)
  refine W.widen (k := 1) (n := 1536) (Nat.le_of_ble_eq_true rfl) (Nat.le_of_ble_eq_true rfl) ?_
  refine g_putF (fs' := [.null, .int (-1), .ref (b + 49), .null, .null, .null, .null, .null]) S hG (hin rfl) 48 2 rfl cpX0 wm_405 dX0_init_15 rfl (by omega) (by decide) (Nat.le_of_ble_eq_true rfl) rfl rfl rfl rfl (fun H locs hG => ?_)
  refine lv_aload_n hx hb dX0_init_18 rfl (lv_at hl 0 rfl) ?_
  refine lv_sipush (v := 1536) hx hb dX0_init_19 (by decide) ?_
  refine g_newa (atype := .long) (ty := .long) (N := 1536) (a0 := (1536, .inr (.inl (fun _ => 0)))) S hG (by omega) 2 rfl rfl (fun h => h) wm_428 (fun _ => rfl) dX0_init_22 (by decide) (by decide) (by decide) ⟨Nat.le_of_ble_eq_true rfl, Nat.le_of_ble_eq_true rfl⟩ (fun H hG => ?_)
  refine W.widen (k := 2) (n := 3072) (Nat.le_of_ble_eq_true rfl) (Nat.le_of_ble_eq_true rfl) ?_
  refine g_putF (fs' := [.null, .int (-1), .ref (b + 49), .ref (b + 50), .null, .null, .null, .null]) S hG (hin rfl) 48 3 rfl cpX0 wm_406 dX0_init_24 rfl (by omega) (by decide) (Nat.le_of_ble_eq_true rfl) rfl rfl rfl rfl (fun H locs hG => ?_)
  refine lv_aload_n hx hb dX0_init_27 rfl (lv_at hl 0 rfl) ?_
  refine lv_sipush (v := 384) hx hb dX0_init_28 (by decide) ?_
  refine g_newa (atype := .long) (ty := .long) (N := 384) (a0 := (384, .inr (.inl (fun _ => 0)))) S hG (by omega) 2 rfl rfl (fun h => h) wm_428 (fun _ => rfl) dX0_init_31 (by decide) (by decide) (by decide) ⟨Nat.le_of_ble_eq_true rfl, Nat.le_of_ble_eq_true rfl⟩ (fun H hG => ?_)
  refine W.widen (k := 3) (n := 3456) (Nat.le_of_ble_eq_true rfl) (Nat.le_of_ble_eq_true rfl) ?_
  refine g_putF (fs' := [.null, .int (-1), .ref (b + 49), .ref (b + 50), .ref (b + 51), .null, .null, .null]) S hG (hin rfl) 48 4 rfl cpX0 wm_407 dX0_init_33 rfl (by omega) (by decide) (Nat.le_of_ble_eq_true rfl) rfl rfl rfl rfl (fun H locs hG => ?_)
  refine lv_aload_n hx hb dX0_init_36 rfl (lv_at hl 0 rfl) ?_
  refine lv_sipush (v := 12288) hx hb dX0_init_37 (by decide) ?_
  refine g_newa (atype := .long) (ty := .long) (N := 12288) (a0 := (12288, .inr (.inl (fun _ => 0)))) S hG (by omega) 2 rfl rfl (fun h => h) wm_428 (fun _ => rfl) dX0_init_40 (by decide) (by decide) (by decide) ⟨Nat.le_of_ble_eq_true rfl, Nat.le_of_ble_eq_true rfl⟩ (fun H hG => ?_)
  refine W.widen (k := 4) (n := 15744) (Nat.le_of_ble_eq_true rfl) (Nat.le_of_ble_eq_true rfl) ?_
  refine g_putF (fs' := [.null, .int (-1), .ref (b + 49), .ref (b + 50), .ref (b + 51), .ref (b + 52), .null, .null]) S hG (hin rfl) 48 5 rfl cpX0 wm_408 dX0_init_42 rfl (by omega) (by decide) (Nat.le_of_ble_eq_true rfl) rfl rfl rfl rfl (fun H locs hG => ?_)
  refine lv_aload_n hx hb dX0_init_45 rfl (lv_at hl 0 rfl) ?_
  refine lv_bipush (v := 8) hx hb dX0_init_46 (by decide) ?_
  refine g_newa (atype := .long) (ty := .long) (N := 8) (a0 := (8, .inr (.inl (fun _ => 0)))) S hG (by omega) 2 rfl rfl (fun h => h) wm_428 (fun _ => rfl) dX0_init_48 (by decide) (by decide) (by decide) ⟨Nat.le_of_ble_eq_true rfl, Nat.le_of_ble_eq_true rfl⟩ (fun H hG => ?_)
  refine W.widen (k := 5) (n := 15752) (Nat.le_of_ble_eq_true rfl) (Nat.le_of_ble_eq_true rfl) ?_
  refine g_putF (fs' := [.null, .int (-1), .ref (b + 49), .ref (b + 50), .ref (b + 51), .ref (b + 52), .ref (b + 53), .null]) S hG (hin rfl) 48 6 rfl cpX0 wm_409 dX0_init_50 rfl (by omega) (by decide) (Nat.le_of_ble_eq_true rfl) rfl rfl rfl rfl (fun H locs hG => ?_)
  refine lv_aload_n hx hb dX0_init_53 rfl (lv_at hl 0 rfl) ?_
  refine lv_aload_n hx hb dX0_init_54 rfl (lv_at hl 1 rfl) ?_
  refine g_putF (fs' := [.ref (b + 2), .int (-1), .ref (b + 49), .ref (b + 50), .ref (b + 51), .ref (b + 52), .ref (b + 53), .null]) S hG (hin rfl) 48 0 rfl cpX0 wm_403 dX0_init_55 rfl (by omega) (by decide) (Nat.le_of_ble_eq_true rfl) rfl rfl rfl rfl (fun H locs hG => ?_)
  refine lv_aload_n hx hb dX0_init_58 rfl (lv_at hl 0 rfl) ?_
  refine lv_iload_n hx hb dX0_init_59 rfl (lv_at hl 2 rfl) ?_
  refine lv_if_eq (tgt := 69) hx hb dX0_init_60 (by decide) (fun c_1 => ?_) (fun c_1 => absurd c_1 (by decide))
  refine lv_iconst (v := 0) hx hb dX0_init_69 (by decide) ?_
  refine g_newa (atype := .long) (ty := .long) (N := 0) (a0 := (0, .inr (.inl (fun _ => 0)))) S hG (by omega) 2 rfl rfl (fun h => h) wm_428 (fun _ => rfl) dX0_init_70 (by decide) (by decide) (by decide) ⟨Nat.le_of_ble_eq_true rfl, Nat.le_of_ble_eq_true rfl⟩ (fun H hG => ?_)
  refine W.widen (k := 6) (n := 15752) (Nat.le_of_ble_eq_true rfl) (Nat.le_of_ble_eq_true rfl) ?_
  refine g_putF (fs' := [.ref (b + 2), .int (-1), .ref (b + 49), .ref (b + 50), .ref (b + 51), .ref (b + 52), .ref (b + 53), .ref (b + 54)]) S hG (hin rfl) 48 7 rfl cpX0 wm_410 dX0_init_72 rfl (by omega) (by decide) (Nat.le_of_ble_eq_true rfl) rfl rfl rfl rfl (fun H locs hG => ?_)
  exact g_vret S hr hlk hG (by omega) dX0_init_75 ⟨Nat.le_of_ble_eq_true rfl, Nat.le_of_ble_eq_true rfl⟩ ⟨rfl, fun j h1 h2 => (upE_n (by omega)).trans ((upE_n (by omega)).trans ((upE_n (by omega)).trans ((upE_n (by omega)).trans ((upE_n (by omega)).trans ((upE_n (by omega)).trans ((upE_n (by omega)).trans ((upE_n (by omega)).trans ((upE_n (by omega)).trans ((upE_n (by omega)).trans ((upE_n (by omega)).trans ((upE_n (by omega)).trans ((upE_n (by omega)).trans ((upE_n (by omega)).trans (rfl)))))))))))))), rfl, rfl, rfl, rfl, rfl, rfl, rfl⟩
theorem wI_11_57 : gWI "GrownKinds" 57 yX4_init cX4_init 3 := ⟨wm_431, wm_432, wm_182, wm_433, by decide +kernel, by decide +kernel, rfl⟩
set_option maxHeartbeats 4000000 in
set_option maxRecDepth 100000 in
theorem kX4_init_47 (l : Launch) {D : va_G} {cy : Nat → ClassId} {b : Nat} {E : Nat → va_E} (h47 : E 47 = .inr (4, [.null, .null, .int 0, .int 0, .long 0, .null, .null, .null])) : gV l yX4_init cX4_init 3 1 3 12912 D cy b 55 E [.ref (b + 47), .ref (b + 2), .ref (b + 48)] (fun u => u.1 = 58 ∧ (∀ j, j < 55 → j ≠ 47 → u.2 j = E j) ∧ u.2 47 = .inr (4, [.ref (b + 2), .ref (b + 48), .int 0, .int 0, .long 0, .ref (b + 55), .ref (b + 56), .ref (b + 57)]) ∧ u.2 55 = .inl (cy 2, 48, .inr (.inl (fun _ => 0))) ∧ u.2 56 = .inl (cy 2, 9984, .inr (.inl (fun _ => 0))) ∧ u.2 57 = .inl (cy 2, 2880, .inr (.inl (fun _ => 0)))) := by
  refine gV_of (by decide) (Nat.le_of_ble_eq_true rfl) ?_
  intro p e s m args below meth c S hr hlk hin hsz ls hl hG
  have hx := S.1
  have hb := S.2.1
  have hl : lv_has ls 3 [(0, .ref (b + 47)), (1, .ref (b + 2)), (2, .ref (b + 48))] := hl
  refine lv_aload_n hx hb dX4_init_0 rfl (lv_at hl 0 rfl) ?_
  refine g_objInit S wm_434 wm_204 wm_205 hl.1 dX4_init_1 ⟨Nat.le_of_ble_eq_true rfl, Nat.le_of_ble_eq_true rfl⟩ ?_
  refine lv_aload_n hx hb dX4_init_4 rfl (lv_at hl 0 rfl) ?_
  refine lv_iconst (v := 0) hx hb dX4_init_5 (by decide) ?_
  refine g_put (fs' := [.null, .null, .int 0, .int 0, .long 0, .null, .null, .null]) S hG 47 2 h47 cpX4 wm_437 dX4_init_6 rfl (by omega) (by decide) (Nat.le_of_ble_eq_true rfl) rfl rfl rfl (fun H locs hG => ?_)
  refine lv_aload_n hx hb dX4_init_9 rfl (lv_at hl 0 rfl) ?_
  refine lv_iconst (v := 0) hx hb dX4_init_10 (by decide) ?_
  refine g_put (fs' := [.null, .null, .int 0, .int 0, .long 0, .null, .null, .null]) S hG 47 3 rfl cpX4 wm_438 dX4_init_11 rfl (by omega) (by decide) (Nat.le_of_ble_eq_true rfl) rfl rfl rfl (fun H locs hG => ?_)
  refine lv_aload_n hx hb dX4_init_14 rfl (lv_at hl 0 rfl) ?_
  refine lv_lconst (v := 0) hx hb dX4_init_15 (by decide) ?_
  refine g_put (fs' := [.null, .null, .int 0, .int 0, .long 0, .null, .null, .null]) S hG 47 4 rfl cpX4 wm_439 dX4_init_16 rfl (by omega) (by decide) (Nat.le_of_ble_eq_true rfl) rfl rfl rfl (fun H locs hG => ?_)
  refine lv_aload_n hx hb dX4_init_19 rfl (lv_at hl 0 rfl) ?_
  refine lv_bipush (v := 48) hx hb dX4_init_20 (by decide) ?_
  refine g_newa (atype := .long) (ty := .long) (N := 48) (a0 := (48, .inr (.inl (fun _ => 0)))) S hG (by omega) 2 rfl rfl (fun h => h) wm_428 (fun _ => rfl) dX4_init_22 (by decide) (by decide) (by decide) ⟨Nat.le_of_ble_eq_true rfl, Nat.le_of_ble_eq_true rfl⟩ (fun H hG => ?_)
  refine W.widen (k := 1) (n := 48) (Nat.le_of_ble_eq_true rfl) (Nat.le_of_ble_eq_true rfl) ?_
  refine g_putF (fs' := [.null, .null, .int 0, .int 0, .long 0, .ref (b + 55), .null, .null]) S hG (hin rfl) 47 5 rfl cpX4 wm_440 dX4_init_24 rfl (by omega) (by decide) (Nat.le_of_ble_eq_true rfl) rfl rfl rfl rfl (fun H locs hG => ?_)
  refine lv_aload_n hx hb dX4_init_27 rfl (lv_at hl 0 rfl) ?_
  refine lv_sipush (v := 9984) hx hb dX4_init_28 (by decide) ?_
  refine g_newa (atype := .long) (ty := .long) (N := 9984) (a0 := (9984, .inr (.inl (fun _ => 0)))) S hG (by omega) 2 rfl rfl (fun h => h) wm_428 (fun _ => rfl) dX4_init_31 (by decide) (by decide) (by decide) ⟨Nat.le_of_ble_eq_true rfl, Nat.le_of_ble_eq_true rfl⟩ (fun H hG => ?_)
  refine W.widen (k := 2) (n := 10032) (Nat.le_of_ble_eq_true rfl) (Nat.le_of_ble_eq_true rfl) ?_
  refine g_putF (fs' := [.null, .null, .int 0, .int 0, .long 0, .ref (b + 55), .ref (b + 56), .null]) S hG (hin rfl) 47 6 rfl cpX4 wm_441 dX4_init_33 rfl (by omega) (by decide) (Nat.le_of_ble_eq_true rfl) rfl rfl rfl rfl (fun H locs hG => ?_)
  refine lv_aload_n hx hb dX4_init_36 rfl (lv_at hl 0 rfl) ?_
  refine lv_sipush (v := 2880) hx hb dX4_init_37 (by decide) ?_
  refine g_newa (atype := .long) (ty := .long) (N := 2880) (a0 := (2880, .inr (.inl (fun _ => 0)))) S hG (by omega) 2 rfl rfl (fun h => h) wm_428 (fun _ => rfl) dX4_init_40 (by decide) (by decide) (by decide) ⟨Nat.le_of_ble_eq_true rfl, Nat.le_of_ble_eq_true rfl⟩ (fun H hG => ?_)
  refine W.widen (k := 3) (n := 12912) (Nat.le_of_ble_eq_true rfl) (Nat.le_of_ble_eq_true rfl) ?_
  refine g_putF (fs' := [.null, .null, .int 0, .int 0, .long 0, .ref (b + 55), .ref (b + 56), .ref (b + 57)]) S hG (hin rfl) 47 7 rfl cpX4 wm_442 dX4_init_42 rfl (by omega) (by decide) (Nat.le_of_ble_eq_true rfl) rfl rfl rfl rfl (fun H locs hG => ?_)
  refine lv_aload_n hx hb dX4_init_45 rfl (lv_at hl 0 rfl) ?_
  refine lv_aload_n hx hb dX4_init_46 rfl (lv_at hl 1 rfl) ?_
  refine g_putF (fs' := [.ref (b + 2), .null, .int 0, .int 0, .long 0, .ref (b + 55), .ref (b + 56), .ref (b + 57)]) S hG (hin rfl) 47 0 rfl cpX4 wm_435 dX4_init_47 rfl (by omega) (by decide) (Nat.le_of_ble_eq_true rfl) rfl rfl rfl rfl (fun H locs hG => ?_)
  refine lv_aload_n hx hb dX4_init_50 rfl (lv_at hl 0 rfl) ?_
  refine lv_aload_n hx hb dX4_init_51 rfl (lv_at hl 2 rfl) ?_
  refine g_putF (fs' := [.ref (b + 2), .ref (b + 48), .int 0, .int 0, .long 0, .ref (b + 55), .ref (b + 56), .ref (b + 57)]) S hG (hin rfl) 47 1 rfl cpX4 wm_436 dX4_init_52 rfl (by omega) (by decide) (Nat.le_of_ble_eq_true rfl) rfl rfl rfl rfl (fun H locs hG => ?_)
  exact g_vret S hr hlk hG (by omega) dX4_init_55 ⟨Nat.le_of_ble_eq_true rfl, Nat.le_of_ble_eq_true rfl⟩ ⟨rfl, fun j h1 h2 => (upE_n (by omega)).trans ((upE_n (by omega)).trans ((upE_n (by omega)).trans ((upE_n (by omega)).trans ((upE_n (by omega)).trans ((upE_n (by omega)).trans ((upE_n (by omega)).trans ((upE_n (by omega)).trans ((upE_n (by omega)).trans ((upE_n (by omega)).trans ((upE_n (by omega)).trans (rfl))))))))))), rfl, rfl, rfl, rfl⟩
theorem wI_11_68 : gWI "GrownKinds" 68 yX8_init cX8_init 3 := ⟨wm_464, wm_465, wm_184, wm_466, by decide +kernel, by decide +kernel, rfl⟩
set_option maxHeartbeats 4000000 in
set_option maxRecDepth 100000 in
theorem kX8_init_59 (l : Launch) {D : va_G} {cy : Nat → ClassId} {b : Nat} {E : Nat → va_E} (h59 : E 59 = .inr (8, [.null, .null, .int 0, .null, .null, .int 0])) : gV l yX8_init cX8_init 3 1 2 200 D cy b 60 E [.ref (b + 59), .ref (b + 2), .ref (b + 40)] (fun u => u.1 = 62 ∧ (∀ j, j < 60 → j ≠ 59 → u.2 j = E j) ∧ u.2 59 = .inr (8, [.ref (b + 2), .ref (b + 40), .int 0, .ref (b + 60), .ref (b + 61), .int 0]) ∧ u.2 60 = .inl (cy 1, 8, .inl (fun _ => 0)) ∧ u.2 61 = .inl (cy 4, 192, .inr (.inr (.inr (.inr (fun _ => none)))))) := by
  refine gV_of (by decide) (Nat.le_of_ble_eq_true rfl) ?_
  intro p e s m args below meth c S hr hlk hin hsz ls hl hG
  have hx := S.1
  have hb := S.2.1
  have hl : lv_has ls 3 [(0, .ref (b + 59)), (1, .ref (b + 2)), (2, .ref (b + 40))] := hl
  refine lv_aload_n hx hb dX8_init_0 rfl (lv_at hl 0 rfl) ?_
  refine g_objInit S wm_467 wm_204 wm_205 hl.1 dX8_init_1 ⟨Nat.le_of_ble_eq_true rfl, Nat.le_of_ble_eq_true rfl⟩ ?_
  refine lv_aload_n hx hb dX8_init_4 rfl (lv_at hl 0 rfl) ?_
  refine lv_iconst (v := 0) hx hb dX8_init_5 (by decide) ?_
  refine g_put (fs' := [.null, .null, .int 0, .null, .null, .int 0]) S hG 59 2 h59 cpX8 wm_472 dX8_init_6 rfl (by omega) (by decide) (Nat.le_of_ble_eq_true rfl) rfl rfl rfl (fun H locs hG => ?_)
  refine lv_aload_n hx hb dX8_init_9 rfl (lv_at hl 0 rfl) ?_
  refine lv_bipush (v := 8) hx hb dX8_init_10 (by decide) ?_
  refine g_newa (atype := .int) (ty := .int) (N := 8) (a0 := (8, .inl (fun _ => 0))) S hG (by omega) 1 rfl rfl (fun h => h) wm_306 (fun _ => rfl) dX8_init_12 (by decide) (by decide) (by decide) ⟨Nat.le_of_ble_eq_true rfl, Nat.le_of_ble_eq_true rfl⟩ (fun H hG => ?_)
  refine W.widen (k := 1) (n := 8) (Nat.le_of_ble_eq_true rfl) (Nat.le_of_ble_eq_true rfl) ?_
  refine g_putF (fs' := [.null, .null, .int 0, .ref (b + 60), .null, .int 0]) S hG (hin rfl) 59 3 rfl cpX8 wm_474 dX8_init_14 rfl (by omega) (by decide) (Nat.le_of_ble_eq_true rfl) rfl rfl rfl rfl (fun H locs hG => ?_)
  refine lv_aload_n hx hb dX8_init_17 rfl (lv_at hl 0 rfl) ?_
  refine lv_sipush (v := 192) hx hb dX8_init_18 (by decide) ?_
  refine g_newq (N := 192) S hG (by omega) wm_468 dX8_init_21 (by decide) (by decide) (by decide) ⟨Nat.le_of_ble_eq_true rfl, Nat.le_of_ble_eq_true rfl⟩ (fun H hG => ?_)
  refine W.widen (k := 2) (n := 200) (Nat.le_of_ble_eq_true rfl) (Nat.le_of_ble_eq_true rfl) ?_
  refine g_putF (fs' := [.null, .null, .int 0, .ref (b + 60), .ref (b + 61), .int 0]) S hG (hin rfl) 59 4 rfl cpX8 wm_476 dX8_init_24 rfl (by omega) (by decide) (Nat.le_of_ble_eq_true rfl) rfl rfl rfl rfl (fun H locs hG => ?_)
  refine lv_aload_n hx hb dX8_init_27 rfl (lv_at hl 0 rfl) ?_
  refine lv_iconst (v := 0) hx hb dX8_init_28 (by decide) ?_
  refine g_put (fs' := [.null, .null, .int 0, .ref (b + 60), .ref (b + 61), .int 0]) S hG 59 5 rfl cpX8 wm_477 dX8_init_29 rfl (by omega) (by decide) (Nat.le_of_ble_eq_true rfl) rfl rfl rfl (fun H locs hG => ?_)
  refine lv_aload_n hx hb dX8_init_32 rfl (lv_at hl 0 rfl) ?_
  refine lv_aload_n hx hb dX8_init_33 rfl (lv_at hl 1 rfl) ?_
  refine g_putF (fs' := [.ref (b + 2), .null, .int 0, .ref (b + 60), .ref (b + 61), .int 0]) S hG (hin rfl) 59 0 rfl cpX8 wm_470 dX8_init_34 rfl (by omega) (by decide) (Nat.le_of_ble_eq_true rfl) rfl rfl rfl rfl (fun H locs hG => ?_)
  refine lv_aload_n hx hb dX8_init_37 rfl (lv_at hl 0 rfl) ?_
  refine lv_aload_n hx hb dX8_init_38 rfl (lv_at hl 2 rfl) ?_
  refine g_putF (fs' := [.ref (b + 2), .ref (b + 40), .int 0, .ref (b + 60), .ref (b + 61), .int 0]) S hG (hin rfl) 59 1 rfl cpX8 wm_471 dX8_init_39 rfl (by omega) (by decide) (Nat.le_of_ble_eq_true rfl) rfl rfl rfl rfl (fun H locs hG => ?_)
  exact g_vret S hr hlk hG (by omega) dX8_init_42 ⟨Nat.le_of_ble_eq_true rfl, Nat.le_of_ble_eq_true rfl⟩ ⟨rfl, fun j h1 h2 => (upE_n (by omega)).trans ((upE_n (by omega)).trans ((upE_n (by omega)).trans ((upE_n (by omega)).trans ((upE_n (by omega)).trans ((upE_n (by omega)).trans ((upE_n (by omega)).trans ((upE_n (by omega)).trans (rfl)))))))), rfl, rfl, rfl⟩
theorem wI_11_69 : gWI "GrownKinds" 69 yX9_init cX9_init 4 := ⟨wm_491, wm_492, wm_183, wm_493, by decide +kernel, by decide +kernel, rfl⟩
set_option maxHeartbeats 4000000 in
set_option maxRecDepth 100000 in
theorem kX9_init_58 (l : Launch) {D : va_G} {cy : Nat → ClassId} {b : Nat} {E : Nat → va_E} (h58 : E 58 = .inr (9, [.null, .null, .null, .null, .int 0, .int 0, .int 0, .int 0, .int 0, .null, .int 0, .null, .int 0, .int 0, .int 0])) : gV l yX9_init cX9_init 4 1 3 1382 D cy b 62 E [.ref (b + 58), .ref (b + 2), .ref (b + 40), .ref (b + 59)] (fun u => u.1 = 65 ∧ (∀ j, j < 62 → j ≠ 58 → u.2 j = E j) ∧ u.2 58 = .inr (9, [.ref (b + 2), .ref (b + 40), .ref (b + 59), .ref (b + 62), .int 0, .int 0, .int 1, .int 0, .int 0, .ref (b + 63), .int 0, .ref (b + 64), .int 0, .int (-1), .int (-1)]) ∧ u.2 62 = .inl (cy 0, 256, .inl (fun _ => 0)) ∧ u.2 63 = .inl (cy 1, 26, .inl (fun _ => 0)) ∧ u.2 64 = .inl (cy 1, 1100, .inl (fun _ => 0))) := by
  refine gV_of (by decide) (Nat.le_of_ble_eq_true rfl) ?_
  intro p e s m args below meth c S hr hlk hin hsz ls hl hG
  have hx := S.1
  have hb := S.2.1
  have hl : lv_has ls 4 [(0, .ref (b + 58)), (1, .ref (b + 2)), (2, .ref (b + 40)), (3, .ref (b + 59))] := hl
  refine lv_aload_n hx hb dX9_init_0 rfl (lv_at hl 0 rfl) ?_
  refine g_objInit S wm_494 wm_204 wm_205 hl.1 dX9_init_1 ⟨Nat.le_of_ble_eq_true rfl, Nat.le_of_ble_eq_true rfl⟩ ?_
  refine lv_aload_n hx hb dX9_init_4 rfl (lv_at hl 0 rfl) ?_
  refine lv_sipush (v := 256) hx hb dX9_init_5 (by decide) ?_
  refine g_newa (atype := .byte) (ty := .byte) (N := 256) (a0 := (256, .inl (fun _ => 0))) S hG (by omega) 0 rfl rfl (fun h => h) wm_305 (fun _ => rfl) dX9_init_8 (by decide) (by decide) (by decide) ⟨Nat.le_of_ble_eq_true rfl, Nat.le_of_ble_eq_true rfl⟩ (fun H hG => ?_)
  refine W.widen (k := 1) (n := 256) (Nat.le_of_ble_eq_true rfl) (Nat.le_of_ble_eq_true rfl) ?_
  refine g_put (fs' := [.null, .null, .null, .ref (b + 62), .int 0, .int 0, .int 0, .int 0, .int 0, .null, .int 0, .null, .int 0, .int 0, .int 0]) S hG 58 3 h58 cpX9 wm_498 dX9_init_10 rfl (by omega) (by decide) (Nat.le_of_ble_eq_true rfl) rfl rfl rfl (fun H locs hG => ?_)
  refine lv_aload_n hx hb dX9_init_13 rfl (lv_at hl 0 rfl) ?_
  refine lv_iconst (v := 0) hx hb dX9_init_14 (by decide) ?_
  refine g_put (fs' := [.null, .null, .null, .ref (b + 62), .int 0, .int 0, .int 0, .int 0, .int 0, .null, .int 0, .null, .int 0, .int 0, .int 0]) S hG 58 4 rfl cpX9 wm_500 dX9_init_15 rfl (by omega) (by decide) (Nat.le_of_ble_eq_true rfl) rfl rfl rfl (fun H locs hG => ?_)
  refine lv_aload_n hx hb dX9_init_18 rfl (lv_at hl 0 rfl) ?_
  refine lv_iconst (v := 0) hx hb dX9_init_19 (by decide) ?_
  refine g_put (fs' := [.null, .null, .null, .ref (b + 62), .int 0, .int 0, .int 0, .int 0, .int 0, .null, .int 0, .null, .int 0, .int 0, .int 0]) S hG 58 5 rfl cpX9 wm_502 dX9_init_20 rfl (by omega) (by decide) (Nat.le_of_ble_eq_true rfl) rfl rfl rfl (fun H locs hG => ?_)
  refine lv_aload_n hx hb dX9_init_23 rfl (lv_at hl 0 rfl) ?_
  refine lv_iconst (v := 1) hx hb dX9_init_24 (by decide) ?_
  refine g_put (fs' := [.null, .null, .null, .ref (b + 62), .int 0, .int 0, .int 1, .int 0, .int 0, .null, .int 0, .null, .int 0, .int 0, .int 0]) S hG 58 6 rfl cpX9 wm_505 dX9_init_25 rfl (by omega) (by decide) (Nat.le_of_ble_eq_true rfl) rfl rfl rfl (fun H locs hG => ?_)
  refine lv_aload_n hx hb dX9_init_28 rfl (lv_at hl 0 rfl) ?_
  refine lv_iconst (v := 0) hx hb dX9_init_29 (by decide) ?_
  refine g_put (fs' := [.null, .null, .null, .ref (b + 62), .int 0, .int 0, .int 1, .int 0, .int 0, .null, .int 0, .null, .int 0, .int 0, .int 0]) S hG 58 7 rfl cpX9 wm_508 dX9_init_30 rfl (by omega) (by decide) (Nat.le_of_ble_eq_true rfl) rfl rfl rfl (fun H locs hG => ?_)
  refine lv_aload_n hx hb dX9_init_33 rfl (lv_at hl 0 rfl) ?_
  refine lv_iconst (v := 0) hx hb dX9_init_34 (by decide) ?_
  refine g_put (fs' := [.null, .null, .null, .ref (b + 62), .int 0, .int 0, .int 1, .int 0, .int 0, .null, .int 0, .null, .int 0, .int 0, .int 0]) S hG 58 8 rfl cpX9 wm_510 dX9_init_35 rfl (by omega) (by decide) (Nat.le_of_ble_eq_true rfl) rfl rfl rfl (fun H locs hG => ?_)
  refine lv_aload_n hx hb dX9_init_38 rfl (lv_at hl 0 rfl) ?_
  refine lv_bipush (v := 26) hx hb dX9_init_39 (by decide) ?_
  refine g_newa (atype := .int) (ty := .int) (N := 26) (a0 := (26, .inl (fun _ => 0))) S hG (by omega) 1 rfl rfl (fun h => h) wm_306 (fun _ => rfl) dX9_init_41 (by decide) (by decide) (by decide) ⟨Nat.le_of_ble_eq_true rfl, Nat.le_of_ble_eq_true rfl⟩ (fun H hG => ?_)
  refine W.widen (k := 2) (n := 282) (Nat.le_of_ble_eq_true rfl) (Nat.le_of_ble_eq_true rfl) ?_
  refine g_putF (fs' := [.null, .null, .null, .ref (b + 62), .int 0, .int 0, .int 1, .int 0, .int 0, .ref (b + 63), .int 0, .null, .int 0, .int 0, .int 0]) S hG (hin rfl) 58 9 rfl cpX9 wm_512 dX9_init_43 rfl (by omega) (by decide) (Nat.le_of_ble_eq_true rfl) rfl rfl rfl rfl (fun H locs hG => ?_)
  refine lv_aload_n hx hb dX9_init_46 rfl (lv_at hl 0 rfl) ?_
  refine lv_iconst (v := 0) hx hb dX9_init_47 (by decide) ?_
  refine g_put (fs' := [.null, .null, .null, .ref (b + 62), .int 0, .int 0, .int 1, .int 0, .int 0, .ref (b + 63), .int 0, .null, .int 0, .int 0, .int 0]) S hG 58 10 rfl cpX9 wm_515 dX9_init_48 rfl (by omega) (by decide) (Nat.le_of_ble_eq_true rfl) rfl rfl rfl (fun H locs hG => ?_)
  refine lv_aload_n hx hb dX9_init_51 rfl (lv_at hl 0 rfl) ?_
  refine lv_sipush (v := 1100) hx hb dX9_init_52 (by decide) ?_
  refine g_newa (atype := .int) (ty := .int) (N := 1100) (a0 := (1100, .inl (fun _ => 0))) S hG (by omega) 1 rfl rfl (fun h => h) wm_306 (fun _ => rfl) dX9_init_55 (by decide) (by decide) (by decide) ⟨Nat.le_of_ble_eq_true rfl, Nat.le_of_ble_eq_true rfl⟩ (fun H hG => ?_)
  refine W.widen (k := 3) (n := 1382) (Nat.le_of_ble_eq_true rfl) (Nat.le_of_ble_eq_true rfl) ?_
  refine g_putF (fs' := [.null, .null, .null, .ref (b + 62), .int 0, .int 0, .int 1, .int 0, .int 0, .ref (b + 63), .int 0, .ref (b + 64), .int 0, .int 0, .int 0]) S hG (hin rfl) 58 11 rfl cpX9 wm_516 dX9_init_57 rfl (by omega) (by decide) (Nat.le_of_ble_eq_true rfl) rfl rfl rfl rfl (fun H locs hG => ?_)
  refine lv_aload_n hx hb dX9_init_60 rfl (lv_at hl 0 rfl) ?_
  refine lv_iconst (v := 0) hx hb dX9_init_61 (by decide) ?_
  refine g_put (fs' := [.null, .null, .null, .ref (b + 62), .int 0, .int 0, .int 1, .int 0, .int 0, .ref (b + 63), .int 0, .ref (b + 64), .int 0, .int 0, .int 0]) S hG 58 12 rfl cpX9 wm_517 dX9_init_62 rfl (by omega) (by decide) (Nat.le_of_ble_eq_true rfl) rfl rfl rfl (fun H locs hG => ?_)
  refine lv_aload_n hx hb dX9_init_65 rfl (lv_at hl 0 rfl) ?_
  refine lv_iconst (v := (-1)) hx hb dX9_init_66 (by decide) ?_
  refine g_put (fs' := [.null, .null, .null, .ref (b + 62), .int 0, .int 0, .int 1, .int 0, .int 0, .ref (b + 63), .int 0, .ref (b + 64), .int 0, .int (-1), .int 0]) S hG 58 13 rfl cpX9 wm_518 dX9_init_67 rfl (by omega) (by decide) (Nat.le_of_ble_eq_true rfl) rfl rfl rfl (fun H locs hG => ?_)
  refine lv_aload_n hx hb dX9_init_70 rfl (lv_at hl 0 rfl) ?_
  refine lv_iconst (v := (-1)) hx hb dX9_init_71 (by decide) ?_
  refine g_put (fs' := [.null, .null, .null, .ref (b + 62), .int 0, .int 0, .int 1, .int 0, .int 0, .ref (b + 63), .int 0, .ref (b + 64), .int 0, .int (-1), .int (-1)]) S hG 58 14 rfl cpX9 wm_519 dX9_init_72 rfl (by omega) (by decide) (Nat.le_of_ble_eq_true rfl) rfl rfl rfl (fun H locs hG => ?_)
  refine lv_aload_n hx hb dX9_init_75 rfl (lv_at hl 0 rfl) ?_
  refine lv_aload_n hx hb dX9_init_76 rfl (lv_at hl 1 rfl) ?_
  refine g_putF (fs' := [.ref (b + 2), .null, .null, .ref (b + 62), .int 0, .int 0, .int 1, .int 0, .int 0, .ref (b + 63), .int 0, .ref (b + 64), .int 0, .int (-1), .int (-1)]) S hG (hin rfl) 58 0 rfl cpX9 wm_495 dX9_init_77 rfl (by omega) (by decide) (Nat.le_of_ble_eq_true rfl) rfl rfl rfl rfl (fun H locs hG => ?_)
  refine lv_aload_n hx hb dX9_init_80 rfl (lv_at hl 0 rfl) ?_
  refine lv_aload_n hx hb dX9_init_81 rfl (lv_at hl 2 rfl) ?_
  refine g_putF (fs' := [.ref (b + 2), .ref (b + 40), .null, .ref (b + 62), .int 0, .int 0, .int 1, .int 0, .int 0, .ref (b + 63), .int 0, .ref (b + 64), .int 0, .int (-1), .int (-1)]) S hG (hin rfl) 58 1 rfl cpX9 wm_496 dX9_init_82 rfl (by omega) (by decide) (Nat.le_of_ble_eq_true rfl) rfl rfl rfl rfl (fun H locs hG => ?_)
  refine lv_aload_n hx hb dX9_init_85 rfl (lv_at hl 0 rfl) ?_
  refine lv_aload_n hx hb dX9_init_86 rfl (lv_at hl 3 rfl) ?_
  refine g_putF (fs' := [.ref (b + 2), .ref (b + 40), .ref (b + 59), .ref (b + 62), .int 0, .int 0, .int 1, .int 0, .int 0, .ref (b + 63), .int 0, .ref (b + 64), .int 0, .int (-1), .int (-1)]) S hG (hin rfl) 58 2 rfl cpX9 wm_497 dX9_init_87 rfl (by omega) (by decide) (Nat.le_of_ble_eq_true rfl) rfl rfl rfl rfl (fun H locs hG => ?_)
  exact g_vret S hr hlk hG (by omega) dX9_init_90 ⟨Nat.le_of_ble_eq_true rfl, Nat.le_of_ble_eq_true rfl⟩ ⟨rfl, fun j h1 h2 => (upE_n (by omega)).trans ((upE_n (by omega)).trans ((upE_n (by omega)).trans ((upE_n (by omega)).trans ((upE_n (by omega)).trans ((upE_n (by omega)).trans ((upE_n (by omega)).trans ((upE_n (by omega)).trans ((upE_n (by omega)).trans ((upE_n (by omega)).trans ((upE_n (by omega)).trans ((upE_n (by omega)).trans ((upE_n (by omega)).trans ((upE_n (by omega)).trans ((upE_n (by omega)).trans ((upE_n (by omega)).trans ((upE_n (by omega)).trans ((upE_n (by omega)).trans (rfl)))))))))))))))))), rfl, rfl, rfl, rfl⟩
theorem wI_11_78 : gWI "GrownKinds" 78 yX10_init cX10_init 2 := ⟨wm_553, wm_554, wm_185, wm_555, by decide +kernel, by decide +kernel, rfl⟩
set_option maxHeartbeats 4000000 in
set_option maxRecDepth 100000 in
theorem kX10_init_65 (l : Launch) {D : va_G} {cy : Nat → ClassId} {b : Nat} {E : Nat → va_E} (h65 : E 65 = .inr (10, [.null, .null, .null, .int 0, .int 0, .int 0, .int 0, .null, .int 0, .null, .int 0, .null, .int 0])) : gV l yX10_init cX10_init 2 1 5 201 D cy b 66 E [.ref (b + 65), .ref (b + 2)] (fun u => u.1 = 71 ∧ (∀ j, j < 66 → j ≠ 65 → u.2 j = E j) ∧ u.2 65 = .inr (10, [.ref (b + 2), .ref (b + 66), .ref (b + 67), .int 0, .int 0, .int 0, .int 1, .ref (b + 68), .int 0, .ref (b + 69), .int 0, .ref (b + 70), .int 0]) ∧ u.2 66 = .inl (cy 0, 40, .inl (fun _ => 0)) ∧ u.2 67 = .inl (cy 0, 40, .inl (fun _ => 0)) ∧ u.2 68 = .inl (cy 1, 40, .inl (fun _ => 0)) ∧ u.2 69 = .inl (cy 1, 41, .inl (fun _ => 0)) ∧ u.2 70 = .inl (cy 1, 40, .inl (fun _ => 0))) := by
  refine gV_of (by decide) (Nat.le_of_ble_eq_true rfl) ?_
  intro p e s m args below meth c S hr hlk hin hsz ls hl hG
  have hx := S.1
  have hb := S.2.1
  have hl : lv_has ls 2 [(0, .ref (b + 65)), (1, .ref (b + 2))] := hl
  refine lv_aload_n hx hb dX10_init_0 rfl (lv_at hl 0 rfl) ?_
  refine g_objInit S wm_556 wm_204 wm_205 hl.1 dX10_init_1 ⟨Nat.le_of_ble_eq_true rfl, Nat.le_of_ble_eq_true rfl⟩ ?_
  refine lv_aload_n hx hb dX10_init_4 rfl (lv_at hl 0 rfl) ?_
  refine lv_bipush (v := 40) hx hb dX10_init_5 (by decide) ?_
  refine g_newa (atype := .byte) (ty := .byte) (N := 40) (a0 := (40, .inl (fun _ => 0))) S hG (by omega) 0 rfl rfl (fun h => h) wm_305 (fun _ => rfl) dX10_init_7 (by decide) (by decide) (by decide) ⟨Nat.le_of_ble_eq_true rfl, Nat.le_of_ble_eq_true rfl⟩ (fun H hG => ?_)
  refine W.widen (k := 1) (n := 40) (Nat.le_of_ble_eq_true rfl) (Nat.le_of_ble_eq_true rfl) ?_
  refine g_putF (fs' := [.null, .ref (b + 66), .null, .int 0, .int 0, .int 0, .int 0, .null, .int 0, .null, .int 0, .null, .int 0]) S hG (hin rfl) 65 1 h65 cpX10 wm_558 dX10_init_9 rfl (by omega) (by decide) (Nat.le_of_ble_eq_true rfl) rfl rfl rfl rfl (fun H locs hG => ?_)
  refine lv_aload_n hx hb dX10_init_12 rfl (lv_at hl 0 rfl) ?_
  refine lv_bipush (v := 40) hx hb dX10_init_13 (by decide) ?_
  refine g_newa (atype := .byte) (ty := .byte) (N := 40) (a0 := (40, .inl (fun _ => 0))) S hG (by omega) 0 rfl rfl (fun h => h) wm_305 (fun _ => rfl) dX10_init_15 (by decide) (by decide) (by decide) ⟨Nat.le_of_ble_eq_true rfl, Nat.le_of_ble_eq_true rfl⟩ (fun H hG => ?_)
  refine W.widen (k := 2) (n := 80) (Nat.le_of_ble_eq_true rfl) (Nat.le_of_ble_eq_true rfl) ?_
  refine g_putF (fs' := [.null, .ref (b + 66), .ref (b + 67), .int 0, .int 0, .int 0, .int 0, .null, .int 0, .null, .int 0, .null, .int 0]) S hG (hin rfl) 65 2 rfl cpX10 wm_560 dX10_init_17 rfl (by omega) (by decide) (Nat.le_of_ble_eq_true rfl) rfl rfl rfl rfl (fun H locs hG => ?_)
  refine lv_aload_n hx hb dX10_init_20 rfl (lv_at hl 0 rfl) ?_
  refine lv_iconst (v := 0) hx hb dX10_init_21 (by decide) ?_
  refine g_put (fs' := [.null, .ref (b + 66), .ref (b + 67), .int 0, .int 0, .int 0, .int 0, .null, .int 0, .null, .int 0, .null, .int 0]) S hG 65 3 rfl cpX10 wm_561 dX10_init_22 rfl (by omega) (by decide) (Nat.le_of_ble_eq_true rfl) rfl rfl rfl (fun H locs hG => ?_)
  refine lv_aload_n hx hb dX10_init_25 rfl (lv_at hl 0 rfl) ?_
  refine lv_iconst (v := 0) hx hb dX10_init_26 (by decide) ?_
  refine g_put (fs' := [.null, .ref (b + 66), .ref (b + 67), .int 0, .int 0, .int 0, .int 0, .null, .int 0, .null, .int 0, .null, .int 0]) S hG 65 4 rfl cpX10 wm_562 dX10_init_27 rfl (by omega) (by decide) (Nat.le_of_ble_eq_true rfl) rfl rfl rfl (fun H locs hG => ?_)
  refine lv_aload_n hx hb dX10_init_30 rfl (lv_at hl 0 rfl) ?_
  refine lv_iconst (v := 0) hx hb dX10_init_31 (by decide) ?_
  refine g_put (fs' := [.null, .ref (b + 66), .ref (b + 67), .int 0, .int 0, .int 0, .int 0, .null, .int 0, .null, .int 0, .null, .int 0]) S hG 65 5 rfl cpX10 wm_563 dX10_init_32 rfl (by omega) (by decide) (Nat.le_of_ble_eq_true rfl) rfl rfl rfl (fun H locs hG => ?_)
  refine lv_aload_n hx hb dX10_init_35 rfl (lv_at hl 0 rfl) ?_
  refine lv_iconst (v := 1) hx hb dX10_init_36 (by decide) ?_
  refine g_put (fs' := [.null, .ref (b + 66), .ref (b + 67), .int 0, .int 0, .int 0, .int 1, .null, .int 0, .null, .int 0, .null, .int 0]) S hG 65 6 rfl cpX10 wm_564 dX10_init_37 rfl (by omega) (by decide) (Nat.le_of_ble_eq_true rfl) rfl rfl rfl (fun H locs hG => ?_)
  refine lv_aload_n hx hb dX10_init_40 rfl (lv_at hl 0 rfl) ?_
  refine lv_bipush (v := 40) hx hb dX10_init_41 (by decide) ?_
  refine g_newa (atype := .int) (ty := .int) (N := 40) (a0 := (40, .inl (fun _ => 0))) S hG (by omega) 1 rfl rfl (fun h => h) wm_306 (fun _ => rfl) dX10_init_43 (by decide) (by decide) (by decide) ⟨Nat.le_of_ble_eq_true rfl, Nat.le_of_ble_eq_true rfl⟩ (fun H hG => ?_)
  refine W.widen (k := 3) (n := 120) (Nat.le_of_ble_eq_true rfl) (Nat.le_of_ble_eq_true rfl) ?_
  refine g_putF (fs' := [.null, .ref (b + 66), .ref (b + 67), .int 0, .int 0, .int 0, .int 1, .ref (b + 68), .int 0, .null, .int 0, .null, .int 0]) S hG (hin rfl) 65 7 rfl cpX10 wm_565 dX10_init_45 rfl (by omega) (by decide) (Nat.le_of_ble_eq_true rfl) rfl rfl rfl rfl (fun H locs hG => ?_)
  refine lv_aload_n hx hb dX10_init_48 rfl (lv_at hl 0 rfl) ?_
  refine lv_iconst (v := 0) hx hb dX10_init_49 (by decide) ?_
  refine g_put (fs' := [.null, .ref (b + 66), .ref (b + 67), .int 0, .int 0, .int 0, .int 1, .ref (b + 68), .int 0, .null, .int 0, .null, .int 0]) S hG 65 8 rfl cpX10 wm_566 dX10_init_50 rfl (by omega) (by decide) (Nat.le_of_ble_eq_true rfl) rfl rfl rfl (fun H locs hG => ?_)
  refine lv_aload_n hx hb dX10_init_53 rfl (lv_at hl 0 rfl) ?_
  refine lv_bipush (v := 41) hx hb dX10_init_54 (by decide) ?_
  refine g_newa (atype := .int) (ty := .int) (N := 41) (a0 := (41, .inl (fun _ => 0))) S hG (by omega) 1 rfl rfl (fun h => h) wm_306 (fun _ => rfl) dX10_init_56 (by decide) (by decide) (by decide) ⟨Nat.le_of_ble_eq_true rfl, Nat.le_of_ble_eq_true rfl⟩ (fun H hG => ?_)
  refine W.widen (k := 4) (n := 161) (Nat.le_of_ble_eq_true rfl) (Nat.le_of_ble_eq_true rfl) ?_
  refine g_putF (fs' := [.null, .ref (b + 66), .ref (b + 67), .int 0, .int 0, .int 0, .int 1, .ref (b + 68), .int 0, .ref (b + 69), .int 0, .null, .int 0]) S hG (hin rfl) 65 9 rfl cpX10 wm_567 dX10_init_58 rfl (by omega) (by decide) (Nat.le_of_ble_eq_true rfl) rfl rfl rfl rfl (fun H locs hG => ?_)
  refine lv_aload_n hx hb dX10_init_61 rfl (lv_at hl 0 rfl) ?_
  refine lv_iconst (v := 0) hx hb dX10_init_62 (by decide) ?_
  refine g_put (fs' := [.null, .ref (b + 66), .ref (b + 67), .int 0, .int 0, .int 0, .int 1, .ref (b + 68), .int 0, .ref (b + 69), .int 0, .null, .int 0]) S hG 65 10 rfl cpX10 wm_568 dX10_init_63 rfl (by omega) (by decide) (Nat.le_of_ble_eq_true rfl) rfl rfl rfl (fun H locs hG => ?_)
  refine lv_aload_n hx hb dX10_init_66 rfl (lv_at hl 0 rfl) ?_
  refine lv_bipush (v := 40) hx hb dX10_init_67 (by decide) ?_
  refine g_newa (atype := .int) (ty := .int) (N := 40) (a0 := (40, .inl (fun _ => 0))) S hG (by omega) 1 rfl rfl (fun h => h) wm_306 (fun _ => rfl) dX10_init_69 (by decide) (by decide) (by decide) ⟨Nat.le_of_ble_eq_true rfl, Nat.le_of_ble_eq_true rfl⟩ (fun H hG => ?_)
  refine W.widen (k := 5) (n := 201) (Nat.le_of_ble_eq_true rfl) (Nat.le_of_ble_eq_true rfl) ?_
  refine g_putF (fs' := [.null, .ref (b + 66), .ref (b + 67), .int 0, .int 0, .int 0, .int 1, .ref (b + 68), .int 0, .ref (b + 69), .int 0, .ref (b + 70), .int 0]) S hG (hin rfl) 65 11 rfl cpX10 wm_569 dX10_init_71 rfl (by omega) (by decide) (Nat.le_of_ble_eq_true rfl) rfl rfl rfl rfl (fun H locs hG => ?_)
  refine lv_aload_n hx hb dX10_init_74 rfl (lv_at hl 0 rfl) ?_
  refine lv_iconst (v := 0) hx hb dX10_init_75 (by decide) ?_
  refine g_put (fs' := [.null, .ref (b + 66), .ref (b + 67), .int 0, .int 0, .int 0, .int 1, .ref (b + 68), .int 0, .ref (b + 69), .int 0, .ref (b + 70), .int 0]) S hG 65 12 rfl cpX10 wm_570 dX10_init_76 rfl (by omega) (by decide) (Nat.le_of_ble_eq_true rfl) rfl rfl rfl (fun H locs hG => ?_)
  refine lv_aload_n hx hb dX10_init_79 rfl (lv_at hl 0 rfl) ?_
  refine lv_aload_n hx hb dX10_init_80 rfl (lv_at hl 1 rfl) ?_
  refine g_putF (fs' := [.ref (b + 2), .ref (b + 66), .ref (b + 67), .int 0, .int 0, .int 0, .int 1, .ref (b + 68), .int 0, .ref (b + 69), .int 0, .ref (b + 70), .int 0]) S hG (hin rfl) 65 0 rfl cpX10 wm_557 dX10_init_81 rfl (by omega) (by decide) (Nat.le_of_ble_eq_true rfl) rfl rfl rfl rfl (fun H locs hG => ?_)
  exact g_vret S hr hlk hG (by omega) dX10_init_84 ⟨Nat.le_of_ble_eq_true rfl, Nat.le_of_ble_eq_true rfl⟩ ⟨rfl, fun j h1 h2 => (upE_n (by omega)).trans ((upE_n (by omega)).trans ((upE_n (by omega)).trans ((upE_n (by omega)).trans ((upE_n (by omega)).trans ((upE_n (by omega)).trans ((upE_n (by omega)).trans ((upE_n (by omega)).trans ((upE_n (by omega)).trans ((upE_n (by omega)).trans ((upE_n (by omega)).trans ((upE_n (by omega)).trans ((upE_n (by omega)).trans ((upE_n (by omega)).trans ((upE_n (by omega)).trans ((upE_n (by omega)).trans ((upE_n (by omega)).trans ((upE_n (by omega)).trans (rfl)))))))))))))))))), rfl, rfl, rfl, rfl, rfl, rfl⟩
theorem wI_11_85 : gWI "GrownKinds" 85 yX7_init cX7_init 2 := ⟨wm_600, wm_601, wm_186, wm_602, by decide +kernel, by decide +kernel, rfl⟩
set_option maxHeartbeats 4000000 in
set_option maxRecDepth 100000 in
theorem kX7_init_71 (l : Launch) {D : va_G} {cy : Nat → ClassId} {b : Nat} {E : Nat → va_E} (h71 : E 71 = .inr (7, [.null, .long 0, .null, .null, .null, .null, .int 0, .int 0, .null])) : gV l yX7_init cX7_init 2 1 5 2618 D cy b 72 E [.ref (b + 71), .ref (b + 58)] (fun u => u.1 = 77 ∧ (∀ j, j < 72 → j ≠ 71 → u.2 j = E j) ∧ u.2 71 = .inr (7, [.ref (b + 58), .long 0, .ref (b + 72), .ref (b + 73), .ref (b + 74), .ref (b + 75), .int (-1), .int (-1), .ref (b + 76)]) ∧ u.2 72 = .inl (cy 1, 48, .inl (fun _ => 0)) ∧ u.2 73 = .inl (cy 1, 48, .inl (fun _ => 0)) ∧ u.2 74 = .inl (cy 1, 1248, .inl (fun _ => 0)) ∧ u.2 75 = .inl (cy 1, 1248, .inl (fun _ => 0)) ∧ u.2 76 = .inl (cy 1, 26, .inl (fun _ => 0))) := by
  refine gV_of (by decide) (Nat.le_of_ble_eq_true rfl) ?_
  intro p e s m args below meth c S hr hlk hin hsz ls hl hG
  have hx := S.1
  have hb := S.2.1
  have hl : lv_has ls 2 [(0, .ref (b + 71)), (1, .ref (b + 58))] := hl
  refine lv_aload_n hx hb dX7_init_0 rfl (lv_at hl 0 rfl) ?_
  refine g_objInit S wm_603 wm_204 wm_205 hl.1 dX7_init_1 ⟨Nat.le_of_ble_eq_true rfl, Nat.le_of_ble_eq_true rfl⟩ ?_
  refine lv_aload_n hx hb dX7_init_4 rfl (lv_at hl 0 rfl) ?_
  refine lv_lconst (v := 0) hx hb dX7_init_5 (by decide) ?_
  refine g_put (fs' := [.null, .long 0, .null, .null, .null, .null, .int 0, .int 0, .null]) S hG 71 1 h71 cpX7 wm_605 dX7_init_6 rfl (by omega) (by decide) (Nat.le_of_ble_eq_true rfl) rfl rfl rfl (fun H locs hG => ?_)
  refine lv_aload_n hx hb dX7_init_9 rfl (lv_at hl 0 rfl) ?_
  refine lv_bipush (v := 48) hx hb dX7_init_10 (by decide) ?_
  refine g_newa (atype := .int) (ty := .int) (N := 48) (a0 := (48, .inl (fun _ => 0))) S hG (by omega) 1 rfl rfl (fun h => h) wm_306 (fun _ => rfl) dX7_init_12 (by decide) (by decide) (by decide) ⟨Nat.le_of_ble_eq_true rfl, Nat.le_of_ble_eq_true rfl⟩ (fun H hG => ?_)
  refine W.widen (k := 1) (n := 48) (Nat.le_of_ble_eq_true rfl) (Nat.le_of_ble_eq_true rfl) ?_
  refine g_putF (fs' := [.null, .long 0, .ref (b + 72), .null, .null, .null, .int 0, .int 0, .null]) S hG (hin rfl) 71 2 rfl cpX7 wm_606 dX7_init_14 rfl (by omega) (by decide) (Nat.le_of_ble_eq_true rfl) rfl rfl rfl rfl (fun H locs hG => ?_)
  refine lv_aload_n hx hb dX7_init_17 rfl (lv_at hl 0 rfl) ?_
  refine lv_bipush (v := 48) hx hb dX7_init_18 (by decide) ?_
  refine g_newa (atype := .int) (ty := .int) (N := 48) (a0 := (48, .inl (fun _ => 0))) S hG (by omega) 1 rfl rfl (fun h => h) wm_306 (fun _ => rfl) dX7_init_20 (by decide) (by decide) (by decide) ⟨Nat.le_of_ble_eq_true rfl, Nat.le_of_ble_eq_true rfl⟩ (fun H hG => ?_)
  refine W.widen (k := 2) (n := 96) (Nat.le_of_ble_eq_true rfl) (Nat.le_of_ble_eq_true rfl) ?_
  refine g_putF (fs' := [.null, .long 0, .ref (b + 72), .ref (b + 73), .null, .null, .int 0, .int 0, .null]) S hG (hin rfl) 71 3 rfl cpX7 wm_608 dX7_init_22 rfl (by omega) (by decide) (Nat.le_of_ble_eq_true rfl) rfl rfl rfl rfl (fun H locs hG => ?_)
  refine lv_aload_n hx hb dX7_init_25 rfl (lv_at hl 0 rfl) ?_
  refine lv_sipush (v := 1248) hx hb dX7_init_26 (by decide) ?_
  refine g_newa (atype := .int) (ty := .int) (N := 1248) (a0 := (1248, .inl (fun _ => 0))) S hG (by omega) 1 rfl rfl (fun h => h) wm_306 (fun _ => rfl) dX7_init_29 (by decide) (by decide) (by decide) ⟨Nat.le_of_ble_eq_true rfl, Nat.le_of_ble_eq_true rfl⟩ (fun H hG => ?_)
  refine W.widen (k := 3) (n := 1344) (Nat.le_of_ble_eq_true rfl) (Nat.le_of_ble_eq_true rfl) ?_
  refine g_putF (fs' := [.null, .long 0, .ref (b + 72), .ref (b + 73), .ref (b + 74), .null, .int 0, .int 0, .null]) S hG (hin rfl) 71 4 rfl cpX7 wm_610 dX7_init_31 rfl (by omega) (by decide) (Nat.le_of_ble_eq_true rfl) rfl rfl rfl rfl (fun H locs hG => ?_)
  refine lv_aload_n hx hb dX7_init_34 rfl (lv_at hl 0 rfl) ?_
  refine lv_sipush (v := 1248) hx hb dX7_init_35 (by decide) ?_
  refine g_newa (atype := .int) (ty := .int) (N := 1248) (a0 := (1248, .inl (fun _ => 0))) S hG (by omega) 1 rfl rfl (fun h => h) wm_306 (fun _ => rfl) dX7_init_38 (by decide) (by decide) (by decide) ⟨Nat.le_of_ble_eq_true rfl, Nat.le_of_ble_eq_true rfl⟩ (fun H hG => ?_)
  refine W.widen (k := 4) (n := 2592) (Nat.le_of_ble_eq_true rfl) (Nat.le_of_ble_eq_true rfl) ?_
  refine g_putF (fs' := [.null, .long 0, .ref (b + 72), .ref (b + 73), .ref (b + 74), .ref (b + 75), .int 0, .int 0, .null]) S hG (hin rfl) 71 5 rfl cpX7 wm_612 dX7_init_40 rfl (by omega) (by decide) (Nat.le_of_ble_eq_true rfl) rfl rfl rfl rfl (fun H locs hG => ?_)
  refine lv_aload_n hx hb dX7_init_43 rfl (lv_at hl 0 rfl) ?_
  refine lv_iconst (v := (-1)) hx hb dX7_init_44 (by decide) ?_
  refine g_put (fs' := [.null, .long 0, .ref (b + 72), .ref (b + 73), .ref (b + 74), .ref (b + 75), .int (-1), .int 0, .null]) S hG 71 6 rfl cpX7 wm_614 dX7_init_45 rfl (by omega) (by decide) (Nat.le_of_ble_eq_true rfl) rfl rfl rfl (fun H locs hG => ?_)
  refine lv_aload_n hx hb dX7_init_48 rfl (lv_at hl 0 rfl) ?_
  refine lv_iconst (v := (-1)) hx hb dX7_init_49 (by decide) ?_
  refine g_put (fs' := [.null, .long 0, .ref (b + 72), .ref (b + 73), .ref (b + 74), .ref (b + 75), .int (-1), .int (-1), .null]) S hG 71 7 rfl cpX7 wm_615 dX7_init_50 rfl (by omega) (by decide) (Nat.le_of_ble_eq_true rfl) rfl rfl rfl (fun H locs hG => ?_)
  refine lv_aload_n hx hb dX7_init_53 rfl (lv_at hl 0 rfl) ?_
  refine lv_bipush (v := 26) hx hb dX7_init_54 (by decide) ?_
  refine g_newa (atype := .int) (ty := .int) (N := 26) (a0 := (26, .inl (fun _ => 0))) S hG (by omega) 1 rfl rfl (fun h => h) wm_306 (fun _ => rfl) dX7_init_56 (by decide) (by decide) (by decide) ⟨Nat.le_of_ble_eq_true rfl, Nat.le_of_ble_eq_true rfl⟩ (fun H hG => ?_)
  refine W.widen (k := 5) (n := 2618) (Nat.le_of_ble_eq_true rfl) (Nat.le_of_ble_eq_true rfl) ?_
  refine g_putF (fs' := [.null, .long 0, .ref (b + 72), .ref (b + 73), .ref (b + 74), .ref (b + 75), .int (-1), .int (-1), .ref (b + 76)]) S hG (hin rfl) 71 8 rfl cpX7 wm_616 dX7_init_58 rfl (by omega) (by decide) (Nat.le_of_ble_eq_true rfl) rfl rfl rfl rfl (fun H locs hG => ?_)
  refine lv_aload_n hx hb dX7_init_61 rfl (lv_at hl 0 rfl) ?_
  refine lv_aload_n hx hb dX7_init_62 rfl (lv_at hl 1 rfl) ?_
  refine g_putF (fs' := [.ref (b + 58), .long 0, .ref (b + 72), .ref (b + 73), .ref (b + 74), .ref (b + 75), .int (-1), .int (-1), .ref (b + 76)]) S hG (hin rfl) 71 0 rfl cpX7 wm_604 dX7_init_63 rfl (by omega) (by decide) (Nat.le_of_ble_eq_true rfl) rfl rfl rfl rfl (fun H locs hG => ?_)
  exact g_vret S hr hlk hG (by omega) dX7_init_66 ⟨Nat.le_of_ble_eq_true rfl, Nat.le_of_ble_eq_true rfl⟩ ⟨rfl, fun j h1 h2 => (upE_n (by omega)).trans ((upE_n (by omega)).trans ((upE_n (by omega)).trans ((upE_n (by omega)).trans ((upE_n (by omega)).trans ((upE_n (by omega)).trans ((upE_n (by omega)).trans ((upE_n (by omega)).trans ((upE_n (by omega)).trans ((upE_n (by omega)).trans ((upE_n (by omega)).trans ((upE_n (by omega)).trans ((upE_n (by omega)).trans ((upE_n (by omega)).trans (rfl)))))))))))))), rfl, rfl, rfl, rfl, rfl, rfl⟩
theorem wI_11_94 : gWI "GrownKinds" 94 yX1_init cX1_init 2 := ⟨wm_638, wm_639, wm_187, wm_640, by decide +kernel, by decide +kernel, rfl⟩
set_option maxHeartbeats 4000000 in
set_option maxRecDepth 100000 in
theorem kX1_init_77 (l : Launch) {D : va_G} {cy : Nat → ClassId} {b : Nat} {E : Nat → va_E} (h77 : E 77 = .inr (1, [.null, .int 0, .int 0, .int 0, .int 0, .int 0, .int 0])) : gV l yX1_init cX1_init 2 1 0 0 D cy b 78 E [.ref (b + 77), .ref (b + 40)] (fun u => u.1 = 78 ∧ (∀ j, j < 78 → j ≠ 77 → u.2 j = E j) ∧ u.2 77 = .inr (1, [.ref (b + 40), .int 0, .int 0, .int 0, .int 0, .int 0, .int 0])) := by
  refine gV_of (by decide) (Nat.le_of_ble_eq_true rfl) ?_
  intro p e s m args below meth c S hr hlk hin hsz ls hl hG
  have hx := S.1
  have hb := S.2.1
  have hl : lv_has ls 2 [(0, .ref (b + 77)), (1, .ref (b + 40))] := hl
  refine lv_aload_n hx hb dX1_init_0 rfl (lv_at hl 0 rfl) ?_
  refine g_objInit S wm_641 wm_204 wm_205 hl.1 dX1_init_1 ⟨Nat.le_of_ble_eq_true rfl, Nat.le_of_ble_eq_true rfl⟩ ?_
  refine lv_aload_n hx hb dX1_init_4 rfl (lv_at hl 0 rfl) ?_
  refine lv_iconst (v := 0) hx hb dX1_init_5 (by decide) ?_
  refine g_put (fs' := [.null, .int 0, .int 0, .int 0, .int 0, .int 0, .int 0]) S hG 77 1 h77 cpX1 wm_643 dX1_init_6 rfl (by omega) (by decide) (Nat.le_of_ble_eq_true rfl) rfl rfl rfl (fun H locs hG => ?_)
  refine lv_aload_n hx hb dX1_init_9 rfl (lv_at hl 0 rfl) ?_
  refine lv_iconst (v := 0) hx hb dX1_init_10 (by decide) ?_
  refine g_put (fs' := [.null, .int 0, .int 0, .int 0, .int 0, .int 0, .int 0]) S hG 77 2 rfl cpX1 wm_645 dX1_init_11 rfl (by omega) (by decide) (Nat.le_of_ble_eq_true rfl) rfl rfl rfl (fun H locs hG => ?_)
  refine lv_aload_n hx hb dX1_init_14 rfl (lv_at hl 0 rfl) ?_
  refine lv_iconst (v := 0) hx hb dX1_init_15 (by decide) ?_
  refine g_put (fs' := [.null, .int 0, .int 0, .int 0, .int 0, .int 0, .int 0]) S hG 77 3 rfl cpX1 wm_646 dX1_init_16 rfl (by omega) (by decide) (Nat.le_of_ble_eq_true rfl) rfl rfl rfl (fun H locs hG => ?_)
  refine lv_aload_n hx hb dX1_init_19 rfl (lv_at hl 0 rfl) ?_
  refine lv_iconst (v := 0) hx hb dX1_init_20 (by decide) ?_
  refine g_put (fs' := [.null, .int 0, .int 0, .int 0, .int 0, .int 0, .int 0]) S hG 77 4 rfl cpX1 wm_647 dX1_init_21 rfl (by omega) (by decide) (Nat.le_of_ble_eq_true rfl) rfl rfl rfl (fun H locs hG => ?_)
  refine lv_aload_n hx hb dX1_init_24 rfl (lv_at hl 0 rfl) ?_
  refine lv_iconst (v := 0) hx hb dX1_init_25 (by decide) ?_
  refine g_put (fs' := [.null, .int 0, .int 0, .int 0, .int 0, .int 0, .int 0]) S hG 77 5 rfl cpX1 wm_648 dX1_init_26 rfl (by omega) (by decide) (Nat.le_of_ble_eq_true rfl) rfl rfl rfl (fun H locs hG => ?_)
  refine lv_aload_n hx hb dX1_init_29 rfl (lv_at hl 0 rfl) ?_
  refine lv_iconst (v := 0) hx hb dX1_init_30 (by decide) ?_
  refine g_put (fs' := [.null, .int 0, .int 0, .int 0, .int 0, .int 0, .int 0]) S hG 77 6 rfl cpX1 wm_649 dX1_init_31 rfl (by omega) (by decide) (Nat.le_of_ble_eq_true rfl) rfl rfl rfl (fun H locs hG => ?_)
  refine lv_aload_n hx hb dX1_init_34 rfl (lv_at hl 0 rfl) ?_
  refine lv_aload_n hx hb dX1_init_35 rfl (lv_at hl 1 rfl) ?_
  refine g_putF (fs' := [.ref (b + 40), .int 0, .int 0, .int 0, .int 0, .int 0, .int 0]) S hG (hin rfl) 77 0 rfl cpX1 wm_642 dX1_init_36 rfl (by omega) (by decide) (Nat.le_of_ble_eq_true rfl) rfl rfl rfl rfl (fun H locs hG => ?_)
  exact g_vret S hr hlk hG (by omega) dX1_init_39 ⟨Nat.le_of_ble_eq_true rfl, Nat.le_of_ble_eq_true rfl⟩ ⟨rfl, fun j h1 h2 => (upE_n (by omega)).trans ((upE_n (by omega)).trans ((upE_n (by omega)).trans ((upE_n (by omega)).trans ((upE_n (by omega)).trans ((upE_n (by omega)).trans ((upE_n (by omega)).trans (rfl))))))), rfl⟩
set_option maxHeartbeats 4000000 in
set_option maxRecDepth 100000 in
theorem kX11_init_0 (l : Launch) {D : va_G} {cy : Nat → ClassId} {b : Nat} {E : Nat → va_E} (h0 : E 0 = .inr (11, [.null, .int 0, .null, .null, .int 0, .int 0, .null, .null, .null, .null, .null, .null, .null, .null, .null, .int 0, .int 0, .int 0, .int 0])) : gV l yX11_init cX11_init 1 3 79 62948 D cy b 1 E [.ref (b + 0)] (fun u => u.1 = 80 ∧ (∀ j, j < 1 → j ≠ 0 → u.2 j = E j) ∧ u.2 0 = .inr (11, [.ref (b + 1), .int 0, .ref (b + 2), .ref (b + 12), .int 0, .int (-1), .ref (b + 33), .ref (b + 40), .ref (b + 47), .ref (b + 58), .ref (b + 65), .ref (b + 71), .ref (b + 77), .ref (b + 78), .ref (b + 79), .int 0, .int 0, .int (-1), .int (-1)]) ∧ u.2 1 = .inl (cy 0, 400, .inl (fun _ => 0)) ∧ u.2 2 = .inr (2, [.int 0, .int 0, .int 0, .int 0, .int 0, .ref (b + 3), .ref (b + 4), .ref (b + 5), .ref (b + 6), .ref (b + 7), .ref (b + 8), .ref (b + 9), .ref (b + 10), .ref (b + 11)]) ∧ u.2 3 = .inl (cy 1, 24, .inl (fun _ => 0)) ∧ u.2 4 = .inl (cy 1, 24, .inl (fun _ => 0)) ∧ u.2 5 = .inl (cy 1, 24, .inl (fun _ => 0)) ∧ u.2 6 = .inl (cy 1, 24, .inl (fun _ => 0)) ∧ u.2 7 = .inl (cy 1, 24, .inl (fun _ => 0)) ∧ u.2 8 = .inl (cy 1, 30, .inl (fun _ => 0)) ∧ u.2 9 = .inl (cy 1, 300, .inl (fun _ => 0)) ∧ u.2 10 = .inl (cy 1, 30, .inl (fun _ => 0)) ∧ u.2 11 = .inl (cy 1, 54, .inl (fun _ => 0)) ∧ u.2 12 = .inr (5, [.ref (b + 13), .int 0, .int (-1), .ref (b + 26), .ref (b + 23), .int 0, .int 0, .int 3, .int 0, .int 0, .int 0, .ref (b + 24), .ref (b + 25)]) ∧ u.2 13 = .inr (2, [.int 0, .int 0, .int 0, .int 0, .int 0, .ref (b + 14), .ref (b + 15), .ref (b + 16), .ref (b + 17), .ref (b + 18), .ref (b + 19), .ref (b + 20), .ref (b + 21), .ref (b + 22)]) ∧ u.2 14 = .inl (cy 1, 24, .inl (fun _ => 0)) ∧ u.2 15 = .inl (cy 1, 24, .inl (fun _ => 0)) ∧ u.2 16 = .inl (cy 1, 24, .inl (fun _ => 0)) ∧ u.2 17 = .inl (cy 1, 24, .inl (fun _ => 0)) ∧ u.2 18 = .inl (cy 1, 24, .inl (fun _ => 0)) ∧ u.2 19 = .inl (cy 1, 30, .inl (fun _ => 0)) ∧ u.2 20 = .inl (cy 1, 300, .inl (fun _ => 0)) ∧ u.2 21 = .inl (cy 1, 30, .inl (fun _ => 0)) ∧ u.2 22 = .inl (cy 1, 54, .inl (fun _ => 0)) ∧ u.2 23 = .inl (cy 0, 0, .inl (fun _ => 0)) ∧ u.2 24 = .inl (cy 1, 6, .inl (fun _ => 0)) ∧ u.2 25 = .inl (cy 1, 6, .inl (fun _ => 0)) ∧ u.2 26 = .inr (3, [.ref (b + 13), .int 0, .int 0, .ref (b + 27), .ref (b + 28), .ref (b + 29), .ref (b + 30), .ref (b + 31), .ref (b + 32)]) ∧ u.2 27 = .inl (cy 1, 24, .inl (fun _ => 0)) ∧ u.2 28 = .inl (cy 1, 24, .inl (fun _ => 0)) ∧ u.2 29 = .inl (cy 1, 24, .inl (fun _ => 0)) ∧ u.2 30 = .inl (cy 1, 6, .inl (fun _ => 0)) ∧ u.2 31 = .inl (cy 1, 6, .inl (fun _ => 0)) ∧ u.2 32 = .inl (cy 1, 6, .inl (fun _ => 0)) ∧ u.2 33 = .inr (3, [.ref (b + 2), .int 0, .int 0, .ref (b + 34), .ref (b + 35), .ref (b + 36), .ref (b + 37), .ref (b + 38), .ref (b + 39)]) ∧ u.2 34 = .inl (cy 1, 24, .inl (fun _ => 0)) ∧ u.2 35 = .inl (cy 1, 24, .inl (fun _ => 0)) ∧ u.2 36 = .inl (cy 1, 24, .inl (fun _ => 0)) ∧ u.2 37 = .inl (cy 1, 6, .inl (fun _ => 0)) ∧ u.2 38 = .inl (cy 1, 6, .inl (fun _ => 0)) ∧ u.2 39 = .inl (cy 1, 6, .inl (fun _ => 0)) ∧ u.2 40 = .inr (0, [.ref (b + 2), .int (-1), .ref (b + 41), .ref (b + 42), .ref (b + 43), .ref (b + 44), .ref (b + 45), .ref (b + 46)]) ∧ u.2 41 = .inl (cy 2, 1536, .inr (.inl (fun _ => 0))) ∧ u.2 42 = .inl (cy 2, 1536, .inr (.inl (fun _ => 0))) ∧ u.2 43 = .inl (cy 2, 384, .inr (.inl (fun _ => 0))) ∧ u.2 44 = .inl (cy 2, 12288, .inr (.inl (fun _ => 0))) ∧ u.2 45 = .inl (cy 2, 8, .inr (.inl (fun _ => 0))) ∧ u.2 46 = .inl (cy 2, 12288, .inr (.inl (fun _ => 0))) ∧ u.2 47 = .inr (4, [.ref (b + 2), .ref (b + 48), .int 0, .int 0, .long 0, .ref (b + 55), .ref (b + 56), .ref (b + 57)]) ∧ u.2 48 = .inr (0, [.ref (b + 2), .int (-1), .ref (b + 49), .ref (b + 50), .ref (b + 51), .ref (b + 52), .ref (b + 53), .ref (b + 54)]) ∧ u.2 49 = .inl (cy 2, 1536, .inr (.inl (fun _ => 0))) ∧ u.2 50 = .inl (cy 2, 1536, .inr (.inl (fun _ => 0))) ∧ u.2 51 = .inl (cy 2, 384, .inr (.inl (fun _ => 0))) ∧ u.2 52 = .inl (cy 2, 12288, .inr (.inl (fun _ => 0))) ∧ u.2 53 = .inl (cy 2, 8, .inr (.inl (fun _ => 0))) ∧ u.2 54 = .inl (cy 2, 0, .inr (.inl (fun _ => 0))) ∧ u.2 55 = .inl (cy 2, 48, .inr (.inl (fun _ => 0))) ∧ u.2 56 = .inl (cy 2, 9984, .inr (.inl (fun _ => 0))) ∧ u.2 57 = .inl (cy 2, 2880, .inr (.inl (fun _ => 0))) ∧ u.2 58 = .inr (9, [.ref (b + 2), .ref (b + 40), .ref (b + 59), .ref (b + 62), .int 0, .int 0, .int 1, .int 0, .int 0, .ref (b + 63), .int 0, .ref (b + 64), .int 0, .int (-1), .int (-1)]) ∧ u.2 59 = .inr (8, [.ref (b + 2), .ref (b + 40), .int 0, .ref (b + 60), .ref (b + 61), .int 0]) ∧ u.2 60 = .inl (cy 1, 8, .inl (fun _ => 0)) ∧ u.2 61 = .inl (cy 4, 192, .inr (.inr (.inr (.inr (fun _ => none))))) ∧ u.2 62 = .inl (cy 0, 256, .inl (fun _ => 0)) ∧ u.2 63 = .inl (cy 1, 26, .inl (fun _ => 0)) ∧ u.2 64 = .inl (cy 1, 1100, .inl (fun _ => 0)) ∧ u.2 65 = .inr (10, [.ref (b + 2), .ref (b + 66), .ref (b + 67), .int 0, .int 0, .int 0, .int 1, .ref (b + 68), .int 0, .ref (b + 69), .int 0, .ref (b + 70), .int 0]) ∧ u.2 66 = .inl (cy 0, 40, .inl (fun _ => 0)) ∧ u.2 67 = .inl (cy 0, 40, .inl (fun _ => 0)) ∧ u.2 68 = .inl (cy 1, 40, .inl (fun _ => 0)) ∧ u.2 69 = .inl (cy 1, 41, .inl (fun _ => 0)) ∧ u.2 70 = .inl (cy 1, 40, .inl (fun _ => 0)) ∧ u.2 71 = .inr (7, [.ref (b + 58), .long 0, .ref (b + 72), .ref (b + 73), .ref (b + 74), .ref (b + 75), .int (-1), .int (-1), .ref (b + 76)]) ∧ u.2 72 = .inl (cy 1, 48, .inl (fun _ => 0)) ∧ u.2 73 = .inl (cy 1, 48, .inl (fun _ => 0)) ∧ u.2 74 = .inl (cy 1, 1248, .inl (fun _ => 0)) ∧ u.2 75 = .inl (cy 1, 1248, .inl (fun _ => 0)) ∧ u.2 76 = .inl (cy 1, 26, .inl (fun _ => 0)) ∧ u.2 77 = .inr (1, [.ref (b + 40), .int 0, .int 0, .int 0, .int 0, .int 0, .int 0]) ∧ u.2 78 = .inl (cy 0, 40, .inl (fun _ => 0)) ∧ u.2 79 = .inl (cy 1, 10, .inl (fun _ => 0))) := by
  refine gV_of (by decide) (Nat.le_of_ble_eq_true rfl) ?_
  intro p e s m args below meth c S hr hlk hin hsz ls hl hG
  have hx := S.1
  have hb := S.2.1
  have hl : lv_has ls 1 [(0, .ref (b + 0))] := hl
  refine lv_aload_n hx hb dX11_init_0 rfl (lv_at hl 0 rfl) ?_
  refine g_objInit S wm_203 wm_204 wm_205 hl.1 dX11_init_1 ⟨Nat.le_of_ble_eq_true rfl, Nat.le_of_ble_eq_true rfl⟩ ?_
  refine lv_aload_n hx hb dX11_init_4 rfl (lv_at hl 0 rfl) ?_
  refine lv_sipush (v := 400) hx hb dX11_init_5 (by decide) ?_
  refine g_newa (atype := .byte) (ty := .byte) (N := 400) (a0 := (400, .inl (fun _ => 0))) S hG (by omega) 0 rfl rfl (fun h => h) wm_305 (fun _ => rfl) dX11_init_8 (by decide) (by decide) (by decide) ⟨Nat.le_of_ble_eq_true rfl, Nat.le_of_ble_eq_true rfl⟩ (fun H hG => ?_)
  refine W.widen (k := 1) (n := 400) (Nat.le_of_ble_eq_true rfl) (Nat.le_of_ble_eq_true rfl) ?_
  refine g_putF (fs' := [.ref (b + 1), .int 0, .null, .null, .int 0, .int 0, .null, .null, .null, .null, .null, .null, .null, .null, .null, .int 0, .int 0, .int 0, .int 0]) S hG (hin rfl) 0 0 h0 cpX11 wm_665 dX11_init_10 rfl (by omega) (by decide) (Nat.le_of_ble_eq_true rfl) rfl rfl rfl rfl (fun H locs hG => ?_)
  refine lv_aload_n hx hb dX11_init_13 rfl (lv_at hl 0 rfl) ?_
  refine lv_iconst (v := 0) hx hb dX11_init_14 (by decide) ?_
  refine g_put (fs' := [.ref (b + 1), .int 0, .null, .null, .int 0, .int 0, .null, .null, .null, .null, .null, .null, .null, .null, .null, .int 0, .int 0, .int 0, .int 0]) S hG 0 1 rfl cpX11 wm_666 dX11_init_15 rfl (by omega) (by decide) (Nat.le_of_ble_eq_true rfl) rfl rfl rfl (fun H locs hG => ?_)
  refine lv_aload_n hx hb dX11_init_18 rfl (lv_at hl 0 rfl) ?_
  refine g_new (fs := [.int 0, .int 0, .int 0, .int 0, .int 0, .null, .null, .null, .null, .null, .null, .null, .null, .null]) S hG (by omega) cpX2 wm_206 wm_207 wm_178 dX11_init_19 (by decide +kernel) ⟨Nat.le_of_ble_eq_true rfl, Nat.le_of_ble_eq_true rfl⟩ (fun H hG => ?_)
  refine W.widen (k := 2) (n := 414) (Nat.le_of_ble_eq_true rfl) (Nat.le_of_ble_eq_true rfl) ?_
  refine lv_dup hx hb dX11_init_22 rfl ?_
  refine g_ctorN (As := []) (rest := [.ref (b + 2), .ref (b + 0)]) S hG (by omega) (kX2_init_2 l rfl) (y := yX2_init) (host := "GrownKinds") (by decide +kernel) ⟨wm_209, wm_178, wm_210, by decide +kernel, by decide +kernel, rfl⟩ dX11_init_23 rfl hl.1 (ar := 0) (by decide +kernel) rfl ⟨Nat.le_of_ble_eq_true rfl, Nat.le_of_ble_eq_true rfl, Nat.le_of_ble_eq_true rfl, Nat.le_of_ble_eq_true rfl⟩ (Nat.le_of_ble_eq_true rfl) (fun u_E_1 H locs hp_2 hG => ?_)
  obtain ⟨n_E_1, E_1⟩ := u_E_1
  dsimp only at hp_2 hG
  refine W.widen (k := 11) (n := 948) (Nat.le_of_ble_eq_true rfl) (Nat.le_of_ble_eq_true rfl) ?_
  obtain ⟨rfl, hlo_3, hhlo_3_2, hhlo_3_3, hhlo_3_4, hhlo_3_5, hhlo_3_6, hhlo_3_7, hhlo_3_8, hhlo_3_9, hhlo_3_10, hhlo_3_11⟩ := hp_2
  refine g_putF (fs' := [.ref (b + 1), .int 0, .ref (b + 2), .null, .int 0, .int 0, .null, .null, .null, .null, .null, .null, .null, .null, .null, .int 0, .int 0, .int 0, .int 0]) S hG (hin rfl) 0 2 ((hlo_3 0 (by decide) (by decide)).trans rfl) cpX11 wm_667 dX11_init_26 rfl (by omega) (by decide) (Nat.le_of_ble_eq_true rfl) rfl rfl rfl rfl (fun H locs hG => ?_)
  refine lv_aload_n hx hb dX11_init_29 rfl (lv_at hl 0 rfl) ?_
  refine g_new (fs := [.null, .int 0, .int 0, .null, .null, .int 0, .int 0, .int 0, .int 0, .int 0, .int 0, .null, .null]) S hG (by omega) cpX5 wm_307 wm_308 wm_179 dX11_init_30 (by decide +kernel) ⟨Nat.le_of_ble_eq_true rfl, Nat.le_of_ble_eq_true rfl⟩ (fun H hG => ?_)
  refine W.widen (k := 12) (n := 961) (Nat.le_of_ble_eq_true rfl) (Nat.le_of_ble_eq_true rfl) ?_
  refine lv_dup hx hb dX11_init_33 rfl ?_
  refine g_new (fs := [.int 0, .int 0, .int 0, .int 0, .int 0, .null, .null, .null, .null, .null, .null, .null, .null, .null]) S hG (by omega) cpX2 wm_206 wm_207 wm_178 dX11_init_34 (by decide +kernel) ⟨Nat.le_of_ble_eq_true rfl, Nat.le_of_ble_eq_true rfl⟩ (fun H hG => ?_)
  refine W.widen (k := 13) (n := 975) (Nat.le_of_ble_eq_true rfl) (Nat.le_of_ble_eq_true rfl) ?_
  refine lv_dup hx hb dX11_init_37 rfl ?_
  refine g_ctorN (As := []) (rest := [.ref (b + 13), .ref (b + 12), .ref (b + 12), .ref (b + 0)]) S hG (by omega) (kX2_init_13 l rfl) (y := yX2_init) (host := "GrownKinds") (by decide +kernel) ⟨wm_209, wm_178, wm_210, by decide +kernel, by decide +kernel, rfl⟩ dX11_init_38 rfl hl.1 (ar := 0) (by decide +kernel) rfl ⟨Nat.le_of_ble_eq_true rfl, Nat.le_of_ble_eq_true rfl, Nat.le_of_ble_eq_true rfl, Nat.le_of_ble_eq_true rfl⟩ (Nat.le_of_ble_eq_true rfl) (fun u_E_4 H locs hp_5 hG => ?_)
  obtain ⟨n_E_4, E_4⟩ := u_E_4
  dsimp only at hp_5 hG
  refine W.widen (k := 22) (n := 1509) (Nat.le_of_ble_eq_true rfl) (Nat.le_of_ble_eq_true rfl) ?_
  obtain ⟨rfl, hlo_6, hhlo_6_13, hhlo_6_14, hhlo_6_15, hhlo_6_16, hhlo_6_17, hhlo_6_18, hhlo_6_19, hhlo_6_20, hhlo_6_21, hhlo_6_22⟩ := hp_5
  refine g_ctor (As := [.ref (b + 13)]) (rest := [.ref (b + 12), .ref (b + 0)]) S hG (by omega) (kX5_init_12 l ((hlo_6 12 (by decide) (by decide)).trans rfl)) wI_11_26 dX11_init_41 rfl hl.1 (ar := 1) (by decide +kernel) rfl ⟨Nat.le_of_ble_eq_true rfl, Nat.le_of_ble_eq_true rfl, Nat.le_of_ble_eq_true rfl, Nat.le_of_ble_eq_true rfl⟩ (Nat.le_of_ble_eq_true rfl) (fun u_E_7 H locs hp_8 hG => ?_)
  obtain ⟨n_E_7, E_7⟩ := u_E_7
  dsimp only at hp_8 hG
  refine W.widen (k := 32) (n := 1620) (Nat.le_of_ble_eq_true rfl) (Nat.le_of_ble_eq_true rfl) ?_
  obtain ⟨rfl, hlo_9, hhlo_9_12, hhlo_9_23, hhlo_9_24, hhlo_9_25, hhlo_9_26, hhlo_9_27, hhlo_9_28, hhlo_9_29, hhlo_9_30, hhlo_9_31, hhlo_9_32⟩ := hp_8
  refine g_putF (fs' := [.ref (b + 1), .int 0, .ref (b + 2), .ref (b + 12), .int 0, .int 0, .null, .null, .null, .null, .null, .null, .null, .null, .null, .int 0, .int 0, .int 0, .int 0]) S hG (hin rfl) 0 3 ((hlo_9 0 (by decide) (by decide)).trans ((hlo_6 0 (by decide) (by decide)).trans rfl)) cpX11 wm_668 dX11_init_44 rfl (by omega) (by decide) (Nat.le_of_ble_eq_true rfl) rfl rfl rfl rfl (fun H locs hG => ?_)
  refine lv_aload_n hx hb dX11_init_47 rfl (lv_at hl 0 rfl) ?_
  refine lv_iconst (v := 0) hx hb dX11_init_48 (by decide) ?_
  refine g_put (fs' := [.ref (b + 1), .int 0, .ref (b + 2), .ref (b + 12), .int 0, .int 0, .null, .null, .null, .null, .null, .null, .null, .null, .null, .int 0, .int 0, .int 0, .int 0]) S hG 0 4 rfl cpX11 wm_669 dX11_init_49 rfl (by omega) (by decide) (Nat.le_of_ble_eq_true rfl) rfl rfl rfl (fun H locs hG => ?_)
  refine lv_aload_n hx hb dX11_init_52 rfl (lv_at hl 0 rfl) ?_
  refine lv_iconst (v := (-1)) hx hb dX11_init_53 (by decide) ?_
  refine g_put (fs' := [.ref (b + 1), .int 0, .ref (b + 2), .ref (b + 12), .int 0, .int (-1), .null, .null, .null, .null, .null, .null, .null, .null, .null, .int 0, .int 0, .int 0, .int 0]) S hG 0 5 rfl cpX11 wm_670 dX11_init_54 rfl (by omega) (by decide) (Nat.le_of_ble_eq_true rfl) rfl rfl rfl (fun H locs hG => ?_)
  refine lv_aload_n hx hb dX11_init_57 rfl (lv_at hl 0 rfl) ?_
  refine g_new (fs := [.null, .int 0, .int 0, .null, .null, .null, .null, .null, .null]) S hG (by omega) cpX3 wm_395 wm_314 wm_180 dX11_init_58 (by decide +kernel) ⟨Nat.le_of_ble_eq_true rfl, Nat.le_of_ble_eq_true rfl⟩ (fun H hG => ?_)
  refine W.widen (k := 33) (n := 1629) (Nat.le_of_ble_eq_true rfl) (Nat.le_of_ble_eq_true rfl) ?_
  refine lv_dup hx hb dX11_init_61 rfl ?_
  refine lv_aload_n hx hb dX11_init_62 rfl (lv_at hl 0 rfl) ?_
  refine g_get S hG 0 2 rfl cpX11 wm_667 dX11_init_63 rfl (by omega) (by decide) ?_
  refine g_ctor (As := [.ref (b + 2)]) (rest := [.ref (b + 33), .ref (b + 0)]) S hG (by omega) (kX3_init_33 l rfl) wI_11_41 dX11_init_66 rfl hl.1 (ar := 1) (by decide +kernel) rfl ⟨Nat.le_of_ble_eq_true rfl, Nat.le_of_ble_eq_true rfl, Nat.le_of_ble_eq_true rfl, Nat.le_of_ble_eq_true rfl⟩ (Nat.le_of_ble_eq_true rfl) (fun u_E_10 H locs hp_11 hG => ?_)
  obtain ⟨n_E_10, E_10⟩ := u_E_10
  dsimp only at hp_11 hG
  refine W.widen (k := 39) (n := 1719) (Nat.le_of_ble_eq_true rfl) (Nat.le_of_ble_eq_true rfl) ?_
  obtain ⟨rfl, hlo_12, hhlo_12_33, hhlo_12_34, hhlo_12_35, hhlo_12_36, hhlo_12_37, hhlo_12_38, hhlo_12_39⟩ := hp_11
  refine g_putF (fs' := [.ref (b + 1), .int 0, .ref (b + 2), .ref (b + 12), .int 0, .int (-1), .ref (b + 33), .null, .null, .null, .null, .null, .null, .null, .null, .int 0, .int 0, .int 0, .int 0]) S hG (hin rfl) 0 6 ((hlo_12 0 (by decide) (by decide)).trans rfl) cpX11 wm_671 dX11_init_69 rfl (by omega) (by decide) (Nat.le_of_ble_eq_true rfl) rfl rfl rfl rfl (fun H locs hG => ?_)
  refine lv_aload_n hx hb dX11_init_72 rfl (lv_at hl 0 rfl) ?_
  refine g_new (fs := [.null, .int 0, .null, .null, .null, .null, .null, .null]) S hG (by omega) cpX0 wm_397 wm_398 wm_181 dX11_init_73 (by decide +kernel) ⟨Nat.le_of_ble_eq_true rfl, Nat.le_of_ble_eq_true rfl⟩ (fun H hG => ?_)
  refine W.widen (k := 40) (n := 1727) (Nat.le_of_ble_eq_true rfl) (Nat.le_of_ble_eq_true rfl) ?_
  refine lv_dup hx hb dX11_init_76 rfl ?_
  refine lv_aload_n hx hb dX11_init_77 rfl (lv_at hl 0 rfl) ?_
  refine g_get S hG 0 2 rfl cpX11 wm_667 dX11_init_78 rfl (by omega) (by decide) ?_
  refine lv_iconst (v := 1) hx hb dX11_init_81 (by decide) ?_
  refine g_ctor (As := [.ref (b + 2), .int 1]) (rest := [.ref (b + 40), .ref (b + 0)]) S hG (by omega) (kX0_init_40 l rfl) wI_11_48 dX11_init_82 rfl hl.1 (ar := 2) (by decide +kernel) rfl ⟨Nat.le_of_ble_eq_true rfl, Nat.le_of_ble_eq_true rfl, Nat.le_of_ble_eq_true rfl, Nat.le_of_ble_eq_true rfl⟩ (Nat.le_of_ble_eq_true rfl) (fun u_E_13 H locs hp_14 hG => ?_)
  obtain ⟨n_E_13, E_13⟩ := u_E_13
  dsimp only at hp_14 hG
  refine W.widen (k := 46) (n := 29767) (Nat.le_of_ble_eq_true rfl) (Nat.le_of_ble_eq_true rfl) ?_
  obtain ⟨rfl, hlo_15, hhlo_15_40, hhlo_15_41, hhlo_15_42, hhlo_15_43, hhlo_15_44, hhlo_15_45, hhlo_15_46⟩ := hp_14
  refine g_putF (fs' := [.ref (b + 1), .int 0, .ref (b + 2), .ref (b + 12), .int 0, .int (-1), .ref (b + 33), .ref (b + 40), .null, .null, .null, .null, .null, .null, .null, .int 0, .int 0, .int 0, .int 0]) S hG (hin rfl) 0 7 ((hlo_15 0 (by decide) (by decide)).trans rfl) cpX11 wm_672 dX11_init_85 rfl (by omega) (by decide) (Nat.le_of_ble_eq_true rfl) rfl rfl rfl rfl (fun H locs hG => ?_)
  refine lv_aload_n hx hb dX11_init_88 rfl (lv_at hl 0 rfl) ?_
  refine g_new (fs := [.null, .null, .int 0, .int 0, .long 0, .null, .null, .null]) S hG (by omega) cpX4 wm_429 wm_430 wm_182 dX11_init_89 (by decide +kernel) ⟨Nat.le_of_ble_eq_true rfl, Nat.le_of_ble_eq_true rfl⟩ (fun H hG => ?_)
  refine W.widen (k := 47) (n := 29775) (Nat.le_of_ble_eq_true rfl) (Nat.le_of_ble_eq_true rfl) ?_
  refine lv_dup hx hb dX11_init_92 rfl ?_
  refine lv_aload_n hx hb dX11_init_93 rfl (lv_at hl 0 rfl) ?_
  refine g_get S hG 0 2 rfl cpX11 wm_667 dX11_init_94 rfl (by omega) (by decide) ?_
  refine g_new (fs := [.null, .int 0, .null, .null, .null, .null, .null, .null]) S hG (by omega) cpX0 wm_397 wm_398 wm_181 dX11_init_97 (by decide +kernel) ⟨Nat.le_of_ble_eq_true rfl, Nat.le_of_ble_eq_true rfl⟩ (fun H hG => ?_)
  refine W.widen (k := 48) (n := 29783) (Nat.le_of_ble_eq_true rfl) (Nat.le_of_ble_eq_true rfl) ?_
  refine lv_dup hx hb dX11_init_100 rfl ?_
  refine lv_aload_n hx hb dX11_init_101 rfl (lv_at hl 0 rfl) ?_
  refine g_get S hG 0 2 rfl cpX11 wm_667 dX11_init_102 rfl (by omega) (by decide) ?_
  refine lv_iconst (v := 0) hx hb dX11_init_105 (by decide) ?_
  refine g_ctor (As := [.ref (b + 2), .int 0]) (rest := [.ref (b + 48), .ref (b + 2), .ref (b + 47), .ref (b + 47), .ref (b + 0)]) S hG (by omega) (kX0_init_48 l rfl) wI_11_48 dX11_init_106 rfl hl.1 (ar := 2) (by decide +kernel) rfl ⟨Nat.le_of_ble_eq_true rfl, Nat.le_of_ble_eq_true rfl, Nat.le_of_ble_eq_true rfl, Nat.le_of_ble_eq_true rfl⟩ (Nat.le_of_ble_eq_true rfl) (fun u_E_16 H locs hp_17 hG => ?_)
  obtain ⟨n_E_16, E_16⟩ := u_E_16
  dsimp only at hp_17 hG
  refine W.widen (k := 54) (n := 45535) (Nat.le_of_ble_eq_true rfl) (Nat.le_of_ble_eq_true rfl) ?_
  obtain ⟨rfl, hlo_18, hhlo_18_48, hhlo_18_49, hhlo_18_50, hhlo_18_51, hhlo_18_52, hhlo_18_53, hhlo_18_54⟩ := hp_17
  refine g_ctor (As := [.ref (b + 2), .ref (b + 48)]) (rest := [.ref (b + 47), .ref (b + 0)]) S hG (by omega) (kX4_init_47 l ((hlo_18 47 (by decide) (by decide)).trans rfl)) wI_11_57 dX11_init_109 rfl hl.1 (ar := 2) (by decide +kernel) rfl ⟨Nat.le_of_ble_eq_true rfl, Nat.le_of_ble_eq_true rfl, Nat.le_of_ble_eq_true rfl, Nat.le_of_ble_eq_true rfl⟩ (Nat.le_of_ble_eq_true rfl) (fun u_E_19 H locs hp_20 hG => ?_)
  obtain ⟨n_E_19, E_19⟩ := u_E_19
  dsimp only at hp_20 hG
  refine W.widen (k := 57) (n := 58447) (Nat.le_of_ble_eq_true rfl) (Nat.le_of_ble_eq_true rfl) ?_
  obtain ⟨rfl, hlo_21, hhlo_21_47, hhlo_21_55, hhlo_21_56, hhlo_21_57⟩ := hp_20
  refine g_putF (fs' := [.ref (b + 1), .int 0, .ref (b + 2), .ref (b + 12), .int 0, .int (-1), .ref (b + 33), .ref (b + 40), .ref (b + 47), .null, .null, .null, .null, .null, .null, .int 0, .int 0, .int 0, .int 0]) S hG (hin rfl) 0 8 ((hlo_21 0 (by decide) (by decide)).trans ((hlo_18 0 (by decide) (by decide)).trans rfl)) cpX11 wm_673 dX11_init_112 rfl (by omega) (by decide) (Nat.le_of_ble_eq_true rfl) rfl rfl rfl rfl (fun H locs hG => ?_)
  refine lv_aload_n hx hb dX11_init_115 rfl (lv_at hl 0 rfl) ?_
  refine g_new (fs := [.null, .null, .null, .null, .int 0, .int 0, .int 0, .int 0, .int 0, .null, .int 0, .null, .int 0, .int 0, .int 0]) S hG (by omega) cpX9 wm_460 wm_461 wm_183 dX11_init_116 (by decide +kernel) ⟨Nat.le_of_ble_eq_true rfl, Nat.le_of_ble_eq_true rfl⟩ (fun H hG => ?_)
  refine W.widen (k := 58) (n := 58462) (Nat.le_of_ble_eq_true rfl) (Nat.le_of_ble_eq_true rfl) ?_
  refine lv_dup hx hb dX11_init_119 rfl ?_
  refine lv_aload_n hx hb dX11_init_120 rfl (lv_at hl 0 rfl) ?_
  refine g_get S hG 0 2 rfl cpX11 wm_667 dX11_init_121 rfl (by omega) (by decide) ?_
  refine lv_aload_n hx hb dX11_init_124 rfl (lv_at hl 0 rfl) ?_
  refine g_get S hG 0 7 rfl cpX11 wm_672 dX11_init_125 rfl (by omega) (by decide) ?_
  refine g_new (fs := [.null, .null, .int 0, .null, .null, .int 0]) S hG (by omega) cpX8 wm_462 wm_463 wm_184 dX11_init_128 (by decide +kernel) ⟨Nat.le_of_ble_eq_true rfl, Nat.le_of_ble_eq_true rfl⟩ (fun H hG => ?_)
  refine W.widen (k := 59) (n := 58468) (Nat.le_of_ble_eq_true rfl) (Nat.le_of_ble_eq_true rfl) ?_
  refine lv_dup hx hb dX11_init_131 rfl ?_
  refine lv_aload_n hx hb dX11_init_132 rfl (lv_at hl 0 rfl) ?_
  refine g_get S hG 0 2 rfl cpX11 wm_667 dX11_init_133 rfl (by omega) (by decide) ?_
  refine lv_aload_n hx hb dX11_init_136 rfl (lv_at hl 0 rfl) ?_
  refine g_get S hG 0 7 rfl cpX11 wm_672 dX11_init_137 rfl (by omega) (by decide) ?_
  refine g_ctor (As := [.ref (b + 2), .ref (b + 40)]) (rest := [.ref (b + 59), .ref (b + 40), .ref (b + 2), .ref (b + 58), .ref (b + 58), .ref (b + 0)]) S hG (by omega) (kX8_init_59 l rfl) wI_11_68 dX11_init_140 rfl hl.1 (ar := 2) (by decide +kernel) rfl ⟨Nat.le_of_ble_eq_true rfl, Nat.le_of_ble_eq_true rfl, Nat.le_of_ble_eq_true rfl, Nat.le_of_ble_eq_true rfl⟩ (Nat.le_of_ble_eq_true rfl) (fun u_E_22 H locs hp_23 hG => ?_)
  obtain ⟨n_E_22, E_22⟩ := u_E_22
  dsimp only at hp_23 hG
  refine W.widen (k := 61) (n := 58668) (Nat.le_of_ble_eq_true rfl) (Nat.le_of_ble_eq_true rfl) ?_
  obtain ⟨rfl, hlo_24, hhlo_24_59, hhlo_24_60, hhlo_24_61⟩ := hp_23
  refine g_ctor (As := [.ref (b + 2), .ref (b + 40), .ref (b + 59)]) (rest := [.ref (b + 58), .ref (b + 0)]) S hG (by omega) (kX9_init_58 l ((hlo_24 58 (by decide) (by decide)).trans rfl)) wI_11_69 dX11_init_143 rfl hl.1 (ar := 3) (by decide +kernel) rfl ⟨Nat.le_of_ble_eq_true rfl, Nat.le_of_ble_eq_true rfl, Nat.le_of_ble_eq_true rfl, Nat.le_of_ble_eq_true rfl⟩ (Nat.le_of_ble_eq_true rfl) (fun u_E_25 H locs hp_26 hG => ?_)
  obtain ⟨n_E_25, E_25⟩ := u_E_25
  dsimp only at hp_26 hG
  refine W.widen (k := 64) (n := 60050) (Nat.le_of_ble_eq_true rfl) (Nat.le_of_ble_eq_true rfl) ?_
  obtain ⟨rfl, hlo_27, hhlo_27_58, hhlo_27_62, hhlo_27_63, hhlo_27_64⟩ := hp_26
  refine g_putF (fs' := [.ref (b + 1), .int 0, .ref (b + 2), .ref (b + 12), .int 0, .int (-1), .ref (b + 33), .ref (b + 40), .ref (b + 47), .ref (b + 58), .null, .null, .null, .null, .null, .int 0, .int 0, .int 0, .int 0]) S hG (hin rfl) 0 9 ((hlo_27 0 (by decide) (by decide)).trans ((hlo_24 0 (by decide) (by decide)).trans rfl)) cpX11 wm_674 dX11_init_146 rfl (by omega) (by decide) (Nat.le_of_ble_eq_true rfl) rfl rfl rfl rfl (fun H locs hG => ?_)
  refine lv_aload_n hx hb dX11_init_149 rfl (lv_at hl 0 rfl) ?_
  refine g_new (fs := [.null, .null, .null, .int 0, .int 0, .int 0, .int 0, .null, .int 0, .null, .int 0, .null, .int 0]) S hG (by omega) cpX10 wm_551 wm_552 wm_185 dX11_init_150 (by decide +kernel) ⟨Nat.le_of_ble_eq_true rfl, Nat.le_of_ble_eq_true rfl⟩ (fun H hG => ?_)
  refine W.widen (k := 65) (n := 60063) (Nat.le_of_ble_eq_true rfl) (Nat.le_of_ble_eq_true rfl) ?_
  refine lv_dup hx hb dX11_init_153 rfl ?_
  refine lv_aload_n hx hb dX11_init_154 rfl (lv_at hl 0 rfl) ?_
  refine g_get S hG 0 2 rfl cpX11 wm_667 dX11_init_155 rfl (by omega) (by decide) ?_
  refine g_ctor (As := [.ref (b + 2)]) (rest := [.ref (b + 65), .ref (b + 0)]) S hG (by omega) (kX10_init_65 l rfl) wI_11_78 dX11_init_158 rfl hl.1 (ar := 1) (by decide +kernel) rfl ⟨Nat.le_of_ble_eq_true rfl, Nat.le_of_ble_eq_true rfl, Nat.le_of_ble_eq_true rfl, Nat.le_of_ble_eq_true rfl⟩ (Nat.le_of_ble_eq_true rfl) (fun u_E_28 H locs hp_29 hG => ?_)
  obtain ⟨n_E_28, E_28⟩ := u_E_28
  dsimp only at hp_29 hG
  refine W.widen (k := 70) (n := 60264) (Nat.le_of_ble_eq_true rfl) (Nat.le_of_ble_eq_true rfl) ?_
  obtain ⟨rfl, hlo_30, hhlo_30_65, hhlo_30_66, hhlo_30_67, hhlo_30_68, hhlo_30_69, hhlo_30_70⟩ := hp_29
  refine g_putF (fs' := [.ref (b + 1), .int 0, .ref (b + 2), .ref (b + 12), .int 0, .int (-1), .ref (b + 33), .ref (b + 40), .ref (b + 47), .ref (b + 58), .ref (b + 65), .null, .null, .null, .null, .int 0, .int 0, .int 0, .int 0]) S hG (hin rfl) 0 10 ((hlo_30 0 (by decide) (by decide)).trans rfl) cpX11 wm_675 dX11_init_161 rfl (by omega) (by decide) (Nat.le_of_ble_eq_true rfl) rfl rfl rfl rfl (fun H locs hG => ?_)
  refine lv_aload_n hx hb dX11_init_164 rfl (lv_at hl 0 rfl) ?_
  refine g_new (fs := [.null, .long 0, .null, .null, .null, .null, .int 0, .int 0, .null]) S hG (by omega) cpX7 wm_598 wm_599 wm_186 dX11_init_165 (by decide +kernel) ⟨Nat.le_of_ble_eq_true rfl, Nat.le_of_ble_eq_true rfl⟩ (fun H hG => ?_)
  refine W.widen (k := 71) (n := 60273) (Nat.le_of_ble_eq_true rfl) (Nat.le_of_ble_eq_true rfl) ?_
  refine lv_dup hx hb dX11_init_168 rfl ?_
  refine lv_aload_n hx hb dX11_init_169 rfl (lv_at hl 0 rfl) ?_
  refine g_get S hG 0 9 rfl cpX11 wm_674 dX11_init_170 rfl (by omega) (by decide) ?_
  refine g_ctor (As := [.ref (b + 58)]) (rest := [.ref (b + 71), .ref (b + 0)]) S hG (by omega) (kX7_init_71 l rfl) wI_11_85 dX11_init_173 rfl hl.1 (ar := 1) (by decide +kernel) rfl ⟨Nat.le_of_ble_eq_true rfl, Nat.le_of_ble_eq_true rfl, Nat.le_of_ble_eq_true rfl, Nat.le_of_ble_eq_true rfl⟩ (Nat.le_of_ble_eq_true rfl) (fun u_E_31 H locs hp_32 hG => ?_)
  obtain ⟨n_E_31, E_31⟩ := u_E_31
  dsimp only at hp_32 hG
  refine W.widen (k := 76) (n := 62891) (Nat.le_of_ble_eq_true rfl) (Nat.le_of_ble_eq_true rfl) ?_
  obtain ⟨rfl, hlo_33, hhlo_33_71, hhlo_33_72, hhlo_33_73, hhlo_33_74, hhlo_33_75, hhlo_33_76⟩ := hp_32
  refine g_putF (fs' := [.ref (b + 1), .int 0, .ref (b + 2), .ref (b + 12), .int 0, .int (-1), .ref (b + 33), .ref (b + 40), .ref (b + 47), .ref (b + 58), .ref (b + 65), .ref (b + 71), .null, .null, .null, .int 0, .int 0, .int 0, .int 0]) S hG (hin rfl) 0 11 ((hlo_33 0 (by decide) (by decide)).trans rfl) cpX11 wm_676 dX11_init_176 rfl (by omega) (by decide) (Nat.le_of_ble_eq_true rfl) rfl rfl rfl rfl (fun H locs hG => ?_)
  refine lv_aload_n hx hb dX11_init_179 rfl (lv_at hl 0 rfl) ?_
  refine g_new (fs := [.null, .int 0, .int 0, .int 0, .int 0, .int 0, .int 0]) S hG (by omega) cpX1 wm_636 wm_637 wm_187 dX11_init_180 (by decide +kernel) ⟨Nat.le_of_ble_eq_true rfl, Nat.le_of_ble_eq_true rfl⟩ (fun H hG => ?_)
  refine W.widen (k := 77) (n := 62898) (Nat.le_of_ble_eq_true rfl) (Nat.le_of_ble_eq_true rfl) ?_
  refine lv_dup hx hb dX11_init_183 rfl ?_
  refine lv_aload_n hx hb dX11_init_184 rfl (lv_at hl 0 rfl) ?_
  refine g_get S hG 0 7 rfl cpX11 wm_672 dX11_init_185 rfl (by omega) (by decide) ?_
  refine g_ctor (As := [.ref (b + 40)]) (rest := [.ref (b + 77), .ref (b + 0)]) S hG (by omega) (kX1_init_77 l rfl) wI_11_94 dX11_init_188 rfl hl.1 (ar := 1) (by decide +kernel) rfl ⟨Nat.le_of_ble_eq_true rfl, Nat.le_of_ble_eq_true rfl, Nat.le_of_ble_eq_true rfl, Nat.le_of_ble_eq_true rfl⟩ (Nat.le_of_ble_eq_true rfl) (fun u_E_34 H locs hp_35 hG => ?_)
  obtain ⟨n_E_34, E_34⟩ := u_E_34
  dsimp only at hp_35 hG
  refine W.widen (k := 77) (n := 62898) (Nat.le_of_ble_eq_true rfl) (Nat.le_of_ble_eq_true rfl) ?_
  obtain ⟨rfl, hlo_36, hhlo_36_77⟩ := hp_35
  refine g_putF (fs' := [.ref (b + 1), .int 0, .ref (b + 2), .ref (b + 12), .int 0, .int (-1), .ref (b + 33), .ref (b + 40), .ref (b + 47), .ref (b + 58), .ref (b + 65), .ref (b + 71), .ref (b + 77), .null, .null, .int 0, .int 0, .int 0, .int 0]) S hG (hin rfl) 0 12 ((hlo_36 0 (by decide) (by decide)).trans rfl) cpX11 wm_677 dX11_init_191 rfl (by omega) (by decide) (Nat.le_of_ble_eq_true rfl) rfl rfl rfl rfl (fun H locs hG => ?_)
  refine lv_aload_n hx hb dX11_init_194 rfl (lv_at hl 0 rfl) ?_
  refine lv_bipush (v := 40) hx hb dX11_init_195 (by decide) ?_
  refine g_newa (atype := .byte) (ty := .byte) (N := 40) (a0 := (40, .inl (fun _ => 0))) S hG (by omega) 0 rfl rfl (fun h => h) wm_305 (fun _ => rfl) dX11_init_197 (by decide) (by decide) (by decide) ⟨Nat.le_of_ble_eq_true rfl, Nat.le_of_ble_eq_true rfl⟩ (fun H hG => ?_)
  refine W.widen (k := 78) (n := 62938) (Nat.le_of_ble_eq_true rfl) (Nat.le_of_ble_eq_true rfl) ?_
  refine g_putF (fs' := [.ref (b + 1), .int 0, .ref (b + 2), .ref (b + 12), .int 0, .int (-1), .ref (b + 33), .ref (b + 40), .ref (b + 47), .ref (b + 58), .ref (b + 65), .ref (b + 71), .ref (b + 77), .ref (b + 78), .null, .int 0, .int 0, .int 0, .int 0]) S hG (hin rfl) 0 13 rfl cpX11 wm_678 dX11_init_199 rfl (by omega) (by decide) (Nat.le_of_ble_eq_true rfl) rfl rfl rfl rfl (fun H locs hG => ?_)
  refine lv_aload_n hx hb dX11_init_202 rfl (lv_at hl 0 rfl) ?_
  refine lv_bipush (v := 10) hx hb dX11_init_203 (by decide) ?_
  refine g_newa (atype := .int) (ty := .int) (N := 10) (a0 := (10, .inl (fun _ => 0))) S hG (by omega) 1 rfl rfl (fun h => h) wm_306 (fun _ => rfl) dX11_init_205 (by decide) (by decide) (by decide) ⟨Nat.le_of_ble_eq_true rfl, Nat.le_of_ble_eq_true rfl⟩ (fun H hG => ?_)
  refine W.widen (k := 79) (n := 62948) (Nat.le_of_ble_eq_true rfl) (Nat.le_of_ble_eq_true rfl) ?_
  refine g_putF (fs' := [.ref (b + 1), .int 0, .ref (b + 2), .ref (b + 12), .int 0, .int (-1), .ref (b + 33), .ref (b + 40), .ref (b + 47), .ref (b + 58), .ref (b + 65), .ref (b + 71), .ref (b + 77), .ref (b + 78), .ref (b + 79), .int 0, .int 0, .int 0, .int 0]) S hG (hin rfl) 0 14 rfl cpX11 wm_679 dX11_init_207 rfl (by omega) (by decide) (Nat.le_of_ble_eq_true rfl) rfl rfl rfl rfl (fun H locs hG => ?_)
  refine lv_aload_n hx hb dX11_init_210 rfl (lv_at hl 0 rfl) ?_
  refine lv_iconst (v := 0) hx hb dX11_init_211 (by decide) ?_
  refine g_put (fs' := [.ref (b + 1), .int 0, .ref (b + 2), .ref (b + 12), .int 0, .int (-1), .ref (b + 33), .ref (b + 40), .ref (b + 47), .ref (b + 58), .ref (b + 65), .ref (b + 71), .ref (b + 77), .ref (b + 78), .ref (b + 79), .int 0, .int 0, .int 0, .int 0]) S hG 0 15 rfl cpX11 wm_680 dX11_init_212 rfl (by omega) (by decide) (Nat.le_of_ble_eq_true rfl) rfl rfl rfl (fun H locs hG => ?_)
  refine lv_aload_n hx hb dX11_init_215 rfl (lv_at hl 0 rfl) ?_
  refine lv_iconst (v := 0) hx hb dX11_init_216 (by decide) ?_
  refine g_put (fs' := [.ref (b + 1), .int 0, .ref (b + 2), .ref (b + 12), .int 0, .int (-1), .ref (b + 33), .ref (b + 40), .ref (b + 47), .ref (b + 58), .ref (b + 65), .ref (b + 71), .ref (b + 77), .ref (b + 78), .ref (b + 79), .int 0, .int 0, .int 0, .int 0]) S hG 0 16 rfl cpX11 wm_681 dX11_init_217 rfl (by omega) (by decide) (Nat.le_of_ble_eq_true rfl) rfl rfl rfl (fun H locs hG => ?_)
  refine lv_aload_n hx hb dX11_init_220 rfl (lv_at hl 0 rfl) ?_
  refine lv_iconst (v := (-1)) hx hb dX11_init_221 (by decide) ?_
  refine g_put (fs' := [.ref (b + 1), .int 0, .ref (b + 2), .ref (b + 12), .int 0, .int (-1), .ref (b + 33), .ref (b + 40), .ref (b + 47), .ref (b + 58), .ref (b + 65), .ref (b + 71), .ref (b + 77), .ref (b + 78), .ref (b + 79), .int 0, .int 0, .int (-1), .int 0]) S hG 0 17 rfl cpX11 wm_682 dX11_init_222 rfl (by omega) (by decide) (Nat.le_of_ble_eq_true rfl) rfl rfl rfl (fun H locs hG => ?_)
  refine lv_aload_n hx hb dX11_init_225 rfl (lv_at hl 0 rfl) ?_
  refine lv_iconst (v := (-1)) hx hb dX11_init_226 (by decide) ?_
  refine g_put (fs' := [.ref (b + 1), .int 0, .ref (b + 2), .ref (b + 12), .int 0, .int (-1), .ref (b + 33), .ref (b + 40), .ref (b + 47), .ref (b + 58), .ref (b + 65), .ref (b + 71), .ref (b + 77), .ref (b + 78), .ref (b + 79), .int 0, .int 0, .int (-1), .int (-1)]) S hG 0 18 rfl cpX11 wm_683 dX11_init_227 rfl (by omega) (by decide) (Nat.le_of_ble_eq_true rfl) rfl rfl rfl (fun H locs hG => ?_)
  exact g_vret S hr hlk hG (by omega) dX11_init_230 ⟨Nat.le_of_ble_eq_true rfl, Nat.le_of_ble_eq_true rfl⟩ ⟨rfl, fun j h1 h2 => (upE_n (by omega)).trans ((upE_n (by omega)).trans ((upE_n (by omega)).trans ((upE_n (by omega)).trans ((upE_n (by omega)).trans ((upE_n (by omega)).trans ((upE_n (by omega)).trans ((upE_n (by omega)).trans ((upE_n (by omega)).trans ((hlo_36 j (by omega) (by omega)).trans ((upE_n (by omega)).trans ((upE_n (by omega)).trans ((hlo_33 j (by omega) (by omega)).trans ((upE_n (by omega)).trans ((upE_n (by omega)).trans ((hlo_30 j (by omega) (by omega)).trans ((upE_n (by omega)).trans ((upE_n (by omega)).trans ((hlo_27 j (by omega) (by omega)).trans ((hlo_24 j (by omega) (by omega)).trans ((upE_n (by omega)).trans ((upE_n (by omega)).trans ((upE_n (by omega)).trans ((hlo_21 j (by omega) (by omega)).trans ((hlo_18 j (by omega) (by omega)).trans ((upE_n (by omega)).trans ((upE_n (by omega)).trans ((upE_n (by omega)).trans ((hlo_15 j (by omega) (by omega)).trans ((upE_n (by omega)).trans ((upE_n (by omega)).trans ((hlo_12 j (by omega) (by omega)).trans ((upE_n (by omega)).trans ((upE_n (by omega)).trans ((upE_n (by omega)).trans ((upE_n (by omega)).trans ((hlo_9 j (by omega) (by omega)).trans ((hlo_6 j (by omega) (by omega)).trans ((upE_n (by omega)).trans ((upE_n (by omega)).trans ((upE_n (by omega)).trans ((hlo_3 j (by omega) (by omega)).trans ((upE_n (by omega)).trans ((upE_n (by omega)).trans ((upE_n (by omega)).trans ((upE_n (by omega)).trans (rfl)))))))))))))))))))))))))))))))))))))))))))))), rfl, ((hlo_36 1 (by decide) (by decide)).trans ((hlo_33 1 (by decide) (by decide)).trans ((hlo_30 1 (by decide) (by decide)).trans ((hlo_27 1 (by decide) (by decide)).trans ((hlo_24 1 (by decide) (by decide)).trans ((hlo_21 1 (by decide) (by decide)).trans ((hlo_18 1 (by decide) (by decide)).trans ((hlo_15 1 (by decide) (by decide)).trans ((hlo_12 1 (by decide) (by decide)).trans ((hlo_9 1 (by decide) (by decide)).trans ((hlo_6 1 (by decide) (by decide)).trans ((hlo_3 1 (by decide) (by decide)).trans rfl)))))))))))), ((hlo_36 2 (by decide) (by decide)).trans ((hlo_33 2 (by decide) (by decide)).trans ((hlo_30 2 (by decide) (by decide)).trans ((hlo_27 2 (by decide) (by decide)).trans ((hlo_24 2 (by decide) (by decide)).trans ((hlo_21 2 (by decide) (by decide)).trans ((hlo_18 2 (by decide) (by decide)).trans ((hlo_15 2 (by decide) (by decide)).trans ((hlo_12 2 (by decide) (by decide)).trans ((hlo_9 2 (by decide) (by decide)).trans ((hlo_6 2 (by decide) (by decide)).trans hhlo_3_2))))))))))), ((hlo_36 3 (by decide) (by decide)).trans ((hlo_33 3 (by decide) (by decide)).trans ((hlo_30 3 (by decide) (by decide)).trans ((hlo_27 3 (by decide) (by decide)).trans ((hlo_24 3 (by decide) (by decide)).trans ((hlo_21 3 (by decide) (by decide)).trans ((hlo_18 3 (by decide) (by decide)).trans ((hlo_15 3 (by decide) (by decide)).trans ((hlo_12 3 (by decide) (by decide)).trans ((hlo_9 3 (by decide) (by decide)).trans ((hlo_6 3 (by decide) (by decide)).trans hhlo_3_3))))))))))), ((hlo_36 4 (by decide) (by decide)).trans ((hlo_33 4 (by decide) (by decide)).trans ((hlo_30 4 (by decide) (by decide)).trans ((hlo_27 4 (by decide) (by decide)).trans ((hlo_24 4 (by decide) (by decide)).trans ((hlo_21 4 (by decide) (by decide)).trans ((hlo_18 4 (by decide) (by decide)).trans ((hlo_15 4 (by decide) (by decide)).trans ((hlo_12 4 (by decide) (by decide)).trans ((hlo_9 4 (by decide) (by decide)).trans ((hlo_6 4 (by decide) (by decide)).trans hhlo_3_4))))))))))), ((hlo_36 5 (by decide) (by decide)).trans ((hlo_33 5 (by decide) (by decide)).trans ((hlo_30 5 (by decide) (by decide)).trans ((hlo_27 5 (by decide) (by decide)).trans ((hlo_24 5 (by decide) (by decide)).trans ((hlo_21 5 (by decide) (by decide)).trans ((hlo_18 5 (by decide) (by decide)).trans ((hlo_15 5 (by decide) (by decide)).trans ((hlo_12 5 (by decide) (by decide)).trans ((hlo_9 5 (by decide) (by decide)).trans ((hlo_6 5 (by decide) (by decide)).trans hhlo_3_5))))))))))), ((hlo_36 6 (by decide) (by decide)).trans ((hlo_33 6 (by decide) (by decide)).trans ((hlo_30 6 (by decide) (by decide)).trans ((hlo_27 6 (by decide) (by decide)).trans ((hlo_24 6 (by decide) (by decide)).trans ((hlo_21 6 (by decide) (by decide)).trans ((hlo_18 6 (by decide) (by decide)).trans ((hlo_15 6 (by decide) (by decide)).trans ((hlo_12 6 (by decide) (by decide)).trans ((hlo_9 6 (by decide) (by decide)).trans ((hlo_6 6 (by decide) (by decide)).trans hhlo_3_6))))))))))), ((hlo_36 7 (by decide) (by decide)).trans ((hlo_33 7 (by decide) (by decide)).trans ((hlo_30 7 (by decide) (by decide)).trans ((hlo_27 7 (by decide) (by decide)).trans ((hlo_24 7 (by decide) (by decide)).trans ((hlo_21 7 (by decide) (by decide)).trans ((hlo_18 7 (by decide) (by decide)).trans ((hlo_15 7 (by decide) (by decide)).trans ((hlo_12 7 (by decide) (by decide)).trans ((hlo_9 7 (by decide) (by decide)).trans ((hlo_6 7 (by decide) (by decide)).trans hhlo_3_7))))))))))), ((hlo_36 8 (by decide) (by decide)).trans ((hlo_33 8 (by decide) (by decide)).trans ((hlo_30 8 (by decide) (by decide)).trans ((hlo_27 8 (by decide) (by decide)).trans ((hlo_24 8 (by decide) (by decide)).trans ((hlo_21 8 (by decide) (by decide)).trans ((hlo_18 8 (by decide) (by decide)).trans ((hlo_15 8 (by decide) (by decide)).trans ((hlo_12 8 (by decide) (by decide)).trans ((hlo_9 8 (by decide) (by decide)).trans ((hlo_6 8 (by decide) (by decide)).trans hhlo_3_8))))))))))), ((hlo_36 9 (by decide) (by decide)).trans ((hlo_33 9 (by decide) (by decide)).trans ((hlo_30 9 (by decide) (by decide)).trans ((hlo_27 9 (by decide) (by decide)).trans ((hlo_24 9 (by decide) (by decide)).trans ((hlo_21 9 (by decide) (by decide)).trans ((hlo_18 9 (by decide) (by decide)).trans ((hlo_15 9 (by decide) (by decide)).trans ((hlo_12 9 (by decide) (by decide)).trans ((hlo_9 9 (by decide) (by decide)).trans ((hlo_6 9 (by decide) (by decide)).trans hhlo_3_9))))))))))), ((hlo_36 10 (by decide) (by decide)).trans ((hlo_33 10 (by decide) (by decide)).trans ((hlo_30 10 (by decide) (by decide)).trans ((hlo_27 10 (by decide) (by decide)).trans ((hlo_24 10 (by decide) (by decide)).trans ((hlo_21 10 (by decide) (by decide)).trans ((hlo_18 10 (by decide) (by decide)).trans ((hlo_15 10 (by decide) (by decide)).trans ((hlo_12 10 (by decide) (by decide)).trans ((hlo_9 10 (by decide) (by decide)).trans ((hlo_6 10 (by decide) (by decide)).trans hhlo_3_10))))))))))), ((hlo_36 11 (by decide) (by decide)).trans ((hlo_33 11 (by decide) (by decide)).trans ((hlo_30 11 (by decide) (by decide)).trans ((hlo_27 11 (by decide) (by decide)).trans ((hlo_24 11 (by decide) (by decide)).trans ((hlo_21 11 (by decide) (by decide)).trans ((hlo_18 11 (by decide) (by decide)).trans ((hlo_15 11 (by decide) (by decide)).trans ((hlo_12 11 (by decide) (by decide)).trans ((hlo_9 11 (by decide) (by decide)).trans ((hlo_6 11 (by decide) (by decide)).trans hhlo_3_11))))))))))), ((hlo_36 12 (by decide) (by decide)).trans ((hlo_33 12 (by decide) (by decide)).trans ((hlo_30 12 (by decide) (by decide)).trans ((hlo_27 12 (by decide) (by decide)).trans ((hlo_24 12 (by decide) (by decide)).trans ((hlo_21 12 (by decide) (by decide)).trans ((hlo_18 12 (by decide) (by decide)).trans ((hlo_15 12 (by decide) (by decide)).trans ((hlo_12 12 (by decide) (by decide)).trans hhlo_9_12))))))))), ((hlo_36 13 (by decide) (by decide)).trans ((hlo_33 13 (by decide) (by decide)).trans ((hlo_30 13 (by decide) (by decide)).trans ((hlo_27 13 (by decide) (by decide)).trans ((hlo_24 13 (by decide) (by decide)).trans ((hlo_21 13 (by decide) (by decide)).trans ((hlo_18 13 (by decide) (by decide)).trans ((hlo_15 13 (by decide) (by decide)).trans ((hlo_12 13 (by decide) (by decide)).trans ((hlo_9 13 (by decide) (by decide)).trans hhlo_6_13)))))))))), ((hlo_36 14 (by decide) (by decide)).trans ((hlo_33 14 (by decide) (by decide)).trans ((hlo_30 14 (by decide) (by decide)).trans ((hlo_27 14 (by decide) (by decide)).trans ((hlo_24 14 (by decide) (by decide)).trans ((hlo_21 14 (by decide) (by decide)).trans ((hlo_18 14 (by decide) (by decide)).trans ((hlo_15 14 (by decide) (by decide)).trans ((hlo_12 14 (by decide) (by decide)).trans ((hlo_9 14 (by decide) (by decide)).trans hhlo_6_14)))))))))), ((hlo_36 15 (by decide) (by decide)).trans ((hlo_33 15 (by decide) (by decide)).trans ((hlo_30 15 (by decide) (by decide)).trans ((hlo_27 15 (by decide) (by decide)).trans ((hlo_24 15 (by decide) (by decide)).trans ((hlo_21 15 (by decide) (by decide)).trans ((hlo_18 15 (by decide) (by decide)).trans ((hlo_15 15 (by decide) (by decide)).trans ((hlo_12 15 (by decide) (by decide)).trans ((hlo_9 15 (by decide) (by decide)).trans hhlo_6_15)))))))))), ((hlo_36 16 (by decide) (by decide)).trans ((hlo_33 16 (by decide) (by decide)).trans ((hlo_30 16 (by decide) (by decide)).trans ((hlo_27 16 (by decide) (by decide)).trans ((hlo_24 16 (by decide) (by decide)).trans ((hlo_21 16 (by decide) (by decide)).trans ((hlo_18 16 (by decide) (by decide)).trans ((hlo_15 16 (by decide) (by decide)).trans ((hlo_12 16 (by decide) (by decide)).trans ((hlo_9 16 (by decide) (by decide)).trans hhlo_6_16)))))))))), ((hlo_36 17 (by decide) (by decide)).trans ((hlo_33 17 (by decide) (by decide)).trans ((hlo_30 17 (by decide) (by decide)).trans ((hlo_27 17 (by decide) (by decide)).trans ((hlo_24 17 (by decide) (by decide)).trans ((hlo_21 17 (by decide) (by decide)).trans ((hlo_18 17 (by decide) (by decide)).trans ((hlo_15 17 (by decide) (by decide)).trans ((hlo_12 17 (by decide) (by decide)).trans ((hlo_9 17 (by decide) (by decide)).trans hhlo_6_17)))))))))), ((hlo_36 18 (by decide) (by decide)).trans ((hlo_33 18 (by decide) (by decide)).trans ((hlo_30 18 (by decide) (by decide)).trans ((hlo_27 18 (by decide) (by decide)).trans ((hlo_24 18 (by decide) (by decide)).trans ((hlo_21 18 (by decide) (by decide)).trans ((hlo_18 18 (by decide) (by decide)).trans ((hlo_15 18 (by decide) (by decide)).trans ((hlo_12 18 (by decide) (by decide)).trans ((hlo_9 18 (by decide) (by decide)).trans hhlo_6_18)))))))))), ((hlo_36 19 (by decide) (by decide)).trans ((hlo_33 19 (by decide) (by decide)).trans ((hlo_30 19 (by decide) (by decide)).trans ((hlo_27 19 (by decide) (by decide)).trans ((hlo_24 19 (by decide) (by decide)).trans ((hlo_21 19 (by decide) (by decide)).trans ((hlo_18 19 (by decide) (by decide)).trans ((hlo_15 19 (by decide) (by decide)).trans ((hlo_12 19 (by decide) (by decide)).trans ((hlo_9 19 (by decide) (by decide)).trans hhlo_6_19)))))))))), ((hlo_36 20 (by decide) (by decide)).trans ((hlo_33 20 (by decide) (by decide)).trans ((hlo_30 20 (by decide) (by decide)).trans ((hlo_27 20 (by decide) (by decide)).trans ((hlo_24 20 (by decide) (by decide)).trans ((hlo_21 20 (by decide) (by decide)).trans ((hlo_18 20 (by decide) (by decide)).trans ((hlo_15 20 (by decide) (by decide)).trans ((hlo_12 20 (by decide) (by decide)).trans ((hlo_9 20 (by decide) (by decide)).trans hhlo_6_20)))))))))), ((hlo_36 21 (by decide) (by decide)).trans ((hlo_33 21 (by decide) (by decide)).trans ((hlo_30 21 (by decide) (by decide)).trans ((hlo_27 21 (by decide) (by decide)).trans ((hlo_24 21 (by decide) (by decide)).trans ((hlo_21 21 (by decide) (by decide)).trans ((hlo_18 21 (by decide) (by decide)).trans ((hlo_15 21 (by decide) (by decide)).trans ((hlo_12 21 (by decide) (by decide)).trans ((hlo_9 21 (by decide) (by decide)).trans hhlo_6_21)))))))))), ((hlo_36 22 (by decide) (by decide)).trans ((hlo_33 22 (by decide) (by decide)).trans ((hlo_30 22 (by decide) (by decide)).trans ((hlo_27 22 (by decide) (by decide)).trans ((hlo_24 22 (by decide) (by decide)).trans ((hlo_21 22 (by decide) (by decide)).trans ((hlo_18 22 (by decide) (by decide)).trans ((hlo_15 22 (by decide) (by decide)).trans ((hlo_12 22 (by decide) (by decide)).trans ((hlo_9 22 (by decide) (by decide)).trans hhlo_6_22)))))))))), ((hlo_36 23 (by decide) (by decide)).trans ((hlo_33 23 (by decide) (by decide)).trans ((hlo_30 23 (by decide) (by decide)).trans ((hlo_27 23 (by decide) (by decide)).trans ((hlo_24 23 (by decide) (by decide)).trans ((hlo_21 23 (by decide) (by decide)).trans ((hlo_18 23 (by decide) (by decide)).trans ((hlo_15 23 (by decide) (by decide)).trans ((hlo_12 23 (by decide) (by decide)).trans hhlo_9_23))))))))), ((hlo_36 24 (by decide) (by decide)).trans ((hlo_33 24 (by decide) (by decide)).trans ((hlo_30 24 (by decide) (by decide)).trans ((hlo_27 24 (by decide) (by decide)).trans ((hlo_24 24 (by decide) (by decide)).trans ((hlo_21 24 (by decide) (by decide)).trans ((hlo_18 24 (by decide) (by decide)).trans ((hlo_15 24 (by decide) (by decide)).trans ((hlo_12 24 (by decide) (by decide)).trans hhlo_9_24))))))))), ((hlo_36 25 (by decide) (by decide)).trans ((hlo_33 25 (by decide) (by decide)).trans ((hlo_30 25 (by decide) (by decide)).trans ((hlo_27 25 (by decide) (by decide)).trans ((hlo_24 25 (by decide) (by decide)).trans ((hlo_21 25 (by decide) (by decide)).trans ((hlo_18 25 (by decide) (by decide)).trans ((hlo_15 25 (by decide) (by decide)).trans ((hlo_12 25 (by decide) (by decide)).trans hhlo_9_25))))))))), ((hlo_36 26 (by decide) (by decide)).trans ((hlo_33 26 (by decide) (by decide)).trans ((hlo_30 26 (by decide) (by decide)).trans ((hlo_27 26 (by decide) (by decide)).trans ((hlo_24 26 (by decide) (by decide)).trans ((hlo_21 26 (by decide) (by decide)).trans ((hlo_18 26 (by decide) (by decide)).trans ((hlo_15 26 (by decide) (by decide)).trans ((hlo_12 26 (by decide) (by decide)).trans hhlo_9_26))))))))), ((hlo_36 27 (by decide) (by decide)).trans ((hlo_33 27 (by decide) (by decide)).trans ((hlo_30 27 (by decide) (by decide)).trans ((hlo_27 27 (by decide) (by decide)).trans ((hlo_24 27 (by decide) (by decide)).trans ((hlo_21 27 (by decide) (by decide)).trans ((hlo_18 27 (by decide) (by decide)).trans ((hlo_15 27 (by decide) (by decide)).trans ((hlo_12 27 (by decide) (by decide)).trans hhlo_9_27))))))))), ((hlo_36 28 (by decide) (by decide)).trans ((hlo_33 28 (by decide) (by decide)).trans ((hlo_30 28 (by decide) (by decide)).trans ((hlo_27 28 (by decide) (by decide)).trans ((hlo_24 28 (by decide) (by decide)).trans ((hlo_21 28 (by decide) (by decide)).trans ((hlo_18 28 (by decide) (by decide)).trans ((hlo_15 28 (by decide) (by decide)).trans ((hlo_12 28 (by decide) (by decide)).trans hhlo_9_28))))))))), ((hlo_36 29 (by decide) (by decide)).trans ((hlo_33 29 (by decide) (by decide)).trans ((hlo_30 29 (by decide) (by decide)).trans ((hlo_27 29 (by decide) (by decide)).trans ((hlo_24 29 (by decide) (by decide)).trans ((hlo_21 29 (by decide) (by decide)).trans ((hlo_18 29 (by decide) (by decide)).trans ((hlo_15 29 (by decide) (by decide)).trans ((hlo_12 29 (by decide) (by decide)).trans hhlo_9_29))))))))), ((hlo_36 30 (by decide) (by decide)).trans ((hlo_33 30 (by decide) (by decide)).trans ((hlo_30 30 (by decide) (by decide)).trans ((hlo_27 30 (by decide) (by decide)).trans ((hlo_24 30 (by decide) (by decide)).trans ((hlo_21 30 (by decide) (by decide)).trans ((hlo_18 30 (by decide) (by decide)).trans ((hlo_15 30 (by decide) (by decide)).trans ((hlo_12 30 (by decide) (by decide)).trans hhlo_9_30))))))))), ((hlo_36 31 (by decide) (by decide)).trans ((hlo_33 31 (by decide) (by decide)).trans ((hlo_30 31 (by decide) (by decide)).trans ((hlo_27 31 (by decide) (by decide)).trans ((hlo_24 31 (by decide) (by decide)).trans ((hlo_21 31 (by decide) (by decide)).trans ((hlo_18 31 (by decide) (by decide)).trans ((hlo_15 31 (by decide) (by decide)).trans ((hlo_12 31 (by decide) (by decide)).trans hhlo_9_31))))))))), ((hlo_36 32 (by decide) (by decide)).trans ((hlo_33 32 (by decide) (by decide)).trans ((hlo_30 32 (by decide) (by decide)).trans ((hlo_27 32 (by decide) (by decide)).trans ((hlo_24 32 (by decide) (by decide)).trans ((hlo_21 32 (by decide) (by decide)).trans ((hlo_18 32 (by decide) (by decide)).trans ((hlo_15 32 (by decide) (by decide)).trans ((hlo_12 32 (by decide) (by decide)).trans hhlo_9_32))))))))), ((hlo_36 33 (by decide) (by decide)).trans ((hlo_33 33 (by decide) (by decide)).trans ((hlo_30 33 (by decide) (by decide)).trans ((hlo_27 33 (by decide) (by decide)).trans ((hlo_24 33 (by decide) (by decide)).trans ((hlo_21 33 (by decide) (by decide)).trans ((hlo_18 33 (by decide) (by decide)).trans ((hlo_15 33 (by decide) (by decide)).trans hhlo_12_33)))))))), ((hlo_36 34 (by decide) (by decide)).trans ((hlo_33 34 (by decide) (by decide)).trans ((hlo_30 34 (by decide) (by decide)).trans ((hlo_27 34 (by decide) (by decide)).trans ((hlo_24 34 (by decide) (by decide)).trans ((hlo_21 34 (by decide) (by decide)).trans ((hlo_18 34 (by decide) (by decide)).trans ((hlo_15 34 (by decide) (by decide)).trans hhlo_12_34)))))))), ((hlo_36 35 (by decide) (by decide)).trans ((hlo_33 35 (by decide) (by decide)).trans ((hlo_30 35 (by decide) (by decide)).trans ((hlo_27 35 (by decide) (by decide)).trans ((hlo_24 35 (by decide) (by decide)).trans ((hlo_21 35 (by decide) (by decide)).trans ((hlo_18 35 (by decide) (by decide)).trans ((hlo_15 35 (by decide) (by decide)).trans hhlo_12_35)))))))), ((hlo_36 36 (by decide) (by decide)).trans ((hlo_33 36 (by decide) (by decide)).trans ((hlo_30 36 (by decide) (by decide)).trans ((hlo_27 36 (by decide) (by decide)).trans ((hlo_24 36 (by decide) (by decide)).trans ((hlo_21 36 (by decide) (by decide)).trans ((hlo_18 36 (by decide) (by decide)).trans ((hlo_15 36 (by decide) (by decide)).trans hhlo_12_36)))))))), ((hlo_36 37 (by decide) (by decide)).trans ((hlo_33 37 (by decide) (by decide)).trans ((hlo_30 37 (by decide) (by decide)).trans ((hlo_27 37 (by decide) (by decide)).trans ((hlo_24 37 (by decide) (by decide)).trans ((hlo_21 37 (by decide) (by decide)).trans ((hlo_18 37 (by decide) (by decide)).trans ((hlo_15 37 (by decide) (by decide)).trans hhlo_12_37)))))))), ((hlo_36 38 (by decide) (by decide)).trans ((hlo_33 38 (by decide) (by decide)).trans ((hlo_30 38 (by decide) (by decide)).trans ((hlo_27 38 (by decide) (by decide)).trans ((hlo_24 38 (by decide) (by decide)).trans ((hlo_21 38 (by decide) (by decide)).trans ((hlo_18 38 (by decide) (by decide)).trans ((hlo_15 38 (by decide) (by decide)).trans hhlo_12_38)))))))), ((hlo_36 39 (by decide) (by decide)).trans ((hlo_33 39 (by decide) (by decide)).trans ((hlo_30 39 (by decide) (by decide)).trans ((hlo_27 39 (by decide) (by decide)).trans ((hlo_24 39 (by decide) (by decide)).trans ((hlo_21 39 (by decide) (by decide)).trans ((hlo_18 39 (by decide) (by decide)).trans ((hlo_15 39 (by decide) (by decide)).trans hhlo_12_39)))))))), ((hlo_36 40 (by decide) (by decide)).trans ((hlo_33 40 (by decide) (by decide)).trans ((hlo_30 40 (by decide) (by decide)).trans ((hlo_27 40 (by decide) (by decide)).trans ((hlo_24 40 (by decide) (by decide)).trans ((hlo_21 40 (by decide) (by decide)).trans ((hlo_18 40 (by decide) (by decide)).trans hhlo_15_40))))))), ((hlo_36 41 (by decide) (by decide)).trans ((hlo_33 41 (by decide) (by decide)).trans ((hlo_30 41 (by decide) (by decide)).trans ((hlo_27 41 (by decide) (by decide)).trans ((hlo_24 41 (by decide) (by decide)).trans ((hlo_21 41 (by decide) (by decide)).trans ((hlo_18 41 (by decide) (by decide)).trans hhlo_15_41))))))), ((hlo_36 42 (by decide) (by decide)).trans ((hlo_33 42 (by decide) (by decide)).trans ((hlo_30 42 (by decide) (by decide)).trans ((hlo_27 42 (by decide) (by decide)).trans ((hlo_24 42 (by decide) (by decide)).trans ((hlo_21 42 (by decide) (by decide)).trans ((hlo_18 42 (by decide) (by decide)).trans hhlo_15_42))))))), ((hlo_36 43 (by decide) (by decide)).trans ((hlo_33 43 (by decide) (by decide)).trans ((hlo_30 43 (by decide) (by decide)).trans ((hlo_27 43 (by decide) (by decide)).trans ((hlo_24 43 (by decide) (by decide)).trans ((hlo_21 43 (by decide) (by decide)).trans ((hlo_18 43 (by decide) (by decide)).trans hhlo_15_43))))))), ((hlo_36 44 (by decide) (by decide)).trans ((hlo_33 44 (by decide) (by decide)).trans ((hlo_30 44 (by decide) (by decide)).trans ((hlo_27 44 (by decide) (by decide)).trans ((hlo_24 44 (by decide) (by decide)).trans ((hlo_21 44 (by decide) (by decide)).trans ((hlo_18 44 (by decide) (by decide)).trans hhlo_15_44))))))), ((hlo_36 45 (by decide) (by decide)).trans ((hlo_33 45 (by decide) (by decide)).trans ((hlo_30 45 (by decide) (by decide)).trans ((hlo_27 45 (by decide) (by decide)).trans ((hlo_24 45 (by decide) (by decide)).trans ((hlo_21 45 (by decide) (by decide)).trans ((hlo_18 45 (by decide) (by decide)).trans hhlo_15_45))))))), ((hlo_36 46 (by decide) (by decide)).trans ((hlo_33 46 (by decide) (by decide)).trans ((hlo_30 46 (by decide) (by decide)).trans ((hlo_27 46 (by decide) (by decide)).trans ((hlo_24 46 (by decide) (by decide)).trans ((hlo_21 46 (by decide) (by decide)).trans ((hlo_18 46 (by decide) (by decide)).trans hhlo_15_46))))))), ((hlo_36 47 (by decide) (by decide)).trans ((hlo_33 47 (by decide) (by decide)).trans ((hlo_30 47 (by decide) (by decide)).trans ((hlo_27 47 (by decide) (by decide)).trans ((hlo_24 47 (by decide) (by decide)).trans hhlo_21_47))))), ((hlo_36 48 (by decide) (by decide)).trans ((hlo_33 48 (by decide) (by decide)).trans ((hlo_30 48 (by decide) (by decide)).trans ((hlo_27 48 (by decide) (by decide)).trans ((hlo_24 48 (by decide) (by decide)).trans ((hlo_21 48 (by decide) (by decide)).trans hhlo_18_48)))))), ((hlo_36 49 (by decide) (by decide)).trans ((hlo_33 49 (by decide) (by decide)).trans ((hlo_30 49 (by decide) (by decide)).trans ((hlo_27 49 (by decide) (by decide)).trans ((hlo_24 49 (by decide) (by decide)).trans ((hlo_21 49 (by decide) (by decide)).trans hhlo_18_49)))))), ((hlo_36 50 (by decide) (by decide)).trans ((hlo_33 50 (by decide) (by decide)).trans ((hlo_30 50 (by decide) (by decide)).trans ((hlo_27 50 (by decide) (by decide)).trans ((hlo_24 50 (by decide) (by decide)).trans ((hlo_21 50 (by decide) (by decide)).trans hhlo_18_50)))))), ((hlo_36 51 (by decide) (by decide)).trans ((hlo_33 51 (by decide) (by decide)).trans ((hlo_30 51 (by decide) (by decide)).trans ((hlo_27 51 (by decide) (by decide)).trans ((hlo_24 51 (by decide) (by decide)).trans ((hlo_21 51 (by decide) (by decide)).trans hhlo_18_51)))))), ((hlo_36 52 (by decide) (by decide)).trans ((hlo_33 52 (by decide) (by decide)).trans ((hlo_30 52 (by decide) (by decide)).trans ((hlo_27 52 (by decide) (by decide)).trans ((hlo_24 52 (by decide) (by decide)).trans ((hlo_21 52 (by decide) (by decide)).trans hhlo_18_52)))))), ((hlo_36 53 (by decide) (by decide)).trans ((hlo_33 53 (by decide) (by decide)).trans ((hlo_30 53 (by decide) (by decide)).trans ((hlo_27 53 (by decide) (by decide)).trans ((hlo_24 53 (by decide) (by decide)).trans ((hlo_21 53 (by decide) (by decide)).trans hhlo_18_53)))))), ((hlo_36 54 (by decide) (by decide)).trans ((hlo_33 54 (by decide) (by decide)).trans ((hlo_30 54 (by decide) (by decide)).trans ((hlo_27 54 (by decide) (by decide)).trans ((hlo_24 54 (by decide) (by decide)).trans ((hlo_21 54 (by decide) (by decide)).trans hhlo_18_54)))))), ((hlo_36 55 (by decide) (by decide)).trans ((hlo_33 55 (by decide) (by decide)).trans ((hlo_30 55 (by decide) (by decide)).trans ((hlo_27 55 (by decide) (by decide)).trans ((hlo_24 55 (by decide) (by decide)).trans hhlo_21_55))))), ((hlo_36 56 (by decide) (by decide)).trans ((hlo_33 56 (by decide) (by decide)).trans ((hlo_30 56 (by decide) (by decide)).trans ((hlo_27 56 (by decide) (by decide)).trans ((hlo_24 56 (by decide) (by decide)).trans hhlo_21_56))))), ((hlo_36 57 (by decide) (by decide)).trans ((hlo_33 57 (by decide) (by decide)).trans ((hlo_30 57 (by decide) (by decide)).trans ((hlo_27 57 (by decide) (by decide)).trans ((hlo_24 57 (by decide) (by decide)).trans hhlo_21_57))))), ((hlo_36 58 (by decide) (by decide)).trans ((hlo_33 58 (by decide) (by decide)).trans ((hlo_30 58 (by decide) (by decide)).trans hhlo_27_58))), ((hlo_36 59 (by decide) (by decide)).trans ((hlo_33 59 (by decide) (by decide)).trans ((hlo_30 59 (by decide) (by decide)).trans ((hlo_27 59 (by decide) (by decide)).trans hhlo_24_59)))), ((hlo_36 60 (by decide) (by decide)).trans ((hlo_33 60 (by decide) (by decide)).trans ((hlo_30 60 (by decide) (by decide)).trans ((hlo_27 60 (by decide) (by decide)).trans hhlo_24_60)))), ((hlo_36 61 (by decide) (by decide)).trans ((hlo_33 61 (by decide) (by decide)).trans ((hlo_30 61 (by decide) (by decide)).trans ((hlo_27 61 (by decide) (by decide)).trans hhlo_24_61)))), ((hlo_36 62 (by decide) (by decide)).trans ((hlo_33 62 (by decide) (by decide)).trans ((hlo_30 62 (by decide) (by decide)).trans hhlo_27_62))), ((hlo_36 63 (by decide) (by decide)).trans ((hlo_33 63 (by decide) (by decide)).trans ((hlo_30 63 (by decide) (by decide)).trans hhlo_27_63))), ((hlo_36 64 (by decide) (by decide)).trans ((hlo_33 64 (by decide) (by decide)).trans ((hlo_30 64 (by decide) (by decide)).trans hhlo_27_64))), ((hlo_36 65 (by decide) (by decide)).trans ((hlo_33 65 (by decide) (by decide)).trans hhlo_30_65)), ((hlo_36 66 (by decide) (by decide)).trans ((hlo_33 66 (by decide) (by decide)).trans hhlo_30_66)), ((hlo_36 67 (by decide) (by decide)).trans ((hlo_33 67 (by decide) (by decide)).trans hhlo_30_67)), ((hlo_36 68 (by decide) (by decide)).trans ((hlo_33 68 (by decide) (by decide)).trans hhlo_30_68)), ((hlo_36 69 (by decide) (by decide)).trans ((hlo_33 69 (by decide) (by decide)).trans hhlo_30_69)), ((hlo_36 70 (by decide) (by decide)).trans ((hlo_33 70 (by decide) (by decide)).trans hhlo_30_70)), ((hlo_36 71 (by decide) (by decide)).trans hhlo_33_71), ((hlo_36 72 (by decide) (by decide)).trans hhlo_33_72), ((hlo_36 73 (by decide) (by decide)).trans hhlo_33_73), ((hlo_36 74 (by decide) (by decide)).trans hhlo_33_74), ((hlo_36 75 (by decide) (by decide)).trans hhlo_33_75), ((hlo_36 76 (by decide) (by decide)).trans hhlo_33_76), hhlo_36_77, rfl, rfl⟩
