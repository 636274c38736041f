theorem dL_law_0 : decode cL_law 0 = .ok (.new 7, 3) := by decide +kernel
theorem wm_198 : (Jvm.Cond.classLink "GrownKindsLaw" (7 : Nat) "GrownKinds") ∈ gT := gT_in (List.mem_of_getElem? (i := 198) (by decide +kernel)) (by decide +kernel)
theorem dL_law_3 : decode cL_law 3 = .ok (.dup, 1) := by decide +kernel
theorem dL_law_4 : decode cL_law 4 = .ok (.invokespecial 9, 3) := by decide +kernel
theorem wm_200 : (Jvm.Cond.methodLink "GrownKindsLaw" (9 : Nat) ({ cls := "GrownKinds", name := "<init>", desc := "()V" } : Jvm.MethodName)) ∈ gT := gT_in (List.mem_of_getElem? (i := 200) (by decide +kernel)) (by decide +kernel)
theorem wm_201 : (Jvm.Cond.instanceMethod ({ cls := "GrownKinds", name := "<init>", desc := "()V" } : Jvm.MethodName)) ∈ gT := gT_in (List.mem_of_getElem? (i := 201) (by decide +kernel)) (by decide +kernel)
theorem wm_202 : (Jvm.Cond.code ({ cls := "GrownKinds", name := "<init>", desc := "()V" } : Jvm.MethodName) prog_1_method_1_code (1 : Nat) (Option.none : Option Jvm.ClassFile.FieldType)) ∈ gT := gT_in (List.mem_of_getElem? (i := 202) (by decide +kernel)) (by decide +kernel)
theorem dL_law_7 : decode cL_law 7 = .ok (.astore_n 1, 1) := by decide +kernel
theorem dL_law_8 : decode cL_law 8 = .ok (.new 10, 3) := by decide +kernel
theorem wm_1663 : (Jvm.Cond.classLink "GrownKindsLaw" (10 : Nat) "GrownKindsModel") ∈ gT := gT_in (List.mem_of_getElem? (i := 1663) (by decide +kernel)) (by decide +kernel)
theorem dL_law_11 : decode cL_law 11 = .ok (.dup, 1) := by decide +kernel
theorem dL_law_12 : decode cL_law 12 = .ok (.invokespecial 12, 3) := by decide +kernel
theorem wm_1665 : (Jvm.Cond.methodLink "GrownKindsLaw" (12 : Nat) ({ cls := "GrownKindsModel", name := "<init>", desc := "()V" } : Jvm.MethodName)) ∈ gT := gT_in (List.mem_of_getElem? (i := 1665) (by decide +kernel)) (by decide +kernel)
theorem wm_1666 : (Jvm.Cond.instanceMethod ({ cls := "GrownKindsModel", name := "<init>", desc := "()V" } : Jvm.MethodName)) ∈ gT := gT_in (List.mem_of_getElem? (i := 1666) (by decide +kernel)) (by decide +kernel)
theorem wm_1667 : (Jvm.Cond.code ({ cls := "GrownKindsModel", name := "<init>", desc := "()V" } : Jvm.MethodName) prog_14_method_6_code (1 : Nat) (Option.none : Option Jvm.ClassFile.FieldType)) ∈ gT := gT_in (List.mem_of_getElem? (i := 1667) (by decide +kernel)) (by decide +kernel)
theorem dL_law_15 : decode cL_law 15 = .ok (.astore_n 2, 1) := by decide +kernel
theorem dL_law_16 : decode cL_law 16 = .ok (.iconst 0, 1) := by decide +kernel
theorem dL_law_17 : decode cL_law 17 = .ok (.istore_n 3, 1) := by decide +kernel
theorem wI_GrownKindsLaw_9 : gWI "GrownKindsLaw" 9 yX11_init cX11_init 1 := ⟨wm_200, wm_201, wm_177, wm_202, by decide +kernel, by decide +kernel, rfl⟩
theorem wI_GrownKindsLaw_12 : gWI "GrownKindsLaw" 12 yX12_init cX12_init 1 := ⟨wm_1665, wm_1666, wm_188, wm_1667, by decide +kernel, by decide +kernel, rfl⟩
theorem i0 : iI 0 = 0 := rfl
theorem zE_0 {b : Nat} {cy : Nat → ClassId} : .inr (11, [.ref (b + 1), .int 0, .ref (b + 2), .ref (b + 12), .int 0, .int (-1), .ref (b + 33), .ref (b + 40), .ref (b + 47), .ref (b + 58), .ref (b + 65), .ref (b + 71), .ref (b + 77), .ref (b + 78), .ref (b + 79), .int 0, .int 0, .int (-1), .int (-1)]) = eG b cy stI 0 := rfl
theorem zE_1 {b : Nat} {cy : Nat → ClassId} : .inl (cy 0, 400, .inl (fun _ => 0)) = eG b cy stI 1 := rfl
theorem zE_2 {b : Nat} {cy : Nat → ClassId} : .inr (2, [.int 0, .int 0, .int 0, .int 0, .int 0, .ref (b + 3), .ref (b + 4), .ref (b + 5), .ref (b + 6), .ref (b + 7), .ref (b + 8), .ref (b + 9), .ref (b + 10), .ref (b + 11)]) = eG b cy stI 2 := rfl
theorem zE_3 {b : Nat} {cy : Nat → ClassId} : .inl (cy 1, 24, .inl (fun _ => 0)) = eG b cy stI 3 := rfl
theorem zE_4 {b : Nat} {cy : Nat → ClassId} : .inl (cy 1, 24, .inl (fun _ => 0)) = eG b cy stI 4 := rfl
theorem zE_5 {b : Nat} {cy : Nat → ClassId} : .inl (cy 1, 24, .inl (fun _ => 0)) = eG b cy stI 5 := rfl
theorem zE_6 {b : Nat} {cy : Nat → ClassId} : .inl (cy 1, 24, .inl (fun _ => 0)) = eG b cy stI 6 := rfl
theorem zE_7 {b : Nat} {cy : Nat → ClassId} : .inl (cy 1, 24, .inl (fun _ => 0)) = eG b cy stI 7 := rfl
theorem zE_8 {b : Nat} {cy : Nat → ClassId} : .inl (cy 1, 30, .inl (fun _ => 0)) = eG b cy stI 8 := rfl
theorem zE_9 {b : Nat} {cy : Nat → ClassId} : .inl (cy 1, 300, .inl (fun _ => 0)) = eG b cy stI 9 := rfl
theorem zE_10 {b : Nat} {cy : Nat → ClassId} : .inl (cy 1, 30, .inl (fun _ => 0)) = eG b cy stI 10 := rfl
theorem zE_11 {b : Nat} {cy : Nat → ClassId} : .inl (cy 1, 54, .inl (fun _ => 0)) = eG b cy stI 11 := rfl
theorem zE_12 {b : Nat} {cy : Nat → ClassId} : .inr (5, [.ref (b + 13), .int 0, .int (-1), .ref (b + 26), .ref (b + 23), .int 0, .int 0, .int 3, .int 0, .int 0, .int 0, .ref (b + 24), .ref (b + 25)]) = eG b cy stI 12 := rfl
theorem zE_13 {b : Nat} {cy : Nat → ClassId} : .inr (2, [.int 0, .int 0, .int 0, .int 0, .int 0, .ref (b + 14), .ref (b + 15), .ref (b + 16), .ref (b + 17), .ref (b + 18), .ref (b + 19), .ref (b + 20), .ref (b + 21), .ref (b + 22)]) = eG b cy stI 13 := rfl
theorem zE_14 {b : Nat} {cy : Nat → ClassId} : .inl (cy 1, 24, .inl (fun _ => 0)) = eG b cy stI 14 := rfl
theorem zE_15 {b : Nat} {cy : Nat → ClassId} : .inl (cy 1, 24, .inl (fun _ => 0)) = eG b cy stI 15 := rfl
theorem zE_16 {b : Nat} {cy : Nat → ClassId} : .inl (cy 1, 24, .inl (fun _ => 0)) = eG b cy stI 16 := rfl
theorem zE_17 {b : Nat} {cy : Nat → ClassId} : .inl (cy 1, 24, .inl (fun _ => 0)) = eG b cy stI 17 := rfl
theorem zE_18 {b : Nat} {cy : Nat → ClassId} : .inl (cy 1, 24, .inl (fun _ => 0)) = eG b cy stI 18 := rfl
theorem zE_19 {b : Nat} {cy : Nat → ClassId} : .inl (cy 1, 30, .inl (fun _ => 0)) = eG b cy stI 19 := rfl
theorem zE_20 {b : Nat} {cy : Nat → ClassId} : .inl (cy 1, 300, .inl (fun _ => 0)) = eG b cy stI 20 := rfl
theorem zE_21 {b : Nat} {cy : Nat → ClassId} : .inl (cy 1, 30, .inl (fun _ => 0)) = eG b cy stI 21 := rfl
theorem zE_22 {b : Nat} {cy : Nat → ClassId} : .inl (cy 1, 54, .inl (fun _ => 0)) = eG b cy stI 22 := rfl
theorem zE_23 {b : Nat} {cy : Nat → ClassId} : .inl (cy 0, 0, .inl (fun _ => 0)) = eG b cy stI 23 := rfl
theorem zE_24 {b : Nat} {cy : Nat → ClassId} : .inl (cy 1, 6, .inl (fun _ => 0)) = eG b cy stI 24 := rfl
theorem zE_25 {b : Nat} {cy : Nat → ClassId} : .inl (cy 1, 6, .inl (fun _ => 0)) = eG b cy stI 25 := rfl
theorem zE_26 {b : Nat} {cy : Nat → ClassId} : .inr (3, [.ref (b + 13), .int 0, .int 0, .ref (b + 27), .ref (b + 28), .ref (b + 29), .ref (b + 30), .ref (b + 31), .ref (b + 32)]) = eG b cy stI 26 := rfl
theorem zE_27 {b : Nat} {cy : Nat → ClassId} : .inl (cy 1, 24, .inl (fun _ => 0)) = eG b cy stI 27 := rfl
theorem zE_28 {b : Nat} {cy : Nat → ClassId} : .inl (cy 1, 24, .inl (fun _ => 0)) = eG b cy stI 28 := rfl
theorem zE_29 {b : Nat} {cy : Nat → ClassId} : .inl (cy 1, 24, .inl (fun _ => 0)) = eG b cy stI 29 := rfl
theorem zE_30 {b : Nat} {cy : Nat → ClassId} : .inl (cy 1, 6, .inl (fun _ => 0)) = eG b cy stI 30 := rfl
theorem zE_31 {b : Nat} {cy : Nat → ClassId} : .inl (cy 1, 6, .inl (fun _ => 0)) = eG b cy stI 31 := rfl
theorem zE_32 {b : Nat} {cy : Nat → ClassId} : .inl (cy 1, 6, .inl (fun _ => 0)) = eG b cy stI 32 := rfl
theorem zE_33 {b : Nat} {cy : Nat → ClassId} : .inr (3, [.ref (b + 2), .int 0, .int 0, .ref (b + 34), .ref (b + 35), .ref (b + 36), .ref (b + 37), .ref (b + 38), .ref (b + 39)]) = eG b cy stI 33 := rfl
theorem zE_34 {b : Nat} {cy : Nat → ClassId} : .inl (cy 1, 24, .inl (fun _ => 0)) = eG b cy stI 34 := rfl
theorem zE_35 {b : Nat} {cy : Nat → ClassId} : .inl (cy 1, 24, .inl (fun _ => 0)) = eG b cy stI 35 := rfl
theorem zE_36 {b : Nat} {cy : Nat → ClassId} : .inl (cy 1, 24, .inl (fun _ => 0)) = eG b cy stI 36 := rfl
theorem zE_37 {b : Nat} {cy : Nat → ClassId} : .inl (cy 1, 6, .inl (fun _ => 0)) = eG b cy stI 37 := rfl
theorem zE_38 {b : Nat} {cy : Nat → ClassId} : .inl (cy 1, 6, .inl (fun _ => 0)) = eG b cy stI 38 := rfl
theorem zE_39 {b : Nat} {cy : Nat → ClassId} : .inl (cy 1, 6, .inl (fun _ => 0)) = eG b cy stI 39 := rfl
theorem zE_40 {b : Nat} {cy : Nat → ClassId} : .inr (0, [.ref (b + 2), .int (-1), .ref (b + 41), .ref (b + 42), .ref (b + 43), .ref (b + 44), .ref (b + 45), .ref (b + 46)]) = eG b cy stI 40 := rfl
theorem zE_41 {b : Nat} {cy : Nat → ClassId} : .inl (cy 2, 1536, .inr (.inl (fun _ => 0))) = eG b cy stI 41 := rfl
theorem zE_42 {b : Nat} {cy : Nat → ClassId} : .inl (cy 2, 1536, .inr (.inl (fun _ => 0))) = eG b cy stI 42 := rfl
theorem zE_43 {b : Nat} {cy : Nat → ClassId} : .inl (cy 2, 384, .inr (.inl (fun _ => 0))) = eG b cy stI 43 := rfl
theorem zE_44 {b : Nat} {cy : Nat → ClassId} : .inl (cy 2, 12288, .inr (.inl (fun _ => 0))) = eG b cy stI 44 := rfl
theorem zE_45 {b : Nat} {cy : Nat → ClassId} : .inl (cy 2, 8, .inr (.inl (fun _ => 0))) = eG b cy stI 45 := rfl
theorem zE_46 {b : Nat} {cy : Nat → ClassId} : .inl (cy 2, 12288, .inr (.inl (fun _ => 0))) = eG b cy stI 46 := rfl
theorem zE_47 {b : Nat} {cy : Nat → ClassId} : .inr (4, [.ref (b + 2), .ref (b + 48), .int 0, .int 0, .long 0, .ref (b + 55), .ref (b + 56), .ref (b + 57)]) = eG b cy stI 47 := rfl
theorem zE_48 {b : Nat} {cy : Nat → ClassId} : .inr (0, [.ref (b + 2), .int (-1), .ref (b + 49), .ref (b + 50), .ref (b + 51), .ref (b + 52), .ref (b + 53), .ref (b + 54)]) = eG b cy stI 48 := rfl
theorem zE_49 {b : Nat} {cy : Nat → ClassId} : .inl (cy 2, 1536, .inr (.inl (fun _ => 0))) = eG b cy stI 49 := rfl
theorem zE_50 {b : Nat} {cy : Nat → ClassId} : .inl (cy 2, 1536, .inr (.inl (fun _ => 0))) = eG b cy stI 50 := rfl
theorem zE_51 {b : Nat} {cy : Nat → ClassId} : .inl (cy 2, 384, .inr (.inl (fun _ => 0))) = eG b cy stI 51 := rfl
theorem zE_52 {b : Nat} {cy : Nat → ClassId} : .inl (cy 2, 12288, .inr (.inl (fun _ => 0))) = eG b cy stI 52 := rfl
theorem zE_53 {b : Nat} {cy : Nat → ClassId} : .inl (cy 2, 8, .inr (.inl (fun _ => 0))) = eG b cy stI 53 := rfl
theorem zE_54 {b : Nat} {cy : Nat → ClassId} : .inl (cy 2, 0, .inr (.inl (fun _ => 0))) = eG b cy stI 54 := rfl
theorem zE_55 {b : Nat} {cy : Nat → ClassId} : .inl (cy 2, 48, .inr (.inl (fun _ => 0))) = eG b cy stI 55 := rfl
theorem zE_56 {b : Nat} {cy : Nat → ClassId} : .inl (cy 2, 9984, .inr (.inl (fun _ => 0))) = eG b cy stI 56 := rfl
theorem zE_57 {b : Nat} {cy : Nat → ClassId} : .inl (cy 2, 2880, .inr (.inl (fun _ => 0))) = eG b cy stI 57 := rfl
theorem zE_58 {b : Nat} {cy : Nat → ClassId} : .inr (9, [.ref (b + 2), .ref (b + 40), .ref (b + 59), .ref (b + 62), .int 0, .int 0, .int 1, .int 0, .int 0, .ref (b + 63), .int 0, .ref (b + 64), .int 0, .int (-1), .int (-1)]) = eG b cy stI 58 := rfl
theorem zE_59 {b : Nat} {cy : Nat → ClassId} : .inr (8, [.ref (b + 2), .ref (b + 40), .int 0, .ref (b + 60), .ref (b + 61), .int 0]) = eG b cy stI 59 := rfl
theorem zE_60 {b : Nat} {cy : Nat → ClassId} : .inl (cy 1, 8, .inl (fun _ => 0)) = eG b cy stI 60 := rfl
theorem zE_61 {b : Nat} {cy : Nat → ClassId} : .inl (cy 4, 192, .inr (.inr (.inr (.inr (fun _ => none))))) = eG b cy stI 61 := rfl
theorem zE_62 {b : Nat} {cy : Nat → ClassId} : .inl (cy 0, 256, .inl (fun _ => 0)) = eG b cy stI 62 := rfl
theorem zE_63 {b : Nat} {cy : Nat → ClassId} : .inl (cy 1, 26, .inl (fun _ => 0)) = eG b cy stI 63 := rfl
theorem zE_64 {b : Nat} {cy : Nat → ClassId} : .inl (cy 1, 1100, .inl (fun _ => 0)) = eG b cy stI 64 := rfl
theorem zE_65 {b : Nat} {cy : Nat → ClassId} : .inr (10, [.ref (b + 2), .ref (b + 66), .ref (b + 67), .int 0, .int 0, .int 0, .int 1, .ref (b + 68), .int 0, .ref (b + 69), .int 0, .ref (b + 70), .int 0]) = eG b cy stI 65 := rfl
theorem zE_66 {b : Nat} {cy : Nat → ClassId} : .inl (cy 0, 40, .inl (fun _ => 0)) = eG b cy stI 66 := rfl
theorem zE_67 {b : Nat} {cy : Nat → ClassId} : .inl (cy 0, 40, .inl (fun _ => 0)) = eG b cy stI 67 := rfl
theorem zE_68 {b : Nat} {cy : Nat → ClassId} : .inl (cy 1, 40, .inl (fun _ => 0)) = eG b cy stI 68 := rfl
theorem zE_69 {b : Nat} {cy : Nat → ClassId} : .inl (cy 1, 41, .inl (fun _ => 0)) = eG b cy stI 69 := rfl
theorem zE_70 {b : Nat} {cy : Nat → ClassId} : .inl (cy 1, 40, .inl (fun _ => 0)) = eG b cy stI 70 := rfl
theorem zE_71 {b : Nat} {cy : Nat → ClassId} : .inr (7, [.ref (b + 58), .long 0, .ref (b + 72), .ref (b + 73), .ref (b + 74), .ref (b + 75), .int (-1), .int (-1), .ref (b + 76)]) = eG b cy stI 71 := rfl
theorem zE_72 {b : Nat} {cy : Nat → ClassId} : .inl (cy 1, 48, .inl (fun _ => 0)) = eG b cy stI 72 := rfl
theorem zE_73 {b : Nat} {cy : Nat → ClassId} : .inl (cy 1, 48, .inl (fun _ => 0)) = eG b cy stI 73 := rfl
theorem zE_74 {b : Nat} {cy : Nat → ClassId} : .inl (cy 1, 1248, .inl (fun _ => 0)) = eG b cy stI 74 := rfl
theorem zE_75 {b : Nat} {cy : Nat → ClassId} : .inl (cy 1, 1248, .inl (fun _ => 0)) = eG b cy stI 75 := rfl
theorem zE_76 {b : Nat} {cy : Nat → ClassId} : .inl (cy 1, 26, .inl (fun _ => 0)) = eG b cy stI 76 := rfl
theorem zE_77 {b : Nat} {cy : Nat → ClassId} : .inr (1, [.ref (b + 40), .int 0, .int 0, .int 0, .int 0, .int 0, .int 0]) = eG b cy stI 77 := rfl
theorem zE_78 {b : Nat} {cy : Nat → ClassId} : .inl (cy 0, 40, .inl (fun _ => 0)) = eG b cy stI 78 := rfl
theorem zE_79 {b : Nat} {cy : Nat → ClassId} : .inl (cy 1, 10, .inl (fun _ => 0)) = eG b cy stI 79 := rfl
theorem zE_80 {b : Nat} {cy : Nat → ClassId} : .inr (12, [.ref (b + 81), .ref (b + 82), .ref (b + 83), .int 0, .int 0, .int (-1), .int 0, .int 0, .int 0, .int 0, .int 0, .ref (b + 84), .ref (b + 85), .ref (b + 86), .ref (b + 87), .ref (b + 88), .ref (b + 89), .ref (b + 90), .ref (b + 91), .ref (b + 92), .int 0, .int 0, .int 0, .int 0, .int 0, .int 0, .int 0, .int 0, .ref (b + 93), .ref (b + 94), .ref (b + 95), .int 0, .long 0, .ref (b + 96), .ref (b + 97), .ref (b + 98), .ref (b + 99), .ref (b + 100), .int 0, .ref (b + 101), .int 0, .int 0, .int (-1), .int (-1), .int 0, .int 0, .int 0, .int 0, .int 0, .int 0, .int 0, .int 0]) = eG b cy stI 80 := rfl
theorem zE_81 {b : Nat} {cy : Nat → ClassId} : .inl (cy 1, 228, .inl memI) = eG b cy stI 81 := (congrArg (fun f => (Sum.inl (cy 1, 228, Sum.inl f) : va_E)) (funext fun j => by
  show memI j = iI (if 96 ≤ (j : Int) ∧ (j : Int) < 198 then -1 else 0)
  unfold memI
  by_cases h : 96 ≤ j ∧ j < 198
  · rw [if_pos h, if_pos (by omega)]; rfl
  · rw [if_neg h, if_neg (by omega)]; rfl))
theorem zE_82 {b : Nat} {cy : Nat → ClassId} : .inl (cy 1, 228, .inl (fun _ => 0)) = eG b cy stI 82 := rfl
theorem zE_83 {b : Nat} {cy : Nat → ClassId} : .inl (cy 1, 400, .inl (fun _ => 0)) = eG b cy stI 83 := rfl
theorem zE_84 {b : Nat} {cy : Nat → ClassId} : .inl (cy 1, 48, .inl (fun _ => 0)) = eG b cy stI 84 := rfl
theorem zE_85 {b : Nat} {cy : Nat → ClassId} : .inl (cy 1, 6, .inl (fun _ => 0)) = eG b cy stI 85 := rfl
theorem zE_86 {b : Nat} {cy : Nat → ClassId} : .inl (cy 3, 30, .inl (fun _ => 0)) = eG b cy stI 86 := rfl
theorem zE_87 {b : Nat} {cy : Nat → ClassId} : .inl (cy 2, 1920, .inr (.inl (fun _ => 0))) = eG b cy stI 87 := rfl
theorem zE_88 {b : Nat} {cy : Nat → ClassId} : .inl (cy 2, 1536, .inr (.inl (fun _ => 0))) = eG b cy stI 88 := rfl
theorem zE_89 {b : Nat} {cy : Nat → ClassId} : .inl (cy 2, 512, .inr (.inl (fun _ => 0))) = eG b cy stI 89 := rfl
theorem zE_90 {b : Nat} {cy : Nat → ClassId} : .inl (cy 2, 240, .inr (.inl (fun _ => 0))) = eG b cy stI 90 := rfl
theorem zE_91 {b : Nat} {cy : Nat → ClassId} : .inl (cy 2, 192, .inr (.inl (fun _ => 0))) = eG b cy stI 91 := rfl
theorem zE_92 {b : Nat} {cy : Nat → ClassId} : .inl (cy 2, 64, .inr (.inl (fun _ => 0))) = eG b cy stI 92 := rfl
theorem zE_93 {b : Nat} {cy : Nat → ClassId} : .inl (cy 1, 40, .inl (fun _ => 0)) = eG b cy stI 93 := rfl
theorem zE_94 {b : Nat} {cy : Nat → ClassId} : .inl (cy 1, 512, .inl (fun _ => 0)) = eG b cy stI 94 := rfl
theorem zE_95 {b : Nat} {cy : Nat → ClassId} : .inl (cy 1, 512, .inl (fun _ => 0)) = eG b cy stI 95 := rfl
theorem zE_96 {b : Nat} {cy : Nat → ClassId} : .inl (cy 1, 1024, .inl (fun _ => 0)) = eG b cy stI 96 := rfl
theorem zE_97 {b : Nat} {cy : Nat → ClassId} : .inl (cy 1, 1024, .inl (fun _ => 0)) = eG b cy stI 97 := rfl
theorem zE_98 {b : Nat} {cy : Nat → ClassId} : .inl (cy 1, 1024, .inl (fun _ => 0)) = eG b cy stI 98 := rfl
theorem zE_99 {b : Nat} {cy : Nat → ClassId} : .inl (cy 1, 1024, .inl (fun _ => 0)) = eG b cy stI 99 := rfl
theorem zE_100 {b : Nat} {cy : Nat → ClassId} : .inl (cy 1, 1024, .inl (fun _ => 0)) = eG b cy stI 100 := rfl
theorem zE_101 {b : Nat} {cy : Nat → ClassId} : .inl (cy 1, 40, .inl (fun _ => 0)) = eG b cy stI 101 := rfl
theorem fresh_of {b : Nat} {cy : Nat → ClassId} {E : Nat → va_E} (h0 : E 0 = .inr (11, [.ref (b + 1), .int 0, .ref (b + 2), .ref (b + 12), .int 0, .int (-1), .ref (b + 33), .ref (b + 40), .ref (b + 47), .ref (b + 58), .ref (b + 65), .ref (b + 71), .ref (b + 77), .ref (b + 78), .ref (b + 79), .int 0, .int 0, .int (-1), .int (-1)])) (h1 : E 1 = .inl (cy 0, 400, .inl (fun _ => 0))) (h2 : E 2 = .inr (2, [.int 0, .int 0, .int 0, .int 0, .int 0, .ref (b + 3), .ref (b + 4), .ref (b + 5), .ref (b + 6), .ref (b + 7), .ref (b + 8), .ref (b + 9), .ref (b + 10), .ref (b + 11)])) (h3 : E 3 = .inl (cy 1, 24, .inl (fun _ => 0))) (h4 : E 4 = .inl (cy 1, 24, .inl (fun _ => 0))) (h5 : E 5 = .inl (cy 1, 24, .inl (fun _ => 0))) (h6 : E 6 = .inl (cy 1, 24, .inl (fun _ => 0))) (h7 : E 7 = .inl (cy 1, 24, .inl (fun _ => 0))) (h8 : E 8 = .inl (cy 1, 30, .inl (fun _ => 0))) (h9 : E 9 = .inl (cy 1, 300, .inl (fun _ => 0))) (h10 : E 10 = .inl (cy 1, 30, .inl (fun _ => 0))) (h11 : E 11 = .inl (cy 1, 54, .inl (fun _ => 0))) (h12 : E 12 = .inr (5, [.ref (b + 13), .int 0, .int (-1), .ref (b + 26), .ref (b + 23), .int 0, .int 0, .int 3, .int 0, .int 0, .int 0, .ref (b + 24), .ref (b + 25)])) (h13 : E 13 = .inr (2, [.int 0, .int 0, .int 0, .int 0, .int 0, .ref (b + 14), .ref (b + 15), .ref (b + 16), .ref (b + 17), .ref (b + 18), .ref (b + 19), .ref (b + 20), .ref (b + 21), .ref (b + 22)])) (h14 : E 14 = .inl (cy 1, 24, .inl (fun _ => 0))) (h15 : E 15 = .inl (cy 1, 24, .inl (fun _ => 0))) (h16 : E 16 = .inl (cy 1, 24, .inl (fun _ => 0))) (h17 : E 17 = .inl (cy 1, 24, .inl (fun _ => 0))) (h18 : E 18 = .inl (cy 1, 24, .inl (fun _ => 0))) (h19 : E 19 = .inl (cy 1, 30, .inl (fun _ => 0))) (h20 : E 20 = .inl (cy 1, 300, .inl (fun _ => 0))) (h21 : E 21 = .inl (cy 1, 30, .inl (fun _ => 0))) (h22 : E 22 = .inl (cy 1, 54, .inl (fun _ => 0))) (h23 : E 23 = .inl (cy 0, 0, .inl (fun _ => 0))) (h24 : E 24 = .inl (cy 1, 6, .inl (fun _ => 0))) (h25 : E 25 = .inl (cy 1, 6, .inl (fun _ => 0))) (h26 : E 26 = .inr (3, [.ref (b + 13), .int 0, .int 0, .ref (b + 27), .ref (b + 28), .ref (b + 29), .ref (b + 30), .ref (b + 31), .ref (b + 32)])) (h27 : E 27 = .inl (cy 1, 24, .inl (fun _ => 0))) (h28 : E 28 = .inl (cy 1, 24, .inl (fun _ => 0))) (h29 : E 29 = .inl (cy 1, 24, .inl (fun _ => 0))) (h30 : E 30 = .inl (cy 1, 6, .inl (fun _ => 0))) (h31 : E 31 = .inl (cy 1, 6, .inl (fun _ => 0))) (h32 : E 32 = .inl (cy 1, 6, .inl (fun _ => 0))) (h33 : E 33 = .inr (3, [.ref (b + 2), .int 0, .int 0, .ref (b + 34), .ref (b + 35), .ref (b + 36), .ref (b + 37), .ref (b + 38), .ref (b + 39)])) (h34 : E 34 = .inl (cy 1, 24, .inl (fun _ => 0))) (h35 : E 35 = .inl (cy 1, 24, .inl (fun _ => 0))) (h36 : E 36 = .inl (cy 1, 24, .inl (fun _ => 0))) (h37 : E 37 = .inl (cy 1, 6, .inl (fun _ => 0))) (h38 : E 38 = .inl (cy 1, 6, .inl (fun _ => 0))) (h39 : E 39 = .inl (cy 1, 6, .inl (fun _ => 0))) (h40 : E 40 = .inr (0, [.ref (b + 2), .int (-1), .ref (b + 41), .ref (b + 42), .ref (b + 43), .ref (b + 44), .ref (b + 45), .ref (b + 46)])) (h41 : E 41 = .inl (cy 2, 1536, .inr (.inl (fun _ => 0)))) (h42 : E 42 = .inl (cy 2, 1536, .inr (.inl (fun _ => 0)))) (h43 : E 43 = .inl (cy 2, 384, .inr (.inl (fun _ => 0)))) (h44 : E 44 = .inl (cy 2, 12288, .inr (.inl (fun _ => 0)))) (h45 : E 45 = .inl (cy 2, 8, .inr (.inl (fun _ => 0)))) (h46 : E 46 = .inl (cy 2, 12288, .inr (.inl (fun _ => 0)))) (h47 : E 47 = .inr (4, [.ref (b + 2), .ref (b + 48), .int 0, .int 0, .long 0, .ref (b + 55), .ref (b + 56), .ref (b + 57)])) (h48 : E 48 = .inr (0, [.ref (b + 2), .int (-1), .ref (b + 49), .ref (b + 50), .ref (b + 51), .ref (b + 52), .ref (b + 53), .ref (b + 54)])) (h49 : E 49 = .inl (cy 2, 1536, .inr (.inl (fun _ => 0)))) (h50 : E 50 = .inl (cy 2, 1536, .inr (.inl (fun _ => 0)))) (h51 : E 51 = .inl (cy 2, 384, .inr (.inl (fun _ => 0)))) (h52 : E 52 = .inl (cy 2, 12288, .inr (.inl (fun _ => 0)))) (h53 : E 53 = .inl (cy 2, 8, .inr (.inl (fun _ => 0)))) (h54 : E 54 = .inl (cy 2, 0, .inr (.inl (fun _ => 0)))) (h55 : E 55 = .inl (cy 2, 48, .inr (.inl (fun _ => 0)))) (h56 : E 56 = .inl (cy 2, 9984, .inr (.inl (fun _ => 0)))) (h57 : E 57 = .inl (cy 2, 2880, .inr (.inl (fun _ => 0)))) (h58 : E 58 = .inr (9, [.ref (b + 2), .ref (b + 40), .ref (b + 59), .ref (b + 62), .int 0, .int 0, .int 1, .int 0, .int 0, .ref (b + 63), .int 0, .ref (b + 64), .int 0, .int (-1), .int (-1)])) (h59 : E 59 = .inr (8, [.ref (b + 2), .ref (b + 40), .int 0, .ref (b + 60), .ref (b + 61), .int 0])) (h60 : E 60 = .inl (cy 1, 8, .inl (fun _ => 0))) (h61 : E 61 = .inl (cy 4, 192, .inr (.inr (.inr (.inr (fun _ => none)))))) (h62 : E 62 = .inl (cy 0, 256, .inl (fun _ => 0))) (h63 : E 63 = .inl (cy 1, 26, .inl (fun _ => 0))) (h64 : E 64 = .inl (cy 1, 1100, .inl (fun _ => 0))) (h65 : E 65 = .inr (10, [.ref (b + 2), .ref (b + 66), .ref (b + 67), .int 0, .int 0, .int 0, .int 1, .ref (b + 68), .int 0, .ref (b + 69), .int 0, .ref (b + 70), .int 0])) (h66 : E 66 = .inl (cy 0, 40, .inl (fun _ => 0))) (h67 : E 67 = .inl (cy 0, 40, .inl (fun _ => 0))) (h68 : E 68 = .inl (cy 1, 40, .inl (fun _ => 0))) (h69 : E 69 = .inl (cy 1, 41, .inl (fun _ => 0))) (h70 : E 70 = .inl (cy 1, 40, .inl (fun _ => 0))) (h71 : E 71 = .inr (7, [.ref (b + 58), .long 0, .ref (b + 72), .ref (b + 73), .ref (b + 74), .ref (b + 75), .int (-1), .int (-1), .ref (b + 76)])) (h72 : E 72 = .inl (cy 1, 48, .inl (fun _ => 0))) (h73 : E 73 = .inl (cy 1, 48, .inl (fun _ => 0))) (h74 : E 74 = .inl (cy 1, 1248, .inl (fun _ => 0))) (h75 : E 75 = .inl (cy 1, 1248, .inl (fun _ => 0))) (h76 : E 76 = .inl (cy 1, 26, .inl (fun _ => 0))) (h77 : E 77 = .inr (1, [.ref (b + 40), .int 0, .int 0, .int 0, .int 0, .int 0, .int 0])) (h78 : E 78 = .inl (cy 0, 40, .inl (fun _ => 0))) (h79 : E 79 = .inl (cy 1, 10, .inl (fun _ => 0))) (h80 : E 80 = .inr (12, [.ref (b + 81), .ref (b + 82), .ref (b + 83), .int 0, .int 0, .int (-1), .int 0, .int 0, .int 0, .int 0, .int 0, .ref (b + 84), .ref (b + 85), .ref (b + 86), .ref (b + 87), .ref (b + 88), .ref (b + 89), .ref (b + 90), .ref (b + 91), .ref (b + 92), .int 0, .int 0, .int 0, .int 0, .int 0, .int 0, .int 0, .int 0, .ref (b + 93), .ref (b + 94), .ref (b + 95), .int 0, .long 0, .ref (b + 96), .ref (b + 97), .ref (b + 98), .ref (b + 99), .ref (b + 100), .int 0, .ref (b + 101), .int 0, .int 0, .int (-1), .int (-1), .int 0, .int 0, .int 0, .int 0, .int 0, .int 0, .int 0, .int 0])) (h81 : E 81 = .inl (cy 1, 228, .inl memI)) (h82 : E 82 = .inl (cy 1, 228, .inl (fun _ => 0))) (h83 : E 83 = .inl (cy 1, 400, .inl (fun _ => 0))) (h84 : E 84 = .inl (cy 1, 48, .inl (fun _ => 0))) (h85 : E 85 = .inl (cy 1, 6, .inl (fun _ => 0))) (h86 : E 86 = .inl (cy 3, 30, .inl (fun _ => 0))) (h87 : E 87 = .inl (cy 2, 1920, .inr (.inl (fun _ => 0)))) (h88 : E 88 = .inl (cy 2, 1536, .inr (.inl (fun _ => 0)))) (h89 : E 89 = .inl (cy 2, 512, .inr (.inl (fun _ => 0)))) (h90 : E 90 = .inl (cy 2, 240, .inr (.inl (fun _ => 0)))) (h91 : E 91 = .inl (cy 2, 192, .inr (.inl (fun _ => 0)))) (h92 : E 92 = .inl (cy 2, 64, .inr (.inl (fun _ => 0)))) (h93 : E 93 = .inl (cy 1, 40, .inl (fun _ => 0))) (h94 : E 94 = .inl (cy 1, 512, .inl (fun _ => 0))) (h95 : E 95 = .inl (cy 1, 512, .inl (fun _ => 0))) (h96 : E 96 = .inl (cy 1, 1024, .inl (fun _ => 0))) (h97 : E 97 = .inl (cy 1, 1024, .inl (fun _ => 0))) (h98 : E 98 = .inl (cy 1, 1024, .inl (fun _ => 0))) (h99 : E 99 = .inl (cy 1, 1024, .inl (fun _ => 0))) (h100 : E 100 = .inl (cy 1, 1024, .inl (fun _ => 0))) (h101 : E 101 = .inl (cy 1, 40, .inl (fun _ => 0))) : ∀ i, i < 102 → E i = eG b cy stI i := by
  intro i hi
  have h : ((List.range 102).map E)[i]? = some (E i) := by simp [hi]
  have h' : ((List.range 102).map (eG b cy stI))[i]? = some (eG b cy stI i) := by simp [hi]
  have e : (List.range 102).map E = (List.range 102).map (eG b cy stI) := by
    show [E 0, E 1, E 2, E 3, E 4, E 5, E 6, E 7, E 8, E 9, E 10, E 11, E 12, E 13, E 14, E 15, E 16, E 17, E 18, E 19, E 20, E 21, E 22, E 23, E 24, E 25, E 26, E 27, E 28, E 29, E 30, E 31, E 32, E 33, E 34, E 35, E 36, E 37, E 38, E 39, E 40, E 41, E 42, E 43, E 44, E 45, E 46, E 47, E 48, E 49, E 50, E 51, E 52, E 53, E 54, E 55, E 56, E 57, E 58, E 59, E 60, E 61, E 62, E 63, E 64, E 65, E 66, E 67, E 68, E 69, E 70, E 71, E 72, E 73, E 74, E 75, E 76, E 77, E 78, E 79, E 80, E 81, E 82, E 83, E 84, E 85, E 86, E 87, E 88, E 89, E 90, E 91, E 92, E 93, E 94, E 95, E 96, E 97, E 98, E 99, E 100, E 101] = [eG b cy stI 0, eG b cy stI 1, eG b cy stI 2, eG b cy stI 3, eG b cy stI 4, eG b cy stI 5, eG b cy stI 6, eG b cy stI 7, eG b cy stI 8, eG b cy stI 9, eG b cy stI 10, eG b cy stI 11, eG b cy stI 12, eG b cy stI 13, eG b cy stI 14, eG b cy stI 15, eG b cy stI 16, eG b cy stI 17, eG b cy stI 18, eG b cy stI 19, eG b cy stI 20, eG b cy stI 21, eG b cy stI 22, eG b cy stI 23, eG b cy stI 24, eG b cy stI 25, eG b cy stI 26, eG b cy stI 27, eG b cy stI 28, eG b cy stI 29, eG b cy stI 30, eG b cy stI 31, eG b cy stI 32, eG b cy stI 33, eG b cy stI 34, eG b cy stI 35, eG b cy stI 36, eG b cy stI 37, eG b cy stI 38, eG b cy stI 39, eG b cy stI 40, eG b cy stI 41, eG b cy stI 42, eG b cy stI 43, eG b cy stI 44, eG b cy stI 45, eG b cy stI 46, eG b cy stI 47, eG b cy stI 48, eG b cy stI 49, eG b cy stI 50, eG b cy stI 51, eG b cy stI 52, eG b cy stI 53, eG b cy stI 54, eG b cy stI 55, eG b cy stI 56, eG b cy stI 57, eG b cy stI 58, eG b cy stI 59, eG b cy stI 60, eG b cy stI 61, eG b cy stI 62, eG b cy stI 63, eG b cy stI 64, eG b cy stI 65, eG b cy stI 66, eG b cy stI 67, eG b cy stI 68, eG b cy stI 69, eG b cy stI 70, eG b cy stI 71, eG b cy stI 72, eG b cy stI 73, eG b cy stI 74, eG b cy stI 75, eG b cy stI 76, eG b cy stI 77, eG b cy stI 78, eG b cy stI 79, eG b cy stI 80, eG b cy stI 81, eG b cy stI 82, eG b cy stI 83, eG b cy stI 84, eG b cy stI 85, eG b cy stI 86, eG b cy stI 87, eG b cy stI 88, eG b cy stI 89, eG b cy stI 90, eG b cy stI 91, eG b cy stI 92, eG b cy stI 93, eG b cy stI 94, eG b cy stI 95, eG b cy stI 96, eG b cy stI 97, eG b cy stI 98, eG b cy stI 99, eG b cy stI 100, eG b cy stI 101]
    rw [h0, ← zE_0, h1, ← zE_1, h2, ← zE_2, h3, ← zE_3, h4, ← zE_4, h5, ← zE_5, h6, ← zE_6, h7, ← zE_7, h8, ← zE_8, h9, ← zE_9, h10, ← zE_10, h11, ← zE_11, h12, ← zE_12, h13, ← zE_13, h14, ← zE_14, h15, ← zE_15, h16, ← zE_16, h17, ← zE_17, h18, ← zE_18, h19, ← zE_19, h20, ← zE_20, h21, ← zE_21, h22, ← zE_22, h23, ← zE_23, h24, ← zE_24, h25, ← zE_25, h26, ← zE_26, h27, ← zE_27, h28, ← zE_28, h29, ← zE_29, h30, ← zE_30, h31, ← zE_31, h32, ← zE_32, h33, ← zE_33, h34, ← zE_34, h35, ← zE_35, h36, ← zE_36, h37, ← zE_37, h38, ← zE_38, h39, ← zE_39, h40, ← zE_40, h41, ← zE_41, h42, ← zE_42, h43, ← zE_43, h44, ← zE_44, h45, ← zE_45, h46, ← zE_46, h47, ← zE_47, h48, ← zE_48, h49, ← zE_49, h50, ← zE_50, h51, ← zE_51, h52, ← zE_52, h53, ← zE_53, h54, ← zE_54, h55, ← zE_55, h56, ← zE_56, h57, ← zE_57, h58, ← zE_58, h59, ← zE_59, h60, ← zE_60, h61, ← zE_61, h62, ← zE_62, h63, ← zE_63, h64, ← zE_64, h65, ← zE_65, h66, ← zE_66, h67, ← zE_67, h68, ← zE_68, h69, ← zE_69, h70, ← zE_70, h71, ← zE_71, h72, ← zE_72, h73, ← zE_73, h74, ← zE_74, h75, ← zE_75, h76, ← zE_76, h77, ← zE_77, h78, ← zE_78, h79, ← zE_79, h80, ← zE_80, h81, ← zE_81, h82, ← zE_82, h83, ← zE_83, h84, ← zE_84, h85, ← zE_85, h86, ← zE_86, h87, ← zE_87, h88, ← zE_88, h89, ← zE_89, h90, ← zE_90, h91, ← zE_91, h92, ← zE_92, h93, ← zE_93, h94, ← zE_94, h95, ← zE_95, h96, ← zE_96, h97, ← zE_97, h98, ← zE_98, h99, ← zE_99, h100, ← zE_100, h101, ← zE_101]
  rw [e] at h
  exact Option.some.inj (h.symm.trans h')
set_option maxHeartbeats 4000000 in
theorem law_go {p : Program} {l : Launch} {e : Env} {s : State} {m : MethodId} {below : List Frame} {meth : Method} {c : Code} {q0 : Nat} {xs : Nat → Int32} {D : va_G} {cy : Nat → ClassId} {b : Nat} {Inv : Nat → St → Prop} (hI : isInv Inv) {L : Nat} (hL : L ≤ 3072) (C0 : lw_At p s m meth c q0 L xs) (hsz : s.heap.size = b + 0) {H : Heap} {locs : List Loc} (hG : gW D cy b 102 s H locs (eG b cy stI)) {ls : Array Slot} (hl : lv_has ls 4 [(2, .ref (b + 80)), (1, .ref (b + 0)), (0, .ref q0)]) : W p l e room_1 s m #[Value.ref q0] below meth c H locs 102 74647 (lw_Z below #[Value.ref q0] s) (F0 m 16 ls []) := by
  have hx := C0.1
  have hb := C0.2.1
  have hbA : ¬ gA b q0 := fun h => by have := C0.2.2.2.2.2.2.2.1; unfold gA at h; omega
  refine lv_iconst (v := iI (6 * ((0 : Nat) : Int))) hx hb dL_law_16 (by decide) ?_
  refine lv_istore_n (lv' := [(3, .int (iI (6 * ((0 : Nat) : Int)))), (2, .ref (b + 80)), (1, .ref (b + 0)), (0, .ref q0)]) hx hb dL_law_17 rfl hl (by decide) rfl (fun ls hl => ?_)
  have hX : gX D cy b s H locs stI 102 74647 OZ OM := ⟨hG, by show s.heap.size + 102 = b + 102; omega, rfl, Nat.le_refl 102, (hI.2.1 0 stI (by omega) hI.1).2, hsz⟩
  exact lc_loop hL C0 hbA hI 600 0 (by omega) (by omega) (by omega) stI hI.1 102 74647 H locs ls hX hl
set_option maxHeartbeats 8000000 in
theorem law_start {p : Program} {e : Env} {s : State} {m : MethodId} {below : List Frame} {meth : Method} {c : Code} {Inv : Nat → St → Prop} (hI : isInv Inv) (l : Launch) {q0 L : Nat} {xs : Nat → Int32} (hL : L ≤ 3072) (C0 : lw_At p s m meth c q0 L xs) : W p l e room_1 s m #[Value.ref q0] below meth c s.heap [] 0 0 (lw_Z below #[Value.ref q0] s) (entryFrame m ([Value.ref q0] : List Value).toArray 4) := by
  have hx := C0.1
  have hb := C0.2.1
  have S := lw_S C0
  obtain ⟨D, cy, hK⟩ := gK_start C0.2.2.2.2.2.1 C0.2.2.2.2.2.2.2.2.2
  obtain ⟨b, hsz⟩ : ∃ b, s.heap.size = b + 0 := ⟨_, rfl⟩
  rw [hsz] at hK
  have hG : gW D cy b 0 s s.heap [] (fun _ => .inr (0, [])) := ⟨hK, fun k q h => by simp [wd] at h, va_S.rf, by omega⟩
  have hl := lv_entry ([.ref q0]) (n := 4) (Nat.le_of_ble_eq_true rfl)
  rw [lg_entry_eq]
  generalize (lg_sl ([.ref q0]) ++ List.replicate (4 - (lg_sl ([.ref q0])).length) Slot.unset).toArray = ls at hl ⊢
  have hl : lv_has ls 4 [(0, .ref q0)] := hl
  refine g_new (fs := [.null, .int 0, .null, .null, .int 0, .int 0, .null, .null, .null, .null, .null, .null, .null, .null, .null, .int 0, .int 0, .int 0, .int 0]) S hG (by omega) cpX11 wm_198 wm_199 wm_177 dL_law_0 (by decide +kernel) ⟨Nat.le_of_ble_eq_true rfl, Nat.le_of_ble_eq_true rfl⟩ (fun H hG => ?_)
  refine W.widen (k := 1) (n := 19) (Nat.le_of_ble_eq_true rfl) (Nat.le_of_ble_eq_true rfl) ?_
  refine lv_dup hx hb dL_law_3 rfl ?_
  refine g_ctor (As := []) (rest := [.ref (b + 0)]) S hG (by omega) (kX11_init_0 l rfl) wI_GrownKindsLaw_9 dL_law_4 rfl hl.1 (ar := 0) (by decide +kernel) rfl ⟨Nat.le_of_ble_eq_true rfl, Nat.le_of_ble_eq_true rfl, Nat.le_of_ble_eq_true rfl, Nat.le_of_ble_eq_true rfl⟩ (Nat.le_of_ble_eq_true rfl) (fun u_E_1 H locs hp_2 hG => ?_)
  obtain ⟨n_E_1, E_1⟩ := u_E_1
  dsimp only at hp_2 hG
  refine W.widen (k := 80) (n := 62967) (Nat.le_of_ble_eq_true rfl) (Nat.le_of_ble_eq_true rfl) ?_
  obtain ⟨rfl, hlo_3, hhlo_3_0, hhlo_3_1, hhlo_3_2, hhlo_3_3, hhlo_3_4, hhlo_3_5, hhlo_3_6, hhlo_3_7, hhlo_3_8, hhlo_3_9, hhlo_3_10, hhlo_3_11, hhlo_3_12, hhlo_3_13, hhlo_3_14, hhlo_3_15, hhlo_3_16, hhlo_3_17, hhlo_3_18, hhlo_3_19, hhlo_3_20, hhlo_3_21, hhlo_3_22, hhlo_3_23, hhlo_3_24, hhlo_3_25, hhlo_3_26, hhlo_3_27, hhlo_3_28, hhlo_3_29, hhlo_3_30, hhlo_3_31, hhlo_3_32, hhlo_3_33, hhlo_3_34, hhlo_3_35, hhlo_3_36, hhlo_3_37, hhlo_3_38, hhlo_3_39, hhlo_3_40, hhlo_3_41, hhlo_3_42, hhlo_3_43, hhlo_3_44, hhlo_3_45, hhlo_3_46, hhlo_3_47, hhlo_3_48, hhlo_3_49, hhlo_3_50, hhlo_3_51, hhlo_3_52, hhlo_3_53, hhlo_3_54, hhlo_3_55, hhlo_3_56, hhlo_3_57, hhlo_3_58, hhlo_3_59, hhlo_3_60, hhlo_3_61, hhlo_3_62, hhlo_3_63, hhlo_3_64, hhlo_3_65, hhlo_3_66, hhlo_3_67, hhlo_3_68, hhlo_3_69, hhlo_3_70, hhlo_3_71, hhlo_3_72, hhlo_3_73, hhlo_3_74, hhlo_3_75, hhlo_3_76, hhlo_3_77, hhlo_3_78, hhlo_3_79⟩ := hp_2
  refine lv_astore_n (lv' := [(1, .ref (b + 0)), (0, .ref q0)]) hx hb dL_law_7 rfl hl (by decide) rfl (fun ls hl => ?_)
  refine g_new (fs := [.null, .null, .null, .int 0, .int 0, .int 0, .int 0, .int 0, .int 0, .int 0, .int 0, .null, .null, .null, .null, .null, .null, .null, .null, .null, .int 0, .int 0, .int 0, .int 0, .int 0, .int 0, .int 0, .int 0, .null, .null, .null, .int 0, .long 0, .null, .null, .null, .null, .null, .int 0, .null, .int 0, .int 0, .int 0, .int 0, .int 0, .int 0, .int 0, .int 0, .int 0, .int 0, .int 0, .int 0]) S hG (by omega) cpX12 wm_1663 wm_1664 wm_188 dL_law_8 (by decide +kernel) ⟨Nat.le_of_ble_eq_true rfl, Nat.le_of_ble_eq_true rfl⟩ (fun H hG => ?_)
  refine W.widen (k := 81) (n := 63019) (Nat.le_of_ble_eq_true rfl) (Nat.le_of_ble_eq_true rfl) ?_
  refine lv_dup hx hb dL_law_11 rfl ?_
  refine g_ctor (As := []) (rest := [.ref (b + 80)]) S hG (by omega) (kX12_init_80 l rfl) wI_GrownKindsLaw_12 dL_law_12 rfl hl.1 (ar := 0) (by decide +kernel) rfl ⟨Nat.le_of_ble_eq_true rfl, Nat.le_of_ble_eq_true rfl, Nat.le_of_ble_eq_true rfl, Nat.le_of_ble_eq_true rfl⟩ (Nat.le_of_ble_eq_true rfl) (fun u_E_4 H locs hp_5 hG => ?_)
  obtain ⟨n_E_4, E_4⟩ := u_E_4
  dsimp only at hp_5 hG
  refine W.widen (k := 102) (n := 74647) (Nat.le_of_ble_eq_true rfl) (Nat.le_of_ble_eq_true rfl) ?_
  obtain ⟨rfl, hlo_6, hhlo_6_80, hhlo_6_81, hhlo_6_82, hhlo_6_83, hhlo_6_84, hhlo_6_85, hhlo_6_86, hhlo_6_87, hhlo_6_88, hhlo_6_89, hhlo_6_90, hhlo_6_91, hhlo_6_92, hhlo_6_93, hhlo_6_94, hhlo_6_95, hhlo_6_96, hhlo_6_97, hhlo_6_98, hhlo_6_99, hhlo_6_100, hhlo_6_101⟩ := hp_5
  refine lv_astore_n (lv' := [(2, .ref (b + 80)), (1, .ref (b + 0)), (0, .ref q0)]) hx hb dL_law_15 rfl hl (by decide) rfl (fun ls hl => ?_)
  have h0 := ((hlo_6 0 (by decide) (by decide)).trans hhlo_3_0)
  have h1 := ((hlo_6 1 (by decide) (by decide)).trans hhlo_3_1)
  have h2 := ((hlo_6 2 (by decide) (by decide)).trans hhlo_3_2)
  have h3 := ((hlo_6 3 (by decide) (by decide)).trans hhlo_3_3)
  have h4 := ((hlo_6 4 (by decide) (by decide)).trans hhlo_3_4)
  have h5 := ((hlo_6 5 (by decide) (by decide)).trans hhlo_3_5)
  have h6 := ((hlo_6 6 (by decide) (by decide)).trans hhlo_3_6)
  have h7 := ((hlo_6 7 (by decide) (by decide)).trans hhlo_3_7)
  have h8 := ((hlo_6 8 (by decide) (by decide)).trans hhlo_3_8)
  have h9 := ((hlo_6 9 (by decide) (by decide)).trans hhlo_3_9)
  have h10 := ((hlo_6 10 (by decide) (by decide)).trans hhlo_3_10)
  have h11 := ((hlo_6 11 (by decide) (by decide)).trans hhlo_3_11)
  have h12 := ((hlo_6 12 (by decide) (by decide)).trans hhlo_3_12)
  have h13 := ((hlo_6 13 (by decide) (by decide)).trans hhlo_3_13)
  have h14 := ((hlo_6 14 (by decide) (by decide)).trans hhlo_3_14)
  have h15 := ((hlo_6 15 (by decide) (by decide)).trans hhlo_3_15)
  have h16 := ((hlo_6 16 (by decide) (by decide)).trans hhlo_3_16)
  have h17 := ((hlo_6 17 (by decide) (by decide)).trans hhlo_3_17)
  have h18 := ((hlo_6 18 (by decide) (by decide)).trans hhlo_3_18)
  have h19 := ((hlo_6 19 (by decide) (by decide)).trans hhlo_3_19)
  have h20 := ((hlo_6 20 (by decide) (by decide)).trans hhlo_3_20)
  have h21 := ((hlo_6 21 (by decide) (by decide)).trans hhlo_3_21)
  have h22 := ((hlo_6 22 (by decide) (by decide)).trans hhlo_3_22)
  have h23 := ((hlo_6 23 (by decide) (by decide)).trans hhlo_3_23)
  have h24 := ((hlo_6 24 (by decide) (by decide)).trans hhlo_3_24)
  have h25 := ((hlo_6 25 (by decide) (by decide)).trans hhlo_3_25)
  have h26 := ((hlo_6 26 (by decide) (by decide)).trans hhlo_3_26)
  have h27 := ((hlo_6 27 (by decide) (by decide)).trans hhlo_3_27)
  have h28 := ((hlo_6 28 (by decide) (by decide)).trans hhlo_3_28)
  have h29 := ((hlo_6 29 (by decide) (by decide)).trans hhlo_3_29)
  have h30 := ((hlo_6 30 (by decide) (by decide)).trans hhlo_3_30)
  have h31 := ((hlo_6 31 (by decide) (by decide)).trans hhlo_3_31)
  have h32 := ((hlo_6 32 (by decide) (by decide)).trans hhlo_3_32)
  have h33 := ((hlo_6 33 (by decide) (by decide)).trans hhlo_3_33)
  have h34 := ((hlo_6 34 (by decide) (by decide)).trans hhlo_3_34)
  have h35 := ((hlo_6 35 (by decide) (by decide)).trans hhlo_3_35)
  have h36 := ((hlo_6 36 (by decide) (by decide)).trans hhlo_3_36)
  have h37 := ((hlo_6 37 (by decide) (by decide)).trans hhlo_3_37)
  have h38 := ((hlo_6 38 (by decide) (by decide)).trans hhlo_3_38)
  have h39 := ((hlo_6 39 (by decide) (by decide)).trans hhlo_3_39)
  have h40 := ((hlo_6 40 (by decide) (by decide)).trans hhlo_3_40)
  have h41 := ((hlo_6 41 (by decide) (by decide)).trans hhlo_3_41)
  have h42 := ((hlo_6 42 (by decide) (by decide)).trans hhlo_3_42)
  have h43 := ((hlo_6 43 (by decide) (by decide)).trans hhlo_3_43)
  have h44 := ((hlo_6 44 (by decide) (by decide)).trans hhlo_3_44)
  have h45 := ((hlo_6 45 (by decide) (by decide)).trans hhlo_3_45)
  have h46 := ((hlo_6 46 (by decide) (by decide)).trans hhlo_3_46)
  have h47 := ((hlo_6 47 (by decide) (by decide)).trans hhlo_3_47)
  have h48 := ((hlo_6 48 (by decide) (by decide)).trans hhlo_3_48)
  have h49 := ((hlo_6 49 (by decide) (by decide)).trans hhlo_3_49)
  have h50 := ((hlo_6 50 (by decide) (by decide)).trans hhlo_3_50)
  have h51 := ((hlo_6 51 (by decide) (by decide)).trans hhlo_3_51)
  have h52 := ((hlo_6 52 (by decide) (by decide)).trans hhlo_3_52)
  have h53 := ((hlo_6 53 (by decide) (by decide)).trans hhlo_3_53)
  have h54 := ((hlo_6 54 (by decide) (by decide)).trans hhlo_3_54)
  have h55 := ((hlo_6 55 (by decide) (by decide)).trans hhlo_3_55)
  have h56 := ((hlo_6 56 (by decide) (by decide)).trans hhlo_3_56)
  have h57 := ((hlo_6 57 (by decide) (by decide)).trans hhlo_3_57)
  have h58 := ((hlo_6 58 (by decide) (by decide)).trans hhlo_3_58)
  have h59 := ((hlo_6 59 (by decide) (by decide)).trans hhlo_3_59)
  have h60 := ((hlo_6 60 (by decide) (by decide)).trans hhlo_3_60)
  have h61 := ((hlo_6 61 (by decide) (by decide)).trans hhlo_3_61)
  have h62 := ((hlo_6 62 (by decide) (by decide)).trans hhlo_3_62)
  have h63 := ((hlo_6 63 (by decide) (by decide)).trans hhlo_3_63)
  have h64 := ((hlo_6 64 (by decide) (by decide)).trans hhlo_3_64)
  have h65 := ((hlo_6 65 (by decide) (by decide)).trans hhlo_3_65)
  have h66 := ((hlo_6 66 (by decide) (by decide)).trans hhlo_3_66)
  have h67 := ((hlo_6 67 (by decide) (by decide)).trans hhlo_3_67)
  have h68 := ((hlo_6 68 (by decide) (by decide)).trans hhlo_3_68)
  have h69 := ((hlo_6 69 (by decide) (by decide)).trans hhlo_3_69)
  have h70 := ((hlo_6 70 (by decide) (by decide)).trans hhlo_3_70)
  have h71 := ((hlo_6 71 (by decide) (by decide)).trans hhlo_3_71)
  have h72 := ((hlo_6 72 (by decide) (by decide)).trans hhlo_3_72)
  have h73 := ((hlo_6 73 (by decide) (by decide)).trans hhlo_3_73)
  have h74 := ((hlo_6 74 (by decide) (by decide)).trans hhlo_3_74)
  have h75 := ((hlo_6 75 (by decide) (by decide)).trans hhlo_3_75)
  have h76 := ((hlo_6 76 (by decide) (by decide)).trans hhlo_3_76)
  have h77 := ((hlo_6 77 (by decide) (by decide)).trans hhlo_3_77)
  have h78 := ((hlo_6 78 (by decide) (by decide)).trans hhlo_3_78)
  have h79 := ((hlo_6 79 (by decide) (by decide)).trans hhlo_3_79)
  have h80 := hhlo_6_80
  have h81 := hhlo_6_81
  have h82 := hhlo_6_82
  have h83 := hhlo_6_83
  have h84 := hhlo_6_84
  have h85 := hhlo_6_85
  have h86 := hhlo_6_86
  have h87 := hhlo_6_87
  have h88 := hhlo_6_88
  have h89 := hhlo_6_89
  have h90 := hhlo_6_90
  have h91 := hhlo_6_91
  have h92 := hhlo_6_92
  have h93 := hhlo_6_93
  have h94 := hhlo_6_94
  have h95 := hhlo_6_95
  have h96 := hhlo_6_96
  have h97 := hhlo_6_97
  have h98 := hhlo_6_98
  have h99 := hhlo_6_99
  have h100 := hhlo_6_100
  have h101 := hhlo_6_101
  exact law_go hI hL C0 hsz (gW_ext hG (fresh_of h0 h1 h2 h3 h4 h5 h6 h7 h8 h9 h10 h11 h12 h13 h14 h15 h16 h17 h18 h19 h20 h21 h22 h23 h24 h25 h26 h27 h28 h29 h30 h31 h32 h33 h34 h35 h36 h37 h38 h39 h40 h41 h42 h43 h44 h45 h46 h47 h48 h49 h50 h51 h52 h53 h54 h55 h56 h57 h58 h59 h60 h61 h62 h63 h64 h65 h66 h67 h68 h69 h70 h71 h72 h73 h74 h75 h76 h77 h78 h79 h80 h81 h82 h83 h84 h85 h86 h87 h88 h89 h90 h91 h92 h93 h94 h95 h96 h97 h98 h99 h100 h101)) hl
