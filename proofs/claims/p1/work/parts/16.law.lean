theorem dL_law_18 : decode cL_law 18 = .ok (.iload_n 3, 1) := by decide +kernel
theorem dL_law_19 : decode cL_law 19 = .ok (.aload_n 0, 1) := by decide +kernel
theorem dL_law_20 : decode cL_law 20 = .ok (.arraylength, 1) := by decide +kernel
theorem dL_law_21 : decode cL_law 21 = .ok (.bipush 6, 2) := by decide +kernel
theorem dL_law_23 : decode cL_law 23 = .ok (.isub, 1) := by decide +kernel
theorem dL_law_24 : decode cL_law 24 = .ok (.if_icmp .gt 1836, 3) := by decide +kernel
theorem dL_law_1860 : decode cL_law 1860 = .ok (.iconst 1, 1) := by decide +kernel
theorem dL_law_1861 : decode cL_law 1861 = .ok (.ireturn, 1) := by decide +kernel
theorem dL_law_1854 : decode cL_law 1854 = .ok (.iinc 3 6, 3) := by decide +kernel
theorem dL_law_1857 : decode cL_law 1857 = .ok (.goto (-1839), 3) := by decide +kernel
theorem dL_law_0 : decode cL_law 0 = .ok (.new 7, 3) := by decide +kernel
theorem wm_197 : (Jvm.Cond.classLink "GrownKindsLaw" (7 : Nat) "GrownKinds") ∈ gT := gT_in (List.mem_of_getElem? (i := 197) (by decide +kernel)) (by decide +kernel)
theorem dL_law_3 : decode cL_law 3 = .ok (.dup, 1) := by decide +kernel
theorem dL_law_4 : decode cL_law 4 = .ok (.invokespecial 9, 3) := by decide +kernel
theorem wm_199 : (Jvm.Cond.methodLink "GrownKindsLaw" (9 : Nat) ({ cls := "GrownKinds", name := "<init>", desc := "()V" } : Jvm.MethodName)) ∈ gT := gT_in (List.mem_of_getElem? (i := 199) (by decide +kernel)) (by decide +kernel)
theorem wm_200 : (Jvm.Cond.instanceMethod ({ cls := "GrownKinds", name := "<init>", desc := "()V" } : Jvm.MethodName)) ∈ gT := gT_in (List.mem_of_getElem? (i := 200) (by decide +kernel)) (by decide +kernel)
theorem wm_201 : (Jvm.Cond.code ({ cls := "GrownKinds", name := "<init>", desc := "()V" } : Jvm.MethodName) prog_1_method_1_code (1 : Nat) (Option.none : Option Jvm.ClassFile.FieldType)) ∈ gT := gT_in (List.mem_of_getElem? (i := 201) (by decide +kernel)) (by decide +kernel)
theorem dL_law_7 : decode cL_law 7 = .ok (.astore_n 1, 1) := by decide +kernel
theorem dL_law_8 : decode cL_law 8 = .ok (.new 10, 3) := by decide +kernel
theorem wm_1664 : (Jvm.Cond.classLink "GrownKindsLaw" (10 : Nat) "GrownKindsModel") ∈ gT := gT_in (List.mem_of_getElem? (i := 1664) (by decide +kernel)) (by decide +kernel)
theorem dL_law_11 : decode cL_law 11 = .ok (.dup, 1) := by decide +kernel
theorem dL_law_12 : decode cL_law 12 = .ok (.invokespecial 12, 3) := by decide +kernel
theorem wm_1666 : (Jvm.Cond.methodLink "GrownKindsLaw" (12 : Nat) ({ cls := "GrownKindsModel", name := "<init>", desc := "()V" } : Jvm.MethodName)) ∈ gT := gT_in (List.mem_of_getElem? (i := 1666) (by decide +kernel)) (by decide +kernel)
theorem wm_1667 : (Jvm.Cond.instanceMethod ({ cls := "GrownKindsModel", name := "<init>", desc := "()V" } : Jvm.MethodName)) ∈ gT := gT_in (List.mem_of_getElem? (i := 1667) (by decide +kernel)) (by decide +kernel)
theorem wm_1668 : (Jvm.Cond.code ({ cls := "GrownKindsModel", name := "<init>", desc := "()V" } : Jvm.MethodName) prog_14_method_6_code (1 : Nat) (Option.none : Option Jvm.ClassFile.FieldType)) ∈ gT := gT_in (List.mem_of_getElem? (i := 1668) (by decide +kernel)) (by decide +kernel)
theorem dL_law_15 : decode cL_law 15 = .ok (.astore_n 2, 1) := by decide +kernel
/-- the law's end, when the script has no call more -/
theorem lc_out {p : Program} {l : Launch} {e : Env} {s : State} {m : MethodId} {below : List Frame} {meth : Method} {c : Code} {q0 : Nat} {xs : Nat → Int32} {D : va_G} {cy : Nat → ClassId} {b : Nat} {L : Nat} (C0 : lw_At p s m meth c q0 L xs) (hsz : s.heap.size = b + 0) {n cells slots : Nat} {E : Nat → va_E} {H : Heap} {locs : List Loc} (hG : gW D cy b n s H locs E) (hw : cells ≤ 600000 ∧ slots ≤ 7302250) {ls : Array Slot} {v : Int32} {lv : List (Nat × Value)} (hl : lv_has ls 4 lv) (h3 : ls[3]? = some (.val (.int v))) (h0 : ls[0]? = some (.val (.ref q0))) (hv : Int32.ofNat L - 6 < v) : W p l e room_1 s m #[Value.ref q0] below meth c H locs cells slots (lw_Z below #[Value.ref q0] s) (F0 m 18 ls []) := by
  obtain ⟨hx, hb, hr, hml, hown, hts, hX, hbl, hlocks, hgv⟩ := id C0
  have hbA : ¬ gA b q0 := fun h => by unfold gA at h; omega
  refine lv_iload_n hx hb dL_law_18 rfl h3 ?_
  refine lv_aload_n hx hb dL_law_19 rfl h0 ?_
  refine va_slen hx hb hX hbl hbA hG.2.2.1 dL_law_20 ?_
  refine lv_bipush (v := 6) hx hb dL_law_21 (by decide) ?_
  refine lv_isub hx hb dL_law_23 ?_
  refine lv_icmp_gt (tgt := 1860) hx hb dL_law_24 (by decide) (fun _ => ?_) (fun c1 => absurd hv c1)
  refine lv_iconst (v := 1) hx hb dL_law_1860 (by decide) ?_
  refine va_forget (fun q hq => by have := hG.2.2.1.2.2 q hq; unfold gA at this; omega) ?_
  refine W.widen (k := 600000) (n := 7302250) hw.1 hw.2 ?_
  exact lw_ret hx hb hr hlocks dL_law_1861
/-- behind the one call of a script of six -/
theorem lc_end {p : Program} {l : Launch} {e : Env} {s : State} {m : MethodId} {below : List Frame} {meth : Method} {c : Code} {q0 : Nat} {xs : Nat → Int32} {D : va_G} {cy : Nat → ClassId} {b : Nat} (C0 : lw_At p s m meth c q0 6 xs) (hsz : s.heap.size = b + 0) {n cells slots : Nat} {E : Nat → va_E} {H : Heap} {locs : List Loc} (hG : gW D cy b n s H locs E) (hw : cells ≤ 600000 ∧ slots ≤ 7302250) {ls : Array Slot} (hl : lv_has ls 4 [(3, .int 0), (2, .ref (b + 83)), (1, .ref (b + 0)), (0, .ref q0)]) : W p l e room_1 s m #[Value.ref q0] below meth c H locs cells slots (lw_Z below #[Value.ref q0] s) (F0 m 1854 ls []) := by
  have hx := C0.1
  have hb := C0.2.1
  refine lv_iinc (v := 6) (lv' := [(3, .int 6), (2, .ref (b + 83)), (1, .ref (b + 0)), (0, .ref q0)]) hx hb dL_law_1854 hl (k := 0) rfl (by decide) (by decide) rfl (fun ls hl => ?_)
  refine lv_goto (tgt := 18) hx hb dL_law_1857 (by decide) ?_
  exact lc_out C0 hsz hG hw hl (lv_at hl 0 rfl) (lv_at hl 3 rfl) (by decide)
theorem wI_GrownKindsLaw_9 : gWI "GrownKindsLaw" 9 yX11_init cX11_init 1 := ⟨wm_199, wm_200, wm_176, wm_201, by decide +kernel, by decide +kernel, rfl⟩
theorem wI_GrownKindsLaw_12 : gWI "GrownKindsLaw" 12 yX12_init cX12_init 1 := ⟨wm_1666, wm_1667, wm_187, wm_1668, by decide +kernel, by decide +kernel, rfl⟩
theorem fresh_of {b : Nat} {cy : Nat → ClassId} {E : Nat → va_E} (h0 : E 0 = Z0 b cy) (h1 : E 1 = Z1 b cy) (h2 : E 2 = Z2 b cy) (h3 : E 3 = Z3 b cy) (h4 : E 4 = Z4 b cy) (h5 : E 5 = Z5 b cy) (h6 : E 6 = Z6 b cy) (h7 : E 7 = Z7 b cy) (h8 : E 8 = Z8 b cy) (h9 : E 9 = Z9 b cy) (h10 : E 10 = Z10 b cy) (h11 : E 11 = Z11 b cy) (h12 : E 12 = Z12 b cy) (h13 : E 13 = Z13 b cy) (h14 : E 14 = Z14 b cy) (h15 : E 15 = Z15 b cy) (h16 : E 16 = Z16 b cy) (h17 : E 17 = Z17 b cy) (h18 : E 18 = Z18 b cy) (h19 : E 19 = Z19 b cy) (h20 : E 20 = Z20 b cy) (h21 : E 21 = Z21 b cy) (h22 : E 22 = Z22 b cy) (h23 : E 23 = Z23 b cy) (h24 : E 24 = Z24 b cy) (h25 : E 25 = Z25 b cy) (h26 : E 26 = Z26 b cy) (h27 : E 27 = Z27 b cy) (h28 : E 28 = Z28 b cy) (h29 : E 29 = Z29 b cy) (h30 : E 30 = Z30 b cy) (h31 : E 31 = Z31 b cy) (h32 : E 32 = Z32 b cy) (h33 : E 33 = Z33 b cy) (h34 : E 34 = Z34 b cy) (h35 : E 35 = Z35 b cy) (h36 : E 36 = Z36 b cy) (h37 : E 37 = Z37 b cy) (h38 : E 38 = Z38 b cy) (h39 : E 39 = Z39 b cy) (h40 : E 40 = Z40 b cy) (h41 : E 41 = Z41 b cy) (h42 : E 42 = Z42 b cy) (h43 : E 43 = Z43 b cy) (h44 : E 44 = Z44 b cy) (h45 : E 45 = Z45 b cy) (h46 : E 46 = Z46 b cy) (h47 : E 47 = Z47 b cy) (h48 : E 48 = Z48 b cy) (h49 : E 49 = Z49 b cy) (h50 : E 50 = Z50 b cy) (h51 : E 51 = Z51 b cy) (h52 : E 52 = Z52 b cy) (h53 : E 53 = Z53 b cy) (h54 : E 54 = Z54 b cy) (h55 : E 55 = Z55 b cy) (h56 : E 56 = Z56 b cy) (h57 : E 57 = Z57 b cy) (h58 : E 58 = Z58 b cy) (h59 : E 59 = Z59 b cy) (h60 : E 60 = Z60 b cy) (h61 : E 61 = Z61 b cy) (h62 : E 62 = Z62 b cy) (h63 : E 63 = Z63 b cy) (h64 : E 64 = Z64 b cy) (h65 : E 65 = Z65 b cy) (h66 : E 66 = Z66 b cy) (h67 : E 67 = Z67 b cy) (h68 : E 68 = Z68 b cy) (h69 : E 69 = Z69 b cy) (h70 : E 70 = Z70 b cy) (h71 : E 71 = Z71 b cy) (h72 : E 72 = Z72 b cy) (h73 : E 73 = Z73 b cy) (h74 : E 74 = Z74 b cy) (h75 : E 75 = Z75 b cy) (h76 : E 76 = Z76 b cy) (h77 : E 77 = Z77 b cy) (h78 : E 78 = Z78 b cy) (h79 : E 79 = Z79 b cy) (h80 : E 80 = Z80 b cy) (h81 : E 81 = Z81 b cy) (h82 : E 82 = Z82 b cy) (h83 : E 83 = Z83 b cy) (h84 : E 84 = Z84 b cy) (h85 : E 85 = Z85 b cy) (h86 : E 86 = Z86 b cy) (h87 : E 87 = Z87 b cy) (h88 : E 88 = Z88 b cy) (h89 : E 89 = Z89 b cy) (h90 : E 90 = Z90 b cy) (h91 : E 91 = Z91 b cy) (h92 : E 92 = Z92 b cy) (h93 : E 93 = Z93 b cy) (h94 : E 94 = Z94 b cy) (h95 : E 95 = Z95 b cy) (h96 : E 96 = Z96 b cy) (h97 : E 97 = Z97 b cy) (h98 : E 98 = Z98 b cy) (h99 : E 99 = Z99 b cy) (h100 : E 100 = Z100 b cy) (h101 : E 101 = Z101 b cy) (h102 : E 102 = Z102 b cy) (h103 : E 103 = Z103 b cy) (h104 : E 104 = Z104 b cy) : Fresh b cy E := by
  have h : ∀ k : Nat, k < 105 → ((List.range 105).map E)[k]? = some (E k) := fun k hk => by simp [hk]
  have e : (List.range 105).map E = Zs b cy := by
    show [E 0, E 1, E 2, E 3, E 4, E 5, E 6, E 7, E 8, E 9, E 10, E 11, E 12, E 13, E 14, E 15, E 16, E 17, E 18, E 19, E 20, E 21, E 22, E 23, E 24, E 25, E 26, E 27, E 28, E 29, E 30, E 31, E 32, E 33, E 34, E 35, E 36, E 37, E 38, E 39, E 40, E 41, E 42, E 43, E 44, E 45, E 46, E 47, E 48, E 49, E 50, E 51, E 52, E 53, E 54, E 55, E 56, E 57, E 58, E 59, E 60, E 61, E 62, E 63, E 64, E 65, E 66, E 67, E 68, E 69, E 70, E 71, E 72, E 73, E 74, E 75, E 76, E 77, E 78, E 79, E 80, E 81, E 82, E 83, E 84, E 85, E 86, E 87, E 88, E 89, E 90, E 91, E 92, E 93, E 94, E 95, E 96, E 97, E 98, E 99, E 100, E 101, E 102, E 103, E 104] = Zs b cy
    rw [h0, h1, h2, h3, h4, h5, h6, h7, h8, h9, h10, h11, h12, h13, h14, h15, h16, h17, h18, h19, h20, h21, h22, h23, h24, h25, h26, h27, h28, h29, h30, h31, h32, h33, h34, h35, h36, h37, h38, h39, h40, h41, h42, h43, h44, h45, h46, h47, h48, h49, h50, h51, h52, h53, h54, h55, h56, h57, h58, h59, h60, h61, h62, h63, h64, h65, h66, h67, h68, h69, h70, h71, h72, h73, h74, h75, h76, h77, h78, h79, h80, h81, h82, h83, h84, h85, h86, h87, h88, h89, h90, h91, h92, h93, h94, h95, h96, h97, h98, h99, h100, h101, h102, h103, h104]
    rfl
  rw [e] at h
  exact h
