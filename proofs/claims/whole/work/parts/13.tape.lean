theorem dX11_putFour_0 : decode cX11_putFour 0 = .ok (.bipush 24, 2) := by decide +kernel
theorem dX11_putFour_2 : decode cX11_putFour 2 = .ok (.istore_n 2, 1) := by decide +kernel
theorem dX11_putFour_3 : decode cX11_putFour 3 = .ok (.iload_n 2, 1) := by decide +kernel
theorem dX11_putFour_4 : decode cX11_putFour 4 = .ok (.ifCond .lt 42, 3) := by decide +kernel
theorem dX11_putFour_7 : decode cX11_putFour 7 = .ok (.aload_n 0, 1) := by decide +kernel
theorem dX11_putFour_8 : decode cX11_putFour 8 = .ok (.getfield 13, 3) := by decide +kernel
theorem dX11_putFour_11 : decode cX11_putFour 11 = .ok (.sipush 400, 3) := by decide +kernel
theorem dX11_putFour_14 : decode cX11_putFour 14 = .ok (.if_icmp .ge 32, 3) := by decide +kernel
theorem dX11_putFour_17 : decode cX11_putFour 17 = .ok (.aload_n 0, 1) := by decide +kernel
theorem dX11_putFour_18 : decode cX11_putFour 18 = .ok (.getfield 9, 3) := by decide +kernel
theorem dX11_putFour_21 : decode cX11_putFour 21 = .ok (.aload_n 0, 1) := by decide +kernel
theorem dX11_putFour_22 : decode cX11_putFour 22 = .ok (.getfield 13, 3) := by decide +kernel
theorem dX11_putFour_25 : decode cX11_putFour 25 = .ok (.iload_n 1, 1) := by decide +kernel
theorem dX11_putFour_26 : decode cX11_putFour 26 = .ok (.iload_n 2, 1) := by decide +kernel
theorem dX11_putFour_27 : decode cX11_putFour 27 = .ok (.iushr, 1) := by decide +kernel
theorem dX11_putFour_28 : decode cX11_putFour 28 = .ok (.i2b, 1) := by decide +kernel
theorem dX11_putFour_29 : decode cX11_putFour 29 = .ok (.bastore, 1) := by decide +kernel
theorem dX11_putFour_30 : decode cX11_putFour 30 = .ok (.aload_n 0, 1) := by decide +kernel
theorem dX11_putFour_31 : decode cX11_putFour 31 = .ok (.dup, 1) := by decide +kernel
theorem dX11_putFour_32 : decode cX11_putFour 32 = .ok (.getfield 13, 3) := by decide +kernel
theorem dX11_putFour_35 : decode cX11_putFour 35 = .ok (.iconst 1, 1) := by decide +kernel
theorem dX11_putFour_36 : decode cX11_putFour 36 = .ok (.iadd, 1) := by decide +kernel
theorem dX11_putFour_37 : decode cX11_putFour 37 = .ok (.putfield 13, 3) := by decide +kernel
theorem dX11_putFour_40 : decode cX11_putFour 40 = .ok (.iinc 2 (-8), 3) := by decide +kernel
theorem dX11_putFour_43 : decode cX11_putFour 43 = .ok (.goto (-40), 3) := by decide +kernel
theorem dX11_putFour_46 : decode cX11_putFour 46 = .ok (.return_, 1) := by decide +kernel
theorem dX11_feed_0 : decode cX11_feed 0 = .ok (.aload_n 0, 1) := by decide +kernel
theorem dX11_feed_1 : decode cX11_feed 1 = .ok (.getfield 13, 3) := by decide +kernel
theorem dX11_feed_4 : decode cX11_feed 4 = .ok (.bipush 20, 2) := by decide +kernel
theorem dX11_feed_6 : decode cX11_feed 6 = .ok (.iadd, 1) := by decide +kernel
theorem dX11_feed_7 : decode cX11_feed 7 = .ok (.sipush 400, 3) := by decide +kernel
theorem dX11_feed_10 : decode cX11_feed 10 = .ok (.if_icmp .le 5, 3) := by decide +kernel
theorem dX11_feed_15 : decode cX11_feed 15 = .ok (.aload_n 0, 1) := by decide +kernel
theorem dX11_feed_16 : decode cX11_feed 16 = .ok (.iload_n 1, 1) := by decide +kernel
theorem dX11_feed_17 : decode cX11_feed 17 = .ok (.invokevirtual 120, 3) := by decide +kernel
theorem wm_728 : (Jvm.Cond.methodLink "GrownKinds" (120 : Nat) ({ cls := "GrownKinds", name := "putFour", desc := "(I)V" } : Jvm.MethodName)) ∈ gT := gT_in (List.mem_of_getElem? (i := 728) (by decide +kernel)) (by decide +kernel)
theorem wm_730 : (Jvm.Cond.instanceMethod ({ cls := "GrownKinds", name := "putFour", desc := "(I)V" } : Jvm.MethodName)) ∈ gT := gT_in (List.mem_of_getElem? (i := 730) (by decide +kernel)) (by decide +kernel)
theorem wm_0 : Cond.selects "GrownKinds" ⟨"GrownKinds", "putFour", "(I)V"⟩ ⟨"GrownKinds", "putFour", "(I)V"⟩ ∈ gT := gT_in (List.mem_of_getElem? (i := 0) (by decide +kernel)) (by decide +kernel)
theorem wm_731 : (Jvm.Cond.code ({ cls := "GrownKinds", name := "putFour", desc := "(I)V" } : Jvm.MethodName) prog_1_method_3_code (3 : Nat) (Option.none : Option Jvm.ClassFile.FieldType)) ∈ gT := gT_in (List.mem_of_getElem? (i := 731) (by decide +kernel)) (by decide +kernel)
theorem dX11_feed_20 : decode cX11_feed 20 = .ok (.aload_n 0, 1) := by decide +kernel
theorem dX11_feed_21 : decode cX11_feed 21 = .ok (.iload_n 2, 1) := by decide +kernel
theorem dX11_feed_22 : decode cX11_feed 22 = .ok (.invokevirtual 120, 3) := by decide +kernel
theorem dX11_feed_25 : decode cX11_feed 25 = .ok (.aload_n 0, 1) := by decide +kernel
theorem dX11_feed_26 : decode cX11_feed 26 = .ok (.iload_n 3, 1) := by decide +kernel
theorem dX11_feed_27 : decode cX11_feed 27 = .ok (.invokevirtual 120, 3) := by decide +kernel
theorem dX11_feed_30 : decode cX11_feed 30 = .ok (.aload_n 0, 1) := by decide +kernel
theorem dX11_feed_31 : decode cX11_feed 31 = .ok (.iload 4, 2) := by decide +kernel
theorem dX11_feed_33 : decode cX11_feed 33 = .ok (.invokevirtual 120, 3) := by decide +kernel
theorem dX11_feed_36 : decode cX11_feed 36 = .ok (.aload_n 0, 1) := by decide +kernel
theorem dX11_feed_37 : decode cX11_feed 37 = .ok (.iload 5, 2) := by decide +kernel
theorem dX11_feed_39 : decode cX11_feed 39 = .ok (.invokevirtual 120, 3) := by decide +kernel
theorem dX11_feed_42 : decode cX11_feed 42 = .ok (.aload_n 0, 1) := by decide +kernel
theorem dX11_feed_43 : decode cX11_feed 43 = .ok (.getfield 13, 3) := by decide +kernel
theorem dX11_feed_46 : decode cX11_feed 46 = .ok (.ireturn, 1) := by decide +kernel
theorem dX11_feed_13 : decode cX11_feed 13 = .ok (.iconst (-1), 1) := by decide +kernel
theorem dX11_feed_14 : decode cX11_feed 14 = .ok (.ireturn, 1) := by decide +kernel
theorem dX12_feed_0 : decode cX12_feed 0 = .ok (.aload_n 0, 1) := by decide +kernel
theorem dX12_feed_1 : decode cX12_feed 1 = .ok (.getfield 94, 3) := by decide +kernel
theorem wm_1677 : (Jvm.Cond.fieldLink "GrownKindsModel" (94 : Nat) "GrownKindsModel" "taped" "I") ∈ gT := gT_in (List.mem_of_getElem? (i := 1677) (by decide +kernel)) (by decide +kernel)
theorem dX12_feed_4 : decode cX12_feed 4 = .ok (.sipush 380, 3) := by decide +kernel
theorem dX12_feed_7 : decode cX12_feed 7 = .ok (.if_icmp .le 5, 3) := by decide +kernel
theorem dX12_feed_12 : decode cX12_feed 12 = .ok (.iconst 5, 1) := by decide +kernel
theorem dX12_feed_13 : decode cX12_feed 13 = .ok (.newarray .int, 2) := by decide +kernel
theorem dX12_feed_15 : decode cX12_feed 15 = .ok (.dup, 1) := by decide +kernel
theorem dX12_feed_16 : decode cX12_feed 16 = .ok (.iconst 0, 1) := by decide +kernel
theorem dX12_feed_17 : decode cX12_feed 17 = .ok (.iload_n 1, 1) := by decide +kernel
theorem dX12_feed_18 : decode cX12_feed 18 = .ok (.iastore, 1) := by decide +kernel
theorem dX12_feed_19 : decode cX12_feed 19 = .ok (.dup, 1) := by decide +kernel
theorem dX12_feed_20 : decode cX12_feed 20 = .ok (.iconst 1, 1) := by decide +kernel
theorem dX12_feed_21 : decode cX12_feed 21 = .ok (.iload_n 2, 1) := by decide +kernel
theorem dX12_feed_22 : decode cX12_feed 22 = .ok (.iastore, 1) := by decide +kernel
theorem dX12_feed_23 : decode cX12_feed 23 = .ok (.dup, 1) := by decide +kernel
theorem dX12_feed_24 : decode cX12_feed 24 = .ok (.iconst 2, 1) := by decide +kernel
theorem dX12_feed_25 : decode cX12_feed 25 = .ok (.iload_n 3, 1) := by decide +kernel
theorem dX12_feed_26 : decode cX12_feed 26 = .ok (.iastore, 1) := by decide +kernel
theorem dX12_feed_27 : decode cX12_feed 27 = .ok (.dup, 1) := by decide +kernel
theorem dX12_feed_28 : decode cX12_feed 28 = .ok (.iconst 3, 1) := by decide +kernel
theorem dX12_feed_29 : decode cX12_feed 29 = .ok (.iload 4, 2) := by decide +kernel
theorem dX12_feed_31 : decode cX12_feed 31 = .ok (.iastore, 1) := by decide +kernel
theorem dX12_feed_32 : decode cX12_feed 32 = .ok (.dup, 1) := by decide +kernel
theorem dX12_feed_33 : decode cX12_feed 33 = .ok (.iconst 4, 1) := by decide +kernel
theorem dX12_feed_34 : decode cX12_feed 34 = .ok (.iload 5, 2) := by decide +kernel
theorem dX12_feed_36 : decode cX12_feed 36 = .ok (.iastore, 1) := by decide +kernel
theorem dX12_feed_37 : decode cX12_feed 37 = .ok (.astore 6, 2) := by decide +kernel
theorem dX12_feed_39 : decode cX12_feed 39 = .ok (.iconst 0, 1) := by decide +kernel
theorem dX12_feed_40 : decode cX12_feed 40 = .ok (.istore 7, 2) := by decide +kernel
theorem dX12_feed_42 : decode cX12_feed 42 = .ok (.iload 7, 2) := by decide +kernel
theorem dX12_feed_44 : decode cX12_feed 44 = .ok (.bipush 20, 2) := by decide +kernel
theorem dX12_feed_46 : decode cX12_feed 46 = .ok (.if_icmp .ge 43, 3) := by decide +kernel
theorem dX12_feed_49 : decode cX12_feed 49 = .ok (.aload_n 0, 1) := by decide +kernel
theorem dX12_feed_50 : decode cX12_feed 50 = .ok (.getfield 22, 3) := by decide +kernel
theorem dX12_feed_53 : decode cX12_feed 53 = .ok (.aload_n 0, 1) := by decide +kernel
theorem dX12_feed_54 : decode cX12_feed 54 = .ok (.getfield 94, 3) := by decide +kernel
theorem dX12_feed_57 : decode cX12_feed 57 = .ok (.iload 7, 2) := by decide +kernel
theorem dX12_feed_59 : decode cX12_feed 59 = .ok (.iadd, 1) := by decide +kernel
theorem dX12_feed_60 : decode cX12_feed 60 = .ok (.aload 6, 2) := by decide +kernel
theorem dX12_feed_62 : decode cX12_feed 62 = .ok (.iload 7, 2) := by decide +kernel
theorem dX12_feed_64 : decode cX12_feed 64 = .ok (.iconst 4, 1) := by decide +kernel
theorem dX12_feed_65 : decode cX12_feed 65 = .ok (.idiv, 1) := by decide +kernel
theorem dX12_feed_66 : decode cX12_feed 66 = .ok (.iaload, 1) := by decide +kernel
theorem dX12_feed_67 : decode cX12_feed 67 = .ok (.bipush 24, 2) := by decide +kernel
theorem dX12_feed_69 : decode cX12_feed 69 = .ok (.bipush 8, 2) := by decide +kernel
theorem dX12_feed_71 : decode cX12_feed 71 = .ok (.iload 7, 2) := by decide +kernel
theorem dX12_feed_73 : decode cX12_feed 73 = .ok (.iconst 4, 1) := by decide +kernel
theorem dX12_feed_74 : decode cX12_feed 74 = .ok (.irem, 1) := by decide +kernel
theorem dX12_feed_75 : decode cX12_feed 75 = .ok (.imul, 1) := by decide +kernel
theorem dX12_feed_76 : decode cX12_feed 76 = .ok (.isub, 1) := by decide +kernel
theorem dX12_feed_77 : decode cX12_feed 77 = .ok (.iushr, 1) := by decide +kernel
theorem dX12_feed_78 : decode cX12_feed 78 = .ok (.sipush 255, 3) := by decide +kernel
theorem dX12_feed_81 : decode cX12_feed 81 = .ok (.iand, 1) := by decide +kernel
theorem dX12_feed_82 : decode cX12_feed 82 = .ok (.iastore, 1) := by decide +kernel
theorem dX12_feed_83 : decode cX12_feed 83 = .ok (.iinc 7 1, 3) := by decide +kernel
theorem dX12_feed_86 : decode cX12_feed 86 = .ok (.goto (-44), 3) := by decide +kernel
theorem dX12_feed_89 : decode cX12_feed 89 = .ok (.aload_n 0, 1) := by decide +kernel
theorem dX12_feed_90 : decode cX12_feed 90 = .ok (.dup, 1) := by decide +kernel
theorem dX12_feed_91 : decode cX12_feed 91 = .ok (.getfield 94, 3) := by decide +kernel
theorem dX12_feed_94 : decode cX12_feed 94 = .ok (.bipush 20, 2) := by decide +kernel
theorem dX12_feed_96 : decode cX12_feed 96 = .ok (.iadd, 1) := by decide +kernel
theorem dX12_feed_97 : decode cX12_feed 97 = .ok (.putfield 94, 3) := by decide +kernel
theorem dX12_feed_100 : decode cX12_feed 100 = .ok (.aload_n 0, 1) := by decide +kernel
theorem dX12_feed_101 : decode cX12_feed 101 = .ok (.getfield 94, 3) := by decide +kernel
theorem dX12_feed_104 : decode cX12_feed 104 = .ok (.ireturn, 1) := by decide +kernel
theorem dX12_feed_10 : decode cX12_feed 10 = .ok (.iconst (-1), 1) := by decide +kernel
theorem dX12_feed_11 : decode cX12_feed 11 = .ok (.ireturn, 1) := by decide +kernel
theorem dX12_end_0 : decode cX12_end 0 = .ok (.iload_n 1, 1) := by decide +kernel
theorem dX12_end_1 : decode cX12_end 1 = .ok (.i2l, 1) := by decide +kernel
theorem dX12_end_2 : decode cX12_end 2 = .ok (.lconst 0, 1) := by decide +kernel
theorem dX12_end_3 : decode cX12_end 3 = .ok (.aload_n 0, 1) := by decide +kernel
theorem dX12_end_4 : decode cX12_end 4 = .ok (.getfield 94, 3) := by decide +kernel
theorem dX12_end_7 : decode cX12_end 7 = .ok (.i2l, 1) := by decide +kernel
theorem dX12_end_8 : decode cX12_end 8 = .ok (.invokestatic 97, 3) := by decide +kernel
theorem wm_1839 : (Jvm.Cond.methodLink "GrownKindsModel" (97 : Nat) ({ cls := "GrownKindsModel", name := "in", desc := "(JJJ)Z" } : Jvm.MethodName)) ∈ gT := gT_in (List.mem_of_getElem? (i := 1839) (by decide +kernel)) (by decide +kernel)
theorem wm_1840 : (Jvm.Cond.static ({ cls := "GrownKindsModel", name := "in", desc := "(JJJ)Z" } : Jvm.MethodName)) ∈ gT := gT_in (List.mem_of_getElem? (i := 1840) (by decide +kernel)) (by decide +kernel)
theorem wm_1841 : (Jvm.Cond.code ({ cls := "GrownKindsModel", name := "in", desc := "(JJJ)Z" } : Jvm.MethodName) prog_14_method_1_code (6 : Nat) (Option.some Jvm.ClassFile.FieldType.boolean)) ∈ gT := gT_in (List.mem_of_getElem? (i := 1841) (by decide +kernel)) (by decide +kernel)
theorem dX12_end_11 : decode cX12_end 11 = .ok (.ifCond .ne 5, 3) := by decide +kernel
theorem dX12_end_16 : decode cX12_end 16 = .ok (.aload_n 0, 1) := by decide +kernel
theorem dX12_end_17 : decode cX12_end 17 = .ok (.iload_n 1, 1) := by decide +kernel
theorem dX12_end_18 : decode cX12_end 18 = .ok (.putfield 94, 3) := by decide +kernel
theorem dX12_end_21 : decode cX12_end 21 = .ok (.iload_n 1, 1) := by decide +kernel
theorem dX12_end_22 : decode cX12_end 22 = .ok (.ireturn, 1) := by decide +kernel
theorem dX12_end_14 : decode cX12_end 14 = .ok (.iconst (-1), 1) := by decide +kernel
theorem dX12_end_15 : decode cX12_end 15 = .ok (.ireturn, 1) := by decide +kernel
/-- four bytes come on the class's tape; twenty -/
def pf4 (tp : Nat → Int) (ts a : Int) : Nat → Int := upZ (upZ (upZ (upZ tp (ts + 0).toNat (s8 (ush a 24))) (ts + 1).toNat (s8 (ush a 16))) (ts + 2).toNat (s8 (ush a 8))) (ts + 3).toNat (s8 (ush a 0))
def pf20 (tp : Nat → Int) (ts a1 a2 a3 a4 a5 : Int) : Nat → Int := pf4 (pf4 (pf4 (pf4 (pf4 tp ts a1) (ts + 4) a2) (ts + 4 + 4) a3) (ts + 4 + 4 + 4) a4) (ts + 4 + 4 + 4 + 4) a5
set_option maxHeartbeats 4000000 in
set_option maxRecDepth 100000 in
theorem wX11_putFour (l : Launch) {D : va_G} {cy : Nat → ClassId} {b n : Nat} (hn : 105 ≤ n) {E : Nat → va_E}  {tapeSize0 faultNumber0 faultPlace0 actCount0 stamp0 toldSize0 toldRank0 : Int} {tp : Nat → Int} (h0 : E 0 = O0 b tapeSize0 faultNumber0 faultPlace0 actCount0 stamp0 toldSize0 toldRank0) (h1 : E 1 = cB cy 400 tp) (a1 : Int) (hts : 0 ≤ tapeSize0 ∧ tapeSize0 ≤ 396) (hb1 : (-2147483648 ≤ a1 ∧ a1 ≤ 2147483647)) : gV l yX11_putFour cX11_putFour 3 0 0 0 D cy b n E [.ref (b + 0), .int (iI a1)] (fun u => u.1 = n ∧ (∀ j, j ≠ 0 → j ≠ 1 → u.2 j = E j) ∧ u.2 0 = O0 b (tapeSize0 + 4) faultNumber0 faultPlace0 actCount0 stamp0 toldSize0 toldRank0 ∧ (∃ g : Nat → Int, u.2 1 = cB cy 400 g ∧ g = pf4 tp tapeSize0 a1)) := by
  refine gV_of (by decide) (Nat.le_of_ble_eq_true rfl) ?_
  intro p e s m args below meth c S hr hlk hin hsz ls hl hG
  have hx := S.1
  have hb := S.2.1
  have hl : lv_has ls 3 [(0, .ref (b + 0)), (1, .int (iI a1))] := hl
  refine lv_bipush (v := iI 24) hx hb dX11_putFour_0 (by decide) ?_
  refine lv_istore_n (lv' := [(2, .int (iI 24)), (0, .ref (b + 0)), (1, .int (iI a1))]) hx hb dX11_putFour_2 rfl hl (by decide) rfl (fun ls hl => ?_)
  refine lv_iload_n hx hb dX11_putFour_3 rfl (lv_at hl 0 rfl) ?_
  refine gi_if_lt (tgt := 46) hx hb dX11_putFour_4 (by decide) (by omega) (fun c_1 => absurd c_1 (by decide)) (fun _ => ?_)
  refine lv_aload_n hx hb dX11_putFour_7 rfl (lv_at hl 1 rfl) ?_
  refine g_get S hG 0 1 (show gEof hG 0 = O0 b tapeSize0 faultNumber0 faultPlace0 actCount0 stamp0 toldSize0 toldRank0 from h0) cpX11 wm_667 dX11_putFour_8 rfl (by omega) (by decide) ?_
  refine lv_sipush (v := iI 400) hx hb dX11_putFour_11 (by decide) ?_
  refine gi_icmp_ge (tgt := 46) hx hb dX11_putFour_14 (by decide) (by omega) (by omega) (fun c_2 => (show False by omega).elim) (fun c_2 => ?_)
  refine lv_aload_n hx hb dX11_putFour_17 rfl (lv_at hl 1 rfl) ?_
  refine g_get S hG 0 0 (show gEof hG 0 = O0 b tapeSize0 faultNumber0 faultPlace0 actCount0 stamp0 toldSize0 toldRank0 from h0) cpX11 wm_666 dX11_putFour_18 rfl (by omega) (by decide) ?_
  refine lv_aload_n hx hb dX11_putFour_21 rfl (lv_at hl 1 rfl) ?_
  refine g_get S hG 0 1 (show gEof hG 0 = O0 b tapeSize0 faultNumber0 faultPlace0 actCount0 stamp0 toldSize0 toldRank0 from h0) cpX11 wm_667 dX11_putFour_22 rfl (by omega) (by decide) ?_
  refine lv_iload_n hx hb dX11_putFour_25 rfl (lv_at hl 2 rfl) ?_
  refine lv_iload_n hx hb dX11_putFour_26 rfl (lv_at hl 0 rfl) ?_
  refine gi_ushr hx hb dX11_putFour_27 ?_
  refine gi_nm (fun x_3 ex_3 => ?_)
  have bx_3 := ush_b a1 24; rw [← ex_3] at bx_3
  refine gi_i2b hx hb dX11_putFour_28 ?_
  refine gb_ast S hG 1 (show gEof hG 1 = cB cy 400 tp from h1) (by omega) dX11_putFour_29 (by omega) (by decide) (s8_n _) (fun H locs hG => ?_)
  refine lv_aload_n hx hb dX11_putFour_30 rfl (lv_at hl 1 rfl) ?_
  refine lv_dup hx hb dX11_putFour_31 rfl ?_
  refine g_get S hG 0 1 (show gEof hG 0 = O0 b tapeSize0 faultNumber0 faultPlace0 actCount0 stamp0 toldSize0 toldRank0 from ((upE_n (by omega)).trans h0)) cpX11 wm_667 dX11_putFour_32 rfl (by omega) (by decide) ?_
  refine lv_iconst (v := iI 1) hx hb dX11_putFour_35 (by decide) ?_
  refine gi_add hx hb dX11_putFour_36 ?_
  refine gi_nm (fun x_4 ex_4 => ?_)
  refine g_put (fs' := [.ref (b + 1), .int (iI x_4), .ref (b + 2), .ref (b + 12), .int (iI faultNumber0), .int (iI faultPlace0), .ref (b + 33), .ref (b + 40), .ref (b + 47), .ref (b + 60), .ref (b + 67), .ref (b + 73), .ref (b + 80), .ref (b + 81), .ref (b + 82), .int (iI actCount0), .int (iI stamp0), .int (iI toldSize0), .int (iI toldRank0)]) S hG 0 1 (show gEof hG 0 = O0 b tapeSize0 faultNumber0 faultPlace0 actCount0 stamp0 toldSize0 toldRank0 from ((upE_n (by omega)).trans h0)) cpX11 wm_667 dX11_putFour_37 rfl (by omega) (by decide) (Nat.le_of_ble_eq_true rfl) rfl rfl rfl (fun H locs hG => ?_)
  refine lv_iinc (v := iI 16) (lv' := [(2, .int (iI 16)), (0, .ref (b + 0)), (1, .int (iI a1))]) hx hb dX11_putFour_40 hl (k := 0) rfl ((iI_add 24 (-8)).trans (congrArg iI (by omega))) (by decide) rfl (fun ls hl => ?_)
  refine lv_goto (tgt := 3) hx hb dX11_putFour_43 (by decide) ?_
  refine lv_iload_n hx hb dX11_putFour_3 rfl (lv_at hl 0 rfl) ?_
  refine gi_if_lt (tgt := 46) hx hb dX11_putFour_4 (by decide) (by omega) (fun c_5 => absurd c_5 (by decide)) (fun _ => ?_)
  refine lv_aload_n hx hb dX11_putFour_7 rfl (lv_at hl 1 rfl) ?_
  refine g_get S hG 0 1 (show gEof hG 0 = O0 b x_4 faultNumber0 faultPlace0 actCount0 stamp0 toldSize0 toldRank0 from upE_s) cpX11 wm_667 dX11_putFour_8 rfl (by omega) (by decide) ?_
  refine lv_sipush (v := iI 400) hx hb dX11_putFour_11 (by decide) ?_
  refine gi_icmp_ge (tgt := 46) hx hb dX11_putFour_14 (by decide) (by omega) (by omega) (fun c_6 => (show False by omega).elim) (fun c_6 => ?_)
  refine lv_aload_n hx hb dX11_putFour_17 rfl (lv_at hl 1 rfl) ?_
  refine g_get S hG 0 0 (show gEof hG 0 = O0 b x_4 faultNumber0 faultPlace0 actCount0 stamp0 toldSize0 toldRank0 from upE_s) cpX11 wm_666 dX11_putFour_18 rfl (by omega) (by decide) ?_
  refine lv_aload_n hx hb dX11_putFour_21 rfl (lv_at hl 1 rfl) ?_
  refine g_get S hG 0 1 (show gEof hG 0 = O0 b x_4 faultNumber0 faultPlace0 actCount0 stamp0 toldSize0 toldRank0 from upE_s) cpX11 wm_667 dX11_putFour_22 rfl (by omega) (by decide) ?_
  refine lv_iload_n hx hb dX11_putFour_25 rfl (lv_at hl 2 rfl) ?_
  refine lv_iload_n hx hb dX11_putFour_26 rfl (lv_at hl 0 rfl) ?_
  refine gi_ushr hx hb dX11_putFour_27 ?_
  refine gi_nm (fun x_7 ex_7 => ?_)
  have bx_7 := ush_b a1 16; rw [← ex_7] at bx_7
  refine gi_i2b hx hb dX11_putFour_28 ?_
  refine gb_ast S hG 1 (show gEof hG 1 = cB cy 400 (upZ tp (Int.toNat tapeSize0) (s8 x_3)) from ((upE_n (by omega)).trans upE_s)) (by omega) dX11_putFour_29 (by omega) (by decide) (s8_n _) (fun H locs hG => ?_)
  refine lv_aload_n hx hb dX11_putFour_30 rfl (lv_at hl 1 rfl) ?_
  refine lv_dup hx hb dX11_putFour_31 rfl ?_
  refine g_get S hG 0 1 (show gEof hG 0 = O0 b x_4 faultNumber0 faultPlace0 actCount0 stamp0 toldSize0 toldRank0 from ((upE_n (by omega)).trans upE_s)) cpX11 wm_667 dX11_putFour_32 rfl (by omega) (by decide) ?_
  refine lv_iconst (v := iI 1) hx hb dX11_putFour_35 (by decide) ?_
  refine gi_add hx hb dX11_putFour_36 ?_
  refine gi_nm (fun x_8 ex_8 => ?_)
  refine g_put (fs' := [.ref (b + 1), .int (iI x_8), .ref (b + 2), .ref (b + 12), .int (iI faultNumber0), .int (iI faultPlace0), .ref (b + 33), .ref (b + 40), .ref (b + 47), .ref (b + 60), .ref (b + 67), .ref (b + 73), .ref (b + 80), .ref (b + 81), .ref (b + 82), .int (iI actCount0), .int (iI stamp0), .int (iI toldSize0), .int (iI toldRank0)]) S hG 0 1 (show gEof hG 0 = O0 b x_4 faultNumber0 faultPlace0 actCount0 stamp0 toldSize0 toldRank0 from ((upE_n (by omega)).trans upE_s)) cpX11 wm_667 dX11_putFour_37 rfl (by omega) (by decide) (Nat.le_of_ble_eq_true rfl) rfl rfl rfl (fun H locs hG => ?_)
  refine lv_iinc (v := iI 8) (lv' := [(2, .int (iI 8)), (0, .ref (b + 0)), (1, .int (iI a1))]) hx hb dX11_putFour_40 hl (k := 0) rfl ((iI_add 16 (-8)).trans (congrArg iI (by omega))) (by decide) rfl (fun ls hl => ?_)
  refine lv_goto (tgt := 3) hx hb dX11_putFour_43 (by decide) ?_
  refine lv_iload_n hx hb dX11_putFour_3 rfl (lv_at hl 0 rfl) ?_
  refine gi_if_lt (tgt := 46) hx hb dX11_putFour_4 (by decide) (by omega) (fun c_9 => absurd c_9 (by decide)) (fun _ => ?_)
  refine lv_aload_n hx hb dX11_putFour_7 rfl (lv_at hl 1 rfl) ?_
  refine g_get S hG 0 1 (show gEof hG 0 = O0 b x_8 faultNumber0 faultPlace0 actCount0 stamp0 toldSize0 toldRank0 from upE_s) cpX11 wm_667 dX11_putFour_8 rfl (by omega) (by decide) ?_
  refine lv_sipush (v := iI 400) hx hb dX11_putFour_11 (by decide) ?_
  refine gi_icmp_ge (tgt := 46) hx hb dX11_putFour_14 (by decide) (by omega) (by omega) (fun c_10 => (show False by omega).elim) (fun c_10 => ?_)
  refine lv_aload_n hx hb dX11_putFour_17 rfl (lv_at hl 1 rfl) ?_
  refine g_get S hG 0 0 (show gEof hG 0 = O0 b x_8 faultNumber0 faultPlace0 actCount0 stamp0 toldSize0 toldRank0 from upE_s) cpX11 wm_666 dX11_putFour_18 rfl (by omega) (by decide) ?_
  refine lv_aload_n hx hb dX11_putFour_21 rfl (lv_at hl 1 rfl) ?_
  refine g_get S hG 0 1 (show gEof hG 0 = O0 b x_8 faultNumber0 faultPlace0 actCount0 stamp0 toldSize0 toldRank0 from upE_s) cpX11 wm_667 dX11_putFour_22 rfl (by omega) (by decide) ?_
  refine lv_iload_n hx hb dX11_putFour_25 rfl (lv_at hl 2 rfl) ?_
  refine lv_iload_n hx hb dX11_putFour_26 rfl (lv_at hl 0 rfl) ?_
  refine gi_ushr hx hb dX11_putFour_27 ?_
  refine gi_nm (fun x_11 ex_11 => ?_)
  have bx_11 := ush_b a1 8; rw [← ex_11] at bx_11
  refine gi_i2b hx hb dX11_putFour_28 ?_
  refine gb_ast S hG 1 (show gEof hG 1 = cB cy 400 (upZ (upZ tp (Int.toNat tapeSize0) (s8 x_3)) (Int.toNat x_4) (s8 x_7)) from ((upE_n (by omega)).trans upE_s)) (by omega) dX11_putFour_29 (by omega) (by decide) (s8_n _) (fun H locs hG => ?_)
  refine lv_aload_n hx hb dX11_putFour_30 rfl (lv_at hl 1 rfl) ?_
  refine lv_dup hx hb dX11_putFour_31 rfl ?_
  refine g_get S hG 0 1 (show gEof hG 0 = O0 b x_8 faultNumber0 faultPlace0 actCount0 stamp0 toldSize0 toldRank0 from ((upE_n (by omega)).trans upE_s)) cpX11 wm_667 dX11_putFour_32 rfl (by omega) (by decide) ?_
  refine lv_iconst (v := iI 1) hx hb dX11_putFour_35 (by decide) ?_
  refine gi_add hx hb dX11_putFour_36 ?_
  refine gi_nm (fun x_12 ex_12 => ?_)
  refine g_put (fs' := [.ref (b + 1), .int (iI x_12), .ref (b + 2), .ref (b + 12), .int (iI faultNumber0), .int (iI faultPlace0), .ref (b + 33), .ref (b + 40), .ref (b + 47), .ref (b + 60), .ref (b + 67), .ref (b + 73), .ref (b + 80), .ref (b + 81), .ref (b + 82), .int (iI actCount0), .int (iI stamp0), .int (iI toldSize0), .int (iI toldRank0)]) S hG 0 1 (show gEof hG 0 = O0 b x_8 faultNumber0 faultPlace0 actCount0 stamp0 toldSize0 toldRank0 from ((upE_n (by omega)).trans upE_s)) cpX11 wm_667 dX11_putFour_37 rfl (by omega) (by decide) (Nat.le_of_ble_eq_true rfl) rfl rfl rfl (fun H locs hG => ?_)
  refine lv_iinc (v := iI 0) (lv' := [(2, .int (iI 0)), (0, .ref (b + 0)), (1, .int (iI a1))]) hx hb dX11_putFour_40 hl (k := 0) rfl ((iI_add 8 (-8)).trans (congrArg iI (by omega))) (by decide) rfl (fun ls hl => ?_)
  refine lv_goto (tgt := 3) hx hb dX11_putFour_43 (by decide) ?_
  refine lv_iload_n hx hb dX11_putFour_3 rfl (lv_at hl 0 rfl) ?_
  refine gi_if_lt (tgt := 46) hx hb dX11_putFour_4 (by decide) (by omega) (fun c_13 => absurd c_13 (by decide)) (fun _ => ?_)
  refine lv_aload_n hx hb dX11_putFour_7 rfl (lv_at hl 1 rfl) ?_
  refine g_get S hG 0 1 (show gEof hG 0 = O0 b x_12 faultNumber0 faultPlace0 actCount0 stamp0 toldSize0 toldRank0 from upE_s) cpX11 wm_667 dX11_putFour_8 rfl (by omega) (by decide) ?_
  refine lv_sipush (v := iI 400) hx hb dX11_putFour_11 (by decide) ?_
  refine gi_icmp_ge (tgt := 46) hx hb dX11_putFour_14 (by decide) (by omega) (by omega) (fun c_14 => (show False by omega).elim) (fun c_14 => ?_)
  refine lv_aload_n hx hb dX11_putFour_17 rfl (lv_at hl 1 rfl) ?_
  refine g_get S hG 0 0 (show gEof hG 0 = O0 b x_12 faultNumber0 faultPlace0 actCount0 stamp0 toldSize0 toldRank0 from upE_s) cpX11 wm_666 dX11_putFour_18 rfl (by omega) (by decide) ?_
  refine lv_aload_n hx hb dX11_putFour_21 rfl (lv_at hl 1 rfl) ?_
  refine g_get S hG 0 1 (show gEof hG 0 = O0 b x_12 faultNumber0 faultPlace0 actCount0 stamp0 toldSize0 toldRank0 from upE_s) cpX11 wm_667 dX11_putFour_22 rfl (by omega) (by decide) ?_
  refine lv_iload_n hx hb dX11_putFour_25 rfl (lv_at hl 2 rfl) ?_
  refine lv_iload_n hx hb dX11_putFour_26 rfl (lv_at hl 0 rfl) ?_
  refine gi_ushr hx hb dX11_putFour_27 ?_
  refine gi_nm (fun x_15 ex_15 => ?_)
  have bx_15 := ush_b a1 0; rw [← ex_15] at bx_15
  refine gi_i2b hx hb dX11_putFour_28 ?_
  refine gb_ast S hG 1 (show gEof hG 1 = cB cy 400 (upZ (upZ (upZ tp (Int.toNat tapeSize0) (s8 x_3)) (Int.toNat x_4) (s8 x_7)) (Int.toNat x_8) (s8 x_11)) from ((upE_n (by omega)).trans upE_s)) (by omega) dX11_putFour_29 (by omega) (by decide) (s8_n _) (fun H locs hG => ?_)
  refine lv_aload_n hx hb dX11_putFour_30 rfl (lv_at hl 1 rfl) ?_
  refine lv_dup hx hb dX11_putFour_31 rfl ?_
  refine g_get S hG 0 1 (show gEof hG 0 = O0 b x_12 faultNumber0 faultPlace0 actCount0 stamp0 toldSize0 toldRank0 from ((upE_n (by omega)).trans upE_s)) cpX11 wm_667 dX11_putFour_32 rfl (by omega) (by decide) ?_
  refine lv_iconst (v := iI 1) hx hb dX11_putFour_35 (by decide) ?_
  refine gi_add hx hb dX11_putFour_36 ?_
  refine gi_nm (fun x_16 ex_16 => ?_)
  refine g_put (fs' := [.ref (b + 1), .int (iI x_16), .ref (b + 2), .ref (b + 12), .int (iI faultNumber0), .int (iI faultPlace0), .ref (b + 33), .ref (b + 40), .ref (b + 47), .ref (b + 60), .ref (b + 67), .ref (b + 73), .ref (b + 80), .ref (b + 81), .ref (b + 82), .int (iI actCount0), .int (iI stamp0), .int (iI toldSize0), .int (iI toldRank0)]) S hG 0 1 (show gEof hG 0 = O0 b x_12 faultNumber0 faultPlace0 actCount0 stamp0 toldSize0 toldRank0 from ((upE_n (by omega)).trans upE_s)) cpX11 wm_667 dX11_putFour_37 rfl (by omega) (by decide) (Nat.le_of_ble_eq_true rfl) rfl rfl rfl (fun H locs hG => ?_)
  refine lv_iinc (v := iI (-8)) (lv' := [(2, .int (iI (-8))), (0, .ref (b + 0)), (1, .int (iI a1))]) hx hb dX11_putFour_40 hl (k := 0) rfl ((iI_add 0 (-8)).trans (congrArg iI (by omega))) (by decide) rfl (fun ls hl => ?_)
  refine lv_goto (tgt := 3) hx hb dX11_putFour_43 (by decide) ?_
  refine lv_iload_n hx hb dX11_putFour_3 rfl (lv_at hl 0 rfl) ?_
  refine gi_if_lt (tgt := 46) hx hb dX11_putFour_4 (by decide) (by omega) (fun _ => ?_) (fun c_17 => absurd c_17 (by decide))
  exact g_vret S hr hlk hG (by omega) dX11_putFour_46 ⟨Nat.le_of_ble_eq_true rfl, Nat.le_of_ble_eq_true rfl⟩ ⟨rfl, fun j hj0 hj1 => (upE_n (by omega)).trans ((upE_n (by omega)).trans ((upE_n (by omega)).trans ((upE_n (by omega)).trans ((upE_n (by omega)).trans ((upE_n (by omega)).trans ((upE_n (by omega)).trans ((upE_n (by omega)).trans (rfl)))))))), ((show gEof hG 0 = O0 b x_16 faultNumber0 faultPlace0 actCount0 stamp0 toldSize0 toldRank0 from upE_s)).trans (congrArg (fun zz : Int => O0 b zz faultNumber0 faultPlace0 actCount0 stamp0 toldSize0 toldRank0) (show x_16 = (tapeSize0 + 4) by first | rfl | omega | ((repeat' split) <;> omega))), ⟨_, (show gEof hG 1 = cB cy 400 (upZ (upZ (upZ (upZ tp (Int.toNat tapeSize0) (s8 x_3)) (Int.toNat x_4) (s8 x_7)) (Int.toNat x_8) (s8 x_11)) (Int.toNat x_12) (s8 x_15)) from ((upE_n (by omega)).trans upE_s)), (by subst_vars; unfold pf4; simp only [Int.add_zero, Int.add_assoc]; rfl)⟩⟩
theorem wV_11_120 : gWV "GrownKinds" 120 yX11_putFour cX11_putFour 3 none := ⟨wm_728, wm_730, wm_0, wm_176, wm_731, by decide +kernel, by decide +kernel⟩
set_option maxHeartbeats 4000000 in
set_option maxRecDepth 100000 in
theorem wX11_feed (l : Launch) {D : va_G} {cy : Nat → ClassId} {b n : Nat} (hn : 105 ≤ n) {E : Nat → va_E}  {tapeSize0 faultNumber0 faultPlace0 actCount0 stamp0 toldSize0 toldRank0 : Int} {tp : Nat → Int} (h0 : E 0 = O0 b tapeSize0 faultNumber0 faultPlace0 actCount0 stamp0 toldSize0 toldRank0) (h1 : E 1 = cB cy 400 tp) (a1 : Int) (a2 : Int) (a3 : Int) (a4 : Int) (a5 : Int) (hts : 0 ≤ tapeSize0 ∧ tapeSize0 ≤ 400) (hb1 : (-2147483648 ≤ a1 ∧ a1 ≤ 2147483647)) (hb2 : (-2147483648 ≤ a2 ∧ a2 ≤ 2147483647)) (hb3 : (-2147483648 ≤ a3 ∧ a3 ≤ 2147483647)) (hb4 : (-2147483648 ≤ a4 ∧ a4 ≤ 2147483647)) (hb5 : (-2147483648 ≤ a5 ∧ a5 ≤ 2147483647)) : gI l yX11_feed cX11_feed 6 (some .int) 1 0 0 D cy b n E [.ref (b + 0), .int (iI a1), .int (iI a2), .int (iI a3), .int (iI a4), .int (iI a5)] (fun r u => r = iI (if tapeSize0 ≤ 380 then tapeSize0 + 20 else -1) ∧ u.1 = n ∧ (∀ j, j ≠ 0 → j ≠ 1 → u.2 j = E j) ∧ u.2 0 = O0 b (if tapeSize0 ≤ 380 then tapeSize0 + 20 else tapeSize0) faultNumber0 faultPlace0 actCount0 stamp0 toldSize0 toldRank0 ∧ (∃ g : Nat → Int, u.2 1 = cB cy 400 g ∧ g = (if tapeSize0 ≤ 380 then pf20 tp tapeSize0 a1 a2 a3 a4 a5 else tp))) := by
  refine gI_of (by decide) (Nat.le_of_ble_eq_true rfl) ?_
  intro p e s m args below meth c S hr hlk hin hsz ls hl hG
  have hx := S.1
  have hb := S.2.1
  have hl : lv_has ls 6 [(0, .ref (b + 0)), (1, .int (iI a1)), (2, .int (iI a2)), (3, .int (iI a3)), (4, .int (iI a4)), (5, .int (iI a5))] := hl
  refine lv_aload_n hx hb dX11_feed_0 rfl (lv_at hl 0 rfl) ?_
  refine g_get S hG 0 1 (show gEof hG 0 = O0 b tapeSize0 faultNumber0 faultPlace0 actCount0 stamp0 toldSize0 toldRank0 from h0) cpX11 wm_667 dX11_feed_1 rfl (by omega) (by decide) ?_
  refine lv_bipush (v := iI 20) hx hb dX11_feed_4 (by decide) ?_
  refine gi_add hx hb dX11_feed_6 ?_
  refine lv_sipush (v := iI 400) hx hb dX11_feed_7 (by decide) ?_
  refine gi_icmp_le (tgt := 15) hx hb dX11_feed_10 (by decide) (by omega) (by omega) (fun c_1 => ?_) (fun c_1 => ?_)
  · refine lv_aload_n hx hb dX11_feed_15 rfl (lv_at hl 0 rfl) ?_
    refine lv_iload_n hx hb dX11_feed_16 rfl (lv_at hl 1 rfl) ?_
    refine g_vv (As := [.int (iI a1)]) (rest := []) S hG (by omega) (wX11_putFour l hn (show gEof hG 0 = O0 b tapeSize0 faultNumber0 faultPlace0 actCount0 stamp0 toldSize0 toldRank0 from h0) (show gEof hG 1 = cB cy 400 tp from h1) a1 (by omega) (by omega)) wV_11_120 (show gEof hG 0 = O0 b tapeSize0 faultNumber0 faultPlace0 actCount0 stamp0 toldSize0 toldRank0 from h0) cpX11 (by omega) dX11_feed_17 rfl hl.1 (ar := 1) (by decide +kernel) rfl ⟨Nat.le_of_ble_eq_true rfl, Nat.le_of_ble_eq_true rfl, Nat.le_of_ble_eq_true rfl, Nat.le_of_ble_eq_true rfl⟩ (Nat.le_of_ble_eq_true rfl) (fun u_2 H locs hp_3 hG => ?_)
    obtain ⟨nu_2, Eu_2⟩ := u_2
    dsimp only at hp_3 hG
    obtain ⟨en_4, hlo_5, g_6, ⟨F_8, g_7, p_9⟩⟩ := hp_3
    have hG := gW_eq2 hG en_4 rfl
    refine lv_aload_n hx hb dX11_feed_20 rfl (lv_at hl 0 rfl) ?_
    refine lv_iload_n hx hb dX11_feed_21 rfl (lv_at hl 2 rfl) ?_
    refine g_vv (As := [.int (iI a2)]) (rest := []) S hG (by omega) (wX11_putFour l hn (show gEof hG 0 = O0 b (tapeSize0 + 4) faultNumber0 faultPlace0 actCount0 stamp0 toldSize0 toldRank0 from g_6) (show gEof hG 1 = cB cy 400 F_8 from g_7) a2 (by omega) (by omega)) wV_11_120 (show gEof hG 0 = O0 b (tapeSize0 + 4) faultNumber0 faultPlace0 actCount0 stamp0 toldSize0 toldRank0 from g_6) cpX11 (by omega) dX11_feed_22 rfl hl.1 (ar := 1) (by decide +kernel) rfl ⟨Nat.le_of_ble_eq_true rfl, Nat.le_of_ble_eq_true rfl, Nat.le_of_ble_eq_true rfl, Nat.le_of_ble_eq_true rfl⟩ (Nat.le_of_ble_eq_true rfl) (fun u_10 H locs hp_11 hG => ?_)
    obtain ⟨nu_10, Eu_10⟩ := u_10
    dsimp only at hp_11 hG
    obtain ⟨en_12, hlo_13, g_14, ⟨F_16, g_15, p_17⟩⟩ := hp_11
    have hG := gW_eq2 hG en_12 rfl
    refine lv_aload_n hx hb dX11_feed_25 rfl (lv_at hl 0 rfl) ?_
    refine lv_iload_n hx hb dX11_feed_26 rfl (lv_at hl 3 rfl) ?_
    refine g_vv (As := [.int (iI a3)]) (rest := []) S hG (by omega) (wX11_putFour l hn (show gEof hG 0 = O0 b ((tapeSize0 + 4) + 4) faultNumber0 faultPlace0 actCount0 stamp0 toldSize0 toldRank0 from g_14) (show gEof hG 1 = cB cy 400 F_16 from g_15) a3 (by omega) (by omega)) wV_11_120 (show gEof hG 0 = O0 b ((tapeSize0 + 4) + 4) faultNumber0 faultPlace0 actCount0 stamp0 toldSize0 toldRank0 from g_14) cpX11 (by omega) dX11_feed_27 rfl hl.1 (ar := 1) (by decide +kernel) rfl ⟨Nat.le_of_ble_eq_true rfl, Nat.le_of_ble_eq_true rfl, Nat.le_of_ble_eq_true rfl, Nat.le_of_ble_eq_true rfl⟩ (Nat.le_of_ble_eq_true rfl) (fun u_18 H locs hp_19 hG => ?_)
    obtain ⟨nu_18, Eu_18⟩ := u_18
    dsimp only at hp_19 hG
    obtain ⟨en_20, hlo_21, g_22, ⟨F_24, g_23, p_25⟩⟩ := hp_19
    have hG := gW_eq2 hG en_20 rfl
    refine lv_aload_n hx hb dX11_feed_30 rfl (lv_at hl 0 rfl) ?_
    refine lv_iload hx hb dX11_feed_31 (lv_at hl 4 rfl) ?_
    refine g_vv (As := [.int (iI a4)]) (rest := []) S hG (by omega) (wX11_putFour l hn (show gEof hG 0 = O0 b (((tapeSize0 + 4) + 4) + 4) faultNumber0 faultPlace0 actCount0 stamp0 toldSize0 toldRank0 from g_22) (show gEof hG 1 = cB cy 400 F_24 from g_23) a4 (by omega) (by omega)) wV_11_120 (show gEof hG 0 = O0 b (((tapeSize0 + 4) + 4) + 4) faultNumber0 faultPlace0 actCount0 stamp0 toldSize0 toldRank0 from g_22) cpX11 (by omega) dX11_feed_33 rfl hl.1 (ar := 1) (by decide +kernel) rfl ⟨Nat.le_of_ble_eq_true rfl, Nat.le_of_ble_eq_true rfl, Nat.le_of_ble_eq_true rfl, Nat.le_of_ble_eq_true rfl⟩ (Nat.le_of_ble_eq_true rfl) (fun u_26 H locs hp_27 hG => ?_)
    obtain ⟨nu_26, Eu_26⟩ := u_26
    dsimp only at hp_27 hG
    obtain ⟨en_28, hlo_29, g_30, ⟨F_32, g_31, p_33⟩⟩ := hp_27
    have hG := gW_eq2 hG en_28 rfl
    refine lv_aload_n hx hb dX11_feed_36 rfl (lv_at hl 0 rfl) ?_
    refine lv_iload hx hb dX11_feed_37 (lv_at hl 5 rfl) ?_
    refine g_vv (As := [.int (iI a5)]) (rest := []) S hG (by omega) (wX11_putFour l hn (show gEof hG 0 = O0 b ((((tapeSize0 + 4) + 4) + 4) + 4) faultNumber0 faultPlace0 actCount0 stamp0 toldSize0 toldRank0 from g_30) (show gEof hG 1 = cB cy 400 F_32 from g_31) a5 (by omega) (by omega)) wV_11_120 (show gEof hG 0 = O0 b ((((tapeSize0 + 4) + 4) + 4) + 4) faultNumber0 faultPlace0 actCount0 stamp0 toldSize0 toldRank0 from g_30) cpX11 (by omega) dX11_feed_39 rfl hl.1 (ar := 1) (by decide +kernel) rfl ⟨Nat.le_of_ble_eq_true rfl, Nat.le_of_ble_eq_true rfl, Nat.le_of_ble_eq_true rfl, Nat.le_of_ble_eq_true rfl⟩ (Nat.le_of_ble_eq_true rfl) (fun u_34 H locs hp_35 hG => ?_)
    obtain ⟨nu_34, Eu_34⟩ := u_34
    dsimp only at hp_35 hG
    obtain ⟨en_36, hlo_37, g_38, ⟨F_40, g_39, p_41⟩⟩ := hp_35
    have hG := gW_eq2 hG en_36 rfl
    refine lv_aload_n hx hb dX11_feed_42 rfl (lv_at hl 0 rfl) ?_
    refine g_get S hG 0 1 (show gEof hG 0 = O0 b (((((tapeSize0 + 4) + 4) + 4) + 4) + 4) faultNumber0 faultPlace0 actCount0 stamp0 toldSize0 toldRank0 from g_38) cpX11 wm_667 dX11_feed_43 rfl (by omega) (by decide) ?_
    exact g_iret S hr hlk hG (by omega) dX11_feed_46 ⟨Nat.le_of_ble_eq_true rfl, Nat.le_of_ble_eq_true rfl⟩ ⟨congrArg iI (by subst_vars; first | rfl | omega | ((repeat' split) <;> omega)), rfl, fun j hj0 hj1 => (hlo_37 j (by omega) (by omega) ).trans ((hlo_29 j (by omega) (by omega) ).trans ((hlo_21 j (by omega) (by omega) ).trans ((hlo_13 j (by omega) (by omega) ).trans ((hlo_5 j (by omega) (by omega) ).trans (rfl))))), ((show gEof hG 0 = O0 b (((((tapeSize0 + 4) + 4) + 4) + 4) + 4) faultNumber0 faultPlace0 actCount0 stamp0 toldSize0 toldRank0 from g_38)).trans (congrArg (fun zz : Int => O0 b zz faultNumber0 faultPlace0 actCount0 stamp0 toldSize0 toldRank0) (show (((((tapeSize0 + 4) + 4) + 4) + 4) + 4) = (if tapeSize0 ≤ 380 then tapeSize0 + 20 else tapeSize0) by first | rfl | omega | ((repeat' split) <;> omega))), ⟨_, (show gEof hG 1 = cB cy 400 F_40 from g_39), (by first | (rw [if_pos (by omega)]; unfold pf20; subst_vars; rfl) | (rw [if_neg (by omega)]))⟩⟩
  · refine lv_iconst (v := iI (-1)) hx hb dX11_feed_13 (by decide) ?_
    exact g_iret S hr hlk hG (by omega) dX11_feed_14 ⟨Nat.le_of_ble_eq_true rfl, Nat.le_of_ble_eq_true rfl⟩ ⟨congrArg iI (by subst_vars; first | rfl | omega | ((repeat' split) <;> omega)), rfl, fun j hj0 hj1 => rfl, ((show gEof hG 0 = O0 b tapeSize0 faultNumber0 faultPlace0 actCount0 stamp0 toldSize0 toldRank0 from h0)).trans (congrArg (fun zz : Int => O0 b zz faultNumber0 faultPlace0 actCount0 stamp0 toldSize0 toldRank0) (show tapeSize0 = (if tapeSize0 ≤ 380 then tapeSize0 + 20 else tapeSize0) by first | rfl | omega | ((repeat' split) <;> omega))), ⟨_, (show gEof hG 1 = cB cy 400 tp from h1), (by first | (rw [if_pos (by omega)]; unfold pf20; subst_vars; rfl) | (rw [if_neg (by omega)]))⟩⟩
def rf20 (tm : Nat → Int) (tg a1 a2 a3 a4 a5 : Int) : Nat → Int := (upZ (upZ (upZ (upZ (upZ (upZ (upZ (upZ (upZ (upZ (upZ (upZ (upZ (upZ (upZ (upZ (upZ (upZ (upZ (upZ tm (tg + 0).toNat (an (ush a1 24) 255)) (tg + 1).toNat (an (ush a1 16) 255)) (tg + 2).toNat (an (ush a1 8) 255)) (tg + 3).toNat (an (ush a1 0) 255)) (tg + 4).toNat (an (ush a2 24) 255)) (tg + 5).toNat (an (ush a2 16) 255)) (tg + 6).toNat (an (ush a2 8) 255)) (tg + 7).toNat (an (ush a2 0) 255)) (tg + 8).toNat (an (ush a3 24) 255)) (tg + 9).toNat (an (ush a3 16) 255)) (tg + 10).toNat (an (ush a3 8) 255)) (tg + 11).toNat (an (ush a3 0) 255)) (tg + 12).toNat (an (ush a4 24) 255)) (tg + 13).toNat (an (ush a4 16) 255)) (tg + 14).toNat (an (ush a4 8) 255)) (tg + 15).toNat (an (ush a4 0) 255)) (tg + 16).toNat (an (ush a5 24) 255)) (tg + 17).toNat (an (ush a5 16) 255)) (tg + 18).toNat (an (ush a5 8) 255)) (tg + 19).toNat (an (ush a5 0) 255))
set_option maxHeartbeats 4000000 in
set_option maxRecDepth 100000 in
theorem wX12_feed (l : Launch) {D : va_G} {cy : Nat → ClassId} {b n : Nat} (hn : 105 ≤ n) {E : Nat → va_E}  {taped83 faultKind83 faultPlace83 at83 begin83 token83 value83 bad83 long083 wanted83 found83 deepMost83 letterAsked83 letterMany83 turns83 topTerm83 top83 left83 nodes83 sourceLong83 read83 toldSize83 toldRank83 boxSize83 isDealing83 dealKind83 dealLow83 dealMany83 dealLeft83 dealRound83 dealX83 : Int} {tm : Nat → Int} (h83 : E 83 = O83 b taped83 faultKind83 faultPlace83 at83 begin83 token83 value83 bad83 long083 wanted83 found83 deepMost83 letterAsked83 letterMany83 turns83 topTerm83 top83 left83 nodes83 sourceLong83 read83 toldSize83 toldRank83 boxSize83 isDealing83 dealKind83 dealLow83 dealMany83 dealLeft83 dealRound83 dealX83) (h86 : E 86 = cI cy 400 tm) (a1 : Int) (a2 : Int) (a3 : Int) (a4 : Int) (a5 : Int) (htg : 0 ≤ taped83 ∧ taped83 ≤ 400) (hb1 : (-2147483648 ≤ a1 ∧ a1 ≤ 2147483647)) (hb2 : (-2147483648 ≤ a2 ∧ a2 ≤ 2147483647)) (hb3 : (-2147483648 ≤ a3 ∧ a3 ≤ 2147483647)) (hb4 : (-2147483648 ≤ a4 ∧ a4 ≤ 2147483647)) (hb5 : (-2147483648 ≤ a5 ∧ a5 ≤ 2147483647)) : gI l yX12_feed cX12_feed 8 (some .int) 0 1 5 D cy b n E [.ref (b + 83), .int (iI a1), .int (iI a2), .int (iI a3), .int (iI a4), .int (iI a5)] (fun r u => r = iI (if taped83 ≤ 380 then taped83 + 20 else -1) ∧ u.1 = (if taped83 ≤ 380 then n + 1 else n) ∧ (∀ j, j < n → j ≠ 83 → j ≠ 86 → u.2 j = E j) ∧ u.2 83 = O83 b (if taped83 ≤ 380 then taped83 + 20 else taped83) faultKind83 faultPlace83 at83 begin83 token83 value83 bad83 long083 wanted83 found83 deepMost83 letterAsked83 letterMany83 turns83 topTerm83 top83 left83 nodes83 sourceLong83 read83 toldSize83 toldRank83 boxSize83 isDealing83 dealKind83 dealLow83 dealMany83 dealLeft83 dealRound83 dealX83 ∧ (∃ g : Nat → Int, u.2 86 = cI cy 400 g ∧ g = (if taped83 ≤ 380 then rf20 tm taped83 a1 a2 a3 a4 a5 else tm))) := by
  refine gI_of (by decide) (Nat.le_of_ble_eq_true rfl) ?_
  intro p e s m args below meth c S hr hlk hin hsz ls hl hG
  have hx := S.1
  have hb := S.2.1
  have hl : lv_has ls 8 [(0, .ref (b + 83)), (1, .int (iI a1)), (2, .int (iI a2)), (3, .int (iI a3)), (4, .int (iI a4)), (5, .int (iI a5))] := hl
  refine lv_aload_n hx hb dX12_feed_0 rfl (lv_at hl 0 rfl) ?_
  refine g_get S hG 83 3 (show gEof hG 83 = O83 b taped83 faultKind83 faultPlace83 at83 begin83 token83 value83 bad83 long083 wanted83 found83 deepMost83 letterAsked83 letterMany83 turns83 topTerm83 top83 left83 nodes83 sourceLong83 read83 toldSize83 toldRank83 boxSize83 isDealing83 dealKind83 dealLow83 dealMany83 dealLeft83 dealRound83 dealX83 from h83) cpX12 wm_1677 dX12_feed_1 rfl (by omega) (by decide) ?_
  refine lv_sipush (v := iI 380) hx hb dX12_feed_4 (by decide) ?_
  refine gi_icmp_le (tgt := 12) hx hb dX12_feed_7 (by decide) (by omega) (by omega) (fun c_1 => ?_) (fun c_1 => ?_)
  · refine lv_iconst (v := iI 5) hx hb dX12_feed_12 (by decide) ?_
    refine g_newa (atype := .int) (ty := .int) (N := 5) (a0 := (5, .inl (fun _ => iI 0))) S hG (by omega) 1 rfl rfl (fun h => h) wm_305 (fun _ => rfl) dX12_feed_13 (by decide) (by decide) (by decide) ⟨Nat.le_of_ble_eq_true rfl, Nat.le_of_ble_eq_true rfl⟩ (fun H hG => ?_)
    refine lv_dup hx hb dX12_feed_15 rfl ?_
    refine lv_iconst (v := iI 0) hx hb dX12_feed_16 (by decide) ?_
    refine lv_iload_n hx hb dX12_feed_17 rfl (lv_at hl 1 rfl) ?_
    refine gi_ast S hG n (show gEof hG n = cI cy 5 (fun _ => 0) from upE_s) (by omega) dX12_feed_18 (by omega) (by decide) (fun H locs hG => ?_)
    refine lv_dup hx hb dX12_feed_19 rfl ?_
    refine lv_iconst (v := iI 1) hx hb dX12_feed_20 (by decide) ?_
    refine lv_iload_n hx hb dX12_feed_21 rfl (lv_at hl 2 rfl) ?_
    refine gi_ast S hG n (show gEof hG n = cI cy 5 (upZ (fun _ => 0) (Int.toNat 0) a1) from upE_s) (by omega) dX12_feed_22 (by omega) (by decide) (fun H locs hG => ?_)
    refine lv_dup hx hb dX12_feed_23 rfl ?_
    refine lv_iconst (v := iI 2) hx hb dX12_feed_24 (by decide) ?_
    refine lv_iload_n hx hb dX12_feed_25 rfl (lv_at hl 3 rfl) ?_
    refine gi_ast S hG n (show gEof hG n = cI cy 5 (upZ (upZ (fun _ => 0) (Int.toNat 0) a1) (Int.toNat 1) a2) from upE_s) (by omega) dX12_feed_26 (by omega) (by decide) (fun H locs hG => ?_)
    refine lv_dup hx hb dX12_feed_27 rfl ?_
    refine lv_iconst (v := iI 3) hx hb dX12_feed_28 (by decide) ?_
    refine lv_iload hx hb dX12_feed_29 (lv_at hl 4 rfl) ?_
    refine gi_ast S hG n (show gEof hG n = cI cy 5 (upZ (upZ (upZ (fun _ => 0) (Int.toNat 0) a1) (Int.toNat 1) a2) (Int.toNat 2) a3) from upE_s) (by omega) dX12_feed_31 (by omega) (by decide) (fun H locs hG => ?_)
    refine lv_dup hx hb dX12_feed_32 rfl ?_
    refine lv_iconst (v := iI 4) hx hb dX12_feed_33 (by decide) ?_
    refine lv_iload hx hb dX12_feed_34 (lv_at hl 5 rfl) ?_
    refine gi_ast S hG n (show gEof hG n = cI cy 5 (upZ (upZ (upZ (upZ (fun _ => 0) (Int.toNat 0) a1) (Int.toNat 1) a2) (Int.toNat 2) a3) (Int.toNat 3) a4) from upE_s) (by omega) dX12_feed_36 (by omega) (by decide) (fun H locs hG => ?_)
    refine lv_astore (lv' := [(6, .ref (b + n)), (0, .ref (b + 83)), (1, .int (iI a1)), (2, .int (iI a2)), (3, .int (iI a3)), (4, .int (iI a4)), (5, .int (iI a5))]) hx hb dX12_feed_37 hl (by decide) rfl (fun ls hl => ?_)
    refine lv_iconst (v := iI 0) hx hb dX12_feed_39 (by decide) ?_
    refine lv_istore (lv' := [(7, .int (iI 0)), (6, .ref (b + n)), (0, .ref (b + 83)), (1, .int (iI a1)), (2, .int (iI a2)), (3, .int (iI a3)), (4, .int (iI a4)), (5, .int (iI a5))]) hx hb dX12_feed_40 hl (by decide) rfl (fun ls hl => ?_)
    refine lv_iload hx hb dX12_feed_42 (lv_at hl 0 rfl) ?_
    refine lv_bipush (v := iI 20) hx hb dX12_feed_44 (by decide) ?_
    refine gi_icmp_ge (tgt := 89) hx hb dX12_feed_46 (by decide) (by omega) (by omega) (fun c_2 => absurd c_2 (by decide)) (fun _ => ?_)
    refine lv_aload_n hx hb dX12_feed_49 rfl (lv_at hl 2 rfl) ?_
    refine g_get S hG 83 2 (show gEof hG 83 = O83 b taped83 faultKind83 faultPlace83 at83 begin83 token83 value83 bad83 long083 wanted83 found83 deepMost83 letterAsked83 letterMany83 turns83 topTerm83 top83 left83 nodes83 sourceLong83 read83 toldSize83 toldRank83 boxSize83 isDealing83 dealKind83 dealLow83 dealMany83 dealLeft83 dealRound83 dealX83 from ((upE_n (by omega)).trans ((upE_n (by omega)).trans ((upE_n (by omega)).trans ((upE_n (by omega)).trans ((upE_n (by omega)).trans ((upE_n (by omega)).trans h83))))))) cpX12 wm_1676 dX12_feed_50 rfl (by omega) (by decide) ?_
    refine lv_aload_n hx hb dX12_feed_53 rfl (lv_at hl 2 rfl) ?_
    refine g_get S hG 83 3 (show gEof hG 83 = O83 b taped83 faultKind83 faultPlace83 at83 begin83 token83 value83 bad83 long083 wanted83 found83 deepMost83 letterAsked83 letterMany83 turns83 topTerm83 top83 left83 nodes83 sourceLong83 read83 toldSize83 toldRank83 boxSize83 isDealing83 dealKind83 dealLow83 dealMany83 dealLeft83 dealRound83 dealX83 from ((upE_n (by omega)).trans ((upE_n (by omega)).trans ((upE_n (by omega)).trans ((upE_n (by omega)).trans ((upE_n (by omega)).trans ((upE_n (by omega)).trans h83))))))) cpX12 wm_1677 dX12_feed_54 rfl (by omega) (by decide) ?_
    refine lv_iload hx hb dX12_feed_57 (lv_at hl 0 rfl) ?_
    refine gi_add hx hb dX12_feed_59 ?_
    refine lv_aload hx hb dX12_feed_60 (lv_at hl 1 rfl) ?_
    refine lv_iload hx hb dX12_feed_62 (lv_at hl 0 rfl) ?_
    refine lv_iconst (v := iI 4) hx hb dX12_feed_64 (by decide) ?_
    refine gi_div hx hb dX12_feed_65 (by omega) (by omega) ?_
    refine gi_as 0 (congrArg iI (by decide)) ?_
    refine gi_ald S hG n (show gEof hG n = cI cy 5 (upZ (upZ (upZ (upZ (upZ (fun _ => 0) (Int.toNat 0) a1) (Int.toNat 1) a2) (Int.toNat 2) a3) (Int.toNat 3) a4) (Int.toNat 4) a5) from upE_s) (by omega) dX12_feed_66 (by omega) (by decide) ?_
    refine gi_as a1 (congrArg iI (by rfl)) ?_
    refine lv_bipush (v := iI 24) hx hb dX12_feed_67 (by decide) ?_
    refine lv_bipush (v := iI 8) hx hb dX12_feed_69 (by decide) ?_
    refine lv_iload hx hb dX12_feed_71 (lv_at hl 0 rfl) ?_
    refine lv_iconst (v := iI 4) hx hb dX12_feed_73 (by decide) ?_
    refine gi_rem hx hb dX12_feed_74 (by omega) (by omega) ?_
    refine gi_as 0 (congrArg iI (by decide)) ?_
    refine gi_mul hx hb dX12_feed_75 ?_
    refine gi_as 0 (congrArg iI (by decide)) ?_
    refine gi_sub hx hb dX12_feed_76 ?_
    refine gi_as 24 (congrArg iI (by decide)) ?_
    refine gi_ushr hx hb dX12_feed_77 ?_
    refine gi_nm (fun x_3 ex_3 => ?_)
    have bx_3 := ush_b a1 24; rw [← ex_3] at bx_3
    refine lv_sipush (v := iI 255) hx hb dX12_feed_78 (by decide) ?_
    refine gi_and hx hb dX12_feed_81 ?_
    refine gi_nm (fun x_4 ex_4 => ?_)
    have bx_4 := an_b x_3 255; rw [← ex_4] at bx_4
    refine gi_ast S hG 86 (show gEof hG 86 = cI cy 400 tm from ((upE_n (by omega)).trans ((upE_n (by omega)).trans ((upE_n (by omega)).trans ((upE_n (by omega)).trans ((upE_n (by omega)).trans ((upE_n (by omega)).trans h86))))))) (by omega) dX12_feed_82 (by omega) (by decide) (fun H locs hG => ?_)
    refine lv_iinc (v := iI 1) (lv' := [(7, .int (iI 1)), (6, .ref (b + n)), (0, .ref (b + 83)), (1, .int (iI a1)), (2, .int (iI a2)), (3, .int (iI a3)), (4, .int (iI a4)), (5, .int (iI a5))]) hx hb dX12_feed_83 hl (k := 0) rfl ((iI_add 0 (1)).trans (congrArg iI (by omega))) (by decide) rfl (fun ls hl => ?_)
    refine lv_goto (tgt := 42) hx hb dX12_feed_86 (by decide) ?_
    refine lv_iload hx hb dX12_feed_42 (lv_at hl 0 rfl) ?_
    refine lv_bipush (v := iI 20) hx hb dX12_feed_44 (by decide) ?_
    refine gi_icmp_ge (tgt := 89) hx hb dX12_feed_46 (by decide) (by omega) (by omega) (fun c_5 => absurd c_5 (by decide)) (fun _ => ?_)
    refine lv_aload_n hx hb dX12_feed_49 rfl (lv_at hl 2 rfl) ?_
    refine g_get S hG 83 2 (show gEof hG 83 = O83 b taped83 faultKind83 faultPlace83 at83 begin83 token83 value83 bad83 long083 wanted83 found83 deepMost83 letterAsked83 letterMany83 turns83 topTerm83 top83 left83 nodes83 sourceLong83 read83 toldSize83 toldRank83 boxSize83 isDealing83 dealKind83 dealLow83 dealMany83 dealLeft83 dealRound83 dealX83 from ((upE_n (by omega)).trans ((upE_n (by omega)).trans ((upE_n (by omega)).trans ((upE_n (by omega)).trans ((upE_n (by omega)).trans ((upE_n (by omega)).trans ((upE_n (by omega)).trans h83)))))))) cpX12 wm_1676 dX12_feed_50 rfl (by omega) (by decide) ?_
    refine lv_aload_n hx hb dX12_feed_53 rfl (lv_at hl 2 rfl) ?_
    refine g_get S hG 83 3 (show gEof hG 83 = O83 b taped83 faultKind83 faultPlace83 at83 begin83 token83 value83 bad83 long083 wanted83 found83 deepMost83 letterAsked83 letterMany83 turns83 topTerm83 top83 left83 nodes83 sourceLong83 read83 toldSize83 toldRank83 boxSize83 isDealing83 dealKind83 dealLow83 dealMany83 dealLeft83 dealRound83 dealX83 from ((upE_n (by omega)).trans ((upE_n (by omega)).trans ((upE_n (by omega)).trans ((upE_n (by omega)).trans ((upE_n (by omega)).trans ((upE_n (by omega)).trans ((upE_n (by omega)).trans h83)))))))) cpX12 wm_1677 dX12_feed_54 rfl (by omega) (by decide) ?_
    refine lv_iload hx hb dX12_feed_57 (lv_at hl 0 rfl) ?_
    refine gi_add hx hb dX12_feed_59 ?_
    refine lv_aload hx hb dX12_feed_60 (lv_at hl 1 rfl) ?_
    refine lv_iload hx hb dX12_feed_62 (lv_at hl 0 rfl) ?_
    refine lv_iconst (v := iI 4) hx hb dX12_feed_64 (by decide) ?_
    refine gi_div hx hb dX12_feed_65 (by omega) (by omega) ?_
    refine gi_as 0 (congrArg iI (by decide)) ?_
    refine gi_ald S hG n (show gEof hG n = cI cy 5 (upZ (upZ (upZ (upZ (upZ (fun _ => 0) (Int.toNat 0) a1) (Int.toNat 1) a2) (Int.toNat 2) a3) (Int.toNat 3) a4) (Int.toNat 4) a5) from ((upE_n (by omega)).trans upE_s)) (by omega) dX12_feed_66 (by omega) (by decide) ?_
    refine gi_as a1 (congrArg iI (by rfl)) ?_
    refine lv_bipush (v := iI 24) hx hb dX12_feed_67 (by decide) ?_
    refine lv_bipush (v := iI 8) hx hb dX12_feed_69 (by decide) ?_
    refine lv_iload hx hb dX12_feed_71 (lv_at hl 0 rfl) ?_
    refine lv_iconst (v := iI 4) hx hb dX12_feed_73 (by decide) ?_
    refine gi_rem hx hb dX12_feed_74 (by omega) (by omega) ?_
    refine gi_as 1 (congrArg iI (by decide)) ?_
    refine gi_mul hx hb dX12_feed_75 ?_
    refine gi_as 8 (congrArg iI (by decide)) ?_
    refine gi_sub hx hb dX12_feed_76 ?_
    refine gi_as 16 (congrArg iI (by decide)) ?_
    refine gi_ushr hx hb dX12_feed_77 ?_
    refine gi_nm (fun x_6 ex_6 => ?_)
    have bx_6 := ush_b a1 16; rw [← ex_6] at bx_6
    refine lv_sipush (v := iI 255) hx hb dX12_feed_78 (by decide) ?_
    refine gi_and hx hb dX12_feed_81 ?_
    refine gi_nm (fun x_7 ex_7 => ?_)
    have bx_7 := an_b x_6 255; rw [← ex_7] at bx_7
    refine gi_ast S hG 86 (show gEof hG 86 = cI cy 400 (upZ tm (Int.toNat (taped83 + 0)) x_4) from upE_s) (by omega) dX12_feed_82 (by omega) (by decide) (fun H locs hG => ?_)
    refine lv_iinc (v := iI 2) (lv' := [(7, .int (iI 2)), (6, .ref (b + n)), (0, .ref (b + 83)), (1, .int (iI a1)), (2, .int (iI a2)), (3, .int (iI a3)), (4, .int (iI a4)), (5, .int (iI a5))]) hx hb dX12_feed_83 hl (k := 0) rfl ((iI_add 1 (1)).trans (congrArg iI (by omega))) (by decide) rfl (fun ls hl => ?_)
    refine lv_goto (tgt := 42) hx hb dX12_feed_86 (by decide) ?_
    refine lv_iload hx hb dX12_feed_42 (lv_at hl 0 rfl) ?_
    refine lv_bipush (v := iI 20) hx hb dX12_feed_44 (by decide) ?_
    refine gi_icmp_ge (tgt := 89) hx hb dX12_feed_46 (by decide) (by omega) (by omega) (fun c_8 => absurd c_8 (by decide)) (fun _ => ?_)
    refine lv_aload_n hx hb dX12_feed_49 rfl (lv_at hl 2 rfl) ?_
    refine g_get S hG 83 2 (show gEof hG 83 = O83 b taped83 faultKind83 faultPlace83 at83 begin83 token83 value83 bad83 long083 wanted83 found83 deepMost83 letterAsked83 letterMany83 turns83 topTerm83 top83 left83 nodes83 sourceLong83 read83 toldSize83 toldRank83 boxSize83 isDealing83 dealKind83 dealLow83 dealMany83 dealLeft83 dealRound83 dealX83 from ((upE_n (by omega)).trans ((upE_n (by omega)).trans ((upE_n (by omega)).trans ((upE_n (by omega)).trans ((upE_n (by omega)).trans ((upE_n (by omega)).trans ((upE_n (by omega)).trans ((upE_n (by omega)).trans h83))))))))) cpX12 wm_1676 dX12_feed_50 rfl (by omega) (by decide) ?_
    refine lv_aload_n hx hb dX12_feed_53 rfl (lv_at hl 2 rfl) ?_
    refine g_get S hG 83 3 (show gEof hG 83 = O83 b taped83 faultKind83 faultPlace83 at83 begin83 token83 value83 bad83 long083 wanted83 found83 deepMost83 letterAsked83 letterMany83 turns83 topTerm83 top83 left83 nodes83 sourceLong83 read83 toldSize83 toldRank83 boxSize83 isDealing83 dealKind83 dealLow83 dealMany83 dealLeft83 dealRound83 dealX83 from ((upE_n (by omega)).trans ((upE_n (by omega)).trans ((upE_n (by omega)).trans ((upE_n (by omega)).trans ((upE_n (by omega)).trans ((upE_n (by omega)).trans ((upE_n (by omega)).trans ((upE_n (by omega)).trans h83))))))))) cpX12 wm_1677 dX12_feed_54 rfl (by omega) (by decide) ?_
    refine lv_iload hx hb dX12_feed_57 (lv_at hl 0 rfl) ?_
    refine gi_add hx hb dX12_feed_59 ?_
    refine lv_aload hx hb dX12_feed_60 (lv_at hl 1 rfl) ?_
    refine lv_iload hx hb dX12_feed_62 (lv_at hl 0 rfl) ?_
    refine lv_iconst (v := iI 4) hx hb dX12_feed_64 (by decide) ?_
    refine gi_div hx hb dX12_feed_65 (by omega) (by omega) ?_
    refine gi_as 0 (congrArg iI (by decide)) ?_
    refine gi_ald S hG n (show gEof hG n = cI cy 5 (upZ (upZ (upZ (upZ (upZ (fun _ => 0) (Int.toNat 0) a1) (Int.toNat 1) a2) (Int.toNat 2) a3) (Int.toNat 3) a4) (Int.toNat 4) a5) from ((upE_n (by omega)).trans ((upE_n (by omega)).trans upE_s))) (by omega) dX12_feed_66 (by omega) (by decide) ?_
    refine gi_as a1 (congrArg iI (by rfl)) ?_
    refine lv_bipush (v := iI 24) hx hb dX12_feed_67 (by decide) ?_
    refine lv_bipush (v := iI 8) hx hb dX12_feed_69 (by decide) ?_
    refine lv_iload hx hb dX12_feed_71 (lv_at hl 0 rfl) ?_
    refine lv_iconst (v := iI 4) hx hb dX12_feed_73 (by decide) ?_
    refine gi_rem hx hb dX12_feed_74 (by omega) (by omega) ?_
    refine gi_as 2 (congrArg iI (by decide)) ?_
    refine gi_mul hx hb dX12_feed_75 ?_
    refine gi_as 16 (congrArg iI (by decide)) ?_
    refine gi_sub hx hb dX12_feed_76 ?_
    refine gi_as 8 (congrArg iI (by decide)) ?_
    refine gi_ushr hx hb dX12_feed_77 ?_
    refine gi_nm (fun x_9 ex_9 => ?_)
    have bx_9 := ush_b a1 8; rw [← ex_9] at bx_9
    refine lv_sipush (v := iI 255) hx hb dX12_feed_78 (by decide) ?_
    refine gi_and hx hb dX12_feed_81 ?_
    refine gi_nm (fun x_10 ex_10 => ?_)
    have bx_10 := an_b x_9 255; rw [← ex_10] at bx_10
    refine gi_ast S hG 86 (show gEof hG 86 = cI cy 400 (upZ (upZ tm (Int.toNat (taped83 + 0)) x_4) (Int.toNat (taped83 + 1)) x_7) from upE_s) (by omega) dX12_feed_82 (by omega) (by decide) (fun H locs hG => ?_)
    refine lv_iinc (v := iI 3) (lv' := [(7, .int (iI 3)), (6, .ref (b + n)), (0, .ref (b + 83)), (1, .int (iI a1)), (2, .int (iI a2)), (3, .int (iI a3)), (4, .int (iI a4)), (5, .int (iI a5))]) hx hb dX12_feed_83 hl (k := 0) rfl ((iI_add 2 (1)).trans (congrArg iI (by omega))) (by decide) rfl (fun ls hl => ?_)
    refine lv_goto (tgt := 42) hx hb dX12_feed_86 (by decide) ?_
    refine lv_iload hx hb dX12_feed_42 (lv_at hl 0 rfl) ?_
    refine lv_bipush (v := iI 20) hx hb dX12_feed_44 (by decide) ?_
    refine gi_icmp_ge (tgt := 89) hx hb dX12_feed_46 (by decide) (by omega) (by omega) (fun c_11 => absurd c_11 (by decide)) (fun _ => ?_)
    refine lv_aload_n hx hb dX12_feed_49 rfl (lv_at hl 2 rfl) ?_
    refine g_get S hG 83 2 (show gEof hG 83 = O83 b taped83 faultKind83 faultPlace83 at83 begin83 token83 value83 bad83 long083 wanted83 found83 deepMost83 letterAsked83 letterMany83 turns83 topTerm83 top83 left83 nodes83 sourceLong83 read83 toldSize83 toldRank83 boxSize83 isDealing83 dealKind83 dealLow83 dealMany83 dealLeft83 dealRound83 dealX83 from ((upE_n (by omega)).trans ((upE_n (by omega)).trans ((upE_n (by omega)).trans ((upE_n (by omega)).trans ((upE_n (by omega)).trans ((upE_n (by omega)).trans ((upE_n (by omega)).trans ((upE_n (by omega)).trans ((upE_n (by omega)).trans h83)))))))))) cpX12 wm_1676 dX12_feed_50 rfl (by omega) (by decide) ?_
    refine lv_aload_n hx hb dX12_feed_53 rfl (lv_at hl 2 rfl) ?_
    refine g_get S hG 83 3 (show gEof hG 83 = O83 b taped83 faultKind83 faultPlace83 at83 begin83 token83 value83 bad83 long083 wanted83 found83 deepMost83 letterAsked83 letterMany83 turns83 topTerm83 top83 left83 nodes83 sourceLong83 read83 toldSize83 toldRank83 boxSize83 isDealing83 dealKind83 dealLow83 dealMany83 dealLeft83 dealRound83 dealX83 from ((upE_n (by omega)).trans ((upE_n (by omega)).trans ((upE_n (by omega)).trans ((upE_n (by omega)).trans ((upE_n (by omega)).trans ((upE_n (by omega)).trans ((upE_n (by omega)).trans ((upE_n (by omega)).trans ((upE_n (by omega)).trans h83)))))))))) cpX12 wm_1677 dX12_feed_54 rfl (by omega) (by decide) ?_
    refine lv_iload hx hb dX12_feed_57 (lv_at hl 0 rfl) ?_
    refine gi_add hx hb dX12_feed_59 ?_
    refine lv_aload hx hb dX12_feed_60 (lv_at hl 1 rfl) ?_
    refine lv_iload hx hb dX12_feed_62 (lv_at hl 0 rfl) ?_
    refine lv_iconst (v := iI 4) hx hb dX12_feed_64 (by decide) ?_
    refine gi_div hx hb dX12_feed_65 (by omega) (by omega) ?_
    refine gi_as 0 (congrArg iI (by decide)) ?_
    refine gi_ald S hG n (show gEof hG n = cI cy 5 (upZ (upZ (upZ (upZ (upZ (fun _ => 0) (Int.toNat 0) a1) (Int.toNat 1) a2) (Int.toNat 2) a3) (Int.toNat 3) a4) (Int.toNat 4) a5) from ((upE_n (by omega)).trans ((upE_n (by omega)).trans ((upE_n (by omega)).trans upE_s)))) (by omega) dX12_feed_66 (by omega) (by decide) ?_
    refine gi_as a1 (congrArg iI (by rfl)) ?_
    refine lv_bipush (v := iI 24) hx hb dX12_feed_67 (by decide) ?_
    refine lv_bipush (v := iI 8) hx hb dX12_feed_69 (by decide) ?_
    refine lv_iload hx hb dX12_feed_71 (lv_at hl 0 rfl) ?_
    refine lv_iconst (v := iI 4) hx hb dX12_feed_73 (by decide) ?_
    refine gi_rem hx hb dX12_feed_74 (by omega) (by omega) ?_
    refine gi_as 3 (congrArg iI (by decide)) ?_
    refine gi_mul hx hb dX12_feed_75 ?_
    refine gi_as 24 (congrArg iI (by decide)) ?_
    refine gi_sub hx hb dX12_feed_76 ?_
    refine gi_as 0 (congrArg iI (by decide)) ?_
    refine gi_ushr hx hb dX12_feed_77 ?_
    refine gi_nm (fun x_12 ex_12 => ?_)
    have bx_12 := ush_b a1 0; rw [← ex_12] at bx_12
    refine lv_sipush (v := iI 255) hx hb dX12_feed_78 (by decide) ?_
    refine gi_and hx hb dX12_feed_81 ?_
    refine gi_nm (fun x_13 ex_13 => ?_)
    have bx_13 := an_b x_12 255; rw [← ex_13] at bx_13
    refine gi_ast S hG 86 (show gEof hG 86 = cI cy 400 (upZ (upZ (upZ tm (Int.toNat (taped83 + 0)) x_4) (Int.toNat (taped83 + 1)) x_7) (Int.toNat (taped83 + 2)) x_10) from upE_s) (by omega) dX12_feed_82 (by omega) (by decide) (fun H locs hG => ?_)
    refine lv_iinc (v := iI 4) (lv' := [(7, .int (iI 4)), (6, .ref (b + n)), (0, .ref (b + 83)), (1, .int (iI a1)), (2, .int (iI a2)), (3, .int (iI a3)), (4, .int (iI a4)), (5, .int (iI a5))]) hx hb dX12_feed_83 hl (k := 0) rfl ((iI_add 3 (1)).trans (congrArg iI (by omega))) (by decide) rfl (fun ls hl => ?_)
    refine lv_goto (tgt := 42) hx hb dX12_feed_86 (by decide) ?_
    refine lv_iload hx hb dX12_feed_42 (lv_at hl 0 rfl) ?_
    refine lv_bipush (v := iI 20) hx hb dX12_feed_44 (by decide) ?_
    refine gi_icmp_ge (tgt := 89) hx hb dX12_feed_46 (by decide) (by omega) (by omega) (fun c_14 => absurd c_14 (by decide)) (fun _ => ?_)
    refine lv_aload_n hx hb dX12_feed_49 rfl (lv_at hl 2 rfl) ?_
    refine g_get S hG 83 2 (show gEof hG 83 = O83 b taped83 faultKind83 faultPlace83 at83 begin83 token83 value83 bad83 long083 wanted83 found83 deepMost83 letterAsked83 letterMany83 turns83 topTerm83 top83 left83 nodes83 sourceLong83 read83 toldSize83 toldRank83 boxSize83 isDealing83 dealKind83 dealLow83 dealMany83 dealLeft83 dealRound83 dealX83 from ((upE_n (by omega)).trans ((upE_n (by omega)).trans ((upE_n (by omega)).trans ((upE_n (by omega)).trans ((upE_n (by omega)).trans ((upE_n (by omega)).trans ((upE_n (by omega)).trans ((upE_n (by omega)).trans ((upE_n (by omega)).trans ((upE_n (by omega)).trans h83))))))))))) cpX12 wm_1676 dX12_feed_50 rfl (by omega) (by decide) ?_
    refine lv_aload_n hx hb dX12_feed_53 rfl (lv_at hl 2 rfl) ?_
    refine g_get S hG 83 3 (show gEof hG 83 = O83 b taped83 faultKind83 faultPlace83 at83 begin83 token83 value83 bad83 long083 wanted83 found83 deepMost83 letterAsked83 letterMany83 turns83 topTerm83 top83 left83 nodes83 sourceLong83 read83 toldSize83 toldRank83 boxSize83 isDealing83 dealKind83 dealLow83 dealMany83 dealLeft83 dealRound83 dealX83 from ((upE_n (by omega)).trans ((upE_n (by omega)).trans ((upE_n (by omega)).trans ((upE_n (by omega)).trans ((upE_n (by omega)).trans ((upE_n (by omega)).trans ((upE_n (by omega)).trans ((upE_n (by omega)).trans ((upE_n (by omega)).trans ((upE_n (by omega)).trans h83))))))))))) cpX12 wm_1677 dX12_feed_54 rfl (by omega) (by decide) ?_
    refine lv_iload hx hb dX12_feed_57 (lv_at hl 0 rfl) ?_
    refine gi_add hx hb dX12_feed_59 ?_
    refine lv_aload hx hb dX12_feed_60 (lv_at hl 1 rfl) ?_
    refine lv_iload hx hb dX12_feed_62 (lv_at hl 0 rfl) ?_
    refine lv_iconst (v := iI 4) hx hb dX12_feed_64 (by decide) ?_
    refine gi_div hx hb dX12_feed_65 (by omega) (by omega) ?_
    refine gi_as 1 (congrArg iI (by decide)) ?_
    refine gi_ald S hG n (show gEof hG n = cI cy 5 (upZ (upZ (upZ (upZ (upZ (fun _ => 0) (Int.toNat 0) a1) (Int.toNat 1) a2) (Int.toNat 2) a3) (Int.toNat 3) a4) (Int.toNat 4) a5) from ((upE_n (by omega)).trans ((upE_n (by omega)).trans ((upE_n (by omega)).trans ((upE_n (by omega)).trans upE_s))))) (by omega) dX12_feed_66 (by omega) (by decide) ?_
    refine gi_as a2 (congrArg iI (by rfl)) ?_
    refine lv_bipush (v := iI 24) hx hb dX12_feed_67 (by decide) ?_
    refine lv_bipush (v := iI 8) hx hb dX12_feed_69 (by decide) ?_
    refine lv_iload hx hb dX12_feed_71 (lv_at hl 0 rfl) ?_
    refine lv_iconst (v := iI 4) hx hb dX12_feed_73 (by decide) ?_
    refine gi_rem hx hb dX12_feed_74 (by omega) (by omega) ?_
    refine gi_as 0 (congrArg iI (by decide)) ?_
    refine gi_mul hx hb dX12_feed_75 ?_
    refine gi_as 0 (congrArg iI (by decide)) ?_
    refine gi_sub hx hb dX12_feed_76 ?_
    refine gi_as 24 (congrArg iI (by decide)) ?_
    refine gi_ushr hx hb dX12_feed_77 ?_
    refine gi_nm (fun x_15 ex_15 => ?_)
    have bx_15 := ush_b a2 24; rw [← ex_15] at bx_15
    refine lv_sipush (v := iI 255) hx hb dX12_feed_78 (by decide) ?_
    refine gi_and hx hb dX12_feed_81 ?_
    refine gi_nm (fun x_16 ex_16 => ?_)
    have bx_16 := an_b x_15 255; rw [← ex_16] at bx_16
    refine gi_ast S hG 86 (show gEof hG 86 = cI cy 400 (upZ (upZ (upZ (upZ tm (Int.toNat (taped83 + 0)) x_4) (Int.toNat (taped83 + 1)) x_7) (Int.toNat (taped83 + 2)) x_10) (Int.toNat (taped83 + 3)) x_13) from upE_s) (by omega) dX12_feed_82 (by omega) (by decide) (fun H locs hG => ?_)
    refine lv_iinc (v := iI 5) (lv' := [(7, .int (iI 5)), (6, .ref (b + n)), (0, .ref (b + 83)), (1, .int (iI a1)), (2, .int (iI a2)), (3, .int (iI a3)), (4, .int (iI a4)), (5, .int (iI a5))]) hx hb dX12_feed_83 hl (k := 0) rfl ((iI_add 4 (1)).trans (congrArg iI (by omega))) (by decide) rfl (fun ls hl => ?_)
    refine lv_goto (tgt := 42) hx hb dX12_feed_86 (by decide) ?_
    refine lv_iload hx hb dX12_feed_42 (lv_at hl 0 rfl) ?_
    refine lv_bipush (v := iI 20) hx hb dX12_feed_44 (by decide) ?_
    refine gi_icmp_ge (tgt := 89) hx hb dX12_feed_46 (by decide) (by omega) (by omega) (fun c_17 => absurd c_17 (by decide)) (fun _ => ?_)
    refine lv_aload_n hx hb dX12_feed_49 rfl (lv_at hl 2 rfl) ?_
    refine g_get S hG 83 2 (show gEof hG 83 = O83 b taped83 faultKind83 faultPlace83 at83 begin83 token83 value83 bad83 long083 wanted83 found83 deepMost83 letterAsked83 letterMany83 turns83 topTerm83 top83 left83 nodes83 sourceLong83 read83 toldSize83 toldRank83 boxSize83 isDealing83 dealKind83 dealLow83 dealMany83 dealLeft83 dealRound83 dealX83 from ((upE_n (by omega)).trans ((upE_n (by omega)).trans ((upE_n (by omega)).trans ((upE_n (by omega)).trans ((upE_n (by omega)).trans ((upE_n (by omega)).trans ((upE_n (by omega)).trans ((upE_n (by omega)).trans ((upE_n (by omega)).trans ((upE_n (by omega)).trans ((upE_n (by omega)).trans h83)))))))))))) cpX12 wm_1676 dX12_feed_50 rfl (by omega) (by decide) ?_
    refine lv_aload_n hx hb dX12_feed_53 rfl (lv_at hl 2 rfl) ?_
    refine g_get S hG 83 3 (show gEof hG 83 = O83 b taped83 faultKind83 faultPlace83 at83 begin83 token83 value83 bad83 long083 wanted83 found83 deepMost83 letterAsked83 letterMany83 turns83 topTerm83 top83 left83 nodes83 sourceLong83 read83 toldSize83 toldRank83 boxSize83 isDealing83 dealKind83 dealLow83 dealMany83 dealLeft83 dealRound83 dealX83 from ((upE_n (by omega)).trans ((upE_n (by omega)).trans ((upE_n (by omega)).trans ((upE_n (by omega)).trans ((upE_n (by omega)).trans ((upE_n (by omega)).trans ((upE_n (by omega)).trans ((upE_n (by omega)).trans ((upE_n (by omega)).trans ((upE_n (by omega)).trans ((upE_n (by omega)).trans h83)))))))))))) cpX12 wm_1677 dX12_feed_54 rfl (by omega) (by decide) ?_
    refine lv_iload hx hb dX12_feed_57 (lv_at hl 0 rfl) ?_
    refine gi_add hx hb dX12_feed_59 ?_
    refine lv_aload hx hb dX12_feed_60 (lv_at hl 1 rfl) ?_
    refine lv_iload hx hb dX12_feed_62 (lv_at hl 0 rfl) ?_
    refine lv_iconst (v := iI 4) hx hb dX12_feed_64 (by decide) ?_
    refine gi_div hx hb dX12_feed_65 (by omega) (by omega) ?_
    refine gi_as 1 (congrArg iI (by decide)) ?_
    refine gi_ald S hG n (show gEof hG n = cI cy 5 (upZ (upZ (upZ (upZ (upZ (fun _ => 0) (Int.toNat 0) a1) (Int.toNat 1) a2) (Int.toNat 2) a3) (Int.toNat 3) a4) (Int.toNat 4) a5) from ((upE_n (by omega)).trans ((upE_n (by omega)).trans ((upE_n (by omega)).trans ((upE_n (by omega)).trans ((upE_n (by omega)).trans upE_s)))))) (by omega) dX12_feed_66 (by omega) (by decide) ?_
    refine gi_as a2 (congrArg iI (by rfl)) ?_
    refine lv_bipush (v := iI 24) hx hb dX12_feed_67 (by decide) ?_
    refine lv_bipush (v := iI 8) hx hb dX12_feed_69 (by decide) ?_
    refine lv_iload hx hb dX12_feed_71 (lv_at hl 0 rfl) ?_
    refine lv_iconst (v := iI 4) hx hb dX12_feed_73 (by decide) ?_
    refine gi_rem hx hb dX12_feed_74 (by omega) (by omega) ?_
    refine gi_as 1 (congrArg iI (by decide)) ?_
    refine gi_mul hx hb dX12_feed_75 ?_
    refine gi_as 8 (congrArg iI (by decide)) ?_
    refine gi_sub hx hb dX12_feed_76 ?_
    refine gi_as 16 (congrArg iI (by decide)) ?_
    refine gi_ushr hx hb dX12_feed_77 ?_
    refine gi_nm (fun x_18 ex_18 => ?_)
    have bx_18 := ush_b a2 16; rw [← ex_18] at bx_18
    refine lv_sipush (v := iI 255) hx hb dX12_feed_78 (by decide) ?_
    refine gi_and hx hb dX12_feed_81 ?_
    refine gi_nm (fun x_19 ex_19 => ?_)
    have bx_19 := an_b x_18 255; rw [← ex_19] at bx_19
    refine gi_ast S hG 86 (show gEof hG 86 = cI cy 400 (upZ (upZ (upZ (upZ (upZ tm (Int.toNat (taped83 + 0)) x_4) (Int.toNat (taped83 + 1)) x_7) (Int.toNat (taped83 + 2)) x_10) (Int.toNat (taped83 + 3)) x_13) (Int.toNat (taped83 + 4)) x_16) from upE_s) (by omega) dX12_feed_82 (by omega) (by decide) (fun H locs hG => ?_)
    refine lv_iinc (v := iI 6) (lv' := [(7, .int (iI 6)), (6, .ref (b + n)), (0, .ref (b + 83)), (1, .int (iI a1)), (2, .int (iI a2)), (3, .int (iI a3)), (4, .int (iI a4)), (5, .int (iI a5))]) hx hb dX12_feed_83 hl (k := 0) rfl ((iI_add 5 (1)).trans (congrArg iI (by omega))) (by decide) rfl (fun ls hl => ?_)
    refine lv_goto (tgt := 42) hx hb dX12_feed_86 (by decide) ?_
    refine lv_iload hx hb dX12_feed_42 (lv_at hl 0 rfl) ?_
    refine lv_bipush (v := iI 20) hx hb dX12_feed_44 (by decide) ?_
    refine gi_icmp_ge (tgt := 89) hx hb dX12_feed_46 (by decide) (by omega) (by omega) (fun c_20 => absurd c_20 (by decide)) (fun _ => ?_)
    refine lv_aload_n hx hb dX12_feed_49 rfl (lv_at hl 2 rfl) ?_
    refine g_get S hG 83 2 (show gEof hG 83 = O83 b taped83 faultKind83 faultPlace83 at83 begin83 token83 value83 bad83 long083 wanted83 found83 deepMost83 letterAsked83 letterMany83 turns83 topTerm83 top83 left83 nodes83 sourceLong83 read83 toldSize83 toldRank83 boxSize83 isDealing83 dealKind83 dealLow83 dealMany83 dealLeft83 dealRound83 dealX83 from ((upE_n (by omega)).trans ((upE_n (by omega)).trans ((upE_n (by omega)).trans ((upE_n (by omega)).trans ((upE_n (by omega)).trans ((upE_n (by omega)).trans ((upE_n (by omega)).trans ((upE_n (by omega)).trans ((upE_n (by omega)).trans ((upE_n (by omega)).trans ((upE_n (by omega)).trans ((upE_n (by omega)).trans h83))))))))))))) cpX12 wm_1676 dX12_feed_50 rfl (by omega) (by decide) ?_
    refine lv_aload_n hx hb dX12_feed_53 rfl (lv_at hl 2 rfl) ?_
    refine g_get S hG 83 3 (show gEof hG 83 = O83 b taped83 faultKind83 faultPlace83 at83 begin83 token83 value83 bad83 long083 wanted83 found83 deepMost83 letterAsked83 letterMany83 turns83 topTerm83 top83 left83 nodes83 sourceLong83 read83 toldSize83 toldRank83 boxSize83 isDealing83 dealKind83 dealLow83 dealMany83 dealLeft83 dealRound83 dealX83 from ((upE_n (by omega)).trans ((upE_n (by omega)).trans ((upE_n (by omega)).trans ((upE_n (by omega)).trans ((upE_n (by omega)).trans ((upE_n (by omega)).trans ((upE_n (by omega)).trans ((upE_n (by omega)).trans ((upE_n (by omega)).trans ((upE_n (by omega)).trans ((upE_n (by omega)).trans ((upE_n (by omega)).trans h83))))))))))))) cpX12 wm_1677 dX12_feed_54 rfl (by omega) (by decide) ?_
    refine lv_iload hx hb dX12_feed_57 (lv_at hl 0 rfl) ?_
    refine gi_add hx hb dX12_feed_59 ?_
    refine lv_aload hx hb dX12_feed_60 (lv_at hl 1 rfl) ?_
    refine lv_iload hx hb dX12_feed_62 (lv_at hl 0 rfl) ?_
    refine lv_iconst (v := iI 4) hx hb dX12_feed_64 (by decide) ?_
    refine gi_div hx hb dX12_feed_65 (by omega) (by omega) ?_
    refine gi_as 1 (congrArg iI (by decide)) ?_
    refine gi_ald S hG n (show gEof hG n = cI cy 5 (upZ (upZ (upZ (upZ (upZ (fun _ => 0) (Int.toNat 0) a1) (Int.toNat 1) a2) (Int.toNat 2) a3) (Int.toNat 3) a4) (Int.toNat 4) a5) from ((upE_n (by omega)).trans ((upE_n (by omega)).trans ((upE_n (by omega)).trans ((upE_n (by omega)).trans ((upE_n (by omega)).trans ((upE_n (by omega)).trans upE_s))))))) (by omega) dX12_feed_66 (by omega) (by decide) ?_
    refine gi_as a2 (congrArg iI (by rfl)) ?_
    refine lv_bipush (v := iI 24) hx hb dX12_feed_67 (by decide) ?_
    refine lv_bipush (v := iI 8) hx hb dX12_feed_69 (by decide) ?_
    refine lv_iload hx hb dX12_feed_71 (lv_at hl 0 rfl) ?_
    refine lv_iconst (v := iI 4) hx hb dX12_feed_73 (by decide) ?_
    refine gi_rem hx hb dX12_feed_74 (by omega) (by omega) ?_
    refine gi_as 2 (congrArg iI (by decide)) ?_
    refine gi_mul hx hb dX12_feed_75 ?_
    refine gi_as 16 (congrArg iI (by decide)) ?_
    refine gi_sub hx hb dX12_feed_76 ?_
    refine gi_as 8 (congrArg iI (by decide)) ?_
    refine gi_ushr hx hb dX12_feed_77 ?_
    refine gi_nm (fun x_21 ex_21 => ?_)
    have bx_21 := ush_b a2 8; rw [← ex_21] at bx_21
    refine lv_sipush (v := iI 255) hx hb dX12_feed_78 (by decide) ?_
    refine gi_and hx hb dX12_feed_81 ?_
    refine gi_nm (fun x_22 ex_22 => ?_)
    have bx_22 := an_b x_21 255; rw [← ex_22] at bx_22
    refine gi_ast S hG 86 (show gEof hG 86 = cI cy 400 (upZ (upZ (upZ (upZ (upZ (upZ tm (Int.toNat (taped83 + 0)) x_4) (Int.toNat (taped83 + 1)) x_7) (Int.toNat (taped83 + 2)) x_10) (Int.toNat (taped83 + 3)) x_13) (Int.toNat (taped83 + 4)) x_16) (Int.toNat (taped83 + 5)) x_19) from upE_s) (by omega) dX12_feed_82 (by omega) (by decide) (fun H locs hG => ?_)
    refine lv_iinc (v := iI 7) (lv' := [(7, .int (iI 7)), (6, .ref (b + n)), (0, .ref (b + 83)), (1, .int (iI a1)), (2, .int (iI a2)), (3, .int (iI a3)), (4, .int (iI a4)), (5, .int (iI a5))]) hx hb dX12_feed_83 hl (k := 0) rfl ((iI_add 6 (1)).trans (congrArg iI (by omega))) (by decide) rfl (fun ls hl => ?_)
    refine lv_goto (tgt := 42) hx hb dX12_feed_86 (by decide) ?_
    refine lv_iload hx hb dX12_feed_42 (lv_at hl 0 rfl) ?_
    refine lv_bipush (v := iI 20) hx hb dX12_feed_44 (by decide) ?_
    refine gi_icmp_ge (tgt := 89) hx hb dX12_feed_46 (by decide) (by omega) (by omega) (fun c_23 => absurd c_23 (by decide)) (fun _ => ?_)
    refine lv_aload_n hx hb dX12_feed_49 rfl (lv_at hl 2 rfl) ?_
    refine g_get S hG 83 2 (show gEof hG 83 = O83 b taped83 faultKind83 faultPlace83 at83 begin83 token83 value83 bad83 long083 wanted83 found83 deepMost83 letterAsked83 letterMany83 turns83 topTerm83 top83 left83 nodes83 sourceLong83 read83 toldSize83 toldRank83 boxSize83 isDealing83 dealKind83 dealLow83 dealMany83 dealLeft83 dealRound83 dealX83 from ((upE_n (by omega)).trans ((upE_n (by omega)).trans ((upE_n (by omega)).trans ((upE_n (by omega)).trans ((upE_n (by omega)).trans ((upE_n (by omega)).trans ((upE_n (by omega)).trans ((upE_n (by omega)).trans ((upE_n (by omega)).trans ((upE_n (by omega)).trans ((upE_n (by omega)).trans ((upE_n (by omega)).trans ((upE_n (by omega)).trans h83)))))))))))))) cpX12 wm_1676 dX12_feed_50 rfl (by omega) (by decide) ?_
    refine lv_aload_n hx hb dX12_feed_53 rfl (lv_at hl 2 rfl) ?_
    refine g_get S hG 83 3 (show gEof hG 83 = O83 b taped83 faultKind83 faultPlace83 at83 begin83 token83 value83 bad83 long083 wanted83 found83 deepMost83 letterAsked83 letterMany83 turns83 topTerm83 top83 left83 nodes83 sourceLong83 read83 toldSize83 toldRank83 boxSize83 isDealing83 dealKind83 dealLow83 dealMany83 dealLeft83 dealRound83 dealX83 from ((upE_n (by omega)).trans ((upE_n (by omega)).trans ((upE_n (by omega)).trans ((upE_n (by omega)).trans ((upE_n (by omega)).trans ((upE_n (by omega)).trans ((upE_n (by omega)).trans ((upE_n (by omega)).trans ((upE_n (by omega)).trans ((upE_n (by omega)).trans ((upE_n (by omega)).trans ((upE_n (by omega)).trans ((upE_n (by omega)).trans h83)))))))))))))) cpX12 wm_1677 dX12_feed_54 rfl (by omega) (by decide) ?_
    refine lv_iload hx hb dX12_feed_57 (lv_at hl 0 rfl) ?_
    refine gi_add hx hb dX12_feed_59 ?_
    refine lv_aload hx hb dX12_feed_60 (lv_at hl 1 rfl) ?_
    refine lv_iload hx hb dX12_feed_62 (lv_at hl 0 rfl) ?_
    refine lv_iconst (v := iI 4) hx hb dX12_feed_64 (by decide) ?_
    refine gi_div hx hb dX12_feed_65 (by omega) (by omega) ?_
    refine gi_as 1 (congrArg iI (by decide)) ?_
    refine gi_ald S hG n (show gEof hG n = cI cy 5 (upZ (upZ (upZ (upZ (upZ (fun _ => 0) (Int.toNat 0) a1) (Int.toNat 1) a2) (Int.toNat 2) a3) (Int.toNat 3) a4) (Int.toNat 4) a5) from ((upE_n (by omega)).trans ((upE_n (by omega)).trans ((upE_n (by omega)).trans ((upE_n (by omega)).trans ((upE_n (by omega)).trans ((upE_n (by omega)).trans ((upE_n (by omega)).trans upE_s)))))))) (by omega) dX12_feed_66 (by omega) (by decide) ?_
    refine gi_as a2 (congrArg iI (by rfl)) ?_
    refine lv_bipush (v := iI 24) hx hb dX12_feed_67 (by decide) ?_
    refine lv_bipush (v := iI 8) hx hb dX12_feed_69 (by decide) ?_
    refine lv_iload hx hb dX12_feed_71 (lv_at hl 0 rfl) ?_
    refine lv_iconst (v := iI 4) hx hb dX12_feed_73 (by decide) ?_
    refine gi_rem hx hb dX12_feed_74 (by omega) (by omega) ?_
    refine gi_as 3 (congrArg iI (by decide)) ?_
    refine gi_mul hx hb dX12_feed_75 ?_
    refine gi_as 24 (congrArg iI (by decide)) ?_
    refine gi_sub hx hb dX12_feed_76 ?_
    refine gi_as 0 (congrArg iI (by decide)) ?_
    refine gi_ushr hx hb dX12_feed_77 ?_
    refine gi_nm (fun x_24 ex_24 => ?_)
    have bx_24 := ush_b a2 0; rw [← ex_24] at bx_24
    refine lv_sipush (v := iI 255) hx hb dX12_feed_78 (by decide) ?_
    refine gi_and hx hb dX12_feed_81 ?_
    refine gi_nm (fun x_25 ex_25 => ?_)
    have bx_25 := an_b x_24 255; rw [← ex_25] at bx_25
    refine gi_ast S hG 86 (show gEof hG 86 = cI cy 400 (upZ (upZ (upZ (upZ (upZ (upZ (upZ tm (Int.toNat (taped83 + 0)) x_4) (Int.toNat (taped83 + 1)) x_7) (Int.toNat (taped83 + 2)) x_10) (Int.toNat (taped83 + 3)) x_13) (Int.toNat (taped83 + 4)) x_16) (Int.toNat (taped83 + 5)) x_19) (Int.toNat (taped83 + 6)) x_22) from upE_s) (by omega) dX12_feed_82 (by omega) (by decide) (fun H locs hG => ?_)
    refine lv_iinc (v := iI 8) (lv' := [(7, .int (iI 8)), (6, .ref (b + n)), (0, .ref (b + 83)), (1, .int (iI a1)), (2, .int (iI a2)), (3, .int (iI a3)), (4, .int (iI a4)), (5, .int (iI a5))]) hx hb dX12_feed_83 hl (k := 0) rfl ((iI_add 7 (1)).trans (congrArg iI (by omega))) (by decide) rfl (fun ls hl => ?_)
    refine lv_goto (tgt := 42) hx hb dX12_feed_86 (by decide) ?_
    refine lv_iload hx hb dX12_feed_42 (lv_at hl 0 rfl) ?_
    refine lv_bipush (v := iI 20) hx hb dX12_feed_44 (by decide) ?_
    refine gi_icmp_ge (tgt := 89) hx hb dX12_feed_46 (by decide) (by omega) (by omega) (fun c_26 => absurd c_26 (by decide)) (fun _ => ?_)
    refine lv_aload_n hx hb dX12_feed_49 rfl (lv_at hl 2 rfl) ?_
    refine g_get S hG 83 2 (show gEof hG 83 = O83 b taped83 faultKind83 faultPlace83 at83 begin83 token83 value83 bad83 long083 wanted83 found83 deepMost83 letterAsked83 letterMany83 turns83 topTerm83 top83 left83 nodes83 sourceLong83 read83 toldSize83 toldRank83 boxSize83 isDealing83 dealKind83 dealLow83 dealMany83 dealLeft83 dealRound83 dealX83 from ((upE_n (by omega)).trans ((upE_n (by omega)).trans ((upE_n (by omega)).trans ((upE_n (by omega)).trans ((upE_n (by omega)).trans ((upE_n (by omega)).trans ((upE_n (by omega)).trans ((upE_n (by omega)).trans ((upE_n (by omega)).trans ((upE_n (by omega)).trans ((upE_n (by omega)).trans ((upE_n (by omega)).trans ((upE_n (by omega)).trans ((upE_n (by omega)).trans h83))))))))))))))) cpX12 wm_1676 dX12_feed_50 rfl (by omega) (by decide) ?_
    refine lv_aload_n hx hb dX12_feed_53 rfl (lv_at hl 2 rfl) ?_
    refine g_get S hG 83 3 (show gEof hG 83 = O83 b taped83 faultKind83 faultPlace83 at83 begin83 token83 value83 bad83 long083 wanted83 found83 deepMost83 letterAsked83 letterMany83 turns83 topTerm83 top83 left83 nodes83 sourceLong83 read83 toldSize83 toldRank83 boxSize83 isDealing83 dealKind83 dealLow83 dealMany83 dealLeft83 dealRound83 dealX83 from ((upE_n (by omega)).trans ((upE_n (by omega)).trans ((upE_n (by omega)).trans ((upE_n (by omega)).trans ((upE_n (by omega)).trans ((upE_n (by omega)).trans ((upE_n (by omega)).trans ((upE_n (by omega)).trans ((upE_n (by omega)).trans ((upE_n (by omega)).trans ((upE_n (by omega)).trans ((upE_n (by omega)).trans ((upE_n (by omega)).trans ((upE_n (by omega)).trans h83))))))))))))))) cpX12 wm_1677 dX12_feed_54 rfl (by omega) (by decide) ?_
    refine lv_iload hx hb dX12_feed_57 (lv_at hl 0 rfl) ?_
    refine gi_add hx hb dX12_feed_59 ?_
    refine lv_aload hx hb dX12_feed_60 (lv_at hl 1 rfl) ?_
    refine lv_iload hx hb dX12_feed_62 (lv_at hl 0 rfl) ?_
    refine lv_iconst (v := iI 4) hx hb dX12_feed_64 (by decide) ?_
    refine gi_div hx hb dX12_feed_65 (by omega) (by omega) ?_
    refine gi_as 2 (congrArg iI (by decide)) ?_
    refine gi_ald S hG n (show gEof hG n = cI cy 5 (upZ (upZ (upZ (upZ (upZ (fun _ => 0) (Int.toNat 0) a1) (Int.toNat 1) a2) (Int.toNat 2) a3) (Int.toNat 3) a4) (Int.toNat 4) a5) from ((upE_n (by omega)).trans ((upE_n (by omega)).trans ((upE_n (by omega)).trans ((upE_n (by omega)).trans ((upE_n (by omega)).trans ((upE_n (by omega)).trans ((upE_n (by omega)).trans ((upE_n (by omega)).trans upE_s))))))))) (by omega) dX12_feed_66 (by omega) (by decide) ?_
    refine gi_as a3 (congrArg iI (by rfl)) ?_
    refine lv_bipush (v := iI 24) hx hb dX12_feed_67 (by decide) ?_
    refine lv_bipush (v := iI 8) hx hb dX12_feed_69 (by decide) ?_
    refine lv_iload hx hb dX12_feed_71 (lv_at hl 0 rfl) ?_
    refine lv_iconst (v := iI 4) hx hb dX12_feed_73 (by decide) ?_
    refine gi_rem hx hb dX12_feed_74 (by omega) (by omega) ?_
    refine gi_as 0 (congrArg iI (by decide)) ?_
    refine gi_mul hx hb dX12_feed_75 ?_
    refine gi_as 0 (congrArg iI (by decide)) ?_
    refine gi_sub hx hb dX12_feed_76 ?_
    refine gi_as 24 (congrArg iI (by decide)) ?_
    refine gi_ushr hx hb dX12_feed_77 ?_
    refine gi_nm (fun x_27 ex_27 => ?_)
    have bx_27 := ush_b a3 24; rw [← ex_27] at bx_27
    refine lv_sipush (v := iI 255) hx hb dX12_feed_78 (by decide) ?_
    refine gi_and hx hb dX12_feed_81 ?_
    refine gi_nm (fun x_28 ex_28 => ?_)
    have bx_28 := an_b x_27 255; rw [← ex_28] at bx_28
    refine gi_ast S hG 86 (show gEof hG 86 = cI cy 400 (upZ (upZ (upZ (upZ (upZ (upZ (upZ (upZ tm (Int.toNat (taped83 + 0)) x_4) (Int.toNat (taped83 + 1)) x_7) (Int.toNat (taped83 + 2)) x_10) (Int.toNat (taped83 + 3)) x_13) (Int.toNat (taped83 + 4)) x_16) (Int.toNat (taped83 + 5)) x_19) (Int.toNat (taped83 + 6)) x_22) (Int.toNat (taped83 + 7)) x_25) from upE_s) (by omega) dX12_feed_82 (by omega) (by decide) (fun H locs hG => ?_)
    refine lv_iinc (v := iI 9) (lv' := [(7, .int (iI 9)), (6, .ref (b + n)), (0, .ref (b + 83)), (1, .int (iI a1)), (2, .int (iI a2)), (3, .int (iI a3)), (4, .int (iI a4)), (5, .int (iI a5))]) hx hb dX12_feed_83 hl (k := 0) rfl ((iI_add 8 (1)).trans (congrArg iI (by omega))) (by decide) rfl (fun ls hl => ?_)
    refine lv_goto (tgt := 42) hx hb dX12_feed_86 (by decide) ?_
    refine lv_iload hx hb dX12_feed_42 (lv_at hl 0 rfl) ?_
    refine lv_bipush (v := iI 20) hx hb dX12_feed_44 (by decide) ?_
    refine gi_icmp_ge (tgt := 89) hx hb dX12_feed_46 (by decide) (by omega) (by omega) (fun c_29 => absurd c_29 (by decide)) (fun _ => ?_)
    refine lv_aload_n hx hb dX12_feed_49 rfl (lv_at hl 2 rfl) ?_
    refine g_get S hG 83 2 (show gEof hG 83 = O83 b taped83 faultKind83 faultPlace83 at83 begin83 token83 value83 bad83 long083 wanted83 found83 deepMost83 letterAsked83 letterMany83 turns83 topTerm83 top83 left83 nodes83 sourceLong83 read83 toldSize83 toldRank83 boxSize83 isDealing83 dealKind83 dealLow83 dealMany83 dealLeft83 dealRound83 dealX83 from ((upE_n (by omega)).trans ((upE_n (by omega)).trans ((upE_n (by omega)).trans ((upE_n (by omega)).trans ((upE_n (by omega)).trans ((upE_n (by omega)).trans ((upE_n (by omega)).trans ((upE_n (by omega)).trans ((upE_n (by omega)).trans ((upE_n (by omega)).trans ((upE_n (by omega)).trans ((upE_n (by omega)).trans ((upE_n (by omega)).trans ((upE_n (by omega)).trans ((upE_n (by omega)).trans h83)))))))))))))))) cpX12 wm_1676 dX12_feed_50 rfl (by omega) (by decide) ?_
    refine lv_aload_n hx hb dX12_feed_53 rfl (lv_at hl 2 rfl) ?_
    refine g_get S hG 83 3 (show gEof hG 83 = O83 b taped83 faultKind83 faultPlace83 at83 begin83 token83 value83 bad83 long083 wanted83 found83 deepMost83 letterAsked83 letterMany83 turns83 topTerm83 top83 left83 nodes83 sourceLong83 read83 toldSize83 toldRank83 boxSize83 isDealing83 dealKind83 dealLow83 dealMany83 dealLeft83 dealRound83 dealX83 from ((upE_n (by omega)).trans ((upE_n (by omega)).trans ((upE_n (by omega)).trans ((upE_n (by omega)).trans ((upE_n (by omega)).trans ((upE_n (by omega)).trans ((upE_n (by omega)).trans ((upE_n (by omega)).trans ((upE_n (by omega)).trans ((upE_n (by omega)).trans ((upE_n (by omega)).trans ((upE_n (by omega)).trans ((upE_n (by omega)).trans ((upE_n (by omega)).trans ((upE_n (by omega)).trans h83)))))))))))))))) cpX12 wm_1677 dX12_feed_54 rfl (by omega) (by decide) ?_
    refine lv_iload hx hb dX12_feed_57 (lv_at hl 0 rfl) ?_
    refine gi_add hx hb dX12_feed_59 ?_
    refine lv_aload hx hb dX12_feed_60 (lv_at hl 1 rfl) ?_
    refine lv_iload hx hb dX12_feed_62 (lv_at hl 0 rfl) ?_
    refine lv_iconst (v := iI 4) hx hb dX12_feed_64 (by decide) ?_
    refine gi_div hx hb dX12_feed_65 (by omega) (by omega) ?_
    refine gi_as 2 (congrArg iI (by decide)) ?_
    refine gi_ald S hG n (show gEof hG n = cI cy 5 (upZ (upZ (upZ (upZ (upZ (fun _ => 0) (Int.toNat 0) a1) (Int.toNat 1) a2) (Int.toNat 2) a3) (Int.toNat 3) a4) (Int.toNat 4) a5) from ((upE_n (by omega)).trans ((upE_n (by omega)).trans ((upE_n (by omega)).trans ((upE_n (by omega)).trans ((upE_n (by omega)).trans ((upE_n (by omega)).trans ((upE_n (by omega)).trans ((upE_n (by omega)).trans ((upE_n (by omega)).trans upE_s)))))))))) (by omega) dX12_feed_66 (by omega) (by decide) ?_
    refine gi_as a3 (congrArg iI (by rfl)) ?_
    refine lv_bipush (v := iI 24) hx hb dX12_feed_67 (by decide) ?_
    refine lv_bipush (v := iI 8) hx hb dX12_feed_69 (by decide) ?_
    refine lv_iload hx hb dX12_feed_71 (lv_at hl 0 rfl) ?_
    refine lv_iconst (v := iI 4) hx hb dX12_feed_73 (by decide) ?_
    refine gi_rem hx hb dX12_feed_74 (by omega) (by omega) ?_
    refine gi_as 1 (congrArg iI (by decide)) ?_
    refine gi_mul hx hb dX12_feed_75 ?_
    refine gi_as 8 (congrArg iI (by decide)) ?_
    refine gi_sub hx hb dX12_feed_76 ?_
    refine gi_as 16 (congrArg iI (by decide)) ?_
    refine gi_ushr hx hb dX12_feed_77 ?_
    refine gi_nm (fun x_30 ex_30 => ?_)
    have bx_30 := ush_b a3 16; rw [← ex_30] at bx_30
    refine lv_sipush (v := iI 255) hx hb dX12_feed_78 (by decide) ?_
    refine gi_and hx hb dX12_feed_81 ?_
    refine gi_nm (fun x_31 ex_31 => ?_)
    have bx_31 := an_b x_30 255; rw [← ex_31] at bx_31
    refine gi_ast S hG 86 (show gEof hG 86 = cI cy 400 (upZ (upZ (upZ (upZ (upZ (upZ (upZ (upZ (upZ tm (Int.toNat (taped83 + 0)) x_4) (Int.toNat (taped83 + 1)) x_7) (Int.toNat (taped83 + 2)) x_10) (Int.toNat (taped83 + 3)) x_13) (Int.toNat (taped83 + 4)) x_16) (Int.toNat (taped83 + 5)) x_19) (Int.toNat (taped83 + 6)) x_22) (Int.toNat (taped83 + 7)) x_25) (Int.toNat (taped83 + 8)) x_28) from upE_s) (by omega) dX12_feed_82 (by omega) (by decide) (fun H locs hG => ?_)
    refine lv_iinc (v := iI 10) (lv' := [(7, .int (iI 10)), (6, .ref (b + n)), (0, .ref (b + 83)), (1, .int (iI a1)), (2, .int (iI a2)), (3, .int (iI a3)), (4, .int (iI a4)), (5, .int (iI a5))]) hx hb dX12_feed_83 hl (k := 0) rfl ((iI_add 9 (1)).trans (congrArg iI (by omega))) (by decide) rfl (fun ls hl => ?_)
    refine lv_goto (tgt := 42) hx hb dX12_feed_86 (by decide) ?_
    refine lv_iload hx hb dX12_feed_42 (lv_at hl 0 rfl) ?_
    refine lv_bipush (v := iI 20) hx hb dX12_feed_44 (by decide) ?_
    refine gi_icmp_ge (tgt := 89) hx hb dX12_feed_46 (by decide) (by omega) (by omega) (fun c_32 => absurd c_32 (by decide)) (fun _ => ?_)
    refine lv_aload_n hx hb dX12_feed_49 rfl (lv_at hl 2 rfl) ?_
    refine g_get S hG 83 2 (show gEof hG 83 = O83 b taped83 faultKind83 faultPlace83 at83 begin83 token83 value83 bad83 long083 wanted83 found83 deepMost83 letterAsked83 letterMany83 turns83 topTerm83 top83 left83 nodes83 sourceLong83 read83 toldSize83 toldRank83 boxSize83 isDealing83 dealKind83 dealLow83 dealMany83 dealLeft83 dealRound83 dealX83 from ((upE_n (by omega)).trans ((upE_n (by omega)).trans ((upE_n (by omega)).trans ((upE_n (by omega)).trans ((upE_n (by omega)).trans ((upE_n (by omega)).trans ((upE_n (by omega)).trans ((upE_n (by omega)).trans ((upE_n (by omega)).trans ((upE_n (by omega)).trans ((upE_n (by omega)).trans ((upE_n (by omega)).trans ((upE_n (by omega)).trans ((upE_n (by omega)).trans ((upE_n (by omega)).trans ((upE_n (by omega)).trans h83))))))))))))))))) cpX12 wm_1676 dX12_feed_50 rfl (by omega) (by decide) ?_
    refine lv_aload_n hx hb dX12_feed_53 rfl (lv_at hl 2 rfl) ?_
    refine g_get S hG 83 3 (show gEof hG 83 = O83 b taped83 faultKind83 faultPlace83 at83 begin83 token83 value83 bad83 long083 wanted83 found83 deepMost83 letterAsked83 letterMany83 turns83 topTerm83 top83 left83 nodes83 sourceLong83 read83 toldSize83 toldRank83 boxSize83 isDealing83 dealKind83 dealLow83 dealMany83 dealLeft83 dealRound83 dealX83 from ((upE_n (by omega)).trans ((upE_n (by omega)).trans ((upE_n (by omega)).trans ((upE_n (by omega)).trans ((upE_n (by omega)).trans ((upE_n (by omega)).trans ((upE_n (by omega)).trans ((upE_n (by omega)).trans ((upE_n (by omega)).trans ((upE_n (by omega)).trans ((upE_n (by omega)).trans ((upE_n (by omega)).trans ((upE_n (by omega)).trans ((upE_n (by omega)).trans ((upE_n (by omega)).trans ((upE_n (by omega)).trans h83))))))))))))))))) cpX12 wm_1677 dX12_feed_54 rfl (by omega) (by decide) ?_
    refine lv_iload hx hb dX12_feed_57 (lv_at hl 0 rfl) ?_
    refine gi_add hx hb dX12_feed_59 ?_
    refine lv_aload hx hb dX12_feed_60 (lv_at hl 1 rfl) ?_
    refine lv_iload hx hb dX12_feed_62 (lv_at hl 0 rfl) ?_
    refine lv_iconst (v := iI 4) hx hb dX12_feed_64 (by decide) ?_
    refine gi_div hx hb dX12_feed_65 (by omega) (by omega) ?_
    refine gi_as 2 (congrArg iI (by decide)) ?_
    refine gi_ald S hG n (show gEof hG n = cI cy 5 (upZ (upZ (upZ (upZ (upZ (fun _ => 0) (Int.toNat 0) a1) (Int.toNat 1) a2) (Int.toNat 2) a3) (Int.toNat 3) a4) (Int.toNat 4) a5) from ((upE_n (by omega)).trans ((upE_n (by omega)).trans ((upE_n (by omega)).trans ((upE_n (by omega)).trans ((upE_n (by omega)).trans ((upE_n (by omega)).trans ((upE_n (by omega)).trans ((upE_n (by omega)).trans ((upE_n (by omega)).trans ((upE_n (by omega)).trans upE_s))))))))))) (by omega) dX12_feed_66 (by omega) (by decide) ?_
    refine gi_as a3 (congrArg iI (by rfl)) ?_
    refine lv_bipush (v := iI 24) hx hb dX12_feed_67 (by decide) ?_
    refine lv_bipush (v := iI 8) hx hb dX12_feed_69 (by decide) ?_
    refine lv_iload hx hb dX12_feed_71 (lv_at hl 0 rfl) ?_
    refine lv_iconst (v := iI 4) hx hb dX12_feed_73 (by decide) ?_
    refine gi_rem hx hb dX12_feed_74 (by omega) (by omega) ?_
    refine gi_as 2 (congrArg iI (by decide)) ?_
    refine gi_mul hx hb dX12_feed_75 ?_
    refine gi_as 16 (congrArg iI (by decide)) ?_
    refine gi_sub hx hb dX12_feed_76 ?_
    refine gi_as 8 (congrArg iI (by decide)) ?_
    refine gi_ushr hx hb dX12_feed_77 ?_
    refine gi_nm (fun x_33 ex_33 => ?_)
    have bx_33 := ush_b a3 8; rw [← ex_33] at bx_33
    refine lv_sipush (v := iI 255) hx hb dX12_feed_78 (by decide) ?_
    refine gi_and hx hb dX12_feed_81 ?_
    refine gi_nm (fun x_34 ex_34 => ?_)
    have bx_34 := an_b x_33 255; rw [← ex_34] at bx_34
    refine gi_ast S hG 86 (show gEof hG 86 = cI cy 400 (upZ (upZ (upZ (upZ (upZ (upZ (upZ (upZ (upZ (upZ tm (Int.toNat (taped83 + 0)) x_4) (Int.toNat (taped83 + 1)) x_7) (Int.toNat (taped83 + 2)) x_10) (Int.toNat (taped83 + 3)) x_13) (Int.toNat (taped83 + 4)) x_16) (Int.toNat (taped83 + 5)) x_19) (Int.toNat (taped83 + 6)) x_22) (Int.toNat (taped83 + 7)) x_25) (Int.toNat (taped83 + 8)) x_28) (Int.toNat (taped83 + 9)) x_31) from upE_s) (by omega) dX12_feed_82 (by omega) (by decide) (fun H locs hG => ?_)
    refine lv_iinc (v := iI 11) (lv' := [(7, .int (iI 11)), (6, .ref (b + n)), (0, .ref (b + 83)), (1, .int (iI a1)), (2, .int (iI a2)), (3, .int (iI a3)), (4, .int (iI a4)), (5, .int (iI a5))]) hx hb dX12_feed_83 hl (k := 0) rfl ((iI_add 10 (1)).trans (congrArg iI (by omega))) (by decide) rfl (fun ls hl => ?_)
    refine lv_goto (tgt := 42) hx hb dX12_feed_86 (by decide) ?_
    refine lv_iload hx hb dX12_feed_42 (lv_at hl 0 rfl) ?_
    refine lv_bipush (v := iI 20) hx hb dX12_feed_44 (by decide) ?_
    refine gi_icmp_ge (tgt := 89) hx hb dX12_feed_46 (by decide) (by omega) (by omega) (fun c_35 => absurd c_35 (by decide)) (fun _ => ?_)
    refine lv_aload_n hx hb dX12_feed_49 rfl (lv_at hl 2 rfl) ?_
    refine g_get S hG 83 2 (show gEof hG 83 = O83 b taped83 faultKind83 faultPlace83 at83 begin83 token83 value83 bad83 long083 wanted83 found83 deepMost83 letterAsked83 letterMany83 turns83 topTerm83 top83 left83 nodes83 sourceLong83 read83 toldSize83 toldRank83 boxSize83 isDealing83 dealKind83 dealLow83 dealMany83 dealLeft83 dealRound83 dealX83 from ((upE_n (by omega)).trans ((upE_n (by omega)).trans ((upE_n (by omega)).trans ((upE_n (by omega)).trans ((upE_n (by omega)).trans ((upE_n (by omega)).trans ((upE_n (by omega)).trans ((upE_n (by omega)).trans ((upE_n (by omega)).trans ((upE_n (by omega)).trans ((upE_n (by omega)).trans ((upE_n (by omega)).trans ((upE_n (by omega)).trans ((upE_n (by omega)).trans ((upE_n (by omega)).trans ((upE_n (by omega)).trans ((upE_n (by omega)).trans h83)))))))))))))))))) cpX12 wm_1676 dX12_feed_50 rfl (by omega) (by decide) ?_
    refine lv_aload_n hx hb dX12_feed_53 rfl (lv_at hl 2 rfl) ?_
    refine g_get S hG 83 3 (show gEof hG 83 = O83 b taped83 faultKind83 faultPlace83 at83 begin83 token83 value83 bad83 long083 wanted83 found83 deepMost83 letterAsked83 letterMany83 turns83 topTerm83 top83 left83 nodes83 sourceLong83 read83 toldSize83 toldRank83 boxSize83 isDealing83 dealKind83 dealLow83 dealMany83 dealLeft83 dealRound83 dealX83 from ((upE_n (by omega)).trans ((upE_n (by omega)).trans ((upE_n (by omega)).trans ((upE_n (by omega)).trans ((upE_n (by omega)).trans ((upE_n (by omega)).trans ((upE_n (by omega)).trans ((upE_n (by omega)).trans ((upE_n (by omega)).trans ((upE_n (by omega)).trans ((upE_n (by omega)).trans ((upE_n (by omega)).trans ((upE_n (by omega)).trans ((upE_n (by omega)).trans ((upE_n (by omega)).trans ((upE_n (by omega)).trans ((upE_n (by omega)).trans h83)))))))))))))))))) cpX12 wm_1677 dX12_feed_54 rfl (by omega) (by decide) ?_
    refine lv_iload hx hb dX12_feed_57 (lv_at hl 0 rfl) ?_
    refine gi_add hx hb dX12_feed_59 ?_
    refine lv_aload hx hb dX12_feed_60 (lv_at hl 1 rfl) ?_
    refine lv_iload hx hb dX12_feed_62 (lv_at hl 0 rfl) ?_
    refine lv_iconst (v := iI 4) hx hb dX12_feed_64 (by decide) ?_
    refine gi_div hx hb dX12_feed_65 (by omega) (by omega) ?_
    refine gi_as 2 (congrArg iI (by decide)) ?_
    refine gi_ald S hG n (show gEof hG n = cI cy 5 (upZ (upZ (upZ (upZ (upZ (fun _ => 0) (Int.toNat 0) a1) (Int.toNat 1) a2) (Int.toNat 2) a3) (Int.toNat 3) a4) (Int.toNat 4) a5) from ((upE_n (by omega)).trans ((upE_n (by omega)).trans ((upE_n (by omega)).trans ((upE_n (by omega)).trans ((upE_n (by omega)).trans ((upE_n (by omega)).trans ((upE_n (by omega)).trans ((upE_n (by omega)).trans ((upE_n (by omega)).trans ((upE_n (by omega)).trans ((upE_n (by omega)).trans upE_s)))))))))))) (by omega) dX12_feed_66 (by omega) (by decide) ?_
    refine gi_as a3 (congrArg iI (by rfl)) ?_
    refine lv_bipush (v := iI 24) hx hb dX12_feed_67 (by decide) ?_
    refine lv_bipush (v := iI 8) hx hb dX12_feed_69 (by decide) ?_
    refine lv_iload hx hb dX12_feed_71 (lv_at hl 0 rfl) ?_
    refine lv_iconst (v := iI 4) hx hb dX12_feed_73 (by decide) ?_
    refine gi_rem hx hb dX12_feed_74 (by omega) (by omega) ?_
    refine gi_as 3 (congrArg iI (by decide)) ?_
    refine gi_mul hx hb dX12_feed_75 ?_
    refine gi_as 24 (congrArg iI (by decide)) ?_
    refine gi_sub hx hb dX12_feed_76 ?_
    refine gi_as 0 (congrArg iI (by decide)) ?_
    refine gi_ushr hx hb dX12_feed_77 ?_
    refine gi_nm (fun x_36 ex_36 => ?_)
    have bx_36 := ush_b a3 0; rw [← ex_36] at bx_36
    refine lv_sipush (v := iI 255) hx hb dX12_feed_78 (by decide) ?_
    refine gi_and hx hb dX12_feed_81 ?_
    refine gi_nm (fun x_37 ex_37 => ?_)
    have bx_37 := an_b x_36 255; rw [← ex_37] at bx_37
    refine gi_ast S hG 86 (show gEof hG 86 = cI cy 400 (upZ (upZ (upZ (upZ (upZ (upZ (upZ (upZ (upZ (upZ (upZ tm (Int.toNat (taped83 + 0)) x_4) (Int.toNat (taped83 + 1)) x_7) (Int.toNat (taped83 + 2)) x_10) (Int.toNat (taped83 + 3)) x_13) (Int.toNat (taped83 + 4)) x_16) (Int.toNat (taped83 + 5)) x_19) (Int.toNat (taped83 + 6)) x_22) (Int.toNat (taped83 + 7)) x_25) (Int.toNat (taped83 + 8)) x_28) (Int.toNat (taped83 + 9)) x_31) (Int.toNat (taped83 + 10)) x_34) from upE_s) (by omega) dX12_feed_82 (by omega) (by decide) (fun H locs hG => ?_)
    refine lv_iinc (v := iI 12) (lv' := [(7, .int (iI 12)), (6, .ref (b + n)), (0, .ref (b + 83)), (1, .int (iI a1)), (2, .int (iI a2)), (3, .int (iI a3)), (4, .int (iI a4)), (5, .int (iI a5))]) hx hb dX12_feed_83 hl (k := 0) rfl ((iI_add 11 (1)).trans (congrArg iI (by omega))) (by decide) rfl (fun ls hl => ?_)
    refine lv_goto (tgt := 42) hx hb dX12_feed_86 (by decide) ?_
    refine lv_iload hx hb dX12_feed_42 (lv_at hl 0 rfl) ?_
    refine lv_bipush (v := iI 20) hx hb dX12_feed_44 (by decide) ?_
    refine gi_icmp_ge (tgt := 89) hx hb dX12_feed_46 (by decide) (by omega) (by omega) (fun c_38 => absurd c_38 (by decide)) (fun _ => ?_)
    refine lv_aload_n hx hb dX12_feed_49 rfl (lv_at hl 2 rfl) ?_
    refine g_get S hG 83 2 (show gEof hG 83 = O83 b taped83 faultKind83 faultPlace83 at83 begin83 token83 value83 bad83 long083 wanted83 found83 deepMost83 letterAsked83 letterMany83 turns83 topTerm83 top83 left83 nodes83 sourceLong83 read83 toldSize83 toldRank83 boxSize83 isDealing83 dealKind83 dealLow83 dealMany83 dealLeft83 dealRound83 dealX83 from ((upE_n (by omega)).trans ((upE_n (by omega)).trans ((upE_n (by omega)).trans ((upE_n (by omega)).trans ((upE_n (by omega)).trans ((upE_n (by omega)).trans ((upE_n (by omega)).trans ((upE_n (by omega)).trans ((upE_n (by omega)).trans ((upE_n (by omega)).trans ((upE_n (by omega)).trans ((upE_n (by omega)).trans ((upE_n (by omega)).trans ((upE_n (by omega)).trans ((upE_n (by omega)).trans ((upE_n (by omega)).trans ((upE_n (by omega)).trans ((upE_n (by omega)).trans h83))))))))))))))))))) cpX12 wm_1676 dX12_feed_50 rfl (by omega) (by decide) ?_
    refine lv_aload_n hx hb dX12_feed_53 rfl (lv_at hl 2 rfl) ?_
    refine g_get S hG 83 3 (show gEof hG 83 = O83 b taped83 faultKind83 faultPlace83 at83 begin83 token83 value83 bad83 long083 wanted83 found83 deepMost83 letterAsked83 letterMany83 turns83 topTerm83 top83 left83 nodes83 sourceLong83 read83 toldSize83 toldRank83 boxSize83 isDealing83 dealKind83 dealLow83 dealMany83 dealLeft83 dealRound83 dealX83 from ((upE_n (by omega)).trans ((upE_n (by omega)).trans ((upE_n (by omega)).trans ((upE_n (by omega)).trans ((upE_n (by omega)).trans ((upE_n (by omega)).trans ((upE_n (by omega)).trans ((upE_n (by omega)).trans ((upE_n (by omega)).trans ((upE_n (by omega)).trans ((upE_n (by omega)).trans ((upE_n (by omega)).trans ((upE_n (by omega)).trans ((upE_n (by omega)).trans ((upE_n (by omega)).trans ((upE_n (by omega)).trans ((upE_n (by omega)).trans ((upE_n (by omega)).trans h83))))))))))))))))))) cpX12 wm_1677 dX12_feed_54 rfl (by omega) (by decide) ?_
    refine lv_iload hx hb dX12_feed_57 (lv_at hl 0 rfl) ?_
    refine gi_add hx hb dX12_feed_59 ?_
    refine lv_aload hx hb dX12_feed_60 (lv_at hl 1 rfl) ?_
    refine lv_iload hx hb dX12_feed_62 (lv_at hl 0 rfl) ?_
    refine lv_iconst (v := iI 4) hx hb dX12_feed_64 (by decide) ?_
    refine gi_div hx hb dX12_feed_65 (by omega) (by omega) ?_
    refine gi_as 3 (congrArg iI (by decide)) ?_
    refine gi_ald S hG n (show gEof hG n = cI cy 5 (upZ (upZ (upZ (upZ (upZ (fun _ => 0) (Int.toNat 0) a1) (Int.toNat 1) a2) (Int.toNat 2) a3) (Int.toNat 3) a4) (Int.toNat 4) a5) from ((upE_n (by omega)).trans ((upE_n (by omega)).trans ((upE_n (by omega)).trans ((upE_n (by omega)).trans ((upE_n (by omega)).trans ((upE_n (by omega)).trans ((upE_n (by omega)).trans ((upE_n (by omega)).trans ((upE_n (by omega)).trans ((upE_n (by omega)).trans ((upE_n (by omega)).trans ((upE_n (by omega)).trans upE_s))))))))))))) (by omega) dX12_feed_66 (by omega) (by decide) ?_
    refine gi_as a4 (congrArg iI (by rfl)) ?_
    refine lv_bipush (v := iI 24) hx hb dX12_feed_67 (by decide) ?_
    refine lv_bipush (v := iI 8) hx hb dX12_feed_69 (by decide) ?_
    refine lv_iload hx hb dX12_feed_71 (lv_at hl 0 rfl) ?_
    refine lv_iconst (v := iI 4) hx hb dX12_feed_73 (by decide) ?_
    refine gi_rem hx hb dX12_feed_74 (by omega) (by omega) ?_
    refine gi_as 0 (congrArg iI (by decide)) ?_
    refine gi_mul hx hb dX12_feed_75 ?_
    refine gi_as 0 (congrArg iI (by decide)) ?_
    refine gi_sub hx hb dX12_feed_76 ?_
    refine gi_as 24 (congrArg iI (by decide)) ?_
    refine gi_ushr hx hb dX12_feed_77 ?_
    refine gi_nm (fun x_39 ex_39 => ?_)
    have bx_39 := ush_b a4 24; rw [← ex_39] at bx_39
    refine lv_sipush (v := iI 255) hx hb dX12_feed_78 (by decide) ?_
    refine gi_and hx hb dX12_feed_81 ?_
    refine gi_nm (fun x_40 ex_40 => ?_)
    have bx_40 := an_b x_39 255; rw [← ex_40] at bx_40
    refine gi_ast S hG 86 (show gEof hG 86 = cI cy 400 (upZ (upZ (upZ (upZ (upZ (upZ (upZ (upZ (upZ (upZ (upZ (upZ tm (Int.toNat (taped83 + 0)) x_4) (Int.toNat (taped83 + 1)) x_7) (Int.toNat (taped83 + 2)) x_10) (Int.toNat (taped83 + 3)) x_13) (Int.toNat (taped83 + 4)) x_16) (Int.toNat (taped83 + 5)) x_19) (Int.toNat (taped83 + 6)) x_22) (Int.toNat (taped83 + 7)) x_25) (Int.toNat (taped83 + 8)) x_28) (Int.toNat (taped83 + 9)) x_31) (Int.toNat (taped83 + 10)) x_34) (Int.toNat (taped83 + 11)) x_37) from upE_s) (by omega) dX12_feed_82 (by omega) (by decide) (fun H locs hG => ?_)
    refine lv_iinc (v := iI 13) (lv' := [(7, .int (iI 13)), (6, .ref (b + n)), (0, .ref (b + 83)), (1, .int (iI a1)), (2, .int (iI a2)), (3, .int (iI a3)), (4, .int (iI a4)), (5, .int (iI a5))]) hx hb dX12_feed_83 hl (k := 0) rfl ((iI_add 12 (1)).trans (congrArg iI (by omega))) (by decide) rfl (fun ls hl => ?_)
    refine lv_goto (tgt := 42) hx hb dX12_feed_86 (by decide) ?_
    refine lv_iload hx hb dX12_feed_42 (lv_at hl 0 rfl) ?_
    refine lv_bipush (v := iI 20) hx hb dX12_feed_44 (by decide) ?_
    refine gi_icmp_ge (tgt := 89) hx hb dX12_feed_46 (by decide) (by omega) (by omega) (fun c_41 => absurd c_41 (by decide)) (fun _ => ?_)
    refine lv_aload_n hx hb dX12_feed_49 rfl (lv_at hl 2 rfl) ?_
    refine g_get S hG 83 2 (show gEof hG 83 = O83 b taped83 faultKind83 faultPlace83 at83 begin83 token83 value83 bad83 long083 wanted83 found83 deepMost83 letterAsked83 letterMany83 turns83 topTerm83 top83 left83 nodes83 sourceLong83 read83 toldSize83 toldRank83 boxSize83 isDealing83 dealKind83 dealLow83 dealMany83 dealLeft83 dealRound83 dealX83 from ((upE_n (by omega)).trans ((upE_n (by omega)).trans ((upE_n (by omega)).trans ((upE_n (by omega)).trans ((upE_n (by omega)).trans ((upE_n (by omega)).trans ((upE_n (by omega)).trans ((upE_n (by omega)).trans ((upE_n (by omega)).trans ((upE_n (by omega)).trans ((upE_n (by omega)).trans ((upE_n (by omega)).trans ((upE_n (by omega)).trans ((upE_n (by omega)).trans ((upE_n (by omega)).trans ((upE_n (by omega)).trans ((upE_n (by omega)).trans ((upE_n (by omega)).trans ((upE_n (by omega)).trans h83)))))))))))))))))))) cpX12 wm_1676 dX12_feed_50 rfl (by omega) (by decide) ?_
    refine lv_aload_n hx hb dX12_feed_53 rfl (lv_at hl 2 rfl) ?_
    refine g_get S hG 83 3 (show gEof hG 83 = O83 b taped83 faultKind83 faultPlace83 at83 begin83 token83 value83 bad83 long083 wanted83 found83 deepMost83 letterAsked83 letterMany83 turns83 topTerm83 top83 left83 nodes83 sourceLong83 read83 toldSize83 toldRank83 boxSize83 isDealing83 dealKind83 dealLow83 dealMany83 dealLeft83 dealRound83 dealX83 from ((upE_n (by omega)).trans ((upE_n (by omega)).trans ((upE_n (by omega)).trans ((upE_n (by omega)).trans ((upE_n (by omega)).trans ((upE_n (by omega)).trans ((upE_n (by omega)).trans ((upE_n (by omega)).trans ((upE_n (by omega)).trans ((upE_n (by omega)).trans ((upE_n (by omega)).trans ((upE_n (by omega)).trans ((upE_n (by omega)).trans ((upE_n (by omega)).trans ((upE_n (by omega)).trans ((upE_n (by omega)).trans ((upE_n (by omega)).trans ((upE_n (by omega)).trans ((upE_n (by omega)).trans h83)))))))))))))))))))) cpX12 wm_1677 dX12_feed_54 rfl (by omega) (by decide) ?_
    refine lv_iload hx hb dX12_feed_57 (lv_at hl 0 rfl) ?_
    refine gi_add hx hb dX12_feed_59 ?_
    refine lv_aload hx hb dX12_feed_60 (lv_at hl 1 rfl) ?_
    refine lv_iload hx hb dX12_feed_62 (lv_at hl 0 rfl) ?_
    refine lv_iconst (v := iI 4) hx hb dX12_feed_64 (by decide) ?_
    refine gi_div hx hb dX12_feed_65 (by omega) (by omega) ?_
    refine gi_as 3 (congrArg iI (by decide)) ?_
    refine gi_ald S hG n (show gEof hG n = cI cy 5 (upZ (upZ (upZ (upZ (upZ (fun _ => 0) (Int.toNat 0) a1) (Int.toNat 1) a2) (Int.toNat 2) a3) (Int.toNat 3) a4) (Int.toNat 4) a5) from ((upE_n (by omega)).trans ((upE_n (by omega)).trans ((upE_n (by omega)).trans ((upE_n (by omega)).trans ((upE_n (by omega)).trans ((upE_n (by omega)).trans ((upE_n (by omega)).trans ((upE_n (by omega)).trans ((upE_n (by omega)).trans ((upE_n (by omega)).trans ((upE_n (by omega)).trans ((upE_n (by omega)).trans ((upE_n (by omega)).trans upE_s)))))))))))))) (by omega) dX12_feed_66 (by omega) (by decide) ?_
    refine gi_as a4 (congrArg iI (by rfl)) ?_
    refine lv_bipush (v := iI 24) hx hb dX12_feed_67 (by decide) ?_
    refine lv_bipush (v := iI 8) hx hb dX12_feed_69 (by decide) ?_
    refine lv_iload hx hb dX12_feed_71 (lv_at hl 0 rfl) ?_
    refine lv_iconst (v := iI 4) hx hb dX12_feed_73 (by decide) ?_
    refine gi_rem hx hb dX12_feed_74 (by omega) (by omega) ?_
    refine gi_as 1 (congrArg iI (by decide)) ?_
    refine gi_mul hx hb dX12_feed_75 ?_
    refine gi_as 8 (congrArg iI (by decide)) ?_
    refine gi_sub hx hb dX12_feed_76 ?_
    refine gi_as 16 (congrArg iI (by decide)) ?_
    refine gi_ushr hx hb dX12_feed_77 ?_
    refine gi_nm (fun x_42 ex_42 => ?_)
    have bx_42 := ush_b a4 16; rw [← ex_42] at bx_42
    refine lv_sipush (v := iI 255) hx hb dX12_feed_78 (by decide) ?_
    refine gi_and hx hb dX12_feed_81 ?_
    refine gi_nm (fun x_43 ex_43 => ?_)
    have bx_43 := an_b x_42 255; rw [← ex_43] at bx_43
    refine gi_ast S hG 86 (show gEof hG 86 = cI cy 400 (upZ (upZ (upZ (upZ (upZ (upZ (upZ (upZ (upZ (upZ (upZ (upZ (upZ tm (Int.toNat (taped83 + 0)) x_4) (Int.toNat (taped83 + 1)) x_7) (Int.toNat (taped83 + 2)) x_10) (Int.toNat (taped83 + 3)) x_13) (Int.toNat (taped83 + 4)) x_16) (Int.toNat (taped83 + 5)) x_19) (Int.toNat (taped83 + 6)) x_22) (Int.toNat (taped83 + 7)) x_25) (Int.toNat (taped83 + 8)) x_28) (Int.toNat (taped83 + 9)) x_31) (Int.toNat (taped83 + 10)) x_34) (Int.toNat (taped83 + 11)) x_37) (Int.toNat (taped83 + 12)) x_40) from upE_s) (by omega) dX12_feed_82 (by omega) (by decide) (fun H locs hG => ?_)
    refine lv_iinc (v := iI 14) (lv' := [(7, .int (iI 14)), (6, .ref (b + n)), (0, .ref (b + 83)), (1, .int (iI a1)), (2, .int (iI a2)), (3, .int (iI a3)), (4, .int (iI a4)), (5, .int (iI a5))]) hx hb dX12_feed_83 hl (k := 0) rfl ((iI_add 13 (1)).trans (congrArg iI (by omega))) (by decide) rfl (fun ls hl => ?_)
    refine lv_goto (tgt := 42) hx hb dX12_feed_86 (by decide) ?_
    refine lv_iload hx hb dX12_feed_42 (lv_at hl 0 rfl) ?_
    refine lv_bipush (v := iI 20) hx hb dX12_feed_44 (by decide) ?_
    refine gi_icmp_ge (tgt := 89) hx hb dX12_feed_46 (by decide) (by omega) (by omega) (fun c_44 => absurd c_44 (by decide)) (fun _ => ?_)
    refine lv_aload_n hx hb dX12_feed_49 rfl (lv_at hl 2 rfl) ?_
    refine g_get S hG 83 2 (show gEof hG 83 = O83 b taped83 faultKind83 faultPlace83 at83 begin83 token83 value83 bad83 long083 wanted83 found83 deepMost83 letterAsked83 letterMany83 turns83 topTerm83 top83 left83 nodes83 sourceLong83 read83 toldSize83 toldRank83 boxSize83 isDealing83 dealKind83 dealLow83 dealMany83 dealLeft83 dealRound83 dealX83 from ((upE_n (by omega)).trans ((upE_n (by omega)).trans ((upE_n (by omega)).trans ((upE_n (by omega)).trans ((upE_n (by omega)).trans ((upE_n (by omega)).trans ((upE_n (by omega)).trans ((upE_n (by omega)).trans ((upE_n (by omega)).trans ((upE_n (by omega)).trans ((upE_n (by omega)).trans ((upE_n (by omega)).trans ((upE_n (by omega)).trans ((upE_n (by omega)).trans ((upE_n (by omega)).trans ((upE_n (by omega)).trans ((upE_n (by omega)).trans ((upE_n (by omega)).trans ((upE_n (by omega)).trans ((upE_n (by omega)).trans h83))))))))))))))))))))) cpX12 wm_1676 dX12_feed_50 rfl (by omega) (by decide) ?_
    refine lv_aload_n hx hb dX12_feed_53 rfl (lv_at hl 2 rfl) ?_
    refine g_get S hG 83 3 (show gEof hG 83 = O83 b taped83 faultKind83 faultPlace83 at83 begin83 token83 value83 bad83 long083 wanted83 found83 deepMost83 letterAsked83 letterMany83 turns83 topTerm83 top83 left83 nodes83 sourceLong83 read83 toldSize83 toldRank83 boxSize83 isDealing83 dealKind83 dealLow83 dealMany83 dealLeft83 dealRound83 dealX83 from ((upE_n (by omega)).trans ((upE_n (by omega)).trans ((upE_n (by omega)).trans ((upE_n (by omega)).trans ((upE_n (by omega)).trans ((upE_n (by omega)).trans ((upE_n (by omega)).trans ((upE_n (by omega)).trans ((upE_n (by omega)).trans ((upE_n (by omega)).trans ((upE_n (by omega)).trans ((upE_n (by omega)).trans ((upE_n (by omega)).trans ((upE_n (by omega)).trans ((upE_n (by omega)).trans ((upE_n (by omega)).trans ((upE_n (by omega)).trans ((upE_n (by omega)).trans ((upE_n (by omega)).trans ((upE_n (by omega)).trans h83))))))))))))))))))))) cpX12 wm_1677 dX12_feed_54 rfl (by omega) (by decide) ?_
    refine lv_iload hx hb dX12_feed_57 (lv_at hl 0 rfl) ?_
    refine gi_add hx hb dX12_feed_59 ?_
    refine lv_aload hx hb dX12_feed_60 (lv_at hl 1 rfl) ?_
    refine lv_iload hx hb dX12_feed_62 (lv_at hl 0 rfl) ?_
    refine lv_iconst (v := iI 4) hx hb dX12_feed_64 (by decide) ?_
    refine gi_div hx hb dX12_feed_65 (by omega) (by omega) ?_
    refine gi_as 3 (congrArg iI (by decide)) ?_
    refine gi_ald S hG n (show gEof hG n = cI cy 5 (upZ (upZ (upZ (upZ (upZ (fun _ => 0) (Int.toNat 0) a1) (Int.toNat 1) a2) (Int.toNat 2) a3) (Int.toNat 3) a4) (Int.toNat 4) a5) from ((upE_n (by omega)).trans ((upE_n (by omega)).trans ((upE_n (by omega)).trans ((upE_n (by omega)).trans ((upE_n (by omega)).trans ((upE_n (by omega)).trans ((upE_n (by omega)).trans ((upE_n (by omega)).trans ((upE_n (by omega)).trans ((upE_n (by omega)).trans ((upE_n (by omega)).trans ((upE_n (by omega)).trans ((upE_n (by omega)).trans ((upE_n (by omega)).trans upE_s))))))))))))))) (by omega) dX12_feed_66 (by omega) (by decide) ?_
    refine gi_as a4 (congrArg iI (by rfl)) ?_
    refine lv_bipush (v := iI 24) hx hb dX12_feed_67 (by decide) ?_
    refine lv_bipush (v := iI 8) hx hb dX12_feed_69 (by decide) ?_
    refine lv_iload hx hb dX12_feed_71 (lv_at hl 0 rfl) ?_
    refine lv_iconst (v := iI 4) hx hb dX12_feed_73 (by decide) ?_
    refine gi_rem hx hb dX12_feed_74 (by omega) (by omega) ?_
    refine gi_as 2 (congrArg iI (by decide)) ?_
    refine gi_mul hx hb dX12_feed_75 ?_
    refine gi_as 16 (congrArg iI (by decide)) ?_
    refine gi_sub hx hb dX12_feed_76 ?_
    refine gi_as 8 (congrArg iI (by decide)) ?_
    refine gi_ushr hx hb dX12_feed_77 ?_
    refine gi_nm (fun x_45 ex_45 => ?_)
    have bx_45 := ush_b a4 8; rw [← ex_45] at bx_45
    refine lv_sipush (v := iI 255) hx hb dX12_feed_78 (by decide) ?_
    refine gi_and hx hb dX12_feed_81 ?_
    refine gi_nm (fun x_46 ex_46 => ?_)
    have bx_46 := an_b x_45 255; rw [← ex_46] at bx_46
    refine gi_ast S hG 86 (show gEof hG 86 = cI cy 400 (upZ (upZ (upZ (upZ (upZ (upZ (upZ (upZ (upZ (upZ (upZ (upZ (upZ (upZ tm (Int.toNat (taped83 + 0)) x_4) (Int.toNat (taped83 + 1)) x_7) (Int.toNat (taped83 + 2)) x_10) (Int.toNat (taped83 + 3)) x_13) (Int.toNat (taped83 + 4)) x_16) (Int.toNat (taped83 + 5)) x_19) (Int.toNat (taped83 + 6)) x_22) (Int.toNat (taped83 + 7)) x_25) (Int.toNat (taped83 + 8)) x_28) (Int.toNat (taped83 + 9)) x_31) (Int.toNat (taped83 + 10)) x_34) (Int.toNat (taped83 + 11)) x_37) (Int.toNat (taped83 + 12)) x_40) (Int.toNat (taped83 + 13)) x_43) from upE_s) (by omega) dX12_feed_82 (by omega) (by decide) (fun H locs hG => ?_)
    refine lv_iinc (v := iI 15) (lv' := [(7, .int (iI 15)), (6, .ref (b + n)), (0, .ref (b + 83)), (1, .int (iI a1)), (2, .int (iI a2)), (3, .int (iI a3)), (4, .int (iI a4)), (5, .int (iI a5))]) hx hb dX12_feed_83 hl (k := 0) rfl ((iI_add 14 (1)).trans (congrArg iI (by omega))) (by decide) rfl (fun ls hl => ?_)
    refine lv_goto (tgt := 42) hx hb dX12_feed_86 (by decide) ?_
    refine lv_iload hx hb dX12_feed_42 (lv_at hl 0 rfl) ?_
    refine lv_bipush (v := iI 20) hx hb dX12_feed_44 (by decide) ?_
    refine gi_icmp_ge (tgt := 89) hx hb dX12_feed_46 (by decide) (by omega) (by omega) (fun c_47 => absurd c_47 (by decide)) (fun _ => ?_)
    refine lv_aload_n hx hb dX12_feed_49 rfl (lv_at hl 2 rfl) ?_
    refine g_get S hG 83 2 (show gEof hG 83 = O83 b taped83 faultKind83 faultPlace83 at83 begin83 token83 value83 bad83 long083 wanted83 found83 deepMost83 letterAsked83 letterMany83 turns83 topTerm83 top83 left83 nodes83 sourceLong83 read83 toldSize83 toldRank83 boxSize83 isDealing83 dealKind83 dealLow83 dealMany83 dealLeft83 dealRound83 dealX83 from ((upE_n (by omega)).trans ((upE_n (by omega)).trans ((upE_n (by omega)).trans ((upE_n (by omega)).trans ((upE_n (by omega)).trans ((upE_n (by omega)).trans ((upE_n (by omega)).trans ((upE_n (by omega)).trans ((upE_n (by omega)).trans ((upE_n (by omega)).trans ((upE_n (by omega)).trans ((upE_n (by omega)).trans ((upE_n (by omega)).trans ((upE_n (by omega)).trans ((upE_n (by omega)).trans ((upE_n (by omega)).trans ((upE_n (by omega)).trans ((upE_n (by omega)).trans ((upE_n (by omega)).trans ((upE_n (by omega)).trans ((upE_n (by omega)).trans h83)))))))))))))))))))))) cpX12 wm_1676 dX12_feed_50 rfl (by omega) (by decide) ?_
    refine lv_aload_n hx hb dX12_feed_53 rfl (lv_at hl 2 rfl) ?_
    refine g_get S hG 83 3 (show gEof hG 83 = O83 b taped83 faultKind83 faultPlace83 at83 begin83 token83 value83 bad83 long083 wanted83 found83 deepMost83 letterAsked83 letterMany83 turns83 topTerm83 top83 left83 nodes83 sourceLong83 read83 toldSize83 toldRank83 boxSize83 isDealing83 dealKind83 dealLow83 dealMany83 dealLeft83 dealRound83 dealX83 from ((upE_n (by omega)).trans ((upE_n (by omega)).trans ((upE_n (by omega)).trans ((upE_n (by omega)).trans ((upE_n (by omega)).trans ((upE_n (by omega)).trans ((upE_n (by omega)).trans ((upE_n (by omega)).trans ((upE_n (by omega)).trans ((upE_n (by omega)).trans ((upE_n (by omega)).trans ((upE_n (by omega)).trans ((upE_n (by omega)).trans ((upE_n (by omega)).trans ((upE_n (by omega)).trans ((upE_n (by omega)).trans ((upE_n (by omega)).trans ((upE_n (by omega)).trans ((upE_n (by omega)).trans ((upE_n (by omega)).trans ((upE_n (by omega)).trans h83)))))))))))))))))))))) cpX12 wm_1677 dX12_feed_54 rfl (by omega) (by decide) ?_
    refine lv_iload hx hb dX12_feed_57 (lv_at hl 0 rfl) ?_
    refine gi_add hx hb dX12_feed_59 ?_
    refine lv_aload hx hb dX12_feed_60 (lv_at hl 1 rfl) ?_
    refine lv_iload hx hb dX12_feed_62 (lv_at hl 0 rfl) ?_
    refine lv_iconst (v := iI 4) hx hb dX12_feed_64 (by decide) ?_
    refine gi_div hx hb dX12_feed_65 (by omega) (by omega) ?_
    refine gi_as 3 (congrArg iI (by decide)) ?_
    refine gi_ald S hG n (show gEof hG n = cI cy 5 (upZ (upZ (upZ (upZ (upZ (fun _ => 0) (Int.toNat 0) a1) (Int.toNat 1) a2) (Int.toNat 2) a3) (Int.toNat 3) a4) (Int.toNat 4) a5) from ((upE_n (by omega)).trans ((upE_n (by omega)).trans ((upE_n (by omega)).trans ((upE_n (by omega)).trans ((upE_n (by omega)).trans ((upE_n (by omega)).trans ((upE_n (by omega)).trans ((upE_n (by omega)).trans ((upE_n (by omega)).trans ((upE_n (by omega)).trans ((upE_n (by omega)).trans ((upE_n (by omega)).trans ((upE_n (by omega)).trans ((upE_n (by omega)).trans ((upE_n (by omega)).trans upE_s)))))))))))))))) (by omega) dX12_feed_66 (by omega) (by decide) ?_
    refine gi_as a4 (congrArg iI (by rfl)) ?_
    refine lv_bipush (v := iI 24) hx hb dX12_feed_67 (by decide) ?_
    refine lv_bipush (v := iI 8) hx hb dX12_feed_69 (by decide) ?_
    refine lv_iload hx hb dX12_feed_71 (lv_at hl 0 rfl) ?_
    refine lv_iconst (v := iI 4) hx hb dX12_feed_73 (by decide) ?_
    refine gi_rem hx hb dX12_feed_74 (by omega) (by omega) ?_
    refine gi_as 3 (congrArg iI (by decide)) ?_
    refine gi_mul hx hb dX12_feed_75 ?_
    refine gi_as 24 (congrArg iI (by decide)) ?_
    refine gi_sub hx hb dX12_feed_76 ?_
    refine gi_as 0 (congrArg iI (by decide)) ?_
    refine gi_ushr hx hb dX12_feed_77 ?_
    refine gi_nm (fun x_48 ex_48 => ?_)
    have bx_48 := ush_b a4 0; rw [← ex_48] at bx_48
    refine lv_sipush (v := iI 255) hx hb dX12_feed_78 (by decide) ?_
    refine gi_and hx hb dX12_feed_81 ?_
    refine gi_nm (fun x_49 ex_49 => ?_)
    have bx_49 := an_b x_48 255; rw [← ex_49] at bx_49
    refine gi_ast S hG 86 (show gEof hG 86 = cI cy 400 (upZ (upZ (upZ (upZ (upZ (upZ (upZ (upZ (upZ (upZ (upZ (upZ (upZ (upZ (upZ tm (Int.toNat (taped83 + 0)) x_4) (Int.toNat (taped83 + 1)) x_7) (Int.toNat (taped83 + 2)) x_10) (Int.toNat (taped83 + 3)) x_13) (Int.toNat (taped83 + 4)) x_16) (Int.toNat (taped83 + 5)) x_19) (Int.toNat (taped83 + 6)) x_22) (Int.toNat (taped83 + 7)) x_25) (Int.toNat (taped83 + 8)) x_28) (Int.toNat (taped83 + 9)) x_31) (Int.toNat (taped83 + 10)) x_34) (Int.toNat (taped83 + 11)) x_37) (Int.toNat (taped83 + 12)) x_40) (Int.toNat (taped83 + 13)) x_43) (Int.toNat (taped83 + 14)) x_46) from upE_s) (by omega) dX12_feed_82 (by omega) (by decide) (fun H locs hG => ?_)
    refine lv_iinc (v := iI 16) (lv' := [(7, .int (iI 16)), (6, .ref (b + n)), (0, .ref (b + 83)), (1, .int (iI a1)), (2, .int (iI a2)), (3, .int (iI a3)), (4, .int (iI a4)), (5, .int (iI a5))]) hx hb dX12_feed_83 hl (k := 0) rfl ((iI_add 15 (1)).trans (congrArg iI (by omega))) (by decide) rfl (fun ls hl => ?_)
    refine lv_goto (tgt := 42) hx hb dX12_feed_86 (by decide) ?_
    refine lv_iload hx hb dX12_feed_42 (lv_at hl 0 rfl) ?_
    refine lv_bipush (v := iI 20) hx hb dX12_feed_44 (by decide) ?_
    refine gi_icmp_ge (tgt := 89) hx hb dX12_feed_46 (by decide) (by omega) (by omega) (fun c_50 => absurd c_50 (by decide)) (fun _ => ?_)
    refine lv_aload_n hx hb dX12_feed_49 rfl (lv_at hl 2 rfl) ?_
    refine g_get S hG 83 2 (show gEof hG 83 = O83 b taped83 faultKind83 faultPlace83 at83 begin83 token83 value83 bad83 long083 wanted83 found83 deepMost83 letterAsked83 letterMany83 turns83 topTerm83 top83 left83 nodes83 sourceLong83 read83 toldSize83 toldRank83 boxSize83 isDealing83 dealKind83 dealLow83 dealMany83 dealLeft83 dealRound83 dealX83 from ((upE_n (by omega)).trans ((upE_n (by omega)).trans ((upE_n (by omega)).trans ((upE_n (by omega)).trans ((upE_n (by omega)).trans ((upE_n (by omega)).trans ((upE_n (by omega)).trans ((upE_n (by omega)).trans ((upE_n (by omega)).trans ((upE_n (by omega)).trans ((upE_n (by omega)).trans ((upE_n (by omega)).trans ((upE_n (by omega)).trans ((upE_n (by omega)).trans ((upE_n (by omega)).trans ((upE_n (by omega)).trans ((upE_n (by omega)).trans ((upE_n (by omega)).trans ((upE_n (by omega)).trans ((upE_n (by omega)).trans ((upE_n (by omega)).trans ((upE_n (by omega)).trans h83))))))))))))))))))))))) cpX12 wm_1676 dX12_feed_50 rfl (by omega) (by decide) ?_
    refine lv_aload_n hx hb dX12_feed_53 rfl (lv_at hl 2 rfl) ?_
    refine g_get S hG 83 3 (show gEof hG 83 = O83 b taped83 faultKind83 faultPlace83 at83 begin83 token83 value83 bad83 long083 wanted83 found83 deepMost83 letterAsked83 letterMany83 turns83 topTerm83 top83 left83 nodes83 sourceLong83 read83 toldSize83 toldRank83 boxSize83 isDealing83 dealKind83 dealLow83 dealMany83 dealLeft83 dealRound83 dealX83 from ((upE_n (by omega)).trans ((upE_n (by omega)).trans ((upE_n (by omega)).trans ((upE_n (by omega)).trans ((upE_n (by omega)).trans ((upE_n (by omega)).trans ((upE_n (by omega)).trans ((upE_n (by omega)).trans ((upE_n (by omega)).trans ((upE_n (by omega)).trans ((upE_n (by omega)).trans ((upE_n (by omega)).trans ((upE_n (by omega)).trans ((upE_n (by omega)).trans ((upE_n (by omega)).trans ((upE_n (by omega)).trans ((upE_n (by omega)).trans ((upE_n (by omega)).trans ((upE_n (by omega)).trans ((upE_n (by omega)).trans ((upE_n (by omega)).trans ((upE_n (by omega)).trans h83))))))))))))))))))))))) cpX12 wm_1677 dX12_feed_54 rfl (by omega) (by decide) ?_
    refine lv_iload hx hb dX12_feed_57 (lv_at hl 0 rfl) ?_
    refine gi_add hx hb dX12_feed_59 ?_
    refine lv_aload hx hb dX12_feed_60 (lv_at hl 1 rfl) ?_
    refine lv_iload hx hb dX12_feed_62 (lv_at hl 0 rfl) ?_
    refine lv_iconst (v := iI 4) hx hb dX12_feed_64 (by decide) ?_
    refine gi_div hx hb dX12_feed_65 (by omega) (by omega) ?_
    refine gi_as 4 (congrArg iI (by decide)) ?_
    refine gi_ald S hG n (show gEof hG n = cI cy 5 (upZ (upZ (upZ (upZ (upZ (fun _ => 0) (Int.toNat 0) a1) (Int.toNat 1) a2) (Int.toNat 2) a3) (Int.toNat 3) a4) (Int.toNat 4) a5) from ((upE_n (by omega)).trans ((upE_n (by omega)).trans ((upE_n (by omega)).trans ((upE_n (by omega)).trans ((upE_n (by omega)).trans ((upE_n (by omega)).trans ((upE_n (by omega)).trans ((upE_n (by omega)).trans ((upE_n (by omega)).trans ((upE_n (by omega)).trans ((upE_n (by omega)).trans ((upE_n (by omega)).trans ((upE_n (by omega)).trans ((upE_n (by omega)).trans ((upE_n (by omega)).trans ((upE_n (by omega)).trans upE_s))))))))))))))))) (by omega) dX12_feed_66 (by omega) (by decide) ?_
    refine gi_as a5 (congrArg iI (by rfl)) ?_
    refine lv_bipush (v := iI 24) hx hb dX12_feed_67 (by decide) ?_
    refine lv_bipush (v := iI 8) hx hb dX12_feed_69 (by decide) ?_
    refine lv_iload hx hb dX12_feed_71 (lv_at hl 0 rfl) ?_
    refine lv_iconst (v := iI 4) hx hb dX12_feed_73 (by decide) ?_
    refine gi_rem hx hb dX12_feed_74 (by omega) (by omega) ?_
    refine gi_as 0 (congrArg iI (by decide)) ?_
    refine gi_mul hx hb dX12_feed_75 ?_
    refine gi_as 0 (congrArg iI (by decide)) ?_
    refine gi_sub hx hb dX12_feed_76 ?_
    refine gi_as 24 (congrArg iI (by decide)) ?_
    refine gi_ushr hx hb dX12_feed_77 ?_
    refine gi_nm (fun x_51 ex_51 => ?_)
    have bx_51 := ush_b a5 24; rw [← ex_51] at bx_51
    refine lv_sipush (v := iI 255) hx hb dX12_feed_78 (by decide) ?_
    refine gi_and hx hb dX12_feed_81 ?_
    refine gi_nm (fun x_52 ex_52 => ?_)
    have bx_52 := an_b x_51 255; rw [← ex_52] at bx_52
    refine gi_ast S hG 86 (show gEof hG 86 = cI cy 400 (upZ (upZ (upZ (upZ (upZ (upZ (upZ (upZ (upZ (upZ (upZ (upZ (upZ (upZ (upZ (upZ tm (Int.toNat (taped83 + 0)) x_4) (Int.toNat (taped83 + 1)) x_7) (Int.toNat (taped83 + 2)) x_10) (Int.toNat (taped83 + 3)) x_13) (Int.toNat (taped83 + 4)) x_16) (Int.toNat (taped83 + 5)) x_19) (Int.toNat (taped83 + 6)) x_22) (Int.toNat (taped83 + 7)) x_25) (Int.toNat (taped83 + 8)) x_28) (Int.toNat (taped83 + 9)) x_31) (Int.toNat (taped83 + 10)) x_34) (Int.toNat (taped83 + 11)) x_37) (Int.toNat (taped83 + 12)) x_40) (Int.toNat (taped83 + 13)) x_43) (Int.toNat (taped83 + 14)) x_46) (Int.toNat (taped83 + 15)) x_49) from upE_s) (by omega) dX12_feed_82 (by omega) (by decide) (fun H locs hG => ?_)
    refine lv_iinc (v := iI 17) (lv' := [(7, .int (iI 17)), (6, .ref (b + n)), (0, .ref (b + 83)), (1, .int (iI a1)), (2, .int (iI a2)), (3, .int (iI a3)), (4, .int (iI a4)), (5, .int (iI a5))]) hx hb dX12_feed_83 hl (k := 0) rfl ((iI_add 16 (1)).trans (congrArg iI (by omega))) (by decide) rfl (fun ls hl => ?_)
    refine lv_goto (tgt := 42) hx hb dX12_feed_86 (by decide) ?_
    refine lv_iload hx hb dX12_feed_42 (lv_at hl 0 rfl) ?_
    refine lv_bipush (v := iI 20) hx hb dX12_feed_44 (by decide) ?_
    refine gi_icmp_ge (tgt := 89) hx hb dX12_feed_46 (by decide) (by omega) (by omega) (fun c_53 => absurd c_53 (by decide)) (fun _ => ?_)
    refine lv_aload_n hx hb dX12_feed_49 rfl (lv_at hl 2 rfl) ?_
    refine g_get S hG 83 2 (show gEof hG 83 = O83 b taped83 faultKind83 faultPlace83 at83 begin83 token83 value83 bad83 long083 wanted83 found83 deepMost83 letterAsked83 letterMany83 turns83 topTerm83 top83 left83 nodes83 sourceLong83 read83 toldSize83 toldRank83 boxSize83 isDealing83 dealKind83 dealLow83 dealMany83 dealLeft83 dealRound83 dealX83 from ((upE_n (by omega)).trans ((upE_n (by omega)).trans ((upE_n (by omega)).trans ((upE_n (by omega)).trans ((upE_n (by omega)).trans ((upE_n (by omega)).trans ((upE_n (by omega)).trans ((upE_n (by omega)).trans ((upE_n (by omega)).trans ((upE_n (by omega)).trans ((upE_n (by omega)).trans ((upE_n (by omega)).trans ((upE_n (by omega)).trans ((upE_n (by omega)).trans ((upE_n (by omega)).trans ((upE_n (by omega)).trans ((upE_n (by omega)).trans ((upE_n (by omega)).trans ((upE_n (by omega)).trans ((upE_n (by omega)).trans ((upE_n (by omega)).trans ((upE_n (by omega)).trans ((upE_n (by omega)).trans h83)))))))))))))))))))))))) cpX12 wm_1676 dX12_feed_50 rfl (by omega) (by decide) ?_
    refine lv_aload_n hx hb dX12_feed_53 rfl (lv_at hl 2 rfl) ?_
    refine g_get S hG 83 3 (show gEof hG 83 = O83 b taped83 faultKind83 faultPlace83 at83 begin83 token83 value83 bad83 long083 wanted83 found83 deepMost83 letterAsked83 letterMany83 turns83 topTerm83 top83 left83 nodes83 sourceLong83 read83 toldSize83 toldRank83 boxSize83 isDealing83 dealKind83 dealLow83 dealMany83 dealLeft83 dealRound83 dealX83 from ((upE_n (by omega)).trans ((upE_n (by omega)).trans ((upE_n (by omega)).trans ((upE_n (by omega)).trans ((upE_n (by omega)).trans ((upE_n (by omega)).trans ((upE_n (by omega)).trans ((upE_n (by omega)).trans ((upE_n (by omega)).trans ((upE_n (by omega)).trans ((upE_n (by omega)).trans ((upE_n (by omega)).trans ((upE_n (by omega)).trans ((upE_n (by omega)).trans ((upE_n (by omega)).trans ((upE_n (by omega)).trans ((upE_n (by omega)).trans ((upE_n (by omega)).trans ((upE_n (by omega)).trans ((upE_n (by omega)).trans ((upE_n (by omega)).trans ((upE_n (by omega)).trans ((upE_n (by omega)).trans h83)))))))))))))))))))))))) cpX12 wm_1677 dX12_feed_54 rfl (by omega) (by decide) ?_
    refine lv_iload hx hb dX12_feed_57 (lv_at hl 0 rfl) ?_
    refine gi_add hx hb dX12_feed_59 ?_
    refine lv_aload hx hb dX12_feed_60 (lv_at hl 1 rfl) ?_
    refine lv_iload hx hb dX12_feed_62 (lv_at hl 0 rfl) ?_
    refine lv_iconst (v := iI 4) hx hb dX12_feed_64 (by decide) ?_
    refine gi_div hx hb dX12_feed_65 (by omega) (by omega) ?_
    refine gi_as 4 (congrArg iI (by decide)) ?_
    refine gi_ald S hG n (show gEof hG n = cI cy 5 (upZ (upZ (upZ (upZ (upZ (fun _ => 0) (Int.toNat 0) a1) (Int.toNat 1) a2) (Int.toNat 2) a3) (Int.toNat 3) a4) (Int.toNat 4) a5) from ((upE_n (by omega)).trans ((upE_n (by omega)).trans ((upE_n (by omega)).trans ((upE_n (by omega)).trans ((upE_n (by omega)).trans ((upE_n (by omega)).trans ((upE_n (by omega)).trans ((upE_n (by omega)).trans ((upE_n (by omega)).trans ((upE_n (by omega)).trans ((upE_n (by omega)).trans ((upE_n (by omega)).trans ((upE_n (by omega)).trans ((upE_n (by omega)).trans ((upE_n (by omega)).trans ((upE_n (by omega)).trans ((upE_n (by omega)).trans upE_s)))))))))))))))))) (by omega) dX12_feed_66 (by omega) (by decide) ?_
    refine gi_as a5 (congrArg iI (by rfl)) ?_
    refine lv_bipush (v := iI 24) hx hb dX12_feed_67 (by decide) ?_
    refine lv_bipush (v := iI 8) hx hb dX12_feed_69 (by decide) ?_
    refine lv_iload hx hb dX12_feed_71 (lv_at hl 0 rfl) ?_
    refine lv_iconst (v := iI 4) hx hb dX12_feed_73 (by decide) ?_
    refine gi_rem hx hb dX12_feed_74 (by omega) (by omega) ?_
    refine gi_as 1 (congrArg iI (by decide)) ?_
    refine gi_mul hx hb dX12_feed_75 ?_
    refine gi_as 8 (congrArg iI (by decide)) ?_
    refine gi_sub hx hb dX12_feed_76 ?_
    refine gi_as 16 (congrArg iI (by decide)) ?_
    refine gi_ushr hx hb dX12_feed_77 ?_
    refine gi_nm (fun x_54 ex_54 => ?_)
    have bx_54 := ush_b a5 16; rw [← ex_54] at bx_54
    refine lv_sipush (v := iI 255) hx hb dX12_feed_78 (by decide) ?_
    refine gi_and hx hb dX12_feed_81 ?_
    refine gi_nm (fun x_55 ex_55 => ?_)
    have bx_55 := an_b x_54 255; rw [← ex_55] at bx_55
    refine gi_ast S hG 86 (show gEof hG 86 = cI cy 400 (upZ (upZ (upZ (upZ (upZ (upZ (upZ (upZ (upZ (upZ (upZ (upZ (upZ (upZ (upZ (upZ (upZ tm (Int.toNat (taped83 + 0)) x_4) (Int.toNat (taped83 + 1)) x_7) (Int.toNat (taped83 + 2)) x_10) (Int.toNat (taped83 + 3)) x_13) (Int.toNat (taped83 + 4)) x_16) (Int.toNat (taped83 + 5)) x_19) (Int.toNat (taped83 + 6)) x_22) (Int.toNat (taped83 + 7)) x_25) (Int.toNat (taped83 + 8)) x_28) (Int.toNat (taped83 + 9)) x_31) (Int.toNat (taped83 + 10)) x_34) (Int.toNat (taped83 + 11)) x_37) (Int.toNat (taped83 + 12)) x_40) (Int.toNat (taped83 + 13)) x_43) (Int.toNat (taped83 + 14)) x_46) (Int.toNat (taped83 + 15)) x_49) (Int.toNat (taped83 + 16)) x_52) from upE_s) (by omega) dX12_feed_82 (by omega) (by decide) (fun H locs hG => ?_)
    refine lv_iinc (v := iI 18) (lv' := [(7, .int (iI 18)), (6, .ref (b + n)), (0, .ref (b + 83)), (1, .int (iI a1)), (2, .int (iI a2)), (3, .int (iI a3)), (4, .int (iI a4)), (5, .int (iI a5))]) hx hb dX12_feed_83 hl (k := 0) rfl ((iI_add 17 (1)).trans (congrArg iI (by omega))) (by decide) rfl (fun ls hl => ?_)
    refine lv_goto (tgt := 42) hx hb dX12_feed_86 (by decide) ?_
    refine lv_iload hx hb dX12_feed_42 (lv_at hl 0 rfl) ?_
    refine lv_bipush (v := iI 20) hx hb dX12_feed_44 (by decide) ?_
    refine gi_icmp_ge (tgt := 89) hx hb dX12_feed_46 (by decide) (by omega) (by omega) (fun c_56 => absurd c_56 (by decide)) (fun _ => ?_)
    refine lv_aload_n hx hb dX12_feed_49 rfl (lv_at hl 2 rfl) ?_
    refine g_get S hG 83 2 (show gEof hG 83 = O83 b taped83 faultKind83 faultPlace83 at83 begin83 token83 value83 bad83 long083 wanted83 found83 deepMost83 letterAsked83 letterMany83 turns83 topTerm83 top83 left83 nodes83 sourceLong83 read83 toldSize83 toldRank83 boxSize83 isDealing83 dealKind83 dealLow83 dealMany83 dealLeft83 dealRound83 dealX83 from ((upE_n (by omega)).trans ((upE_n (by omega)).trans ((upE_n (by omega)).trans ((upE_n (by omega)).trans ((upE_n (by omega)).trans ((upE_n (by omega)).trans ((upE_n (by omega)).trans ((upE_n (by omega)).trans ((upE_n (by omega)).trans ((upE_n (by omega)).trans ((upE_n (by omega)).trans ((upE_n (by omega)).trans ((upE_n (by omega)).trans ((upE_n (by omega)).trans ((upE_n (by omega)).trans ((upE_n (by omega)).trans ((upE_n (by omega)).trans ((upE_n (by omega)).trans ((upE_n (by omega)).trans ((upE_n (by omega)).trans ((upE_n (by omega)).trans ((upE_n (by omega)).trans ((upE_n (by omega)).trans ((upE_n (by omega)).trans h83))))))))))))))))))))))))) cpX12 wm_1676 dX12_feed_50 rfl (by omega) (by decide) ?_
    refine lv_aload_n hx hb dX12_feed_53 rfl (lv_at hl 2 rfl) ?_
    refine g_get S hG 83 3 (show gEof hG 83 = O83 b taped83 faultKind83 faultPlace83 at83 begin83 token83 value83 bad83 long083 wanted83 found83 deepMost83 letterAsked83 letterMany83 turns83 topTerm83 top83 left83 nodes83 sourceLong83 read83 toldSize83 toldRank83 boxSize83 isDealing83 dealKind83 dealLow83 dealMany83 dealLeft83 dealRound83 dealX83 from ((upE_n (by omega)).trans ((upE_n (by omega)).trans ((upE_n (by omega)).trans ((upE_n (by omega)).trans ((upE_n (by omega)).trans ((upE_n (by omega)).trans ((upE_n (by omega)).trans ((upE_n (by omega)).trans ((upE_n (by omega)).trans ((upE_n (by omega)).trans ((upE_n (by omega)).trans ((upE_n (by omega)).trans ((upE_n (by omega)).trans ((upE_n (by omega)).trans ((upE_n (by omega)).trans ((upE_n (by omega)).trans ((upE_n (by omega)).trans ((upE_n (by omega)).trans ((upE_n (by omega)).trans ((upE_n (by omega)).trans ((upE_n (by omega)).trans ((upE_n (by omega)).trans ((upE_n (by omega)).trans ((upE_n (by omega)).trans h83))))))))))))))))))))))))) cpX12 wm_1677 dX12_feed_54 rfl (by omega) (by decide) ?_
    refine lv_iload hx hb dX12_feed_57 (lv_at hl 0 rfl) ?_
    refine gi_add hx hb dX12_feed_59 ?_
    refine lv_aload hx hb dX12_feed_60 (lv_at hl 1 rfl) ?_
    refine lv_iload hx hb dX12_feed_62 (lv_at hl 0 rfl) ?_
    refine lv_iconst (v := iI 4) hx hb dX12_feed_64 (by decide) ?_
    refine gi_div hx hb dX12_feed_65 (by omega) (by omega) ?_
    refine gi_as 4 (congrArg iI (by decide)) ?_
    refine gi_ald S hG n (show gEof hG n = cI cy 5 (upZ (upZ (upZ (upZ (upZ (fun _ => 0) (Int.toNat 0) a1) (Int.toNat 1) a2) (Int.toNat 2) a3) (Int.toNat 3) a4) (Int.toNat 4) a5) from ((upE_n (by omega)).trans ((upE_n (by omega)).trans ((upE_n (by omega)).trans ((upE_n (by omega)).trans ((upE_n (by omega)).trans ((upE_n (by omega)).trans ((upE_n (by omega)).trans ((upE_n (by omega)).trans ((upE_n (by omega)).trans ((upE_n (by omega)).trans ((upE_n (by omega)).trans ((upE_n (by omega)).trans ((upE_n (by omega)).trans ((upE_n (by omega)).trans ((upE_n (by omega)).trans ((upE_n (by omega)).trans ((upE_n (by omega)).trans ((upE_n (by omega)).trans upE_s))))))))))))))))))) (by omega) dX12_feed_66 (by omega) (by decide) ?_
    refine gi_as a5 (congrArg iI (by rfl)) ?_
    refine lv_bipush (v := iI 24) hx hb dX12_feed_67 (by decide) ?_
    refine lv_bipush (v := iI 8) hx hb dX12_feed_69 (by decide) ?_
    refine lv_iload hx hb dX12_feed_71 (lv_at hl 0 rfl) ?_
    refine lv_iconst (v := iI 4) hx hb dX12_feed_73 (by decide) ?_
    refine gi_rem hx hb dX12_feed_74 (by omega) (by omega) ?_
    refine gi_as 2 (congrArg iI (by decide)) ?_
    refine gi_mul hx hb dX12_feed_75 ?_
    refine gi_as 16 (congrArg iI (by decide)) ?_
    refine gi_sub hx hb dX12_feed_76 ?_
    refine gi_as 8 (congrArg iI (by decide)) ?_
    refine gi_ushr hx hb dX12_feed_77 ?_
    refine gi_nm (fun x_57 ex_57 => ?_)
    have bx_57 := ush_b a5 8; rw [← ex_57] at bx_57
    refine lv_sipush (v := iI 255) hx hb dX12_feed_78 (by decide) ?_
    refine gi_and hx hb dX12_feed_81 ?_
    refine gi_nm (fun x_58 ex_58 => ?_)
    have bx_58 := an_b x_57 255; rw [← ex_58] at bx_58
    refine gi_ast S hG 86 (show gEof hG 86 = cI cy 400 (upZ (upZ (upZ (upZ (upZ (upZ (upZ (upZ (upZ (upZ (upZ (upZ (upZ (upZ (upZ (upZ (upZ (upZ tm (Int.toNat (taped83 + 0)) x_4) (Int.toNat (taped83 + 1)) x_7) (Int.toNat (taped83 + 2)) x_10) (Int.toNat (taped83 + 3)) x_13) (Int.toNat (taped83 + 4)) x_16) (Int.toNat (taped83 + 5)) x_19) (Int.toNat (taped83 + 6)) x_22) (Int.toNat (taped83 + 7)) x_25) (Int.toNat (taped83 + 8)) x_28) (Int.toNat (taped83 + 9)) x_31) (Int.toNat (taped83 + 10)) x_34) (Int.toNat (taped83 + 11)) x_37) (Int.toNat (taped83 + 12)) x_40) (Int.toNat (taped83 + 13)) x_43) (Int.toNat (taped83 + 14)) x_46) (Int.toNat (taped83 + 15)) x_49) (Int.toNat (taped83 + 16)) x_52) (Int.toNat (taped83 + 17)) x_55) from upE_s) (by omega) dX12_feed_82 (by omega) (by decide) (fun H locs hG => ?_)
    refine lv_iinc (v := iI 19) (lv' := [(7, .int (iI 19)), (6, .ref (b + n)), (0, .ref (b + 83)), (1, .int (iI a1)), (2, .int (iI a2)), (3, .int (iI a3)), (4, .int (iI a4)), (5, .int (iI a5))]) hx hb dX12_feed_83 hl (k := 0) rfl ((iI_add 18 (1)).trans (congrArg iI (by omega))) (by decide) rfl (fun ls hl => ?_)
    refine lv_goto (tgt := 42) hx hb dX12_feed_86 (by decide) ?_
    refine lv_iload hx hb dX12_feed_42 (lv_at hl 0 rfl) ?_
    refine lv_bipush (v := iI 20) hx hb dX12_feed_44 (by decide) ?_
    refine gi_icmp_ge (tgt := 89) hx hb dX12_feed_46 (by decide) (by omega) (by omega) (fun c_59 => absurd c_59 (by decide)) (fun _ => ?_)
    refine lv_aload_n hx hb dX12_feed_49 rfl (lv_at hl 2 rfl) ?_
    refine g_get S hG 83 2 (show gEof hG 83 = O83 b taped83 faultKind83 faultPlace83 at83 begin83 token83 value83 bad83 long083 wanted83 found83 deepMost83 letterAsked83 letterMany83 turns83 topTerm83 top83 left83 nodes83 sourceLong83 read83 toldSize83 toldRank83 boxSize83 isDealing83 dealKind83 dealLow83 dealMany83 dealLeft83 dealRound83 dealX83 from ((upE_n (by omega)).trans ((upE_n (by omega)).trans ((upE_n (by omega)).trans ((upE_n (by omega)).trans ((upE_n (by omega)).trans ((upE_n (by omega)).trans ((upE_n (by omega)).trans ((upE_n (by omega)).trans ((upE_n (by omega)).trans ((upE_n (by omega)).trans ((upE_n (by omega)).trans ((upE_n (by omega)).trans ((upE_n (by omega)).trans ((upE_n (by omega)).trans ((upE_n (by omega)).trans ((upE_n (by omega)).trans ((upE_n (by omega)).trans ((upE_n (by omega)).trans ((upE_n (by omega)).trans ((upE_n (by omega)).trans ((upE_n (by omega)).trans ((upE_n (by omega)).trans ((upE_n (by omega)).trans ((upE_n (by omega)).trans ((upE_n (by omega)).trans h83)))))))))))))))))))))))))) cpX12 wm_1676 dX12_feed_50 rfl (by omega) (by decide) ?_
    refine lv_aload_n hx hb dX12_feed_53 rfl (lv_at hl 2 rfl) ?_
    refine g_get S hG 83 3 (show gEof hG 83 = O83 b taped83 faultKind83 faultPlace83 at83 begin83 token83 value83 bad83 long083 wanted83 found83 deepMost83 letterAsked83 letterMany83 turns83 topTerm83 top83 left83 nodes83 sourceLong83 read83 toldSize83 toldRank83 boxSize83 isDealing83 dealKind83 dealLow83 dealMany83 dealLeft83 dealRound83 dealX83 from ((upE_n (by omega)).trans ((upE_n (by omega)).trans ((upE_n (by omega)).trans ((upE_n (by omega)).trans ((upE_n (by omega)).trans ((upE_n (by omega)).trans ((upE_n (by omega)).trans ((upE_n (by omega)).trans ((upE_n (by omega)).trans ((upE_n (by omega)).trans ((upE_n (by omega)).trans ((upE_n (by omega)).trans ((upE_n (by omega)).trans ((upE_n (by omega)).trans ((upE_n (by omega)).trans ((upE_n (by omega)).trans ((upE_n (by omega)).trans ((upE_n (by omega)).trans ((upE_n (by omega)).trans ((upE_n (by omega)).trans ((upE_n (by omega)).trans ((upE_n (by omega)).trans ((upE_n (by omega)).trans ((upE_n (by omega)).trans ((upE_n (by omega)).trans h83)))))))))))))))))))))))))) cpX12 wm_1677 dX12_feed_54 rfl (by omega) (by decide) ?_
    refine lv_iload hx hb dX12_feed_57 (lv_at hl 0 rfl) ?_
    refine gi_add hx hb dX12_feed_59 ?_
    refine lv_aload hx hb dX12_feed_60 (lv_at hl 1 rfl) ?_
    refine lv_iload hx hb dX12_feed_62 (lv_at hl 0 rfl) ?_
    refine lv_iconst (v := iI 4) hx hb dX12_feed_64 (by decide) ?_
    refine gi_div hx hb dX12_feed_65 (by omega) (by omega) ?_
    refine gi_as 4 (congrArg iI (by decide)) ?_
    refine gi_ald S hG n (show gEof hG n = cI cy 5 (upZ (upZ (upZ (upZ (upZ (fun _ => 0) (Int.toNat 0) a1) (Int.toNat 1) a2) (Int.toNat 2) a3) (Int.toNat 3) a4) (Int.toNat 4) a5) from ((upE_n (by omega)).trans ((upE_n (by omega)).trans ((upE_n (by omega)).trans ((upE_n (by omega)).trans ((upE_n (by omega)).trans ((upE_n (by omega)).trans ((upE_n (by omega)).trans ((upE_n (by omega)).trans ((upE_n (by omega)).trans ((upE_n (by omega)).trans ((upE_n (by omega)).trans ((upE_n (by omega)).trans ((upE_n (by omega)).trans ((upE_n (by omega)).trans ((upE_n (by omega)).trans ((upE_n (by omega)).trans ((upE_n (by omega)).trans ((upE_n (by omega)).trans ((upE_n (by omega)).trans upE_s)))))))))))))))))))) (by omega) dX12_feed_66 (by omega) (by decide) ?_
    refine gi_as a5 (congrArg iI (by rfl)) ?_
    refine lv_bipush (v := iI 24) hx hb dX12_feed_67 (by decide) ?_
    refine lv_bipush (v := iI 8) hx hb dX12_feed_69 (by decide) ?_
    refine lv_iload hx hb dX12_feed_71 (lv_at hl 0 rfl) ?_
    refine lv_iconst (v := iI 4) hx hb dX12_feed_73 (by decide) ?_
    refine gi_rem hx hb dX12_feed_74 (by omega) (by omega) ?_
    refine gi_as 3 (congrArg iI (by decide)) ?_
    refine gi_mul hx hb dX12_feed_75 ?_
    refine gi_as 24 (congrArg iI (by decide)) ?_
    refine gi_sub hx hb dX12_feed_76 ?_
    refine gi_as 0 (congrArg iI (by decide)) ?_
    refine gi_ushr hx hb dX12_feed_77 ?_
    refine gi_nm (fun x_60 ex_60 => ?_)
    have bx_60 := ush_b a5 0; rw [← ex_60] at bx_60
    refine lv_sipush (v := iI 255) hx hb dX12_feed_78 (by decide) ?_
    refine gi_and hx hb dX12_feed_81 ?_
    refine gi_nm (fun x_61 ex_61 => ?_)
    have bx_61 := an_b x_60 255; rw [← ex_61] at bx_61
    refine gi_ast S hG 86 (show gEof hG 86 = cI cy 400 (upZ (upZ (upZ (upZ (upZ (upZ (upZ (upZ (upZ (upZ (upZ (upZ (upZ (upZ (upZ (upZ (upZ (upZ (upZ tm (Int.toNat (taped83 + 0)) x_4) (Int.toNat (taped83 + 1)) x_7) (Int.toNat (taped83 + 2)) x_10) (Int.toNat (taped83 + 3)) x_13) (Int.toNat (taped83 + 4)) x_16) (Int.toNat (taped83 + 5)) x_19) (Int.toNat (taped83 + 6)) x_22) (Int.toNat (taped83 + 7)) x_25) (Int.toNat (taped83 + 8)) x_28) (Int.toNat (taped83 + 9)) x_31) (Int.toNat (taped83 + 10)) x_34) (Int.toNat (taped83 + 11)) x_37) (Int.toNat (taped83 + 12)) x_40) (Int.toNat (taped83 + 13)) x_43) (Int.toNat (taped83 + 14)) x_46) (Int.toNat (taped83 + 15)) x_49) (Int.toNat (taped83 + 16)) x_52) (Int.toNat (taped83 + 17)) x_55) (Int.toNat (taped83 + 18)) x_58) from upE_s) (by omega) dX12_feed_82 (by omega) (by decide) (fun H locs hG => ?_)
    refine lv_iinc (v := iI 20) (lv' := [(7, .int (iI 20)), (6, .ref (b + n)), (0, .ref (b + 83)), (1, .int (iI a1)), (2, .int (iI a2)), (3, .int (iI a3)), (4, .int (iI a4)), (5, .int (iI a5))]) hx hb dX12_feed_83 hl (k := 0) rfl ((iI_add 19 (1)).trans (congrArg iI (by omega))) (by decide) rfl (fun ls hl => ?_)
    refine lv_goto (tgt := 42) hx hb dX12_feed_86 (by decide) ?_
    refine lv_iload hx hb dX12_feed_42 (lv_at hl 0 rfl) ?_
    refine lv_bipush (v := iI 20) hx hb dX12_feed_44 (by decide) ?_
    refine gi_icmp_ge (tgt := 89) hx hb dX12_feed_46 (by decide) (by omega) (by omega) (fun _ => ?_) (fun c_62 => absurd c_62 (by decide))
    refine lv_aload_n hx hb dX12_feed_89 rfl (lv_at hl 2 rfl) ?_
    refine lv_dup hx hb dX12_feed_90 rfl ?_
    refine g_get S hG 83 3 (show gEof hG 83 = O83 b taped83 faultKind83 faultPlace83 at83 begin83 token83 value83 bad83 long083 wanted83 found83 deepMost83 letterAsked83 letterMany83 turns83 topTerm83 top83 left83 nodes83 sourceLong83 read83 toldSize83 toldRank83 boxSize83 isDealing83 dealKind83 dealLow83 dealMany83 dealLeft83 dealRound83 dealX83 from ((upE_n (by omega)).trans ((upE_n (by omega)).trans ((upE_n (by omega)).trans ((upE_n (by omega)).trans ((upE_n (by omega)).trans ((upE_n (by omega)).trans ((upE_n (by omega)).trans ((upE_n (by omega)).trans ((upE_n (by omega)).trans ((upE_n (by omega)).trans ((upE_n (by omega)).trans ((upE_n (by omega)).trans ((upE_n (by omega)).trans ((upE_n (by omega)).trans ((upE_n (by omega)).trans ((upE_n (by omega)).trans ((upE_n (by omega)).trans ((upE_n (by omega)).trans ((upE_n (by omega)).trans ((upE_n (by omega)).trans ((upE_n (by omega)).trans ((upE_n (by omega)).trans ((upE_n (by omega)).trans ((upE_n (by omega)).trans ((upE_n (by omega)).trans ((upE_n (by omega)).trans h83))))))))))))))))))))))))))) cpX12 wm_1677 dX12_feed_91 rfl (by omega) (by decide) ?_
    refine lv_bipush (v := iI 20) hx hb dX12_feed_94 (by decide) ?_
    refine gi_add hx hb dX12_feed_96 ?_
    refine gi_nm (fun x_63 ex_63 => ?_)
    refine g_put (fs' := [.ref (b + 84), .ref (b + 85), .ref (b + 86), .int (iI x_63), .int (iI faultKind83), .int (iI faultPlace83), .int (iI at83), .int (iI begin83), .int (iI token83), .int (iI value83), .int (iI bad83), .ref (b + 87), .ref (b + 88), .ref (b + 89), .ref (b + 90), .ref (b + 91), .ref (b + 92), .ref (b + 93), .ref (b + 94), .ref (b + 95), .int (iI long083), .int (iI wanted83), .int (iI found83), .int (iI deepMost83), .int (iI letterAsked83), .int (iI letterMany83), .int (iI turns83), .int (iI topTerm83), .ref (b + 96), .ref (b + 97), .ref (b + 98), .int (iI top83), .long (jJ left83), .ref (b + 99), .ref (b + 100), .ref (b + 101), .ref (b + 102), .ref (b + 103), .int (iI nodes83), .ref (b + 104), .int (iI sourceLong83), .int (iI read83), .int (iI toldSize83), .int (iI toldRank83), .int (iI boxSize83), .int (iI isDealing83), .int (iI dealKind83), .int (iI dealLow83), .int (iI dealMany83), .int (iI dealLeft83), .int (iI dealRound83), .int (iI dealX83)]) S hG 83 3 (show gEof hG 83 = O83 b taped83 faultKind83 faultPlace83 at83 begin83 token83 value83 bad83 long083 wanted83 found83 deepMost83 letterAsked83 letterMany83 turns83 topTerm83 top83 left83 nodes83 sourceLong83 read83 toldSize83 toldRank83 boxSize83 isDealing83 dealKind83 dealLow83 dealMany83 dealLeft83 dealRound83 dealX83 from ((upE_n (by omega)).trans ((upE_n (by omega)).trans ((upE_n (by omega)).trans ((upE_n (by omega)).trans ((upE_n (by omega)).trans ((upE_n (by omega)).trans ((upE_n (by omega)).trans ((upE_n (by omega)).trans ((upE_n (by omega)).trans ((upE_n (by omega)).trans ((upE_n (by omega)).trans ((upE_n (by omega)).trans ((upE_n (by omega)).trans ((upE_n (by omega)).trans ((upE_n (by omega)).trans ((upE_n (by omega)).trans ((upE_n (by omega)).trans ((upE_n (by omega)).trans ((upE_n (by omega)).trans ((upE_n (by omega)).trans ((upE_n (by omega)).trans ((upE_n (by omega)).trans ((upE_n (by omega)).trans ((upE_n (by omega)).trans ((upE_n (by omega)).trans ((upE_n (by omega)).trans h83))))))))))))))))))))))))))) cpX12 wm_1677 dX12_feed_97 rfl (by omega) (by decide) (Nat.le_of_ble_eq_true rfl) rfl rfl rfl (fun H locs hG => ?_)
    refine lv_aload_n hx hb dX12_feed_100 rfl (lv_at hl 2 rfl) ?_
    refine g_get S hG 83 3 (show gEof hG 83 = O83 b x_63 faultKind83 faultPlace83 at83 begin83 token83 value83 bad83 long083 wanted83 found83 deepMost83 letterAsked83 letterMany83 turns83 topTerm83 top83 left83 nodes83 sourceLong83 read83 toldSize83 toldRank83 boxSize83 isDealing83 dealKind83 dealLow83 dealMany83 dealLeft83 dealRound83 dealX83 from upE_s) cpX12 wm_1677 dX12_feed_101 rfl (by omega) (by decide) ?_
    exact g_iret S hr hlk hG (by omega) dX12_feed_104 ⟨Nat.le_of_ble_eq_true rfl, Nat.le_of_ble_eq_true rfl⟩ ⟨congrArg iI (by subst_vars; first | rfl | omega | ((repeat' split) <;> omega)), (by first | rfl | (rw [if_pos (by omega)]) | (rw [if_neg (by omega)])), fun j hjn hj83 hj86 => (upE_n (by omega)).trans ((upE_n (by omega)).trans ((upE_n (by omega)).trans ((upE_n (by omega)).trans ((upE_n (by omega)).trans ((upE_n (by omega)).trans ((upE_n (by omega)).trans ((upE_n (by omega)).trans ((upE_n (by omega)).trans ((upE_n (by omega)).trans ((upE_n (by omega)).trans ((upE_n (by omega)).trans ((upE_n (by omega)).trans ((upE_n (by omega)).trans ((upE_n (by omega)).trans ((upE_n (by omega)).trans ((upE_n (by omega)).trans ((upE_n (by omega)).trans ((upE_n (by omega)).trans ((upE_n (by omega)).trans ((upE_n (by omega)).trans ((upE_n (by omega)).trans ((upE_n (by omega)).trans ((upE_n (by omega)).trans ((upE_n (by omega)).trans ((upE_n (by omega)).trans ((upE_n (by omega)).trans (rfl))))))))))))))))))))))))))), ((show gEof hG 83 = O83 b x_63 faultKind83 faultPlace83 at83 begin83 token83 value83 bad83 long083 wanted83 found83 deepMost83 letterAsked83 letterMany83 turns83 topTerm83 top83 left83 nodes83 sourceLong83 read83 toldSize83 toldRank83 boxSize83 isDealing83 dealKind83 dealLow83 dealMany83 dealLeft83 dealRound83 dealX83 from upE_s)).trans (congrArg (fun zz : Int => O83 b zz faultKind83 faultPlace83 at83 begin83 token83 value83 bad83 long083 wanted83 found83 deepMost83 letterAsked83 letterMany83 turns83 topTerm83 top83 left83 nodes83 sourceLong83 read83 toldSize83 toldRank83 boxSize83 isDealing83 dealKind83 dealLow83 dealMany83 dealLeft83 dealRound83 dealX83) (show x_63 = (if taped83 ≤ 380 then taped83 + 20 else taped83) by first | rfl | omega | ((repeat' split) <;> omega))), ⟨_, (show gEof hG 86 = cI cy 400 (upZ (upZ (upZ (upZ (upZ (upZ (upZ (upZ (upZ (upZ (upZ (upZ (upZ (upZ (upZ (upZ (upZ (upZ (upZ (upZ tm (Int.toNat (taped83 + 0)) x_4) (Int.toNat (taped83 + 1)) x_7) (Int.toNat (taped83 + 2)) x_10) (Int.toNat (taped83 + 3)) x_13) (Int.toNat (taped83 + 4)) x_16) (Int.toNat (taped83 + 5)) x_19) (Int.toNat (taped83 + 6)) x_22) (Int.toNat (taped83 + 7)) x_25) (Int.toNat (taped83 + 8)) x_28) (Int.toNat (taped83 + 9)) x_31) (Int.toNat (taped83 + 10)) x_34) (Int.toNat (taped83 + 11)) x_37) (Int.toNat (taped83 + 12)) x_40) (Int.toNat (taped83 + 13)) x_43) (Int.toNat (taped83 + 14)) x_46) (Int.toNat (taped83 + 15)) x_49) (Int.toNat (taped83 + 16)) x_52) (Int.toNat (taped83 + 17)) x_55) (Int.toNat (taped83 + 18)) x_58) (Int.toNat (taped83 + 19)) x_61) from ((upE_n (by omega)).trans upE_s)), (by first | (rw [if_pos (by omega)]; unfold rf20; subst_vars; rfl) | (rw [if_neg (by omega)]))⟩⟩
  · refine lv_iconst (v := iI (-1)) hx hb dX12_feed_10 (by decide) ?_
    exact g_iret S hr hlk hG (by omega) dX12_feed_11 ⟨Nat.le_of_ble_eq_true rfl, Nat.le_of_ble_eq_true rfl⟩ ⟨congrArg iI (by subst_vars; first | rfl | omega | ((repeat' split) <;> omega)), (by first | rfl | (rw [if_pos (by omega)]) | (rw [if_neg (by omega)])), fun j hjn hj83 hj86 => rfl, ((show gEof hG 83 = O83 b taped83 faultKind83 faultPlace83 at83 begin83 token83 value83 bad83 long083 wanted83 found83 deepMost83 letterAsked83 letterMany83 turns83 topTerm83 top83 left83 nodes83 sourceLong83 read83 toldSize83 toldRank83 boxSize83 isDealing83 dealKind83 dealLow83 dealMany83 dealLeft83 dealRound83 dealX83 from h83)).trans (congrArg (fun zz : Int => O83 b zz faultKind83 faultPlace83 at83 begin83 token83 value83 bad83 long083 wanted83 found83 deepMost83 letterAsked83 letterMany83 turns83 topTerm83 top83 left83 nodes83 sourceLong83 read83 toldSize83 toldRank83 boxSize83 isDealing83 dealKind83 dealLow83 dealMany83 dealLeft83 dealRound83 dealX83) (show taped83 = (if taped83 ≤ 380 then taped83 + 20 else taped83) by first | rfl | omega | ((repeat' split) <;> omega))), ⟨_, (show gEof hG 86 = cI cy 400 tm from h86), (by first | (rw [if_pos (by omega)]; unfold rf20; subst_vars; rfl) | (rw [if_neg (by omega)]))⟩⟩
theorem wS_12_97 : gWS "GrownKindsModel" 97 yX12_in cX12_in 6 (some .boolean) := ⟨wm_1839, wm_1840, wm_187, wm_1841, by decide +kernel, by decide +kernel⟩
set_option maxHeartbeats 4000000 in
set_option maxRecDepth 100000 in
theorem wX12_end (l : Launch) {D : va_G} {cy : Nat → ClassId} {b n : Nat} (hn : 105 ≤ n) {E : Nat → va_E}  {taped83 faultKind83 faultPlace83 at83 begin83 token83 value83 bad83 long083 wanted83 found83 deepMost83 letterAsked83 letterMany83 turns83 topTerm83 top83 left83 nodes83 sourceLong83 read83 toldSize83 toldRank83 boxSize83 isDealing83 dealKind83 dealLow83 dealMany83 dealLeft83 dealRound83 dealX83 : Int} (h83 : E 83 = O83 b taped83 faultKind83 faultPlace83 at83 begin83 token83 value83 bad83 long083 wanted83 found83 deepMost83 letterAsked83 letterMany83 turns83 topTerm83 top83 left83 nodes83 sourceLong83 read83 toldSize83 toldRank83 boxSize83 isDealing83 dealKind83 dealLow83 dealMany83 dealLeft83 dealRound83 dealX83) (a1 : Int) (htg : 0 ≤ taped83 ∧ taped83 ≤ 400) (hb1 : (-2147483648 ≤ a1 ∧ a1 ≤ 2147483647)) : gI l yX12_end cX12_end 2 (some .int) 1 0 0 D cy b n E [.ref (b + 83), .int (iI a1)] (fun r u => r = iI (if 0 ≤ a1 ∧ a1 ≤ taped83 then a1 else -1) ∧ u.1 = n ∧ (∀ j, j ≠ 83 → u.2 j = E j) ∧ u.2 83 = O83 b (if 0 ≤ a1 ∧ a1 ≤ taped83 then a1 else taped83) faultKind83 faultPlace83 at83 begin83 token83 value83 bad83 long083 wanted83 found83 deepMost83 letterAsked83 letterMany83 turns83 topTerm83 top83 left83 nodes83 sourceLong83 read83 toldSize83 toldRank83 boxSize83 isDealing83 dealKind83 dealLow83 dealMany83 dealLeft83 dealRound83 dealX83) := by
  refine gI_of (by decide) (Nat.le_of_ble_eq_true rfl) ?_
  intro p e s m args below meth c S hr hlk hin hsz ls hl hG
  have hx := S.1
  have hb := S.2.1
  have hl : lv_has ls 2 [(0, .ref (b + 83)), (1, .int (iI a1))] := hl
  refine lv_iload_n hx hb dX12_end_0 rfl (lv_at hl 1 rfl) ?_
  refine gi_i2l hx hb dX12_end_1 (by omega) ?_
  refine lv_lconst (v := jJ 0) hx hb dX12_end_2 (by decide) ?_
  refine lv_aload_n hx hb dX12_end_3 rfl (lv_at hl 0 rfl) ?_
  refine g_get S hG 83 3 (show gEof hG 83 = O83 b taped83 faultKind83 faultPlace83 at83 begin83 token83 value83 bad83 long083 wanted83 found83 deepMost83 letterAsked83 letterMany83 turns83 topTerm83 top83 left83 nodes83 sourceLong83 read83 toldSize83 toldRank83 boxSize83 isDealing83 dealKind83 dealLow83 dealMany83 dealLeft83 dealRound83 dealX83 from h83) cpX12 wm_1677 dX12_end_4 rfl (by omega) (by decide) ?_
  refine gi_i2l hx hb dX12_end_7 (by omega) ?_
  refine g_si (As := [.long (jJ a1), .long (jJ 0), .long (jJ taped83)]) (rest := []) S hG (by omega) (wX12_in l hn  a1 0 taped83  (by omega) (by omega) (by omega)) wS_12_97 dX12_end_8 rfl hl.1 (ar := 3) (by decide +kernel) rfl ⟨Nat.le_of_ble_eq_true rfl, Nat.le_of_ble_eq_true rfl, Nat.le_of_ble_eq_true rfl, Nat.le_of_ble_eq_true rfl⟩ (Nat.le_of_ble_eq_true rfl) (fun r_1 u_2 H locs hp_3 hG => ?_)
  obtain ⟨nu_2, Eu_2⟩ := u_2
  dsimp only at hp_3 hG
  obtain ⟨rfl, en_4, ee_5⟩ := hp_3
  have hG := gW_eq2 hG en_4 ee_5
  refine gi_nm (fun x_6 ex_6 => ?_)
  refine gi_if_ne (tgt := 16) hx hb dX12_end_11 (by decide) (by omega) (fun c_7 => ?_) (fun c_7 => ?_)
  · refine lv_aload_n hx hb dX12_end_16 rfl (lv_at hl 0 rfl) ?_
    refine lv_iload_n hx hb dX12_end_17 rfl (lv_at hl 1 rfl) ?_
    refine g_put (fs' := [.ref (b + 84), .ref (b + 85), .ref (b + 86), .int (iI a1), .int (iI faultKind83), .int (iI faultPlace83), .int (iI at83), .int (iI begin83), .int (iI token83), .int (iI value83), .int (iI bad83), .ref (b + 87), .ref (b + 88), .ref (b + 89), .ref (b + 90), .ref (b + 91), .ref (b + 92), .ref (b + 93), .ref (b + 94), .ref (b + 95), .int (iI long083), .int (iI wanted83), .int (iI found83), .int (iI deepMost83), .int (iI letterAsked83), .int (iI letterMany83), .int (iI turns83), .int (iI topTerm83), .ref (b + 96), .ref (b + 97), .ref (b + 98), .int (iI top83), .long (jJ left83), .ref (b + 99), .ref (b + 100), .ref (b + 101), .ref (b + 102), .ref (b + 103), .int (iI nodes83), .ref (b + 104), .int (iI sourceLong83), .int (iI read83), .int (iI toldSize83), .int (iI toldRank83), .int (iI boxSize83), .int (iI isDealing83), .int (iI dealKind83), .int (iI dealLow83), .int (iI dealMany83), .int (iI dealLeft83), .int (iI dealRound83), .int (iI dealX83)]) S hG 83 3 (show gEof hG 83 = O83 b taped83 faultKind83 faultPlace83 at83 begin83 token83 value83 bad83 long083 wanted83 found83 deepMost83 letterAsked83 letterMany83 turns83 topTerm83 top83 left83 nodes83 sourceLong83 read83 toldSize83 toldRank83 boxSize83 isDealing83 dealKind83 dealLow83 dealMany83 dealLeft83 dealRound83 dealX83 from h83) cpX12 wm_1677 dX12_end_18 rfl (by omega) (by decide) (Nat.le_of_ble_eq_true rfl) rfl rfl rfl (fun H locs hG => ?_)
    refine lv_iload_n hx hb dX12_end_21 rfl (lv_at hl 1 rfl) ?_
    exact g_iret S hr hlk hG (by omega) dX12_end_22 ⟨Nat.le_of_ble_eq_true rfl, Nat.le_of_ble_eq_true rfl⟩ ⟨congrArg iI (by subst_vars; first | rfl | omega | ((repeat' split) <;> omega)), rfl, fun j hj83 => (upE_n (by omega)).trans (rfl), ((show gEof hG 83 = O83 b a1 faultKind83 faultPlace83 at83 begin83 token83 value83 bad83 long083 wanted83 found83 deepMost83 letterAsked83 letterMany83 turns83 topTerm83 top83 left83 nodes83 sourceLong83 read83 toldSize83 toldRank83 boxSize83 isDealing83 dealKind83 dealLow83 dealMany83 dealLeft83 dealRound83 dealX83 from upE_s)).trans (congrArg (fun zz : Int => O83 b zz faultKind83 faultPlace83 at83 begin83 token83 value83 bad83 long083 wanted83 found83 deepMost83 letterAsked83 letterMany83 turns83 topTerm83 top83 left83 nodes83 sourceLong83 read83 toldSize83 toldRank83 boxSize83 isDealing83 dealKind83 dealLow83 dealMany83 dealLeft83 dealRound83 dealX83) (show a1 = (if 0 ≤ a1 ∧ a1 ≤ taped83 then a1 else taped83) by first | rfl | omega | ((repeat' split) <;> omega)))⟩
  · refine lv_iconst (v := iI (-1)) hx hb dX12_end_14 (by decide) ?_
    exact g_iret S hr hlk hG (by omega) dX12_end_15 ⟨Nat.le_of_ble_eq_true rfl, Nat.le_of_ble_eq_true rfl⟩ ⟨congrArg iI (by subst_vars; first | rfl | omega | ((repeat' split) <;> omega)), rfl, fun j hj83 => rfl, ((show gEof hG 83 = O83 b taped83 faultKind83 faultPlace83 at83 begin83 token83 value83 bad83 long083 wanted83 found83 deepMost83 letterAsked83 letterMany83 turns83 topTerm83 top83 left83 nodes83 sourceLong83 read83 toldSize83 toldRank83 boxSize83 isDealing83 dealKind83 dealLow83 dealMany83 dealLeft83 dealRound83 dealX83 from h83)).trans (congrArg (fun zz : Int => O83 b zz faultKind83 faultPlace83 at83 begin83 token83 value83 bad83 long083 wanted83 found83 deepMost83 letterAsked83 letterMany83 turns83 topTerm83 top83 left83 nodes83 sourceLong83 read83 toldSize83 toldRank83 boxSize83 isDealing83 dealKind83 dealLow83 dealMany83 dealLeft83 dealRound83 dealX83) (show taped83 = (if 0 ≤ a1 ∧ a1 ≤ taped83 then a1 else taped83) by first | rfl | omega | ((repeat' split) <;> omega)))⟩
