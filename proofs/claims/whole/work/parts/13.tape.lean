theorem dX11_putFour_0 : decode cX11_putFour 0 = .ok (.bipush 24, 2) := by decide +kernel
theorem dX11_putFour_2 : decode cX11_putFour 2 = .ok (.istore_n 2, 1) := by decide +kernel
theorem dX11_putFour_3 : decode cX11_putFour 3 = .ok (.iload_n 2, 1) := by decide +kernel
theorem dX11_putFour_4 : decode cX11_putFour 4 = .ok (.ifCond .lt 42, 3) := by decide +kernel
theorem dX11_putFour_7 : decode cX11_putFour 7 = .ok (.aload_n 0, 1) := by decide +kernel
theorem dX11_putFour_8 : decode cX11_putFour 8 = .ok (.getfield 13, 3) := by decide +kernel
theorem dX11_putFour_11 : decode cX11_putFour 11 = .ok (.sipush 400, 3) := by decide +kernel
theorem dX11_putFour_14 : decode cX11_putFour 14 = .ok (.if_icmp .ge 32, 3) := by decide +kernel
theorem dX11_putFour_17 : decode cX11_putFour 17 = .ok (.aload_n 0, 1) := by decide +kernel
theorem dX11_putFour_18 : decode cX11_putFour 18 = .ok (.getfield 9, 3) := by decide +kernel
theorem dX11_putFour_21 : decode cX11_putFour 21 = .ok (.aload_n 0, 1) := by decide +kernel
theorem dX11_putFour_22 : decode cX11_putFour 22 = .ok (.getfield 13, 3) := by decide +kernel
theorem dX11_putFour_25 : decode cX11_putFour 25 = .ok (.iload_n 1, 1) := by decide +kernel
theorem dX11_putFour_26 : decode cX11_putFour 26 = .ok (.iload_n 2, 1) := by decide +kernel
theorem dX11_putFour_27 : decode cX11_putFour 27 = .ok (.iushr, 1) := by decide +kernel
theorem dX11_putFour_28 : decode cX11_putFour 28 = .ok (.i2b, 1) := by decide +kernel
theorem dX11_putFour_29 : decode cX11_putFour 29 = .ok (.bastore, 1) := by decide +kernel
theorem dX11_putFour_30 : decode cX11_putFour 30 = .ok (.aload_n 0, 1) := by decide +kernel
theorem dX11_putFour_31 : decode cX11_putFour 31 = .ok (.dup, 1) := by decide +kernel
theorem dX11_putFour_32 : decode cX11_putFour 32 = .ok (.getfield 13, 3) := by decide +kernel
theorem dX11_putFour_35 : decode cX11_putFour 35 = .ok (.iconst 1, 1) := by decide +kernel
theorem dX11_putFour_36 : decode cX11_putFour 36 = .ok (.iadd, 1) := by decide +kernel
theorem dX11_putFour_37 : decode cX11_putFour 37 = .ok (.putfield 13, 3) := by decide +kernel
theorem dX11_putFour_40 : decode cX11_putFour 40 = .ok (.iinc 2 (-8), 3) := by decide +kernel
theorem dX11_putFour_43 : decode cX11_putFour 43 = .ok (.goto (-40), 3) := by decide +kernel
theorem dX11_putFour_46 : decode cX11_putFour 46 = .ok (.return_, 1) := by decide +kernel
set_option maxHeartbeats 4000000 in
set_option maxRecDepth 100000 in
theorem wX11_putFour (l : Launch) {D : va_G} {cy : Nat → ClassId} {b n : Nat} (hn : 105 ≤ n) {E : Nat → va_E}  {tapeSize0 faultNumber0 faultPlace0 actCount0 stamp0 toldSize0 toldRank0 : Int} {tp : Nat → Int} (h0 : E 0 = O0 b tapeSize0 faultNumber0 faultPlace0 actCount0 stamp0 toldSize0 toldRank0) (h1 : E 1 = cB cy 400 tp) (a1 : Int) (hts : 0 ≤ tapeSize0 ∧ tapeSize0 ≤ 396) (hb1 : (-2147483648 ≤ a1 ∧ a1 ≤ 2147483647)) : gV l yX11_putFour cX11_putFour 3 0 0 0 D cy b n E [.ref (b + 0), .int (iI a1)] (fun u => u.1 = n ∧ (∀ j, j ≠ 0 → j ≠ 1 → u.2 j = E j) ∧ u.2 0 = O0 b (tapeSize0 + 4) faultNumber0 faultPlace0 actCount0 stamp0 toldSize0 toldRank0 ∧ (∃ g : Nat → Int, u.2 1 = cB cy 400 g ∧ g = (upZ (upZ (upZ (upZ tp (tapeSize0 + 0).toNat (s8 (ush a1 24))) (tapeSize0 + 1).toNat (s8 (ush a1 16))) (tapeSize0 + 2).toNat (s8 (ush a1 8))) (tapeSize0 + 3).toNat (s8 (ush a1 0))))) := by
  refine gV_of (by decide) (Nat.le_of_ble_eq_true rfl) ?_
  intro p e s m args below meth c S hr hlk hin hsz ls hl hG
  have hx := S.1
  have hb := S.2.1
  have hl : lv_has ls 3 [(0, .ref (b + 0)), (1, .int (iI a1))] := hl
  refine lv_bipush (v := iI 24) hx hb dX11_putFour_0 (by decide) ?_
  refine lv_istore_n (lv' := [(2, .int (iI 24)), (0, .ref (b + 0)), (1, .int (iI a1))]) hx hb dX11_putFour_2 rfl hl (by decide) rfl (fun ls hl => ?_)
  refine lv_iload_n hx hb dX11_putFour_3 rfl (lv_at hl 0 rfl) ?_
  refine gi_if_lt (tgt := 46) hx hb dX11_putFour_4 (by decide) (by omega) (fun c_1 => absurd c_1 (by decide)) (fun _ => ?_)
  refine lv_aload_n hx hb dX11_putFour_7 rfl (lv_at hl 1 rfl) ?_
  refine g_get S hG 0 1 (show gEof hG 0 = O0 b tapeSize0 faultNumber0 faultPlace0 actCount0 stamp0 toldSize0 toldRank0 from h0) cpX11 wm_667 dX11_putFour_8 rfl (by omega) (by decide) ?_
  refine lv_sipush (v := iI 400) hx hb dX11_putFour_11 (by decide) ?_
  refine gi_icmp_ge (tgt := 46) hx hb dX11_putFour_14 (by decide) (by omega) (by omega) (fun c_2 => (show False by omega).elim) (fun c_2 => ?_)
  refine lv_aload_n hx hb dX11_putFour_17 rfl (lv_at hl 1 rfl) ?_
  refine g_get S hG 0 0 (show gEof hG 0 = O0 b tapeSize0 faultNumber0 faultPlace0 actCount0 stamp0 toldSize0 toldRank0 from h0) cpX11 wm_666 dX11_putFour_18 rfl (by omega) (by decide) ?_
  refine lv_aload_n hx hb dX11_putFour_21 rfl (lv_at hl 1 rfl) ?_
  refine g_get S hG 0 1 (show gEof hG 0 = O0 b tapeSize0 faultNumber0 faultPlace0 actCount0 stamp0 toldSize0 toldRank0 from h0) cpX11 wm_667 dX11_putFour_22 rfl (by omega) (by decide) ?_
  refine lv_iload_n hx hb dX11_putFour_25 rfl (lv_at hl 2 rfl) ?_
  refine lv_iload_n hx hb dX11_putFour_26 rfl (lv_at hl 0 rfl) ?_
  refine gi_ushr hx hb dX11_putFour_27 ?_
  refine gi_nm (fun x_3 ex_3 => ?_)
  have bx_3 := ush_b a1 24; rw [← ex_3] at bx_3
  refine gi_i2b hx hb dX11_putFour_28 ?_
  refine gb_ast S hG 1 (show gEof hG 1 = cB cy 400 tp from h1) (by omega) dX11_putFour_29 (by omega) (by decide) (s8_n _) (fun H locs hG => ?_)
  refine lv_aload_n hx hb dX11_putFour_30 rfl (lv_at hl 1 rfl) ?_
  refine lv_dup hx hb dX11_putFour_31 rfl ?_
  refine g_get S hG 0 1 (show gEof hG 0 = O0 b tapeSize0 faultNumber0 faultPlace0 actCount0 stamp0 toldSize0 toldRank0 from ((upE_n (by omega)).trans h0)) cpX11 wm_667 dX11_putFour_32 rfl (by omega) (by decide) ?_
  refine lv_iconst (v := iI 1) hx hb dX11_putFour_35 (by decide) ?_
  refine gi_add hx hb dX11_putFour_36 ?_
  refine gi_nm (fun x_4 ex_4 => ?_)
  refine g_put (fs' := [.ref (b + 1), .int (iI x_4), .ref (b + 2), .ref (b + 12), .int (iI faultNumber0), .int (iI faultPlace0), .ref (b + 33), .ref (b + 40), .ref (b + 47), .ref (b + 60), .ref (b + 67), .ref (b + 73), .ref (b + 80), .ref (b + 81), .ref (b + 82), .int (iI actCount0), .int (iI stamp0), .int (iI toldSize0), .int (iI toldRank0)]) S hG 0 1 (show gEof hG 0 = O0 b tapeSize0 faultNumber0 faultPlace0 actCount0 stamp0 toldSize0 toldRank0 from ((upE_n (by omega)).trans h0)) cpX11 wm_667 dX11_putFour_37 rfl (by omega) (by decide) (Nat.le_of_ble_eq_true rfl) rfl rfl rfl (fun H locs hG => ?_)
  refine lv_iinc (v := iI 16) (lv' := [(2, .int (iI 16)), (0, .ref (b + 0)), (1, .int (iI a1))]) hx hb dX11_putFour_40 hl (k := 0) rfl ((iI_add 24 (-8)).trans (congrArg iI (by omega))) (by decide) rfl (fun ls hl => ?_)
  refine lv_goto (tgt := 3) hx hb dX11_putFour_43 (by decide) ?_
  refine lv_iload_n hx hb dX11_putFour_3 rfl (lv_at hl 0 rfl) ?_
  refine gi_if_lt (tgt := 46) hx hb dX11_putFour_4 (by decide) (by omega) (fun c_5 => absurd c_5 (by decide)) (fun _ => ?_)
  refine lv_aload_n hx hb dX11_putFour_7 rfl (lv_at hl 1 rfl) ?_
  refine g_get S hG 0 1 (show gEof hG 0 = O0 b x_4 faultNumber0 faultPlace0 actCount0 stamp0 toldSize0 toldRank0 from upE_s) cpX11 wm_667 dX11_putFour_8 rfl (by omega) (by decide) ?_
  refine lv_sipush (v := iI 400) hx hb dX11_putFour_11 (by decide) ?_
  refine gi_icmp_ge (tgt := 46) hx hb dX11_putFour_14 (by decide) (by omega) (by omega) (fun c_6 => (show False by omega).elim) (fun c_6 => ?_)
  refine lv_aload_n hx hb dX11_putFour_17 rfl (lv_at hl 1 rfl) ?_
  refine g_get S hG 0 0 (show gEof hG 0 = O0 b x_4 faultNumber0 faultPlace0 actCount0 stamp0 toldSize0 toldRank0 from upE_s) cpX11 wm_666 dX11_putFour_18 rfl (by omega) (by decide) ?_
  refine lv_aload_n hx hb dX11_putFour_21 rfl (lv_at hl 1 rfl) ?_
  refine g_get S hG 0 1 (show gEof hG 0 = O0 b x_4 faultNumber0 faultPlace0 actCount0 stamp0 toldSize0 toldRank0 from upE_s) cpX11 wm_667 dX11_putFour_22 rfl (by omega) (by decide) ?_
  refine lv_iload_n hx hb dX11_putFour_25 rfl (lv_at hl 2 rfl) ?_
  refine lv_iload_n hx hb dX11_putFour_26 rfl (lv_at hl 0 rfl) ?_
  refine gi_ushr hx hb dX11_putFour_27 ?_
  refine gi_nm (fun x_7 ex_7 => ?_)
  have bx_7 := ush_b a1 16; rw [← ex_7] at bx_7
  refine gi_i2b hx hb dX11_putFour_28 ?_
  refine gb_ast S hG 1 (show gEof hG 1 = cB cy 400 (upZ tp (tapeSize0).toNat (s8 x_3)) from ((upE_n (by omega)).trans upE_s)) (by omega) dX11_putFour_29 (by omega) (by decide) (s8_n _) (fun H locs hG => ?_)
  refine lv_aload_n hx hb dX11_putFour_30 rfl (lv_at hl 1 rfl) ?_
  refine lv_dup hx hb dX11_putFour_31 rfl ?_
  refine g_get S hG 0 1 (show gEof hG 0 = O0 b x_4 faultNumber0 faultPlace0 actCount0 stamp0 toldSize0 toldRank0 from ((upE_n (by omega)).trans upE_s)) cpX11 wm_667 dX11_putFour_32 rfl (by omega) (by decide) ?_
  refine lv_iconst (v := iI 1) hx hb dX11_putFour_35 (by decide) ?_
  refine gi_add hx hb dX11_putFour_36 ?_
  refine gi_nm (fun x_8 ex_8 => ?_)
  refine g_put (fs' := [.ref (b + 1), .int (iI x_8), .ref (b + 2), .ref (b + 12), .int (iI faultNumber0), .int (iI faultPlace0), .ref (b + 33), .ref (b + 40), .ref (b + 47), .ref (b + 60), .ref (b + 67), .ref (b + 73), .ref (b + 80), .ref (b + 81), .ref (b + 82), .int (iI actCount0), .int (iI stamp0), .int (iI toldSize0), .int (iI toldRank0)]) S hG 0 1 (show gEof hG 0 = O0 b x_4 faultNumber0 faultPlace0 actCount0 stamp0 toldSize0 toldRank0 from ((upE_n (by omega)).trans upE_s)) cpX11 wm_667 dX11_putFour_37 rfl (by omega) (by decide) (Nat.le_of_ble_eq_true rfl) rfl rfl rfl (fun H locs hG => ?_)
  refine lv_iinc (v := iI 8) (lv' := [(2, .int (iI 8)), (0, .ref (b + 0)), (1, .int (iI a1))]) hx hb dX11_putFour_40 hl (k := 0) rfl ((iI_add 16 (-8)).trans (congrArg iI (by omega))) (by decide) rfl (fun ls hl => ?_)
  refine lv_goto (tgt := 3) hx hb dX11_putFour_43 (by decide) ?_
  refine lv_iload_n hx hb dX11_putFour_3 rfl (lv_at hl 0 rfl) ?_
  refine gi_if_lt (tgt := 46) hx hb dX11_putFour_4 (by decide) (by omega) (fun c_9 => absurd c_9 (by decide)) (fun _ => ?_)
  refine lv_aload_n hx hb dX11_putFour_7 rfl (lv_at hl 1 rfl) ?_
  refine g_get S hG 0 1 (show gEof hG 0 = O0 b x_8 faultNumber0 faultPlace0 actCount0 stamp0 toldSize0 toldRank0 from upE_s) cpX11 wm_667 dX11_putFour_8 rfl (by omega) (by decide) ?_
  refine lv_sipush (v := iI 400) hx hb dX11_putFour_11 (by decide) ?_
  refine gi_icmp_ge (tgt := 46) hx hb dX11_putFour_14 (by decide) (by omega) (by omega) (fun c_10 => (show False by omega).elim) (fun c_10 => ?_)
  refine lv_aload_n hx hb dX11_putFour_17 rfl (lv_at hl 1 rfl) ?_
  refine g_get S hG 0 0 (show gEof hG 0 = O0 b x_8 faultNumber0 faultPlace0 actCount0 stamp0 toldSize0 toldRank0 from upE_s) cpX11 wm_666 dX11_putFour_18 rfl (by omega) (by decide) ?_
  refine lv_aload_n hx hb dX11_putFour_21 rfl (lv_at hl 1 rfl) ?_
  refine g_get S hG 0 1 (show gEof hG 0 = O0 b x_8 faultNumber0 faultPlace0 actCount0 stamp0 toldSize0 toldRank0 from upE_s) cpX11 wm_667 dX11_putFour_22 rfl (by omega) (by decide) ?_
  refine lv_iload_n hx hb dX11_putFour_25 rfl (lv_at hl 2 rfl) ?_
  refine lv_iload_n hx hb dX11_putFour_26 rfl (lv_at hl 0 rfl) ?_
  refine gi_ushr hx hb dX11_putFour_27 ?_
  refine gi_nm (fun x_11 ex_11 => ?_)
  have bx_11 := ush_b a1 8; rw [← ex_11] at bx_11
  refine gi_i2b hx hb dX11_putFour_28 ?_
  refine gb_ast S hG 1 (show gEof hG 1 = cB cy 400 (upZ (upZ tp (tapeSize0).toNat (s8 x_3)) (x_4).toNat (s8 x_7)) from ((upE_n (by omega)).trans upE_s)) (by omega) dX11_putFour_29 (by omega) (by decide) (s8_n _) (fun H locs hG => ?_)
  refine lv_aload_n hx hb dX11_putFour_30 rfl (lv_at hl 1 rfl) ?_
  refine lv_dup hx hb dX11_putFour_31 rfl ?_
  refine g_get S hG 0 1 (show gEof hG 0 = O0 b x_8 faultNumber0 faultPlace0 actCount0 stamp0 toldSize0 toldRank0 from ((upE_n (by omega)).trans upE_s)) cpX11 wm_667 dX11_putFour_32 rfl (by omega) (by decide) ?_
  refine lv_iconst (v := iI 1) hx hb dX11_putFour_35 (by decide) ?_
  refine gi_add hx hb dX11_putFour_36 ?_
  refine gi_nm (fun x_12 ex_12 => ?_)
  refine g_put (fs' := [.ref (b + 1), .int (iI x_12), .ref (b + 2), .ref (b + 12), .int (iI faultNumber0), .int (iI faultPlace0), .ref (b + 33), .ref (b + 40), .ref (b + 47), .ref (b + 60), .ref (b + 67), .ref (b + 73), .ref (b + 80), .ref (b + 81), .ref (b + 82), .int (iI actCount0), .int (iI stamp0), .int (iI toldSize0), .int (iI toldRank0)]) S hG 0 1 (show gEof hG 0 = O0 b x_8 faultNumber0 faultPlace0 actCount0 stamp0 toldSize0 toldRank0 from ((upE_n (by omega)).trans upE_s)) cpX11 wm_667 dX11_putFour_37 rfl (by omega) (by decide) (Nat.le_of_ble_eq_true rfl) rfl rfl rfl (fun H locs hG => ?_)
  refine lv_iinc (v := iI 0) (lv' := [(2, .int (iI 0)), (0, .ref (b + 0)), (1, .int (iI a1))]) hx hb dX11_putFour_40 hl (k := 0) rfl ((iI_add 8 (-8)).trans (congrArg iI (by omega))) (by decide) rfl (fun ls hl => ?_)
  refine lv_goto (tgt := 3) hx hb dX11_putFour_43 (by decide) ?_
  refine lv_iload_n hx hb dX11_putFour_3 rfl (lv_at hl 0 rfl) ?_
  refine gi_if_lt (tgt := 46) hx hb dX11_putFour_4 (by decide) (by omega) (fun c_13 => absurd c_13 (by decide)) (fun _ => ?_)
  refine lv_aload_n hx hb dX11_putFour_7 rfl (lv_at hl 1 rfl) ?_
  refine g_get S hG 0 1 (show gEof hG 0 = O0 b x_12 faultNumber0 faultPlace0 actCount0 stamp0 toldSize0 toldRank0 from upE_s) cpX11 wm_667 dX11_putFour_8 rfl (by omega) (by decide) ?_
  refine lv_sipush (v := iI 400) hx hb dX11_putFour_11 (by decide) ?_
  refine gi_icmp_ge (tgt := 46) hx hb dX11_putFour_14 (by decide) (by omega) (by omega) (fun c_14 => (show False by omega).elim) (fun c_14 => ?_)
  refine lv_aload_n hx hb dX11_putFour_17 rfl (lv_at hl 1 rfl) ?_
  refine g_get S hG 0 0 (show gEof hG 0 = O0 b x_12 faultNumber0 faultPlace0 actCount0 stamp0 toldSize0 toldRank0 from upE_s) cpX11 wm_666 dX11_putFour_18 rfl (by omega) (by decide) ?_
  refine lv_aload_n hx hb dX11_putFour_21 rfl (lv_at hl 1 rfl) ?_
  refine g_get S hG 0 1 (show gEof hG 0 = O0 b x_12 faultNumber0 faultPlace0 actCount0 stamp0 toldSize0 toldRank0 from upE_s) cpX11 wm_667 dX11_putFour_22 rfl (by omega) (by decide) ?_
  refine lv_iload_n hx hb dX11_putFour_25 rfl (lv_at hl 2 rfl) ?_
  refine lv_iload_n hx hb dX11_putFour_26 rfl (lv_at hl 0 rfl) ?_
  refine gi_ushr hx hb dX11_putFour_27 ?_
  refine gi_nm (fun x_15 ex_15 => ?_)
  have bx_15 := ush_b a1 0; rw [← ex_15] at bx_15
  refine gi_i2b hx hb dX11_putFour_28 ?_
  refine gb_ast S hG 1 (show gEof hG 1 = cB cy 400 (upZ (upZ (upZ tp (tapeSize0).toNat (s8 x_3)) (x_4).toNat (s8 x_7)) (x_8).toNat (s8 x_11)) from ((upE_n (by omega)).trans upE_s)) (by omega) dX11_putFour_29 (by omega) (by decide) (s8_n _) (fun H locs hG => ?_)
  refine lv_aload_n hx hb dX11_putFour_30 rfl (lv_at hl 1 rfl) ?_
  refine lv_dup hx hb dX11_putFour_31 rfl ?_
  refine g_get S hG 0 1 (show gEof hG 0 = O0 b x_12 faultNumber0 faultPlace0 actCount0 stamp0 toldSize0 toldRank0 from ((upE_n (by omega)).trans upE_s)) cpX11 wm_667 dX11_putFour_32 rfl (by omega) (by decide) ?_
  refine lv_iconst (v := iI 1) hx hb dX11_putFour_35 (by decide) ?_
  refine gi_add hx hb dX11_putFour_36 ?_
  refine gi_nm (fun x_16 ex_16 => ?_)
  refine g_put (fs' := [.ref (b + 1), .int (iI x_16), .ref (b + 2), .ref (b + 12), .int (iI faultNumber0), .int (iI faultPlace0), .ref (b + 33), .ref (b + 40), .ref (b + 47), .ref (b + 60), .ref (b + 67), .ref (b + 73), .ref (b + 80), .ref (b + 81), .ref (b + 82), .int (iI actCount0), .int (iI stamp0), .int (iI toldSize0), .int (iI toldRank0)]) S hG 0 1 (show gEof hG 0 = O0 b x_12 faultNumber0 faultPlace0 actCount0 stamp0 toldSize0 toldRank0 from ((upE_n (by omega)).trans upE_s)) cpX11 wm_667 dX11_putFour_37 rfl (by omega) (by decide) (Nat.le_of_ble_eq_true rfl) rfl rfl rfl (fun H locs hG => ?_)
  refine lv_iinc (v := iI (-8)) (lv' := [(2, .int (iI (-8))), (0, .ref (b + 0)), (1, .int (iI a1))]) hx hb dX11_putFour_40 hl (k := 0) rfl ((iI_add 0 (-8)).trans (congrArg iI (by omega))) (by decide) rfl (fun ls hl => ?_)
  refine lv_goto (tgt := 3) hx hb dX11_putFour_43 (by decide) ?_
  refine lv_iload_n hx hb dX11_putFour_3 rfl (lv_at hl 0 rfl) ?_
  refine gi_if_lt (tgt := 46) hx hb dX11_putFour_4 (by decide) (by omega) (fun _ => ?_) (fun c_17 => absurd c_17 (by decide))
  exact g_vret S hr hlk hG (by omega) dX11_putFour_46 ⟨Nat.le_of_ble_eq_true rfl, Nat.le_of_ble_eq_true rfl⟩ ⟨rfl, fun j hj0 hj1 => (upE_n (by omega)).trans ((upE_n (by omega)).trans ((upE_n (by omega)).trans ((upE_n (by omega)).trans ((upE_n (by omega)).trans ((upE_n (by omega)).trans ((upE_n (by omega)).trans ((upE_n (by omega)).trans (rfl)))))))), ((show gEof hG 0 = O0 b x_16 faultNumber0 faultPlace0 actCount0 stamp0 toldSize0 toldRank0 from upE_s)).trans (congrArg (fun zz : Int => O0 b zz faultNumber0 faultPlace0 actCount0 stamp0 toldSize0 toldRank0) (show x_16 = (tapeSize0 + 4) by first | rfl | omega | ((repeat' split) <;> omega))), ⟨_, (show gEof hG 1 = cB cy 400 (upZ (upZ (upZ (upZ tp (tapeSize0).toNat (s8 x_3)) (x_4).toNat (s8 x_7)) (x_8).toNat (s8 x_11)) (x_12).toNat (s8 x_15)) from ((upE_n (by omega)).trans upE_s)), (by subst_vars; simp only [Int.add_zero, Int.add_assoc]; rfl)⟩⟩
