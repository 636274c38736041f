theorem dX11_fault_0 : decode cX11_fault 0 = .ok (.iload_n 1, 1) := by decide +kernel
theorem dX11_fault_1 : decode cX11_fault 1 = .ok (.ifCond .ne 8, 3) := by decide +kernel
theorem dX11_fault_9 : decode cX11_fault 9 = .ok (.iload_n 1, 1) := by decide +kernel
theorem dX11_fault_10 : decode cX11_fault 10 = .ok (.iconst 1, 1) := by decide +kernel
theorem dX11_fault_11 : decode cX11_fault 11 = .ok (.if_icmp .ne 10, 3) := by decide +kernel
theorem dX11_fault_21 : decode cX11_fault 21 = .ok (.iconst (-1), 1) := by decide +kernel
theorem dX11_fault_22 : decode cX11_fault 22 = .ok (.ireturn, 1) := by decide +kernel
theorem dX11_fault_14 : decode cX11_fault 14 = .ok (.aload_n 0, 1) := by decide +kernel
theorem dX11_fault_15 : decode cX11_fault 15 = .ok (.getfield 36, 3) := by decide +kernel
theorem dX11_fault_18 : decode cX11_fault 18 = .ok (.goto 4, 3) := by decide +kernel
theorem dX11_fault_4 : decode cX11_fault 4 = .ok (.aload_n 0, 1) := by decide +kernel
theorem dX11_fault_5 : decode cX11_fault 5 = .ok (.getfield 33, 3) := by decide +kernel
theorem dX11_fault_8 : decode cX11_fault 8 = .ok (.ireturn, 1) := by decide +kernel
theorem dX12_fault_0 : decode cX12_fault 0 = .ok (.iload_n 1, 1) := by decide +kernel
theorem dX12_fault_1 : decode cX12_fault 1 = .ok (.ifCond .ne 10, 3) := by decide +kernel
theorem dX12_fault_11 : decode cX12_fault 11 = .ok (.iload_n 1, 1) := by decide +kernel
theorem dX12_fault_12 : decode cX12_fault 12 = .ok (.iconst 1, 1) := by decide +kernel
theorem dX12_fault_13 : decode cX12_fault 13 = .ok (.if_icmp .ne 10, 3) := by decide +kernel
theorem dX12_fault_23 : decode cX12_fault 23 = .ok (.iconst (-1), 1) := by decide +kernel
theorem dX12_fault_24 : decode cX12_fault 24 = .ok (.ireturn, 1) := by decide +kernel
theorem dX12_fault_16 : decode cX12_fault 16 = .ok (.aload_n 0, 1) := by decide +kernel
theorem dX12_fault_17 : decode cX12_fault 17 = .ok (.getfield 25, 3) := by decide +kernel
theorem dX12_fault_20 : decode cX12_fault 20 = .ok (.goto 4, 3) := by decide +kernel
theorem dX12_fault_4 : decode cX12_fault 4 = .ok (.aload_n 0, 1) := by decide +kernel
theorem dX12_fault_5 : decode cX12_fault 5 = .ok (.getfield 124, 3) := by decide +kernel
theorem wm_1678 : (Jvm.Cond.fieldLink "GrownKindsModel" (124 : Nat) "GrownKindsModel" "faultKind" "I") ∈ gT := gT_in (List.mem_of_getElem? (i := 1678) (by decide +kernel)) (by decide +kernel)
theorem dX12_fault_8 : decode cX12_fault 8 = .ok (.goto 16, 3) := by decide +kernel
theorem dX11_told_0 : decode cX11_told 0 = .ok (.iload_n 1, 1) := by decide +kernel
theorem dX11_told_1 : decode cX11_told 1 = .ok (.ifCond .ne 8, 3) := by decide +kernel
theorem dX11_told_9 : decode cX11_told 9 = .ok (.iload_n 1, 1) := by decide +kernel
theorem dX11_told_10 : decode cX11_told 10 = .ok (.iconst 1, 1) := by decide +kernel
theorem dX11_told_11 : decode cX11_told 11 = .ok (.if_icmp .ne 10, 3) := by decide +kernel
theorem dX11_told_21 : decode cX11_told 21 = .ok (.iconst (-1), 1) := by decide +kernel
theorem dX11_told_22 : decode cX11_told 22 = .ok (.ireturn, 1) := by decide +kernel
theorem dX11_told_14 : decode cX11_told 14 = .ok (.aload_n 0, 1) := by decide +kernel
theorem dX11_told_15 : decode cX11_told 15 = .ok (.getfield 117, 3) := by decide +kernel
theorem dX11_told_18 : decode cX11_told 18 = .ok (.goto 4, 3) := by decide +kernel
theorem dX11_told_4 : decode cX11_told 4 = .ok (.aload_n 0, 1) := by decide +kernel
theorem dX11_told_5 : decode cX11_told 5 = .ok (.getfield 114, 3) := by decide +kernel
theorem dX11_told_8 : decode cX11_told 8 = .ok (.ireturn, 1) := by decide +kernel
theorem dX12_told_0 : decode cX12_told 0 = .ok (.iload_n 1, 1) := by decide +kernel
theorem dX12_told_1 : decode cX12_told 1 = .ok (.ifCond .ne 10, 3) := by decide +kernel
theorem dX12_told_11 : decode cX12_told 11 = .ok (.iload_n 1, 1) := by decide +kernel
theorem dX12_told_12 : decode cX12_told 12 = .ok (.iconst 1, 1) := by decide +kernel
theorem dX12_told_13 : decode cX12_told 13 = .ok (.if_icmp .ne 10, 3) := by decide +kernel
theorem dX12_told_23 : decode cX12_told 23 = .ok (.iconst (-1), 1) := by decide +kernel
theorem dX12_told_24 : decode cX12_told 24 = .ok (.ireturn, 1) := by decide +kernel
theorem dX12_told_16 : decode cX12_told 16 = .ok (.aload_n 0, 1) := by decide +kernel
theorem dX12_told_17 : decode cX12_told 17 = .ok (.getfield 88, 3) := by decide +kernel
theorem dX12_told_20 : decode cX12_told 20 = .ok (.goto 4, 3) := by decide +kernel
theorem dX12_told_4 : decode cX12_told 4 = .ok (.aload_n 0, 1) := by decide +kernel
theorem dX12_told_5 : decode cX12_told 5 = .ok (.getfield 85, 3) := by decide +kernel
theorem dX12_told_8 : decode cX12_told 8 = .ok (.goto 16, 3) := by decide +kernel
theorem dX11_count_0 : decode cX11_count 0 = .ok (.iload_n 1, 1) := by decide +kernel
theorem dX11_count_1 : decode cX11_count 1 = .ok (.tableswitch 81 0 5 #[39, 47, 55, 63, 71, 76], 39) := by decide +kernel
theorem dX11_count_82 : decode cX11_count 82 = .ok (.iconst (-1), 1) := by decide +kernel
theorem dX11_count_83 : decode cX11_count 83 = .ok (.ireturn, 1) := by decide +kernel
theorem dX11_count_40 : decode cX11_count 40 = .ok (.aload_n 0, 1) := by decide +kernel
theorem dX11_count_41 : decode cX11_count 41 = .ok (.getfield 20, 3) := by decide +kernel
theorem dX11_count_44 : decode cX11_count 44 = .ok (.getfield 156, 3) := by decide +kernel
theorem dX11_count_47 : decode cX11_count 47 = .ok (.ireturn, 1) := by decide +kernel
theorem dX11_count_48 : decode cX11_count 48 = .ok (.aload_n 0, 1) := by decide +kernel
theorem dX11_count_49 : decode cX11_count 49 = .ok (.getfield 20, 3) := by decide +kernel
theorem dX11_count_52 : decode cX11_count 52 = .ok (.getfield 159, 3) := by decide +kernel
theorem wm_214 : (Jvm.Cond.fieldLink "GrownKinds" (159 : Nat) "GrownKinds$Grammar" "most" "I") ∈ gT := gT_in (List.mem_of_getElem? (i := 214) (by decide +kernel)) (by decide +kernel)
theorem dX11_count_55 : decode cX11_count 55 = .ok (.ireturn, 1) := by decide +kernel
theorem dX11_count_56 : decode cX11_count 56 = .ok (.aload_n 0, 1) := by decide +kernel
theorem dX11_count_57 : decode cX11_count 57 = .ok (.getfield 20, 3) := by decide +kernel
theorem dX11_count_60 : decode cX11_count 60 = .ok (.getfield 162, 3) := by decide +kernel
theorem wm_228 : (Jvm.Cond.fieldLink "GrownKinds" (162 : Nat) "GrownKinds$Grammar" "parts" "I") ∈ gT := gT_in (List.mem_of_getElem? (i := 228) (by decide +kernel)) (by decide +kernel)
theorem dX11_count_63 : decode cX11_count 63 = .ok (.ireturn, 1) := by decide +kernel
theorem dX11_count_64 : decode cX11_count 64 = .ok (.aload_n 0, 1) := by decide +kernel
theorem dX11_count_65 : decode cX11_count 65 = .ok (.getfield 20, 3) := by decide +kernel
theorem dX11_count_68 : decode cX11_count 68 = .ok (.getfield 165, 3) := by decide +kernel
theorem dX11_count_71 : decode cX11_count 71 = .ok (.ireturn, 1) := by decide +kernel
theorem dX11_count_72 : decode cX11_count 72 = .ok (.aload_n 0, 1) := by decide +kernel
theorem dX11_count_73 : decode cX11_count 73 = .ok (.getfield 108, 3) := by decide +kernel
theorem dX11_count_76 : decode cX11_count 76 = .ok (.ireturn, 1) := by decide +kernel
theorem dX11_count_77 : decode cX11_count 77 = .ok (.aload_n 0, 1) := by decide +kernel
theorem dX11_count_78 : decode cX11_count 78 = .ok (.getfield 13, 3) := by decide +kernel
theorem dX11_count_81 : decode cX11_count 81 = .ok (.ireturn, 1) := by decide +kernel
theorem dX12_count_0 : decode cX12_count 0 = .ok (.iload_n 1, 1) := by decide +kernel
theorem dX12_count_1 : decode cX12_count 1 = .ok (.tableswitch 79 0 5 #[39, 46, 53, 60, 67, 74], 39) := by decide +kernel
theorem dX12_count_80 : decode cX12_count 80 = .ok (.iconst (-1), 1) := by decide +kernel
theorem dX12_count_81 : decode cX12_count 81 = .ok (.ireturn, 1) := by decide +kernel
theorem dX12_count_40 : decode cX12_count 40 = .ok (.aload_n 0, 1) := by decide +kernel
theorem dX12_count_41 : decode cX12_count 41 = .ok (.getfield 15, 3) := by decide +kernel
theorem dX12_count_44 : decode cX12_count 44 = .ok (.iconst 0, 1) := by decide +kernel
theorem dX12_count_45 : decode cX12_count 45 = .ok (.iaload, 1) := by decide +kernel
theorem dX12_count_46 : decode cX12_count 46 = .ok (.ireturn, 1) := by decide +kernel
theorem dX12_count_47 : decode cX12_count 47 = .ok (.aload_n 0, 1) := by decide +kernel
theorem dX12_count_48 : decode cX12_count 48 = .ok (.getfield 15, 3) := by decide +kernel
theorem dX12_count_51 : decode cX12_count 51 = .ok (.iconst 1, 1) := by decide +kernel
theorem dX12_count_52 : decode cX12_count 52 = .ok (.iaload, 1) := by decide +kernel
theorem dX12_count_53 : decode cX12_count 53 = .ok (.ireturn, 1) := by decide +kernel
theorem dX12_count_54 : decode cX12_count 54 = .ok (.aload_n 0, 1) := by decide +kernel
theorem dX12_count_55 : decode cX12_count 55 = .ok (.getfield 15, 3) := by decide +kernel
theorem dX12_count_58 : decode cX12_count 58 = .ok (.iconst 2, 1) := by decide +kernel
theorem dX12_count_59 : decode cX12_count 59 = .ok (.iaload, 1) := by decide +kernel
theorem dX12_count_60 : decode cX12_count 60 = .ok (.ireturn, 1) := by decide +kernel
theorem dX12_count_61 : decode cX12_count 61 = .ok (.aload_n 0, 1) := by decide +kernel
theorem dX12_count_62 : decode cX12_count 62 = .ok (.getfield 15, 3) := by decide +kernel
theorem dX12_count_65 : decode cX12_count 65 = .ok (.iconst 3, 1) := by decide +kernel
theorem dX12_count_66 : decode cX12_count 66 = .ok (.iaload, 1) := by decide +kernel
theorem dX12_count_67 : decode cX12_count 67 = .ok (.ireturn, 1) := by decide +kernel
theorem dX12_count_68 : decode cX12_count 68 = .ok (.aload_n 0, 1) := by decide +kernel
theorem dX12_count_69 : decode cX12_count 69 = .ok (.getfield 15, 3) := by decide +kernel
theorem dX12_count_72 : decode cX12_count 72 = .ok (.iconst 4, 1) := by decide +kernel
theorem dX12_count_73 : decode cX12_count 73 = .ok (.iaload, 1) := by decide +kernel
theorem dX12_count_74 : decode cX12_count 74 = .ok (.ireturn, 1) := by decide +kernel
theorem dX12_count_75 : decode cX12_count 75 = .ok (.aload_n 0, 1) := by decide +kernel
theorem dX12_count_76 : decode cX12_count 76 = .ok (.getfield 94, 3) := by decide +kernel
theorem wm_1677 : (Jvm.Cond.fieldLink "GrownKindsModel" (94 : Nat) "GrownKindsModel" "taped" "I") ∈ gT := gT_in (List.mem_of_getElem? (i := 1677) (by decide +kernel)) (by decide +kernel)
theorem dX12_count_79 : decode cX12_count 79 = .ok (.ireturn, 1) := by decide +kernel
theorem dX11_end_0 : decode cX11_end 0 = .ok (.iload_n 1, 1) := by decide +kernel
theorem dX11_end_1 : decode cX11_end 1 = .ok (.ifCond .lt 11, 3) := by decide +kernel
theorem dX11_end_12 : decode cX11_end 12 = .ok (.iconst (-1), 1) := by decide +kernel
theorem dX11_end_13 : decode cX11_end 13 = .ok (.ireturn, 1) := by decide +kernel
theorem dX11_end_4 : decode cX11_end 4 = .ok (.iload_n 1, 1) := by decide +kernel
theorem dX11_end_5 : decode cX11_end 5 = .ok (.aload_n 0, 1) := by decide +kernel
theorem dX11_end_6 : decode cX11_end 6 = .ok (.getfield 13, 3) := by decide +kernel
theorem dX11_end_9 : decode cX11_end 9 = .ok (.if_icmp .le 5, 3) := by decide +kernel
theorem dX11_end_14 : decode cX11_end 14 = .ok (.aload_n 0, 1) := by decide +kernel
theorem dX11_end_15 : decode cX11_end 15 = .ok (.iload_n 1, 1) := by decide +kernel
theorem dX11_end_16 : decode cX11_end 16 = .ok (.putfield 13, 3) := by decide +kernel
theorem dX11_end_19 : decode cX11_end 19 = .ok (.iload_n 1, 1) := by decide +kernel
theorem dX11_end_20 : decode cX11_end 20 = .ok (.ireturn, 1) := by decide +kernel
theorem dX12_end_0 : decode cX12_end 0 = .ok (.iload_n 1, 1) := by decide +kernel
theorem dX12_end_1 : decode cX12_end 1 = .ok (.i2l, 1) := by decide +kernel
theorem dX12_end_2 : decode cX12_end 2 = .ok (.lconst 0, 1) := by decide +kernel
theorem dX12_end_3 : decode cX12_end 3 = .ok (.aload_n 0, 1) := by decide +kernel
theorem dX12_end_4 : decode cX12_end 4 = .ok (.getfield 94, 3) := by decide +kernel
theorem dX12_end_7 : decode cX12_end 7 = .ok (.i2l, 1) := by decide +kernel
theorem dX12_end_8 : decode cX12_end 8 = .ok (.invokestatic 97, 3) := by decide +kernel
theorem dX12_end_11 : decode cX12_end 11 = .ok (.ifCond .ne 5, 3) := by decide +kernel
theorem dX12_end_16 : decode cX12_end 16 = .ok (.aload_n 0, 1) := by decide +kernel
theorem dX12_end_17 : decode cX12_end 17 = .ok (.iload_n 1, 1) := by decide +kernel
theorem dX12_end_18 : decode cX12_end 18 = .ok (.putfield 94, 3) := by decide +kernel
theorem dX12_end_21 : decode cX12_end 21 = .ok (.iload_n 1, 1) := by decide +kernel
theorem dX12_end_22 : decode cX12_end 22 = .ok (.ireturn, 1) := by decide +kernel
theorem dX12_end_14 : decode cX12_end 14 = .ok (.iconst (-1), 1) := by decide +kernel
theorem dX12_end_15 : decode cX12_end 15 = .ok (.ireturn, 1) := by decide +kernel
set_option maxHeartbeats 4000000 in
set_option maxRecDepth 100000 in
theorem qX11_fault (l : Launch) {D : va_G} {cy : Nat → ClassId} {b n : Nat} (hn : 105 ≤ n) {E : Nat → va_E} (h0 : E 0 = Z0 b cy)  (a1 : Int32) : gI l yX11_fault cX11_fault 2 (some .int) 0 0 0 D cy b n E [.ref (b + 0), .int a1] (fun r u => r = (if a1 = 0 then 0 else -1) ∧ u.1 = n ∧ u.2 = E) := by
  refine gI_of (by decide) (Nat.le_of_ble_eq_true rfl) ?_
  intro p e s m args below meth c S hr hlk hin hsz ls hl hG
  have hx := S.1
  have hb := S.2.1
  have hl : lv_has ls 2 [(0, .ref (b + 0)), (1, .int a1)] := hl
  refine lv_iload_n hx hb dX11_fault_0 rfl (lv_at hl 1 rfl) ?_
  refine lv_if_ne (tgt := 9) hx hb dX11_fault_1 (by decide) (fun c_1 => ?_) (fun c_1 => ?_)
  · refine lv_iload_n hx hb dX11_fault_9 rfl (lv_at hl 1 rfl) ?_
    refine lv_iconst (v := 1) hx hb dX11_fault_10 (by decide) ?_
    refine lv_icmp_ne (tgt := 21) hx hb dX11_fault_11 (by decide) (fun c_2 => ?_) (fun c_2 => ?_)
    · refine lv_iconst (v := (-1)) hx hb dX11_fault_21 (by decide) ?_
      exact g_iret S hr hlk hG (by omega) dX11_fault_22 ⟨Nat.le_of_ble_eq_true rfl, Nat.le_of_ble_eq_true rfl⟩ ⟨by first | rw [if_pos (Decidable.not_not.mp (by assumption))] | rw [if_pos (by assumption)] | rw [if_neg (by assumption)], rfl, rfl⟩
    · refine lv_aload_n hx hb dX11_fault_14 rfl (lv_at hl 0 rfl) ?_
      refine g_get S hG 0 5 h0 cpX11 wm_671 dX11_fault_15 rfl (by omega) (by decide) ?_
      refine lv_goto (tgt := 22) hx hb dX11_fault_18 (by decide) ?_
      exact g_iret S hr hlk hG (by omega) dX11_fault_22 ⟨Nat.le_of_ble_eq_true rfl, Nat.le_of_ble_eq_true rfl⟩ ⟨by first | rw [if_pos (Decidable.not_not.mp (by assumption))] | rw [if_pos (by assumption)] | rw [if_neg (by assumption)], rfl, rfl⟩
  · refine lv_aload_n hx hb dX11_fault_4 rfl (lv_at hl 0 rfl) ?_
    refine g_get S hG 0 4 h0 cpX11 wm_670 dX11_fault_5 rfl (by omega) (by decide) ?_
    exact g_iret S hr hlk hG (by omega) dX11_fault_8 ⟨Nat.le_of_ble_eq_true rfl, Nat.le_of_ble_eq_true rfl⟩ ⟨by first | rw [if_pos (Decidable.not_not.mp (by assumption))] | rw [if_pos (by assumption)] | rw [if_neg (by assumption)], rfl, rfl⟩
set_option maxHeartbeats 4000000 in
set_option maxRecDepth 100000 in
theorem qX12_fault (l : Launch) {D : va_G} {cy : Nat → ClassId} {b n : Nat} (hn : 105 ≤ n) {E : Nat → va_E} (h83 : E 83 = Z83 b cy)  (a1 : Int32) : gI l yX12_fault cX12_fault 2 (some .int) 0 0 0 D cy b n E [.ref (b + 83), .int a1] (fun r u => r = (if a1 = 0 then 0 else -1) ∧ u.1 = n ∧ u.2 = E) := by
  refine gI_of (by decide) (Nat.le_of_ble_eq_true rfl) ?_
  intro p e s m args below meth c S hr hlk hin hsz ls hl hG
  have hx := S.1
  have hb := S.2.1
  have hl : lv_has ls 2 [(0, .ref (b + 83)), (1, .int a1)] := hl
  refine lv_iload_n hx hb dX12_fault_0 rfl (lv_at hl 1 rfl) ?_
  refine lv_if_ne (tgt := 11) hx hb dX12_fault_1 (by decide) (fun c_1 => ?_) (fun c_1 => ?_)
  · refine lv_iload_n hx hb dX12_fault_11 rfl (lv_at hl 1 rfl) ?_
    refine lv_iconst (v := 1) hx hb dX12_fault_12 (by decide) ?_
    refine lv_icmp_ne (tgt := 23) hx hb dX12_fault_13 (by decide) (fun c_2 => ?_) (fun c_2 => ?_)
    · refine lv_iconst (v := (-1)) hx hb dX12_fault_23 (by decide) ?_
      exact g_iret S hr hlk hG (by omega) dX12_fault_24 ⟨Nat.le_of_ble_eq_true rfl, Nat.le_of_ble_eq_true rfl⟩ ⟨by first | rw [if_pos (Decidable.not_not.mp (by assumption))] | rw [if_pos (by assumption)] | rw [if_neg (by assumption)], rfl, rfl⟩
    · refine lv_aload_n hx hb dX12_fault_16 rfl (lv_at hl 0 rfl) ?_
      refine g_get S hG 83 5 h83 cpX12 wm_1679 dX12_fault_17 rfl (by omega) (by decide) ?_
      refine lv_goto (tgt := 24) hx hb dX12_fault_20 (by decide) ?_
      exact g_iret S hr hlk hG (by omega) dX12_fault_24 ⟨Nat.le_of_ble_eq_true rfl, Nat.le_of_ble_eq_true rfl⟩ ⟨by first | rw [if_pos (Decidable.not_not.mp (by assumption))] | rw [if_pos (by assumption)] | rw [if_neg (by assumption)], rfl, rfl⟩
  · refine lv_aload_n hx hb dX12_fault_4 rfl (lv_at hl 0 rfl) ?_
    refine g_get S hG 83 4 h83 cpX12 wm_1678 dX12_fault_5 rfl (by omega) (by decide) ?_
    refine lv_goto (tgt := 24) hx hb dX12_fault_8 (by decide) ?_
    exact g_iret S hr hlk hG (by omega) dX12_fault_24 ⟨Nat.le_of_ble_eq_true rfl, Nat.le_of_ble_eq_true rfl⟩ ⟨by first | rw [if_pos (Decidable.not_not.mp (by assumption))] | rw [if_pos (by assumption)] | rw [if_neg (by assumption)], rfl, rfl⟩
set_option maxHeartbeats 4000000 in
set_option maxRecDepth 100000 in
theorem qX11_told (l : Launch) {D : va_G} {cy : Nat → ClassId} {b n : Nat} (hn : 105 ≤ n) {E : Nat → va_E} (h0 : E 0 = Z0 b cy)  (a1 : Int32) : gI l yX11_told cX11_told 2 (some .int) 0 0 0 D cy b n E [.ref (b + 0), .int a1] (fun r u => r = (-1) ∧ u.1 = n ∧ u.2 = E) := by
  refine gI_of (by decide) (Nat.le_of_ble_eq_true rfl) ?_
  intro p e s m args below meth c S hr hlk hin hsz ls hl hG
  have hx := S.1
  have hb := S.2.1
  have hl : lv_has ls 2 [(0, .ref (b + 0)), (1, .int a1)] := hl
  refine lv_iload_n hx hb dX11_told_0 rfl (lv_at hl 1 rfl) ?_
  refine lv_if_ne (tgt := 9) hx hb dX11_told_1 (by decide) (fun c_1 => ?_) (fun c_1 => ?_)
  · refine lv_iload_n hx hb dX11_told_9 rfl (lv_at hl 1 rfl) ?_
    refine lv_iconst (v := 1) hx hb dX11_told_10 (by decide) ?_
    refine lv_icmp_ne (tgt := 21) hx hb dX11_told_11 (by decide) (fun c_2 => ?_) (fun c_2 => ?_)
    · refine lv_iconst (v := (-1)) hx hb dX11_told_21 (by decide) ?_
      exact g_iret S hr hlk hG (by omega) dX11_told_22 ⟨Nat.le_of_ble_eq_true rfl, Nat.le_of_ble_eq_true rfl⟩ ⟨rfl, rfl, rfl⟩
    · refine lv_aload_n hx hb dX11_told_14 rfl (lv_at hl 0 rfl) ?_
      refine g_get S hG 0 18 h0 cpX11 wm_684 dX11_told_15 rfl (by omega) (by decide) ?_
      refine lv_goto (tgt := 22) hx hb dX11_told_18 (by decide) ?_
      exact g_iret S hr hlk hG (by omega) dX11_told_22 ⟨Nat.le_of_ble_eq_true rfl, Nat.le_of_ble_eq_true rfl⟩ ⟨rfl, rfl, rfl⟩
  · refine lv_aload_n hx hb dX11_told_4 rfl (lv_at hl 0 rfl) ?_
    refine g_get S hG 0 17 h0 cpX11 wm_683 dX11_told_5 rfl (by omega) (by decide) ?_
    exact g_iret S hr hlk hG (by omega) dX11_told_8 ⟨Nat.le_of_ble_eq_true rfl, Nat.le_of_ble_eq_true rfl⟩ ⟨rfl, rfl, rfl⟩
set_option maxHeartbeats 4000000 in
set_option maxRecDepth 100000 in
theorem qX12_told (l : Launch) {D : va_G} {cy : Nat → ClassId} {b n : Nat} (hn : 105 ≤ n) {E : Nat → va_E} (h83 : E 83 = Z83 b cy)  (a1 : Int32) : gI l yX12_told cX12_told 2 (some .int) 0 0 0 D cy b n E [.ref (b + 83), .int a1] (fun r u => r = (-1) ∧ u.1 = n ∧ u.2 = E) := by
  refine gI_of (by decide) (Nat.le_of_ble_eq_true rfl) ?_
  intro p e s m args below meth c S hr hlk hin hsz ls hl hG
  have hx := S.1
  have hb := S.2.1
  have hl : lv_has ls 2 [(0, .ref (b + 83)), (1, .int a1)] := hl
  refine lv_iload_n hx hb dX12_told_0 rfl (lv_at hl 1 rfl) ?_
  refine lv_if_ne (tgt := 11) hx hb dX12_told_1 (by decide) (fun c_1 => ?_) (fun c_1 => ?_)
  · refine lv_iload_n hx hb dX12_told_11 rfl (lv_at hl 1 rfl) ?_
    refine lv_iconst (v := 1) hx hb dX12_told_12 (by decide) ?_
    refine lv_icmp_ne (tgt := 23) hx hb dX12_told_13 (by decide) (fun c_2 => ?_) (fun c_2 => ?_)
    · refine lv_iconst (v := (-1)) hx hb dX12_told_23 (by decide) ?_
      exact g_iret S hr hlk hG (by omega) dX12_told_24 ⟨Nat.le_of_ble_eq_true rfl, Nat.le_of_ble_eq_true rfl⟩ ⟨rfl, rfl, rfl⟩
    · refine lv_aload_n hx hb dX12_told_16 rfl (lv_at hl 0 rfl) ?_
      refine g_get S hG 83 43 h83 cpX12 wm_1717 dX12_told_17 rfl (by omega) (by decide) ?_
      refine lv_goto (tgt := 24) hx hb dX12_told_20 (by decide) ?_
      exact g_iret S hr hlk hG (by omega) dX12_told_24 ⟨Nat.le_of_ble_eq_true rfl, Nat.le_of_ble_eq_true rfl⟩ ⟨rfl, rfl, rfl⟩
  · refine lv_aload_n hx hb dX12_told_4 rfl (lv_at hl 0 rfl) ?_
    refine g_get S hG 83 42 h83 cpX12 wm_1716 dX12_told_5 rfl (by omega) (by decide) ?_
    refine lv_goto (tgt := 24) hx hb dX12_told_8 (by decide) ?_
    exact g_iret S hr hlk hG (by omega) dX12_told_24 ⟨Nat.le_of_ble_eq_true rfl, Nat.le_of_ble_eq_true rfl⟩ ⟨rfl, rfl, rfl⟩
set_option maxHeartbeats 4000000 in
set_option maxRecDepth 100000 in
theorem qX11_count (l : Launch) {D : va_G} {cy : Nat → ClassId} {b n : Nat} (hn : 105 ≤ n) {E : Nat → va_E} (h0 : E 0 = Z0 b cy) (h2 : E 2 = Z2 b cy)  (a1 : Int32) : gI l yX11_count cX11_count 2 (some .int) 0 0 0 D cy b n E [.ref (b + 0), .int a1] (fun r u => r = (if 0 ≤ a1.toInt ∧ a1.toInt ≤ 5 then 0 else -1) ∧ u.1 = n ∧ u.2 = E) := by
  refine gI_of (by decide) (Nat.le_of_ble_eq_true rfl) ?_
  intro p e s m args below meth c S hr hlk hin hsz ls hl hG
  have hx := S.1
  have hb := S.2.1
  have hl : lv_has ls 2 [(0, .ref (b + 0)), (1, .int a1)] := hl
  refine lv_iload_n hx hb dX11_count_0 rfl (lv_at hl 1 rfl) ?_
  rcases (show a1.toInt < 0 ∨ 5 < a1.toInt ∨ a1.toInt = 0 ∨ a1.toInt = 1 ∨ a1.toInt = 2 ∨ a1.toInt = 3 ∨ a1.toInt = 4 ∨ a1.toInt = 5 by omega) with hs_1 | hs_1 | hs_1 | hs_1 | hs_1 | hs_1 | hs_1 | hs_1
  · refine lv_tableOut (tgt := 82) hx hb dX11_count_1 (Or.inl hs_1) (by decide) ?_
    refine lv_iconst (v := (-1)) hx hb dX11_count_82 (by decide) ?_
    exact g_iret S hr hlk hG (by omega) dX11_count_83 ⟨Nat.le_of_ble_eq_true rfl, Nat.le_of_ble_eq_true rfl⟩ ⟨by first | rw [if_pos (by omega)] | rw [if_neg (by omega)], rfl, rfl⟩
  · refine lv_tableOut (tgt := 82) hx hb dX11_count_1 (Or.inr hs_1) (by decide) ?_
    refine lv_iconst (v := (-1)) hx hb dX11_count_82 (by decide) ?_
    exact g_iret S hr hlk hG (by omega) dX11_count_83 ⟨Nat.le_of_ble_eq_true rfl, Nat.le_of_ble_eq_true rfl⟩ ⟨by first | rw [if_pos (by omega)] | rw [if_neg (by omega)], rfl, rfl⟩
  · refine lv_tableIn (off := 39) (tgt := 40) hx hb dX11_count_1 (by omega) (by omega) (by rw [hs_1]; rfl) (by decide) ?_
    refine lv_aload_n hx hb dX11_count_40 rfl (lv_at hl 0 rfl) ?_
    refine g_get S hG 0 2 h0 cpX11 wm_668 dX11_count_41 rfl (by omega) (by decide) ?_
    refine g_get S hG 2 1 h2 cpX2 wm_221 dX11_count_44 rfl (by omega) (by decide) ?_
    exact g_iret S hr hlk hG (by omega) dX11_count_47 ⟨Nat.le_of_ble_eq_true rfl, Nat.le_of_ble_eq_true rfl⟩ ⟨by first | rw [if_pos (by omega)] | rw [if_neg (by omega)], rfl, rfl⟩
  · refine lv_tableIn (off := 47) (tgt := 48) hx hb dX11_count_1 (by omega) (by omega) (by rw [hs_1]; rfl) (by decide) ?_
    refine lv_aload_n hx hb dX11_count_48 rfl (lv_at hl 0 rfl) ?_
    refine g_get S hG 0 2 h0 cpX11 wm_668 dX11_count_49 rfl (by omega) (by decide) ?_
    refine g_get S hG 2 0 h2 cpX2 wm_214 dX11_count_52 rfl (by omega) (by decide) ?_
    exact g_iret S hr hlk hG (by omega) dX11_count_55 ⟨Nat.le_of_ble_eq_true rfl, Nat.le_of_ble_eq_true rfl⟩ ⟨by first | rw [if_pos (by omega)] | rw [if_neg (by omega)], rfl, rfl⟩
  · refine lv_tableIn (off := 55) (tgt := 56) hx hb dX11_count_1 (by omega) (by omega) (by rw [hs_1]; rfl) (by decide) ?_
    refine lv_aload_n hx hb dX11_count_56 rfl (lv_at hl 0 rfl) ?_
    refine g_get S hG 0 2 h0 cpX11 wm_668 dX11_count_57 rfl (by omega) (by decide) ?_
    refine g_get S hG 2 3 h2 cpX2 wm_228 dX11_count_60 rfl (by omega) (by decide) ?_
    exact g_iret S hr hlk hG (by omega) dX11_count_63 ⟨Nat.le_of_ble_eq_true rfl, Nat.le_of_ble_eq_true rfl⟩ ⟨by first | rw [if_pos (by omega)] | rw [if_neg (by omega)], rfl, rfl⟩
  · refine lv_tableIn (off := 63) (tgt := 64) hx hb dX11_count_1 (by omega) (by omega) (by rw [hs_1]; rfl) (by decide) ?_
    refine lv_aload_n hx hb dX11_count_64 rfl (lv_at hl 0 rfl) ?_
    refine g_get S hG 0 2 h0 cpX11 wm_668 dX11_count_65 rfl (by omega) (by decide) ?_
    refine g_get S hG 2 2 h2 cpX2 wm_224 dX11_count_68 rfl (by omega) (by decide) ?_
    exact g_iret S hr hlk hG (by omega) dX11_count_71 ⟨Nat.le_of_ble_eq_true rfl, Nat.le_of_ble_eq_true rfl⟩ ⟨by first | rw [if_pos (by omega)] | rw [if_neg (by omega)], rfl, rfl⟩
  · refine lv_tableIn (off := 71) (tgt := 72) hx hb dX11_count_1 (by omega) (by omega) (by rw [hs_1]; rfl) (by decide) ?_
    refine lv_aload_n hx hb dX11_count_72 rfl (lv_at hl 0 rfl) ?_
    refine g_get S hG 0 15 h0 cpX11 wm_681 dX11_count_73 rfl (by omega) (by decide) ?_
    exact g_iret S hr hlk hG (by omega) dX11_count_76 ⟨Nat.le_of_ble_eq_true rfl, Nat.le_of_ble_eq_true rfl⟩ ⟨by first | rw [if_pos (by omega)] | rw [if_neg (by omega)], rfl, rfl⟩
  · refine lv_tableIn (off := 76) (tgt := 77) hx hb dX11_count_1 (by omega) (by omega) (by rw [hs_1]; rfl) (by decide) ?_
    refine lv_aload_n hx hb dX11_count_77 rfl (lv_at hl 0 rfl) ?_
    refine g_get S hG 0 1 h0 cpX11 wm_667 dX11_count_78 rfl (by omega) (by decide) ?_
    exact g_iret S hr hlk hG (by omega) dX11_count_81 ⟨Nat.le_of_ble_eq_true rfl, Nat.le_of_ble_eq_true rfl⟩ ⟨by first | rw [if_pos (by omega)] | rw [if_neg (by omega)], rfl, rfl⟩
set_option maxHeartbeats 4000000 in
set_option maxRecDepth 100000 in
theorem qX12_count (l : Launch) {D : va_G} {cy : Nat → ClassId} {b n : Nat} (hn : 105 ≤ n) {E : Nat → va_E} (h83 : E 83 = Z83 b cy) (h84 : E 84 = Z84 b cy)  (a1 : Int32) : gI l yX12_count cX12_count 2 (some .int) 0 0 0 D cy b n E [.ref (b + 83), .int a1] (fun r u => r = (if 0 ≤ a1.toInt ∧ a1.toInt ≤ 5 then 0 else -1) ∧ u.1 = n ∧ u.2 = E) := by
  refine gI_of (by decide) (Nat.le_of_ble_eq_true rfl) ?_
  intro p e s m args below meth c S hr hlk hin hsz ls hl hG
  have hx := S.1
  have hb := S.2.1
  have hl : lv_has ls 2 [(0, .ref (b + 83)), (1, .int a1)] := hl
  refine lv_iload_n hx hb dX12_count_0 rfl (lv_at hl 1 rfl) ?_
  rcases (show a1.toInt < 0 ∨ 5 < a1.toInt ∨ a1.toInt = 0 ∨ a1.toInt = 1 ∨ a1.toInt = 2 ∨ a1.toInt = 3 ∨ a1.toInt = 4 ∨ a1.toInt = 5 by omega) with hs_1 | hs_1 | hs_1 | hs_1 | hs_1 | hs_1 | hs_1 | hs_1
  · refine lv_tableOut (tgt := 80) hx hb dX12_count_1 (Or.inl hs_1) (by decide) ?_
    refine lv_iconst (v := (-1)) hx hb dX12_count_80 (by decide) ?_
    exact g_iret S hr hlk hG (by omega) dX12_count_81 ⟨Nat.le_of_ble_eq_true rfl, Nat.le_of_ble_eq_true rfl⟩ ⟨by first | rw [if_pos (by omega)] | rw [if_neg (by omega)], rfl, rfl⟩
  · refine lv_tableOut (tgt := 80) hx hb dX12_count_1 (Or.inr hs_1) (by decide) ?_
    refine lv_iconst (v := (-1)) hx hb dX12_count_80 (by decide) ?_
    exact g_iret S hr hlk hG (by omega) dX12_count_81 ⟨Nat.le_of_ble_eq_true rfl, Nat.le_of_ble_eq_true rfl⟩ ⟨by first | rw [if_pos (by omega)] | rw [if_neg (by omega)], rfl, rfl⟩
  · refine lv_tableIn (off := 39) (tgt := 40) hx hb dX12_count_1 (by omega) (by omega) (by rw [hs_1]; rfl) (by decide) ?_
    refine lv_aload_n hx hb dX12_count_40 rfl (lv_at hl 0 rfl) ?_
    refine g_get S hG 83 0 h83 cpX12 wm_1674 dX12_count_41 rfl (by omega) (by decide) ?_
    refine lv_iconst (v := 0) hx hb dX12_count_44 (by decide) ?_
    refine g_iald S hG 84 h84 (by omega) dX12_count_45 (by unfold vp_in; decide) ?_
    refine lv_topi (fun x_2 ex_2 => ?_)
    obtain rfl : x_2 = 0 := ex_2.trans (by decide)
    exact g_iret S hr hlk hG (by omega) dX12_count_46 ⟨Nat.le_of_ble_eq_true rfl, Nat.le_of_ble_eq_true rfl⟩ ⟨by first | rw [if_pos (by omega)] | rw [if_neg (by omega)], rfl, rfl⟩
  · refine lv_tableIn (off := 46) (tgt := 47) hx hb dX12_count_1 (by omega) (by omega) (by rw [hs_1]; rfl) (by decide) ?_
    refine lv_aload_n hx hb dX12_count_47 rfl (lv_at hl 0 rfl) ?_
    refine g_get S hG 83 0 h83 cpX12 wm_1674 dX12_count_48 rfl (by omega) (by decide) ?_
    refine lv_iconst (v := 1) hx hb dX12_count_51 (by decide) ?_
    refine g_iald S hG 84 h84 (by omega) dX12_count_52 (by unfold vp_in; decide) ?_
    refine lv_topi (fun x_3 ex_3 => ?_)
    obtain rfl : x_3 = 0 := ex_3.trans (by decide)
    exact g_iret S hr hlk hG (by omega) dX12_count_53 ⟨Nat.le_of_ble_eq_true rfl, Nat.le_of_ble_eq_true rfl⟩ ⟨by first | rw [if_pos (by omega)] | rw [if_neg (by omega)], rfl, rfl⟩
  · refine lv_tableIn (off := 53) (tgt := 54) hx hb dX12_count_1 (by omega) (by omega) (by rw [hs_1]; rfl) (by decide) ?_
    refine lv_aload_n hx hb dX12_count_54 rfl (lv_at hl 0 rfl) ?_
    refine g_get S hG 83 0 h83 cpX12 wm_1674 dX12_count_55 rfl (by omega) (by decide) ?_
    refine lv_iconst (v := 2) hx hb dX12_count_58 (by decide) ?_
    refine g_iald S hG 84 h84 (by omega) dX12_count_59 (by unfold vp_in; decide) ?_
    refine lv_topi (fun x_4 ex_4 => ?_)
    obtain rfl : x_4 = 0 := ex_4.trans (by decide)
    exact g_iret S hr hlk hG (by omega) dX12_count_60 ⟨Nat.le_of_ble_eq_true rfl, Nat.le_of_ble_eq_true rfl⟩ ⟨by first | rw [if_pos (by omega)] | rw [if_neg (by omega)], rfl, rfl⟩
  · refine lv_tableIn (off := 60) (tgt := 61) hx hb dX12_count_1 (by omega) (by omega) (by rw [hs_1]; rfl) (by decide) ?_
    refine lv_aload_n hx hb dX12_count_61 rfl (lv_at hl 0 rfl) ?_
    refine g_get S hG 83 0 h83 cpX12 wm_1674 dX12_count_62 rfl (by omega) (by decide) ?_
    refine lv_iconst (v := 3) hx hb dX12_count_65 (by decide) ?_
    refine g_iald S hG 84 h84 (by omega) dX12_count_66 (by unfold vp_in; decide) ?_
    refine lv_topi (fun x_5 ex_5 => ?_)
    obtain rfl : x_5 = 0 := ex_5.trans (by decide)
    exact g_iret S hr hlk hG (by omega) dX12_count_67 ⟨Nat.le_of_ble_eq_true rfl, Nat.le_of_ble_eq_true rfl⟩ ⟨by first | rw [if_pos (by omega)] | rw [if_neg (by omega)], rfl, rfl⟩
  · refine lv_tableIn (off := 67) (tgt := 68) hx hb dX12_count_1 (by omega) (by omega) (by rw [hs_1]; rfl) (by decide) ?_
    refine lv_aload_n hx hb dX12_count_68 rfl (lv_at hl 0 rfl) ?_
    refine g_get S hG 83 0 h83 cpX12 wm_1674 dX12_count_69 rfl (by omega) (by decide) ?_
    refine lv_iconst (v := 4) hx hb dX12_count_72 (by decide) ?_
    refine g_iald S hG 84 h84 (by omega) dX12_count_73 (by unfold vp_in; decide) ?_
    refine lv_topi (fun x_6 ex_6 => ?_)
    obtain rfl : x_6 = 0 := ex_6.trans (by decide)
    exact g_iret S hr hlk hG (by omega) dX12_count_74 ⟨Nat.le_of_ble_eq_true rfl, Nat.le_of_ble_eq_true rfl⟩ ⟨by first | rw [if_pos (by omega)] | rw [if_neg (by omega)], rfl, rfl⟩
  · refine lv_tableIn (off := 74) (tgt := 75) hx hb dX12_count_1 (by omega) (by omega) (by rw [hs_1]; rfl) (by decide) ?_
    refine lv_aload_n hx hb dX12_count_75 rfl (lv_at hl 0 rfl) ?_
    refine g_get S hG 83 3 h83 cpX12 wm_1677 dX12_count_76 rfl (by omega) (by decide) ?_
    exact g_iret S hr hlk hG (by omega) dX12_count_79 ⟨Nat.le_of_ble_eq_true rfl, Nat.le_of_ble_eq_true rfl⟩ ⟨by first | rw [if_pos (by omega)] | rw [if_neg (by omega)], rfl, rfl⟩
set_option maxHeartbeats 4000000 in
set_option maxRecDepth 100000 in
theorem qX11_end (l : Launch) {D : va_G} {cy : Nat → ClassId} {b n : Nat} (hn : 105 ≤ n) {E : Nat → va_E} (h0 : E 0 = Z0 b cy)  (a1 : Int32) : gI l yX11_end cX11_end 2 (some .int) 0 0 0 D cy b n E [.ref (b + 0), .int a1] (fun r u => r = (if a1 = 0 then 0 else -1) ∧ u.1 = n ∧ ∀ j, 83 ≤ j → u.2 j = E j) := by
  refine gI_of (by decide) (Nat.le_of_ble_eq_true rfl) ?_
  intro p e s m args below meth c S hr hlk hin hsz ls hl hG
  have hx := S.1
  have hb := S.2.1
  have hl : lv_has ls 2 [(0, .ref (b + 0)), (1, .int a1)] := hl
  refine lv_iload_n hx hb dX11_end_0 rfl (lv_at hl 1 rfl) ?_
  refine lv_if_lt (tgt := 12) hx hb dX11_end_1 (by decide) (fun c_1 => ?_) (fun c_1 => ?_)
  · refine lv_iconst (v := (-1)) hx hb dX11_end_12 (by decide) ?_
    exact g_iret S hr hlk hG (by omega) dX11_end_13 ⟨Nat.le_of_ble_eq_true rfl, Nat.le_of_ble_eq_true rfl⟩ ⟨(by rw [if_neg (fun h => by subst h; revert c_1; decide)]), rfl, fun _ _ => rfl⟩
  · refine lv_iload_n hx hb dX11_end_4 rfl (lv_at hl 1 rfl) ?_
    refine lv_aload_n hx hb dX11_end_5 rfl (lv_at hl 0 rfl) ?_
    refine g_get S hG 0 1 h0 cpX11 wm_667 dX11_end_6 rfl (by omega) (by decide) ?_
    refine lv_icmp_le (tgt := 14) hx hb dX11_end_9 (by decide) (fun c_2 => ?_) (fun c_2 => ?_)
    · refine lv_aload_n hx hb dX11_end_14 rfl (lv_at hl 0 rfl) ?_
      refine lv_iload_n hx hb dX11_end_15 rfl (lv_at hl 1 rfl) ?_
      refine g_put (fs' := [.ref (b + 1), .int a1, .ref (b + 2), .ref (b + 12), .int 0, .int (-1), .ref (b + 33), .ref (b + 40), .ref (b + 47), .ref (b + 60), .ref (b + 67), .ref (b + 73), .ref (b + 80), .ref (b + 81), .ref (b + 82), .int 0, .int 0, .int (-1), .int (-1)]) S hG 0 1 h0 cpX11 wm_667 dX11_end_16 rfl (by omega) (by decide) (Nat.le_of_ble_eq_true rfl) rfl rfl rfl (fun H locs hG => ?_)
      refine lv_iload_n hx hb dX11_end_19 rfl (lv_at hl 1 rfl) ?_
      exact g_iret S hr hlk hG (by omega) dX11_end_20 ⟨Nat.le_of_ble_eq_true rfl, Nat.le_of_ble_eq_true rfl⟩ ⟨(by have h0 : a1 = 0 := Int32.le_antisymm (by first | exact c_2 | exact Int32.not_lt.mp c_2) (Int32.not_lt.mp c_1); rw [h0]; rfl), rfl, fun j hj => upE_n (by omega)⟩
    · refine lv_iconst (v := (-1)) hx hb dX11_end_12 (by decide) ?_
      exact g_iret S hr hlk hG (by omega) dX11_end_13 ⟨Nat.le_of_ble_eq_true rfl, Nat.le_of_ble_eq_true rfl⟩ ⟨(by rw [if_neg (fun h => by subst h; revert c_1 c_2; decide)]), rfl, fun _ _ => rfl⟩
theorem i64_z {x : Int32} (h : (0 : Int64) ≤ x.toInt64 ∧ x.toInt64 ≤ (0 : Int32).toInt64) : x = 0 := by
  have h1 := Int64.le_iff_toInt_le.mp h.1
  have h2 := Int64.le_iff_toInt_le.mp h.2
  rw [Int32.toInt_toInt64] at h1 h2
  have h3 : (0 : Int64).toInt = 0 := by decide
  have h4 : ((0 : Int32).toInt64).toInt = 0 := by decide
  exact Int32.toInt_inj.mp (by show x.toInt = 0; omega)
set_option maxHeartbeats 4000000 in
set_option maxRecDepth 100000 in
theorem qX12_end (l : Launch) {D : va_G} {cy : Nat → ClassId} {b n : Nat} (hn : 105 ≤ n) {E : Nat → va_E} (h83 : E 83 = Z83 b cy)  (a1 : Int32) : gI l yX12_end cX12_end 2 (some .int) 1 0 0 D cy b n E [.ref (b + 83), .int a1] (fun r _ => r = (if a1 = 0 then 0 else -1)) := by
  refine gI_of (by decide) (Nat.le_of_ble_eq_true rfl) ?_
  intro p e s m args below meth c S hr hlk hin hsz ls hl hG
  have hx := S.1
  have hb := S.2.1
  have hl : lv_has ls 2 [(0, .ref (b + 83)), (1, .int a1)] := hl
  refine lv_iload_n hx hb dX12_end_0 rfl (lv_at hl 1 rfl) ?_
  refine lv_i2l hx hb dX12_end_1 rfl ?_
  refine lv_lconst (v := 0) hx hb dX12_end_2 (by decide) ?_
  refine lv_aload_n hx hb dX12_end_3 rfl (lv_at hl 0 rfl) ?_
  refine g_get S hG 83 3 h83 cpX12 wm_1677 dX12_end_4 rfl (by omega) (by decide) ?_
  refine lv_i2l (v := 0) hx hb dX12_end_7 (by decide) ?_
  refine g_si (As := [.long (Int32.toInt64 a1), .long 0, .long 0]) (rest := []) S hG (by omega) (qX12_in l hn  (Int32.toInt64 a1) 0 0) wS_12_97 dX12_end_8 rfl hl.1 (ar := 3) (by decide +kernel) rfl ⟨Nat.le_of_ble_eq_true rfl, Nat.le_of_ble_eq_true rfl, Nat.le_of_ble_eq_true rfl, Nat.le_of_ble_eq_true rfl⟩ (Nat.le_of_ble_eq_true rfl) (fun r_3 u_E_1 H locs hp_2 hG => ?_)
  obtain ⟨n_E_1, E_1⟩ := u_E_1
  dsimp only at hp_2 hG
  obtain ⟨hr_4, nhp_2, ehp_2⟩ := hp_2
  have hG := gW_eq2 hG nhp_2 ehp_2
  refine lv_if_ne (tgt := 16) hx hb dX12_end_11 (by decide) (fun c_5 => ?_) (fun c_5 => ?_)
  · refine lv_aload_n hx hb dX12_end_16 rfl (lv_at hl 0 rfl) ?_
    refine lv_iload_n hx hb dX12_end_17 rfl (lv_at hl 1 rfl) ?_
    refine g_put (fs' := [.ref (b + 84), .ref (b + 85), .ref (b + 86), .int a1, .int 0, .int (-1), .int 0, .int 0, .int 0, .int 0, .int 0, .ref (b + 87), .ref (b + 88), .ref (b + 89), .ref (b + 90), .ref (b + 91), .ref (b + 92), .ref (b + 93), .ref (b + 94), .ref (b + 95), .int 0, .int 0, .int 0, .int 0, .int 0, .int 0, .int 0, .int 0, .ref (b + 96), .ref (b + 97), .ref (b + 98), .int 0, .long 0, .ref (b + 99), .ref (b + 100), .ref (b + 101), .ref (b + 102), .ref (b + 103), .int 0, .ref (b + 104), .int 0, .int 0, .int (-1), .int (-1), .int 0, .int 0, .int 0, .int 0, .int 0, .int 0, .int 0, .int 0]) S hG 83 3 h83 cpX12 wm_1677 dX12_end_18 rfl (by omega) (by decide) (Nat.le_of_ble_eq_true rfl) rfl rfl rfl (fun H locs hG => ?_)
    refine lv_iload_n hx hb dX12_end_21 rfl (lv_at hl 1 rfl) ?_
    exact g_iret S hr hlk hG (by omega) dX12_end_22 ⟨Nat.le_of_ble_eq_true rfl, Nat.le_of_ble_eq_true rfl⟩ (by have h0 : a1 = 0 := i64_z (Decidable.byContradiction fun q => c_5 (hr_4.trans (if_neg q))); rw [h0]; rfl)
  · refine lv_iconst (v := (-1)) hx hb dX12_end_14 (by decide) ?_
    exact g_iret S hr hlk hG (by omega) dX12_end_15 ⟨Nat.le_of_ble_eq_true rfl, Nat.le_of_ble_eq_true rfl⟩ (by rw [if_neg (fun h => by subst h; rw [if_pos (by decide)] at hr_4; have q := c_5; rw [hr_4] at q; revert q; decide)])
