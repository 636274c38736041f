theorem dL_law_16 : decode cL_law 16 = .ok (.iconst 0, 1) := by decide +kernel
theorem dL_law_17 : decode cL_law 17 = .ok (.istore_n 3, 1) := by decide +kernel
theorem dL_law_27 : decode cL_law 27 = .ok (.aload_n 0, 1) := by decide +kernel
theorem dL_law_28 : decode cL_law 28 = .ok (.iload_n 3, 1) := by decide +kernel
theorem dL_law_29 : decode cL_law 29 = .ok (.iaload, 1) := by decide +kernel
theorem dL_law_30 : decode cL_law 30 = .ok (.bipush 63, 2) := by decide +kernel
theorem dL_law_32 : decode cL_law 32 = .ok (.iand, 1) := by decide +kernel
theorem dL_law_33 : decode cL_law 33 = .ok (.tableswitch 1821 0 46 #[203, 266, 289, 302, 325, 348, 371, 394, 417, 440, 463, 486, 509, 522, 545, 579, 613, 647, 710, 764, 808, 862, 895, 908, 951, 1004, 1047, 1100, 1143, 1186, 1229, 1252, 1275, 1318, 1351, 1394, 1427, 1480, 1533, 1577, 1620, 1683, 1736, 1749, 1762, 1795, 1808], 203) := by decide +kernel
theorem sw_47 {z : Int} (h0 : ¬ z < 0) (h1 : ¬ 46 < z) : z = 0 ∨ z = 1 ∨ z = 2 ∨ z = 3 ∨ z = 4 ∨ z = 5 ∨ z = 6 ∨ z = 7 ∨ z = 8 ∨ z = 9 ∨ z = 10 ∨ z = 11 ∨ z = 12 ∨ z = 13 ∨ z = 14 ∨ z = 15 ∨ z = 16 ∨ z = 17 ∨ z = 18 ∨ z = 19 ∨ z = 20 ∨ z = 21 ∨ z = 22 ∨ z = 23 ∨ z = 24 ∨ z = 25 ∨ z = 26 ∨ z = 27 ∨ z = 28 ∨ z = 29 ∨ z = 30 ∨ z = 31 ∨ z = 32 ∨ z = 33 ∨ z = 34 ∨ z = 35 ∨ z = 36 ∨ z = 37 ∨ z = 38 ∨ z = 39 ∨ z = 40 ∨ z = 41 ∨ z = 42 ∨ z = 43 ∨ z = 44 ∨ z = 45 ∨ z = 46 := by
  omega
set_option maxHeartbeats 4000000 in
set_option maxRecDepth 100000 in
theorem lc_go {p : Program} {l : Launch} {e : Env} {s : State} {m : MethodId} {below : List Frame} {meth : Method} {c : Code} {q0 : Nat} {xs : Nat → Int32} {D : va_G} {cy : Nat → ClassId} {b : Nat} {L : Nat} (hL : L ≤ 6) (C0 : lw_At p s m meth c q0 L xs) (hsz : s.heap.size = b + 0) {E : Nat → va_E} (F : Fresh b cy E) {H : Heap} {locs : List Loc} (hG : gW D cy b 105 s H locs E) {ls : Array Slot} (hl : lv_has ls 4 [(2, .ref (b + 83)), (1, .ref (b + 0)), (0, .ref q0)]) : W p l e room_1 s m #[Value.ref q0] below meth c H locs 105 74781 (lw_Z below #[Value.ref q0] s) (F0 m 16 ls []) := by
  have hx := C0.1
  have hb := C0.2.1
  refine lv_iconst (v := 0) hx hb dL_law_16 (by decide) ?_
  refine lv_istore_n (lv' := [(3, .int 0), (2, .ref (b + 83)), (1, .ref (b + 0)), (0, .ref q0)]) hx hb dL_law_17 rfl hl (by decide) rfl (fun ls hl => ?_)
  have out : ∀ K : Nat, L = K → Int32.ofNat K - 6 < 0 → W p l e room_1 s m #[Value.ref q0] below meth c H locs 105 74781 (lw_Z below #[Value.ref q0] s) (F0 m 18 ls []) := fun K hK hv =>
    lc_out C0 hsz hG ⟨Nat.le_of_ble_eq_true rfl, Nat.le_of_ble_eq_true rfl⟩ hl (lv_at hl 0 rfl) (lv_at hl 3 rfl) (by rw [hK]; exact hv)
  rcases (show L = 0 ∨ L = 1 ∨ L = 2 ∨ L = 3 ∨ L = 4 ∨ L = 5 ∨ L = 6 by omega) with h | h | h | h | h | h | h
  · exact out 0 h (by decide)
  · exact out 1 h (by decide)
  · exact out 2 h (by decide)
  · exact out 3 h (by decide)
  · exact out 4 h (by decide)
  · exact out 5 h (by decide)
  subst h
  obtain ⟨-, -, hr, hml, hown, hts, hX, hbl, hlocks, hgv⟩ := id C0
  have hbA : ¬ gA b q0 := fun h => by unfold gA at h; omega
  refine lv_iload_n hx hb dL_law_18 rfl (lv_at hl 0 rfl) ?_
  refine lv_aload_n hx hb dL_law_19 rfl (lv_at hl 3 rfl) ?_
  refine va_slen hx hb hX hbl hbA hG.2.2.1 dL_law_20 ?_
  refine lv_bipush (v := 6) hx hb dL_law_21 (by decide) ?_
  refine lv_isub hx hb dL_law_23 ?_
  refine lv_icmp_gt (tgt := 1860) hx hb dL_law_24 (by decide) (fun c1 => absurd c1 (by decide)) (fun _ => ?_)
  refine lv_aload_n hx hb dL_law_27 rfl (lv_at hl 3 rfl) ?_
  refine lv_iload_n hx hb dL_law_28 rfl (lv_at hl 0 rfl) ?_
  refine va_sld hx hb hX hbl hbA hG.2.2.1 (by unfold vp_in; decide) dL_law_29 ?_
  refine lv_bipush (v := 63) hx hb dL_law_30 (by decide) ?_
  refine lv_iand hx hb dL_law_32 ?_
  refine lv_topi (fun x _ => ?_)
  have hend : W p l e room_1 s m #[Value.ref q0] below meth c H locs 105 74781 (lw_Z below #[Value.ref q0] s) (F0 m 1854 ls []) := lc_end C0 hsz hG ⟨Nat.le_of_ble_eq_true rfl, Nat.le_of_ble_eq_true rfl⟩ hl
  by_cases hlo : x.toInt < 0
  · exact lv_tableOut (tgt := 1854) hx hb dL_law_33 (Or.inl hlo) (by decide) hend
  by_cases hhi : 46 < x.toInt
  · exact lv_tableOut (tgt := 1854) hx hb dL_law_33 (Or.inr hhi) (by decide) hend
  rcases sw_47 hlo hhi with hs | hs | hs | hs | hs | hs | hs | hs | hs | hs | hs | hs | hs | hs | hs | hs | hs | hs | hs | hs | hs | hs | hs | hs | hs | hs | hs | hs | hs | hs | hs | hs | hs | hs | hs | hs | hs | hs | hs | hs | hs | hs | hs | hs | hs | hs | hs
  · exact lv_tableIn (off := 203) (tgt := 236) hx hb dL_law_33 hlo hhi (by rw [hs]; rfl) (by decide) (lc_0 C0 hsz F hG hl)
  · exact lv_tableIn (off := 266) (tgt := 299) hx hb dL_law_33 hlo hhi (by rw [hs]; rfl) (by decide) (lc_1 C0 hsz F hG hl)
  · exact lv_tableIn (off := 289) (tgt := 322) hx hb dL_law_33 hlo hhi (by rw [hs]; rfl) (by decide) (lc_2 C0 hsz F hG hl)
  · exact lv_tableIn (off := 302) (tgt := 335) hx hb dL_law_33 hlo hhi (by rw [hs]; rfl) (by decide) (lc_3 C0 hsz F hG hl)
  · exact lv_tableIn (off := 325) (tgt := 358) hx hb dL_law_33 hlo hhi (by rw [hs]; rfl) (by decide) (lc_4 C0 hsz F hG hl)
  · exact lv_tableIn (off := 348) (tgt := 381) hx hb dL_law_33 hlo hhi (by rw [hs]; rfl) (by decide) (lc_5 C0 hsz F hG hl)
  · exact lv_tableIn (off := 371) (tgt := 404) hx hb dL_law_33 hlo hhi (by rw [hs]; rfl) (by decide) (lc_6 C0 hsz F hG hl)
  · exact lv_tableIn (off := 394) (tgt := 427) hx hb dL_law_33 hlo hhi (by rw [hs]; rfl) (by decide) (lc_7 C0 hsz F hG hl)
  · exact lv_tableIn (off := 417) (tgt := 450) hx hb dL_law_33 hlo hhi (by rw [hs]; rfl) (by decide) (lc_8 C0 hsz F hG hl)
  · exact lv_tableIn (off := 440) (tgt := 473) hx hb dL_law_33 hlo hhi (by rw [hs]; rfl) (by decide) (lc_9 C0 hsz F hG hl)
  · exact lv_tableIn (off := 463) (tgt := 496) hx hb dL_law_33 hlo hhi (by rw [hs]; rfl) (by decide) (lc_10 C0 hsz F hG hl)
  · exact lv_tableIn (off := 486) (tgt := 519) hx hb dL_law_33 hlo hhi (by rw [hs]; rfl) (by decide) (lc_11 C0 hsz F hG hl)
  · exact lv_tableIn (off := 509) (tgt := 542) hx hb dL_law_33 hlo hhi (by rw [hs]; rfl) (by decide) (lc_12 C0 hsz F hG hl)
  · exact lv_tableIn (off := 522) (tgt := 555) hx hb dL_law_33 hlo hhi (by rw [hs]; rfl) (by decide) (lc_13 C0 hsz F hG hl)
  · exact lv_tableIn (off := 545) (tgt := 578) hx hb dL_law_33 hlo hhi (by rw [hs]; rfl) (by decide) (lc_14 C0 hsz F hG hl)
  · exact lv_tableIn (off := 579) (tgt := 612) hx hb dL_law_33 hlo hhi (by rw [hs]; rfl) (by decide) (lc_15 C0 hsz F hG hl)
  · exact lv_tableIn (off := 613) (tgt := 646) hx hb dL_law_33 hlo hhi (by rw [hs]; rfl) (by decide) (lc_16 C0 hsz F hG hl)
  · exact lv_tableIn (off := 647) (tgt := 680) hx hb dL_law_33 hlo hhi (by rw [hs]; rfl) (by decide) (lc_17 C0 hsz F hG hl)
  · exact lv_tableIn (off := 710) (tgt := 743) hx hb dL_law_33 hlo hhi (by rw [hs]; rfl) (by decide) (lc_18 C0 hsz F hG hl)
  · exact lv_tableIn (off := 764) (tgt := 797) hx hb dL_law_33 hlo hhi (by rw [hs]; rfl) (by decide) (lc_19 C0 hsz F hG hl)
  · exact lv_tableIn (off := 808) (tgt := 841) hx hb dL_law_33 hlo hhi (by rw [hs]; rfl) (by decide) (lc_20 C0 hsz F hG hl)
  · exact lv_tableIn (off := 862) (tgt := 895) hx hb dL_law_33 hlo hhi (by rw [hs]; rfl) (by decide) (lc_21 C0 hsz F hG hl)
  · exact lv_tableIn (off := 895) (tgt := 928) hx hb dL_law_33 hlo hhi (by rw [hs]; rfl) (by decide) (lc_22 C0 hsz F hG hl)
  · exact lv_tableIn (off := 908) (tgt := 941) hx hb dL_law_33 hlo hhi (by rw [hs]; rfl) (by decide) (lc_23 C0 hsz F hG hl)
  · exact lv_tableIn (off := 951) (tgt := 984) hx hb dL_law_33 hlo hhi (by rw [hs]; rfl) (by decide) (lc_24 C0 hsz F hG hl)
  · exact lv_tableIn (off := 1004) (tgt := 1037) hx hb dL_law_33 hlo hhi (by rw [hs]; rfl) (by decide) (lc_25 C0 hsz F hG hl)
  · exact lv_tableIn (off := 1047) (tgt := 1080) hx hb dL_law_33 hlo hhi (by rw [hs]; rfl) (by decide) (lc_26 C0 hsz F hG hl)
  · exact lv_tableIn (off := 1100) (tgt := 1133) hx hb dL_law_33 hlo hhi (by rw [hs]; rfl) (by decide) (lc_27 C0 hsz F hG hl)
  · exact lv_tableIn (off := 1143) (tgt := 1176) hx hb dL_law_33 hlo hhi (by rw [hs]; rfl) (by decide) (lc_28 C0 hsz F hG hl)
  · exact lv_tableIn (off := 1186) (tgt := 1219) hx hb dL_law_33 hlo hhi (by rw [hs]; rfl) (by decide) (lc_29 C0 hsz F hG hl)
  · exact lv_tableIn (off := 1229) (tgt := 1262) hx hb dL_law_33 hlo hhi (by rw [hs]; rfl) (by decide) (lc_30 C0 hsz F hG hl)
  · exact lv_tableIn (off := 1252) (tgt := 1285) hx hb dL_law_33 hlo hhi (by rw [hs]; rfl) (by decide) (lc_31 C0 hsz F hG hl)
  · exact lv_tableIn (off := 1275) (tgt := 1308) hx hb dL_law_33 hlo hhi (by rw [hs]; rfl) (by decide) (lc_32 C0 hsz F hG hl)
  · exact lv_tableIn (off := 1318) (tgt := 1351) hx hb dL_law_33 hlo hhi (by rw [hs]; rfl) (by decide) (lc_33 C0 hsz F hG hl)
  · exact lv_tableIn (off := 1351) (tgt := 1384) hx hb dL_law_33 hlo hhi (by rw [hs]; rfl) (by decide) (lc_34 C0 hsz F hG hl)
  · exact lv_tableIn (off := 1394) (tgt := 1427) hx hb dL_law_33 hlo hhi (by rw [hs]; rfl) (by decide) (lc_35 C0 hsz F hG hl)
  · exact lv_tableIn (off := 1427) (tgt := 1460) hx hb dL_law_33 hlo hhi (by rw [hs]; rfl) (by decide) (lc_36 C0 hsz F hG hl)
  · exact lv_tableIn (off := 1480) (tgt := 1513) hx hb dL_law_33 hlo hhi (by rw [hs]; rfl) (by decide) (lc_37 C0 hsz F hG hl)
  · exact lv_tableIn (off := 1533) (tgt := 1566) hx hb dL_law_33 hlo hhi (by rw [hs]; rfl) (by decide) (lc_38 C0 hsz F hG hl)
  · exact lv_tableIn (off := 1577) (tgt := 1610) hx hb dL_law_33 hlo hhi (by rw [hs]; rfl) (by decide) (lc_39 C0 hsz F hG hl)
  · exact lv_tableIn (off := 1620) (tgt := 1653) hx hb dL_law_33 hlo hhi (by rw [hs]; rfl) (by decide) (lc_40 C0 hsz F hG hl)
  · exact lv_tableIn (off := 1683) (tgt := 1716) hx hb dL_law_33 hlo hhi (by rw [hs]; rfl) (by decide) (lc_41 C0 hsz F hG hl)
  · exact lv_tableIn (off := 1736) (tgt := 1769) hx hb dL_law_33 hlo hhi (by rw [hs]; rfl) (by decide) (lc_42 C0 hsz F hG hl)
  · exact lv_tableIn (off := 1749) (tgt := 1782) hx hb dL_law_33 hlo hhi (by rw [hs]; rfl) (by decide) (lc_43 C0 hsz F hG hl)
  · exact lv_tableIn (off := 1762) (tgt := 1795) hx hb dL_law_33 hlo hhi (by rw [hs]; rfl) (by decide) (lc_44 C0 hsz F hG hl)
  · exact lv_tableIn (off := 1795) (tgt := 1828) hx hb dL_law_33 hlo hhi (by rw [hs]; rfl) (by decide) (lc_45 C0 hsz F hG hl)
  · exact lv_tableIn (off := 1808) (tgt := 1841) hx hb dL_law_33 hlo hhi (by rw [hs]; rfl) (by decide) (lc_46 C0 hsz F hG hl)
set_option maxHeartbeats 4000000 in
set_option maxRecDepth 100000 in
theorem law_start {p : Program} {e : Env} {s : State} {m : MethodId} {below : List Frame} {meth : Method} {c : Code} (l : Launch) {q0 L : Nat} {xs : Nat → Int32} (hL : L ≤ 6) (C0 : lw_At p s m meth c q0 L xs) : W p l e room_1 s m #[Value.ref q0] below meth c s.heap [] 0 0 (lw_Z below #[Value.ref q0] s) (entryFrame m ([Value.ref q0] : List Value).toArray 4) := by
  have hx := C0.1
  have hb := C0.2.1
  have S := lw_S C0
  obtain ⟨D, cy, hK⟩ := gK_start C0.2.2.2.2.2.1
  obtain ⟨b, hsz⟩ : ∃ b, s.heap.size = b + 0 := ⟨_, rfl⟩
  have hG : gW D cy b 0 s s.heap [] (fun _ => .inr (0, [])) := ⟨hK, fun k q h => by simp [wd] at h, va_S.rf, by omega⟩
  have hl := lv_entry ([.ref q0]) (n := 4) (Nat.le_of_ble_eq_true rfl)
  rw [lg_entry_eq]
  generalize (lg_sl ([.ref q0]) ++ List.replicate (4 - (lg_sl ([.ref q0])).length) Slot.unset).toArray = ls at hl ⊢
  have hl : lv_has ls 4 [(0, .ref q0)] := hl
  refine g_new (fs := [.null, .int 0, .null, .null, .int 0, .int 0, .null, .null, .null, .null, .null, .null, .null, .null, .null, .int 0, .int 0, .int 0, .int 0]) S hG (by omega) cpX11 wm_197 wm_198 wm_176 dL_law_0 (by decide +kernel) ⟨Nat.le_of_ble_eq_true rfl, Nat.le_of_ble_eq_true rfl⟩ (fun H hG => ?_)
  refine W.widen (k := 1) (n := 19) (Nat.le_of_ble_eq_true rfl) (Nat.le_of_ble_eq_true rfl) ?_
  refine lv_dup hx hb dL_law_3 rfl ?_
  refine g_ctor (As := []) (rest := [.ref (b + 0)]) S hG (by omega) (kX11_init_0 l rfl) wI_GrownKindsLaw_9 dL_law_4 rfl hl.1 (ar := 0) (by decide +kernel) rfl ⟨Nat.le_of_ble_eq_true rfl, Nat.le_of_ble_eq_true rfl, Nat.le_of_ble_eq_true rfl, Nat.le_of_ble_eq_true rfl⟩ (Nat.le_of_ble_eq_true rfl) (fun u_E_1 H locs hp_2 hG => ?_)
  obtain ⟨n_E_1, E_1⟩ := u_E_1
  dsimp only at hp_2 hG
  refine W.widen (k := 83) (n := 63101) (Nat.le_of_ble_eq_true rfl) (Nat.le_of_ble_eq_true rfl) ?_
  obtain ⟨rfl, hlo_3, hhlo_3_0, hhlo_3_1, hhlo_3_2, hhlo_3_3, hhlo_3_4, hhlo_3_5, hhlo_3_6, hhlo_3_7, hhlo_3_8, hhlo_3_9, hhlo_3_10, hhlo_3_11, hhlo_3_12, hhlo_3_13, hhlo_3_14, hhlo_3_15, hhlo_3_16, hhlo_3_17, hhlo_3_18, hhlo_3_19, hhlo_3_20, hhlo_3_21, hhlo_3_22, hhlo_3_23, hhlo_3_24, hhlo_3_25, hhlo_3_26, hhlo_3_27, hhlo_3_28, hhlo_3_29, hhlo_3_30, hhlo_3_31, hhlo_3_32, hhlo_3_33, hhlo_3_34, hhlo_3_35, hhlo_3_36, hhlo_3_37, hhlo_3_38, hhlo_3_39, hhlo_3_40, hhlo_3_41, hhlo_3_42, hhlo_3_43, hhlo_3_44, hhlo_3_45, hhlo_3_46, hhlo_3_47, hhlo_3_48, hhlo_3_49, hhlo_3_50, hhlo_3_51, hhlo_3_52, hhlo_3_53, hhlo_3_54, hhlo_3_55, hhlo_3_56, hhlo_3_57, hhlo_3_58, hhlo_3_59, hhlo_3_60, hhlo_3_61, hhlo_3_62, hhlo_3_63, hhlo_3_64, hhlo_3_65, hhlo_3_66, hhlo_3_67, hhlo_3_68, hhlo_3_69, hhlo_3_70, hhlo_3_71, hhlo_3_72, hhlo_3_73, hhlo_3_74, hhlo_3_75, hhlo_3_76, hhlo_3_77, hhlo_3_78, hhlo_3_79, hhlo_3_80, hhlo_3_81, hhlo_3_82⟩ := hp_2
  refine lv_astore_n (lv' := [(1, .ref (b + 0)), (0, .ref q0)]) hx hb dL_law_7 rfl hl (by decide) rfl (fun ls hl => ?_)
  refine g_new (fs := [.null, .null, .null, .int 0, .int 0, .int 0, .int 0, .int 0, .int 0, .int 0, .int 0, .null, .null, .null, .null, .null, .null, .null, .null, .null, .int 0, .int 0, .int 0, .int 0, .int 0, .int 0, .int 0, .int 0, .null, .null, .null, .int 0, .long 0, .null, .null, .null, .null, .null, .int 0, .null, .int 0, .int 0, .int 0, .int 0, .int 0, .int 0, .int 0, .int 0, .int 0, .int 0, .int 0, .int 0]) S hG (by omega) cpX12 wm_1664 wm_1665 wm_187 dL_law_8 (by decide +kernel) ⟨Nat.le_of_ble_eq_true rfl, Nat.le_of_ble_eq_true rfl⟩ (fun H hG => ?_)
  refine W.widen (k := 84) (n := 63153) (Nat.le_of_ble_eq_true rfl) (Nat.le_of_ble_eq_true rfl) ?_
  refine lv_dup hx hb dL_law_11 rfl ?_
  refine g_ctor (As := []) (rest := [.ref (b + 83)]) S hG (by omega) (kX12_init_83 l rfl) wI_GrownKindsLaw_12 dL_law_12 rfl hl.1 (ar := 0) (by decide +kernel) rfl ⟨Nat.le_of_ble_eq_true rfl, Nat.le_of_ble_eq_true rfl, Nat.le_of_ble_eq_true rfl, Nat.le_of_ble_eq_true rfl⟩ (Nat.le_of_ble_eq_true rfl) (fun u_E_4 H locs hp_5 hG => ?_)
  obtain ⟨n_E_4, E_4⟩ := u_E_4
  dsimp only at hp_5 hG
  refine W.widen (k := 105) (n := 74781) (Nat.le_of_ble_eq_true rfl) (Nat.le_of_ble_eq_true rfl) ?_
  obtain ⟨rfl, hlo_6, hhlo_6_83, hhlo_6_84, hhlo_6_85, hhlo_6_86, hhlo_6_87, hhlo_6_88, hhlo_6_89, hhlo_6_90, hhlo_6_91, hhlo_6_92, hhlo_6_93, hhlo_6_94, hhlo_6_95, hhlo_6_96, hhlo_6_97, hhlo_6_98, hhlo_6_99, hhlo_6_100, hhlo_6_101, hhlo_6_102, hhlo_6_103, hhlo_6_104⟩ := hp_5
  refine lv_astore_n (lv' := [(2, .ref (b + 83)), (1, .ref (b + 0)), (0, .ref q0)]) hx hb dL_law_15 rfl hl (by decide) rfl (fun ls hl => ?_)
  have h0 : _ = Z0 b cy := ((hlo_6 0 (by decide) (by decide)).trans hhlo_3_0)
  have h1 : _ = Z1 b cy := ((hlo_6 1 (by decide) (by decide)).trans hhlo_3_1)
  have h2 : _ = Z2 b cy := ((hlo_6 2 (by decide) (by decide)).trans hhlo_3_2)
  have h3 : _ = Z3 b cy := ((hlo_6 3 (by decide) (by decide)).trans hhlo_3_3)
  have h4 : _ = Z4 b cy := ((hlo_6 4 (by decide) (by decide)).trans hhlo_3_4)
  have h5 : _ = Z5 b cy := ((hlo_6 5 (by decide) (by decide)).trans hhlo_3_5)
  have h6 : _ = Z6 b cy := ((hlo_6 6 (by decide) (by decide)).trans hhlo_3_6)
  have h7 : _ = Z7 b cy := ((hlo_6 7 (by decide) (by decide)).trans hhlo_3_7)
  have h8 : _ = Z8 b cy := ((hlo_6 8 (by decide) (by decide)).trans hhlo_3_8)
  have h9 : _ = Z9 b cy := ((hlo_6 9 (by decide) (by decide)).trans hhlo_3_9)
  have h10 : _ = Z10 b cy := ((hlo_6 10 (by decide) (by decide)).trans hhlo_3_10)
  have h11 : _ = Z11 b cy := ((hlo_6 11 (by decide) (by decide)).trans hhlo_3_11)
  have h12 : _ = Z12 b cy := ((hlo_6 12 (by decide) (by decide)).trans hhlo_3_12)
  have h13 : _ = Z13 b cy := ((hlo_6 13 (by decide) (by decide)).trans hhlo_3_13)
  have h14 : _ = Z14 b cy := ((hlo_6 14 (by decide) (by decide)).trans hhlo_3_14)
  have h15 : _ = Z15 b cy := ((hlo_6 15 (by decide) (by decide)).trans hhlo_3_15)
  have h16 : _ = Z16 b cy := ((hlo_6 16 (by decide) (by decide)).trans hhlo_3_16)
  have h17 : _ = Z17 b cy := ((hlo_6 17 (by decide) (by decide)).trans hhlo_3_17)
  have h18 : _ = Z18 b cy := ((hlo_6 18 (by decide) (by decide)).trans hhlo_3_18)
  have h19 : _ = Z19 b cy := ((hlo_6 19 (by decide) (by decide)).trans hhlo_3_19)
  have h20 : _ = Z20 b cy := ((hlo_6 20 (by decide) (by decide)).trans hhlo_3_20)
  have h21 : _ = Z21 b cy := ((hlo_6 21 (by decide) (by decide)).trans hhlo_3_21)
  have h22 : _ = Z22 b cy := ((hlo_6 22 (by decide) (by decide)).trans hhlo_3_22)
  have h23 : _ = Z23 b cy := ((hlo_6 23 (by decide) (by decide)).trans hhlo_3_23)
  have h24 : _ = Z24 b cy := ((hlo_6 24 (by decide) (by decide)).trans hhlo_3_24)
  have h25 : _ = Z25 b cy := ((hlo_6 25 (by decide) (by decide)).trans hhlo_3_25)
  have h26 : _ = Z26 b cy := ((hlo_6 26 (by decide) (by decide)).trans hhlo_3_26)
  have h27 : _ = Z27 b cy := ((hlo_6 27 (by decide) (by decide)).trans hhlo_3_27)
  have h28 : _ = Z28 b cy := ((hlo_6 28 (by decide) (by decide)).trans hhlo_3_28)
  have h29 : _ = Z29 b cy := ((hlo_6 29 (by decide) (by decide)).trans hhlo_3_29)
  have h30 : _ = Z30 b cy := ((hlo_6 30 (by decide) (by decide)).trans hhlo_3_30)
  have h31 : _ = Z31 b cy := ((hlo_6 31 (by decide) (by decide)).trans hhlo_3_31)
  have h32 : _ = Z32 b cy := ((hlo_6 32 (by decide) (by decide)).trans hhlo_3_32)
  have h33 : _ = Z33 b cy := ((hlo_6 33 (by decide) (by decide)).trans hhlo_3_33)
  have h34 : _ = Z34 b cy := ((hlo_6 34 (by decide) (by decide)).trans hhlo_3_34)
  have h35 : _ = Z35 b cy := ((hlo_6 35 (by decide) (by decide)).trans hhlo_3_35)
  have h36 : _ = Z36 b cy := ((hlo_6 36 (by decide) (by decide)).trans hhlo_3_36)
  have h37 : _ = Z37 b cy := ((hlo_6 37 (by decide) (by decide)).trans hhlo_3_37)
  have h38 : _ = Z38 b cy := ((hlo_6 38 (by decide) (by decide)).trans hhlo_3_38)
  have h39 : _ = Z39 b cy := ((hlo_6 39 (by decide) (by decide)).trans hhlo_3_39)
  have h40 : _ = Z40 b cy := ((hlo_6 40 (by decide) (by decide)).trans hhlo_3_40)
  have h41 : _ = Z41 b cy := ((hlo_6 41 (by decide) (by decide)).trans hhlo_3_41)
  have h42 : _ = Z42 b cy := ((hlo_6 42 (by decide) (by decide)).trans hhlo_3_42)
  have h43 : _ = Z43 b cy := ((hlo_6 43 (by decide) (by decide)).trans hhlo_3_43)
  have h44 : _ = Z44 b cy := ((hlo_6 44 (by decide) (by decide)).trans hhlo_3_44)
  have h45 : _ = Z45 b cy := ((hlo_6 45 (by decide) (by decide)).trans hhlo_3_45)
  have h46 : _ = Z46 b cy := ((hlo_6 46 (by decide) (by decide)).trans hhlo_3_46)
  have h47 : _ = Z47 b cy := ((hlo_6 47 (by decide) (by decide)).trans hhlo_3_47)
  have h48 : _ = Z48 b cy := ((hlo_6 48 (by decide) (by decide)).trans hhlo_3_48)
  have h49 : _ = Z49 b cy := ((hlo_6 49 (by decide) (by decide)).trans hhlo_3_49)
  have h50 : _ = Z50 b cy := ((hlo_6 50 (by decide) (by decide)).trans hhlo_3_50)
  have h51 : _ = Z51 b cy := ((hlo_6 51 (by decide) (by decide)).trans hhlo_3_51)
  have h52 : _ = Z52 b cy := ((hlo_6 52 (by decide) (by decide)).trans hhlo_3_52)
  have h53 : _ = Z53 b cy := ((hlo_6 53 (by decide) (by decide)).trans hhlo_3_53)
  have h54 : _ = Z54 b cy := ((hlo_6 54 (by decide) (by decide)).trans hhlo_3_54)
  have h55 : _ = Z55 b cy := ((hlo_6 55 (by decide) (by decide)).trans hhlo_3_55)
  have h56 : _ = Z56 b cy := ((hlo_6 56 (by decide) (by decide)).trans hhlo_3_56)
  have h57 : _ = Z57 b cy := ((hlo_6 57 (by decide) (by decide)).trans hhlo_3_57)
  have h58 : _ = Z58 b cy := ((hlo_6 58 (by decide) (by decide)).trans hhlo_3_58)
  have h59 : _ = Z59 b cy := ((hlo_6 59 (by decide) (by decide)).trans hhlo_3_59)
  have h60 : _ = Z60 b cy := ((hlo_6 60 (by decide) (by decide)).trans hhlo_3_60)
  have h61 : _ = Z61 b cy := ((hlo_6 61 (by decide) (by decide)).trans hhlo_3_61)
  have h62 : _ = Z62 b cy := ((hlo_6 62 (by decide) (by decide)).trans hhlo_3_62)
  have h63 : _ = Z63 b cy := ((hlo_6 63 (by decide) (by decide)).trans hhlo_3_63)
  have h64 : _ = Z64 b cy := ((hlo_6 64 (by decide) (by decide)).trans hhlo_3_64)
  have h65 : _ = Z65 b cy := ((hlo_6 65 (by decide) (by decide)).trans hhlo_3_65)
  have h66 : _ = Z66 b cy := ((hlo_6 66 (by decide) (by decide)).trans hhlo_3_66)
  have h67 : _ = Z67 b cy := ((hlo_6 67 (by decide) (by decide)).trans hhlo_3_67)
  have h68 : _ = Z68 b cy := ((hlo_6 68 (by decide) (by decide)).trans hhlo_3_68)
  have h69 : _ = Z69 b cy := ((hlo_6 69 (by decide) (by decide)).trans hhlo_3_69)
  have h70 : _ = Z70 b cy := ((hlo_6 70 (by decide) (by decide)).trans hhlo_3_70)
  have h71 : _ = Z71 b cy := ((hlo_6 71 (by decide) (by decide)).trans hhlo_3_71)
  have h72 : _ = Z72 b cy := ((hlo_6 72 (by decide) (by decide)).trans hhlo_3_72)
  have h73 : _ = Z73 b cy := ((hlo_6 73 (by decide) (by decide)).trans hhlo_3_73)
  have h74 : _ = Z74 b cy := ((hlo_6 74 (by decide) (by decide)).trans hhlo_3_74)
  have h75 : _ = Z75 b cy := ((hlo_6 75 (by decide) (by decide)).trans hhlo_3_75)
  have h76 : _ = Z76 b cy := ((hlo_6 76 (by decide) (by decide)).trans hhlo_3_76)
  have h77 : _ = Z77 b cy := ((hlo_6 77 (by decide) (by decide)).trans hhlo_3_77)
  have h78 : _ = Z78 b cy := ((hlo_6 78 (by decide) (by decide)).trans hhlo_3_78)
  have h79 : _ = Z79 b cy := ((hlo_6 79 (by decide) (by decide)).trans hhlo_3_79)
  have h80 : _ = Z80 b cy := ((hlo_6 80 (by decide) (by decide)).trans hhlo_3_80)
  have h81 : _ = Z81 b cy := ((hlo_6 81 (by decide) (by decide)).trans hhlo_3_81)
  have h82 : _ = Z82 b cy := ((hlo_6 82 (by decide) (by decide)).trans hhlo_3_82)
  have h83 : _ = Z83 b cy := hhlo_6_83
  have h84 : _ = Z84 b cy := hhlo_6_84
  have h85 : _ = Z85 b cy := hhlo_6_85
  have h86 : _ = Z86 b cy := hhlo_6_86
  have h87 : _ = Z87 b cy := hhlo_6_87
  have h88 : _ = Z88 b cy := hhlo_6_88
  have h89 : _ = Z89 b cy := hhlo_6_89
  have h90 : _ = Z90 b cy := hhlo_6_90
  have h91 : _ = Z91 b cy := hhlo_6_91
  have h92 : _ = Z92 b cy := hhlo_6_92
  have h93 : _ = Z93 b cy := hhlo_6_93
  have h94 : _ = Z94 b cy := hhlo_6_94
  have h95 : _ = Z95 b cy := hhlo_6_95
  have h96 : _ = Z96 b cy := hhlo_6_96
  have h97 : _ = Z97 b cy := hhlo_6_97
  have h98 : _ = Z98 b cy := hhlo_6_98
  have h99 : _ = Z99 b cy := hhlo_6_99
  have h100 : _ = Z100 b cy := hhlo_6_100
  have h101 : _ = Z101 b cy := hhlo_6_101
  have h102 : _ = Z102 b cy := hhlo_6_102
  have h103 : _ = Z103 b cy := hhlo_6_103
  have h104 : _ = Z104 b cy := hhlo_6_104
  have F : Fresh b cy E_4 := fun k hk => by
    exact fresh_of h0 h1 h2 h3 h4 h5 h6 h7 h8 h9 h10 h11 h12 h13 h14 h15 h16 h17 h18 h19 h20 h21 h22 h23 h24 h25 h26 h27 h28 h29 h30 h31 h32 h33 h34 h35 h36 h37 h38 h39 h40 h41 h42 h43 h44 h45 h46 h47 h48 h49 h50 h51 h52 h53 h54 h55 h56 h57 h58 h59 h60 h61 h62 h63 h64 h65 h66 h67 h68 h69 h70 h71 h72 h73 h74 h75 h76 h77 h78 h79 h80 h81 h82 h83 h84 h85 h86 h87 h88 h89 h90 h91 h92 h93 h94 h95 h96 h97 h98 h99 h100 h101 h102 h103 h104 k hk
  exact lc_go hL C0 hsz F hG hl
theorem whole_start {p : Program} {e : Env} {s : State} {m : MethodId} {below : List Frame} {meth : Method} {c : Code} (l : Launch) {b L : Nat} {xs : Nat → Int32} (hL : L ≤ 6) (C0 : lw_At p s m meth c b L xs) : W p l e room_1 s m #[Value.ref b] below meth c s.heap [] 0 0 (lw_Z below #[Value.ref b] s) (entryFrame m ([Value.ref b] : List Value).toArray 4) := law_start l hL C0
-- ===== YOUR PART ENDS =====
set_option maxHeartbeats 4000000 in
theorem lw_walk (l : Launch) (b : Addr) (xs : List Int32) : MetFree l x (headSpec (Jvm.Cond.code x code maxLocals ret :: tables_1) room_1) (lw_P b xs) (fun _ _ _ _ _ => True) lw_Q := by
  refine MetFree.of_bodyS (code := code) (maxLocals := maxLocals) (ret := ret) (by decide) ?_ ?_
  · intro args s m h hn
    obtain ⟨meth, c, h1, h2, h3, h4, h5, h6, -, -⟩ := Cond.code_spec hn (atoms_spec (ws := Jvm.Cond.code x code maxLocals ret :: tables_1) h _ List.mem_cons_self)
    exact ⟨meth, c, h1, h2, h3, h4, h5, h6⟩
  · intro p e s m args below meth c s₁ B hml0 hP _
    obtain ⟨rfl, hx, hbd, hgv⟩ := hP
    obtain ⟨scr, harrAt, hlist, hof, hsmall⟩ := hx
    obtain ⟨hcb, hkn, -, -⟩ := State.arrayAt?_spec harrAt
    have hown : s.vm.findClass R_law = some m.cls := findClass_of_methodNamed B.named
    have hts0 : ∀ c ∈ (Jvm.Cond.code x code maxLocals ret :: tables_1), c.before #[Value.ref b] s = true := atoms_spec (ws := Jvm.Cond.code x code maxLocals ret :: tables_1) B.pre
    have hts : ∀ w ∈ lw_tbl, w.before #[Value.ref b] s = true := k2_hts_sels lw_privs (fun w hw => hts0 w (List.mem_cons_of_mem _ hw)) lw_privs_ok
    have hml : c.maxLocals = 4 := B.maxLocals_eq (hts0 _ List.mem_cons_self)
    have X₀ : Stand p l e room_1 s m #[Value.ref b] below meth c s₁ [] 0 0 := Stand.of_body B
    have hh0 : s₁.heap = s.heap := by rw [B.state]; rfl
    have hsz : scr.slots.size = xs.length := by rw [← Array.length_toList, hlist, List.length_map]
    have hval : ∀ j : Nat, j < xs.length → scr.slots[j]? = some (.int (xs.getD j 0)) := fun j hj => by
      rw [← Array.getElem?_toList, hlist]
      simp [hj]
    have hbl : b < s.heap.size := (Array.getElem?_eq_some_iff.mp hcb).1
    have hX : va_X b xs.length (fun j => xs.getD j 0) s s.heap := ⟨scr, hcb, hof, hkn, hsz, hval⟩
    have K : W p l e room_1 s m #[Value.ref b] below meth c s₁.heap [] 0 0 (lw_Z below #[Value.ref b] s) (entryFrame m ([Value.ref b] : List Value).toArray 4) := by
      rw [hh0]
      exact whole_start l hbd ⟨B.exec, B.bytes, B.returns, hml, hown, hts, hX, hbl, B.notSynchronized, hgv⟩
    obtain ⟨t, a1, o, b1, b2, b3⟩ := K s₁ rfl X₀
    exact ⟨t, o, a1, b1, b2, b3⟩
theorem lw_pre_spec {args : Array Value} {s : State} (h : (Jvm.Cond.and given_1 narrow_1).before args s = true) (hr : rest_1_c.before args s = true) : ∃ (b : Addr) (xs : List Int32), lw_P b xs args s := by
  have hs := flat_of_before _ h
  have hq := flat_of_before _ hr
  have hc : (Cond.count 1).before args s = true := hs _ (by decide +kernel)
  have harr : (Cond.arrayOf (.arg 0) .int).before args s = true := hs _ (by decide +kernel)
  have hle : (Cond.le (.length (.arg 0)) (.int 6)).before args s = true := hs _ (by decide +kernel)
  have hlen : (Cond.isInt (.length (.arg 0))).before args s = true := hq _ (by decide +kernel)
  have hall : (Cond.all (.arg 0) (.isInt (.elem (.arg 0) (.index 0)))).before args s = true := hq _ (by decide +kernel)
  obtain ⟨b, xs, hb, hx⟩ := State.ints_of_pre rfl harr hlen hall
  have hsm : xs.length < 2 ^ 31 := hx.choose_spec.2.2.2
  have hev : (Term.length (.arg 0)).eval args s none [] s = some (.int xs.length.toInt32) := hx.length_eval hb
  have hv := Cond.le_ints hev (show (Term.int 6).eval args s none [] s = some (.int 6) from rfl)
  have hd : xs.length.toInt32 ≤ 6 := by
    simpa [Cond.before, Cond.holds, hv] using hle
  have hN : xs.length ≤ 6 := (Int32.ofNat_le_ofNat hsm (by decide)).mp (show Int32.ofNat xs.length ≤ Int32.ofNat 6 from hd)
  exact ⟨b, xs, Cond.one_arg hc (show args[0]? = some (.ref b) from hb), hx, hN, h⟩
theorem lw_comes (l : Launch) : Comes l x (Jvm.Cond.code x code maxLocals ret :: tables_1) room_1 (fun tb e args s => Calls_1 tb e args s ∧ rest_1 tb e args s ∧ Pre_1 tb e args s)
    (fun _ _ args s o t => lw_Q args s o t) := by
  intro p e ha hc hk s m args below hf hfit hheap happ hpre
  obtain ⟨b, xs, hP⟩ := lw_pre_spec hpre.2.2 hpre.2.1
  obtain ⟨k, o, h1, h2, h3, hQ⟩ := lw_walk l b xs p e ha hc hk s m args below hf ((Spec.applies_iff_loose hf).mp happ).1 hP trivial
  exact ⟨k, o, h1, h2, h3, hQ⟩
theorem lw_frame {s t : State} {o : Outcome} {args : Array Value} (h : Framed s o t [] 600000 7302250) :
    Framed s o t (fieldLocs frame_1_writes args s ++ arrayLocs frame_1_arrays args s ++ staticLocs frame_1_statics s) 600000 7302250 := h
theorem lw_limb (L : Cond) (hL : ∀ (args : Array Value) (s t : State), L.after args s (.returned (some (.int 1))) t = true) :
    ArmFor flags0 classFile x code maxLocals ret World_1 tables_1 room_1 Calls_1 rest_1 Pre_1
      (fun tb e a s o t => postC L tb e a s o t ∧ Framed s o t (fieldLocs frame_1_writes a s ++ arrayLocs frame_1_arrays a s ++ staticLocs frame_1_statics s) 600000 7302250) := by
  intro l _ _ _ p e ha hc hk s m args below hf hfit hheap happ hpre
  obtain ⟨k, o, h1, h2, h3, rfl, hF⟩ := lw_comes l p e ha hc hk s m args below hf hfit hheap happ hpre
  exact ⟨k, _, h1, h2, h3, hL args s _, lw_frame hF⟩
theorem i_vc : Claimed_1_1 ∧ Claimed_1_2 := ⟨lw_limb limb_1_1 (fun args s t => by simp [limb_1_1, Cond.after, Cond.holds, Cond.value]), lw_limb limb_1_2 (fun args s t => Cond.after_iff.mpr (by
  first | (rw [show limb_1_2 = Cond.eq .result (.int 1) from rfl, Cond.eq_ints (x := 1) (y := 1) rfl rfl]; simp; done) | (simp [limb_1_2, Cond.value, Term.eval]; done)))⟩

