theorem dL_law_18 : decode cL_law 18 = .ok (.iload_n 3, 1) := by decide +kernel
theorem dL_law_19 : decode cL_law 19 = .ok (.aload_n 0, 1) := by decide +kernel
theorem dL_law_20 : decode cL_law 20 = .ok (.arraylength, 1) := by decide +kernel
theorem dL_law_21 : decode cL_law 21 = .ok (.bipush 6, 2) := by decide +kernel
theorem dL_law_23 : decode cL_law 23 = .ok (.isub, 1) := by decide +kernel
theorem dL_law_24 : decode cL_law 24 = .ok (.if_icmp .gt 1836, 3) := by decide +kernel
theorem dL_law_1860 : decode cL_law 1860 = .ok (.iconst 1, 1) := by decide +kernel
theorem dL_law_1861 : decode cL_law 1861 = .ok (.ireturn, 1) := by decide +kernel
theorem dL_law_27 : decode cL_law 27 = .ok (.aload_n 0, 1) := by decide +kernel
theorem dL_law_28 : decode cL_law 28 = .ok (.iload_n 3, 1) := by decide +kernel
theorem dL_law_29 : decode cL_law 29 = .ok (.iaload, 1) := by decide +kernel
theorem dL_law_30 : decode cL_law 30 = .ok (.bipush 63, 2) := by decide +kernel
theorem dL_law_32 : decode cL_law 32 = .ok (.iand, 1) := by decide +kernel
theorem dL_law_33 : decode cL_law 33 = .ok (.tableswitch 1821 0 46 #[203, 266, 289, 302, 325, 348, 371, 394, 417, 440, 463, 486, 509, 522, 545, 579, 613, 647, 710, 764, 808, 862, 895, 908, 951, 1004, 1047, 1100, 1143, 1186, 1229, 1252, 1275, 1318, 1351, 1394, 1427, 1480, 1533, 1577, 1620, 1683, 1736, 1749, 1762, 1795, 1808], 203) := by decide +kernel
theorem dL_law_1854 : decode cL_law 1854 = .ok (.iinc 3 6, 3) := by decide +kernel
theorem dL_law_1857 : decode cL_law 1857 = .ok (.goto (-1839), 3) := by decide +kernel
def lawStep (x0 x1 x2 x3 x4 x5 : Int) (S : St) : Option St := if an x0 63 = 0 then mL_0 x1 x2 x3 x4 x5 S else if an x0 63 = 1 then mL_1 x1 x2 x3 x4 x5 S else if an x0 63 = 2 then mL_2 x1 x2 x3 x4 x5 S else if an x0 63 = 3 then mL_3 x1 x2 x3 x4 x5 S else if an x0 63 = 4 then mL_4 x1 x2 x3 x4 x5 S else if an x0 63 = 5 then mL_5 x1 x2 x3 x4 x5 S else if an x0 63 = 6 then mL_6 x1 x2 x3 x4 x5 S else if an x0 63 = 7 then mL_7 x1 x2 x3 x4 x5 S else if an x0 63 = 8 then mL_8 x1 x2 x3 x4 x5 S else if an x0 63 = 9 then mL_9 x1 x2 x3 x4 x5 S else if an x0 63 = 10 then mL_10 x1 x2 x3 x4 x5 S else if an x0 63 = 11 then mL_11 x1 x2 x3 x4 x5 S else if an x0 63 = 12 then mL_12 x1 x2 x3 x4 x5 S else if an x0 63 = 13 then mL_13 x1 x2 x3 x4 x5 S else if an x0 63 = 14 then mL_14 x1 x2 x3 x4 x5 S else if an x0 63 = 15 then mL_15 x1 x2 x3 x4 x5 S else if an x0 63 = 16 then mL_16 x1 x2 x3 x4 x5 S else if an x0 63 = 17 then mL_17 x1 x2 x3 x4 x5 S else if an x0 63 = 18 then mL_18 x1 x2 x3 x4 x5 S else if an x0 63 = 19 then mL_19 x1 x2 x3 x4 x5 S else if an x0 63 = 20 then mL_20 x1 x2 x3 x4 x5 S else if an x0 63 = 21 then mL_21 x1 x2 x3 x4 x5 S else if an x0 63 = 22 then mL_22 x1 x2 x3 x4 x5 S else if an x0 63 = 23 then mL_23 x1 x2 x3 x4 x5 S else if an x0 63 = 24 then mL_24 x1 x2 x3 x4 x5 S else if an x0 63 = 25 then mL_25 x1 x2 x3 x4 x5 S else if an x0 63 = 26 then mL_26 x1 x2 x3 x4 x5 S else if an x0 63 = 27 then mL_27 x1 x2 x3 x4 x5 S else if an x0 63 = 28 then mL_28 x1 x2 x3 x4 x5 S else if an x0 63 = 29 then mL_29 x1 x2 x3 x4 x5 S else if an x0 63 = 30 then mL_30 x1 x2 x3 x4 x5 S else if an x0 63 = 31 then mL_31 x1 x2 x3 x4 x5 S else if an x0 63 = 32 then mL_32 x1 x2 x3 x4 x5 S else if an x0 63 = 33 then mL_33 x1 x2 x3 x4 x5 S else if an x0 63 = 34 then mL_34 x1 x2 x3 x4 x5 S else if an x0 63 = 35 then mL_35 x1 x2 x3 x4 x5 S else if an x0 63 = 36 then mL_36 x1 x2 x3 x4 x5 S else if an x0 63 = 37 then mL_37 x1 x2 x3 x4 x5 S else if an x0 63 = 38 then mL_38 x1 x2 x3 x4 x5 S else if an x0 63 = 39 then mL_39 x1 x2 x3 x4 x5 S else if an x0 63 = 40 then mL_40 x1 x2 x3 x4 x5 S else if an x0 63 = 41 then mL_41 x1 x2 x3 x4 x5 S else if an x0 63 = 42 then mL_42 x1 x2 x3 x4 x5 S else if an x0 63 = 43 then mL_43 x1 x2 x3 x4 x5 S else if an x0 63 = 44 then mL_44 x1 x2 x3 x4 x5 S else if an x0 63 = 45 then mL_45 x1 x2 x3 x4 x5 S else if an x0 63 = 46 then mL_46 x1 x2 x3 x4 x5 S else some S
theorem inI_toInt (x : Int32) : inI x.toInt := ⟨Int32.le_toInt x, by have := Int32.toInt_lt x; omega⟩
theorem inI_an (a z : Int) : inI (an a z) := inI_toInt _
/-- an invariant of calls: held at first, kept by each step, within the room -/
def isInv (Inv : Nat → St → Prop) : Prop := Inv 0 stI ∧ (∀ (n : Nat) (S : St), n ≤ 512 → Inv n S → 105 ≤ nn S ∧ gle S OM) ∧ ∀ (n : Nat) (S : St), n < 512 → Inv n S → ∀ x0 x1 x2 x3 x4 x5 : Int, inI x0 → inI x1 → inI x2 → inI x3 → inI x4 → inI x5 → ∃ S1, lawStep x0 x1 x2 x3 x4 x5 S = some S1 ∧ Inv (n + 1) S1
theorem lc_out {p : Program} {l : Launch} {e : Env} {s : State} {m : MethodId} {below : List Frame} {meth : Method} {c : Code} {q0 : Nat} {xs : Nat → Int32} {D : va_G} {cy : Nat → ClassId} {b : Nat} {L : Nat} (hL : L ≤ 3072) (C0 : lw_At p s m meth c q0 L xs) (hbA : ¬ gA b q0) {S0 : St} {ce sl : Nat} {H : Heap} {locs : List Loc} (hG : gX D cy b s H locs S0 ce sl OZ OM) {ls : Array Slot} {i : Int} (hi : 0 ≤ i ∧ i ≤ 3078) (hl : lv_has ls 4 [(3, .int (iI i)), (2, .ref (b + 80)), (1, .ref (b + 0)), (0, .ref q0)]) (hv : (L : Int) - 6 < i) : W p l e room_1 s m #[Value.ref q0] below meth c H locs ce sl (lw_Z below #[Value.ref q0] s) (F0 m 18 ls []) := by
  obtain ⟨hx, hb, hr, hml, hown, hts, hX, hbl, hlocks, hgv⟩ := id C0
  refine lv_iload_n hx hb dL_law_18 rfl (lv_at hl 0 rfl) ?_
  refine lv_aload_n hx hb dL_law_19 rfl (lv_at hl 3 rfl) ?_
  refine va_slen hx hb hX hbl hbA hG.1.2.2.1 dL_law_20 ?_
  refine lv_bipush (v := iI 6) hx hb dL_law_21 (by decide) ?_
  refine gi_sub (a := (L : Int)) hx hb dL_law_23 ?_
  refine gi_icmp_gt (tgt := 1860) hx hb dL_law_24 (by decide) (by omega) (by omega) (fun _ => ?_) (fun c1 => absurd hv (by omega))
  refine lv_iconst (v := 1) hx hb dL_law_1860 (by decide) ?_
  refine va_forget (fun q hq => by have := hG.1.2.2.1.2.2 q hq; have h6 : s.heap.size = b + (nn OZ - 3) := hG.2.2.2.2.2; rw [show nn OZ - 3 = 0 by decide] at h6; unfold gA at this; omega) ?_
  refine W.widen (k := 600000) (n := 7302250) (by have := hG.rcL; exact this) (by have := hG.rsL; exact this) ?_
  exact lw_ret hx hb hr hlocks dL_law_1861
set_option maxHeartbeats 4000000 in
theorem lc_body {p : Program} {l : Launch} {e : Env} {s : State} {m : MethodId} {below : List Frame} {meth : Method} {c : Code} {q0 : Nat} {xs : Nat → Int32} {D : va_G} {cy : Nat → ClassId} {b : Nat} {L : Nat} (hL : L ≤ 3072) (C0 : lw_At p s m meth c q0 L xs) (hbA : ¬ gA b q0) {i : Int} (hi : 0 ≤ i ∧ i + 6 ≤ L) {x0 x1 x2 x3 x4 x5 : Int} (hx0 : (xs i.toNat).toInt = x0) (hx1 : (xs (i + 1).toNat).toInt = x1) (hx2 : (xs (i + 2).toNat).toInt = x2) (hx3 : (xs (i + 3).toNat).toInt = x3) (hx4 : (xs (i + 4).toNat).toInt = x4) (hx5 : (xs (i + 5).toNat).toInt = x5) {S0 S1 : St} (hM : lawStep x0 x1 x2 x3 x4 x5 S0 = some S1) (hOM : gle S1 OM) {ce sl : Nat} {H : Heap} {locs : List Loc} (hG : gX D cy b s H locs S0 ce sl OZ OM) {ls : Array Slot} (hl : lv_has ls 4 [(3, .int (iI i)), (2, .ref (b + 80)), (1, .ref (b + 0)), (0, .ref q0)]) (kk : ∀ (ce sl : Nat) (H : Heap) (locs : List Loc) (ls : Array Slot), gX D cy b s H locs S1 ce sl OZ OM → lv_has ls 4 [(3, .int (iI i)), (2, .ref (b + 80)), (1, .ref (b + 0)), (0, .ref q0)] → W p l e room_1 s m #[Value.ref q0] below meth c H locs ce sl (lw_Z below #[Value.ref q0] s) (F0 m 1854 ls [])) : W p l e room_1 s m #[Value.ref q0] below meth c H locs ce sl (lw_Z below #[Value.ref q0] s) (F0 m 18 ls []) := by
  obtain ⟨hx, hb, hr, hml, hown, hts, hX, hbl, hlocks, hgv⟩ := id C0
  refine lv_iload_n hx hb dL_law_18 rfl (lv_at hl 0 rfl) ?_
  refine lv_aload_n hx hb dL_law_19 rfl (lv_at hl 3 rfl) ?_
  refine va_slen hx hb hX hbl hbA hG.1.2.2.1 dL_law_20 ?_
  refine lv_bipush (v := iI 6) hx hb dL_law_21 (by decide) ?_
  refine gi_sub (a := (L : Int)) hx hb dL_law_23 ?_
  refine gi_icmp_gt (tgt := 1860) hx hb dL_law_24 (by decide) (by omega) (by omega) (fun c1 => absurd c1 (by omega)) (fun _ => ?_)
  refine lv_aload_n hx hb dL_law_27 rfl (lv_at hl 3 rfl) ?_
  refine lv_iload_n hx hb dL_law_28 rfl (lv_at hl 0 rfl) ?_
  refine n_sld C0 hbA hG (by omega) hx0 dL_law_29 ?_
  refine lv_bipush (v := iI 63) hx hb dL_law_30 (by decide) ?_
  refine gi_and hx hb dL_law_32 ?_
  unfold lawStep at hM
  have hin := inI_an x0 63
  by_cases h0 : an x0 63 = 0
  · rw [if_pos h0] at hM
    refine gi_tsI (off := 203) (tgt := 236) hx hb 0 dL_law_33 hin (by omega) (by omega) (by rfl) (by decide) ?_
    exact lc_0 hL C0 hbA hi hx1 hx2 hx3 hx4 hx5 hM hOM hG hl kk
  rw [if_neg h0] at hM
  by_cases h1 : an x0 63 = 1
  · rw [if_pos h1] at hM
    refine gi_tsI (off := 266) (tgt := 299) hx hb 1 dL_law_33 hin (by omega) (by omega) (by rfl) (by decide) ?_
    exact lc_1 hL C0 hbA hi hx1 hx2 hx3 hx4 hx5 hM hOM hG hl kk
  rw [if_neg h1] at hM
  by_cases h2 : an x0 63 = 2
  · rw [if_pos h2] at hM
    refine gi_tsI (off := 289) (tgt := 322) hx hb 2 dL_law_33 hin (by omega) (by omega) (by rfl) (by decide) ?_
    exact lc_2 hL C0 hbA hi hx1 hx2 hx3 hx4 hx5 hM hOM hG hl kk
  rw [if_neg h2] at hM
  by_cases h3 : an x0 63 = 3
  · rw [if_pos h3] at hM
    refine gi_tsI (off := 302) (tgt := 335) hx hb 3 dL_law_33 hin (by omega) (by omega) (by rfl) (by decide) ?_
    exact lc_3 hL C0 hbA hi hx1 hx2 hx3 hx4 hx5 hM hOM hG hl kk
  rw [if_neg h3] at hM
  by_cases h4 : an x0 63 = 4
  · rw [if_pos h4] at hM
    refine gi_tsI (off := 325) (tgt := 358) hx hb 4 dL_law_33 hin (by omega) (by omega) (by rfl) (by decide) ?_
    exact lc_4 hL C0 hbA hi hx1 hx2 hx3 hx4 hx5 hM hOM hG hl kk
  rw [if_neg h4] at hM
  by_cases h5 : an x0 63 = 5
  · rw [if_pos h5] at hM
    refine gi_tsI (off := 348) (tgt := 381) hx hb 5 dL_law_33 hin (by omega) (by omega) (by rfl) (by decide) ?_
    exact lc_5 hL C0 hbA hi hx1 hx2 hx3 hx4 hx5 hM hOM hG hl kk
  rw [if_neg h5] at hM
  by_cases h6 : an x0 63 = 6
  · rw [if_pos h6] at hM
    refine gi_tsI (off := 371) (tgt := 404) hx hb 6 dL_law_33 hin (by omega) (by omega) (by rfl) (by decide) ?_
    exact lc_6 hL C0 hbA hi hx1 hx2 hx3 hx4 hx5 hM hOM hG hl kk
  rw [if_neg h6] at hM
  by_cases h7 : an x0 63 = 7
  · rw [if_pos h7] at hM
    refine gi_tsI (off := 394) (tgt := 427) hx hb 7 dL_law_33 hin (by omega) (by omega) (by rfl) (by decide) ?_
    exact lc_7 hL C0 hbA hi hx1 hx2 hx3 hx4 hx5 hM hOM hG hl kk
  rw [if_neg h7] at hM
  by_cases h8 : an x0 63 = 8
  · rw [if_pos h8] at hM
    refine gi_tsI (off := 417) (tgt := 450) hx hb 8 dL_law_33 hin (by omega) (by omega) (by rfl) (by decide) ?_
    exact lc_8 hL C0 hbA hi hx1 hx2 hx3 hx4 hx5 hM hOM hG hl kk
  rw [if_neg h8] at hM
  by_cases h9 : an x0 63 = 9
  · rw [if_pos h9] at hM
    refine gi_tsI (off := 440) (tgt := 473) hx hb 9 dL_law_33 hin (by omega) (by omega) (by rfl) (by decide) ?_
    exact lc_9 hL C0 hbA hi hx1 hx2 hx3 hx4 hx5 hM hOM hG hl kk
  rw [if_neg h9] at hM
  by_cases h10 : an x0 63 = 10
  · rw [if_pos h10] at hM
    refine gi_tsI (off := 463) (tgt := 496) hx hb 10 dL_law_33 hin (by omega) (by omega) (by rfl) (by decide) ?_
    exact lc_10 hL C0 hbA hi hx1 hx2 hx3 hx4 hx5 hM hOM hG hl kk
  rw [if_neg h10] at hM
  by_cases h11 : an x0 63 = 11
  · rw [if_pos h11] at hM
    refine gi_tsI (off := 486) (tgt := 519) hx hb 11 dL_law_33 hin (by omega) (by omega) (by rfl) (by decide) ?_
    exact lc_11 hL C0 hbA hi hx1 hx2 hx3 hx4 hx5 hM hOM hG hl kk
  rw [if_neg h11] at hM
  by_cases h12 : an x0 63 = 12
  · rw [if_pos h12] at hM
    refine gi_tsI (off := 509) (tgt := 542) hx hb 12 dL_law_33 hin (by omega) (by omega) (by rfl) (by decide) ?_
    exact lc_12 hL C0 hbA hi hx1 hx2 hx3 hx4 hx5 hM hOM hG hl kk
  rw [if_neg h12] at hM
  by_cases h13 : an x0 63 = 13
  · rw [if_pos h13] at hM
    refine gi_tsI (off := 522) (tgt := 555) hx hb 13 dL_law_33 hin (by omega) (by omega) (by rfl) (by decide) ?_
    exact lc_13 hL C0 hbA hi hx1 hx2 hx3 hx4 hx5 hM hOM hG hl kk
  rw [if_neg h13] at hM
  by_cases h14 : an x0 63 = 14
  · rw [if_pos h14] at hM
    refine gi_tsI (off := 545) (tgt := 578) hx hb 14 dL_law_33 hin (by omega) (by omega) (by rfl) (by decide) ?_
    exact lc_14 hL C0 hbA hi hx1 hx2 hx3 hx4 hx5 hM hOM hG hl kk
  rw [if_neg h14] at hM
  by_cases h15 : an x0 63 = 15
  · rw [if_pos h15] at hM
    refine gi_tsI (off := 579) (tgt := 612) hx hb 15 dL_law_33 hin (by omega) (by omega) (by rfl) (by decide) ?_
    exact lc_15 hL C0 hbA hi hx1 hx2 hx3 hx4 hx5 hM hOM hG hl kk
  rw [if_neg h15] at hM
  by_cases h16 : an x0 63 = 16
  · rw [if_pos h16] at hM
    refine gi_tsI (off := 613) (tgt := 646) hx hb 16 dL_law_33 hin (by omega) (by omega) (by rfl) (by decide) ?_
    exact lc_16 hL C0 hbA hi hx1 hx2 hx3 hx4 hx5 hM hOM hG hl kk
  rw [if_neg h16] at hM
  by_cases h17 : an x0 63 = 17
  · rw [if_pos h17] at hM
    refine gi_tsI (off := 647) (tgt := 680) hx hb 17 dL_law_33 hin (by omega) (by omega) (by rfl) (by decide) ?_
    exact lc_17 hL C0 hbA hi hx1 hx2 hx3 hx4 hx5 hM hOM hG hl kk
  rw [if_neg h17] at hM
  by_cases h18 : an x0 63 = 18
  · rw [if_pos h18] at hM
    refine gi_tsI (off := 710) (tgt := 743) hx hb 18 dL_law_33 hin (by omega) (by omega) (by rfl) (by decide) ?_
    exact lc_18 hL C0 hbA hi hx1 hx2 hx3 hx4 hx5 hM hOM hG hl kk
  rw [if_neg h18] at hM
  by_cases h19 : an x0 63 = 19
  · rw [if_pos h19] at hM
    refine gi_tsI (off := 764) (tgt := 797) hx hb 19 dL_law_33 hin (by omega) (by omega) (by rfl) (by decide) ?_
    exact lc_19 hL C0 hbA hi hx1 hx2 hx3 hx4 hx5 hM hOM hG hl kk
  rw [if_neg h19] at hM
  by_cases h20 : an x0 63 = 20
  · rw [if_pos h20] at hM
    refine gi_tsI (off := 808) (tgt := 841) hx hb 20 dL_law_33 hin (by omega) (by omega) (by rfl) (by decide) ?_
    exact lc_20 hL C0 hbA hi hx1 hx2 hx3 hx4 hx5 hM hOM hG hl kk
  rw [if_neg h20] at hM
  by_cases h21 : an x0 63 = 21
  · rw [if_pos h21] at hM
    refine gi_tsI (off := 862) (tgt := 895) hx hb 21 dL_law_33 hin (by omega) (by omega) (by rfl) (by decide) ?_
    exact lc_21 hL C0 hbA hi hx1 hx2 hx3 hx4 hx5 hM hOM hG hl kk
  rw [if_neg h21] at hM
  by_cases h22 : an x0 63 = 22
  · rw [if_pos h22] at hM
    refine gi_tsI (off := 895) (tgt := 928) hx hb 22 dL_law_33 hin (by omega) (by omega) (by rfl) (by decide) ?_
    exact lc_22 hL C0 hbA hi hx1 hx2 hx3 hx4 hx5 hM hOM hG hl kk
  rw [if_neg h22] at hM
  by_cases h23 : an x0 63 = 23
  · rw [if_pos h23] at hM
    refine gi_tsI (off := 908) (tgt := 941) hx hb 23 dL_law_33 hin (by omega) (by omega) (by rfl) (by decide) ?_
    exact lc_23 hL C0 hbA hi hx1 hx2 hx3 hx4 hx5 hM hOM hG hl kk
  rw [if_neg h23] at hM
  by_cases h24 : an x0 63 = 24
  · rw [if_pos h24] at hM
    refine gi_tsI (off := 951) (tgt := 984) hx hb 24 dL_law_33 hin (by omega) (by omega) (by rfl) (by decide) ?_
    exact lc_24 hL C0 hbA hi hx1 hx2 hx3 hx4 hx5 hM hOM hG hl kk
  rw [if_neg h24] at hM
  by_cases h25 : an x0 63 = 25
  · rw [if_pos h25] at hM
    refine gi_tsI (off := 1004) (tgt := 1037) hx hb 25 dL_law_33 hin (by omega) (by omega) (by rfl) (by decide) ?_
    exact lc_25 hL C0 hbA hi hx1 hx2 hx3 hx4 hx5 hM hOM hG hl kk
  rw [if_neg h25] at hM
  by_cases h26 : an x0 63 = 26
  · rw [if_pos h26] at hM
    refine gi_tsI (off := 1047) (tgt := 1080) hx hb 26 dL_law_33 hin (by omega) (by omega) (by rfl) (by decide) ?_
    exact lc_26 hL C0 hbA hi hx1 hx2 hx3 hx4 hx5 hM hOM hG hl kk
  rw [if_neg h26] at hM
  by_cases h27 : an x0 63 = 27
  · rw [if_pos h27] at hM
    refine gi_tsI (off := 1100) (tgt := 1133) hx hb 27 dL_law_33 hin (by omega) (by omega) (by rfl) (by decide) ?_
    exact lc_27 hL C0 hbA hi hx1 hx2 hx3 hx4 hx5 hM hOM hG hl kk
  rw [if_neg h27] at hM
  by_cases h28 : an x0 63 = 28
  · rw [if_pos h28] at hM
    refine gi_tsI (off := 1143) (tgt := 1176) hx hb 28 dL_law_33 hin (by omega) (by omega) (by rfl) (by decide) ?_
    exact lc_28 hL C0 hbA hi hx1 hx2 hx3 hx4 hx5 hM hOM hG hl kk
  rw [if_neg h28] at hM
  by_cases h29 : an x0 63 = 29
  · rw [if_pos h29] at hM
    refine gi_tsI (off := 1186) (tgt := 1219) hx hb 29 dL_law_33 hin (by omega) (by omega) (by rfl) (by decide) ?_
    exact lc_29 hL C0 hbA hi hx1 hx2 hx3 hx4 hx5 hM hOM hG hl kk
  rw [if_neg h29] at hM
  by_cases h30 : an x0 63 = 30
  · rw [if_pos h30] at hM
    refine gi_tsI (off := 1229) (tgt := 1262) hx hb 30 dL_law_33 hin (by omega) (by omega) (by rfl) (by decide) ?_
    exact lc_30 hL C0 hbA hi hx1 hx2 hx3 hx4 hx5 hM hOM hG hl kk
  rw [if_neg h30] at hM
  by_cases h31 : an x0 63 = 31
  · rw [if_pos h31] at hM
    refine gi_tsI (off := 1252) (tgt := 1285) hx hb 31 dL_law_33 hin (by omega) (by omega) (by rfl) (by decide) ?_
    exact lc_31 hL C0 hbA hi hx1 hx2 hx3 hx4 hx5 hM hOM hG hl kk
  rw [if_neg h31] at hM
  by_cases h32 : an x0 63 = 32
  · rw [if_pos h32] at hM
    refine gi_tsI (off := 1275) (tgt := 1308) hx hb 32 dL_law_33 hin (by omega) (by omega) (by rfl) (by decide) ?_
    exact lc_32 hL C0 hbA hi hx1 hx2 hx3 hx4 hx5 hM hOM hG hl kk
  rw [if_neg h32] at hM
  by_cases h33 : an x0 63 = 33
  · rw [if_pos h33] at hM
    refine gi_tsI (off := 1318) (tgt := 1351) hx hb 33 dL_law_33 hin (by omega) (by omega) (by rfl) (by decide) ?_
    exact lc_33 hL C0 hbA hi hx1 hx2 hx3 hx4 hx5 hM hOM hG hl kk
  rw [if_neg h33] at hM
  by_cases h34 : an x0 63 = 34
  · rw [if_pos h34] at hM
    refine gi_tsI (off := 1351) (tgt := 1384) hx hb 34 dL_law_33 hin (by omega) (by omega) (by rfl) (by decide) ?_
    exact lc_34 hL C0 hbA hi hx1 hx2 hx3 hx4 hx5 hM hOM hG hl kk
  rw [if_neg h34] at hM
  by_cases h35 : an x0 63 = 35
  · rw [if_pos h35] at hM
    refine gi_tsI (off := 1394) (tgt := 1427) hx hb 35 dL_law_33 hin (by omega) (by omega) (by rfl) (by decide) ?_
    exact lc_35 hL C0 hbA hi hx1 hx2 hx3 hx4 hx5 hM hOM hG hl kk
  rw [if_neg h35] at hM
  by_cases h36 : an x0 63 = 36
  · rw [if_pos h36] at hM
    refine gi_tsI (off := 1427) (tgt := 1460) hx hb 36 dL_law_33 hin (by omega) (by omega) (by rfl) (by decide) ?_
    exact lc_36 hL C0 hbA hi hx1 hx2 hx3 hx4 hx5 hM hOM hG hl kk
  rw [if_neg h36] at hM
  by_cases h37 : an x0 63 = 37
  · rw [if_pos h37] at hM
    refine gi_tsI (off := 1480) (tgt := 1513) hx hb 37 dL_law_33 hin (by omega) (by omega) (by rfl) (by decide) ?_
    exact lc_37 hL C0 hbA hi hx1 hx2 hx3 hx4 hx5 hM hOM hG hl kk
  rw [if_neg h37] at hM
  by_cases h38 : an x0 63 = 38
  · rw [if_pos h38] at hM
    refine gi_tsI (off := 1533) (tgt := 1566) hx hb 38 dL_law_33 hin (by omega) (by omega) (by rfl) (by decide) ?_
    exact lc_38 hL C0 hbA hi hx1 hx2 hx3 hx4 hx5 hM hOM hG hl kk
  rw [if_neg h38] at hM
  by_cases h39 : an x0 63 = 39
  · rw [if_pos h39] at hM
    refine gi_tsI (off := 1577) (tgt := 1610) hx hb 39 dL_law_33 hin (by omega) (by omega) (by rfl) (by decide) ?_
    exact lc_39 hL C0 hbA hi hx1 hx2 hx3 hx4 hx5 hM hOM hG hl kk
  rw [if_neg h39] at hM
  by_cases h40 : an x0 63 = 40
  · rw [if_pos h40] at hM
    refine gi_tsI (off := 1620) (tgt := 1653) hx hb 40 dL_law_33 hin (by omega) (by omega) (by rfl) (by decide) ?_
    exact lc_40 hL C0 hbA hi hx1 hx2 hx3 hx4 hx5 hM hOM hG hl kk
  rw [if_neg h40] at hM
  by_cases h41 : an x0 63 = 41
  · rw [if_pos h41] at hM
    refine gi_tsI (off := 1683) (tgt := 1716) hx hb 41 dL_law_33 hin (by omega) (by omega) (by rfl) (by decide) ?_
    exact lc_41 hL C0 hbA hi hx1 hx2 hx3 hx4 hx5 hM hOM hG hl kk
  rw [if_neg h41] at hM
  by_cases h42 : an x0 63 = 42
  · rw [if_pos h42] at hM
    refine gi_tsI (off := 1736) (tgt := 1769) hx hb 42 dL_law_33 hin (by omega) (by omega) (by rfl) (by decide) ?_
    exact lc_42 hL C0 hbA hi hx1 hx2 hx3 hx4 hx5 hM hOM hG hl kk
  rw [if_neg h42] at hM
  by_cases h43 : an x0 63 = 43
  · rw [if_pos h43] at hM
    refine gi_tsI (off := 1749) (tgt := 1782) hx hb 43 dL_law_33 hin (by omega) (by omega) (by rfl) (by decide) ?_
    exact lc_43 hL C0 hbA hi hx1 hx2 hx3 hx4 hx5 hM hOM hG hl kk
  rw [if_neg h43] at hM
  by_cases h44 : an x0 63 = 44
  · rw [if_pos h44] at hM
    refine gi_tsI (off := 1762) (tgt := 1795) hx hb 44 dL_law_33 hin (by omega) (by omega) (by rfl) (by decide) ?_
    exact lc_44 hL C0 hbA hi hx1 hx2 hx3 hx4 hx5 hM hOM hG hl kk
  rw [if_neg h44] at hM
  by_cases h45 : an x0 63 = 45
  · rw [if_pos h45] at hM
    refine gi_tsI (off := 1795) (tgt := 1828) hx hb 45 dL_law_33 hin (by omega) (by omega) (by rfl) (by decide) ?_
    exact lc_45 hL C0 hbA hi hx1 hx2 hx3 hx4 hx5 hM hOM hG hl kk
  rw [if_neg h45] at hM
  by_cases h46 : an x0 63 = 46
  · rw [if_pos h46] at hM
    refine gi_tsI (off := 1808) (tgt := 1841) hx hb 46 dL_law_33 hin (by omega) (by omega) (by rfl) (by decide) ?_
    exact lc_46 hL C0 hbA hi hx1 hx2 hx3 hx4 hx5 hM hOM hG hl kk
  rw [if_neg h46] at hM
  cases hM
  refine gi_tsO (tgt := 1854) hx hb dL_law_33 hin (by omega) (by decide) ?_
  exact kk _ _ H locs ls hG hl
theorem lc_loop {p : Program} {l : Launch} {e : Env} {s : State} {m : MethodId} {below : List Frame} {meth : Method} {c : Code} {q0 : Nat} {xs : Nat → Int32} {D : va_G} {cy : Nat → ClassId} {b : Nat} {L : Nat} (hL : L ≤ 3072) (C0 : lw_At p s m meth c q0 L xs) (hbA : ¬ gA b q0) {Inv : Nat → St → Prop} (hI : isInv Inv) : ∀ (k n : Nat), (L : Int) - 6 * n < 6 * (k + 1) → n ≤ 512 → 6 * (n : Int) ≤ L → ∀ (S0 : St), Inv n S0 → ∀ (ce sl : Nat) (H : Heap) (locs : List Loc) (ls : Array Slot), gX D cy b s H locs S0 ce sl OZ OM → lv_has ls 4 [(3, .int (iI (6 * (n : Int)))), (2, .ref (b + 80)), (1, .ref (b + 0)), (0, .ref q0)] → W p l e room_1 s m #[Value.ref q0] below meth c H locs ce sl (lw_Z below #[Value.ref q0] s) (F0 m 18 ls []) := by
  intro k
  induction k with
  | zero =>
    intro n hk hn hnL S0 hS ce sl H locs ls hG hl
    exact lc_out hL C0 hbA hG (by omega) hl (by omega)
  | succ k ih =>
    intro n hk hn hnL S0 hS ce sl H locs ls hG hl
    by_cases hv : (L : Int) - 6 < 6 * (n : Int)
    · exact lc_out hL C0 hbA hG (by omega) hl (by omega)
    · obtain ⟨S1, hM, hS1⟩ := hI.2.2 n S0 (by omega) hS (xs (6 * (n : Int)).toNat).toInt (xs (6 * (n : Int) + 1).toNat).toInt (xs (6 * (n : Int) + 2).toNat).toInt (xs (6 * (n : Int) + 3).toNat).toInt (xs (6 * (n : Int) + 4).toNat).toInt (xs (6 * (n : Int) + 5).toNat).toInt (inI_toInt _) (inI_toInt _) (inI_toInt _) (inI_toInt _) (inI_toInt _) (inI_toInt _)
      have hb1 := hI.2.1 (n + 1) S1 (by omega) hS1
      refine lc_body hL C0 hbA (i := 6 * (n : Int)) (by omega) rfl rfl rfl rfl rfl rfl hM hb1.2 hG hl (fun ce sl H locs ls hG hl => ?_)
      have hx := C0.1
      have hb := C0.2.1
      refine lv_iinc (v := iI (6 * ((n + 1 : Nat) : Int))) (lv' := [(3, .int (iI (6 * ((n + 1 : Nat) : Int)))), (2, .ref (b + 80)), (1, .ref (b + 0)), (0, .ref q0)]) hx hb dL_law_1854 hl (k := 0) rfl ((iI_add (6 * (n : Int)) 6).trans (congrArg iI (by omega))) (by decide) rfl (fun ls hl => ?_)
      refine lv_goto (tgt := 18) hx hb dL_law_1857 (by decide) ?_
      exact ih (n + 1) (by omega) (by omega) (by omega) S1 hS1 ce sl H locs ls hG hl
