theorem dJ7_fill_53178_5 : decode cJ7_fill_53178 5 = .ok (.iload_n 2, 1) := by decide +kernel
theorem dJ7_fill_53178_6 : decode cJ7_fill_53178 6 = .ok (.iload_n 3, 1) := by decide +kernel
theorem dJ7_fill_53178_7 : decode cJ7_fill_53178 7 = .ok (.if_icmp .ge 13, 3) := by decide +kernel
theorem dJ7_fill_53178_20 : decode cJ7_fill_53178 20 = .ok (.return_, 1) := by decide +kernel
theorem dJ7_fill_53178_10 : decode cJ7_fill_53178 10 = .ok (.aload_n 0, 1) := by decide +kernel
theorem dJ7_fill_53178_11 : decode cJ7_fill_53178 11 = .ok (.iload_n 2, 1) := by decide +kernel
theorem dJ7_fill_53178_12 : decode cJ7_fill_53178 12 = .ok (.iload_n 1, 1) := by decide +kernel
theorem dJ7_fill_53178_13 : decode cJ7_fill_53178 13 = .ok (.iastore, 1) := by decide +kernel
theorem dJ7_fill_53178_14 : decode cJ7_fill_53178 14 = .ok (.iinc 2 1, 3) := by decide +kernel
theorem dJ7_fill_53178_17 : decode cJ7_fill_53178 17 = .ok (.goto (-12), 3) := by decide +kernel
theorem dJ7_fill_53178_0 : decode cJ7_fill_53178 0 = .ok (.iconst 0, 1) := by decide +kernel
theorem dJ7_fill_53178_1 : decode cJ7_fill_53178 1 = .ok (.istore_n 2, 1) := by decide +kernel
theorem dJ7_fill_53178_2 : decode cJ7_fill_53178 2 = .ok (.aload_n 0, 1) := by decide +kernel
theorem dJ7_fill_53178_3 : decode cJ7_fill_53178 3 = .ok (.arraylength, 1) := by decide +kernel
theorem dJ7_fill_53178_4 : decode cJ7_fill_53178 4 = .ok (.istore_n 3, 1) := by decide +kernel
theorem dJ7_fill_49daa_5 : decode cJ7_fill_49daa 5 = .ok (.iload_n 2, 1) := by decide +kernel
theorem dJ7_fill_49daa_6 : decode cJ7_fill_49daa 6 = .ok (.iload_n 3, 1) := by decide +kernel
theorem dJ7_fill_49daa_7 : decode cJ7_fill_49daa 7 = .ok (.if_icmp .ge 13, 3) := by decide +kernel
theorem dJ7_fill_49daa_20 : decode cJ7_fill_49daa 20 = .ok (.return_, 1) := by decide +kernel
theorem dJ7_fill_49daa_10 : decode cJ7_fill_49daa 10 = .ok (.aload_n 0, 1) := by decide +kernel
theorem dJ7_fill_49daa_11 : decode cJ7_fill_49daa 11 = .ok (.iload_n 2, 1) := by decide +kernel
theorem dJ7_fill_49daa_12 : decode cJ7_fill_49daa 12 = .ok (.iload_n 1, 1) := by decide +kernel
theorem dJ7_fill_49daa_13 : decode cJ7_fill_49daa 13 = .ok (.bastore, 1) := by decide +kernel
theorem dJ7_fill_49daa_14 : decode cJ7_fill_49daa 14 = .ok (.iinc 2 1, 3) := by decide +kernel
theorem dJ7_fill_49daa_17 : decode cJ7_fill_49daa 17 = .ok (.goto (-12), 3) := by decide +kernel
theorem dJ7_fill_49daa_0 : decode cJ7_fill_49daa 0 = .ok (.iconst 0, 1) := by decide +kernel
theorem dJ7_fill_49daa_1 : decode cJ7_fill_49daa 1 = .ok (.istore_n 2, 1) := by decide +kernel
theorem dJ7_fill_49daa_2 : decode cJ7_fill_49daa 2 = .ok (.aload_n 0, 1) := by decide +kernel
theorem dJ7_fill_49daa_3 : decode cJ7_fill_49daa 3 = .ok (.arraylength, 1) := by decide +kernel
theorem dJ7_fill_49daa_4 : decode cJ7_fill_49daa 4 = .ok (.istore_n 3, 1) := by decide +kernel
set_option maxHeartbeats 4000000 in
set_option maxRecDepth 100000 in
theorem qJ7_fill_53178 (l : Launch) {D : va_G} {cy : Nat → ClassId} {b n j N : Nat} (hj : j < n) (hN : N < 2 ^ 31) {E : Nat → va_E} {f0 : Nat → Int32} (h : E j = .inl (cy 1, N, .inl f0)) (a2 : Int32) : gV l yJ7_fill_53178 cJ7_fill_53178 4 0 0 0 D cy b n E [.ref (b + j), .int a2] (fun u => u.1 = n ∧ u.2 = upE E j (.inl (cy 1, N, .inl (fun _ => a2)))) := by
  refine gV_of (by decide) (Nat.le_of_ble_eq_true rfl) ?_
  intro p e s m args below meth c S hr hlk hin hsz ls hl hG
  have hx := S.1
  have hb := S.2.1
  have hl : lv_has ls 4 [(0, .ref (b + j)), (1, .int a2)] := hl
  have loop : ∀ (t k : Nat) (f : Nat → Int32) (H : Heap) (locs : List Loc) (ls : Array Slot), k ≤ N → N + 1 ≤ k + t → (∀ i, i < k → f i = a2) → gW D cy b n s H locs (upE E j (.inl (cy 1, N, .inl f))) → lv_has ls 4 [(2, .int (nI k)), (3, .int (nI N)), (0, .ref (b + j)), (1, .int a2)] → W p l e (gRm 0 0 0) s m args below meth c H locs 0 0 (gQV D cy b s args below 0 0 (fun u => u.1 = n ∧ u.2 = upE E j (.inl (cy 1, N, .inl (fun _ => a2))))) (F0 m 5 ls []) := by
    intro t
    induction t with
    | zero => intro k f H locs ls h1 h2; exact absurd h2 (by omega)
    | succ t ih =>
      intro k f H locs ls hk ht hf hG hl
      refine lv_iload_n hx hb dJ7_fill_53178_5 rfl (lv_at hl 0 rfl) ?_
      refine lv_iload_n hx hb dJ7_fill_53178_6 rfl (lv_at hl 1 rfl) ?_
      refine lv_icmp_ge (tgt := 20) hx hb dJ7_fill_53178_7 (by decide) (fun c1 => ?_) (fun c1 => ?_)
      · have hk2 : k = N := by have := (nI_leI hN (by omega)).mp c1; omega
        subst hk2
        have hG := gW_eq (gW_ci (g := fun _ => a2) hG upE_s hj hf) upE_i
        exact g_vret S hr hlk hG (by omega) dJ7_fill_53178_20 ⟨Nat.le_refl 0, Nat.le_refl 0⟩ ⟨rfl, rfl⟩
      · have hk2 : k < N := by have := mt (nI_leI hN (by omega)).mpr c1; omega
        refine lv_aload_n hx hb dJ7_fill_53178_10 rfl (lv_at hl 2 rfl) ?_
        refine lv_iload_n hx hb dJ7_fill_53178_11 rfl (lv_at hl 0 rfl) ?_
        refine lv_iload_n hx hb dJ7_fill_53178_12 rfl (lv_at hl 3 rfl) ?_
        refine g_iast S hG j upE_s hj dJ7_fill_53178_13 (vp_in_nI hk2 hN) (fun H locs hG => ?_)
        rw [upE_i, nI_clamp (by omega)] at hG
        refine lv_iinc (v := nI (k + 1)) (lv' := [(2, .int (nI (k + 1))), (3, .int (nI N)), (0, .ref (b + j)), (1, .int a2)]) hx hb dJ7_fill_53178_14 hl (k := 0) rfl (nI_1 k) (by decide) rfl (fun ls hl => ?_)
        refine lv_goto (tgt := 5) hx hb dJ7_fill_53178_17 (by decide) ?_
        refine ih (k + 1) _ H locs ls (by omega) (by omega) (fun i hi => ?_) hG hl
        by_cases hik : i = k
        · subst hik; rw [pk_us]
        · rw [pk_un hik]; exact hf i (by omega)
  refine lv_iconst (v := 0) hx hb dJ7_fill_53178_0 (by decide) ?_
  refine lv_istore_n (lv' := [(2, .int 0), (0, .ref (b + j)), (1, .int a2)]) hx hb dJ7_fill_53178_1 rfl hl (by decide) rfl (fun ls hl => ?_)
  refine lv_aload_n hx hb dJ7_fill_53178_2 rfl (lv_at hl 1 rfl) ?_
  refine g_alen S hG j 1 h rfl hj dJ7_fill_53178_3 (v := nI N) rfl ?_
  refine lv_istore_n (lv' := [(3, .int (nI N)), (2, .int 0), (0, .ref (b + j)), (1, .int a2)]) hx hb dJ7_fill_53178_4 rfl hl (by decide) rfl (fun ls hl => ?_)
  exact loop (N + 1) 0 f0 s.heap [] ls (by omega) (by omega) (fun j hj => absurd hj (by omega)) (gW_eq hG (upE_same h).symm) (lv_sub hl [1, 0, 2, 3] rfl)
set_option maxHeartbeats 4000000 in
set_option maxRecDepth 100000 in
theorem qJ7_fill_49daa (l : Launch) {D : va_G} {cy : Nat → ClassId} {b n j N : Nat} (hj : j < n) (hN : N < 2 ^ 31) {E : Nat → va_E} {f0 : Nat → Int32} (h : E j = .inl (cy 3, N, .inl f0)) (a2 : Int32) : gV l yJ7_fill_49daa cJ7_fill_49daa 4 0 0 0 D cy b n E [.ref (b + j), .int a2] (fun u => u.1 = n ∧ u.2 = upE E j (.inl (cy 3, N, .inl (fun _ => (vp_nar .boolean a2))))) := by
  refine gV_of (by decide) (Nat.le_of_ble_eq_true rfl) ?_
  intro p e s m args below meth c S hr hlk hin hsz ls hl hG
  have hx := S.1
  have hb := S.2.1
  have hl : lv_has ls 4 [(0, .ref (b + j)), (1, .int a2)] := hl
  have loop : ∀ (t k : Nat) (f : Nat → Int32) (H : Heap) (locs : List Loc) (ls : Array Slot), k ≤ N → N + 1 ≤ k + t → (∀ i, i < k → f i = (vp_nar .boolean a2)) → gW D cy b n s H locs (upE E j (.inl (cy 3, N, .inl f))) → lv_has ls 4 [(2, .int (nI k)), (3, .int (nI N)), (0, .ref (b + j)), (1, .int a2)] → W p l e (gRm 0 0 0) s m args below meth c H locs 0 0 (gQV D cy b s args below 0 0 (fun u => u.1 = n ∧ u.2 = upE E j (.inl (cy 3, N, .inl (fun _ => (vp_nar .boolean a2)))))) (F0 m 5 ls []) := by
    intro t
    induction t with
    | zero => intro k f H locs ls h1 h2; exact absurd h2 (by omega)
    | succ t ih =>
      intro k f H locs ls hk ht hf hG hl
      refine lv_iload_n hx hb dJ7_fill_49daa_5 rfl (lv_at hl 0 rfl) ?_
      refine lv_iload_n hx hb dJ7_fill_49daa_6 rfl (lv_at hl 1 rfl) ?_
      refine lv_icmp_ge (tgt := 20) hx hb dJ7_fill_49daa_7 (by decide) (fun c1 => ?_) (fun c1 => ?_)
      · have hk2 : k = N := by have := (nI_leI hN (by omega)).mp c1; omega
        subst hk2
        have hG := gW_eq (gW_ci (g := fun _ => (vp_nar .boolean a2)) hG upE_s hj hf) upE_i
        exact g_vret S hr hlk hG (by omega) dJ7_fill_49daa_20 ⟨Nat.le_refl 0, Nat.le_refl 0⟩ ⟨rfl, rfl⟩
      · have hk2 : k < N := by have := mt (nI_leI hN (by omega)).mpr c1; omega
        refine lv_aload_n hx hb dJ7_fill_49daa_10 rfl (lv_at hl 2 rfl) ?_
        refine lv_iload_n hx hb dJ7_fill_49daa_11 rfl (lv_at hl 0 rfl) ?_
        refine lv_iload_n hx hb dJ7_fill_49daa_12 rfl (lv_at hl 3 rfl) ?_
        refine g_zast S hG j upE_s hj dJ7_fill_49daa_13 (vp_in_nI hk2 hN) (fun H locs hG => ?_)
        rw [upE_i, nI_clamp (by omega)] at hG
        refine lv_iinc (v := nI (k + 1)) (lv' := [(2, .int (nI (k + 1))), (3, .int (nI N)), (0, .ref (b + j)), (1, .int a2)]) hx hb dJ7_fill_49daa_14 hl (k := 0) rfl (nI_1 k) (by decide) rfl (fun ls hl => ?_)
        refine lv_goto (tgt := 5) hx hb dJ7_fill_49daa_17 (by decide) ?_
        refine ih (k + 1) _ H locs ls (by omega) (by omega) (fun i hi => ?_) hG hl
        by_cases hik : i = k
        · subst hik; rw [pk_us]
        · rw [pk_un hik]; exact hf i (by omega)
  refine lv_iconst (v := 0) hx hb dJ7_fill_49daa_0 (by decide) ?_
  refine lv_istore_n (lv' := [(2, .int 0), (0, .ref (b + j)), (1, .int a2)]) hx hb dJ7_fill_49daa_1 rfl hl (by decide) rfl (fun ls hl => ?_)
  refine lv_aload_n hx hb dJ7_fill_49daa_2 rfl (lv_at hl 1 rfl) ?_
  refine g_alen S hG j 3 h rfl hj dJ7_fill_49daa_3 (v := nI N) rfl ?_
  refine lv_istore_n (lv' := [(3, .int (nI N)), (2, .int 0), (0, .ref (b + j)), (1, .int a2)]) hx hb dJ7_fill_49daa_4 rfl hl (by decide) rfl (fun ls hl => ?_)
  exact loop (N + 1) 0 f0 s.heap [] ls (by omega) (by omega) (fun j hj => absurd hj (by omega)) (gW_eq hG (upE_same h).symm) (lv_sub hl [1, 0, 2, 3] rfl)
section GCP
variable {p : Program} {l : Launch} {e : Env} {R : Room} {s : State} {m : MethodId} {args : Array Value} {below : List Frame} {meth : Method} {c : Code} {H : Heap} {locs : List Loc} {cells slots : Nat} {Q : State → Prop} {cc : ByteArray} {pc nL : Nat} {ls : Array Slot} {rest : List Value} {own : String} {D : va_G} {cy : Nat → ClassId} {b n : Nat} {E : Nat → va_E} {index : Nat}
/-- System.arraycopy of ints -/
theorem g_copyi (S : CallFix p m c cc nL s args gT own) (hG : gW D cy b n s H locs E) (i j : Nat) {N0 N1 : Nat} {f g : Nat → Int32} (h0 : E i = .inl (cy 1, N0, .inl f)) (h1 : E j = .inl (cy 1, N1, .inl g)) (hi : i < n) (hj : j < n) (w : Cond.methodLink own index arraycopyName ∈ gT ∧ Cond.native arraycopyName ∈ gT ∧ Cond.static arraycopyName ∈ gT ∧ Cond.initialized "java/lang/System" ∈ gT) (hls : ls.size = nL) {sp dp k : Int32} (h2 : ¬ sp < 0) (h3 : ¬ dp < 0) (h4 : ¬ k < 0) (h5 : sp.toNatClampNeg + k.toNatClampNeg ≤ N0) (h6 : dp.toNatClampNeg + k.toNatClampNeg ≤ N1) (hR : 1 ≤ R.frames ∧ (rest.map fun v => v.category).sum + (nativeFrameWords "java/lang/System" "arraycopy" 5 + 11) ≤ R.locals) (hdg : decode cc pc = .ok (.invokestatic index, 3))
    (kk : ∀ (H : Heap) (locs : List Loc), gW D cy b n s H locs (upE E j (.inl (cy 1, N1, .inl (va_cpy f g sp.toNatClampNeg dp.toNatClampNeg k.toNatClampNeg)))) → W p l e R s m args below meth c H locs cells slots Q (F0 m (pc + 3) ls rest)) : W p l e R s m args below meth c H locs cells slots Q (F0 m pc ls (.int k :: .int dp :: .ref (b + j) :: .int sp :: .ref (b + i) :: rest)) := by
  refine va_copyi S.1 S.2.1 (S.2.2.1.trans hls.symm) S.2.2.2.1 (S.2.2.2.2 _ w.1) (S.2.2.2.2 _ w.2.1) (S.2.2.2.2 _ w.2.2.1) (S.2.2.2.2 _ w.2.2.2) hG.1.1 hG.2.1 wd_D hG.2.2.1 i j 1 1 (wd_at hi h0) (wd_at hj h1) rfl rfl rfl h2 h3 h4 h5 h6 (fun _ _ => rfl) hR.1 hR.2 hdg fun H1 l1 hp _ hs => ?_
  rw [wd_set hj] at hp
  exact kk H1 l1 ⟨hG.1, hp, hs, hG.2.2.2⟩
end GCP
