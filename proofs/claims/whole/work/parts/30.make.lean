theorem dX6_init_0 : decode cX6_init 0 = .ok (.aload_n 0, 1) := by decide +kernel
theorem wm_1379 : (Jvm.Cond.methodLink "GrownKinds$RingList" (3 : Nat) ({ cls := "java/lang/Object", name := "<init>", desc := "()V" } : Jvm.MethodName)) ∈ gT := gT_in (List.mem_of_getElem? (i := 1379) (by decide +kernel)) (by decide +kernel)
theorem dX6_init_1 : decode cX6_init 1 = .ok (.invokespecial 3, 3) := by decide +kernel
theorem dX6_init_4 : decode cX6_init 4 = .ok (.aload_n 0, 1) := by decide +kernel
theorem dX6_init_5 : decode cX6_init 5 = .ok (.iconst (-1), 1) := by decide +kernel
theorem wm_1380 : (Jvm.Cond.fieldLink "GrownKinds$RingList" (9 : Nat) "GrownKinds$RingList" "stamp" "I") ∈ gT := gT_in (List.mem_of_getElem? (i := 1380) (by decide +kernel)) (by decide +kernel)
theorem dX6_init_6 : decode cX6_init 6 = .ok (.putfield 9, 3) := by decide +kernel
theorem dX6_init_9 : decode cX6_init 9 = .ok (.aload_n 0, 1) := by decide +kernel
theorem dX6_init_10 : decode cX6_init 10 = .ok (.iconst 0, 1) := by decide +kernel
theorem wm_1382 : (Jvm.Cond.fieldLink "GrownKinds$RingList" (15 : Nat) "GrownKinds$RingList" "many" "I") ∈ gT := gT_in (List.mem_of_getElem? (i := 1382) (by decide +kernel)) (by decide +kernel)
theorem dX6_init_11 : decode cX6_init 11 = .ok (.putfield 15, 3) := by decide +kernel
theorem dX6_init_14 : decode cX6_init 14 = .ok (.aload_n 0, 1) := by decide +kernel
theorem dX6_init_15 : decode cX6_init 15 = .ok (.sipush 1600, 3) := by decide +kernel
theorem dX6_init_18 : decode cX6_init 18 = .ok (.newarray .int, 2) := by decide +kernel
theorem wm_1384 : (Jvm.Cond.fieldLink "GrownKinds$RingList" (18 : Nat) "GrownKinds$RingList" "codes" "[I") ∈ gT := gT_in (List.mem_of_getElem? (i := 1384) (by decide +kernel)) (by decide +kernel)
theorem dX6_init_20 : decode cX6_init 20 = .ok (.putfield 18, 3) := by decide +kernel
theorem dX6_init_23 : decode cX6_init 23 = .ok (.return_, 1) := by decide +kernel
theorem dJ7_copyOf_9075b_0 : decode cJ7_copyOf_9075b 0 = .ok (.iload_n 1, 1) := by decide +kernel
theorem dJ7_copyOf_9075b_1 : decode cJ7_copyOf_9075b 1 = .ok (.aload_n 0, 1) := by decide +kernel
theorem dJ7_copyOf_9075b_2 : decode cJ7_copyOf_9075b 2 = .ok (.arraylength, 1) := by decide +kernel
theorem dJ7_copyOf_9075b_3 : decode cJ7_copyOf_9075b 3 = .ok (.if_icmp .ne 11, 3) := by decide +kernel
theorem dJ7_copyOf_9075b_14 : decode cJ7_copyOf_9075b 14 = .ok (.iload_n 1, 1) := by decide +kernel
theorem dJ7_copyOf_9075b_15 : decode cJ7_copyOf_9075b 15 = .ok (.newarray .byte, 2) := by decide +kernel
theorem dJ7_copyOf_9075b_17 : decode cJ7_copyOf_9075b 17 = .ok (.astore_n 2, 1) := by decide +kernel
theorem dJ7_copyOf_9075b_18 : decode cJ7_copyOf_9075b 18 = .ok (.aload_n 0, 1) := by decide +kernel
theorem dJ7_copyOf_9075b_19 : decode cJ7_copyOf_9075b 19 = .ok (.iconst 0, 1) := by decide +kernel
theorem dJ7_copyOf_9075b_20 : decode cJ7_copyOf_9075b 20 = .ok (.aload_n 2, 1) := by decide +kernel
theorem dJ7_copyOf_9075b_21 : decode cJ7_copyOf_9075b 21 = .ok (.iconst 0, 1) := by decide +kernel
theorem dJ7_copyOf_9075b_22 : decode cJ7_copyOf_9075b 22 = .ok (.aload_n 0, 1) := by decide +kernel
theorem dJ7_copyOf_9075b_23 : decode cJ7_copyOf_9075b 23 = .ok (.arraylength, 1) := by decide +kernel
theorem dJ7_copyOf_9075b_24 : decode cJ7_copyOf_9075b 24 = .ok (.iload_n 1, 1) := by decide +kernel
theorem wm_1294 : (Jvm.Cond.methodLink "java/util/Arrays" (304 : Nat) ({ cls := "java/lang/Math", name := "min", desc := "(II)I" } : Jvm.MethodName)) ∈ gT := gT_in (List.mem_of_getElem? (i := 1294) (by decide +kernel)) (by decide +kernel)
theorem dJ7_copyOf_9075b_25 : decode cJ7_copyOf_9075b 25 = .ok (.invokestatic 304, 3) := by decide +kernel
theorem wm_1295 : (Jvm.Cond.methodLink "java/util/Arrays" (150 : Nat) ({ cls := "java/lang/System", name := "arraycopy", desc := "(Ljava/lang/Object;ILjava/lang/Object;II)V" } : Jvm.MethodName)) ∈ gT := gT_in (List.mem_of_getElem? (i := 1295) (by decide +kernel)) (by decide +kernel)
theorem dJ7_copyOf_9075b_28 : decode cJ7_copyOf_9075b 28 = .ok (.invokestatic 150, 3) := by decide +kernel
theorem dJ7_copyOf_9075b_31 : decode cJ7_copyOf_9075b 31 = .ok (.aload_n 2, 1) := by decide +kernel
theorem dJ7_copyOf_9075b_32 : decode cJ7_copyOf_9075b 32 = .ok (.areturn, 1) := by decide +kernel
theorem wm_1375 : (Jvm.Cond.instantiable "GrownKinds$RingList" (3 : Nat)) ∈ gT := gT_in (List.mem_of_getElem? (i := 1375) (by decide +kernel)) (by decide +kernel)
theorem wm_196 : (Jvm.Cond.initialized "GrownKinds$RingList") ∈ gT := gT_in (List.mem_of_getElem? (i := 196) (by decide +kernel)) (by decide +kernel)
theorem wm_1377 : (Jvm.Cond.instanceMethod ({ cls := "GrownKinds$RingList", name := "<init>", desc := "()V" } : Jvm.MethodName)) ∈ gT := gT_in (List.mem_of_getElem? (i := 1377) (by decide +kernel)) (by decide +kernel)
theorem wm_1378 : (Jvm.Cond.code ({ cls := "GrownKinds$RingList", name := "<init>", desc := "()V" } : Jvm.MethodName) prog_8_method_1_code (1 : Nat) (Option.none : Option Jvm.ClassFile.FieldType)) ∈ gT := gT_in (List.mem_of_getElem? (i := 1378) (by decide +kernel)) (by decide +kernel)
set_option maxHeartbeats 4000000 in
theorem kX6_init (l : Launch) {D : va_G} {cy : Nat → ClassId} {b n : Nat} {E : Nat → va_E} {i : Nat} (hi : i < n) (h0 : E i = .inr (6, [.int 0, .int 0, .null])) : gV l yX6_init cX6_init 1 1 1 1600 D cy b n E [.ref (b + i)] (fun u => u = (n + 1, upE (upE E i (.inr (6, [.int (-1), .int 0, .ref (b + n)]))) n (.inl (cy 1, 1600, .inl (fun _ => 0))))) := by
  refine gV_of (by decide) (Nat.le_of_ble_eq_true rfl) ?_
  intro p e s m args below meth c S hr hlk hin hsz ls hl hG
  have hx := S.1
  have hb := S.2.1
  have hl : lv_has ls 1 [(0, .ref (b + i))] := hl
  refine lv_aload_n hx hb dX6_init_0 rfl (lv_at hl 0 rfl) ?_
  refine g_objInit S wm_1379 wm_204 wm_205 hl.1 dX6_init_1 ⟨Nat.le_of_ble_eq_true rfl, Nat.le_of_ble_eq_true rfl⟩ ?_
  refine lv_aload_n hx hb dX6_init_4 rfl (lv_at hl 0 rfl) ?_
  refine lv_iconst (v := -1) hx hb dX6_init_5 (by decide) ?_
  refine g_put (fs' := [.int (-1), .int 0, .null]) S hG i 0 h0 cpX6 wm_1380 dX6_init_6 rfl hi (by decide) (Nat.le_of_ble_eq_true rfl) rfl rfl rfl (fun H locs hG => ?_)
  refine lv_aload_n hx hb dX6_init_9 rfl (lv_at hl 0 rfl) ?_
  refine lv_iconst (v := 0) hx hb dX6_init_10 (by decide) ?_
  refine g_put (fs' := [.int (-1), .int 0, .null]) S hG i 1 upE_s cpX6 wm_1382 dX6_init_11 rfl hi (by decide) (Nat.le_of_ble_eq_true rfl) rfl rfl rfl (fun H locs hG => ?_)
  rw [upE_i] at hG
  refine lv_aload_n hx hb dX6_init_14 rfl (lv_at hl 0 rfl) ?_
  refine lv_sipush (v := 1600) hx hb dX6_init_15 (by decide) ?_
  refine g_newa (atype := .int) (ty := .int) (N := 1600) (a0 := (1600, .inl (fun _ => 0))) S hG (by omega) 1 rfl rfl (fun h => h) wm_306 (fun _ => by rw [vp_cell_i]; rfl) dX6_init_18 (by decide) (by decide) (by decide) ⟨Nat.le_of_ble_eq_true rfl, Nat.le_of_ble_eq_true rfl⟩ (fun H hG => ?_)
  refine W.widen (k := 1) (n := 1600) (Nat.le_of_ble_eq_true rfl) (Nat.le_of_ble_eq_true rfl) ?_
  refine g_putF (fs' := [.int (-1), .int 0, .ref (b + n)]) S hG (hin rfl) i 2 ((upE_n (by omega)).trans upE_s) cpX6 wm_1384 dX6_init_20 rfl (by omega) (by decide) (Nat.le_of_ble_eq_true rfl) rfl rfl rfl rfl (fun H locs hG => ?_)
  exact g_vret S hr hlk hG (by omega) dX6_init_23 ⟨Nat.le_of_ble_eq_true rfl, Nat.le_of_ble_eq_true rfl⟩ (Prod.ext rfl (by show upE (upE (upE E i _) n _) i _ = _; rw [upE_c (show n ≠ i by omega), upE_i]))
section GCP
variable {p : Program} {l : Launch} {e : Env} {R : Room} {s : State} {m : MethodId} {args : Array Value} {below : List Frame} {meth : Method} {c : Code} {H : Heap} {locs : List Loc} {cells slots : Nat} {Q : State → Prop} {cc : ByteArray} {pc nL : Nat} {ls : Array Slot} {rest : List Value} {own : String} {D : va_G} {cy : Nat → ClassId} {b n : Nat} {E : Nat → va_E} {index : Nat}
theorem g_copyi (S : CallFix p m c cc nL s args gT own) (hG : gW D cy b n s H locs E) (w1 : Cond.methodLink own index arraycopyName ∈ gT) (w2 : Cond.native arraycopyName ∈ gT) (w3 : Cond.static arraycopyName ∈ gT) (w4 : Cond.initialized "java/lang/System" ∈ gT) (hls : ls.size = nL) (i j t : Nat) {N M : Nat} {f g : Nat → Int32} {ty : FieldType} (hei : E i = .inl (cy t, N, .inl f)) (hej : E j = .inl (cy t, M, .inl g)) (htt : (gty cy)[t]? = some (cy t, ty)) (hprim : refKind ty = false) (hi : i < n) (hj : j < n) {sp dp k : Int} (hg : 0 ≤ sp ∧ 0 ≤ dp ∧ 0 ≤ k ∧ sp + k ≤ N ∧ dp + k ≤ M) (hN : N ≤ 2147483647 ∧ M ≤ 2147483647) (hfit : ∀ q : Nat, q < k.toNat → fits ty (.int (f (sp.toNat + q))) = true)
    (hdg : decode cc pc = .ok (.invokestatic index, 3)) (hR : 1 ≤ R.frames ∧ (rest.map fun v => v.category).sum + (nativeFrameWords "java/lang/System" "arraycopy" 5 + 11) ≤ R.locals)
    (kk : ∀ (H1 : Heap) (locs1 : List Loc), gW D cy b n s H1 locs1 (upE E j (.inl (cy t, M, .inl (va_cpy f g sp.toNat dp.toNat k.toNat)))) → W p l e R s m args below meth c H1 locs1 cells slots Q (F0 m (pc + 3) ls rest)) : W p l e R s m args below meth c H locs cells slots Q (F0 m pc ls (.int (iI k) :: .int (iI dp) :: .ref (b + j) :: .int (iI sp) :: .ref (b + i) :: rest)) := by
  obtain ⟨g1, g2, g3, g4, g5⟩ := hg
  have c1 : (iI sp).toNatClampNeg = sp.toNat := iI_clamp g1 (by omega)
  have c2 : (iI dp).toNatClampNeg = dp.toNat := iI_clamp g2 (by omega)
  have c3 : (iI k).toNatClampNeg = k.toNat := iI_clamp g3 (by omega)
  have nn0 : ∀ z : Int, 0 ≤ z → z ≤ 2147483647 → ¬ iI z < 0 := fun z h1 h2 h => by
    have := (iI_lt (a := z) (b := 0) (by omega) (by omega)).mp (by rw [iI_0]; exact h)
    omega
  refine va_copyi S.1 S.2.1 (S.2.2.1.trans hls.symm) S.2.2.2.1 (S.2.2.2.2 _ w1) (S.2.2.2.2 _ w2) (S.2.2.2.2 _ w3) (S.2.2.2.2 _ w4) hG.1.1 hG.2.1 wd_D hG.2.2.1 i j t t (wd_at hi hei) (wd_at hj hej) htt htt hprim (nn0 sp g1 (by omega)) (nn0 dp g2 (by omega)) (nn0 k g3 (by omega)) (by rw [c1, c3]; omega) (by rw [c2, c3]; omega) (fun q hq => by
    rw [c3] at hq
    rw [c1]
    exact hfit q hq) hR.1 hR.2 hdg fun H1 l1 h1 _ h3 => ?_
  rw [wd_set hj, c1, c2, c3] at h1
  exact kk H1 l1 ⟨hG.1, h1, h3, hG.2.2.2⟩
end GCP
set_option maxHeartbeats 4000000 in
theorem kJ7_copyOf (l : Launch) {D : va_G} {cy : Nat → ClassId} {b n : Nat} {E : Nat → va_E} {i N : Nat} {M : Int} {f : Nat → Int32} (hi : i < n) (he : E i = .inl (cy 0, N, .inl f)) (hM : (N : Int) < M ∧ M ≤ 4194304) (hfit : ∀ q : Nat, q < N → fits .byte (.int (f q)) = true) : gR l yJ7_copyOf_9075b cJ7_copyOf_9075b 3 (some (.array .byte)) 1 1 M.toNat D cy b n E [.ref (b + i), .int (iI M)] (fun r u => r = b + n ∧ u = (n + 1, upE E n (.inl (cy 0, M.toNat, .inl (va_cpy f (fun _ => 0) 0 0 N))))) := by
  refine gR_of (by decide) (Nat.le_of_ble_eq_true rfl) ?_
  intro p e s m args below meth c S hr hlk hin hsz ls hl hG
  have hx := S.1
  have hb := S.2.1
  have hl : lv_has ls 3 [(0, .ref (b + i)), (1, .int (iI M))] := hl
  refine lv_iload_n hx hb dJ7_copyOf_9075b_0 rfl (lv_at hl 1 rfl) ?_
  refine lv_aload_n hx hb dJ7_copyOf_9075b_1 rfl (lv_at hl 0 rfl) ?_
  refine g_alen S hG i 0 he rfl hi dJ7_copyOf_9075b_2 (v := iI N) rfl ?_
  refine gi_icmp_ne (tgt := 14) hx hb dJ7_copyOf_9075b_3 (by decide) (by omega) (by omega) (fun c => ?_) (fun c => absurd c (by omega))
  refine lv_iload_n hx hb dJ7_copyOf_9075b_14 rfl (lv_at hl 1 rfl) ?_
  have nn0 : ¬ iI M < 0 := fun h => by
    have := (iI_lt (a := M) (b := 0) (by omega) (by omega)).mp (by rw [iI_0]; exact h)
    omega
  refine g_newa (atype := .byte) (ty := .byte) (N := M.toNat) (a0 := (M.toNat, .inl (fun _ => 0))) S hG (by omega) 0 rfl rfl (fun h => h) wm_305 (fun _ => by rw [vp_cell_i]; rfl) dJ7_copyOf_9075b_15 nn0 (iI_clamp (by omega) (by omega)) (by show M.toNat * 1 ≤ _; omega) ⟨Nat.le_refl _, by show 0 + M.toNat ≤ M.toNat; omega⟩ (fun H hG => ?_)
  refine lv_astore_n (lv' := [(2, .ref (b + n)), (0, .ref (b + i)), (1, .int (iI M))]) hx hb dJ7_copyOf_9075b_17 rfl hl (by decide) rfl (fun ls hl => ?_)
  refine lv_aload_n hx hb dJ7_copyOf_9075b_18 rfl (lv_at hl 1 rfl) ?_
  refine lv_iconst (v := iI 0) hx hb dJ7_copyOf_9075b_19 (by decide) ?_
  refine lv_aload_n hx hb dJ7_copyOf_9075b_20 rfl (lv_at hl 0 rfl) ?_
  refine lv_iconst (v := iI 0) hx hb dJ7_copyOf_9075b_21 (by decide) ?_
  refine lv_aload_n hx hb dJ7_copyOf_9075b_22 rfl (lv_at hl 1 rfl) ?_
  refine g_alen S hG i 0 ((upE_n (by omega)).trans he) rfl (by omega) dJ7_copyOf_9075b_23 (v := iI N) rfl ?_
  refine lv_iload_n hx hb dJ7_copyOf_9075b_24 rfl (lv_at hl 2 rfl) ?_
  refine gi_min S wm_1294 wm_761 wm_190 wm_762 hl.1 dJ7_copyOf_9075b_25 ⟨Nat.le_of_ble_eq_true rfl, Nat.le_of_ble_eq_true rfl, Nat.le_refl _, by show 0 + M.toNat ≤ M.toNat; omega⟩ (by omega) (by omega) ?_
  rw [show min (N : Int) M = (N : Int) by omega]
  refine g_copyi S hG wm_1295 wm_972 wm_971 wm_195 hl.1 i n 0 ((upE_n (by omega)).trans he) upE_s rfl rfl (by omega) (by omega) (by omega) (by omega) (fun q hq => by rw [show Int.toNat 0 + q = q by simp]; exact hfit q (by omega)) dJ7_copyOf_9075b_28 ⟨Nat.le_of_ble_eq_true rfl, Nat.le_of_ble_eq_true rfl⟩ (fun H locs hG => ?_)
  rw [upE_i] at hG
  refine lv_aload_n hx hb dJ7_copyOf_9075b_31 rfl (lv_at hl 0 rfl) ?_
  exact g_aret S hr (Or.inr ⟨_, rfl⟩) hlk hG (by omega) dJ7_copyOf_9075b_32 ⟨Nat.le_refl _, by show 0 + M.toNat ≤ M.toNat; omega⟩ ⟨rfl, rfl⟩
/-- a RingList more, with its codes -/
def mkRing (S : St) : St := fun i => if i = nn S then (fun k => if k = -1 then 1 else if k = 0 then -1 else if k = 2 then ((nn S + 1 : Nat) : Int) else 0) else if i = nn S + 1 then (fun k => if k = -1 then 2 else 0) else if i = 0 then (fun k => if k = -1 then ((nn S + 2 : Nat) : Int) else if k = -2 then ((zz S + 1603 : Nat) : Int) else S 0 k) else S i
/-- bytes of another row, and zeros -/
def cpB (S : St) (q N : Int) : St := fun i => if i = nn S then (fun k => if k = -1 then 3 else if k = -2 then N else if 0 ≤ k ∧ k < dlen S q then S q.toNat k else 0) else if i = 0 then (fun k => if k = -1 then ((nn S + 1 : Nat) : Int) else if k = -2 then ((zz S + N.toNat : Nat) : Int) else S 0 k) else S i
/-- five ints -/
def mk5 (S : St) : St := fun i => if i = nn S then (fun k => if k = -1 then 4 else 0) else if i = 0 then (fun k => if k = -1 then ((nn S + 1 : Nat) : Int) else if k = -2 then ((zz S + 5 : Nat) : Int) else S 0 k) else S i
section GMK
variable {p : Program} {l : Launch} {e : Env} {R : Room} {s : State} {m : MethodId} {args : Array Value} {below : List Frame} {meth : Method} {c : Code} {H : Heap} {locs : List Loc} {Q : State → Prop} {cc : ByteArray} {pc nL : Nat} {ls : Array Slot} {rest : List Value} {own : String} {D : va_G} {cy : Nat → ClassId} {b n : Nat} {T S0 o : St} {ce sl index : Nat}
theorem dyE_1 {g : Int → Int} (h : g (-1) = 1) : dyE b cy g = .inr (6, [.int (iI (g 0)), .int (iI (g 1)), .ref (b + ph (g 2).toNat)]) := by unfold dyE; rw [if_pos h]
theorem dyE_2 {g : Int → Int} (h : g (-1) = 2) : dyE b cy g = cI cy 1600 (fun j => g j) := by unfold dyE; rw [if_neg (by rw [h]; decide), if_pos h]
theorem dyE_3 {g : Int → Int} (h : g (-1) = 3) : dyE b cy g = cB cy (g (-2)).toNat (fun j => g j) := by unfold dyE; rw [if_neg (by rw [h]; decide), if_neg (by rw [h]; decide), if_pos h]
theorem dyE_4 {g : Int → Int} (h : g (-1) = 4) : dyE b cy g = cI cy 5 (fun j => g j) := by unfold dyE; rw [if_neg (by rw [h]; decide), if_neg (by rw [h]; decide), if_neg (by rw [h]; decide)]
theorem eG_make {T T1 : St} {E : Nat → va_E} (hE : ∀ i, 102 ≤ i → i < nn T1 - 3 → E i = dyE b cy (T1 (i + 3))) (hl : ∀ i, i < 102 → E i = eG b cy T i) (h0 : ∀ k : Int, 0 ≤ k → T1 0 k = T 0 k) (hs : ∀ i, i < 105 → i ≠ 0 → T1 i = T i) : ∀ i, i < nn T1 - 3 → E i = eG b cy T1 i := by
  intro i hi
  by_cases h : i < 102
  · rw [hl i h]
    show encC b cy (XD b cy T) i (T (nu i)) = encC b cy (XD b cy T1) i (T1 (nu i))
    rw [encC_X (Y := XD b cy T1) (fun hq => absurd h (by omega))]
    by_cases hz : i = 0
    · subst hz
      exact encC_0 fun k hk => (h0 k hk).symm
    · rw [hs (nu i) (nu_lo h) (fun e => hz (nu_0 e))]
  · rw [eG_dy (by omega), nu_hi (by omega)]
    exact hE i (by omega) hi
theorem gW_ext {E E' : Nat → va_E} {n : Nat} (h : gW D cy b n s H locs E) (he : ∀ i, i < n → E i = E' i) : gW D cy b n s H locs E' := ⟨h.1, by rw [← wd_ext he]; exact h.2.1, h.2.2⟩
set_option maxHeartbeats 4000000 in
theorem n_ring (S : CallFix p m c cc nL s args gT "GrownKinds$Sequences") (hG : gX D cy b s H locs T ce sl S0 o) {T1 : St} (eT : mkRing T = T1) (h2 : gle T1 o) (hd1 : decode cc pc = .ok (.new 19, 3)) (hd2 : decode cc (pc + 3) = .ok (.dup, 1)) (hd3 : decode cc (pc + 4) = .ok (.invokespecial 94, 3)) (hls : ls.size = nL) (hR : 2 ≤ R.frames ∧ 120 ≤ R.locals ∧ nn o - nn S0 ≤ R.cells ∧ zz o - zz S0 ≤ R.slots)
    (kk : ∀ (x : Int) (H : Heap) (locs : List Loc), x = ((nn T : Nat) : Int) → gX D cy b s H locs T1 (ce + (nn T1 - nn T)) (sl + (zz T1 - zz T)) S0 o → W p l e R s m args below meth c H locs (ce + (nn T1 - nn T)) (sl + (zz T1 - zz T)) Q (F0 m (pc + 7) ls [.ref (b + ph x.toNat)])) : W p l e R s m args below meth c H locs ce sl Q (F0 m pc ls []) := by
  subst eT
  have hNH : 102 ≤ nn T - 3 := hG.2.2.2.1
  have h105 : 105 ≤ nn T := by omega
  have ex : ph ((nn T : Nat) : Int).toNat = nn T - 3 := by rw [Int.toNat_natCast, ph_hi h105]
  have e1 : nn (mkRing T) = nn T + 2 := by
    show (mkRing T 0 (-1)).toNat = _
    unfold mkRing
    rw [if_neg (by omega), if_neg (by omega), if_pos rfl, if_pos rfl]
    omega
  have e2 : zz (mkRing T) = zz T + 1603 := by
    show (mkRing T 0 (-2)).toNat = _
    unfold mkRing
    rw [if_neg (by omega), if_neg (by omega), if_pos rfl, if_neg (by decide), if_pos rfl]
    omega
  have h1 : gle T (mkRing T) := ⟨by omega, by omega⟩
  have r1 := hG.gc h1 h2
  have r2 := hG.gs h1 h2
  refine g_new (fs := [.int 0, .int 0, .null]) S hG.1 hG.2.1 cpX6 wm_468 wm_1375 wm_196 hd1 (by intro j hj; rcases (show j = 0 ∨ j = 1 ∨ j = 2 by omega) with rfl | rfl | rfl <;> rfl) (by omega) (fun H1 hW => ?_)
  refine lv_dup S.1 S.2.1 hd2 rfl ?_
  refine g_ctorN (As := []) (rest := [.ref (b + (nn T - 3))]) S hW (by have := hG.2.1; omega) (kX6_init l (Nat.lt_succ_self _) upE_s) (host := "GrownKinds") (by decide +kernel) ⟨wm_1377, wm_196, wm_1378, by decide +kernel, by decide +kernel, rfl⟩ hd3 rfl hls (ar := 0) (by decide +kernel) rfl (by omega) (Nat.le_of_ble_eq_true rfl) (fun u H2 l2 hp hW => ?_)
  subst hp
  dsimp only at hW
  have q := kk _ H2 l2 rfl (hG.grow h1 h2 (by
    rw [e1, show nn T + 2 - 3 = nn T - 3 + 2 by omega]
    refine gW_ext (n := nn T - 3 + 2) hW ?_
    intro i hi
    refine eG_make (T := T) (T1 := mkRing T) (fun i hi1 hi2 => ?_) (fun i hi => ?_) (fun k hk => ?_) (fun i hi hi0 => ?_) i (by omega)
    · by_cases ha : i = nn T - 3 + 1
      · subst ha
        rw [upE_s]
        have e3 : mkRing T (nn T - 3 + 1 + 3) = fun k => if k = -1 then 2 else 0 := by unfold mkRing; rw [if_neg (by omega), if_pos (by omega)]
        rw [dyE_2 (by rw [e3]; rfl), e3]
        congr 4
      · by_cases hb : i = nn T - 3
        · subst hb
          rw [upE_n (by omega), upE_s]
          have e3 : mkRing T (nn T - 3 + 3) = fun k => if k = -1 then 1 else if k = 0 then -1 else if k = 2 then ((nn T + 1 : Nat) : Int) else 0 := by unfold mkRing; rw [if_pos (by omega)]
          have e4 : ph ((nn T + 1 : Nat) : Int).toNat = nn T - 3 + 1 := by rw [Int.toNat_natCast, ph_hi (by omega)]; omega
          rw [dyE_1 (by rw [e3]; rfl), e3]
          show _ = (.inr (6, [.int (iI (-1)), .int (iI 0), .ref (b + ph ((nn T + 1 : Nat) : Int).toNat)]) : va_E)
          rw [e4]
          rfl
        · rw [upE_n ha, upE_n hb, upE_n hb, eG_dy hi1, nu_hi hi1]
          unfold mkRing
          rw [if_neg (by omega), if_neg (by omega), if_neg (by omega)]
    · rw [upE_n (by omega), upE_n (by omega), upE_n (by omega)]
    · unfold mkRing
      rw [if_neg (by omega), if_neg (by omega), if_pos rfl, if_neg (by omega), if_neg (by omega)]
    · unfold mkRing
      rw [if_neg (by omega), if_neg (by omega), if_neg hi0]))
  rw [show ce + (nn (mkRing T) - nn T) = ce + 1 + 1 by omega, ex, show sl + (zz (mkRing T) - zz T) = sl + 3 + 1600 by omega] at q
  exact q
set_option maxHeartbeats 4000000 in
theorem n_new5 (S : CallFix p m c cc nL s args gT own) (hG : gX D cy b s H locs T ce sl S0 o) {T1 : St} (eT : mk5 T = T1) (h2 : gle T1 o) (hd1 : decode cc pc = .ok (.newarray .int, 2)) (hR : nn o - nn S0 ≤ R.cells ∧ zz o - zz S0 ≤ R.slots)
    (kk : ∀ (x : Int) (H : Heap) (locs : List Loc), x = ((nn T : Nat) : Int) → gX D cy b s H locs T1 (ce + (nn T1 - nn T)) (sl + (zz T1 - zz T)) S0 o → W p l e R s m args below meth c H locs (ce + (nn T1 - nn T)) (sl + (zz T1 - zz T)) Q (F0 m (pc + 2) ls (.ref (b + ph x.toNat) :: rest))) : W p l e R s m args below meth c H locs ce sl Q (F0 m pc ls (.int (iI 5) :: rest)) := by
  subst eT
  have hNH : 102 ≤ nn T - 3 := hG.2.2.2.1
  have h105 : 105 ≤ nn T := by omega
  have ex : ph ((nn T : Nat) : Int).toNat = nn T - 3 := by rw [Int.toNat_natCast, ph_hi h105]
  have e1 : nn (mk5 T) = nn T + 1 := by
    show (mk5 T 0 (-1)).toNat = _
    unfold mk5
    rw [if_neg (by omega), if_pos rfl, if_pos rfl]
    omega
  have e2 : zz (mk5 T) = zz T + 5 := by
    show (mk5 T 0 (-2)).toNat = _
    unfold mk5
    rw [if_neg (by omega), if_pos rfl, if_neg (by decide), if_pos rfl]
    omega
  have h1 : gle T (mk5 T) := ⟨by omega, by omega⟩
  have r1 := hG.gc h1 h2
  have r2 := hG.gs h1 h2
  refine g_newa (atype := .int) (ty := .int) (N := 5) (a0 := (5, .inl (fun _ => 0))) S hG.1 hG.2.1 1 rfl rfl (fun h => h) wm_306 (fun _ => rfl) hd1 (by decide) (by decide) (by decide) (by omega) (fun H1 hW => ?_)
  have q := kk _ H1 locs rfl (hG.grow h1 h2 (by
    rw [e1, show nn T + 1 - 3 = nn T - 3 + 1 by omega]
    refine gW_ext (n := nn T - 3 + 1) hW ?_
    intro i hi
    refine eG_make (T := T) (T1 := mk5 T) (fun i hi1 hi2 => ?_) (fun i hi => ?_) (fun k hk => ?_) (fun i hi hi0 => ?_) i (by omega)
    · by_cases hb : i = nn T - 3
      · subst hb
        rw [upE_s]
        have e3 : mk5 T (nn T - 3 + 3) = fun k => if k = -1 then 4 else 0 := by unfold mk5; rw [if_pos (by omega)]
        rw [dyE_4 (by rw [e3]; rfl), e3]
        congr 4
      · rw [upE_n hb, eG_dy hi1, nu_hi hi1]
        unfold mk5
        rw [if_neg (by omega), if_neg (by omega)]
    · rw [upE_n (by omega)]
    · unfold mk5
      rw [if_neg (by omega), if_pos rfl, if_neg (by omega), if_neg (by omega)]
    · unfold mk5
      rw [if_neg (by omega), if_neg hi0]))
  rw [show ce + (nn (mk5 T) - nn T) = ce + 1 by omega, ex, show sl + (zz (mk5 T) - zz T) = sl + 5 by omega] at q
  exact q
set_option maxHeartbeats 4000000 in
theorem n_copyOf (S : CallFix p m c cc nL s args gT own) (hG : gX D cy b s H locs T ce sl S0 o) {q N : Int} {T1 : St} (eT : cpB T q N = T1) (h2 : gle T1 o) (hq : dB T q ∧ 0 ≤ dlen T q ∧ dlen T q < N ∧ N ≤ 4194304) (hfit : ∀ k : Nat, k < (dlen T q).toNat → -128 ≤ T q.toNat k ∧ T q.toNat k ≤ 127) (w : gWS own index yJ7_copyOf_9075b cJ7_copyOf_9075b 3 (some (.array .byte))) (hdg : decode cc pc = .ok (.invokestatic index, 3)) (hls : ls.size = nL) (hR : 2 ≤ R.frames ∧ 122 ≤ R.locals ∧ nn o - nn S0 ≤ R.cells ∧ zz o - zz S0 ≤ R.slots) (hrm : (rest.map fun v => v.category).sum ≤ 8)
    (kk : ∀ (x : Int) (H : Heap) (locs : List Loc), x = ((nn T : Nat) : Int) → gX D cy b s H locs T1 (ce + (nn T1 - nn T)) (sl + (zz T1 - zz T)) S0 o → W p l e R s m args below meth c H locs (ce + (nn T1 - nn T)) (sl + (zz T1 - zz T)) Q (F0 m (pc + 3) ls (.ref (b + ph x.toNat) :: rest))) : W p l e R s m args below meth c H locs ce sl Q (F0 m pc ls (.int (iI N) :: .ref (b + ph q.toNat) :: rest)) := by
  subst eT
  have hNH : 102 ≤ nn T - 3 := hG.2.2.2.1
  have h105 : 105 ≤ nn T := by omega
  have ex : ph ((nn T : Nat) : Int).toNat = nn T - 3 := by rw [Int.toNat_natCast, ph_hi h105]
  obtain ⟨hB, hl0, hlN, hN⟩ := hq
  have e1 : nn (cpB T q N) = nn T + 1 := by
    show (cpB T q N 0 (-1)).toNat = _
    unfold cpB
    rw [if_neg (by omega), if_pos rfl, if_pos rfl]
    omega
  have e2 : zz (cpB T q N) = zz T + N.toNat := by
    show (cpB T q N 0 (-2)).toNat = _
    unfold cpB
    rw [if_neg (by omega), if_pos rfl, if_neg (by decide), if_pos rfl]
    omega
  have h1 : gle T (cpB T q N) := ⟨by omega, by omega⟩
  have r1 := hG.gc h1 h2
  have r2 := hG.gs h1 h2
  refine g_sr (As := [.ref (b + ph q.toNat), .int (iI N)]) (rest := rest) S hG.1 hG.2.1 (kJ7_copyOf l (dB_lt hB hNH) (eG_B hB) (by rw [Int.toNat_of_nonneg hl0]; exact ⟨hlN, hN⟩) (fun k hk => fit_b (hfit k hk))) w hdg rfl hls (ar := 2) (by decide +kernel) rfl (by omega) hrm (fun r u H1 l1 hp hW => ?_)
  obtain ⟨rfl, rfl⟩ := hp
  dsimp only at hW
  have qq := kk _ H1 l1 rfl (hG.grow h1 h2 (by
    rw [e1, show nn T + 1 - 3 = nn T - 3 + 1 by omega]
    refine gW_ext (n := nn T - 3 + 1) hW ?_
    intro i hi
    refine eG_make (T := T) (T1 := cpB T q N) (fun i hi1 hi2 => ?_) (fun i hi => ?_) (fun k hk => ?_) (fun i hi hi0 => ?_) i (by omega)
    · by_cases hb : i = nn T - 3
      · subst hb
        rw [upE_s]
        have e3 : cpB T q N (nn T - 3 + 3) = fun k => if k = -1 then 3 else if k = -2 then N else if 0 ≤ k ∧ k < dlen T q then T q.toNat k else 0 := by unfold cpB; rw [if_pos (by omega)]
        rw [dyE_3 (by rw [e3]; rfl), e3]
        congr 4
        funext j
        unfold va_cpy
        by_cases hj : j < (dlen T q).toNat
        · rw [if_pos (by omega)]
          show iI (T q.toNat ((0 + (j - 0) : Nat) : Int)) = iI (if (j : Int) = -1 then 3 else if (j : Int) = -2 then N else if 0 ≤ (j : Int) ∧ (j : Int) < dlen T q then T q.toNat j else 0)
          rw [if_neg (by omega), if_neg (by omega), if_pos (by omega), show 0 + (j - 0) = j by omega]
        · rw [if_neg (by omega)]
          show (0 : Int32) = iI (if (j : Int) = -1 then 3 else if (j : Int) = -2 then N else if 0 ≤ (j : Int) ∧ (j : Int) < dlen T q then T q.toNat j else 0)
          rw [if_neg (by omega), if_neg (by omega), if_neg (by omega)]
          rfl
      · rw [upE_n hb, eG_dy hi1, nu_hi hi1]
        unfold cpB
        rw [if_neg (by omega), if_neg (by omega)]
    · rw [upE_n (by omega)]
    · unfold cpB
      rw [if_neg (by omega), if_pos rfl, if_neg (by omega), if_neg (by omega)]
    · unfold cpB
      rw [if_neg (by omega), if_neg hi0]))
  rw [show ce + (nn (cpB T q N) - nn T) = ce + 1 by omega, ex, show sl + (zz (cpB T q N) - zz T) = sl + N.toNat by omega] at qq
  exact qq
end GMK
