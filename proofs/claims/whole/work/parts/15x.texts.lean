/-! texts that the classes name, rows of numbers that stand once and for all, methods that answer a reference -/
def isS (i : Nat) (bs : List Int32) : Prop := ∃ q, gSC[i]? = some q ∧ q.2.2.2 = bs
def sby (bs : List Int32) (a : Int) : Int := (bs.getD a.toNat 0).toInt
def i2cF (a : Int) : Int := ((iI a).toUInt32 % 65536).toInt32.toInt
theorem gZ.str {cy : Nat → ClassId} {b i : Nat} {bs : List Int32} {s : State} (h : gZ cy b s) (hi : isS i bs) : gStr b (cy (10 + i)) (cy (40 + i)) bs s := by
  obtain ⟨q, h1, rfl⟩ := hi
  exact (h.1 i q h1).2
section GTX
variable {p : Program} {l : Launch} {e : Env} {R : Room} {s : State} {m : MethodId} {args : Array Value} {below : List Frame} {meth : Method} {c : Code} {H : Heap} {locs : List Loc} {cells slots : Nat} {Q : State → Prop} {cc cc' : ByteArray} {pc nL nL' d : Nat} {ls : Array Slot} {rest As : List Value} {own : String} {D : va_G} {cy : Nat → ClassId} {b n : Nat} {E : Nat → va_E} {index i mc ms : Nat} {y : MethodName} {ret : Option FieldType} {bs : List Int32}
theorem g_sval (S : CallFix p m c cc nL s args gT own) (hG : gW D cy b n s H locs E) (hi : isS i bs) (hlink : Cond.fieldLink own index "java/lang/String" "value" "[B" ∈ gT) (hdg : decode cc pc = .ok (.getfield index, 3))
    (kk : W p l e R s m args below meth c H locs cells slots Q (F0 m (pc + 3) ls (.ref (cy (40 + i)) :: rest))) : W p l e R s m args below meth c H locs cells slots Q (F0 m pc ls (.ref (cy (10 + i)) :: rest)) :=
  vk_getf S.1 S.2.1 (hG.1.2.1.2.str hi).2.2.1 hG.2.2.1 S.2.2.2.1 (S.2.2.2.2 _ hlink) (fun _ h => h) hdg kk
theorem g_scod (S : CallFix p m c cc nL s args gT own) (hG : gW D cy b n s H locs E) (hi : isS i bs) (hlink : Cond.fieldLink own index "java/lang/String" "coder" "B" ∈ gT) (hdg : decode cc pc = .ok (.getfield index, 3))
    (kk : W p l e R s m args below meth c H locs cells slots Q (F0 m (pc + 3) ls (.int (iI 0) :: rest))) : W p l e R s m args below meth c H locs cells slots Q (F0 m pc ls (.ref (cy (10 + i)) :: rest)) :=
  vk_getf S.1 S.2.1 (hG.1.2.1.2.str hi).2.1 hG.2.2.1 S.2.2.2.1 (S.2.2.2.2 _ hlink) (fun _ h => h) hdg kk
theorem g_slen (S : CallFix p m c cc nL s args gT own) (hG : gW D cy b n s H locs E) (hi : isS i bs) (hdg : decode cc pc = .ok (.arraylength, 1))
    (kk : W p l e R s m args below meth c H locs cells slots Q (F0 m (pc + 1) ls (.int (iI bs.length) :: rest))) : W p l e R s m args below meth c H locs cells slots Q (F0 m pc ls (.ref (cy (40 + i)) :: rest)) :=
  va_tlen S.1 S.2.1 (hG.1.2.1.2.str hi).2.2.2 hG.2.2.1 rfl hdg kk
theorem g_sbald (S : CallFix p m c cc nL s args gT own) (hG : gW D cy b n s H locs E) (hi : isS i bs) {a : Int} (hdg : decode cc pc = .ok (.baload, 1)) (hin : 0 ≤ a ∧ a < bs.length) (hI : -2147483648 ≤ a ∧ a ≤ 2147483647)
    (kk : W p l e R s m args below meth c H locs cells slots Q (F0 m (pc + 1) ls (.int (iI (sby bs a)) :: rest))) : W p l e R s m args below meth c H locs cells slots Q (F0 m pc ls (.int (iI a) :: .ref (cy (40 + i)) :: rest)) :=
  va_tb S.1 S.2.1 (hG.1.2.1.2.str hi).2.2.2 hG.2.2.1 (iI_in hin (by omega)) (v := .int (iI (sby bs a))) (by rw [iI_clamp hin.1 (by omega)]; unfold sby; rw [iI_of]) hdg kk
theorem g_sald (S : CallFix p m c cc nL s args gT own) (hG : gW D cy b n s H locs E) {nm : String} (hi : gSA[i]? = some (nm, bs)) {a : Int} (hdg : decode cc pc = .ok (.iaload, 1)) (hin : 0 ≤ a ∧ a < bs.length) (hI : bs.length ≤ 2147483647)
    (kk : W p l e R s m args below meth c H locs cells slots Q (F0 m (pc + 1) ls (.int (iI (sby bs a)) :: rest))) : W p l e R s m args below meth c H locs cells slots Q (F0 m pc ls (.int (iI a) :: .ref (cy (70 + i)) :: rest)) :=
  va_ti S.1 S.2.1 (hG.1.2.1.2.2.1 i _ hi).2 hG.2.2.1 (iI_in hin (by omega)) (v := .int (iI (sby bs a))) (by rw [iI_clamp hin.1 (by omega)]; unfold sby; rw [iI_of]) hdg kk
theorem g_gsa (S : CallFix p m c cc nL s args gT own) (hG : gW D cy b n s H locs E) {nm : String} (hi : gSA[i]? = some (nm, bs)) (hlink : Cond.fieldLink own index "GrownKinds" nm "[I" ∈ gT) (hdg : decode cc pc = .ok (.getstatic index, 3))
    (kk : W p l e R s m args below meth c H locs cells slots Q (F0 m (pc + 3) ls (.ref (cy (70 + i)) :: rest))) : W p l e R s m args below meth c H locs cells slots Q (F0 m pc ls rest) :=
  va_gets S.1 S.2.1 (hG.1.2.1.2.2.1 i _ hi).1 hG.2.2.1 S.2.2.2.1 (S.2.2.2.2 _ hlink) (fun _ h => h) hdg kk
theorem g_gsaN (S : CallFix p m c cc nL s args gT own) (hG : gW D cy b n s H locs E) {nm host : String} (hi : gSA[i]? = some (nm, bs)) (hlink : (own, index, "GrownKinds", nm, "[I", host) ∈ gnF) (hdg : decode cc pc = .ok (.getstatic index, 3))
    (kk : W p l e R s m args below meth c H locs cells slots Q (F0 m (pc + 3) ls (.ref (cy (70 + i)) :: rest))) : W p l e R s m args below meth c H locs cells slots Q (F0 m pc ls rest) :=
  va_getsN (args := args) S.1 S.2.1 (hG.1.2.1.2.2.1 i _ hi).1 hG.2.2.1 S.2.2.2.1 (va_tabs rfl rfl (hG.1.2.2.2 _ hlink)) (fun _ h => h) hdg kk
theorem g_gcs (S : CallFix p m c cc nL s args gT own) (hG : gW D cy b n s H locs E) (hlink : Cond.fieldLink own index "java/lang/String" "COMPACT_STRINGS" "Z" ∈ gT) (hdg : decode cc pc = .ok (.getstatic index, 3))
    (kk : W p l e R s m args below meth c H locs cells slots Q (F0 m (pc + 3) ls (.int (iI 1) :: rest))) : W p l e R s m args below meth c H locs cells slots Q (F0 m pc ls rest) :=
  va_gets S.1 S.2.1 hG.1.2.1.2.2.2.1 hG.2.2.1 S.2.2.2.1 (S.2.2.2.2 _ hlink) (fun _ h => h) hdg kk
theorem g_gsf (S : CallFix p m c cc nL s args gT own) (hG : gW D cy b n s H locs E) (hlink : Cond.fieldLink own index "jdk/internal/util/Preconditions" "SIOOBE_FORMATTER" "Ljava/util/function/BiFunction;" ∈ gT) (hdg : decode cc pc = .ok (.getstatic index, 3))
    (kk : ∀ v : Option Nat, W p l e R s m args below meth c H locs cells slots Q (F0 m (pc + 3) ls (va_rf v :: rest))) : W p l e R s m args below meth c H locs cells slots Q (F0 m pc ls rest) := by
  obtain ⟨v, hv⟩ := hG.1.2.1.2.2.2.2
  exact va_gets S.1 S.2.1 hv hG.2.2.1 S.2.2.2.1 (S.2.2.2.2 _ hlink) (fun _ h => h) hdg (kk v)
theorem gi_i2c (hx : p.tables.exec = Jvm.exec) (hb : c.code = cc) {a : Int} (hdg : decode cc pc = .ok (.i2c, 1)) (k : W p l e R s m args below meth c H locs cells slots Q (F0 m (pc + 1) ls (.int (iI (i2cF a)) :: rest))) : W p l e R s m args below meth c H locs cells slots Q (F0 m pc ls (.int (iI a) :: rest)) := lv_i2c hx hb hdg (iI_of _).symm k
theorem va_ldcwS0 {T : State} (X : Stand p l e R s m args below meth c T locs cells slots) (hexec : p.tables.exec = Jvm.exec) {own text : String} {index : Nat} {a : Addr} (hown : s.vm.findClass own = some m.cls)
    (hconst : (Cond.stringRef own index text).before args s = true) (hev : (Term.string own index).eval args s none [] s = some (.ref a)) {g : JFrame} (hg : g.method = m) (hdg : decode c.code g.pc = .ok (.ldc_w index, 3)) :
    ∀ target, Steps p.tables e below (T.setTop { g with pc := g.pc + 3, stack := .ref a :: g.stack }) target → Steps p.tables e below (T.setTop g) target := by
  obtain ⟨k, cf, i, a', hk, hcf, hcp, -, hr, hev'⟩ := Cond.stringRef_spec hown hconst
  cases hev.symm.trans hev'
  obtain ⟨k', hk', he⟩ := X.warmed.alike.2.2 _ _ hk
  have hr' : k'.resolved[index]? = some (some (.string a)) := by
    rcases X.warmed.entry hk hk' index with h | ⟨h, -⟩
    · rw [h]; exact hr
    · rw [hr] at h; cases h
  intro target hrest
  subst hg
  jvm_step X.here [hexec, hdg, ldc_w.wp_string (e := e) (s := T) (f := g) X.here.top hk' (by rw [he]; exact hcf) hcp hr']
  exact hrest
theorem va_ldcwS (hexec : p.tables.exec = Jvm.exec) (hb : c.code = cc) {own tx : String} {index q : Nat} (hown : s.vm.findClass own = some m.cls) (hZ : vk_R own index tx q s) (hdg : decode cc pc = .ok (.ldc_w index, 3))
    (k : W p l e R s m args below meth c H locs cells slots Q (F0 m (pc + 3) ls (.ref q :: rest))) : W p l e R s m args below meth c H locs cells slots Q (F0 m pc ls rest) := by
  intro T hT X
  obtain ⟨t, a1, b1⟩ := k T hT X
  exact ⟨t, va_ldcwS0 X hexec hown (text := tx) (a := q) hZ.1 hZ.2 (g := F0 m pc ls rest) rfl (by rw [hb]; exact hdg) t a1, b1⟩
/-- calls of a text's own methods -/
theorem g_viS (S : CallFix p m c cc nL s args gT own) (hG : gW D cy b n s H locs E) (hc : s.heap.size + cells = b + n) {post : Int32 → gU → Prop} (hM : gI l y cc' nL' ret d mc ms D cy b n E (.ref (cy (10 + i)) :: As) post) (w : gWV own index y cc' nL' ret) (hi : isS i bs) (hy : y.cls = "java/lang/String") (hdg : decode cc pc = .ok (.invokevirtual index, 3)) {st : List Value} (hst : st = As.reverse ++ .ref (cy (10 + i)) :: rest) (hls : ls.size = nL) {ar : Nat} (hn : (parseMethodDescriptor y.desc).map (fun d => d.parameters.length) = some ar) (har : As.length = ar) (hR : d + 1 ≤ R.frames ∧ 8 + (nL' + 11) + (40 * d + 60) ≤ R.locals ∧ cells + mc ≤ R.cells ∧ slots + ms ≤ R.slots) (hrm : (rest.map fun v => v.category).sum ≤ 8)
    (kk : ∀ (r : Int32) (u : gU) (H : Heap) (locs : List Loc), post r u → gW D cy b u.1 s H locs u.2 → W p l e R s m args below meth c H locs (cells + mc) (slots + ms) Q (F0 m (pc + 3) ls (.int r :: rest))) : W p l e R s m args below meth c H locs cells slots Q (F0 m pc ls st) := by
  subst hst
  subst har
  refine g_size hG hc fun hz => ?_
  have hrc : ∃ cell : Cell, H[cy (10 + i)]? = some cell ∧ cell.vm.isStatics = false ∧ s.vm.findClass y.cls = some cell.cls := by
    obtain ⟨cell, h1, h2, h3, -⟩ := (hG.1.2.1.2.str hi).1.kept hG.2.2.1.2.1
    exact ⟨cell, h1, h2, by rw [hy]; exact h3⟩
  exact va_calli (va_runV (As := As) (rest := rest) S hM (cwV As.length S.2.2.2.2 (gT_V w) rfl rfl rfl ⟨rfl, w.2.2.2.2.2.1, w.2.2.2.2.2.2, hn⟩ ⟨hR.1, hR.2.1⟩) ⟨gPre_blind, hrc, gPre_of hG hz⟩ rfl rfl hls rfl (lv_room hrm) hdg ⟨hR.2.2.1, hR.2.2.2⟩) hG.2.2.1 (gA_H hG) (fun _ h => h) (fun r u t H1 l1 ht _ hw hB _ _ hS => kk r u H1 l1 hw (gW_call hG ht hB hS))
theorem g_tret (S : CallFix p m c cc nL s args gT own) {ty : FieldType} (hr : meth.sig.returnType = some ty) (hlk : meth.locks = false) {post : Int32 → gU → Prop} {v : Int32} (hG : gW D cy b n s H locs E) (hc : s.heap.size + cells = b + n) (hdg : decode cc pc = .ok (.ireturn, 1)) (hw : cells ≤ mc ∧ slots ≤ ms) (hv : narrow ty (.int v) = .int v) (hp : post v (n, E)) : W p l e R s m args below meth c H locs cells slots (MQ below (va_Qi post (gB D cy b) (gA b)) args s mc ms (gA b)) (F0 m pc ls [.int v]) := by
  refine g_size hG hc fun hz => ?_
  refine W.widen hw.1 hw.2 ?_
  exact W.zret (v := v) S.1 S.2.1 hr hv (fun t ht hW => ⟨⟨v, (n, E), rfl, hp, by rw [ht]; exact hz, by rw [ht]; exact hG.2.1, hG.1.warm hW (by rw [ht]; exact hG.2.2.1.2.1)⟩, hG.2.2.1.F ht⟩) hG.2.2.1.2.2 hdg hlk
/-- contracts of methods that answer a reference -/
def gR (l : Launch) (y : MethodName) (cc : ByteArray) (nL : Nat) (ret : Option FieldType) (d mc ms : Nat) (D : va_G) (cy : Nat → ClassId) (b n : Nat) (E : Nat → va_E) (av : List Value) (post : Nat → gU → Prop) : Prop :=
  Met l y (.code y cc nL ret :: gT) (gRm d mc ms) (gPre D cy b n E av) (va_Qr (S := Nat × gU) (fun u => post u.1 u.2) (fun u a t => a = u.1 ∧ gB D cy b u.2 t) (gA b)) mc ms (gA b)
abbrev gQR (D : va_G) (cy : Nat → ClassId) (b : Nat) (s : State) (args : Array Value) (below : List Frame) (mc ms : Nat) (post : Nat → gU → Prop) : State → Prop := MQ below (va_Qr (S := Nat × gU) (fun u => post u.1 u.2) (fun u a t => a = u.1 ∧ gB D cy b u.2 t) (gA b)) args s mc ms (gA b)
theorem g_sr (S : CallFix p m c cc nL s args gT own) (hG : gW D cy b n s H locs E) (hc : s.heap.size + cells = b + n) {post : Nat → gU → Prop} (hM : gR l y cc' nL' ret d mc ms D cy b n E As post) (w : gWS own index y cc' nL' ret) (hdg : decode cc pc = .ok (.invokestatic index, 3)) {st : List Value} (hst : st = As.reverse ++ rest) (hls : ls.size = nL) {ar : Nat} (hn : (parseMethodDescriptor y.desc).map (fun d => d.parameters.length) = some ar) (har : As.length = ar) (hR : d + 1 ≤ R.frames ∧ 8 + (nL' + 11) + (40 * d + 60) ≤ R.locals ∧ cells + mc ≤ R.cells ∧ slots + ms ≤ R.slots) (hrm : (rest.map fun v => v.category).sum ≤ 8)
    (kk : ∀ (r : Nat) (u : gU) (H : Heap) (locs : List Loc), post r u → gW D cy b u.1 s H locs u.2 → W p l e R s m args below meth c H locs (cells + mc) (slots + ms) Q (F0 m (pc + 3) ls (.ref r :: rest))) : W p l e R s m args below meth c H locs cells slots Q (F0 m pc ls st) := by
  subst hst
  subst har
  refine g_size hG hc fun hz => ?_
  exact va_callr (va_runS (As := As) (rest := rest) S hM (va_cwS As.length S.2.2.2.2 (gT_S w) rfl rfl rfl ⟨w.2.2.2.2.1, w.2.2.2.2.2, hn⟩ ⟨hR.1, hR.2.1⟩) ⟨gPre_blind, gPre_of hG hz⟩ rfl rfl hls rfl (lv_room hrm) hdg ⟨hR.2.2.1, hR.2.2.2⟩) hG.2.2.1 (gA_H hG) (fun _ h => h) (fun u ra t H1 l1 ht _ hw hB _ _ hS => by
    obtain ⟨h1, h2⟩ := hB
    subst h1
    exact kk u.1 u.2 H1 l1 hw (gW_call hG ht h2 hS))
theorem g_aret (S : CallFix p m c cc nL s args gT own) {rt : FieldType} (hr : meth.sig.returnType = some rt) (hrt : (∃ n, rt = .object n) ∨ ∃ t, rt = .array t) (hlk : meth.locks = false) {post : Nat → gU → Prop} {v : Nat} (hG : gW D cy b n s H locs E) (hc : s.heap.size + cells = b + n) (hdg : decode cc pc = .ok (.areturn, 1)) (hw : cells ≤ mc ∧ slots ≤ ms) (hp : post v (n, E)) : W p l e R s m args below meth c H locs cells slots (gQR D cy b s args below mc ms post) (F0 m pc ls [.ref v]) := by
  refine g_size hG hc fun hz => ?_
  refine W.widen hw.1 hw.2 ?_
  exact W.aret (v := .ref v) S.1 S.2.1 hr hrt (Or.inr ⟨v, rfl⟩) (fun t ht hW => ⟨⟨(v, (n, E)), v, rfl, hp, rfl, by show t.heap.size = b + n; rw [ht]; exact hz, by rw [ht]; exact hG.2.1, hG.1.warm hW (by rw [ht]; exact hG.2.2.1.2.1)⟩, hG.2.2.1.F ht⟩) hG.2.2.1.2.2 hdg hlk
theorem gR_of (hy : plainName y.cls = true) {post : Nat → gU → Prop} {av : List Value} (hnl : (lg_sl av).length ≤ nL)
    (h : ∀ (p : Program) (e : Env) (s : State) (m : MethodId) (args : Array Value) (below : List Frame) (meth : Method) (c : Code), CallFix p m c cc nL s args gT y.cls → meth.sig.returnType = ret → meth.locks = false → (y.name = "<init>" → meth.name = "<init>") → s.heap.size = b + n → ∀ ls : Array Slot, lv_has ls nL (lv_args 0 av) → gW D cy b n s s.heap [] E →
      W p l e (gRm d mc ms) s m args below meth c s.heap [] 0 0 (gQR D cy b s args below mc ms post) (F0 m 0 ls [])) : gR l y cc nL ret d mc ms D cy b n E av post := by
  refine Met.ofW (cc := cc) (maxL := nL) (ret := ret) hy rfl ?_
  intro p e s m args below meth c s₁ B hml hv
  obtain ⟨rfl, hsz, hP, hK⟩ := hv
  rw [lg_entry_eq]
  exact h p e s m _ below meth c (gS_of B hml) B.returns B.notSynchronized (fun hyn => (name_of_methodNamed B.named B.method).1.trans hyn) hsz _ (lv_entry av hnl) ⟨hK, hP, va_S.rf, by rw [hsz]; exact Nat.le_add_right b n⟩
end GTX
def lCHOOSE : List Int32 := [1, 0, 0, 0, 0, 0, 0, 0, 1, 1, 0, 0, 0, 0, 0, 0, 1, 2, 1, 0, 0, 0, 0, 0, 1, 3, 3, 1, 0, 0, 0, 0, 1, 4, 6, 4, 1, 0, 0, 0, 1, 5, 10, 10, 5, 1, 0, 0, 1, 6, 15, 20, 15, 6, 1, 0, 1, 7, 21, 35, 35, 21, 7, 1]
def lTOTIENT : List Int32 := [0, 1, 1, 2, 2, 4, 2, 6]
def lFACTORIAL : List Int32 := [1, 1, 2, 6, 24, 120, 720, 5040]
theorem gsa0 : gSA[0]? = some ("CHOOSE", lCHOOSE) := rfl
theorem gsa1 : gSA[1]? = some ("TOTIENT", lTOTIENT) := rfl
theorem gsa2 : gSA[2]? = some ("FACTORIAL", lFACTORIAL) := rfl
