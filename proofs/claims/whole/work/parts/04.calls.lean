/-! Contracts over such a world, calls, makings -/
def gRm (d mc ms : Nat) : Room := { frames := d, cells := mc, slots := ms, locals := 40 * d + 60 }
def gPre (D : va_G) (cy : Nat → ClassId) (b n : Nat) (E : Nat → va_E) (av : List Value) : Array Value → State → Prop :=
  va_Pc av (fun U => U.heap.size = b + n ∧ va_P D vwCl (wd b n E) U.heap ∧ gK D cy b U)
abbrev gU : Type := Nat × (Nat → va_E)
def gB (D : va_G) (cy : Nat → ClassId) (b : Nat) (u : gU) (t : State) : Prop := t.heap.size = b + u.1 ∧ va_P D vwCl (wd b u.1 u.2) t.heap ∧ gK D cy b t
/-- int, boolean: a method's contract: the answer, how many cells there are behind it, what they hold -/
def gI (l : Launch) (y : MethodName) (cc : ByteArray) (nL : Nat) (ret : Option FieldType) (d mc ms : Nat) (D : va_G) (cy : Nat → ClassId) (b n : Nat) (E : Nat → va_E) (av : List Value) (post : Int32 → gU → Prop) : Prop :=
  Met l y (.code y cc nL ret :: gT) (gRm d mc ms) (gPre D cy b n E av) (va_Qi post (gB D cy b) (gA b)) mc ms (gA b)
def gL (l : Launch) (y : MethodName) (cc : ByteArray) (nL : Nat) (d mc ms : Nat) (D : va_G) (cy : Nat → ClassId) (b n : Nat) (E : Nat → va_E) (av : List Value) (post : Int64 → gU → Prop) : Prop :=
  Met l y (.code y cc nL (some .long) :: gT) (gRm d mc ms) (gPre D cy b n E av) (va_Ql post (gB D cy b) (gA b)) mc ms (gA b)
def gV (l : Launch) (y : MethodName) (cc : ByteArray) (nL : Nat) (d mc ms : Nat) (D : va_G) (cy : Nat → ClassId) (b n : Nat) (E : Nat → va_E) (av : List Value) (post : gU → Prop) : Prop :=
  Met l y (.code y cc nL none :: gT) (gRm d mc ms) (gPre D cy b n E av) (va_Qv post (gB D cy b) (gA b)) mc ms (gA b)
theorem gPre_blind {D : va_G} {cy : Nat → ClassId} {b n : Nat} {E : Nat → va_E} {av : List Value} : FrameBlind (gPre D cy b n E av) := fun a U g mk q => by
  obtain ⟨q0, q1, qP, qK⟩ := q
  exact ⟨q0, q1, qP, qK.same (u := U) (U := U.calling g mk a) rfl rfl⟩
theorem gPre_of {D : va_G} {cy : Nat → ClassId} {b n : Nat} {s : State} {H : Heap} {locs : List Loc} {E : Nat → va_E} {av : List Value} (h : gW D cy b n s H locs E) (hz : H.size = b + n) : ∀ U : State, U.heap = H → s.WarmedH U.vm → gPre D cy b n E av av.toArray U := fun U hU hW =>
  ⟨rfl, by rw [hU]; exact hz, by rw [hU]; exact h.2.1, h.1.warm hW (by rw [hU]; exact h.2.2.1.2.1)⟩
theorem gW_call {D : va_G} {cy : Nat → ClassId} {b n : Nat} {s t : State} {H H1 : Heap} {locs locs1 : List Loc} {E : Nat → va_E} {u : gU} (h : gW D cy b n s H locs E) (ht : t.heap = H1) (hB : gB D cy b u t) (hS : va_S (gA b) s.heap H1 locs1) : gW D cy b u.1 s H1 locs1 u.2 :=
  ⟨h.1, by rw [← ht]; exact hB.2.1, hS, h.2.2.2⟩
section GC
variable {p : Program} {l : Launch} {e : Env} {R : Room} {s : State} {m : MethodId} {args : Array Value} {below : List Frame} {meth : Method} {c : Code} {H : Heap} {locs : List Loc} {cells slots : Nat} {Q : State → Prop} {cc cc' : ByteArray} {pc nL nL' d : Nat} {ls : Array Slot} {rest As : List Value} {own : String} {D : va_G} {cy : Nat → ClassId} {b n n' : Nat} {E : Nat → va_E} {index i mc ms : Nat} {y : MethodName} {ret : Option FieldType}
/-- the tables' words of a virtual call -/
def gWV (own : String) (index : Nat) (y : MethodName) (cc : ByteArray) (nL : Nat) (ret : Option FieldType) : Prop := Cond.methodLink own index y ∈ gT ∧ Cond.instanceMethod y ∈ gT ∧ Cond.selects y.cls y y ∈ gT ∧ Cond.initialized y.cls ∈ gT ∧ Cond.code y cc nL ret ∈ gT ∧ y.cls ≠ "java/lang/invoke/MethodHandle" ∧ y.cls ≠ "java/lang/invoke/VarHandle"
def gWS (own : String) (index : Nat) (y : MethodName) (cc : ByteArray) (nL : Nat) (ret : Option FieldType) : Prop := Cond.methodLink own index y ∈ gT ∧ Cond.static y ∈ gT ∧ Cond.initialized y.cls ∈ gT ∧ Cond.code y cc nL ret ∈ gT ∧ y.cls ≠ "java/lang/invoke/MethodHandle" ∧ y.cls ≠ "java/lang/invoke/VarHandle"
def gWI (own : String) (index : Nat) (y : MethodName) (cc : ByteArray) (nL : Nat) : Prop := Cond.methodLink own index y ∈ gT ∧ Cond.instanceMethod y ∈ gT ∧ Cond.initialized y.cls ∈ gT ∧ Cond.code y cc nL none ∈ gT ∧ y.cls ≠ "java/lang/invoke/MethodHandle" ∧ y.cls ≠ "java/lang/invoke/VarHandle" ∧ y.name = "<init>"
theorem gT_code {w : Cond} (h : w ∈ gT) : ∀ v ∈ (w :: gT), v ∈ gT := fun v hv => by
  rcases List.mem_cons.mp hv with rfl | h'
  · exact h
  · exact h'
theorem gT_V (w : gWV own index y cc' nL' ret) : GoodIn gT (wsV own index y.cls y (Cond.code y cc' nL' ret :: gT)) := gT_good fun v hv => by
  unfold wsV at hv
  rcases List.mem_append.mp hv with h | h
  · simp only [List.mem_cons, List.not_mem_nil, or_false] at h
    rcases h with rfl | rfl | rfl | rfl
    · exact w.1
    · exact w.2.1
    · exact w.2.2.1
    · exact w.2.2.2.1
  · exact gT_code w.2.2.2.2.1 v h
theorem gT_S (w : gWS own index y cc' nL' ret) : GoodIn gT (va_wsS own index y (Cond.code y cc' nL' ret :: gT)) := gT_good fun v hv => by
  unfold va_wsS at hv
  rcases List.mem_append.mp hv with h | h
  · simp only [List.mem_cons, List.not_mem_nil, or_false] at h
    rcases h with rfl | rfl | rfl
    · exact w.1
    · exact w.2.1
    · exact w.2.2.1
  · exact gT_code w.2.2.2.1 v h
theorem g_recv (hG : gW D cy b n s H locs E) {ci N : Nat} {C : String} {T : u_T} {ty : Nat → FieldType} {fs : List Value} (he : E i = .inr (ci, fs)) (P : cP ci C T N ty) (hi : i < n) : ∃ cell : Cell, H[b + i]? = some cell ∧ cell.vm.isStatics = false ∧ s.vm.findClass C = some cell.cls := va_recv hG.1.1 hG.2.1 (q0 := i) P.1 (wd_at hi he)
theorem gA_H (hG : gW D cy b n s H locs E) : ∀ q : Nat, q < H.size → gA b q → gA b q := fun _ _ h => h
theorem g_vi (S : CallFix p m c cc nL s args gT own) (hG : gW D cy b n s H locs E) (hc : s.heap.size + cells = b + n) {post : Int32 → gU → Prop} (hM : gI l y cc' nL' ret d mc ms D cy b n E (.ref (b + i) :: As) post) (w : gWV own index y cc' nL' ret) {ci N : Nat} {T : u_T} {ty : Nat → FieldType} {fs : List Value} (he : E i = .inr (ci, fs)) (P : cP ci y.cls T N ty) (hi : i < n) (hdg : decode cc pc = .ok (.invokevirtual index, 3)) {st : List Value} (hst : st = As.reverse ++ .ref (b + i) :: rest) (hls : ls.size = nL) {ar : Nat} (hn : (parseMethodDescriptor y.desc).map (fun d => d.parameters.length) = some ar) (har : As.length = ar) (hR : d + 1 ≤ R.frames ∧ 8 + (nL' + 11) + (40 * d + 60) ≤ R.locals ∧ cells + mc ≤ R.cells ∧ slots + ms ≤ R.slots) (hrm : (rest.map fun v => v.category).sum ≤ 8)
    (kk : ∀ (r : Int32) (u : gU) (H : Heap) (locs : List Loc), post r u → gW D cy b u.1 s H locs u.2 → W p l e R s m args below meth c H locs (cells + mc) (slots + ms) Q (F0 m (pc + 3) ls (.int r :: rest))) : W p l e R s m args below meth c H locs cells slots Q (F0 m pc ls st) := by
  subst hst
  subst har
  refine g_size hG hc fun hz => ?_
  exact va_calli (va_runV (As := As) (rest := rest) S hM (cwV As.length S.2.2.2.2 (gT_V w) rfl rfl rfl ⟨rfl, w.2.2.2.2.2.1, w.2.2.2.2.2.2, hn⟩ ⟨hR.1, hR.2.1⟩) ⟨gPre_blind, g_recv hG he P hi, gPre_of hG hz⟩ rfl rfl hls rfl (lv_room hrm) hdg ⟨hR.2.2.1, hR.2.2.2⟩) hG.2.2.1 (gA_H hG) (fun _ h => h) (fun r u t H1 l1 ht _ hw hB _ _ hS => kk r u H1 l1 hw (gW_call hG ht hB hS))
theorem g_vl (S : CallFix p m c cc nL s args gT own) (hG : gW D cy b n s H locs E) (hc : s.heap.size + cells = b + n) {post : Int64 → gU → Prop} (hM : gL l y cc' nL' d mc ms D cy b n E (.ref (b + i) :: As) post) (w : gWV own index y cc' nL' (some .long)) {ci N : Nat} {T : u_T} {ty : Nat → FieldType} {fs : List Value} (he : E i = .inr (ci, fs)) (P : cP ci y.cls T N ty) (hi : i < n) (hdg : decode cc pc = .ok (.invokevirtual index, 3)) {st : List Value} (hst : st = As.reverse ++ .ref (b + i) :: rest) (hls : ls.size = nL) {ar : Nat} (hn : (parseMethodDescriptor y.desc).map (fun d => d.parameters.length) = some ar) (har : As.length = ar) (hR : d + 1 ≤ R.frames ∧ 8 + (nL' + 11) + (40 * d + 60) ≤ R.locals ∧ cells + mc ≤ R.cells ∧ slots + ms ≤ R.slots) (hrm : (rest.map fun v => v.category).sum ≤ 8)
    (kk : ∀ (r : Int64) (u : gU) (H : Heap) (locs : List Loc), post r u → gW D cy b u.1 s H locs u.2 → W p l e R s m args below meth c H locs (cells + mc) (slots + ms) Q (F0 m (pc + 3) ls (.long r :: rest))) : W p l e R s m args below meth c H locs cells slots Q (F0 m pc ls st) := by
  subst hst
  subst har
  refine g_size hG hc fun hz => ?_
  exact va_calll (va_runV (As := As) (rest := rest) S hM (cwV As.length S.2.2.2.2 (gT_V w) rfl rfl rfl ⟨rfl, w.2.2.2.2.2.1, w.2.2.2.2.2.2, hn⟩ ⟨hR.1, hR.2.1⟩) ⟨gPre_blind, g_recv hG he P hi, gPre_of hG hz⟩ rfl rfl hls rfl (lv_room hrm) hdg ⟨hR.2.2.1, hR.2.2.2⟩) hG.2.2.1 (gA_H hG) (fun _ h => h) (fun r u t H1 l1 ht _ hw hB _ _ hS => kk r u H1 l1 hw (gW_call hG ht hB hS))
theorem g_vv (S : CallFix p m c cc nL s args gT own) (hG : gW D cy b n s H locs E) (hc : s.heap.size + cells = b + n) {post : gU → Prop} (hM : gV l y cc' nL' d mc ms D cy b n E (.ref (b + i) :: As) post) (w : gWV own index y cc' nL' none) {ci N : Nat} {T : u_T} {ty : Nat → FieldType} {fs : List Value} (he : E i = .inr (ci, fs)) (P : cP ci y.cls T N ty) (hi : i < n) (hdg : decode cc pc = .ok (.invokevirtual index, 3)) {st : List Value} (hst : st = As.reverse ++ .ref (b + i) :: rest) (hls : ls.size = nL) {ar : Nat} (hn : (parseMethodDescriptor y.desc).map (fun d => d.parameters.length) = some ar) (har : As.length = ar) (hR : d + 1 ≤ R.frames ∧ 8 + (nL' + 11) + (40 * d + 60) ≤ R.locals ∧ cells + mc ≤ R.cells ∧ slots + ms ≤ R.slots) (hrm : (rest.map fun v => v.category).sum ≤ 8)
    (kk : ∀ (u : gU) (H : Heap) (locs : List Loc), post u → gW D cy b u.1 s H locs u.2 → W p l e R s m args below meth c H locs (cells + mc) (slots + ms) Q (F0 m (pc + 3) ls (rest))) : W p l e R s m args below meth c H locs cells slots Q (F0 m pc ls st) := by
  subst hst
  subst har
  refine g_size hG hc fun hz => ?_
  exact va_callv (va_runV (As := As) (rest := rest) S hM (cwV As.length S.2.2.2.2 (gT_V w) rfl rfl rfl ⟨rfl, w.2.2.2.2.2.1, w.2.2.2.2.2.2, hn⟩ ⟨hR.1, hR.2.1⟩) ⟨gPre_blind, g_recv hG he P hi, gPre_of hG hz⟩ rfl rfl hls rfl (lv_room hrm) hdg ⟨hR.2.2.1, hR.2.2.2⟩) hG.2.2.1 (gA_H hG) (fun _ h => h) (fun u t H1 l1 ht _ hw hB _ _ hS => kk u H1 l1 hw (gW_call hG ht hB hS))
theorem g_si (S : CallFix p m c cc nL s args gT own) (hG : gW D cy b n s H locs E) (hc : s.heap.size + cells = b + n) {post : Int32 → gU → Prop} (hM : gI l y cc' nL' ret d mc ms D cy b n E As post) (w : gWS own index y cc' nL' ret) (hdg : decode cc pc = .ok (.invokestatic index, 3)) {st : List Value} (hst : st = As.reverse ++ rest) (hls : ls.size = nL) {ar : Nat} (hn : (parseMethodDescriptor y.desc).map (fun d => d.parameters.length) = some ar) (har : As.length = ar) (hR : d + 1 ≤ R.frames ∧ 8 + (nL' + 11) + (40 * d + 60) ≤ R.locals ∧ cells + mc ≤ R.cells ∧ slots + ms ≤ R.slots) (hrm : (rest.map fun v => v.category).sum ≤ 8)
    (kk : ∀ (r : Int32) (u : gU) (H : Heap) (locs : List Loc), post r u → gW D cy b u.1 s H locs u.2 → W p l e R s m args below meth c H locs (cells + mc) (slots + ms) Q (F0 m (pc + 3) ls (.int r :: rest))) : W p l e R s m args below meth c H locs cells slots Q (F0 m pc ls st) := by
  subst hst
  subst har
  refine g_size hG hc fun hz => ?_
  exact va_calli (va_runS (As := As) (rest := rest) S hM (va_cwS As.length S.2.2.2.2 (gT_S w) rfl rfl rfl ⟨w.2.2.2.2.1, w.2.2.2.2.2, hn⟩ ⟨hR.1, hR.2.1⟩) ⟨gPre_blind, gPre_of hG hz⟩ rfl rfl hls rfl (lv_room hrm) hdg ⟨hR.2.2.1, hR.2.2.2⟩) hG.2.2.1 (gA_H hG) (fun _ h => h) (fun r u t H1 l1 ht _ hw hB _ _ hS => kk r u H1 l1 hw (gW_call hG ht hB hS))
theorem g_sl (S : CallFix p m c cc nL s args gT own) (hG : gW D cy b n s H locs E) (hc : s.heap.size + cells = b + n) {post : Int64 → gU → Prop} (hM : gL l y cc' nL' d mc ms D cy b n E As post) (w : gWS own index y cc' nL' (some .long)) (hdg : decode cc pc = .ok (.invokestatic index, 3)) {st : List Value} (hst : st = As.reverse ++ rest) (hls : ls.size = nL) {ar : Nat} (hn : (parseMethodDescriptor y.desc).map (fun d => d.parameters.length) = some ar) (har : As.length = ar) (hR : d + 1 ≤ R.frames ∧ 8 + (nL' + 11) + (40 * d + 60) ≤ R.locals ∧ cells + mc ≤ R.cells ∧ slots + ms ≤ R.slots) (hrm : (rest.map fun v => v.category).sum ≤ 8)
    (kk : ∀ (r : Int64) (u : gU) (H : Heap) (locs : List Loc), post r u → gW D cy b u.1 s H locs u.2 → W p l e R s m args below meth c H locs (cells + mc) (slots + ms) Q (F0 m (pc + 3) ls (.long r :: rest))) : W p l e R s m args below meth c H locs cells slots Q (F0 m pc ls st) := by
  subst hst
  subst har
  refine g_size hG hc fun hz => ?_
  exact va_calll (va_runS (As := As) (rest := rest) S hM (va_cwS As.length S.2.2.2.2 (gT_S w) rfl rfl rfl ⟨w.2.2.2.2.1, w.2.2.2.2.2, hn⟩ ⟨hR.1, hR.2.1⟩) ⟨gPre_blind, gPre_of hG hz⟩ rfl rfl hls rfl (lv_room hrm) hdg ⟨hR.2.2.1, hR.2.2.2⟩) hG.2.2.1 (gA_H hG) (fun _ h => h) (fun r u t H1 l1 ht _ hw hB _ _ hS => kk r u H1 l1 hw (gW_call hG ht hB hS))
theorem g_sv (S : CallFix p m c cc nL s args gT own) (hG : gW D cy b n s H locs E) (hc : s.heap.size + cells = b + n) {post : gU → Prop} (hM : gV l y cc' nL' d mc ms D cy b n E As post) (w : gWS own index y cc' nL' none) (hdg : decode cc pc = .ok (.invokestatic index, 3)) {st : List Value} (hst : st = As.reverse ++ rest) (hls : ls.size = nL) {ar : Nat} (hn : (parseMethodDescriptor y.desc).map (fun d => d.parameters.length) = some ar) (har : As.length = ar) (hR : d + 1 ≤ R.frames ∧ 8 + (nL' + 11) + (40 * d + 60) ≤ R.locals ∧ cells + mc ≤ R.cells ∧ slots + ms ≤ R.slots) (hrm : (rest.map fun v => v.category).sum ≤ 8)
    (kk : ∀ (u : gU) (H : Heap) (locs : List Loc), post u → gW D cy b u.1 s H locs u.2 → W p l e R s m args below meth c H locs (cells + mc) (slots + ms) Q (F0 m (pc + 3) ls (rest))) : W p l e R s m args below meth c H locs cells slots Q (F0 m pc ls st) := by
  subst hst
  subst har
  refine g_size hG hc fun hz => ?_
  exact va_callv (va_runS (As := As) (rest := rest) S hM (va_cwS As.length S.2.2.2.2 (gT_S w) rfl rfl rfl ⟨w.2.2.2.2.1, w.2.2.2.2.2, hn⟩ ⟨hR.1, hR.2.1⟩) ⟨gPre_blind, gPre_of hG hz⟩ rfl rfl hls rfl (lv_room hrm) hdg ⟨hR.2.2.1, hR.2.2.2⟩) hG.2.2.1 (gA_H hG) (fun _ h => h) (fun u t H1 l1 ht _ hw hB _ _ hS => kk u H1 l1 hw (gW_call hG ht hB hS))
theorem g_ctor (S : CallFix p m c cc nL s args gT own) (hG : gW D cy b n s H locs E) (hc : s.heap.size + cells = b + n) {post : gU → Prop} (hM : gV l y cc' nL' d mc ms D cy b n E (.ref (b + i) :: As) post) (w : gWI own index y cc' nL') (hdg : decode cc pc = .ok (.invokespecial index, 3)) {st : List Value} (hst : st = As.reverse ++ .ref (b + i) :: rest) (hls : ls.size = nL) {ar : Nat} (hn : (parseMethodDescriptor y.desc).map (fun d => d.parameters.length) = some ar) (har : As.length = ar) (hR : d + 1 ≤ R.frames ∧ 8 + (nL' + 11) + (40 * d + 60) ≤ R.locals ∧ cells + mc ≤ R.cells ∧ slots + ms ≤ R.slots) (hrm : (rest.map fun v => v.category).sum ≤ 8)
    (kk : ∀ (u : gU) (H : Heap) (locs : List Loc), post u → gW D cy b u.1 s H locs u.2 → W p l e R s m args below meth c H locs (cells + mc) (slots + ms) Q (F0 m (pc + 3) ls rest)) : W p l e R s m args below meth c H locs cells slots Q (F0 m pc ls st) := by
  subst hst
  subst har
  refine g_size hG hc fun hz => ?_
  exact va_callv (va_runI (As := As) (rest := rest) S hM (cwI As.length S.2.2.2.2 (gT_good (gT_code w.2.2.2.1)) rfl rfl rfl (S.2.2.2.2 _ w.2.2.1) (S.2.2.2.2 _ w.1) (S.2.2.2.2 _ w.2.1) w.2.2.2.2.2.2 ⟨w.2.2.2.2.1, w.2.2.2.2.2.1, hn⟩ ⟨hR.1, hR.2.1⟩) ⟨gPre_blind, gPre_of hG hz⟩ rfl rfl hls rfl (lv_room hrm) hdg ⟨hR.2.2.1, hR.2.2.2⟩) hG.2.2.1 (gA_H hG) (fun _ h => h) (fun u t H1 l1 ht _ hw hB _ _ hS => kk u H1 l1 hw (gW_call hG ht hB hS))
theorem g_ctorN (S : CallFix p m c cc nL s args gT own) (hG : gW D cy b n s H locs E) (hc : s.heap.size + cells = b + n) {post : gU → Prop} (hM : gV l y cc' nL' d mc ms D cy b n E (.ref (b + i) :: As) post) {host : String} (w1 : (own, index, y, host) ∈ gnM) (w : Cond.instanceMethod y ∈ gT ∧ Cond.initialized y.cls ∈ gT ∧ Cond.code y cc' nL' none ∈ gT ∧ y.cls ≠ "java/lang/invoke/MethodHandle" ∧ y.cls ≠ "java/lang/invoke/VarHandle" ∧ y.name = "<init>") (hdg : decode cc pc = .ok (.invokespecial index, 3)) {st : List Value} (hst : st = As.reverse ++ .ref (b + i) :: rest) (hls : ls.size = nL) {ar : Nat} (hn : (parseMethodDescriptor y.desc).map (fun d => d.parameters.length) = some ar) (har : As.length = ar) (hR : d + 1 ≤ R.frames ∧ 8 + (nL' + 11) + (40 * d + 60) ≤ R.locals ∧ cells + mc ≤ R.cells ∧ slots + ms ≤ R.slots) (hrm : (rest.map fun v => v.category).sum ≤ 8)
    (kk : ∀ (u : gU) (H : Heap) (locs : List Loc), post u → gW D cy b u.1 s H locs u.2 → W p l e R s m args below meth c H locs (cells + mc) (slots + ms) Q (F0 m (pc + 3) ls rest)) : W p l e R s m args below meth c H locs cells slots Q (F0 m pc ls st) := by
  subst hst
  subst har
  refine g_size hG hc fun hz => ?_
  exact va_callv (va_runIN (As := As) (rest := rest) S hM ⟨va_cnB As.length S.2.2.2.2 (gT_good (gT_code w.2.2.1)) rfl rfl rfl (hG.1.2.2.1 _ w1) (S.2.2.2.2 _ w.2.1) ⟨w.2.2.2.1, w.2.2.2.2.1, hn⟩ ⟨hR.1, hR.2.1⟩, w.2.2.2.2.2, S.2.2.2.2 _ w.1⟩ ⟨gPre_blind, gPre_of hG hz⟩ rfl rfl hls rfl (lv_room hrm) hdg ⟨hR.2.2.1, hR.2.2.2⟩) hG.2.2.1 (gA_H hG) (fun _ h => h) (fun u t H1 l1 ht _ hw hB _ _ hS => kk u H1 l1 hw (gW_call hG ht hB hS))
/-- a new object -/
theorem g_new (S : CallFix p m c cc nL s args gT own) (hG : gW D cy b n s H locs E) (hc : s.heap.size + cells = b + n) {ci N : Nat} {C : String} {T : u_T} {ty : Nat → FieldType} {fs : List Value} (P : cP ci C T N ty) (hcl : Cond.classLink own index C ∈ gT) (hins : Cond.instantiable C N ∈ gT) (hini : Cond.initialized C ∈ gT) (hdg : decode cc pc = .ok (.new index, 3)) (hfs : ∀ j, j < N → defaultValue (ty j) = vp_V fs j) (hR : cells + 1 ≤ R.cells ∧ slots + N ≤ R.slots)
    (kk : ∀ (H : Heap), gW D cy b (n + 1) s H locs (upE E n (.inr (ci, fs))) → W p l e R s m args below meth c H locs (cells + 1) (slots + N) Q (F0 m (pc + 3) ls (.ref (b + n) :: rest))) : W p l e R s m args below meth c H locs cells slots Q (F0 m pc ls rest) := by
  refine g_size hG hc fun hz => ?_
  have hKn := hG.1.1.1 ci _ P.1
  refine W.newcK S.1 S.2.1 S.2.2.2.1 (S.2.2.2.2 _ hcl) (S.2.2.2.2 _ hins) (S.2.2.2.2 _ hini) rfl hdg hR.1 hR.2 hKn.2.1 hz fun H1 kC hkC e1 z1 o1 => ?_
  have hkp : ∀ (k : Nat) (x : Nat × va_E), (wd b n E)[k]? = some x → H1[x.1]? = H[x.1]? := fun k x hx => o1 x.1 (by rw [← hz]; exact (hG.2.1 k x hx).lt)
  have hP1 : va_P D vwCl (wd b n E ++ [(b + n, .inr (ci, fs))]) H1 := (hG.2.1.kept hkp).app (fun k x hx => by
    have hz1 : k < 1 := (List.getElem?_eq_some_iff.mp hx).1
    rw [show k = 0 by omega] at hx
    cases hx
    exact ⟨_, P.1, (u_born ty S.2.2.2.2 P.2.1 hKn hkC e1 P.2.2.1).to hfs⟩)
  rw [wd_push] at hP1
  exact kk H1 ⟨hG.1, hP1, ⟨Nat.le_trans hG.2.2.1.1 (by omega), fun x h1 h2 => (o1 x (by rw [← hz]; exact Nat.lt_of_lt_of_le h1 hG.2.2.1.1)).trans (hG.2.2.1.2.1 x h1 h2), hG.2.2.1.2.2⟩, hG.2.2.2⟩
/-- a new array of numbers: t its kind among gty's -/
theorem g_newa (S : CallFix p m c cc nL s args gT own) (hG : gW D cy b n s H locs E) (hc : s.heap.size + cells = b + n) (t : Nat) {atype : ArrayType} {ty : FieldType} (hty : newarray.typeOf atype = ty) (htt : (gty cy)[t]? = some (cy t, ty)) (hno : va_RA s (cy t) ty → s.vm.findClass ("[" ++ ty.toString) = some (cy t)) (harr : Cond.arrayClass ty ∈ gT) {k : Int32} {N : Nat} {a0 : vp_A} (ha : ∀ cA : ClassId, vp_cell cA a0 = arrV cA N (fun _ => defaultValue ty)) (hdg : decode cc pc = .ok (.newarray atype, 2)) (hn : ¬ k < 0) (hN : k.toNatClampNeg = N) (hby : N * componentBytes ty ≤ 536870912) (hR : cells + 1 ≤ R.cells ∧ slots + N ≤ R.slots)
    (kk : ∀ (H : Heap), gW D cy b (n + 1) s H locs (upE E n (.inl (cy t, a0))) → W p l e R s m args below meth c H locs (cells + 1) (slots + N) Q (F0 m (pc + 2) ls (.ref (b + n) :: rest))) : W p l e R s m args below meth c H locs cells slots Q (F0 m pc ls (.int k :: rest)) := by
  subst hty
  refine g_size hG hc fun hz => ?_
  refine va_newaK S.1 S.2.1 (S.2.2.2.2 _ harr) rfl hdg rfl hn hN hby hR.1 hR.2 hz fun H1 cA e1 z1 o1 hAr hNm => ?_
  have hc : cA = cy t := Option.some.inj (hNm.symm.trans (hno (hG.1.1.2 t _ htt).2))
  subst hc
  have hkp : ∀ (k : Nat) (x : Nat × va_E), (wd b n E)[k]? = some x → H1[x.1]? = H[x.1]? := fun k x hx => o1 x.1 (by rw [← hz]; exact (hG.2.1 k x hx).lt)
  have hP1 : va_P D vwCl (wd b n E ++ [(b + n, .inl (cy t, a0))]) H1 := (hG.2.1.kept hkp).app (fun k x hx => by
    have hz1 : k < 1 := (List.getElem?_eq_some_iff.mp hx).1
    rw [show k = 0 by omega] at hx
    cases hx
    show H1[b + n]? = some (vp_cell _ _)
    rw [ha]
    exact e1)
  rw [wd_push] at hP1
  exact kk H1 ⟨hG.1, hP1, ⟨Nat.le_trans hG.2.2.1.1 (by omega), fun x h1 h2 => (o1 x (by rw [← hz]; exact Nat.lt_of_lt_of_le h1 hG.2.2.1.1)).trans (hG.2.2.1.2.1 x h1 h2), hG.2.2.1.2.2⟩, hG.2.2.2⟩
/-- a new array of RingLists -/
theorem g_newq (S : CallFix p m c cc nL s args gT own) (hG : gW D cy b n s H locs E) (hc : s.heap.size + cells = b + n) (hcl : Cond.classLink own index "GrownKinds$RingList" ∈ gT) {k : Int32} {N : Nat} (hdg : decode cc pc = .ok (.anewarray index, 3)) (hn : ¬ k < 0) (hN : k.toNatClampNeg = N) (hby : N * 4 ≤ 536870912) (hR : cells + 1 ≤ R.cells ∧ slots + N ≤ R.slots)
    (kk : ∀ (H : Heap), gW D cy b (n + 1) s H locs (upE E n (.inl (cy 4, N, .inr (.inr (.inr (.inr (fun _ => none))))))) → W p l e R s m args below meth c H locs (cells + 1) (slots + N) Q (F0 m (pc + 3) ls (.ref (b + n) :: rest))) : W p l e R s m args below meth c H locs cells slots Q (F0 m pc ls (.int k :: rest)) := by
  subst hN
  refine g_size hG hc fun hz => ?_
  refine W.anew S.1 S.2.1 S.2.2.2.1 (S.2.2.2.2 _ hcl) (va_AO.use hG.1.2.1.1) rfl hdg rfl hn hby hR.1 hR.2 fun cA kA comp f1 f2 f3 f4 => ?_
  have hc : cA = cy 4 := by
    obtain ⟨kA', comp', -, -, -, h4⟩ := (hG.1.1.2 4 _ rfl).2
    exact Option.some.inj (f1.symm.trans h4)
  subst hc
  generalize hH1 : H.push ({ cls := cy 4, slots := Array.replicate k.toNatClampNeg .null, vm := .none } : Cell) = H1
  have z1 : H1.size = b + n + 1 := by rw [← hH1, Array.size_push, hz]
  have e1 : H1[b + n]? = some (arrV (cy 4) k.toNatClampNeg (fun _ => .null)) := by rw [← hH1, ← hz, Array.getElem?_push_size, ← arrV_new]
  have o1 : ∀ q : Nat, q < b + n → H1[q]? = H[q]? := fun q hq => by rw [← hH1, Array.getElem?_push, if_neg (Nat.ne_of_lt (by rw [hz]; exact hq))]
  have hkp : ∀ (k : Nat) (x : Nat × va_E), (wd b n E)[k]? = some x → H1[x.1]? = H[x.1]? := fun k x hx => o1 x.1 (by rw [← hz]; exact (hG.2.1 k x hx).lt)
  have hP1 : va_P D vwCl (wd b n E ++ [(b + n, .inl (cy 4, k.toNatClampNeg, .inr (.inr (.inr (.inr (fun _ => none))))))]) H1 := (hG.2.1.kept hkp).app (fun j x hx => by
    have hz1 : j < 1 := (List.getElem?_eq_some_iff.mp hx).1
    rw [show j = 0 by omega] at hx
    cases hx
    show H1[b + n]? = some (vp_cell _ _)
    rw [vp_cell_q]
    exact e1)
  rw [wd_push] at hP1
  rw [hz]
  exact kk H1 ⟨hG.1, hP1, ⟨Nat.le_trans hG.2.2.1.1 (by omega), fun x h1 h2 => (o1 x (by rw [← hz]; exact Nat.lt_of_lt_of_le h1 hG.2.2.1.1)).trans (hG.2.2.1.2.1 x h1 h2), hG.2.2.1.2.2⟩, hG.2.2.2⟩
/-- ends -/
theorem g_iret (S : CallFix p m c cc nL s args gT own) (hr : meth.sig.returnType = some .int) (hlk : meth.locks = false) {post : Int32 → gU → Prop} {v : Int32} (hG : gW D cy b n s H locs E) (hc : s.heap.size + cells = b + n) (hdg : decode cc pc = .ok (.ireturn, 1)) (hw : cells ≤ mc ∧ slots ≤ ms) (hp : post v (n, E)) : W p l e R s m args below meth c H locs cells slots (MQ below (va_Qi post (gB D cy b) (gA b)) args s mc ms (gA b)) (F0 m pc ls [.int v]) := by
  refine g_size hG hc fun hz => ?_
  refine W.widen hw.1 hw.2 ?_
  exact W.iret (v := v) S.1 S.2.1 hr (fun t ht hW => ⟨⟨v, (n, E), rfl, hp, by rw [ht]; exact hz, by rw [ht]; exact hG.2.1, hG.1.warm hW (by rw [ht]; exact hG.2.2.1.2.1)⟩, hG.2.2.1.F ht⟩) hG.2.2.1.2.2 hdg hlk
theorem g_zret (S : CallFix p m c cc nL s args gT own) (hr : meth.sig.returnType = some .boolean) (hlk : meth.locks = false) {post : Int32 → gU → Prop} {v : Int32} (hG : gW D cy b n s H locs E) (hc : s.heap.size + cells = b + n) (hdg : decode cc pc = .ok (.ireturn, 1)) (hw : cells ≤ mc ∧ slots ≤ ms) (hv : narrow .boolean (.int v) = .int v) (hp : post v (n, E)) : W p l e R s m args below meth c H locs cells slots (MQ below (va_Qi post (gB D cy b) (gA b)) args s mc ms (gA b)) (F0 m pc ls [.int v]) := by
  refine g_size hG hc fun hz => ?_
  refine W.widen hw.1 hw.2 ?_
  exact W.zret (v := v) S.1 S.2.1 hr hv (fun t ht hW => ⟨⟨v, (n, E), rfl, hp, by rw [ht]; exact hz, by rw [ht]; exact hG.2.1, hG.1.warm hW (by rw [ht]; exact hG.2.2.1.2.1)⟩, hG.2.2.1.F ht⟩) hG.2.2.1.2.2 hdg hlk
theorem g_lret (S : CallFix p m c cc nL s args gT own) (hr : meth.sig.returnType = some .long) (hlk : meth.locks = false) {post : Int64 → gU → Prop} {v : Int64} (hG : gW D cy b n s H locs E) (hc : s.heap.size + cells = b + n) (hdg : decode cc pc = .ok (.lreturn, 1)) (hw : cells ≤ mc ∧ slots ≤ ms) (hp : post v (n, E)) : W p l e R s m args below meth c H locs cells slots (MQ below (va_Ql post (gB D cy b) (gA b)) args s mc ms (gA b)) (F0 m pc ls [.long v]) := by
  refine g_size hG hc fun hz => ?_
  refine W.widen hw.1 hw.2 ?_
  exact W.lret (v := v) S.1 S.2.1 hr (fun t ht hW => ⟨⟨v, (n, E), rfl, hp, by rw [ht]; exact hz, by rw [ht]; exact hG.2.1, hG.1.warm hW (by rw [ht]; exact hG.2.2.1.2.1)⟩, hG.2.2.1.F ht⟩) hG.2.2.1.2.2 hdg hlk
theorem g_vret (S : CallFix p m c cc nL s args gT own) (hr : meth.sig.returnType = none) (hlk : meth.locks = false) {post : gU → Prop} (hG : gW D cy b n s H locs E) (hc : s.heap.size + cells = b + n) (hdg : decode cc pc = .ok (.return_, 1)) (hw : cells ≤ mc ∧ slots ≤ ms) (hp : post (n, E)) : W p l e R s m args below meth c H locs cells slots (MQ below (va_Qv post (gB D cy b) (gA b)) args s mc ms (gA b)) (F0 m pc ls []) := by
  refine g_size hG hc fun hz => ?_
  refine W.widen hw.1 hw.2 ?_
  exact W.vret S.1 S.2.1 hr (fun t ht hW => ⟨⟨(n, E), rfl, hp, by rw [ht]; exact hz, by rw [ht]; exact hG.2.1, hG.1.warm hW (by rw [ht]; exact hG.2.2.1.2.1)⟩, hG.2.2.1.F ht⟩) hG.2.2.1.2.2 hdg hlk
theorem g_objInit (S : CallFix p m c cc nL s args gT own) (w : Cond.methodLink own index objectInit ∈ gT) (w2 : Cond.instanceMethod objectInit ∈ gT) (w3 : Cond.code objectInit ⟨#[0xb1]⟩ 1 none ∈ gT) (hls : ls.size = nL) {a : Nat} (hdg : decode cc pc = .ok (.invokespecial index, 3)) (hR : 1 ≤ R.frames ∧ 12 ≤ R.locals)
    (kk : W p l e R s m args below meth c H locs cells slots Q (F0 m (pc + 3) ls [])) : W p l e R s m args below meth c H locs cells slots Q (F0 m pc ls [.ref a]) :=
  W.objInit S.1 S.2.1 S.2.2.2.1 (S.2.2.2.2 _ w) (S.2.2.2.2 _ w2) (S.2.2.2.2 _ w3) rfl (hls.trans S.2.2.1.symm) rfl hdg hR.1 (by show 2 * 0 + 0 + 12 ≤ _; exact hR.2) kk
end GC
/-! the beginnings -/
section GS
variable {l : Launch} {y : MethodName} {cc : ByteArray} {nL d : Nat} {ret : Option FieldType} {D : va_G} {cy : Nat → ClassId} {b n n' : Nat} {E : Nat → va_E} {av : List Value}
theorem gS_of {p : Program} {e : Env} {s : State} {m : MethodId} {args : Array Value} {below : List Frame} {meth : Method} {c : Code} {s₁ : State} {rm : Room} (B : BodyLoose p l y (headSpec (.code y cc nL ret :: gT) rm) cc nL ret e s m args below meth c s₁) (hml : c.maxLocals = nL) : CallFix p m c cc nL s args gT y.cls :=
  ⟨B.exec, B.bytes, hml, findClass_of_methodNamed B.named, fun w hw => atoms_spec (ws := .code y cc nL ret :: gT) B.pre w (List.mem_cons_of_mem _ hw)⟩
theorem gI_of (hy : plainName y.cls = true) {mc ms : Nat} {post : Int32 → gU → Prop} (hnl : (lg_sl av).length ≤ nL)
    (h : ∀ (p : Program) (e : Env) (s : State) (m : MethodId) (args : Array Value) (below : List Frame) (meth : Method) (c : Code), CallFix p m c cc nL s args gT y.cls → meth.sig.returnType = ret → meth.locks = false → (y.name = "<init>" → meth.name = "<init>") → s.heap.size = b + n → ∀ ls : Array Slot, lv_has ls nL (lv_args 0 av) → gW D cy b n s s.heap [] E →
      W p l e (gRm d mc ms) s m args below meth c s.heap [] 0 0 (MQ below (va_Qi post (gB D cy b) (gA b)) args s mc ms (gA b)) (F0 m 0 ls [])) : gI l y cc nL ret d mc ms D cy b n E av post := by
  refine Met.ofW (cc := cc) (maxL := nL) (ret := ret) hy rfl ?_
  intro p e s m args below meth c s₁ B hml hv
  obtain ⟨rfl, hsz, hP, hK⟩ := hv
  rw [lg_entry_eq]
  exact h p e s m _ below meth c (gS_of B hml) B.returns B.notSynchronized (fun hyn => (name_of_methodNamed B.named B.method).1.trans hyn) hsz _ (lv_entry av hnl) ⟨hK, hP, va_S.rf, by rw [hsz]; exact Nat.le_add_right b n⟩
theorem gL_of (hy : plainName y.cls = true) {mc ms : Nat} {post : Int64 → gU → Prop} (hnl : (lg_sl av).length ≤ nL)
    (h : ∀ (p : Program) (e : Env) (s : State) (m : MethodId) (args : Array Value) (below : List Frame) (meth : Method) (c : Code), CallFix p m c cc nL s args gT y.cls → meth.sig.returnType = some .long → meth.locks = false → (y.name = "<init>" → meth.name = "<init>") → s.heap.size = b + n → ∀ ls : Array Slot, lv_has ls nL (lv_args 0 av) → gW D cy b n s s.heap [] E →
      W p l e (gRm d mc ms) s m args below meth c s.heap [] 0 0 (MQ below (va_Ql post (gB D cy b) (gA b)) args s mc ms (gA b)) (F0 m 0 ls [])) : gL l y cc nL d mc ms D cy b n E av post := by
  refine Met.ofW (cc := cc) (maxL := nL) (ret := some .long) hy rfl ?_
  intro p e s m args below meth c s₁ B hml hv
  obtain ⟨rfl, hsz, hP, hK⟩ := hv
  rw [lg_entry_eq]
  exact h p e s m _ below meth c (gS_of B hml) B.returns B.notSynchronized (fun hyn => (name_of_methodNamed B.named B.method).1.trans hyn) hsz _ (lv_entry av hnl) ⟨hK, hP, va_S.rf, by rw [hsz]; exact Nat.le_add_right b n⟩
theorem gV_of (hy : plainName y.cls = true) {mc ms : Nat} {post : gU → Prop} (hnl : (lg_sl av).length ≤ nL)
    (h : ∀ (p : Program) (e : Env) (s : State) (m : MethodId) (args : Array Value) (below : List Frame) (meth : Method) (c : Code), CallFix p m c cc nL s args gT y.cls → meth.sig.returnType = none → meth.locks = false → (y.name = "<init>" → meth.name = "<init>") → s.heap.size = b + n → ∀ ls : Array Slot, lv_has ls nL (lv_args 0 av) → gW D cy b n s s.heap [] E →
      W p l e (gRm d mc ms) s m args below meth c s.heap [] 0 0 (MQ below (va_Qv post (gB D cy b) (gA b)) args s mc ms (gA b)) (F0 m 0 ls [])) : gV l y cc nL d mc ms D cy b n E av post := by
  refine Met.ofW (cc := cc) (maxL := nL) (ret := none) hy rfl ?_
  intro p e s m args below meth c s₁ B hml hv
  obtain ⟨rfl, hsz, hP, hK⟩ := hv
  rw [lg_entry_eq]
  exact h p e s m _ below meth c (gS_of B hml) B.returns B.notSynchronized (fun hyn => (name_of_methodNamed B.named B.method).1.trans hyn) hsz _ (lv_entry av hnl) ⟨hK, hP, va_S.rf, by rw [hsz]; exact Nat.le_add_right b n⟩
end GS
