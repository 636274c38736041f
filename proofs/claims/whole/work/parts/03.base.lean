/-! A world of cells that lie side by side from the address b on, by their numbers: what stands in each is E -/
def gT : List Cond := lw_tbl.filter goodWord
theorem gT_in {w : Cond} (h : w ∈ lw_tbl) (g : goodWord w = true) : w ∈ gT := List.mem_filter.mpr ⟨h, g⟩
theorem gT_tbl {w : Cond} (h : w ∈ gT) : w ∈ lw_tbl := (List.mem_filter.mp h).1
theorem gT_good {ws : List Cond} (h : ∀ w ∈ ws, w ∈ gT) : GoodIn gT ws := fun w hw => ⟨h w hw, good_of_word (List.mem_filter.mp (h w hw)).2⟩
def upE (E : Nat → va_E) (i : Nat) (x : va_E) : Nat → va_E := fun j => if j = i then x else E j
theorem upE_s {E : Nat → va_E} {i : Nat} {x : va_E} : upE E i x i = x := by simp [upE]
theorem upE_n {E : Nat → va_E} {i j : Nat} {x : va_E} (h : j ≠ i) : upE E i x j = E j := by simp [upE, h]
def wd (b n : Nat) (E : Nat → va_E) : va_W := (List.range n).map fun i => (b + i, E i)
theorem wd_get {b n i : Nat} {E : Nat → va_E} (h : i < n) : (wd b n E)[i]? = some (b + i, E i) := by simp [wd, h]
theorem wd_at {b n i : Nat} {E : Nat → va_E} {x : va_E} (h : i < n) (he : E i = x) : (wd b n E)[i]? = some (b + i, x) := by rw [wd_get h, he]
theorem wd_inv {b n k : Nat} {E : Nat → va_E} {q : Nat × va_E} (h : (wd b n E)[k]? = some q) : k < n ∧ q = (b + k, E k) := by
  by_cases hk : k < n
  · rw [wd_get hk] at h; cases h; exact ⟨hk, rfl⟩
  · simp [wd, hk] at h
theorem wd_ext {b n : Nat} {E E' : Nat → va_E} (h : ∀ i, i < n → E i = E' i) : wd b n E = wd b n E' := by
  refine List.map_congr_left fun i hi => ?_
  rw [h i (List.mem_range.mp hi)]
theorem wd_len {b n : Nat} {E : Nat → va_E} : (wd b n E).length = n := by simp [wd]
theorem wd_set {b n i : Nat} {E : Nat → va_E} {x : va_E} (h : i < n) : (wd b n E).set i (b + i, x) = wd b n (upE E i x) := by
  refine List.ext_getElem? fun k => ?_
  by_cases hk : k < n
  · rw [wd_get hk]
    by_cases hik : i = k
    · subst hik
      rw [List.getElem?_set_self (by rw [wd_len]; exact hk)]
      simp [upE]
    · rw [List.getElem?_set_ne hik, wd_get hk, upE_n (Ne.symm hik)]
  · rw [List.getElem?_eq_none (by rw [List.length_set, wd_len]; omega), List.getElem?_eq_none (by rw [wd_len]; omega)]
theorem wd_push {b n : Nat} {E : Nat → va_E} {x : va_E} : wd b n E ++ [(b + n, x)] = wd b (n + 1) (upE E n x) := by
  unfold wd
  rw [List.range_succ, List.map_append]
  congr 1
  · refine List.map_congr_left fun i hi => ?_
    rw [upE_n (Nat.ne_of_lt (List.mem_range.mp hi))]
  · simp [upE]
def gty (cy : Nat → ClassId) : List (ClassId × FieldType) := [(cy 0, .byte), (cy 1, .int), (cy 2, .long), (cy 3, .boolean), (cy 4, .object "GrownKinds$RingList")]
def gnM : List (String × Nat × MethodName × String) := [("GrownKinds", 19, ⟨"GrownKinds$Grammar", "<init>", "()V"⟩, "GrownKinds"), ("GrownKinds$Census", 105, ⟨"GrownKinds", "plus", "(JJ)J"⟩, "GrownKinds"), ("GrownKinds$Census", 181, ⟨"GrownKinds", "picks", "(JIZ)J"⟩, "GrownKinds"), ("GrownKinds$Census", 142, ⟨"GrownKinds", "times", "(JJ)J"⟩, "GrownKinds"), ("GrownKinds$Speller", 119, ⟨"GrownKinds", "times", "(JJ)J"⟩, "GrownKinds"), ("GrownKinds$Sequences", 53, ⟨"GrownKinds", "times", "(JJ)J"⟩, "GrownKinds"), ("GrownKinds$Speller", 164, ⟨"GrownKinds", "openSign", "(I)I"⟩, "GrownKinds"), ("GrownKinds$Speller", 167, ⟨"GrownKinds", "closeSign", "(I)I"⟩, "GrownKinds"), ("GrownKinds$Sequences", 71, ⟨"GrownKinds", "picks", "(JIZ)J"⟩, "GrownKinds"), ("GrownKinds$Sequences", 79, ⟨"GrownKinds", "plus", "(JJ)J"⟩, "GrownKinds"), ("GrownKinds$Sequences", 94, ⟨"GrownKinds$RingList", "<init>", "()V"⟩, "GrownKinds"), ("GrownKinds$ThingReader", 115, ⟨"GrownKinds", "closeSign", "(I)I"⟩, "GrownKinds"), ("GrownKinds$ThingReader", 112, ⟨"GrownKinds", "openSign", "(I)I"⟩, "GrownKinds")]
def gnF : List (String × Nat × String × String × String × String) := [("GrownKinds$Census", 133, "GrownKinds", "CHOOSE", "[I", "GrownKinds"), ("GrownKinds$Census", 173, "GrownKinds", "TOTIENT", "[I", "GrownKinds"), ("GrownKinds$Census", 170, "GrownKinds", "FACTORIAL", "[I", "GrownKinds")]
/-- the words on nest mates -/
def gN (s : State) : Prop := (∀ q ∈ gnM, va_Nw (.methodLinkNest q.1 q.2.1 q.2.2.1 q.2.2.2) s) ∧ ∀ q ∈ gnF, va_Nw (.fieldLinkNest q.1 q.2.1 q.2.2.1 q.2.2.2.1 q.2.2.2.2.1 q.2.2.2.2.2) s
/-- which cells may change: all that came since the start -/
def gA (b : Nat) : Nat → Prop := fun q => b ≤ q
/-- the texts that the classes name: where from, their bytes -/
def gSC : List (String × Nat × String × List Int32) := [("GrownKinds$Reader", 137, "grammar", [103, 114, 97, 109, 109, 97, 114]), ("GrownKinds$Reader", 139, "most", [109, 111, 115, 116]), ("GrownKinds$Reader", 121, "atom", [97, 116, 111, 109]), ("GrownKinds$Reader", 127, "unit", [117, 110, 105, 116]), ("GrownKinds$Reader", 129, "row", [114, 111, 119]), ("GrownKinds$Reader", 131, "bag", [98, 97, 103]), ("GrownKinds$Reader", 133, "set", [115, 101, 116]), ("GrownKinds$Reader", 135, "ring", [114, 105, 110, 103]), ("GrownKinds$Reader", 141, "or", [111, 114]), ("GrownKinds$Reader", 143, "with", [119, 105, 116, 104]), ("GrownKindsModel", 127, "grammar", [103, 114, 97, 109, 109, 97, 114]), ("GrownKindsModel", 129, "most", [109, 111, 115, 116]), ("GrownKindsModel", 131, "atom", [97, 116, 111, 109]), ("GrownKindsModel", 133, "unit", [117, 110, 105, 116]), ("GrownKindsModel", 135, "or", [111, 114]), ("GrownKindsModel", 137, "with", [119, 105, 116, 104]), ("GrownKindsModel", 139, "row", [114, 111, 119]), ("GrownKindsModel", 141, "bag", [98, 97, 103]), ("GrownKindsModel", 143, "set", [115, 101, 116]), ("GrownKindsModel", 145, "ring", [114, 105, 110, 103]), ("GrownKindsModel", 443, "[{<(", [91, 123, 60, 40]), ("GrownKindsModel", 445, "]}>)", [93, 125, 62, 41])]
/-- the rows of numbers that stand once and for all -/
def gSA : List (String × List Int32) := [("CHOOSE", [1, 0, 0, 0, 0, 0, 0, 0, 1, 1, 0, 0, 0, 0, 0, 0, 1, 2, 1, 0, 0, 0, 0, 0, 1, 3, 3, 1, 0, 0, 0, 0, 1, 4, 6, 4, 1, 0, 0, 0, 1, 5, 10, 10, 5, 1, 0, 0, 1, 6, 15, 20, 15, 6, 1, 0, 1, 7, 21, 35, 35, 21, 7, 1]), ("TOTIENT", [0, 1, 1, 2, 2, 4, 2, 6]), ("FACTORIAL", [1, 1, 2, 6, 24, 120, 720, 5040])]
def gStr (b q v : Nat) (bs : List Int32) (s : State) : Prop := va_O "java/lang/String" q (gA b) s s.heap ∧ va_OF "java/lang/String" "coder" "B" (.int 0) q (gA b) s s.heap ∧ va_OF "java/lang/String" "value" "[B" (.ref v) q (gA b) s s.heap ∧ va_T .byte v bs.length (fun j => .int (bs.getD j 0)) (gA b) s s.heap
/-- what was there before: texts, rows, a setting; where they lie stands in cy: texts from 10 on, their bytes from 40 on, rows from 70 on -/
def gZ (cy : Nat → ClassId) (b : Nat) (s : State) : Prop := (∀ (i : Nat) (q : String × Nat × String × List Int32), gSC[i]? = some q → vk_R q.1 q.2.1 q.2.2.1 (cy (10 + i)) s ∧ gStr b (cy (10 + i)) (cy (40 + i)) q.2.2.2 s) ∧ (∀ (i : Nat) (q : String × List Int32), gSA[i]? = some q → va_Z "GrownKinds" q.1 "[I" (.ref (cy (70 + i))) (gA b) s s.heap ∧ va_T .int (cy (70 + i)) q.2.length (fun j => .int (q.2.getD j 0)) (gA b) s s.heap) ∧ va_Z "java/lang/String" "COMPACT_STRINGS" "Z" (.int 1) (gA b) s s.heap ∧ ∃ v : Option Nat, va_Z "jdk/internal/util/Preconditions" "SIOOBE_FORMATTER" "Ljava/util/function/BiFunction;" (va_rf v) (gA b) s s.heap
theorem gZ.go {cy : Nat → ClassId} {b : Nat} {u U : State} (h : gZ cy b u) (hR : ∀ (own : String) (k : Nat) (tx : String) (a : Nat), vk_R own k tx a u → vk_R own k tx a U) (hvm : u.vm.Alike U.vm) (hq : ∀ a : Nat, a < u.heap.size → ¬ gA b a → U.heap[a]? = u.heap[a]?) : gZ cy b U := by
  obtain ⟨h1, h2, h3, v, h4⟩ := h
  refine ⟨fun i q hi => ?_, fun i q hi => ?_, (va_Z.moved hvm h3).kept hq, v, (va_Z.moved hvm h4).kept hq⟩
  · obtain ⟨a1, a2, a3, a4, a5⟩ := h1 i q hi
    exact ⟨hR _ _ _ _ a1, (va_O.moved hvm a2).kept hq, (va_OF.moved hvm a3).kept hq, (va_OF.moved hvm a4).kept hq, (va_T.moved hvm a5).kept hq⟩
  · obtain ⟨a1, a2⟩ := h2 i q hi
    exact ⟨(va_Z.moved hvm a1).kept hq, (va_T.moved hvm a2).kept hq⟩
def gK (D : va_G) (cy : Nat → ClassId) (b : Nat) (s : State) : Prop := va_K D vwCl (gty cy) s ∧ (va_AO "GrownKinds$RingList" s ∧ gZ cy b s) ∧ gN s
theorem gK.same {D : va_G} {cy : Nat → ClassId} {b : Nat} {u U : State} (h : gK D cy b u) (hvm : u.vm = U.vm) (hh : U.heap = u.heap) : gK D cy b U := ⟨va_K.moved (by rw [← hvm]; exact Vm.Alike.refl u.vm) h.1, ⟨va_AO.moved (by rw [← hvm]; exact Vm.Alike.refl u.vm) h.2.1.1, h.2.1.2.go (fun _ _ _ _ hr => vk_R.same hvm.symm hr) (by rw [← hvm]; exact Vm.Alike.refl u.vm) (fun a _ _ => by rw [hh])⟩, fun q hq => va_Nw.same rfl hvm (h.2.2.1 q hq), fun q hq => va_Nw.same rfl hvm (h.2.2.2 q hq)⟩
theorem gK.warm {D : va_G} {cy : Nat → ClassId} {b : Nat} {u U : State} (h : gK D cy b u) (hW : u.WarmedH U.vm) (hq : ∀ a : Nat, a < u.heap.size → ¬ gA b a → U.heap[a]? = u.heap[a]?) : gK D cy b U := ⟨va_K.moved hW.alike h.1, ⟨va_AO.moved hW.alike h.2.1.1, h.2.1.2.go (fun _ _ _ _ hr => vk_R.warm hW hr) hW.alike hq⟩, fun q hq => va_Nw.warmM hW (h.2.2.1 q hq), fun q hq => va_Nw.warmF hW (h.2.2.2 q hq)⟩
theorem wd_D {b n : Nat} {E : Nat → va_E} : va_D (gA b) (wd b n E) := ⟨fun i j p q hp hq h => by
  obtain ⟨-, rfl⟩ := wd_inv hp
  obtain ⟨-, rfl⟩ := wd_inv hq
  have h : b + i = b + j := h
  omega, fun k q hk => by
  obtain ⟨-, rfl⟩ := wd_inv hk
  exact Nat.le_add_right b k⟩
def gW (D : va_G) (cy : Nat → ClassId) (b n : Nat) (s : State) (H : Heap) (locs : List Loc) (E : Nat → va_E) : Prop :=
  gK D cy b s ∧ va_P D vwCl (wd b n E) H ∧ va_S (gA b) s.heap H locs ∧ b ≤ s.heap.size
theorem gW.A {D : va_G} {cy : Nat → ClassId} {b n : Nat} {s : State} {H : Heap} {locs : List Loc} {E : Nat → va_E} (h : gW D cy b n s H locs E) : ∀ q, s.heap.size ≤ q → gA b q := fun _ hq => Nat.le_trans h.2.2.2 hq
theorem gW.ge {D : va_G} {cy : Nat → ClassId} {b n : Nat} {s : State} {H : Heap} {locs : List Loc} {E : Nat → va_E} (h : gW D cy b n s H locs E) : b + n ≤ H.size := by
  cases n with
  | zero => exact Nat.le_trans h.2.2.2 h.2.2.1.1
  | succ n => exact (h.2.1 n _ (wd_get (Nat.lt_succ_self n))).lt
/-- of a class of ours: its number, name, fields, types -/
def cP (ci : Nat) (C : String) (T : u_T) (N : Nat) (ty : Nat → FieldType) : Prop := vwCl[ci]? = some (C, T, N) ∧ (∀ w ∈ u_ws C T N, w ∈ gT) ∧ (∀ k, k < N → parseFieldDescriptor (T k).2.2.1 = some (ty k)) ∧ (∀ a, a < N → ∀ b, b < N → a ≠ b → (T a).2.1 ≠ (T b).2.1)
section GB
variable {p : Program} {l : Launch} {e : Env} {R : Room} {s : State} {m : MethodId} {args : Array Value} {below : List Frame} {meth : Method} {c : Code} {H : Heap} {locs : List Loc} {cells slots : Nat} {Q : State → Prop} {cc : ByteArray} {pc nL : Nat} {ls : Array Slot} {rest : List Value} {own : String} {D : va_G} {cy : Nat → ClassId} {b n : Nat} {E : Nat → va_E} {index : Nat}
theorem g_get (S : CallFix p m c cc nL s args gT own) (hG : gW D cy b n s H locs E) (i k : Nat) {ci N : Nat} {C : String} {T : u_T} {ty : Nat → FieldType} {fs : List Value} {v : Value} (he : E i = .inr (ci, fs)) (P : cP ci C T N ty) (hlink : Cond.fieldLink own index (T k).1 (T k).2.1 (T k).2.2.1 ∈ gT) (hdg : decode cc pc = .ok (.getfield index, 3)) (hv : fs[k]? = some v) (hi : i < n) (hk : k < N)
    (kk : W p l e R s m args below meth c H locs cells slots Q (F0 m (pc + 3) ls (v :: rest))) : W p l e R s m args below meth c H locs cells slots Q (F0 m pc ls (.ref (b + i) :: rest)) :=
  va_get S.1 S.2.1 S.2.2.2.2 P.2.1 S.2.2.2.1 hG.1.1 hG.2.1 i (wd_at hi he) P.1 k hk (S.2.2.2.2 _ hlink) (fun _ h => h) hv hdg kk
theorem g_put (S : CallFix p m c cc nL s args gT own) (hG : gW D cy b n s H locs E) (i k : Nat) {ci N : Nat} {C : String} {T : u_T} {ty : Nat → FieldType} {fs fs' : List Value} {v : Value} (he : E i = .inr (ci, fs)) (P : cP ci C T N ty) (hlink : Cond.fieldLink own index (T k).1 (T k).2.1 (T k).2.2.1 ∈ gT) (hdg : decode cc pc = .ok (.putfield index, 3)) (hfs : fs.set k v = fs') (hi : i < n) (hk : k < N) (hl : k < fs.length) (hfin : (T k).2.2.2 = false) (hn : narrow (ty k) v = v) (hfit : fits (ty k) v = true)
    (kk : ∀ (H1 : Heap) (locs : List Loc), gW D cy b n s H1 locs (upE E i (.inr (ci, fs'))) → W p l e R s m args below meth c H1 locs cells slots Q (F0 m (pc + 3) ls rest)) : W p l e R s m args below meth c H locs cells slots Q (F0 m pc ls (v :: .ref (b + i) :: rest)) := by
  subst hfs
  obtain ⟨hx, hb, -, hown, hts⟩ := S
  obtain ⟨hc, hin, hty, hnm⟩ := P
  obtain ⟨hK, hP, hS0, hA⟩ := id hG
  have hD : va_D (gA b) (wd b n E) := wd_D
  have he := wd_at (b := b) hi he
  have hap := va_apart (own := own) hts hin ty hty hnm hK.1 hc
  obtain ⟨r, h1, cell, q1, q2, q3, q4⟩ := hP i _ he
  have hr : r = (C, T, N) := Option.some.inj (h1.symm.trans hc)
  subst hr
  obtain ⟨hS, hfc, kC, hkC, hkind⟩ := hK.1.1 ci _ hc
  obtain ⟨cf, kf, fi, f, hi2, hsl⟩ := hS k hk
  have hlay := hts _ (hin _ (u_in_lay hk))
  unfold u_lay at hlay
  rw [if_neg (by rw [hfin]; decide)] at hlay
  have hst := (u_facts hfc hkC (u_lays hts hin hk) hi2).1
  have h6 := u_store hfc hkC hkind hlay hi2 (hty k hk) hn hfit
  refine W.putK hx hb (f := f) ⟨hown, hts _ hlink, ⟨_, _, _, hi2⟩, hst⟩ (by rw [q2]; exact h6) q1 q3 (by rw [hsl]; exact k2_hasslot (q4 k hk)) rfl rfl hdg fun H' e1 e2 e3 => ?_
  rw [hsl] at e1 ⊢
  have hP1 : va_P D vwCl ((wd b n E).set i (b + i, .inr (ci, fs.set k v))) H' := hP.set hD he ⟨_, hc, t_OB.to (V := updV (vp_V fs) k v) ⟨_, e1, q2, q3, t_set q4 hap hk v⟩ (fun j _ => vp_updV_set hl v j)⟩ e3
  rw [wd_set hi] at hP1
  exact kk H' _ ⟨hK, hP1, hS0.put e2 e3 (hD.2 i _ he), hA⟩
theorem g_putF (S : CallFix p m c cc nL s args gT own) (hG : gW D cy b n s H locs E) (hin2 : meth.name = "<init>") (i k : Nat) {ci N : Nat} {C : String} {T : u_T} {ty : Nat → FieldType} {fs fs' : List Value} {v : Value} (he : E i = .inr (ci, fs)) (P : cP ci C T N ty) (hlink : Cond.fieldLink own index (T k).1 (T k).2.1 (T k).2.2.1 ∈ gT) (hdg : decode cc pc = .ok (.putfield index, 3)) (hfs : fs.set k v = fs') (hi : i < n) (hk : k < N) (hl : k < fs.length) (hfin : (T k).2.2.2 = true) (hdecl : (T k).1 = own) (hn : narrow (ty k) v = v) (hfit : fits (ty k) v = true)
    (kk : ∀ (H1 : Heap) (locs : List Loc), gW D cy b n s H1 locs (upE E i (.inr (ci, fs'))) → W p l e R s m args below meth c H1 locs cells slots Q (F0 m (pc + 3) ls rest)) : W p l e R s m args below meth c H locs cells slots Q (F0 m pc ls (v :: .ref (b + i) :: rest)) := by
  subst hfs
  obtain ⟨hx, hb, -, hown, hts⟩ := S
  obtain ⟨hc, hin, hty, hnm⟩ := P
  obtain ⟨hK, hP, hS0, hA⟩ := id hG
  have hD : va_D (gA b) (wd b n E) := wd_D
  have he := wd_at (b := b) hi he
  have hap := va_apart (own := own) hts hin ty hty hnm hK.1 hc
  obtain ⟨r, h1, cell, q1, q2, q3, q4⟩ := hP i _ he
  have hr : r = (C, T, N) := Option.some.inj (h1.symm.trans hc)
  subst hr
  obtain ⟨hS, hfc, kC, hkC, hkind⟩ := hK.1.1 ci _ hc
  obtain ⟨cf, kf, fi, f, hi2, hsl⟩ := hS k hk
  have hlay := hts _ (hin _ (u_in_lay hk))
  unfold u_lay at hlay
  rw [if_pos hfin] at hlay
  have hst := (u_facts hfc hkC (u_lays hts hin hk) hi2).1
  have hcf : m.cls = cf := by
    obtain ⟨_, _, c', _, _, _, -, -, hf', -, -, -, hown2, -⟩ := Cond.laysFinal_spec hlay
    have e1 : c' = cf := by have := hi2.symm.trans hf'; simp at this; exact this.1.symm
    rw [hdecl] at hown2
    rw [← e1]; exact Option.some.inj (hown.symm.trans hown2)
  have h6 := u_fits hfc hkC hkind (Or.inr hlay) hi2 (hty k hk) hn hfit
  refine W.putFinK hx hb hown (hts _ hlink) hi2 hst hcf hin2 (by rw [q2]; exact h6) q1 q3 (by rw [hsl]; exact k2_hasslot (q4 k hk)) rfl rfl hdg fun H' e1 e2 e3 => ?_
  rw [hsl] at e1 ⊢
  have hP1 : va_P D vwCl ((wd b n E).set i (b + i, .inr (ci, fs.set k v))) H' := hP.set hD he ⟨_, hc, t_OB.to (V := updV (vp_V fs) k v) ⟨_, e1, q2, q3, t_set q4 hap hk v⟩ (fun j _ => vp_updV_set hl v j)⟩ e3
  rw [wd_set hi] at hP1
  exact kk H' _ ⟨hK, hP1, hS0.put e2 e3 (hD.2 i _ he), hA⟩
theorem g_iald (S : CallFix p m c cc nL s args gT own) (hG : gW D cy b n s H locs E) (j : Nat) {N : Nat} {f : Nat → Int32} {i : Int32} (he : E j = .inl (cy 1, N, .inl f)) (hj : j < n) (hdg : decode cc pc = .ok (.iaload, 1)) (hin : vp_in i N)
    (kk : W p l e R s m args below meth c H locs cells slots Q (F0 m (pc + 1) ls (.int (f i.toNatClampNeg) :: rest))) : W p l e R s m args below meth c H locs cells slots Q (F0 m pc ls (.int i :: .ref (b + j) :: rest)) :=
  va_iald S.1 S.2.1 hG.1.1 hG.2.1 j 1 (wd_at hj he) rfl hin hdg kk
theorem g_bald (S : CallFix p m c cc nL s args gT own) (hG : gW D cy b n s H locs E) (j : Nat) {N : Nat} {f : Nat → Int32} {i : Int32} (he : E j = .inl (cy 0, N, .inl f)) (hj : j < n) (hdg : decode cc pc = .ok (.baload, 1)) (hin : vp_in i N)
    (kk : W p l e R s m args below meth c H locs cells slots Q (F0 m (pc + 1) ls (.int (f i.toNatClampNeg) :: rest))) : W p l e R s m args below meth c H locs cells slots Q (F0 m pc ls (.int i :: .ref (b + j) :: rest)) :=
  va_bald S.1 S.2.1 hG.1.1 hG.2.1 j 0 (wd_at hj he) rfl hin hdg kk
theorem g_zald (S : CallFix p m c cc nL s args gT own) (hG : gW D cy b n s H locs E) (j : Nat) {N : Nat} {f : Nat → Int32} {i : Int32} (he : E j = .inl (cy 3, N, .inl f)) (hj : j < n) (hdg : decode cc pc = .ok (.baload, 1)) (hin : vp_in i N)
    (kk : W p l e R s m args below meth c H locs cells slots Q (F0 m (pc + 1) ls (.int (f i.toNatClampNeg) :: rest))) : W p l e R s m args below meth c H locs cells slots Q (F0 m pc ls (.int i :: .ref (b + j) :: rest)) :=
  va_zald S.1 S.2.1 hG.1.1 hG.2.1 j 3 (wd_at hj he) rfl hin hdg kk
theorem g_lald (S : CallFix p m c cc nL s args gT own) (hG : gW D cy b n s H locs E) (j : Nat) {N : Nat} {f : Nat → Int64} {i : Int32} (he : E j = .inl (cy 2, N, .inr (.inl f))) (hj : j < n) (hdg : decode cc pc = .ok (.laload, 1)) (hin : vp_in i N)
    (kk : W p l e R s m args below meth c H locs cells slots Q (F0 m (pc + 1) ls (.long (f i.toNatClampNeg) :: rest))) : W p l e R s m args below meth c H locs cells slots Q (F0 m pc ls (.int i :: .ref (b + j) :: rest)) :=
  va_lald S.1 S.2.1 hG.1.1 hG.2.1 j 2 (wd_at hj he) rfl hin hdg kk
theorem g_iast (S : CallFix p m c cc nL s args gT own) (hG : gW D cy b n s H locs E) (j : Nat) {N : Nat} {f : Nat → Int32} {i x : Int32} (he : E j = .inl (cy 1, N, .inl f)) (hj : j < n) (hdg : decode cc pc = .ok (.iastore, 1)) (hin : vp_in i N)
    (kk : ∀ (H : Heap) (locs : List Loc), gW D cy b n s H locs (upE E j (.inl (cy 1, N, .inl (upd f i.toNatClampNeg x)))) → W p l e R s m args below meth c H locs cells slots Q (F0 m (pc + 1) ls rest)) : W p l e R s m args below meth c H locs cells slots Q (F0 m pc ls (.int x :: .int i :: .ref (b + j) :: rest)) := by
  refine va_iast S.1 S.2.1 hG.1.1 hG.2.1 wd_D hG.2.2.1 j 1 (wd_at hj he) rfl hin hdg fun H1 l1 h1 _ h3 => ?_
  rw [wd_set hj] at h1
  exact kk H1 l1 ⟨hG.1, h1, h3, hG.2.2.2⟩
theorem g_bast (S : CallFix p m c cc nL s args gT own) (hG : gW D cy b n s H locs E) (j : Nat) {N : Nat} {f : Nat → Int32} {i x : Int32} (he : E j = .inl (cy 0, N, .inl f)) (hj : j < n) (hdg : decode cc pc = .ok (.bastore, 1)) (hin : vp_in i N)
    (kk : ∀ (H : Heap) (locs : List Loc), gW D cy b n s H locs (upE E j (.inl (cy 0, N, .inl (upd f i.toNatClampNeg (vp_nar .byte x))))) → W p l e R s m args below meth c H locs cells slots Q (F0 m (pc + 1) ls rest)) : W p l e R s m args below meth c H locs cells slots Q (F0 m pc ls (.int x :: .int i :: .ref (b + j) :: rest)) := by
  refine va_bast S.1 S.2.1 hG.1.1 hG.2.1 wd_D hG.2.2.1 j 0 (wd_at hj he) rfl hin hdg fun H1 l1 h1 _ h3 => ?_
  rw [wd_set hj] at h1
  exact kk H1 l1 ⟨hG.1, h1, h3, hG.2.2.2⟩
theorem g_zast (S : CallFix p m c cc nL s args gT own) (hG : gW D cy b n s H locs E) (j : Nat) {N : Nat} {f : Nat → Int32} {i x : Int32} (he : E j = .inl (cy 3, N, .inl f)) (hj : j < n) (hdg : decode cc pc = .ok (.bastore, 1)) (hin : vp_in i N)
    (kk : ∀ (H : Heap) (locs : List Loc), gW D cy b n s H locs (upE E j (.inl (cy 3, N, .inl (upd f i.toNatClampNeg (vp_nar .boolean x))))) → W p l e R s m args below meth c H locs cells slots Q (F0 m (pc + 1) ls rest)) : W p l e R s m args below meth c H locs cells slots Q (F0 m pc ls (.int x :: .int i :: .ref (b + j) :: rest)) := by
  refine va_zast S.1 S.2.1 hG.1.1 hG.2.1 wd_D hG.2.2.1 j 3 (wd_at hj he) rfl hin hdg fun H1 l1 h1 _ h3 => ?_
  rw [wd_set hj] at h1
  exact kk H1 l1 ⟨hG.1, h1, h3, hG.2.2.2⟩
theorem g_last (S : CallFix p m c cc nL s args gT own) (hG : gW D cy b n s H locs E) (j : Nat) {N : Nat} {f : Nat → Int64} {i : Int32} {x : Int64} (he : E j = .inl (cy 2, N, .inr (.inl f))) (hj : j < n) (hdg : decode cc pc = .ok (.lastore, 1)) (hin : vp_in i N)
    (kk : ∀ (H : Heap) (locs : List Loc), gW D cy b n s H locs (upE E j (.inl (cy 2, N, .inr (.inl (vp_updL f i.toNatClampNeg x))))) → W p l e R s m args below meth c H locs cells slots Q (F0 m (pc + 1) ls rest)) : W p l e R s m args below meth c H locs cells slots Q (F0 m pc ls (.long x :: .int i :: .ref (b + j) :: rest)) := by
  refine va_last S.1 S.2.1 hG.1.1 hG.2.1 wd_D hG.2.2.1 j 2 (wd_at hj he) rfl hin hdg fun H1 l1 h1 _ h3 => ?_
  rw [wd_set hj] at h1
  exact kk H1 l1 ⟨hG.1, h1, h3, hG.2.2.2⟩
theorem g_alen (S : CallFix p m c cc nL s args gT own) (hG : gW D cy b n s H locs E) (j t : Nat) {x : vp_A} {ty : FieldType} {v : Int32} (he : E j = .inl (cy t, x)) (ht : (gty cy)[t]? = some (cy t, ty)) (hj : j < n) (hdg : decode cc pc = .ok (.arraylength, 1)) (hv : Int32.ofNat x.1 = v)
    (kk : W p l e R s m args below meth c H locs cells slots Q (F0 m (pc + 1) ls (.int v :: rest))) : W p l e R s m args below meth c H locs cells slots Q (F0 m pc ls (.ref (b + j) :: rest)) :=
  va_alen S.1 S.2.1 hG.1.1 hG.2.1 j t (wd_at hj he) ht hv hdg kk
/-- the heap's size, out of the count of what was made -/
theorem g_size (hG : gW D cy b n s H locs E) (hc : s.heap.size + cells = b + n) {g : JFrame} (k : H.size = b + n → W p l e R s m args below meth c H locs cells slots Q g) : W p l e R s m args below meth c H locs cells slots Q g := fun T hT X =>
  k (Nat.le_antisymm (by rw [← hc, ← hT]; exact X.same.2.2.1) hG.ge) T hT X
end GB
