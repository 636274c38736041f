theorem wm_199 : (Jvm.Cond.instantiable "GrownKinds" (19 : Nat)) ∈ gT := gT_in (List.mem_of_getElem? (i := 199) (by decide +kernel)) (by decide +kernel)
theorem wm_1664 : (Jvm.Cond.instantiable "GrownKindsModel" (52 : Nat)) ∈ gT := gT_in (List.mem_of_getElem? (i := 1664) (by decide +kernel)) (by decide +kernel)
/-! THE CLAIM OUT OF ONE WALK OF THE LAW'S BODY. Your part is whole_start (and what it stands on); all else here is the same for every law, but numbers. -/
def R_law : String := "GrownKindsLaw"
def lw_P (b : Addr) (xs : List Int32) (args : Array Value) (s : State) : Prop := args = #[.ref b] ∧ s.IntsAt b xs ∧ xs.length ≤ 3072 ∧ (Jvm.Cond.and given_1 narrow_1).before args s = true
def lw_Q (_ : Array Value) (s : State) (o : Outcome) (t : State) : Prop := o = .returned (some (.int 1)) ∧ Framed s o t [] 600000 7302250
def lw_Z (below : List Frame) (a : Array Value) (s : State) : State → Prop := fun t => ∃ o, t.status = .running ∧ Ended t below o ∧ lw_Q a s o t
/-- the law's own end, with 1 on the stack, nothing written that was there before, its room as the claim has it -/
theorem lw_ret {p : Program} {l : Launch} {e : Env} {s : State} {m : MethodId} {below : List Frame} {meth : Method} {c : Code} {b : Nat} (hx : p.tables.exec = Jvm.exec) (hb : c.code = code) (hr : meth.sig.returnType = ret) (hlocks : meth.locks = false) {pc : Nat} {H : Heap} {ls : Array Slot} (hdg : decode code pc = .ok (.ireturn, 1)) : W p l e room_1 s m #[Value.ref b] below meth c H [] 600000 7302250 (lw_Z below #[Value.ref b] s) (F0 m pc ls [.int 1]) := by
  intro T hT X
  obtain ⟨fs, hret, hrun, hended, hW, hframe⟩ := X.leave (v := some (.int 1)) (hlocks := hlocks) (fun h => by rw [hr] at h; cases h)
  have hmeth' : T.vm.method? m = some meth := X.method'
  refine ⟨T.setFrames fs, ?_, .returned (some (.int 1)), hrun, hended, rfl, ⟨_, rfl⟩, hW, hframe⟩
  jvm_step X.here [X.here.top, hx, hb, hdg, hmeth', hr, ret, narrow_b1]
  (try refine ⟨rfl, ?_⟩); (try refine ⟨rfl, ?_⟩)
  first | (intro acts; rw [hret _ acts rfl rfl rfl]) | rw [hret _ _ rfl rfl rfl]
  exact Steps.refl _
/-- what holds at the law's entry: the machine, the code, the tables' words (any of lw_tbl by 'hts w (by decide +kernel)'), the script of L ints xs at the cell b, what the Statement gives of the start (any of its parts by flat_of_before) -/
def lw_At (p : Program) (s : State) (m : MethodId) (meth : Method) (c : Code) (b L : Nat) (xs : Nat → Int32) : Prop :=
  p.tables.exec = Jvm.exec ∧ c.code = code ∧ meth.sig.returnType = ret ∧ c.maxLocals = 4 ∧ s.vm.findClass R_law = some m.cls ∧ (∀ w ∈ lw_tbl, w.before #[Value.ref b] s = true) ∧ va_X b L xs s s.heap ∧ b < s.heap.size ∧ meth.locks = false ∧ (Jvm.Cond.and given_1 narrow_1).before #[Value.ref b] s = true

def strW (q : String × Nat × String × List Int32) : List Cond := [.exactly (.string q.1 q.2.1) "java/lang/String", .eq (.field (.string q.1 q.2.1) "java/lang/String" "coder" "B") (.int 0), .arrayOf (.field (.string q.1 q.2.1) "java/lang/String" "value" "[B") .byte, .eq (.length (.field (.string q.1 q.2.1) "java/lang/String" "value" "[B")) (.int (Int32.ofNat q.2.2.2.length))] ++ (List.range q.2.2.2.length).map (fun j => .eq (.elem (.field (.string q.1 q.2.1) "java/lang/String" "value" "[B") (.int (Int32.ofNat j))) (.int (q.2.2.2.getD j 0)))
def arrW (q : String × List Int32) : List Cond := [.arrayOf (.static "GrownKinds" q.1 "[I") .int, .eq (.length (.static "GrownKinds" q.1 "[I")) (.int (Int32.ofNat q.2.length))] ++ (List.range q.2.length).map (fun j => .eq (.elem (.static "GrownKinds" q.1 "[I") (.int (Int32.ofNat j))) (.int (q.2.getD j 0)))
theorem nf_98 : (Jvm.Cond.exactly (Jvm.Term.string "GrownKinds$Reader" (137 : Nat)) "java/lang/String") ∈ flatC (Jvm.Cond.and given_1 narrow_1) := List.mem_of_getElem? (i := 98) rfl
theorem nf_99 : (Jvm.Cond.eq (Jvm.Term.field (Jvm.Term.string "GrownKinds$Reader" (137 : Nat)) "java/lang/String" "coder" "B") (Jvm.Term.int (0 : Int32))) ∈ flatC (Jvm.Cond.and given_1 narrow_1) := List.mem_of_getElem? (i := 99) rfl
theorem nf_100 : (Jvm.Cond.arrayOf (Jvm.Term.field (Jvm.Term.string "GrownKinds$Reader" (137 : Nat)) "java/lang/String" "value" "[B") Jvm.ClassFile.FieldType.byte) ∈ flatC (Jvm.Cond.and given_1 narrow_1) := List.mem_of_getElem? (i := 100) rfl
theorem nf_101 : (Jvm.Cond.eq (Jvm.Term.length (Jvm.Term.field (Jvm.Term.string "GrownKinds$Reader" (137 : Nat)) "java/lang/String" "value" "[B")) (Jvm.Term.int (7 : Int32))) ∈ flatC (Jvm.Cond.and given_1 narrow_1) := List.mem_of_getElem? (i := 101) rfl
theorem nf_102 : (Jvm.Cond.eq (Jvm.Term.elem (Jvm.Term.field (Jvm.Term.string "GrownKinds$Reader" (137 : Nat)) "java/lang/String" "value" "[B") (Jvm.Term.int (0 : Int32))) (Jvm.Term.int (103 : Int32))) ∈ flatC (Jvm.Cond.and given_1 narrow_1) := List.mem_of_getElem? (i := 102) rfl
theorem nf_103 : (Jvm.Cond.eq (Jvm.Term.elem (Jvm.Term.field (Jvm.Term.string "GrownKinds$Reader" (137 : Nat)) "java/lang/String" "value" "[B") (Jvm.Term.int (1 : Int32))) (Jvm.Term.int (114 : Int32))) ∈ flatC (Jvm.Cond.and given_1 narrow_1) := List.mem_of_getElem? (i := 103) rfl
theorem nf_104 : (Jvm.Cond.eq (Jvm.Term.elem (Jvm.Term.field (Jvm.Term.string "GrownKinds$Reader" (137 : Nat)) "java/lang/String" "value" "[B") (Jvm.Term.int (2 : Int32))) (Jvm.Term.int (97 : Int32))) ∈ flatC (Jvm.Cond.and given_1 narrow_1) := List.mem_of_getElem? (i := 104) rfl
theorem nf_105 : (Jvm.Cond.eq (Jvm.Term.elem (Jvm.Term.field (Jvm.Term.string "GrownKinds$Reader" (137 : Nat)) "java/lang/String" "value" "[B") (Jvm.Term.int (3 : Int32))) (Jvm.Term.int (109 : Int32))) ∈ flatC (Jvm.Cond.and given_1 narrow_1) := List.mem_of_getElem? (i := 105) rfl
theorem nf_106 : (Jvm.Cond.eq (Jvm.Term.elem (Jvm.Term.field (Jvm.Term.string "GrownKinds$Reader" (137 : Nat)) "java/lang/String" "value" "[B") (Jvm.Term.int (4 : Int32))) (Jvm.Term.int (109 : Int32))) ∈ flatC (Jvm.Cond.and given_1 narrow_1) := List.mem_of_getElem? (i := 106) rfl
theorem nf_107 : (Jvm.Cond.eq (Jvm.Term.elem (Jvm.Term.field (Jvm.Term.string "GrownKinds$Reader" (137 : Nat)) "java/lang/String" "value" "[B") (Jvm.Term.int (5 : Int32))) (Jvm.Term.int (97 : Int32))) ∈ flatC (Jvm.Cond.and given_1 narrow_1) := List.mem_of_getElem? (i := 107) rfl
theorem nf_108 : (Jvm.Cond.eq (Jvm.Term.elem (Jvm.Term.field (Jvm.Term.string "GrownKinds$Reader" (137 : Nat)) "java/lang/String" "value" "[B") (Jvm.Term.int (6 : Int32))) (Jvm.Term.int (114 : Int32))) ∈ flatC (Jvm.Cond.and given_1 narrow_1) := List.mem_of_getElem? (i := 108) rfl
theorem sw_0 : ∀ w ∈ strW ("GrownKinds$Reader", 137, "grammar", [103, 114, 97, 109, 109, 97, 114]), w ∈ flatC (Jvm.Cond.and given_1 narrow_1) := List.forall_mem_cons.mpr ⟨nf_98, List.forall_mem_cons.mpr ⟨nf_99, List.forall_mem_cons.mpr ⟨nf_100, List.forall_mem_cons.mpr ⟨nf_101, List.forall_mem_cons.mpr ⟨nf_102, List.forall_mem_cons.mpr ⟨nf_103, List.forall_mem_cons.mpr ⟨nf_104, List.forall_mem_cons.mpr ⟨nf_105, List.forall_mem_cons.mpr ⟨nf_106, List.forall_mem_cons.mpr ⟨nf_107, List.forall_mem_cons.mpr ⟨nf_108, fun _ h => by cases h⟩⟩⟩⟩⟩⟩⟩⟩⟩⟩⟩
theorem nf_109 : (Jvm.Cond.exactly (Jvm.Term.string "GrownKinds$Reader" (139 : Nat)) "java/lang/String") ∈ flatC (Jvm.Cond.and given_1 narrow_1) := List.mem_of_getElem? (i := 109) rfl
theorem nf_110 : (Jvm.Cond.eq (Jvm.Term.field (Jvm.Term.string "GrownKinds$Reader" (139 : Nat)) "java/lang/String" "coder" "B") (Jvm.Term.int (0 : Int32))) ∈ flatC (Jvm.Cond.and given_1 narrow_1) := List.mem_of_getElem? (i := 110) rfl
theorem nf_111 : (Jvm.Cond.arrayOf (Jvm.Term.field (Jvm.Term.string "GrownKinds$Reader" (139 : Nat)) "java/lang/String" "value" "[B") Jvm.ClassFile.FieldType.byte) ∈ flatC (Jvm.Cond.and given_1 narrow_1) := List.mem_of_getElem? (i := 111) rfl
theorem nf_112 : (Jvm.Cond.eq (Jvm.Term.length (Jvm.Term.field (Jvm.Term.string "GrownKinds$Reader" (139 : Nat)) "java/lang/String" "value" "[B")) (Jvm.Term.int (4 : Int32))) ∈ flatC (Jvm.Cond.and given_1 narrow_1) := List.mem_of_getElem? (i := 112) rfl
theorem nf_113 : (Jvm.Cond.eq (Jvm.Term.elem (Jvm.Term.field (Jvm.Term.string "GrownKinds$Reader" (139 : Nat)) "java/lang/String" "value" "[B") (Jvm.Term.int (0 : Int32))) (Jvm.Term.int (109 : Int32))) ∈ flatC (Jvm.Cond.and given_1 narrow_1) := List.mem_of_getElem? (i := 113) rfl
theorem nf_114 : (Jvm.Cond.eq (Jvm.Term.elem (Jvm.Term.field (Jvm.Term.string "GrownKinds$Reader" (139 : Nat)) "java/lang/String" "value" "[B") (Jvm.Term.int (1 : Int32))) (Jvm.Term.int (111 : Int32))) ∈ flatC (Jvm.Cond.and given_1 narrow_1) := List.mem_of_getElem? (i := 114) rfl
theorem nf_115 : (Jvm.Cond.eq (Jvm.Term.elem (Jvm.Term.field (Jvm.Term.string "GrownKinds$Reader" (139 : Nat)) "java/lang/String" "value" "[B") (Jvm.Term.int (2 : Int32))) (Jvm.Term.int (115 : Int32))) ∈ flatC (Jvm.Cond.and given_1 narrow_1) := List.mem_of_getElem? (i := 115) rfl
theorem nf_116 : (Jvm.Cond.eq (Jvm.Term.elem (Jvm.Term.field (Jvm.Term.string "GrownKinds$Reader" (139 : Nat)) "java/lang/String" "value" "[B") (Jvm.Term.int (3 : Int32))) (Jvm.Term.int (116 : Int32))) ∈ flatC (Jvm.Cond.and given_1 narrow_1) := List.mem_of_getElem? (i := 116) rfl
theorem sw_1 : ∀ w ∈ strW ("GrownKinds$Reader", 139, "most", [109, 111, 115, 116]), w ∈ flatC (Jvm.Cond.and given_1 narrow_1) := List.forall_mem_cons.mpr ⟨nf_109, List.forall_mem_cons.mpr ⟨nf_110, List.forall_mem_cons.mpr ⟨nf_111, List.forall_mem_cons.mpr ⟨nf_112, List.forall_mem_cons.mpr ⟨nf_113, List.forall_mem_cons.mpr ⟨nf_114, List.forall_mem_cons.mpr ⟨nf_115, List.forall_mem_cons.mpr ⟨nf_116, fun _ h => by cases h⟩⟩⟩⟩⟩⟩⟩⟩
theorem nf_118 : (Jvm.Cond.exactly (Jvm.Term.string "GrownKinds$Reader" (121 : Nat)) "java/lang/String") ∈ flatC (Jvm.Cond.and given_1 narrow_1) := List.mem_of_getElem? (i := 118) rfl
theorem nf_119 : (Jvm.Cond.eq (Jvm.Term.field (Jvm.Term.string "GrownKinds$Reader" (121 : Nat)) "java/lang/String" "coder" "B") (Jvm.Term.int (0 : Int32))) ∈ flatC (Jvm.Cond.and given_1 narrow_1) := List.mem_of_getElem? (i := 119) rfl
theorem nf_120 : (Jvm.Cond.arrayOf (Jvm.Term.field (Jvm.Term.string "GrownKinds$Reader" (121 : Nat)) "java/lang/String" "value" "[B") Jvm.ClassFile.FieldType.byte) ∈ flatC (Jvm.Cond.and given_1 narrow_1) := List.mem_of_getElem? (i := 120) rfl
theorem nf_121 : (Jvm.Cond.eq (Jvm.Term.length (Jvm.Term.field (Jvm.Term.string "GrownKinds$Reader" (121 : Nat)) "java/lang/String" "value" "[B")) (Jvm.Term.int (4 : Int32))) ∈ flatC (Jvm.Cond.and given_1 narrow_1) := List.mem_of_getElem? (i := 121) rfl
theorem nf_122 : (Jvm.Cond.eq (Jvm.Term.elem (Jvm.Term.field (Jvm.Term.string "GrownKinds$Reader" (121 : Nat)) "java/lang/String" "value" "[B") (Jvm.Term.int (0 : Int32))) (Jvm.Term.int (97 : Int32))) ∈ flatC (Jvm.Cond.and given_1 narrow_1) := List.mem_of_getElem? (i := 122) rfl
theorem nf_123 : (Jvm.Cond.eq (Jvm.Term.elem (Jvm.Term.field (Jvm.Term.string "GrownKinds$Reader" (121 : Nat)) "java/lang/String" "value" "[B") (Jvm.Term.int (1 : Int32))) (Jvm.Term.int (116 : Int32))) ∈ flatC (Jvm.Cond.and given_1 narrow_1) := List.mem_of_getElem? (i := 123) rfl
theorem nf_124 : (Jvm.Cond.eq (Jvm.Term.elem (Jvm.Term.field (Jvm.Term.string "GrownKinds$Reader" (121 : Nat)) "java/lang/String" "value" "[B") (Jvm.Term.int (2 : Int32))) (Jvm.Term.int (111 : Int32))) ∈ flatC (Jvm.Cond.and given_1 narrow_1) := List.mem_of_getElem? (i := 124) rfl
theorem nf_125 : (Jvm.Cond.eq (Jvm.Term.elem (Jvm.Term.field (Jvm.Term.string "GrownKinds$Reader" (121 : Nat)) "java/lang/String" "value" "[B") (Jvm.Term.int (3 : Int32))) (Jvm.Term.int (109 : Int32))) ∈ flatC (Jvm.Cond.and given_1 narrow_1) := List.mem_of_getElem? (i := 125) rfl
theorem sw_2 : ∀ w ∈ strW ("GrownKinds$Reader", 121, "atom", [97, 116, 111, 109]), w ∈ flatC (Jvm.Cond.and given_1 narrow_1) := List.forall_mem_cons.mpr ⟨nf_118, List.forall_mem_cons.mpr ⟨nf_119, List.forall_mem_cons.mpr ⟨nf_120, List.forall_mem_cons.mpr ⟨nf_121, List.forall_mem_cons.mpr ⟨nf_122, List.forall_mem_cons.mpr ⟨nf_123, List.forall_mem_cons.mpr ⟨nf_124, List.forall_mem_cons.mpr ⟨nf_125, fun _ h => by cases h⟩⟩⟩⟩⟩⟩⟩⟩
theorem nf_128 : (Jvm.Cond.exactly (Jvm.Term.string "GrownKinds$Reader" (127 : Nat)) "java/lang/String") ∈ flatC (Jvm.Cond.and given_1 narrow_1) := List.mem_of_getElem? (i := 128) rfl
theorem nf_129 : (Jvm.Cond.eq (Jvm.Term.field (Jvm.Term.string "GrownKinds$Reader" (127 : Nat)) "java/lang/String" "coder" "B") (Jvm.Term.int (0 : Int32))) ∈ flatC (Jvm.Cond.and given_1 narrow_1) := List.mem_of_getElem? (i := 129) rfl
theorem nf_130 : (Jvm.Cond.arrayOf (Jvm.Term.field (Jvm.Term.string "GrownKinds$Reader" (127 : Nat)) "java/lang/String" "value" "[B") Jvm.ClassFile.FieldType.byte) ∈ flatC (Jvm.Cond.and given_1 narrow_1) := List.mem_of_getElem? (i := 130) rfl
theorem nf_131 : (Jvm.Cond.eq (Jvm.Term.length (Jvm.Term.field (Jvm.Term.string "GrownKinds$Reader" (127 : Nat)) "java/lang/String" "value" "[B")) (Jvm.Term.int (4 : Int32))) ∈ flatC (Jvm.Cond.and given_1 narrow_1) := List.mem_of_getElem? (i := 131) rfl
theorem nf_132 : (Jvm.Cond.eq (Jvm.Term.elem (Jvm.Term.field (Jvm.Term.string "GrownKinds$Reader" (127 : Nat)) "java/lang/String" "value" "[B") (Jvm.Term.int (0 : Int32))) (Jvm.Term.int (117 : Int32))) ∈ flatC (Jvm.Cond.and given_1 narrow_1) := List.mem_of_getElem? (i := 132) rfl
theorem nf_133 : (Jvm.Cond.eq (Jvm.Term.elem (Jvm.Term.field (Jvm.Term.string "GrownKinds$Reader" (127 : Nat)) "java/lang/String" "value" "[B") (Jvm.Term.int (1 : Int32))) (Jvm.Term.int (110 : Int32))) ∈ flatC (Jvm.Cond.and given_1 narrow_1) := List.mem_of_getElem? (i := 133) rfl
theorem nf_134 : (Jvm.Cond.eq (Jvm.Term.elem (Jvm.Term.field (Jvm.Term.string "GrownKinds$Reader" (127 : Nat)) "java/lang/String" "value" "[B") (Jvm.Term.int (2 : Int32))) (Jvm.Term.int (105 : Int32))) ∈ flatC (Jvm.Cond.and given_1 narrow_1) := List.mem_of_getElem? (i := 134) rfl
theorem nf_135 : (Jvm.Cond.eq (Jvm.Term.elem (Jvm.Term.field (Jvm.Term.string "GrownKinds$Reader" (127 : Nat)) "java/lang/String" "value" "[B") (Jvm.Term.int (3 : Int32))) (Jvm.Term.int (116 : Int32))) ∈ flatC (Jvm.Cond.and given_1 narrow_1) := List.mem_of_getElem? (i := 135) rfl
theorem sw_3 : ∀ w ∈ strW ("GrownKinds$Reader", 127, "unit", [117, 110, 105, 116]), w ∈ flatC (Jvm.Cond.and given_1 narrow_1) := List.forall_mem_cons.mpr ⟨nf_128, List.forall_mem_cons.mpr ⟨nf_129, List.forall_mem_cons.mpr ⟨nf_130, List.forall_mem_cons.mpr ⟨nf_131, List.forall_mem_cons.mpr ⟨nf_132, List.forall_mem_cons.mpr ⟨nf_133, List.forall_mem_cons.mpr ⟨nf_134, List.forall_mem_cons.mpr ⟨nf_135, fun _ h => by cases h⟩⟩⟩⟩⟩⟩⟩⟩
theorem nf_139 : (Jvm.Cond.exactly (Jvm.Term.string "GrownKinds$Reader" (129 : Nat)) "java/lang/String") ∈ flatC (Jvm.Cond.and given_1 narrow_1) := List.mem_of_getElem? (i := 139) rfl
theorem nf_140 : (Jvm.Cond.eq (Jvm.Term.field (Jvm.Term.string "GrownKinds$Reader" (129 : Nat)) "java/lang/String" "coder" "B") (Jvm.Term.int (0 : Int32))) ∈ flatC (Jvm.Cond.and given_1 narrow_1) := List.mem_of_getElem? (i := 140) rfl
theorem nf_141 : (Jvm.Cond.arrayOf (Jvm.Term.field (Jvm.Term.string "GrownKinds$Reader" (129 : Nat)) "java/lang/String" "value" "[B") Jvm.ClassFile.FieldType.byte) ∈ flatC (Jvm.Cond.and given_1 narrow_1) := List.mem_of_getElem? (i := 141) rfl
theorem nf_142 : (Jvm.Cond.eq (Jvm.Term.length (Jvm.Term.field (Jvm.Term.string "GrownKinds$Reader" (129 : Nat)) "java/lang/String" "value" "[B")) (Jvm.Term.int (3 : Int32))) ∈ flatC (Jvm.Cond.and given_1 narrow_1) := List.mem_of_getElem? (i := 142) rfl
theorem nf_143 : (Jvm.Cond.eq (Jvm.Term.elem (Jvm.Term.field (Jvm.Term.string "GrownKinds$Reader" (129 : Nat)) "java/lang/String" "value" "[B") (Jvm.Term.int (0 : Int32))) (Jvm.Term.int (114 : Int32))) ∈ flatC (Jvm.Cond.and given_1 narrow_1) := List.mem_of_getElem? (i := 143) rfl
theorem nf_144 : (Jvm.Cond.eq (Jvm.Term.elem (Jvm.Term.field (Jvm.Term.string "GrownKinds$Reader" (129 : Nat)) "java/lang/String" "value" "[B") (Jvm.Term.int (1 : Int32))) (Jvm.Term.int (111 : Int32))) ∈ flatC (Jvm.Cond.and given_1 narrow_1) := List.mem_of_getElem? (i := 144) rfl
theorem nf_145 : (Jvm.Cond.eq (Jvm.Term.elem (Jvm.Term.field (Jvm.Term.string "GrownKinds$Reader" (129 : Nat)) "java/lang/String" "value" "[B") (Jvm.Term.int (2 : Int32))) (Jvm.Term.int (119 : Int32))) ∈ flatC (Jvm.Cond.and given_1 narrow_1) := List.mem_of_getElem? (i := 145) rfl
theorem sw_4 : ∀ w ∈ strW ("GrownKinds$Reader", 129, "row", [114, 111, 119]), w ∈ flatC (Jvm.Cond.and given_1 narrow_1) := List.forall_mem_cons.mpr ⟨nf_139, List.forall_mem_cons.mpr ⟨nf_140, List.forall_mem_cons.mpr ⟨nf_141, List.forall_mem_cons.mpr ⟨nf_142, List.forall_mem_cons.mpr ⟨nf_143, List.forall_mem_cons.mpr ⟨nf_144, List.forall_mem_cons.mpr ⟨nf_145, fun _ h => by cases h⟩⟩⟩⟩⟩⟩⟩
theorem nf_150 : (Jvm.Cond.exactly (Jvm.Term.string "GrownKinds$Reader" (131 : Nat)) "java/lang/String") ∈ flatC (Jvm.Cond.and given_1 narrow_1) := List.mem_of_getElem? (i := 150) rfl
theorem nf_151 : (Jvm.Cond.eq (Jvm.Term.field (Jvm.Term.string "GrownKinds$Reader" (131 : Nat)) "java/lang/String" "coder" "B") (Jvm.Term.int (0 : Int32))) ∈ flatC (Jvm.Cond.and given_1 narrow_1) := List.mem_of_getElem? (i := 151) rfl
theorem nf_152 : (Jvm.Cond.arrayOf (Jvm.Term.field (Jvm.Term.string "GrownKinds$Reader" (131 : Nat)) "java/lang/String" "value" "[B") Jvm.ClassFile.FieldType.byte) ∈ flatC (Jvm.Cond.and given_1 narrow_1) := List.mem_of_getElem? (i := 152) rfl
theorem nf_153 : (Jvm.Cond.eq (Jvm.Term.length (Jvm.Term.field (Jvm.Term.string "GrownKinds$Reader" (131 : Nat)) "java/lang/String" "value" "[B")) (Jvm.Term.int (3 : Int32))) ∈ flatC (Jvm.Cond.and given_1 narrow_1) := List.mem_of_getElem? (i := 153) rfl
theorem nf_154 : (Jvm.Cond.eq (Jvm.Term.elem (Jvm.Term.field (Jvm.Term.string "GrownKinds$Reader" (131 : Nat)) "java/lang/String" "value" "[B") (Jvm.Term.int (0 : Int32))) (Jvm.Term.int (98 : Int32))) ∈ flatC (Jvm.Cond.and given_1 narrow_1) := List.mem_of_getElem? (i := 154) rfl
theorem nf_155 : (Jvm.Cond.eq (Jvm.Term.elem (Jvm.Term.field (Jvm.Term.string "GrownKinds$Reader" (131 : Nat)) "java/lang/String" "value" "[B") (Jvm.Term.int (1 : Int32))) (Jvm.Term.int (97 : Int32))) ∈ flatC (Jvm.Cond.and given_1 narrow_1) := List.mem_of_getElem? (i := 155) rfl
theorem nf_156 : (Jvm.Cond.eq (Jvm.Term.elem (Jvm.Term.field (Jvm.Term.string "GrownKinds$Reader" (131 : Nat)) "java/lang/String" "value" "[B") (Jvm.Term.int (2 : Int32))) (Jvm.Term.int (103 : Int32))) ∈ flatC (Jvm.Cond.and given_1 narrow_1) := List.mem_of_getElem? (i := 156) rfl
theorem sw_5 : ∀ w ∈ strW ("GrownKinds$Reader", 131, "bag", [98, 97, 103]), w ∈ flatC (Jvm.Cond.and given_1 narrow_1) := List.forall_mem_cons.mpr ⟨nf_150, List.forall_mem_cons.mpr ⟨nf_151, List.forall_mem_cons.mpr ⟨nf_152, List.forall_mem_cons.mpr ⟨nf_153, List.forall_mem_cons.mpr ⟨nf_154, List.forall_mem_cons.mpr ⟨nf_155, List.forall_mem_cons.mpr ⟨nf_156, fun _ h => by cases h⟩⟩⟩⟩⟩⟩⟩
theorem nf_162 : (Jvm.Cond.exactly (Jvm.Term.string "GrownKinds$Reader" (133 : Nat)) "java/lang/String") ∈ flatC (Jvm.Cond.and given_1 narrow_1) := List.mem_of_getElem? (i := 162) rfl
theorem nf_163 : (Jvm.Cond.eq (Jvm.Term.field (Jvm.Term.string "GrownKinds$Reader" (133 : Nat)) "java/lang/String" "coder" "B") (Jvm.Term.int (0 : Int32))) ∈ flatC (Jvm.Cond.and given_1 narrow_1) := List.mem_of_getElem? (i := 163) rfl
theorem nf_164 : (Jvm.Cond.arrayOf (Jvm.Term.field (Jvm.Term.string "GrownKinds$Reader" (133 : Nat)) "java/lang/String" "value" "[B") Jvm.ClassFile.FieldType.byte) ∈ flatC (Jvm.Cond.and given_1 narrow_1) := List.mem_of_getElem? (i := 164) rfl
theorem nf_165 : (Jvm.Cond.eq (Jvm.Term.length (Jvm.Term.field (Jvm.Term.string "GrownKinds$Reader" (133 : Nat)) "java/lang/String" "value" "[B")) (Jvm.Term.int (3 : Int32))) ∈ flatC (Jvm.Cond.and given_1 narrow_1) := List.mem_of_getElem? (i := 165) rfl
theorem nf_166 : (Jvm.Cond.eq (Jvm.Term.elem (Jvm.Term.field (Jvm.Term.string "GrownKinds$Reader" (133 : Nat)) "java/lang/String" "value" "[B") (Jvm.Term.int (0 : Int32))) (Jvm.Term.int (115 : Int32))) ∈ flatC (Jvm.Cond.and given_1 narrow_1) := List.mem_of_getElem? (i := 166) rfl
theorem nf_167 : (Jvm.Cond.eq (Jvm.Term.elem (Jvm.Term.field (Jvm.Term.string "GrownKinds$Reader" (133 : Nat)) "java/lang/String" "value" "[B") (Jvm.Term.int (1 : Int32))) (Jvm.Term.int (101 : Int32))) ∈ flatC (Jvm.Cond.and given_1 narrow_1) := List.mem_of_getElem? (i := 167) rfl
theorem nf_168 : (Jvm.Cond.eq (Jvm.Term.elem (Jvm.Term.field (Jvm.Term.string "GrownKinds$Reader" (133 : Nat)) "java/lang/String" "value" "[B") (Jvm.Term.int (2 : Int32))) (Jvm.Term.int (116 : Int32))) ∈ flatC (Jvm.Cond.and given_1 narrow_1) := List.mem_of_getElem? (i := 168) rfl
theorem sw_6 : ∀ w ∈ strW ("GrownKinds$Reader", 133, "set", [115, 101, 116]), w ∈ flatC (Jvm.Cond.and given_1 narrow_1) := List.forall_mem_cons.mpr ⟨nf_162, List.forall_mem_cons.mpr ⟨nf_163, List.forall_mem_cons.mpr ⟨nf_164, List.forall_mem_cons.mpr ⟨nf_165, List.forall_mem_cons.mpr ⟨nf_166, List.forall_mem_cons.mpr ⟨nf_167, List.forall_mem_cons.mpr ⟨nf_168, fun _ h => by cases h⟩⟩⟩⟩⟩⟩⟩
theorem nf_175 : (Jvm.Cond.exactly (Jvm.Term.string "GrownKinds$Reader" (135 : Nat)) "java/lang/String") ∈ flatC (Jvm.Cond.and given_1 narrow_1) := List.mem_of_getElem? (i := 175) rfl
theorem nf_176 : (Jvm.Cond.eq (Jvm.Term.field (Jvm.Term.string "GrownKinds$Reader" (135 : Nat)) "java/lang/String" "coder" "B") (Jvm.Term.int (0 : Int32))) ∈ flatC (Jvm.Cond.and given_1 narrow_1) := List.mem_of_getElem? (i := 176) rfl
theorem nf_177 : (Jvm.Cond.arrayOf (Jvm.Term.field (Jvm.Term.string "GrownKinds$Reader" (135 : Nat)) "java/lang/String" "value" "[B") Jvm.ClassFile.FieldType.byte) ∈ flatC (Jvm.Cond.and given_1 narrow_1) := List.mem_of_getElem? (i := 177) rfl
theorem nf_178 : (Jvm.Cond.eq (Jvm.Term.length (Jvm.Term.field (Jvm.Term.string "GrownKinds$Reader" (135 : Nat)) "java/lang/String" "value" "[B")) (Jvm.Term.int (4 : Int32))) ∈ flatC (Jvm.Cond.and given_1 narrow_1) := List.mem_of_getElem? (i := 178) rfl
theorem nf_179 : (Jvm.Cond.eq (Jvm.Term.elem (Jvm.Term.field (Jvm.Term.string "GrownKinds$Reader" (135 : Nat)) "java/lang/String" "value" "[B") (Jvm.Term.int (0 : Int32))) (Jvm.Term.int (114 : Int32))) ∈ flatC (Jvm.Cond.and given_1 narrow_1) := List.mem_of_getElem? (i := 179) rfl
theorem nf_180 : (Jvm.Cond.eq (Jvm.Term.elem (Jvm.Term.field (Jvm.Term.string "GrownKinds$Reader" (135 : Nat)) "java/lang/String" "value" "[B") (Jvm.Term.int (1 : Int32))) (Jvm.Term.int (105 : Int32))) ∈ flatC (Jvm.Cond.and given_1 narrow_1) := List.mem_of_getElem? (i := 180) rfl
theorem nf_181 : (Jvm.Cond.eq (Jvm.Term.elem (Jvm.Term.field (Jvm.Term.string "GrownKinds$Reader" (135 : Nat)) "java/lang/String" "value" "[B") (Jvm.Term.int (2 : Int32))) (Jvm.Term.int (110 : Int32))) ∈ flatC (Jvm.Cond.and given_1 narrow_1) := List.mem_of_getElem? (i := 181) rfl
theorem nf_182 : (Jvm.Cond.eq (Jvm.Term.elem (Jvm.Term.field (Jvm.Term.string "GrownKinds$Reader" (135 : Nat)) "java/lang/String" "value" "[B") (Jvm.Term.int (3 : Int32))) (Jvm.Term.int (103 : Int32))) ∈ flatC (Jvm.Cond.and given_1 narrow_1) := List.mem_of_getElem? (i := 182) rfl
theorem sw_7 : ∀ w ∈ strW ("GrownKinds$Reader", 135, "ring", [114, 105, 110, 103]), w ∈ flatC (Jvm.Cond.and given_1 narrow_1) := List.forall_mem_cons.mpr ⟨nf_175, List.forall_mem_cons.mpr ⟨nf_176, List.forall_mem_cons.mpr ⟨nf_177, List.forall_mem_cons.mpr ⟨nf_178, List.forall_mem_cons.mpr ⟨nf_179, List.forall_mem_cons.mpr ⟨nf_180, List.forall_mem_cons.mpr ⟨nf_181, List.forall_mem_cons.mpr ⟨nf_182, fun _ h => by cases h⟩⟩⟩⟩⟩⟩⟩⟩
theorem nf_190 : (Jvm.Cond.exactly (Jvm.Term.string "GrownKinds$Reader" (141 : Nat)) "java/lang/String") ∈ flatC (Jvm.Cond.and given_1 narrow_1) := List.mem_of_getElem? (i := 190) rfl
theorem nf_191 : (Jvm.Cond.eq (Jvm.Term.field (Jvm.Term.string "GrownKinds$Reader" (141 : Nat)) "java/lang/String" "coder" "B") (Jvm.Term.int (0 : Int32))) ∈ flatC (Jvm.Cond.and given_1 narrow_1) := List.mem_of_getElem? (i := 191) rfl
theorem nf_192 : (Jvm.Cond.arrayOf (Jvm.Term.field (Jvm.Term.string "GrownKinds$Reader" (141 : Nat)) "java/lang/String" "value" "[B") Jvm.ClassFile.FieldType.byte) ∈ flatC (Jvm.Cond.and given_1 narrow_1) := List.mem_of_getElem? (i := 192) rfl
theorem nf_193 : (Jvm.Cond.eq (Jvm.Term.length (Jvm.Term.field (Jvm.Term.string "GrownKinds$Reader" (141 : Nat)) "java/lang/String" "value" "[B")) (Jvm.Term.int (2 : Int32))) ∈ flatC (Jvm.Cond.and given_1 narrow_1) := List.mem_of_getElem? (i := 193) rfl
theorem nf_194 : (Jvm.Cond.eq (Jvm.Term.elem (Jvm.Term.field (Jvm.Term.string "GrownKinds$Reader" (141 : Nat)) "java/lang/String" "value" "[B") (Jvm.Term.int (0 : Int32))) (Jvm.Term.int (111 : Int32))) ∈ flatC (Jvm.Cond.and given_1 narrow_1) := List.mem_of_getElem? (i := 194) rfl
theorem nf_195 : (Jvm.Cond.eq (Jvm.Term.elem (Jvm.Term.field (Jvm.Term.string "GrownKinds$Reader" (141 : Nat)) "java/lang/String" "value" "[B") (Jvm.Term.int (1 : Int32))) (Jvm.Term.int (114 : Int32))) ∈ flatC (Jvm.Cond.and given_1 narrow_1) := List.mem_of_getElem? (i := 195) rfl
theorem sw_8 : ∀ w ∈ strW ("GrownKinds$Reader", 141, "or", [111, 114]), w ∈ flatC (Jvm.Cond.and given_1 narrow_1) := List.forall_mem_cons.mpr ⟨nf_190, List.forall_mem_cons.mpr ⟨nf_191, List.forall_mem_cons.mpr ⟨nf_192, List.forall_mem_cons.mpr ⟨nf_193, List.forall_mem_cons.mpr ⟨nf_194, List.forall_mem_cons.mpr ⟨nf_195, fun _ h => by cases h⟩⟩⟩⟩⟩⟩
theorem nf_204 : (Jvm.Cond.exactly (Jvm.Term.string "GrownKinds$Reader" (143 : Nat)) "java/lang/String") ∈ flatC (Jvm.Cond.and given_1 narrow_1) := List.mem_of_getElem? (i := 204) rfl
theorem nf_205 : (Jvm.Cond.eq (Jvm.Term.field (Jvm.Term.string "GrownKinds$Reader" (143 : Nat)) "java/lang/String" "coder" "B") (Jvm.Term.int (0 : Int32))) ∈ flatC (Jvm.Cond.and given_1 narrow_1) := List.mem_of_getElem? (i := 205) rfl
theorem nf_206 : (Jvm.Cond.arrayOf (Jvm.Term.field (Jvm.Term.string "GrownKinds$Reader" (143 : Nat)) "java/lang/String" "value" "[B") Jvm.ClassFile.FieldType.byte) ∈ flatC (Jvm.Cond.and given_1 narrow_1) := List.mem_of_getElem? (i := 206) rfl
theorem nf_207 : (Jvm.Cond.eq (Jvm.Term.length (Jvm.Term.field (Jvm.Term.string "GrownKinds$Reader" (143 : Nat)) "java/lang/String" "value" "[B")) (Jvm.Term.int (4 : Int32))) ∈ flatC (Jvm.Cond.and given_1 narrow_1) := List.mem_of_getElem? (i := 207) rfl
theorem nf_208 : (Jvm.Cond.eq (Jvm.Term.elem (Jvm.Term.field (Jvm.Term.string "GrownKinds$Reader" (143 : Nat)) "java/lang/String" "value" "[B") (Jvm.Term.int (0 : Int32))) (Jvm.Term.int (119 : Int32))) ∈ flatC (Jvm.Cond.and given_1 narrow_1) := List.mem_of_getElem? (i := 208) rfl
theorem nf_209 : (Jvm.Cond.eq (Jvm.Term.elem (Jvm.Term.field (Jvm.Term.string "GrownKinds$Reader" (143 : Nat)) "java/lang/String" "value" "[B") (Jvm.Term.int (1 : Int32))) (Jvm.Term.int (105 : Int32))) ∈ flatC (Jvm.Cond.and given_1 narrow_1) := List.mem_of_getElem? (i := 209) rfl
theorem nf_210 : (Jvm.Cond.eq (Jvm.Term.elem (Jvm.Term.field (Jvm.Term.string "GrownKinds$Reader" (143 : Nat)) "java/lang/String" "value" "[B") (Jvm.Term.int (2 : Int32))) (Jvm.Term.int (116 : Int32))) ∈ flatC (Jvm.Cond.and given_1 narrow_1) := List.mem_of_getElem? (i := 210) rfl
theorem nf_211 : (Jvm.Cond.eq (Jvm.Term.elem (Jvm.Term.field (Jvm.Term.string "GrownKinds$Reader" (143 : Nat)) "java/lang/String" "value" "[B") (Jvm.Term.int (3 : Int32))) (Jvm.Term.int (104 : Int32))) ∈ flatC (Jvm.Cond.and given_1 narrow_1) := List.mem_of_getElem? (i := 211) rfl
theorem sw_9 : ∀ w ∈ strW ("GrownKinds$Reader", 143, "with", [119, 105, 116, 104]), w ∈ flatC (Jvm.Cond.and given_1 narrow_1) := List.forall_mem_cons.mpr ⟨nf_204, List.forall_mem_cons.mpr ⟨nf_205, List.forall_mem_cons.mpr ⟨nf_206, List.forall_mem_cons.mpr ⟨nf_207, List.forall_mem_cons.mpr ⟨nf_208, List.forall_mem_cons.mpr ⟨nf_209, List.forall_mem_cons.mpr ⟨nf_210, List.forall_mem_cons.mpr ⟨nf_211, fun _ h => by cases h⟩⟩⟩⟩⟩⟩⟩⟩
theorem nf_221 : (Jvm.Cond.exactly (Jvm.Term.string "GrownKindsModel" (127 : Nat)) "java/lang/String") ∈ flatC (Jvm.Cond.and given_1 narrow_1) := List.mem_of_getElem? (i := 221) rfl
theorem nf_222 : (Jvm.Cond.eq (Jvm.Term.field (Jvm.Term.string "GrownKindsModel" (127 : Nat)) "java/lang/String" "coder" "B") (Jvm.Term.int (0 : Int32))) ∈ flatC (Jvm.Cond.and given_1 narrow_1) := List.mem_of_getElem? (i := 222) rfl
theorem nf_223 : (Jvm.Cond.arrayOf (Jvm.Term.field (Jvm.Term.string "GrownKindsModel" (127 : Nat)) "java/lang/String" "value" "[B") Jvm.ClassFile.FieldType.byte) ∈ flatC (Jvm.Cond.and given_1 narrow_1) := List.mem_of_getElem? (i := 223) rfl
theorem nf_224 : (Jvm.Cond.eq (Jvm.Term.length (Jvm.Term.field (Jvm.Term.string "GrownKindsModel" (127 : Nat)) "java/lang/String" "value" "[B")) (Jvm.Term.int (7 : Int32))) ∈ flatC (Jvm.Cond.and given_1 narrow_1) := List.mem_of_getElem? (i := 224) rfl
theorem nf_225 : (Jvm.Cond.eq (Jvm.Term.elem (Jvm.Term.field (Jvm.Term.string "GrownKindsModel" (127 : Nat)) "java/lang/String" "value" "[B") (Jvm.Term.int (0 : Int32))) (Jvm.Term.int (103 : Int32))) ∈ flatC (Jvm.Cond.and given_1 narrow_1) := List.mem_of_getElem? (i := 225) rfl
theorem nf_226 : (Jvm.Cond.eq (Jvm.Term.elem (Jvm.Term.field (Jvm.Term.string "GrownKindsModel" (127 : Nat)) "java/lang/String" "value" "[B") (Jvm.Term.int (1 : Int32))) (Jvm.Term.int (114 : Int32))) ∈ flatC (Jvm.Cond.and given_1 narrow_1) := List.mem_of_getElem? (i := 226) rfl
theorem nf_227 : (Jvm.Cond.eq (Jvm.Term.elem (Jvm.Term.field (Jvm.Term.string "GrownKindsModel" (127 : Nat)) "java/lang/String" "value" "[B") (Jvm.Term.int (2 : Int32))) (Jvm.Term.int (97 : Int32))) ∈ flatC (Jvm.Cond.and given_1 narrow_1) := List.mem_of_getElem? (i := 227) rfl
theorem nf_228 : (Jvm.Cond.eq (Jvm.Term.elem (Jvm.Term.field (Jvm.Term.string "GrownKindsModel" (127 : Nat)) "java/lang/String" "value" "[B") (Jvm.Term.int (3 : Int32))) (Jvm.Term.int (109 : Int32))) ∈ flatC (Jvm.Cond.and given_1 narrow_1) := List.mem_of_getElem? (i := 228) rfl
theorem nf_229 : (Jvm.Cond.eq (Jvm.Term.elem (Jvm.Term.field (Jvm.Term.string "GrownKindsModel" (127 : Nat)) "java/lang/String" "value" "[B") (Jvm.Term.int (4 : Int32))) (Jvm.Term.int (109 : Int32))) ∈ flatC (Jvm.Cond.and given_1 narrow_1) := List.mem_of_getElem? (i := 229) rfl
theorem nf_230 : (Jvm.Cond.eq (Jvm.Term.elem (Jvm.Term.field (Jvm.Term.string "GrownKindsModel" (127 : Nat)) "java/lang/String" "value" "[B") (Jvm.Term.int (5 : Int32))) (Jvm.Term.int (97 : Int32))) ∈ flatC (Jvm.Cond.and given_1 narrow_1) := List.mem_of_getElem? (i := 230) rfl
theorem nf_231 : (Jvm.Cond.eq (Jvm.Term.elem (Jvm.Term.field (Jvm.Term.string "GrownKindsModel" (127 : Nat)) "java/lang/String" "value" "[B") (Jvm.Term.int (6 : Int32))) (Jvm.Term.int (114 : Int32))) ∈ flatC (Jvm.Cond.and given_1 narrow_1) := List.mem_of_getElem? (i := 231) rfl
theorem sw_10 : ∀ w ∈ strW ("GrownKindsModel", 127, "grammar", [103, 114, 97, 109, 109, 97, 114]), w ∈ flatC (Jvm.Cond.and given_1 narrow_1) := List.forall_mem_cons.mpr ⟨nf_221, List.forall_mem_cons.mpr ⟨nf_222, List.forall_mem_cons.mpr ⟨nf_223, List.forall_mem_cons.mpr ⟨nf_224, List.forall_mem_cons.mpr ⟨nf_225, List.forall_mem_cons.mpr ⟨nf_226, List.forall_mem_cons.mpr ⟨nf_227, List.forall_mem_cons.mpr ⟨nf_228, List.forall_mem_cons.mpr ⟨nf_229, List.forall_mem_cons.mpr ⟨nf_230, List.forall_mem_cons.mpr ⟨nf_231, fun _ h => by cases h⟩⟩⟩⟩⟩⟩⟩⟩⟩⟩⟩
theorem nf_242 : (Jvm.Cond.exactly (Jvm.Term.string "GrownKindsModel" (129 : Nat)) "java/lang/String") ∈ flatC (Jvm.Cond.and given_1 narrow_1) := List.mem_of_getElem? (i := 242) rfl
theorem nf_243 : (Jvm.Cond.eq (Jvm.Term.field (Jvm.Term.string "GrownKindsModel" (129 : Nat)) "java/lang/String" "coder" "B") (Jvm.Term.int (0 : Int32))) ∈ flatC (Jvm.Cond.and given_1 narrow_1) := List.mem_of_getElem? (i := 243) rfl
theorem nf_244 : (Jvm.Cond.arrayOf (Jvm.Term.field (Jvm.Term.string "GrownKindsModel" (129 : Nat)) "java/lang/String" "value" "[B") Jvm.ClassFile.FieldType.byte) ∈ flatC (Jvm.Cond.and given_1 narrow_1) := List.mem_of_getElem? (i := 244) rfl
theorem nf_245 : (Jvm.Cond.eq (Jvm.Term.length (Jvm.Term.field (Jvm.Term.string "GrownKindsModel" (129 : Nat)) "java/lang/String" "value" "[B")) (Jvm.Term.int (4 : Int32))) ∈ flatC (Jvm.Cond.and given_1 narrow_1) := List.mem_of_getElem? (i := 245) rfl
theorem nf_246 : (Jvm.Cond.eq (Jvm.Term.elem (Jvm.Term.field (Jvm.Term.string "GrownKindsModel" (129 : Nat)) "java/lang/String" "value" "[B") (Jvm.Term.int (0 : Int32))) (Jvm.Term.int (109 : Int32))) ∈ flatC (Jvm.Cond.and given_1 narrow_1) := List.mem_of_getElem? (i := 246) rfl
theorem nf_247 : (Jvm.Cond.eq (Jvm.Term.elem (Jvm.Term.field (Jvm.Term.string "GrownKindsModel" (129 : Nat)) "java/lang/String" "value" "[B") (Jvm.Term.int (1 : Int32))) (Jvm.Term.int (111 : Int32))) ∈ flatC (Jvm.Cond.and given_1 narrow_1) := List.mem_of_getElem? (i := 247) rfl
theorem nf_248 : (Jvm.Cond.eq (Jvm.Term.elem (Jvm.Term.field (Jvm.Term.string "GrownKindsModel" (129 : Nat)) "java/lang/String" "value" "[B") (Jvm.Term.int (2 : Int32))) (Jvm.Term.int (115 : Int32))) ∈ flatC (Jvm.Cond.and given_1 narrow_1) := List.mem_of_getElem? (i := 248) rfl
theorem nf_249 : (Jvm.Cond.eq (Jvm.Term.elem (Jvm.Term.field (Jvm.Term.string "GrownKindsModel" (129 : Nat)) "java/lang/String" "value" "[B") (Jvm.Term.int (3 : Int32))) (Jvm.Term.int (116 : Int32))) ∈ flatC (Jvm.Cond.and given_1 narrow_1) := List.mem_of_getElem? (i := 249) rfl
theorem sw_11 : ∀ w ∈ strW ("GrownKindsModel", 129, "most", [109, 111, 115, 116]), w ∈ flatC (Jvm.Cond.and given_1 narrow_1) := List.forall_mem_cons.mpr ⟨nf_242, List.forall_mem_cons.mpr ⟨nf_243, List.forall_mem_cons.mpr ⟨nf_244, List.forall_mem_cons.mpr ⟨nf_245, List.forall_mem_cons.mpr ⟨nf_246, List.forall_mem_cons.mpr ⟨nf_247, List.forall_mem_cons.mpr ⟨nf_248, List.forall_mem_cons.mpr ⟨nf_249, fun _ h => by cases h⟩⟩⟩⟩⟩⟩⟩⟩
theorem nf_261 : (Jvm.Cond.exactly (Jvm.Term.string "GrownKindsModel" (131 : Nat)) "java/lang/String") ∈ flatC (Jvm.Cond.and given_1 narrow_1) := List.mem_of_getElem? (i := 261) rfl
theorem nf_262 : (Jvm.Cond.eq (Jvm.Term.field (Jvm.Term.string "GrownKindsModel" (131 : Nat)) "java/lang/String" "coder" "B") (Jvm.Term.int (0 : Int32))) ∈ flatC (Jvm.Cond.and given_1 narrow_1) := List.mem_of_getElem? (i := 262) rfl
theorem nf_263 : (Jvm.Cond.arrayOf (Jvm.Term.field (Jvm.Term.string "GrownKindsModel" (131 : Nat)) "java/lang/String" "value" "[B") Jvm.ClassFile.FieldType.byte) ∈ flatC (Jvm.Cond.and given_1 narrow_1) := List.mem_of_getElem? (i := 263) rfl
theorem nf_264 : (Jvm.Cond.eq (Jvm.Term.length (Jvm.Term.field (Jvm.Term.string "GrownKindsModel" (131 : Nat)) "java/lang/String" "value" "[B")) (Jvm.Term.int (4 : Int32))) ∈ flatC (Jvm.Cond.and given_1 narrow_1) := List.mem_of_getElem? (i := 264) rfl
theorem nf_265 : (Jvm.Cond.eq (Jvm.Term.elem (Jvm.Term.field (Jvm.Term.string "GrownKindsModel" (131 : Nat)) "java/lang/String" "value" "[B") (Jvm.Term.int (0 : Int32))) (Jvm.Term.int (97 : Int32))) ∈ flatC (Jvm.Cond.and given_1 narrow_1) := List.mem_of_getElem? (i := 265) rfl
theorem nf_266 : (Jvm.Cond.eq (Jvm.Term.elem (Jvm.Term.field (Jvm.Term.string "GrownKindsModel" (131 : Nat)) "java/lang/String" "value" "[B") (Jvm.Term.int (1 : Int32))) (Jvm.Term.int (116 : Int32))) ∈ flatC (Jvm.Cond.and given_1 narrow_1) := List.mem_of_getElem? (i := 266) rfl
theorem nf_267 : (Jvm.Cond.eq (Jvm.Term.elem (Jvm.Term.field (Jvm.Term.string "GrownKindsModel" (131 : Nat)) "java/lang/String" "value" "[B") (Jvm.Term.int (2 : Int32))) (Jvm.Term.int (111 : Int32))) ∈ flatC (Jvm.Cond.and given_1 narrow_1) := List.mem_of_getElem? (i := 267) rfl
theorem nf_268 : (Jvm.Cond.eq (Jvm.Term.elem (Jvm.Term.field (Jvm.Term.string "GrownKindsModel" (131 : Nat)) "java/lang/String" "value" "[B") (Jvm.Term.int (3 : Int32))) (Jvm.Term.int (109 : Int32))) ∈ flatC (Jvm.Cond.and given_1 narrow_1) := List.mem_of_getElem? (i := 268) rfl
theorem sw_12 : ∀ w ∈ strW ("GrownKindsModel", 131, "atom", [97, 116, 111, 109]), w ∈ flatC (Jvm.Cond.and given_1 narrow_1) := List.forall_mem_cons.mpr ⟨nf_261, List.forall_mem_cons.mpr ⟨nf_262, List.forall_mem_cons.mpr ⟨nf_263, List.forall_mem_cons.mpr ⟨nf_264, List.forall_mem_cons.mpr ⟨nf_265, List.forall_mem_cons.mpr ⟨nf_266, List.forall_mem_cons.mpr ⟨nf_267, List.forall_mem_cons.mpr ⟨nf_268, fun _ h => by cases h⟩⟩⟩⟩⟩⟩⟩⟩
theorem nf_281 : (Jvm.Cond.exactly (Jvm.Term.string "GrownKindsModel" (133 : Nat)) "java/lang/String") ∈ flatC (Jvm.Cond.and given_1 narrow_1) := List.mem_of_getElem? (i := 281) rfl
theorem nf_282 : (Jvm.Cond.eq (Jvm.Term.field (Jvm.Term.string "GrownKindsModel" (133 : Nat)) "java/lang/String" "coder" "B") (Jvm.Term.int (0 : Int32))) ∈ flatC (Jvm.Cond.and given_1 narrow_1) := List.mem_of_getElem? (i := 282) rfl
theorem nf_283 : (Jvm.Cond.arrayOf (Jvm.Term.field (Jvm.Term.string "GrownKindsModel" (133 : Nat)) "java/lang/String" "value" "[B") Jvm.ClassFile.FieldType.byte) ∈ flatC (Jvm.Cond.and given_1 narrow_1) := List.mem_of_getElem? (i := 283) rfl
theorem nf_284 : (Jvm.Cond.eq (Jvm.Term.length (Jvm.Term.field (Jvm.Term.string "GrownKindsModel" (133 : Nat)) "java/lang/String" "value" "[B")) (Jvm.Term.int (4 : Int32))) ∈ flatC (Jvm.Cond.and given_1 narrow_1) := List.mem_of_getElem? (i := 284) rfl
theorem nf_285 : (Jvm.Cond.eq (Jvm.Term.elem (Jvm.Term.field (Jvm.Term.string "GrownKindsModel" (133 : Nat)) "java/lang/String" "value" "[B") (Jvm.Term.int (0 : Int32))) (Jvm.Term.int (117 : Int32))) ∈ flatC (Jvm.Cond.and given_1 narrow_1) := List.mem_of_getElem? (i := 285) rfl
theorem nf_286 : (Jvm.Cond.eq (Jvm.Term.elem (Jvm.Term.field (Jvm.Term.string "GrownKindsModel" (133 : Nat)) "java/lang/String" "value" "[B") (Jvm.Term.int (1 : Int32))) (Jvm.Term.int (110 : Int32))) ∈ flatC (Jvm.Cond.and given_1 narrow_1) := List.mem_of_getElem? (i := 286) rfl
theorem nf_287 : (Jvm.Cond.eq (Jvm.Term.elem (Jvm.Term.field (Jvm.Term.string "GrownKindsModel" (133 : Nat)) "java/lang/String" "value" "[B") (Jvm.Term.int (2 : Int32))) (Jvm.Term.int (105 : Int32))) ∈ flatC (Jvm.Cond.and given_1 narrow_1) := List.mem_of_getElem? (i := 287) rfl
theorem nf_288 : (Jvm.Cond.eq (Jvm.Term.elem (Jvm.Term.field (Jvm.Term.string "GrownKindsModel" (133 : Nat)) "java/lang/String" "value" "[B") (Jvm.Term.int (3 : Int32))) (Jvm.Term.int (116 : Int32))) ∈ flatC (Jvm.Cond.and given_1 narrow_1) := List.mem_of_getElem? (i := 288) rfl
theorem sw_13 : ∀ w ∈ strW ("GrownKindsModel", 133, "unit", [117, 110, 105, 116]), w ∈ flatC (Jvm.Cond.and given_1 narrow_1) := List.forall_mem_cons.mpr ⟨nf_281, List.forall_mem_cons.mpr ⟨nf_282, List.forall_mem_cons.mpr ⟨nf_283, List.forall_mem_cons.mpr ⟨nf_284, List.forall_mem_cons.mpr ⟨nf_285, List.forall_mem_cons.mpr ⟨nf_286, List.forall_mem_cons.mpr ⟨nf_287, List.forall_mem_cons.mpr ⟨nf_288, fun _ h => by cases h⟩⟩⟩⟩⟩⟩⟩⟩
theorem nf_302 : (Jvm.Cond.exactly (Jvm.Term.string "GrownKindsModel" (135 : Nat)) "java/lang/String") ∈ flatC (Jvm.Cond.and given_1 narrow_1) := List.mem_of_getElem? (i := 302) rfl
theorem nf_303 : (Jvm.Cond.eq (Jvm.Term.field (Jvm.Term.string "GrownKindsModel" (135 : Nat)) "java/lang/String" "coder" "B") (Jvm.Term.int (0 : Int32))) ∈ flatC (Jvm.Cond.and given_1 narrow_1) := List.mem_of_getElem? (i := 303) rfl
theorem nf_304 : (Jvm.Cond.arrayOf (Jvm.Term.field (Jvm.Term.string "GrownKindsModel" (135 : Nat)) "java/lang/String" "value" "[B") Jvm.ClassFile.FieldType.byte) ∈ flatC (Jvm.Cond.and given_1 narrow_1) := List.mem_of_getElem? (i := 304) rfl
theorem nf_305 : (Jvm.Cond.eq (Jvm.Term.length (Jvm.Term.field (Jvm.Term.string "GrownKindsModel" (135 : Nat)) "java/lang/String" "value" "[B")) (Jvm.Term.int (2 : Int32))) ∈ flatC (Jvm.Cond.and given_1 narrow_1) := List.mem_of_getElem? (i := 305) rfl
theorem nf_306 : (Jvm.Cond.eq (Jvm.Term.elem (Jvm.Term.field (Jvm.Term.string "GrownKindsModel" (135 : Nat)) "java/lang/String" "value" "[B") (Jvm.Term.int (0 : Int32))) (Jvm.Term.int (111 : Int32))) ∈ flatC (Jvm.Cond.and given_1 narrow_1) := List.mem_of_getElem? (i := 306) rfl
theorem nf_307 : (Jvm.Cond.eq (Jvm.Term.elem (Jvm.Term.field (Jvm.Term.string "GrownKindsModel" (135 : Nat)) "java/lang/String" "value" "[B") (Jvm.Term.int (1 : Int32))) (Jvm.Term.int (114 : Int32))) ∈ flatC (Jvm.Cond.and given_1 narrow_1) := List.mem_of_getElem? (i := 307) rfl
theorem sw_14 : ∀ w ∈ strW ("GrownKindsModel", 135, "or", [111, 114]), w ∈ flatC (Jvm.Cond.and given_1 narrow_1) := List.forall_mem_cons.mpr ⟨nf_302, List.forall_mem_cons.mpr ⟨nf_303, List.forall_mem_cons.mpr ⟨nf_304, List.forall_mem_cons.mpr ⟨nf_305, List.forall_mem_cons.mpr ⟨nf_306, List.forall_mem_cons.mpr ⟨nf_307, fun _ h => by cases h⟩⟩⟩⟩⟩⟩
theorem nf_322 : (Jvm.Cond.exactly (Jvm.Term.string "GrownKindsModel" (137 : Nat)) "java/lang/String") ∈ flatC (Jvm.Cond.and given_1 narrow_1) := List.mem_of_getElem? (i := 322) rfl
theorem nf_323 : (Jvm.Cond.eq (Jvm.Term.field (Jvm.Term.string "GrownKindsModel" (137 : Nat)) "java/lang/String" "coder" "B") (Jvm.Term.int (0 : Int32))) ∈ flatC (Jvm.Cond.and given_1 narrow_1) := List.mem_of_getElem? (i := 323) rfl
theorem nf_324 : (Jvm.Cond.arrayOf (Jvm.Term.field (Jvm.Term.string "GrownKindsModel" (137 : Nat)) "java/lang/String" "value" "[B") Jvm.ClassFile.FieldType.byte) ∈ flatC (Jvm.Cond.and given_1 narrow_1) := List.mem_of_getElem? (i := 324) rfl
theorem nf_325 : (Jvm.Cond.eq (Jvm.Term.length (Jvm.Term.field (Jvm.Term.string "GrownKindsModel" (137 : Nat)) "java/lang/String" "value" "[B")) (Jvm.Term.int (4 : Int32))) ∈ flatC (Jvm.Cond.and given_1 narrow_1) := List.mem_of_getElem? (i := 325) rfl
theorem nf_326 : (Jvm.Cond.eq (Jvm.Term.elem (Jvm.Term.field (Jvm.Term.string "GrownKindsModel" (137 : Nat)) "java/lang/String" "value" "[B") (Jvm.Term.int (0 : Int32))) (Jvm.Term.int (119 : Int32))) ∈ flatC (Jvm.Cond.and given_1 narrow_1) := List.mem_of_getElem? (i := 326) rfl
theorem nf_327 : (Jvm.Cond.eq (Jvm.Term.elem (Jvm.Term.field (Jvm.Term.string "GrownKindsModel" (137 : Nat)) "java/lang/String" "value" "[B") (Jvm.Term.int (1 : Int32))) (Jvm.Term.int (105 : Int32))) ∈ flatC (Jvm.Cond.and given_1 narrow_1) := List.mem_of_getElem? (i := 327) rfl
theorem nf_328 : (Jvm.Cond.eq (Jvm.Term.elem (Jvm.Term.field (Jvm.Term.string "GrownKindsModel" (137 : Nat)) "java/lang/String" "value" "[B") (Jvm.Term.int (2 : Int32))) (Jvm.Term.int (116 : Int32))) ∈ flatC (Jvm.Cond.and given_1 narrow_1) := List.mem_of_getElem? (i := 328) rfl
theorem nf_329 : (Jvm.Cond.eq (Jvm.Term.elem (Jvm.Term.field (Jvm.Term.string "GrownKindsModel" (137 : Nat)) "java/lang/String" "value" "[B") (Jvm.Term.int (3 : Int32))) (Jvm.Term.int (104 : Int32))) ∈ flatC (Jvm.Cond.and given_1 narrow_1) := List.mem_of_getElem? (i := 329) rfl
theorem sw_15 : ∀ w ∈ strW ("GrownKindsModel", 137, "with", [119, 105, 116, 104]), w ∈ flatC (Jvm.Cond.and given_1 narrow_1) := List.forall_mem_cons.mpr ⟨nf_322, List.forall_mem_cons.mpr ⟨nf_323, List.forall_mem_cons.mpr ⟨nf_324, List.forall_mem_cons.mpr ⟨nf_325, List.forall_mem_cons.mpr ⟨nf_326, List.forall_mem_cons.mpr ⟨nf_327, List.forall_mem_cons.mpr ⟨nf_328, List.forall_mem_cons.mpr ⟨nf_329, fun _ h => by cases h⟩⟩⟩⟩⟩⟩⟩⟩
theorem nf_345 : (Jvm.Cond.exactly (Jvm.Term.string "GrownKindsModel" (139 : Nat)) "java/lang/String") ∈ flatC (Jvm.Cond.and given_1 narrow_1) := List.mem_of_getElem? (i := 345) rfl
theorem nf_346 : (Jvm.Cond.eq (Jvm.Term.field (Jvm.Term.string "GrownKindsModel" (139 : Nat)) "java/lang/String" "coder" "B") (Jvm.Term.int (0 : Int32))) ∈ flatC (Jvm.Cond.and given_1 narrow_1) := List.mem_of_getElem? (i := 346) rfl
theorem nf_347 : (Jvm.Cond.arrayOf (Jvm.Term.field (Jvm.Term.string "GrownKindsModel" (139 : Nat)) "java/lang/String" "value" "[B") Jvm.ClassFile.FieldType.byte) ∈ flatC (Jvm.Cond.and given_1 narrow_1) := List.mem_of_getElem? (i := 347) rfl
theorem nf_348 : (Jvm.Cond.eq (Jvm.Term.length (Jvm.Term.field (Jvm.Term.string "GrownKindsModel" (139 : Nat)) "java/lang/String" "value" "[B")) (Jvm.Term.int (3 : Int32))) ∈ flatC (Jvm.Cond.and given_1 narrow_1) := List.mem_of_getElem? (i := 348) rfl
theorem nf_349 : (Jvm.Cond.eq (Jvm.Term.elem (Jvm.Term.field (Jvm.Term.string "GrownKindsModel" (139 : Nat)) "java/lang/String" "value" "[B") (Jvm.Term.int (0 : Int32))) (Jvm.Term.int (114 : Int32))) ∈ flatC (Jvm.Cond.and given_1 narrow_1) := List.mem_of_getElem? (i := 349) rfl
theorem nf_350 : (Jvm.Cond.eq (Jvm.Term.elem (Jvm.Term.field (Jvm.Term.string "GrownKindsModel" (139 : Nat)) "java/lang/String" "value" "[B") (Jvm.Term.int (1 : Int32))) (Jvm.Term.int (111 : Int32))) ∈ flatC (Jvm.Cond.and given_1 narrow_1) := List.mem_of_getElem? (i := 350) rfl
theorem nf_351 : (Jvm.Cond.eq (Jvm.Term.elem (Jvm.Term.field (Jvm.Term.string "GrownKindsModel" (139 : Nat)) "java/lang/String" "value" "[B") (Jvm.Term.int (2 : Int32))) (Jvm.Term.int (119 : Int32))) ∈ flatC (Jvm.Cond.and given_1 narrow_1) := List.mem_of_getElem? (i := 351) rfl
theorem sw_16 : ∀ w ∈ strW ("GrownKindsModel", 139, "row", [114, 111, 119]), w ∈ flatC (Jvm.Cond.and given_1 narrow_1) := List.forall_mem_cons.mpr ⟨nf_345, List.forall_mem_cons.mpr ⟨nf_346, List.forall_mem_cons.mpr ⟨nf_347, List.forall_mem_cons.mpr ⟨nf_348, List.forall_mem_cons.mpr ⟨nf_349, List.forall_mem_cons.mpr ⟨nf_350, List.forall_mem_cons.mpr ⟨nf_351, fun _ h => by cases h⟩⟩⟩⟩⟩⟩⟩
theorem nf_368 : (Jvm.Cond.exactly (Jvm.Term.string "GrownKindsModel" (141 : Nat)) "java/lang/String") ∈ flatC (Jvm.Cond.and given_1 narrow_1) := List.mem_of_getElem? (i := 368) rfl
theorem nf_369 : (Jvm.Cond.eq (Jvm.Term.field (Jvm.Term.string "GrownKindsModel" (141 : Nat)) "java/lang/String" "coder" "B") (Jvm.Term.int (0 : Int32))) ∈ flatC (Jvm.Cond.and given_1 narrow_1) := List.mem_of_getElem? (i := 369) rfl
theorem nf_370 : (Jvm.Cond.arrayOf (Jvm.Term.field (Jvm.Term.string "GrownKindsModel" (141 : Nat)) "java/lang/String" "value" "[B") Jvm.ClassFile.FieldType.byte) ∈ flatC (Jvm.Cond.and given_1 narrow_1) := List.mem_of_getElem? (i := 370) rfl
theorem nf_371 : (Jvm.Cond.eq (Jvm.Term.length (Jvm.Term.field (Jvm.Term.string "GrownKindsModel" (141 : Nat)) "java/lang/String" "value" "[B")) (Jvm.Term.int (3 : Int32))) ∈ flatC (Jvm.Cond.and given_1 narrow_1) := List.mem_of_getElem? (i := 371) rfl
theorem nf_372 : (Jvm.Cond.eq (Jvm.Term.elem (Jvm.Term.field (Jvm.Term.string "GrownKindsModel" (141 : Nat)) "java/lang/String" "value" "[B") (Jvm.Term.int (0 : Int32))) (Jvm.Term.int (98 : Int32))) ∈ flatC (Jvm.Cond.and given_1 narrow_1) := List.mem_of_getElem? (i := 372) rfl
theorem nf_373 : (Jvm.Cond.eq (Jvm.Term.elem (Jvm.Term.field (Jvm.Term.string "GrownKindsModel" (141 : Nat)) "java/lang/String" "value" "[B") (Jvm.Term.int (1 : Int32))) (Jvm.Term.int (97 : Int32))) ∈ flatC (Jvm.Cond.and given_1 narrow_1) := List.mem_of_getElem? (i := 373) rfl
theorem nf_374 : (Jvm.Cond.eq (Jvm.Term.elem (Jvm.Term.field (Jvm.Term.string "GrownKindsModel" (141 : Nat)) "java/lang/String" "value" "[B") (Jvm.Term.int (2 : Int32))) (Jvm.Term.int (103 : Int32))) ∈ flatC (Jvm.Cond.and given_1 narrow_1) := List.mem_of_getElem? (i := 374) rfl
theorem sw_17 : ∀ w ∈ strW ("GrownKindsModel", 141, "bag", [98, 97, 103]), w ∈ flatC (Jvm.Cond.and given_1 narrow_1) := List.forall_mem_cons.mpr ⟨nf_368, List.forall_mem_cons.mpr ⟨nf_369, List.forall_mem_cons.mpr ⟨nf_370, List.forall_mem_cons.mpr ⟨nf_371, List.forall_mem_cons.mpr ⟨nf_372, List.forall_mem_cons.mpr ⟨nf_373, List.forall_mem_cons.mpr ⟨nf_374, fun _ h => by cases h⟩⟩⟩⟩⟩⟩⟩
theorem nf_392 : (Jvm.Cond.exactly (Jvm.Term.string "GrownKindsModel" (143 : Nat)) "java/lang/String") ∈ flatC (Jvm.Cond.and given_1 narrow_1) := List.mem_of_getElem? (i := 392) rfl
theorem nf_393 : (Jvm.Cond.eq (Jvm.Term.field (Jvm.Term.string "GrownKindsModel" (143 : Nat)) "java/lang/String" "coder" "B") (Jvm.Term.int (0 : Int32))) ∈ flatC (Jvm.Cond.and given_1 narrow_1) := List.mem_of_getElem? (i := 393) rfl
theorem nf_394 : (Jvm.Cond.arrayOf (Jvm.Term.field (Jvm.Term.string "GrownKindsModel" (143 : Nat)) "java/lang/String" "value" "[B") Jvm.ClassFile.FieldType.byte) ∈ flatC (Jvm.Cond.and given_1 narrow_1) := List.mem_of_getElem? (i := 394) rfl
theorem nf_395 : (Jvm.Cond.eq (Jvm.Term.length (Jvm.Term.field (Jvm.Term.string "GrownKindsModel" (143 : Nat)) "java/lang/String" "value" "[B")) (Jvm.Term.int (3 : Int32))) ∈ flatC (Jvm.Cond.and given_1 narrow_1) := List.mem_of_getElem? (i := 395) rfl
theorem nf_396 : (Jvm.Cond.eq (Jvm.Term.elem (Jvm.Term.field (Jvm.Term.string "GrownKindsModel" (143 : Nat)) "java/lang/String" "value" "[B") (Jvm.Term.int (0 : Int32))) (Jvm.Term.int (115 : Int32))) ∈ flatC (Jvm.Cond.and given_1 narrow_1) := List.mem_of_getElem? (i := 396) rfl
theorem nf_397 : (Jvm.Cond.eq (Jvm.Term.elem (Jvm.Term.field (Jvm.Term.string "GrownKindsModel" (143 : Nat)) "java/lang/String" "value" "[B") (Jvm.Term.int (1 : Int32))) (Jvm.Term.int (101 : Int32))) ∈ flatC (Jvm.Cond.and given_1 narrow_1) := List.mem_of_getElem? (i := 397) rfl
theorem nf_398 : (Jvm.Cond.eq (Jvm.Term.elem (Jvm.Term.field (Jvm.Term.string "GrownKindsModel" (143 : Nat)) "java/lang/String" "value" "[B") (Jvm.Term.int (2 : Int32))) (Jvm.Term.int (116 : Int32))) ∈ flatC (Jvm.Cond.and given_1 narrow_1) := List.mem_of_getElem? (i := 398) rfl
theorem sw_18 : ∀ w ∈ strW ("GrownKindsModel", 143, "set", [115, 101, 116]), w ∈ flatC (Jvm.Cond.and given_1 narrow_1) := List.forall_mem_cons.mpr ⟨nf_392, List.forall_mem_cons.mpr ⟨nf_393, List.forall_mem_cons.mpr ⟨nf_394, List.forall_mem_cons.mpr ⟨nf_395, List.forall_mem_cons.mpr ⟨nf_396, List.forall_mem_cons.mpr ⟨nf_397, List.forall_mem_cons.mpr ⟨nf_398, fun _ h => by cases h⟩⟩⟩⟩⟩⟩⟩
set_option maxRecDepth 8000 in
theorem nf_417 : (Jvm.Cond.exactly (Jvm.Term.string "GrownKindsModel" (145 : Nat)) "java/lang/String") ∈ flatC (Jvm.Cond.and given_1 narrow_1) := List.mem_of_getElem? (i := 417) rfl
set_option maxRecDepth 8000 in
theorem nf_418 : (Jvm.Cond.eq (Jvm.Term.field (Jvm.Term.string "GrownKindsModel" (145 : Nat)) "java/lang/String" "coder" "B") (Jvm.Term.int (0 : Int32))) ∈ flatC (Jvm.Cond.and given_1 narrow_1) := List.mem_of_getElem? (i := 418) rfl
set_option maxRecDepth 8000 in
theorem nf_419 : (Jvm.Cond.arrayOf (Jvm.Term.field (Jvm.Term.string "GrownKindsModel" (145 : Nat)) "java/lang/String" "value" "[B") Jvm.ClassFile.FieldType.byte) ∈ flatC (Jvm.Cond.and given_1 narrow_1) := List.mem_of_getElem? (i := 419) rfl
set_option maxRecDepth 8000 in
theorem nf_420 : (Jvm.Cond.eq (Jvm.Term.length (Jvm.Term.field (Jvm.Term.string "GrownKindsModel" (145 : Nat)) "java/lang/String" "value" "[B")) (Jvm.Term.int (4 : Int32))) ∈ flatC (Jvm.Cond.and given_1 narrow_1) := List.mem_of_getElem? (i := 420) rfl
set_option maxRecDepth 8000 in
theorem nf_421 : (Jvm.Cond.eq (Jvm.Term.elem (Jvm.Term.field (Jvm.Term.string "GrownKindsModel" (145 : Nat)) "java/lang/String" "value" "[B") (Jvm.Term.int (0 : Int32))) (Jvm.Term.int (114 : Int32))) ∈ flatC (Jvm.Cond.and given_1 narrow_1) := List.mem_of_getElem? (i := 421) rfl
set_option maxRecDepth 8000 in
theorem nf_422 : (Jvm.Cond.eq (Jvm.Term.elem (Jvm.Term.field (Jvm.Term.string "GrownKindsModel" (145 : Nat)) "java/lang/String" "value" "[B") (Jvm.Term.int (1 : Int32))) (Jvm.Term.int (105 : Int32))) ∈ flatC (Jvm.Cond.and given_1 narrow_1) := List.mem_of_getElem? (i := 422) rfl
set_option maxRecDepth 8000 in
theorem nf_423 : (Jvm.Cond.eq (Jvm.Term.elem (Jvm.Term.field (Jvm.Term.string "GrownKindsModel" (145 : Nat)) "java/lang/String" "value" "[B") (Jvm.Term.int (2 : Int32))) (Jvm.Term.int (110 : Int32))) ∈ flatC (Jvm.Cond.and given_1 narrow_1) := List.mem_of_getElem? (i := 423) rfl
set_option maxRecDepth 8000 in
theorem nf_424 : (Jvm.Cond.eq (Jvm.Term.elem (Jvm.Term.field (Jvm.Term.string "GrownKindsModel" (145 : Nat)) "java/lang/String" "value" "[B") (Jvm.Term.int (3 : Int32))) (Jvm.Term.int (103 : Int32))) ∈ flatC (Jvm.Cond.and given_1 narrow_1) := List.mem_of_getElem? (i := 424) rfl
theorem sw_19 : ∀ w ∈ strW ("GrownKindsModel", 145, "ring", [114, 105, 110, 103]), w ∈ flatC (Jvm.Cond.and given_1 narrow_1) := List.forall_mem_cons.mpr ⟨nf_417, List.forall_mem_cons.mpr ⟨nf_418, List.forall_mem_cons.mpr ⟨nf_419, List.forall_mem_cons.mpr ⟨nf_420, List.forall_mem_cons.mpr ⟨nf_421, List.forall_mem_cons.mpr ⟨nf_422, List.forall_mem_cons.mpr ⟨nf_423, List.forall_mem_cons.mpr ⟨nf_424, fun _ h => by cases h⟩⟩⟩⟩⟩⟩⟩⟩
set_option maxRecDepth 8000 in
theorem nf_444 : (Jvm.Cond.exactly (Jvm.Term.string "GrownKindsModel" (443 : Nat)) "java/lang/String") ∈ flatC (Jvm.Cond.and given_1 narrow_1) := List.mem_of_getElem? (i := 444) rfl
set_option maxRecDepth 8000 in
theorem nf_445 : (Jvm.Cond.eq (Jvm.Term.field (Jvm.Term.string "GrownKindsModel" (443 : Nat)) "java/lang/String" "coder" "B") (Jvm.Term.int (0 : Int32))) ∈ flatC (Jvm.Cond.and given_1 narrow_1) := List.mem_of_getElem? (i := 445) rfl
set_option maxRecDepth 8000 in
theorem nf_446 : (Jvm.Cond.arrayOf (Jvm.Term.field (Jvm.Term.string "GrownKindsModel" (443 : Nat)) "java/lang/String" "value" "[B") Jvm.ClassFile.FieldType.byte) ∈ flatC (Jvm.Cond.and given_1 narrow_1) := List.mem_of_getElem? (i := 446) rfl
set_option maxRecDepth 8000 in
theorem nf_447 : (Jvm.Cond.eq (Jvm.Term.length (Jvm.Term.field (Jvm.Term.string "GrownKindsModel" (443 : Nat)) "java/lang/String" "value" "[B")) (Jvm.Term.int (4 : Int32))) ∈ flatC (Jvm.Cond.and given_1 narrow_1) := List.mem_of_getElem? (i := 447) rfl
set_option maxRecDepth 8000 in
theorem nf_448 : (Jvm.Cond.eq (Jvm.Term.elem (Jvm.Term.field (Jvm.Term.string "GrownKindsModel" (443 : Nat)) "java/lang/String" "value" "[B") (Jvm.Term.int (0 : Int32))) (Jvm.Term.int (91 : Int32))) ∈ flatC (Jvm.Cond.and given_1 narrow_1) := List.mem_of_getElem? (i := 448) rfl
set_option maxRecDepth 8000 in
theorem nf_449 : (Jvm.Cond.eq (Jvm.Term.elem (Jvm.Term.field (Jvm.Term.string "GrownKindsModel" (443 : Nat)) "java/lang/String" "value" "[B") (Jvm.Term.int (1 : Int32))) (Jvm.Term.int (123 : Int32))) ∈ flatC (Jvm.Cond.and given_1 narrow_1) := List.mem_of_getElem? (i := 449) rfl
set_option maxRecDepth 8000 in
theorem nf_450 : (Jvm.Cond.eq (Jvm.Term.elem (Jvm.Term.field (Jvm.Term.string "GrownKindsModel" (443 : Nat)) "java/lang/String" "value" "[B") (Jvm.Term.int (2 : Int32))) (Jvm.Term.int (60 : Int32))) ∈ flatC (Jvm.Cond.and given_1 narrow_1) := List.mem_of_getElem? (i := 450) rfl
set_option maxRecDepth 8000 in
theorem nf_451 : (Jvm.Cond.eq (Jvm.Term.elem (Jvm.Term.field (Jvm.Term.string "GrownKindsModel" (443 : Nat)) "java/lang/String" "value" "[B") (Jvm.Term.int (3 : Int32))) (Jvm.Term.int (40 : Int32))) ∈ flatC (Jvm.Cond.and given_1 narrow_1) := List.mem_of_getElem? (i := 451) rfl
theorem sw_20 : ∀ w ∈ strW ("GrownKindsModel", 443, "[{<(", [91, 123, 60, 40]), w ∈ flatC (Jvm.Cond.and given_1 narrow_1) := List.forall_mem_cons.mpr ⟨nf_444, List.forall_mem_cons.mpr ⟨nf_445, List.forall_mem_cons.mpr ⟨nf_446, List.forall_mem_cons.mpr ⟨nf_447, List.forall_mem_cons.mpr ⟨nf_448, List.forall_mem_cons.mpr ⟨nf_449, List.forall_mem_cons.mpr ⟨nf_450, List.forall_mem_cons.mpr ⟨nf_451, fun _ h => by cases h⟩⟩⟩⟩⟩⟩⟩⟩
set_option maxRecDepth 8000 in
theorem nf_472 : (Jvm.Cond.exactly (Jvm.Term.string "GrownKindsModel" (445 : Nat)) "java/lang/String") ∈ flatC (Jvm.Cond.and given_1 narrow_1) := List.mem_of_getElem? (i := 472) rfl
set_option maxRecDepth 8000 in
theorem nf_473 : (Jvm.Cond.eq (Jvm.Term.field (Jvm.Term.string "GrownKindsModel" (445 : Nat)) "java/lang/String" "coder" "B") (Jvm.Term.int (0 : Int32))) ∈ flatC (Jvm.Cond.and given_1 narrow_1) := List.mem_of_getElem? (i := 473) rfl
set_option maxRecDepth 8000 in
theorem nf_474 : (Jvm.Cond.arrayOf (Jvm.Term.field (Jvm.Term.string "GrownKindsModel" (445 : Nat)) "java/lang/String" "value" "[B") Jvm.ClassFile.FieldType.byte) ∈ flatC (Jvm.Cond.and given_1 narrow_1) := List.mem_of_getElem? (i := 474) rfl
set_option maxRecDepth 8000 in
theorem nf_475 : (Jvm.Cond.eq (Jvm.Term.length (Jvm.Term.field (Jvm.Term.string "GrownKindsModel" (445 : Nat)) "java/lang/String" "value" "[B")) (Jvm.Term.int (4 : Int32))) ∈ flatC (Jvm.Cond.and given_1 narrow_1) := List.mem_of_getElem? (i := 475) rfl
set_option maxRecDepth 8000 in
theorem nf_476 : (Jvm.Cond.eq (Jvm.Term.elem (Jvm.Term.field (Jvm.Term.string "GrownKindsModel" (445 : Nat)) "java/lang/String" "value" "[B") (Jvm.Term.int (0 : Int32))) (Jvm.Term.int (93 : Int32))) ∈ flatC (Jvm.Cond.and given_1 narrow_1) := List.mem_of_getElem? (i := 476) rfl
set_option maxRecDepth 8000 in
theorem nf_477 : (Jvm.Cond.eq (Jvm.Term.elem (Jvm.Term.field (Jvm.Term.string "GrownKindsModel" (445 : Nat)) "java/lang/String" "value" "[B") (Jvm.Term.int (1 : Int32))) (Jvm.Term.int (125 : Int32))) ∈ flatC (Jvm.Cond.and given_1 narrow_1) := List.mem_of_getElem? (i := 477) rfl
set_option maxRecDepth 8000 in
theorem nf_478 : (Jvm.Cond.eq (Jvm.Term.elem (Jvm.Term.field (Jvm.Term.string "GrownKindsModel" (445 : Nat)) "java/lang/String" "value" "[B") (Jvm.Term.int (2 : Int32))) (Jvm.Term.int (62 : Int32))) ∈ flatC (Jvm.Cond.and given_1 narrow_1) := List.mem_of_getElem? (i := 478) rfl
set_option maxRecDepth 8000 in
theorem nf_479 : (Jvm.Cond.eq (Jvm.Term.elem (Jvm.Term.field (Jvm.Term.string "GrownKindsModel" (445 : Nat)) "java/lang/String" "value" "[B") (Jvm.Term.int (3 : Int32))) (Jvm.Term.int (41 : Int32))) ∈ flatC (Jvm.Cond.and given_1 narrow_1) := List.mem_of_getElem? (i := 479) rfl
theorem sw_21 : ∀ w ∈ strW ("GrownKindsModel", 445, "]}>)", [93, 125, 62, 41]), w ∈ flatC (Jvm.Cond.and given_1 narrow_1) := List.forall_mem_cons.mpr ⟨nf_472, List.forall_mem_cons.mpr ⟨nf_473, List.forall_mem_cons.mpr ⟨nf_474, List.forall_mem_cons.mpr ⟨nf_475, List.forall_mem_cons.mpr ⟨nf_476, List.forall_mem_cons.mpr ⟨nf_477, List.forall_mem_cons.mpr ⟨nf_478, List.forall_mem_cons.mpr ⟨nf_479, fun _ h => by cases h⟩⟩⟩⟩⟩⟩⟩⟩
theorem nf_10 : (Jvm.Cond.arrayOf (Jvm.Term.static "GrownKinds" "CHOOSE" "[I") Jvm.ClassFile.FieldType.int) ∈ flatC (Jvm.Cond.and given_1 narrow_1) := List.mem_of_getElem? (i := 10) rfl
theorem nf_11 : (Jvm.Cond.eq (Jvm.Term.length (Jvm.Term.static "GrownKinds" "CHOOSE" "[I")) (Jvm.Term.int (64 : Int32))) ∈ flatC (Jvm.Cond.and given_1 narrow_1) := List.mem_of_getElem? (i := 11) rfl
theorem nf_12 : (Jvm.Cond.eq (Jvm.Term.elem (Jvm.Term.static "GrownKinds" "CHOOSE" "[I") (Jvm.Term.int (0 : Int32))) (Jvm.Term.int (1 : Int32))) ∈ flatC (Jvm.Cond.and given_1 narrow_1) := List.mem_of_getElem? (i := 12) rfl
theorem nf_13 : (Jvm.Cond.eq (Jvm.Term.elem (Jvm.Term.static "GrownKinds" "CHOOSE" "[I") (Jvm.Term.int (1 : Int32))) (Jvm.Term.int (0 : Int32))) ∈ flatC (Jvm.Cond.and given_1 narrow_1) := List.mem_of_getElem? (i := 13) rfl
theorem nf_14 : (Jvm.Cond.eq (Jvm.Term.elem (Jvm.Term.static "GrownKinds" "CHOOSE" "[I") (Jvm.Term.int (2 : Int32))) (Jvm.Term.int (0 : Int32))) ∈ flatC (Jvm.Cond.and given_1 narrow_1) := List.mem_of_getElem? (i := 14) rfl
theorem nf_15 : (Jvm.Cond.eq (Jvm.Term.elem (Jvm.Term.static "GrownKinds" "CHOOSE" "[I") (Jvm.Term.int (3 : Int32))) (Jvm.Term.int (0 : Int32))) ∈ flatC (Jvm.Cond.and given_1 narrow_1) := List.mem_of_getElem? (i := 15) rfl
theorem nf_16 : (Jvm.Cond.eq (Jvm.Term.elem (Jvm.Term.static "GrownKinds" "CHOOSE" "[I") (Jvm.Term.int (4 : Int32))) (Jvm.Term.int (0 : Int32))) ∈ flatC (Jvm.Cond.and given_1 narrow_1) := List.mem_of_getElem? (i := 16) rfl
theorem nf_17 : (Jvm.Cond.eq (Jvm.Term.elem (Jvm.Term.static "GrownKinds" "CHOOSE" "[I") (Jvm.Term.int (5 : Int32))) (Jvm.Term.int (0 : Int32))) ∈ flatC (Jvm.Cond.and given_1 narrow_1) := List.mem_of_getElem? (i := 17) rfl
theorem nf_18 : (Jvm.Cond.eq (Jvm.Term.elem (Jvm.Term.static "GrownKinds" "CHOOSE" "[I") (Jvm.Term.int (6 : Int32))) (Jvm.Term.int (0 : Int32))) ∈ flatC (Jvm.Cond.and given_1 narrow_1) := List.mem_of_getElem? (i := 18) rfl
theorem nf_19 : (Jvm.Cond.eq (Jvm.Term.elem (Jvm.Term.static "GrownKinds" "CHOOSE" "[I") (Jvm.Term.int (7 : Int32))) (Jvm.Term.int (0 : Int32))) ∈ flatC (Jvm.Cond.and given_1 narrow_1) := List.mem_of_getElem? (i := 19) rfl
theorem nf_20 : (Jvm.Cond.eq (Jvm.Term.elem (Jvm.Term.static "GrownKinds" "CHOOSE" "[I") (Jvm.Term.int (8 : Int32))) (Jvm.Term.int (1 : Int32))) ∈ flatC (Jvm.Cond.and given_1 narrow_1) := List.mem_of_getElem? (i := 20) rfl
theorem nf_21 : (Jvm.Cond.eq (Jvm.Term.elem (Jvm.Term.static "GrownKinds" "CHOOSE" "[I") (Jvm.Term.int (9 : Int32))) (Jvm.Term.int (1 : Int32))) ∈ flatC (Jvm.Cond.and given_1 narrow_1) := List.mem_of_getElem? (i := 21) rfl
theorem nf_22 : (Jvm.Cond.eq (Jvm.Term.elem (Jvm.Term.static "GrownKinds" "CHOOSE" "[I") (Jvm.Term.int (10 : Int32))) (Jvm.Term.int (0 : Int32))) ∈ flatC (Jvm.Cond.and given_1 narrow_1) := List.mem_of_getElem? (i := 22) rfl
theorem nf_23 : (Jvm.Cond.eq (Jvm.Term.elem (Jvm.Term.static "GrownKinds" "CHOOSE" "[I") (Jvm.Term.int (11 : Int32))) (Jvm.Term.int (0 : Int32))) ∈ flatC (Jvm.Cond.and given_1 narrow_1) := List.mem_of_getElem? (i := 23) rfl
theorem nf_24 : (Jvm.Cond.eq (Jvm.Term.elem (Jvm.Term.static "GrownKinds" "CHOOSE" "[I") (Jvm.Term.int (12 : Int32))) (Jvm.Term.int (0 : Int32))) ∈ flatC (Jvm.Cond.and given_1 narrow_1) := List.mem_of_getElem? (i := 24) rfl
theorem nf_25 : (Jvm.Cond.eq (Jvm.Term.elem (Jvm.Term.static "GrownKinds" "CHOOSE" "[I") (Jvm.Term.int (13 : Int32))) (Jvm.Term.int (0 : Int32))) ∈ flatC (Jvm.Cond.and given_1 narrow_1) := List.mem_of_getElem? (i := 25) rfl
theorem nf_26 : (Jvm.Cond.eq (Jvm.Term.elem (Jvm.Term.static "GrownKinds" "CHOOSE" "[I") (Jvm.Term.int (14 : Int32))) (Jvm.Term.int (0 : Int32))) ∈ flatC (Jvm.Cond.and given_1 narrow_1) := List.mem_of_getElem? (i := 26) rfl
theorem nf_27 : (Jvm.Cond.eq (Jvm.Term.elem (Jvm.Term.static "GrownKinds" "CHOOSE" "[I") (Jvm.Term.int (15 : Int32))) (Jvm.Term.int (0 : Int32))) ∈ flatC (Jvm.Cond.and given_1 narrow_1) := List.mem_of_getElem? (i := 27) rfl
theorem nf_28 : (Jvm.Cond.eq (Jvm.Term.elem (Jvm.Term.static "GrownKinds" "CHOOSE" "[I") (Jvm.Term.int (16 : Int32))) (Jvm.Term.int (1 : Int32))) ∈ flatC (Jvm.Cond.and given_1 narrow_1) := List.mem_of_getElem? (i := 28) rfl
theorem nf_29 : (Jvm.Cond.eq (Jvm.Term.elem (Jvm.Term.static "GrownKinds" "CHOOSE" "[I") (Jvm.Term.int (17 : Int32))) (Jvm.Term.int (2 : Int32))) ∈ flatC (Jvm.Cond.and given_1 narrow_1) := List.mem_of_getElem? (i := 29) rfl
theorem nf_30 : (Jvm.Cond.eq (Jvm.Term.elem (Jvm.Term.static "GrownKinds" "CHOOSE" "[I") (Jvm.Term.int (18 : Int32))) (Jvm.Term.int (1 : Int32))) ∈ flatC (Jvm.Cond.and given_1 narrow_1) := List.mem_of_getElem? (i := 30) rfl
theorem nf_31 : (Jvm.Cond.eq (Jvm.Term.elem (Jvm.Term.static "GrownKinds" "CHOOSE" "[I") (Jvm.Term.int (19 : Int32))) (Jvm.Term.int (0 : Int32))) ∈ flatC (Jvm.Cond.and given_1 narrow_1) := List.mem_of_getElem? (i := 31) rfl
theorem nf_32 : (Jvm.Cond.eq (Jvm.Term.elem (Jvm.Term.static "GrownKinds" "CHOOSE" "[I") (Jvm.Term.int (20 : Int32))) (Jvm.Term.int (0 : Int32))) ∈ flatC (Jvm.Cond.and given_1 narrow_1) := List.mem_of_getElem? (i := 32) rfl
theorem nf_33 : (Jvm.Cond.eq (Jvm.Term.elem (Jvm.Term.static "GrownKinds" "CHOOSE" "[I") (Jvm.Term.int (21 : Int32))) (Jvm.Term.int (0 : Int32))) ∈ flatC (Jvm.Cond.and given_1 narrow_1) := List.mem_of_getElem? (i := 33) rfl
theorem nf_34 : (Jvm.Cond.eq (Jvm.Term.elem (Jvm.Term.static "GrownKinds" "CHOOSE" "[I") (Jvm.Term.int (22 : Int32))) (Jvm.Term.int (0 : Int32))) ∈ flatC (Jvm.Cond.and given_1 narrow_1) := List.mem_of_getElem? (i := 34) rfl
theorem nf_35 : (Jvm.Cond.eq (Jvm.Term.elem (Jvm.Term.static "GrownKinds" "CHOOSE" "[I") (Jvm.Term.int (23 : Int32))) (Jvm.Term.int (0 : Int32))) ∈ flatC (Jvm.Cond.and given_1 narrow_1) := List.mem_of_getElem? (i := 35) rfl
theorem nf_36 : (Jvm.Cond.eq (Jvm.Term.elem (Jvm.Term.static "GrownKinds" "CHOOSE" "[I") (Jvm.Term.int (24 : Int32))) (Jvm.Term.int (1 : Int32))) ∈ flatC (Jvm.Cond.and given_1 narrow_1) := List.mem_of_getElem? (i := 36) rfl
theorem nf_37 : (Jvm.Cond.eq (Jvm.Term.elem (Jvm.Term.static "GrownKinds" "CHOOSE" "[I") (Jvm.Term.int (25 : Int32))) (Jvm.Term.int (3 : Int32))) ∈ flatC (Jvm.Cond.and given_1 narrow_1) := List.mem_of_getElem? (i := 37) rfl
theorem nf_38 : (Jvm.Cond.eq (Jvm.Term.elem (Jvm.Term.static "GrownKinds" "CHOOSE" "[I") (Jvm.Term.int (26 : Int32))) (Jvm.Term.int (3 : Int32))) ∈ flatC (Jvm.Cond.and given_1 narrow_1) := List.mem_of_getElem? (i := 38) rfl
theorem nf_39 : (Jvm.Cond.eq (Jvm.Term.elem (Jvm.Term.static "GrownKinds" "CHOOSE" "[I") (Jvm.Term.int (27 : Int32))) (Jvm.Term.int (1 : Int32))) ∈ flatC (Jvm.Cond.and given_1 narrow_1) := List.mem_of_getElem? (i := 39) rfl
theorem nf_40 : (Jvm.Cond.eq (Jvm.Term.elem (Jvm.Term.static "GrownKinds" "CHOOSE" "[I") (Jvm.Term.int (28 : Int32))) (Jvm.Term.int (0 : Int32))) ∈ flatC (Jvm.Cond.and given_1 narrow_1) := List.mem_of_getElem? (i := 40) rfl
theorem nf_41 : (Jvm.Cond.eq (Jvm.Term.elem (Jvm.Term.static "GrownKinds" "CHOOSE" "[I") (Jvm.Term.int (29 : Int32))) (Jvm.Term.int (0 : Int32))) ∈ flatC (Jvm.Cond.and given_1 narrow_1) := List.mem_of_getElem? (i := 41) rfl
theorem nf_42 : (Jvm.Cond.eq (Jvm.Term.elem (Jvm.Term.static "GrownKinds" "CHOOSE" "[I") (Jvm.Term.int (30 : Int32))) (Jvm.Term.int (0 : Int32))) ∈ flatC (Jvm.Cond.and given_1 narrow_1) := List.mem_of_getElem? (i := 42) rfl
theorem nf_43 : (Jvm.Cond.eq (Jvm.Term.elem (Jvm.Term.static "GrownKinds" "CHOOSE" "[I") (Jvm.Term.int (31 : Int32))) (Jvm.Term.int (0 : Int32))) ∈ flatC (Jvm.Cond.and given_1 narrow_1) := List.mem_of_getElem? (i := 43) rfl
theorem nf_44 : (Jvm.Cond.eq (Jvm.Term.elem (Jvm.Term.static "GrownKinds" "CHOOSE" "[I") (Jvm.Term.int (32 : Int32))) (Jvm.Term.int (1 : Int32))) ∈ flatC (Jvm.Cond.and given_1 narrow_1) := List.mem_of_getElem? (i := 44) rfl
theorem nf_45 : (Jvm.Cond.eq (Jvm.Term.elem (Jvm.Term.static "GrownKinds" "CHOOSE" "[I") (Jvm.Term.int (33 : Int32))) (Jvm.Term.int (4 : Int32))) ∈ flatC (Jvm.Cond.and given_1 narrow_1) := List.mem_of_getElem? (i := 45) rfl
theorem nf_46 : (Jvm.Cond.eq (Jvm.Term.elem (Jvm.Term.static "GrownKinds" "CHOOSE" "[I") (Jvm.Term.int (34 : Int32))) (Jvm.Term.int (6 : Int32))) ∈ flatC (Jvm.Cond.and given_1 narrow_1) := List.mem_of_getElem? (i := 46) rfl
theorem nf_47 : (Jvm.Cond.eq (Jvm.Term.elem (Jvm.Term.static "GrownKinds" "CHOOSE" "[I") (Jvm.Term.int (35 : Int32))) (Jvm.Term.int (4 : Int32))) ∈ flatC (Jvm.Cond.and given_1 narrow_1) := List.mem_of_getElem? (i := 47) rfl
theorem nf_48 : (Jvm.Cond.eq (Jvm.Term.elem (Jvm.Term.static "GrownKinds" "CHOOSE" "[I") (Jvm.Term.int (36 : Int32))) (Jvm.Term.int (1 : Int32))) ∈ flatC (Jvm.Cond.and given_1 narrow_1) := List.mem_of_getElem? (i := 48) rfl
theorem nf_49 : (Jvm.Cond.eq (Jvm.Term.elem (Jvm.Term.static "GrownKinds" "CHOOSE" "[I") (Jvm.Term.int (37 : Int32))) (Jvm.Term.int (0 : Int32))) ∈ flatC (Jvm.Cond.and given_1 narrow_1) := List.mem_of_getElem? (i := 49) rfl
theorem nf_50 : (Jvm.Cond.eq (Jvm.Term.elem (Jvm.Term.static "GrownKinds" "CHOOSE" "[I") (Jvm.Term.int (38 : Int32))) (Jvm.Term.int (0 : Int32))) ∈ flatC (Jvm.Cond.and given_1 narrow_1) := List.mem_of_getElem? (i := 50) rfl
theorem nf_51 : (Jvm.Cond.eq (Jvm.Term.elem (Jvm.Term.static "GrownKinds" "CHOOSE" "[I") (Jvm.Term.int (39 : Int32))) (Jvm.Term.int (0 : Int32))) ∈ flatC (Jvm.Cond.and given_1 narrow_1) := List.mem_of_getElem? (i := 51) rfl
theorem nf_52 : (Jvm.Cond.eq (Jvm.Term.elem (Jvm.Term.static "GrownKinds" "CHOOSE" "[I") (Jvm.Term.int (40 : Int32))) (Jvm.Term.int (1 : Int32))) ∈ flatC (Jvm.Cond.and given_1 narrow_1) := List.mem_of_getElem? (i := 52) rfl
theorem nf_53 : (Jvm.Cond.eq (Jvm.Term.elem (Jvm.Term.static "GrownKinds" "CHOOSE" "[I") (Jvm.Term.int (41 : Int32))) (Jvm.Term.int (5 : Int32))) ∈ flatC (Jvm.Cond.and given_1 narrow_1) := List.mem_of_getElem? (i := 53) rfl
theorem nf_54 : (Jvm.Cond.eq (Jvm.Term.elem (Jvm.Term.static "GrownKinds" "CHOOSE" "[I") (Jvm.Term.int (42 : Int32))) (Jvm.Term.int (10 : Int32))) ∈ flatC (Jvm.Cond.and given_1 narrow_1) := List.mem_of_getElem? (i := 54) rfl
theorem nf_55 : (Jvm.Cond.eq (Jvm.Term.elem (Jvm.Term.static "GrownKinds" "CHOOSE" "[I") (Jvm.Term.int (43 : Int32))) (Jvm.Term.int (10 : Int32))) ∈ flatC (Jvm.Cond.and given_1 narrow_1) := List.mem_of_getElem? (i := 55) rfl
theorem nf_56 : (Jvm.Cond.eq (Jvm.Term.elem (Jvm.Term.static "GrownKinds" "CHOOSE" "[I") (Jvm.Term.int (44 : Int32))) (Jvm.Term.int (5 : Int32))) ∈ flatC (Jvm.Cond.and given_1 narrow_1) := List.mem_of_getElem? (i := 56) rfl
theorem nf_57 : (Jvm.Cond.eq (Jvm.Term.elem (Jvm.Term.static "GrownKinds" "CHOOSE" "[I") (Jvm.Term.int (45 : Int32))) (Jvm.Term.int (1 : Int32))) ∈ flatC (Jvm.Cond.and given_1 narrow_1) := List.mem_of_getElem? (i := 57) rfl
theorem nf_58 : (Jvm.Cond.eq (Jvm.Term.elem (Jvm.Term.static "GrownKinds" "CHOOSE" "[I") (Jvm.Term.int (46 : Int32))) (Jvm.Term.int (0 : Int32))) ∈ flatC (Jvm.Cond.and given_1 narrow_1) := List.mem_of_getElem? (i := 58) rfl
theorem nf_59 : (Jvm.Cond.eq (Jvm.Term.elem (Jvm.Term.static "GrownKinds" "CHOOSE" "[I") (Jvm.Term.int (47 : Int32))) (Jvm.Term.int (0 : Int32))) ∈ flatC (Jvm.Cond.and given_1 narrow_1) := List.mem_of_getElem? (i := 59) rfl
theorem nf_60 : (Jvm.Cond.eq (Jvm.Term.elem (Jvm.Term.static "GrownKinds" "CHOOSE" "[I") (Jvm.Term.int (48 : Int32))) (Jvm.Term.int (1 : Int32))) ∈ flatC (Jvm.Cond.and given_1 narrow_1) := List.mem_of_getElem? (i := 60) rfl
theorem nf_61 : (Jvm.Cond.eq (Jvm.Term.elem (Jvm.Term.static "GrownKinds" "CHOOSE" "[I") (Jvm.Term.int (49 : Int32))) (Jvm.Term.int (6 : Int32))) ∈ flatC (Jvm.Cond.and given_1 narrow_1) := List.mem_of_getElem? (i := 61) rfl
theorem nf_62 : (Jvm.Cond.eq (Jvm.Term.elem (Jvm.Term.static "GrownKinds" "CHOOSE" "[I") (Jvm.Term.int (50 : Int32))) (Jvm.Term.int (15 : Int32))) ∈ flatC (Jvm.Cond.and given_1 narrow_1) := List.mem_of_getElem? (i := 62) rfl
theorem nf_63 : (Jvm.Cond.eq (Jvm.Term.elem (Jvm.Term.static "GrownKinds" "CHOOSE" "[I") (Jvm.Term.int (51 : Int32))) (Jvm.Term.int (20 : Int32))) ∈ flatC (Jvm.Cond.and given_1 narrow_1) := List.mem_of_getElem? (i := 63) rfl
theorem nf_64 : (Jvm.Cond.eq (Jvm.Term.elem (Jvm.Term.static "GrownKinds" "CHOOSE" "[I") (Jvm.Term.int (52 : Int32))) (Jvm.Term.int (15 : Int32))) ∈ flatC (Jvm.Cond.and given_1 narrow_1) := List.mem_of_getElem? (i := 64) rfl
theorem nf_65 : (Jvm.Cond.eq (Jvm.Term.elem (Jvm.Term.static "GrownKinds" "CHOOSE" "[I") (Jvm.Term.int (53 : Int32))) (Jvm.Term.int (6 : Int32))) ∈ flatC (Jvm.Cond.and given_1 narrow_1) := List.mem_of_getElem? (i := 65) rfl
theorem nf_66 : (Jvm.Cond.eq (Jvm.Term.elem (Jvm.Term.static "GrownKinds" "CHOOSE" "[I") (Jvm.Term.int (54 : Int32))) (Jvm.Term.int (1 : Int32))) ∈ flatC (Jvm.Cond.and given_1 narrow_1) := List.mem_of_getElem? (i := 66) rfl
theorem nf_67 : (Jvm.Cond.eq (Jvm.Term.elem (Jvm.Term.static "GrownKinds" "CHOOSE" "[I") (Jvm.Term.int (55 : Int32))) (Jvm.Term.int (0 : Int32))) ∈ flatC (Jvm.Cond.and given_1 narrow_1) := List.mem_of_getElem? (i := 67) rfl
theorem nf_68 : (Jvm.Cond.eq (Jvm.Term.elem (Jvm.Term.static "GrownKinds" "CHOOSE" "[I") (Jvm.Term.int (56 : Int32))) (Jvm.Term.int (1 : Int32))) ∈ flatC (Jvm.Cond.and given_1 narrow_1) := List.mem_of_getElem? (i := 68) rfl
theorem nf_69 : (Jvm.Cond.eq (Jvm.Term.elem (Jvm.Term.static "GrownKinds" "CHOOSE" "[I") (Jvm.Term.int (57 : Int32))) (Jvm.Term.int (7 : Int32))) ∈ flatC (Jvm.Cond.and given_1 narrow_1) := List.mem_of_getElem? (i := 69) rfl
theorem nf_70 : (Jvm.Cond.eq (Jvm.Term.elem (Jvm.Term.static "GrownKinds" "CHOOSE" "[I") (Jvm.Term.int (58 : Int32))) (Jvm.Term.int (21 : Int32))) ∈ flatC (Jvm.Cond.and given_1 narrow_1) := List.mem_of_getElem? (i := 70) rfl
theorem nf_71 : (Jvm.Cond.eq (Jvm.Term.elem (Jvm.Term.static "GrownKinds" "CHOOSE" "[I") (Jvm.Term.int (59 : Int32))) (Jvm.Term.int (35 : Int32))) ∈ flatC (Jvm.Cond.and given_1 narrow_1) := List.mem_of_getElem? (i := 71) rfl
theorem nf_72 : (Jvm.Cond.eq (Jvm.Term.elem (Jvm.Term.static "GrownKinds" "CHOOSE" "[I") (Jvm.Term.int (60 : Int32))) (Jvm.Term.int (35 : Int32))) ∈ flatC (Jvm.Cond.and given_1 narrow_1) := List.mem_of_getElem? (i := 72) rfl
theorem nf_73 : (Jvm.Cond.eq (Jvm.Term.elem (Jvm.Term.static "GrownKinds" "CHOOSE" "[I") (Jvm.Term.int (61 : Int32))) (Jvm.Term.int (21 : Int32))) ∈ flatC (Jvm.Cond.and given_1 narrow_1) := List.mem_of_getElem? (i := 73) rfl
theorem nf_74 : (Jvm.Cond.eq (Jvm.Term.elem (Jvm.Term.static "GrownKinds" "CHOOSE" "[I") (Jvm.Term.int (62 : Int32))) (Jvm.Term.int (7 : Int32))) ∈ flatC (Jvm.Cond.and given_1 narrow_1) := List.mem_of_getElem? (i := 74) rfl
theorem nf_75 : (Jvm.Cond.eq (Jvm.Term.elem (Jvm.Term.static "GrownKinds" "CHOOSE" "[I") (Jvm.Term.int (63 : Int32))) (Jvm.Term.int (1 : Int32))) ∈ flatC (Jvm.Cond.and given_1 narrow_1) := List.mem_of_getElem? (i := 75) rfl
set_option maxRecDepth 10000 in
theorem aw_0 : ∀ w ∈ arrW ("CHOOSE", [1, 0, 0, 0, 0, 0, 0, 0, 1, 1, 0, 0, 0, 0, 0, 0, 1, 2, 1, 0, 0, 0, 0, 0, 1, 3, 3, 1, 0, 0, 0, 0, 1, 4, 6, 4, 1, 0, 0, 0, 1, 5, 10, 10, 5, 1, 0, 0, 1, 6, 15, 20, 15, 6, 1, 0, 1, 7, 21, 35, 35, 21, 7, 1]), w ∈ flatC (Jvm.Cond.and given_1 narrow_1) := List.forall_mem_cons.mpr ⟨nf_10, List.forall_mem_cons.mpr ⟨nf_11, List.forall_mem_cons.mpr ⟨nf_12, List.forall_mem_cons.mpr ⟨nf_13, List.forall_mem_cons.mpr ⟨nf_14, List.forall_mem_cons.mpr ⟨nf_15, List.forall_mem_cons.mpr ⟨nf_16, List.forall_mem_cons.mpr ⟨nf_17, List.forall_mem_cons.mpr ⟨nf_18, List.forall_mem_cons.mpr ⟨nf_19, List.forall_mem_cons.mpr ⟨nf_20, List.forall_mem_cons.mpr ⟨nf_21, List.forall_mem_cons.mpr ⟨nf_22, List.forall_mem_cons.mpr ⟨nf_23, List.forall_mem_cons.mpr ⟨nf_24, List.forall_mem_cons.mpr ⟨nf_25, List.forall_mem_cons.mpr ⟨nf_26, List.forall_mem_cons.mpr ⟨nf_27, List.forall_mem_cons.mpr ⟨nf_28, List.forall_mem_cons.mpr ⟨nf_29, List.forall_mem_cons.mpr ⟨nf_30, List.forall_mem_cons.mpr ⟨nf_31, List.forall_mem_cons.mpr ⟨nf_32, List.forall_mem_cons.mpr ⟨nf_33, List.forall_mem_cons.mpr ⟨nf_34, List.forall_mem_cons.mpr ⟨nf_35, List.forall_mem_cons.mpr ⟨nf_36, List.forall_mem_cons.mpr ⟨nf_37, List.forall_mem_cons.mpr ⟨nf_38, List.forall_mem_cons.mpr ⟨nf_39, List.forall_mem_cons.mpr ⟨nf_40, List.forall_mem_cons.mpr ⟨nf_41, List.forall_mem_cons.mpr ⟨nf_42, List.forall_mem_cons.mpr ⟨nf_43, List.forall_mem_cons.mpr ⟨nf_44, List.forall_mem_cons.mpr ⟨nf_45, List.forall_mem_cons.mpr ⟨nf_46, List.forall_mem_cons.mpr ⟨nf_47, List.forall_mem_cons.mpr ⟨nf_48, List.forall_mem_cons.mpr ⟨nf_49, List.forall_mem_cons.mpr ⟨nf_50, List.forall_mem_cons.mpr ⟨nf_51, List.forall_mem_cons.mpr ⟨nf_52, List.forall_mem_cons.mpr ⟨nf_53, List.forall_mem_cons.mpr ⟨nf_54, List.forall_mem_cons.mpr ⟨nf_55, List.forall_mem_cons.mpr ⟨nf_56, List.forall_mem_cons.mpr ⟨nf_57, List.forall_mem_cons.mpr ⟨nf_58, List.forall_mem_cons.mpr ⟨nf_59, List.forall_mem_cons.mpr ⟨nf_60, List.forall_mem_cons.mpr ⟨nf_61, List.forall_mem_cons.mpr ⟨nf_62, List.forall_mem_cons.mpr ⟨nf_63, List.forall_mem_cons.mpr ⟨nf_64, List.forall_mem_cons.mpr ⟨nf_65, List.forall_mem_cons.mpr ⟨nf_66, List.forall_mem_cons.mpr ⟨nf_67, List.forall_mem_cons.mpr ⟨nf_68, List.forall_mem_cons.mpr ⟨nf_69, List.forall_mem_cons.mpr ⟨nf_70, List.forall_mem_cons.mpr ⟨nf_71, List.forall_mem_cons.mpr ⟨nf_72, List.forall_mem_cons.mpr ⟨nf_73, List.forall_mem_cons.mpr ⟨nf_74, List.forall_mem_cons.mpr ⟨nf_75, fun _ h => by cases h⟩⟩⟩⟩⟩⟩⟩⟩⟩⟩⟩⟩⟩⟩⟩⟩⟩⟩⟩⟩⟩⟩⟩⟩⟩⟩⟩⟩⟩⟩⟩⟩⟩⟩⟩⟩⟩⟩⟩⟩⟩⟩⟩⟩⟩⟩⟩⟩⟩⟩⟩⟩⟩⟩⟩⟩⟩⟩⟩⟩⟩⟩⟩⟩⟩⟩
theorem nf_77 : (Jvm.Cond.arrayOf (Jvm.Term.static "GrownKinds" "TOTIENT" "[I") Jvm.ClassFile.FieldType.int) ∈ flatC (Jvm.Cond.and given_1 narrow_1) := List.mem_of_getElem? (i := 77) rfl
theorem nf_78 : (Jvm.Cond.eq (Jvm.Term.length (Jvm.Term.static "GrownKinds" "TOTIENT" "[I")) (Jvm.Term.int (8 : Int32))) ∈ flatC (Jvm.Cond.and given_1 narrow_1) := List.mem_of_getElem? (i := 78) rfl
theorem nf_79 : (Jvm.Cond.eq (Jvm.Term.elem (Jvm.Term.static "GrownKinds" "TOTIENT" "[I") (Jvm.Term.int (0 : Int32))) (Jvm.Term.int (0 : Int32))) ∈ flatC (Jvm.Cond.and given_1 narrow_1) := List.mem_of_getElem? (i := 79) rfl
theorem nf_80 : (Jvm.Cond.eq (Jvm.Term.elem (Jvm.Term.static "GrownKinds" "TOTIENT" "[I") (Jvm.Term.int (1 : Int32))) (Jvm.Term.int (1 : Int32))) ∈ flatC (Jvm.Cond.and given_1 narrow_1) := List.mem_of_getElem? (i := 80) rfl
theorem nf_81 : (Jvm.Cond.eq (Jvm.Term.elem (Jvm.Term.static "GrownKinds" "TOTIENT" "[I") (Jvm.Term.int (2 : Int32))) (Jvm.Term.int (1 : Int32))) ∈ flatC (Jvm.Cond.and given_1 narrow_1) := List.mem_of_getElem? (i := 81) rfl
theorem nf_82 : (Jvm.Cond.eq (Jvm.Term.elem (Jvm.Term.static "GrownKinds" "TOTIENT" "[I") (Jvm.Term.int (3 : Int32))) (Jvm.Term.int (2 : Int32))) ∈ flatC (Jvm.Cond.and given_1 narrow_1) := List.mem_of_getElem? (i := 82) rfl
theorem nf_83 : (Jvm.Cond.eq (Jvm.Term.elem (Jvm.Term.static "GrownKinds" "TOTIENT" "[I") (Jvm.Term.int (4 : Int32))) (Jvm.Term.int (2 : Int32))) ∈ flatC (Jvm.Cond.and given_1 narrow_1) := List.mem_of_getElem? (i := 83) rfl
theorem nf_84 : (Jvm.Cond.eq (Jvm.Term.elem (Jvm.Term.static "GrownKinds" "TOTIENT" "[I") (Jvm.Term.int (5 : Int32))) (Jvm.Term.int (4 : Int32))) ∈ flatC (Jvm.Cond.and given_1 narrow_1) := List.mem_of_getElem? (i := 84) rfl
theorem nf_85 : (Jvm.Cond.eq (Jvm.Term.elem (Jvm.Term.static "GrownKinds" "TOTIENT" "[I") (Jvm.Term.int (6 : Int32))) (Jvm.Term.int (2 : Int32))) ∈ flatC (Jvm.Cond.and given_1 narrow_1) := List.mem_of_getElem? (i := 85) rfl
theorem nf_86 : (Jvm.Cond.eq (Jvm.Term.elem (Jvm.Term.static "GrownKinds" "TOTIENT" "[I") (Jvm.Term.int (7 : Int32))) (Jvm.Term.int (6 : Int32))) ∈ flatC (Jvm.Cond.and given_1 narrow_1) := List.mem_of_getElem? (i := 86) rfl
set_option maxRecDepth 10000 in
theorem aw_1 : ∀ w ∈ arrW ("TOTIENT", [0, 1, 1, 2, 2, 4, 2, 6]), w ∈ flatC (Jvm.Cond.and given_1 narrow_1) := List.forall_mem_cons.mpr ⟨nf_77, List.forall_mem_cons.mpr ⟨nf_78, List.forall_mem_cons.mpr ⟨nf_79, List.forall_mem_cons.mpr ⟨nf_80, List.forall_mem_cons.mpr ⟨nf_81, List.forall_mem_cons.mpr ⟨nf_82, List.forall_mem_cons.mpr ⟨nf_83, List.forall_mem_cons.mpr ⟨nf_84, List.forall_mem_cons.mpr ⟨nf_85, List.forall_mem_cons.mpr ⟨nf_86, fun _ h => by cases h⟩⟩⟩⟩⟩⟩⟩⟩⟩⟩
theorem nf_88 : (Jvm.Cond.arrayOf (Jvm.Term.static "GrownKinds" "FACTORIAL" "[I") Jvm.ClassFile.FieldType.int) ∈ flatC (Jvm.Cond.and given_1 narrow_1) := List.mem_of_getElem? (i := 88) rfl
theorem nf_89 : (Jvm.Cond.eq (Jvm.Term.length (Jvm.Term.static "GrownKinds" "FACTORIAL" "[I")) (Jvm.Term.int (8 : Int32))) ∈ flatC (Jvm.Cond.and given_1 narrow_1) := List.mem_of_getElem? (i := 89) rfl
theorem nf_90 : (Jvm.Cond.eq (Jvm.Term.elem (Jvm.Term.static "GrownKinds" "FACTORIAL" "[I") (Jvm.Term.int (0 : Int32))) (Jvm.Term.int (1 : Int32))) ∈ flatC (Jvm.Cond.and given_1 narrow_1) := List.mem_of_getElem? (i := 90) rfl
theorem nf_91 : (Jvm.Cond.eq (Jvm.Term.elem (Jvm.Term.static "GrownKinds" "FACTORIAL" "[I") (Jvm.Term.int (1 : Int32))) (Jvm.Term.int (1 : Int32))) ∈ flatC (Jvm.Cond.and given_1 narrow_1) := List.mem_of_getElem? (i := 91) rfl
theorem nf_92 : (Jvm.Cond.eq (Jvm.Term.elem (Jvm.Term.static "GrownKinds" "FACTORIAL" "[I") (Jvm.Term.int (2 : Int32))) (Jvm.Term.int (2 : Int32))) ∈ flatC (Jvm.Cond.and given_1 narrow_1) := List.mem_of_getElem? (i := 92) rfl
theorem nf_93 : (Jvm.Cond.eq (Jvm.Term.elem (Jvm.Term.static "GrownKinds" "FACTORIAL" "[I") (Jvm.Term.int (3 : Int32))) (Jvm.Term.int (6 : Int32))) ∈ flatC (Jvm.Cond.and given_1 narrow_1) := List.mem_of_getElem? (i := 93) rfl
theorem nf_94 : (Jvm.Cond.eq (Jvm.Term.elem (Jvm.Term.static "GrownKinds" "FACTORIAL" "[I") (Jvm.Term.int (4 : Int32))) (Jvm.Term.int (24 : Int32))) ∈ flatC (Jvm.Cond.and given_1 narrow_1) := List.mem_of_getElem? (i := 94) rfl
theorem nf_95 : (Jvm.Cond.eq (Jvm.Term.elem (Jvm.Term.static "GrownKinds" "FACTORIAL" "[I") (Jvm.Term.int (5 : Int32))) (Jvm.Term.int (120 : Int32))) ∈ flatC (Jvm.Cond.and given_1 narrow_1) := List.mem_of_getElem? (i := 95) rfl
theorem nf_96 : (Jvm.Cond.eq (Jvm.Term.elem (Jvm.Term.static "GrownKinds" "FACTORIAL" "[I") (Jvm.Term.int (6 : Int32))) (Jvm.Term.int (720 : Int32))) ∈ flatC (Jvm.Cond.and given_1 narrow_1) := List.mem_of_getElem? (i := 96) rfl
theorem nf_97 : (Jvm.Cond.eq (Jvm.Term.elem (Jvm.Term.static "GrownKinds" "FACTORIAL" "[I") (Jvm.Term.int (7 : Int32))) (Jvm.Term.int (5040 : Int32))) ∈ flatC (Jvm.Cond.and given_1 narrow_1) := List.mem_of_getElem? (i := 97) rfl
set_option maxRecDepth 10000 in
theorem aw_2 : ∀ w ∈ arrW ("FACTORIAL", [1, 1, 2, 6, 24, 120, 720, 5040]), w ∈ flatC (Jvm.Cond.and given_1 narrow_1) := List.forall_mem_cons.mpr ⟨nf_88, List.forall_mem_cons.mpr ⟨nf_89, List.forall_mem_cons.mpr ⟨nf_90, List.forall_mem_cons.mpr ⟨nf_91, List.forall_mem_cons.mpr ⟨nf_92, List.forall_mem_cons.mpr ⟨nf_93, List.forall_mem_cons.mpr ⟨nf_94, List.forall_mem_cons.mpr ⟨nf_95, List.forall_mem_cons.mpr ⟨nf_96, List.forall_mem_cons.mpr ⟨nf_97, fun _ h => by cases h⟩⟩⟩⟩⟩⟩⟩⟩⟩⟩
theorem strW_in : ∀ q ∈ gSC, ∀ w ∈ strW q, w ∈ flatC (Jvm.Cond.and given_1 narrow_1) := List.forall_mem_cons.mpr ⟨sw_0, List.forall_mem_cons.mpr ⟨sw_1, List.forall_mem_cons.mpr ⟨sw_2, List.forall_mem_cons.mpr ⟨sw_3, List.forall_mem_cons.mpr ⟨sw_4, List.forall_mem_cons.mpr ⟨sw_5, List.forall_mem_cons.mpr ⟨sw_6, List.forall_mem_cons.mpr ⟨sw_7, List.forall_mem_cons.mpr ⟨sw_8, List.forall_mem_cons.mpr ⟨sw_9, List.forall_mem_cons.mpr ⟨sw_10, List.forall_mem_cons.mpr ⟨sw_11, List.forall_mem_cons.mpr ⟨sw_12, List.forall_mem_cons.mpr ⟨sw_13, List.forall_mem_cons.mpr ⟨sw_14, List.forall_mem_cons.mpr ⟨sw_15, List.forall_mem_cons.mpr ⟨sw_16, List.forall_mem_cons.mpr ⟨sw_17, List.forall_mem_cons.mpr ⟨sw_18, List.forall_mem_cons.mpr ⟨sw_19, List.forall_mem_cons.mpr ⟨sw_20, List.forall_mem_cons.mpr ⟨sw_21, fun _ h => by cases h⟩⟩⟩⟩⟩⟩⟩⟩⟩⟩⟩⟩⟩⟩⟩⟩⟩⟩⟩⟩⟩⟩
theorem arrW_in : ∀ q ∈ gSA, ∀ w ∈ arrW q, w ∈ flatC (Jvm.Cond.and given_1 narrow_1) := List.forall_mem_cons.mpr ⟨aw_0, List.forall_mem_cons.mpr ⟨aw_1, List.forall_mem_cons.mpr ⟨aw_2, fun _ h => by cases h⟩⟩⟩
set_option maxRecDepth 100000 in
theorem strR_in : ∀ q ∈ gSC, Cond.stringRef q.1 q.2.1 q.2.2.1 ∈ lw_tbl := List.forall_mem_cons.mpr ⟨(List.mem_of_getElem? (i := 767) (by decide +kernel)), List.forall_mem_cons.mpr ⟨(List.mem_of_getElem? (i := 828) (by decide +kernel)), List.forall_mem_cons.mpr ⟨(List.mem_of_getElem? (i := 837) (by decide +kernel)), List.forall_mem_cons.mpr ⟨(List.mem_of_getElem? (i := 838) (by decide +kernel)), List.forall_mem_cons.mpr ⟨(List.mem_of_getElem? (i := 839) (by decide +kernel)), List.forall_mem_cons.mpr ⟨(List.mem_of_getElem? (i := 840) (by decide +kernel)), List.forall_mem_cons.mpr ⟨(List.mem_of_getElem? (i := 841) (by decide +kernel)), List.forall_mem_cons.mpr ⟨(List.mem_of_getElem? (i := 842) (by decide +kernel)), List.forall_mem_cons.mpr ⟨(List.mem_of_getElem? (i := 843) (by decide +kernel)), List.forall_mem_cons.mpr ⟨(List.mem_of_getElem? (i := 844) (by decide +kernel)), List.forall_mem_cons.mpr ⟨(List.mem_of_getElem? (i := 1870) (by decide +kernel)), List.forall_mem_cons.mpr ⟨(List.mem_of_getElem? (i := 1871) (by decide +kernel)), List.forall_mem_cons.mpr ⟨(List.mem_of_getElem? (i := 1872) (by decide +kernel)), List.forall_mem_cons.mpr ⟨(List.mem_of_getElem? (i := 1873) (by decide +kernel)), List.forall_mem_cons.mpr ⟨(List.mem_of_getElem? (i := 1874) (by decide +kernel)), List.forall_mem_cons.mpr ⟨(List.mem_of_getElem? (i := 1875) (by decide +kernel)), List.forall_mem_cons.mpr ⟨(List.mem_of_getElem? (i := 1876) (by decide +kernel)), List.forall_mem_cons.mpr ⟨(List.mem_of_getElem? (i := 1877) (by decide +kernel)), List.forall_mem_cons.mpr ⟨(List.mem_of_getElem? (i := 1878) (by decide +kernel)), List.forall_mem_cons.mpr ⟨(List.mem_of_getElem? (i := 1879) (by decide +kernel)), List.forall_mem_cons.mpr ⟨(List.mem_of_getElem? (i := 2259) (by decide +kernel)), List.forall_mem_cons.mpr ⟨(List.mem_of_getElem? (i := 2260) (by decide +kernel)), fun _ h => by cases h⟩⟩⟩⟩⟩⟩⟩⟩⟩⟩⟩⟩⟩⟩⟩⟩⟩⟩⟩⟩⟩⟩
theorem gSC_small : ∀ q ∈ gSC, q.2.2.2.length < 2 ^ 31 := by decide +kernel
theorem gSA_small : ∀ q ∈ gSA, q.2.length < 2 ^ 31 := by decide +kernel
theorem arrL_in : ∀ q ∈ gSA, Cond.laysStatic "GrownKinds" q.1 "[I" ∈ lw_tbl := List.forall_mem_cons.mpr ⟨(List.mem_of_getElem? (i := 1064) (by decide +kernel)), List.forall_mem_cons.mpr ⟨(List.mem_of_getElem? (i := 1074) (by decide +kernel)), List.forall_mem_cons.mpr ⟨(List.mem_of_getElem? (i := 1076) (by decide +kernel)), fun _ h => by cases h⟩⟩⟩
theorem gZ_start {args : Array Value} {s : State} (hts : ∀ w ∈ lw_tbl, w.before args s = true) (hgv : (Jvm.Cond.and given_1 narrow_1).before args s = true) : ∃ f : Nat → Nat, ∀ cy : Nat → ClassId, (∀ k, 10 ≤ k → cy k = f k) → gZ cy s.heap.size s := by
  have hfl := flat_of_before _ hgv
  have hA : ∀ a : Nat, a < s.heap.size → ¬ gA s.heap.size a := fun a ha h => absurd ha (Nat.not_lt.mpr h)
  have h1 : ∀ i : Nat, ∃ kv : Nat × Nat, ∀ q, gSC[i]? = some q → vk_R q.1 q.2.1 q.2.2.1 kv.1 s ∧ gStr s.heap.size kv.1 kv.2 q.2.2.2 s := by
    intro i
    cases hq : gSC[i]? with
    | none => exact ⟨(0, 0), fun q h => by cases h⟩
    | some q =>
      have hm : q ∈ gSC := List.mem_of_getElem? hq
      have hw := strW_in q hm
      obtain ⟨adK, adV, hS, hE⟩ := vk_Sof (args := args) (s := s) (N := 1) (tm := fun _ => .string q.1 q.2.1) (len := [q.2.2.2.length]) (byt := [q.2.2.2]) (A := gA s.heap.size)
        (fun i hi => by rw [show i = 0 by omega]; exact gSC_small q hm)
        (fun i hi => hfl _ (hw _ (by simp [strW]))) (fun i hi => hfl _ (hw _ (by simp [strW]))) (fun i hi => hfl _ (hw _ (by simp [strW])))
        (fun i hi => by rw [show i = 0 by omega]; exact hfl _ (hw _ (by simp [strW])))
        (fun i hi j hj => by
          rw [show i = 0 by omega] at hj ⊢
          exact hfl _ (hw _ (List.mem_append_right _ (List.mem_map.mpr ⟨j, List.mem_range.mpr hj, rfl⟩))))
        (fun i j hi hj hne => absurd (show i = j by omega) hne) hA
      refine ⟨(adK 0, adV 0), fun q' h => ?_⟩
      cases h
      exact ⟨vk_R.of (hts _ (strR_in q hm)) (hE 0 (by decide)), (hS.1 0 (by decide))⟩
  have h2 : ∀ i : Nat, ∃ t : Nat, ∀ q, gSA[i]? = some q → va_Z "GrownKinds" q.1 "[I" (.ref t) (gA s.heap.size) s s.heap ∧ va_T .int t q.2.length (fun j => .int (q.2.getD j 0)) (gA s.heap.size) s s.heap := by
    intro i
    cases hq : gSA[i]? with
    | none => exact ⟨0, fun q h => by cases h⟩
    | some q =>
      have hm : q ∈ gSA := List.mem_of_getElem? hq
      have hw := arrW_in q hm
      obtain ⟨t, ht, hT⟩ := va_Tof (args := args) (s := s) (tm := .static "GrownKinds" q.1 "[I") (ty := .int) (N := q.2.length) (f := fun j => .int (q.2.getD j 0)) (A := gA s.heap.size) (gSA_small q hm) (hfl _ (hw _ (by simp [arrW]))) (va_eqt (hfl _ (hw _ (by simp [arrW])))) (fun j hj => va_eqt (hfl _ (hw _ (List.mem_append_right _ (List.mem_map.mpr ⟨j, List.mem_range.mpr hj, rfl⟩))))) hA
      refine ⟨t, fun q' h => ?_⟩
      cases h
      exact ⟨va_Zof (hts _ (arrL_in q hm)) (hts _ (List.mem_of_getElem? (i := 177) (by decide +kernel))) ht hA, hT⟩
  obtain ⟨kv, hkv⟩ := Classical.skolem.mp h1
  obtain ⟨tt, htt⟩ := Classical.skolem.mp h2
  have hcs : va_Z "java/lang/String" "COMPACT_STRINGS" "Z" (.int 1) (gA s.heap.size) s s.heap := va_Zof (hts _ (List.mem_of_getElem? (i := 785) (by decide +kernel))) (hts _ (List.mem_of_getElem? (i := 191) (by decide +kernel))) (va_eqi (hfl _ (List.mem_of_getElem? (i := 4) rfl))) hA
  have hsf : ∃ v : Option Nat, va_Z "jdk/internal/util/Preconditions" "SIOOBE_FORMATTER" "Ljava/util/function/BiFunction;" (va_rf v) (gA s.heap.size) s s.heap := by
    rcases va_Zqof (A := gA s.heap.size) (hts _ (List.mem_of_getElem? (i := 801) (by decide +kernel))) (hts _ (List.mem_of_getElem? (i := 193) (by decide +kernel))) (hfl _ (List.mem_of_getElem? (i := 5) rfl)) hA with h | ⟨t, h⟩
    · exact ⟨none, h⟩
    · exact ⟨some t, h⟩
  refine ⟨fun k => if k < 40 then (kv (k - 10)).1 else if k < 70 then (kv (k - 40)).2 else tt (k - 70), fun cy hcy => ⟨fun i q hq => ?_, fun i q hq => ?_, hcs, hsf⟩⟩
  · have hi : i < 22 := by
      have := (List.getElem?_eq_some_iff.mp hq).1
      exact this
    have e1 : cy (10 + i) = (kv i).1 := by
      rw [hcy _ (by omega)]
      show (if 10 + i < 40 then _ else _) = _
      rw [if_pos (by omega), show 10 + i - 10 = i by omega]
    have e2 : cy (40 + i) = (kv i).2 := by
      rw [hcy _ (by omega)]
      show (if 40 + i < 40 then _ else _) = _
      rw [if_neg (by omega), if_pos (by omega), show 40 + i - 40 = i by omega]
    rw [e1, e2]
    exact hkv i q hq
  · have hi : i < 3 := by
      have := (List.getElem?_eq_some_iff.mp hq).1
      exact this
    have e1 : cy (70 + i) = tt i := by
      rw [hcy _ (by omega)]
      show (if 70 + i < 40 then _ else _) = _
      rw [if_neg (by omega), if_neg (by omega), show 70 + i - 70 = i by omega]
    rw [e1]
    exact htt i q hq
theorem gK_start {args : Array Value} {s : State} (hts : ∀ w ∈ lw_tbl, w.before args s = true) (hgv : (Jvm.Cond.and given_1 narrow_1).before args s = true) : ∃ (D : va_G) (cy : Nat → ClassId), gK D cy s.heap.size s := by
  have h1 : ∀ k : Nat, ∃ ci : ClassId × (Nat → Nat), ∀ q : vw_C, vwCl[k]? = some q → u_Kn s q.1 q.2.1 q.2.2 ci.1 ci.2 := by
    intro k
    match k with
    | 0 =>
      obtain ⟨c1, i1, h⟩ := u_known (C := RX0) (T := TX0) (N := 8) (n := 8) hts (fun w h => gT_tbl (cpX0.2.1 w h)) (hts _ (gT_tbl wm_398))
      exact ⟨(c1, i1), fun q hq => by cases hq; exact h⟩
    | 1 =>
      obtain ⟨c1, i1, h⟩ := u_known (C := RX1) (T := TX1) (N := 7) (n := 7) hts (fun w h => gT_tbl (cpX1.2.1 w h)) (hts _ (gT_tbl wm_637))
      exact ⟨(c1, i1), fun q hq => by cases hq; exact h⟩
    | 2 =>
      obtain ⟨c1, i1, h⟩ := u_known (C := RX2) (T := TX2) (N := 14) (n := 14) hts (fun w h => gT_tbl (cpX2.2.1 w h)) (hts _ (gT_tbl wm_207))
      exact ⟨(c1, i1), fun q hq => by cases hq; exact h⟩
    | 3 =>
      obtain ⟨c1, i1, h⟩ := u_known (C := RX3) (T := TX3) (N := 9) (n := 9) hts (fun w h => gT_tbl (cpX3.2.1 w h)) (hts _ (gT_tbl wm_314))
      exact ⟨(c1, i1), fun q hq => by cases hq; exact h⟩
    | 4 =>
      obtain ⟨c1, i1, h⟩ := u_known (C := RX4) (T := TX4) (N := 8) (n := 8) hts (fun w h => gT_tbl (cpX4.2.1 w h)) (hts _ (gT_tbl wm_430))
      exact ⟨(c1, i1), fun q hq => by cases hq; exact h⟩
    | 5 =>
      obtain ⟨c1, i1, h⟩ := u_known (C := RX5) (T := TX5) (N := 13) (n := 13) hts (fun w h => gT_tbl (cpX5.2.1 w h)) (hts _ (gT_tbl wm_308))
      exact ⟨(c1, i1), fun q hq => by cases hq; exact h⟩
    | 6 =>
      obtain ⟨c1, i1, h⟩ := u_known (C := RX6) (T := TX6) (N := 3) (n := 3) hts (fun w h => gT_tbl (cpX6.2.1 w h)) (hts _ (gT_tbl wm_1375))
      exact ⟨(c1, i1), fun q hq => by cases hq; exact h⟩
    | 7 =>
      obtain ⟨c1, i1, h⟩ := u_known (C := RX7) (T := TX7) (N := 9) (n := 9) hts (fun w h => gT_tbl (cpX7.2.1 w h)) (hts _ (gT_tbl wm_599))
      exact ⟨(c1, i1), fun q hq => by cases hq; exact h⟩
    | 8 =>
      obtain ⟨c1, i1, h⟩ := u_known (C := RX8) (T := TX8) (N := 6) (n := 6) hts (fun w h => gT_tbl (cpX8.2.1 w h)) (hts _ (gT_tbl wm_463))
      exact ⟨(c1, i1), fun q hq => by cases hq; exact h⟩
    | 9 =>
      obtain ⟨c1, i1, h⟩ := u_known (C := RX9) (T := TX9) (N := 15) (n := 15) hts (fun w h => gT_tbl (cpX9.2.1 w h)) (hts _ (gT_tbl wm_461))
      exact ⟨(c1, i1), fun q hq => by cases hq; exact h⟩
    | 10 =>
      obtain ⟨c1, i1, h⟩ := u_known (C := RX10) (T := TX10) (N := 13) (n := 13) hts (fun w h => gT_tbl (cpX10.2.1 w h)) (hts _ (gT_tbl wm_552))
      exact ⟨(c1, i1), fun q hq => by cases hq; exact h⟩
    | 11 =>
      obtain ⟨c1, i1, h⟩ := u_known (C := RX11) (T := TX11) (N := 19) (n := 19) hts (fun w h => gT_tbl (cpX11.2.1 w h)) (hts _ (gT_tbl wm_199))
      exact ⟨(c1, i1), fun q hq => by cases hq; exact h⟩
    | 12 =>
      obtain ⟨c1, i1, h⟩ := u_known (C := RX12) (T := TX12) (N := 52) (n := 52) hts (fun w h => gT_tbl (cpX12.2.1 w h)) (hts _ (gT_tbl wm_1664))
      exact ⟨(c1, i1), fun q hq => by cases hq; exact h⟩
    | k + 13 => exact ⟨((default : Nat), fun _ => 0), fun q hq => by simp at hq⟩
  obtain ⟨f, hf⟩ := Classical.skolem.mp h1
  have ha : ∀ ty : FieldType, (∀ C, ty ≠ .object C) → Cond.arrayClass ty ∈ lw_tbl → ∃ cA : ClassId, ArrOfT s cA ty ∧ va_RA s cA ty := by
    intro ty hno hw
    obtain ⟨cA, kA, comp, e1, e2, e3⟩ := Cond.arrayClass_spec (hts _ hw)
    refine ⟨cA, fun n z => ⟨fun k h => (by cases h), kA, e2, comp, e3⟩, ?_⟩
    cases ty <;> first | exact absurd rfl (hno _) | exact e1
  obtain ⟨cB, hB⟩ := ha .byte (fun _ h => by cases h) (gT_tbl wm_305)
  obtain ⟨cI, hI⟩ := ha .int (fun _ h => by cases h) (gT_tbl wm_306)
  obtain ⟨cJ, hJ⟩ := ha .long (fun _ h => by cases h) (gT_tbl wm_428)
  obtain ⟨cZ, hZ⟩ := ha .boolean (fun _ h => by cases h) (gT_tbl wm_1830)
  have hov : (Cond.arrayOver (.object "GrownKinds$RingList")).before args s = true := hts _ (List.mem_of_getElem? (i := 469) (by decide +kernel))
  obtain ⟨comp, cO, kO, hcomp, -, hkO, hkindO, hnameO⟩ := Cond.arrayOver_spec hov
  obtain ⟨g, hg⟩ := gZ_start hts hgv
  refine ⟨(fun k => (f k).1, fun k => (f k).2), fun k => if k = 0 then cB else if k = 1 then cI else if k = 2 then cJ else if k = 3 then cZ else if k < 10 then cO else g k, ⟨fun k q hq => hf k q hq, ?_⟩, ⟨va_AO.of hov, hg _ (fun k hk => ?_)⟩, fun q hq => va_Nw.of rfl (hts _ ((by decide +kernel : ∀ q ∈ gnM, Cond.methodLinkNest q.1 q.2.1 q.2.2.1 q.2.2.2 ∈ lw_tbl) q hq)), fun q hq => va_Nw.of rfl (hts _ ((by decide +kernel : ∀ q ∈ gnF, Cond.fieldLinkNest q.1 q.2.1 q.2.2.1 q.2.2.2.1 q.2.2.2.2.1 q.2.2.2.2.2 ∈ lw_tbl) q hq))⟩
  · intro k q hq
    match k with
    | 0 => cases hq; exact hB
    | 1 => cases hq; exact hI
    | 2 => cases hq; exact hJ
    | 3 => cases hq; exact hZ
    | 4 => cases hq; exact ⟨fun n z => ⟨fun k h => (by cases h), kO, hkO, comp, hkindO⟩, kO, comp, hkO, hkindO, hcomp, hnameO⟩
    | k + 5 => simp [gty] at hq
  · rw [if_neg (by omega), if_neg (by omega), if_neg (by omega), if_neg (by omega), if_neg (by omega)]
theorem lw_S {p : Program} {s : State} {m : MethodId} {meth : Method} {c : Code} {q0 L : Nat} {xs : Nat → Int32} (C0 : lw_At p s m meth c q0 L xs) : CallFix p m c code 4 s #[Value.ref q0] gT R_law := ⟨C0.1, C0.2.1, C0.2.2.2.1, C0.2.2.2.2.1, fun w h => C0.2.2.2.2.2.1 w (gT_tbl h)⟩
