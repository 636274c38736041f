theorem wm_1380 : (Jvm.Cond.instantiable "GrownKinds$RingList" (3 : Nat)) ∈ gT := gT_in (List.mem_of_getElem? (i := 1380) (by decide +kernel)) (by decide +kernel)
theorem wm_198 : (Jvm.Cond.instantiable "GrownKinds" (19 : Nat)) ∈ gT := gT_in (List.mem_of_getElem? (i := 198) (by decide +kernel)) (by decide +kernel)
theorem wm_1665 : (Jvm.Cond.instantiable "GrownKindsModel" (52 : Nat)) ∈ gT := gT_in (List.mem_of_getElem? (i := 1665) (by decide +kernel)) (by decide +kernel)
/-! THE CLAIM OUT OF ONE WALK OF THE LAW'S BODY. Your part is whole_start (and what it stands on); all else here is the same for every law, but numbers. -/
def R_law : String := "GrownKindsLaw"
def lw_P (b : Addr) (xs : List Int32) (args : Array Value) (s : State) : Prop := args = #[.ref b] ∧ s.IntsAt b xs ∧ xs.length ≤ 6 ∧ (Jvm.Cond.and given_1 narrow_1).before args s = true
def lw_Q (_ : Array Value) (s : State) (o : Outcome) (t : State) : Prop := o = .returned (some (.int 1)) ∧ Framed s o t [] 600000 7302250
def lw_Z (below : List Frame) (a : Array Value) (s : State) : State → Prop := fun t => ∃ o, t.status = .running ∧ Ended t below o ∧ lw_Q a s o t
/-- the law's own end, with 1 on the stack, nothing written that was there before, its room as the claim has it -/
theorem lw_ret {p : Program} {l : Launch} {e : Env} {s : State} {m : MethodId} {below : List Frame} {meth : Method} {c : Code} {b : Nat} (hx : p.tables.exec = Jvm.exec) (hb : c.code = code) (hr : meth.sig.returnType = ret) (hlocks : meth.locks = false) {pc : Nat} {H : Heap} {ls : Array Slot} (hdg : decode code pc = .ok (.ireturn, 1)) : W p l e room_1 s m #[Value.ref b] below meth c H [] 600000 7302250 (lw_Z below #[Value.ref b] s) (F0 m pc ls [.int 1]) := by
  intro T hT X
  obtain ⟨fs, hret, hrun, hended, hW, hframe⟩ := X.leave (v := some (.int 1)) (hlocks := hlocks) (fun h => by rw [hr] at h; cases h)
  have hmeth' : T.vm.method? m = some meth := X.method'
  refine ⟨T.setFrames fs, ?_, .returned (some (.int 1)), hrun, hended, rfl, ⟨_, rfl⟩, hW, hframe⟩
  jvm_step X.here [X.here.top, hx, hb, hdg, hmeth', hr, ret, narrow_b1]
  (try refine ⟨rfl, ?_⟩); (try refine ⟨rfl, ?_⟩)
  first | (intro acts; rw [hret _ acts rfl rfl rfl]) | rw [hret _ _ rfl rfl rfl]
  exact Steps.refl _
/-- what holds at the law's entry: the machine, the code, the tables' words (any of lw_tbl by 'hts w (by decide +kernel)'), the script of L ints xs at the cell b, what the Statement gives of the start (any of its parts by flat_of_before) -/
def lw_At (p : Program) (s : State) (m : MethodId) (meth : Method) (c : Code) (b L : Nat) (xs : Nat → Int32) : Prop :=
  p.tables.exec = Jvm.exec ∧ c.code = code ∧ meth.sig.returnType = ret ∧ c.maxLocals = 4 ∧ s.vm.findClass R_law = some m.cls ∧ (∀ w ∈ lw_tbl, w.before #[Value.ref b] s = true) ∧ va_X b L xs s s.heap ∧ b < s.heap.size ∧ meth.locks = false ∧ (Jvm.Cond.and given_1 narrow_1).before #[Value.ref b] s = true

theorem gK_start {args : Array Value} {s : State} (hts : ∀ w ∈ lw_tbl, w.before args s = true) : ∃ (D : va_G) (cy : Nat → ClassId), gK D cy s := by
  have h1 : ∀ k : Nat, ∃ ci : ClassId × (Nat → Nat), ∀ q : vw_C, vwCl[k]? = some q → u_Kn s q.1 q.2.1 q.2.2 ci.1 ci.2 := by
    intro k
    match k with
    | 0 =>
      obtain ⟨c1, i1, h⟩ := u_known (C := RX0) (T := TX0) (N := 8) (n := 8) hts (fun w h => gT_tbl (cpX0.2.1 w h)) (hts _ (gT_tbl wm_397))
      exact ⟨(c1, i1), fun q hq => by cases hq; exact h⟩
    | 1 =>
      obtain ⟨c1, i1, h⟩ := u_known (C := RX1) (T := TX1) (N := 7) (n := 7) hts (fun w h => gT_tbl (cpX1.2.1 w h)) (hts _ (gT_tbl wm_638))
      exact ⟨(c1, i1), fun q hq => by cases hq; exact h⟩
    | 2 =>
      obtain ⟨c1, i1, h⟩ := u_known (C := RX2) (T := TX2) (N := 14) (n := 14) hts (fun w h => gT_tbl (cpX2.2.1 w h)) (hts _ (gT_tbl wm_206))
      exact ⟨(c1, i1), fun q hq => by cases hq; exact h⟩
    | 3 =>
      obtain ⟨c1, i1, h⟩ := u_known (C := RX3) (T := TX3) (N := 9) (n := 9) hts (fun w h => gT_tbl (cpX3.2.1 w h)) (hts _ (gT_tbl wm_313))
      exact ⟨(c1, i1), fun q hq => by cases hq; exact h⟩
    | 4 =>
      obtain ⟨c1, i1, h⟩ := u_known (C := RX4) (T := TX4) (N := 8) (n := 8) hts (fun w h => gT_tbl (cpX4.2.1 w h)) (hts _ (gT_tbl wm_429))
      exact ⟨(c1, i1), fun q hq => by cases hq; exact h⟩
    | 5 =>
      obtain ⟨c1, i1, h⟩ := u_known (C := RX5) (T := TX5) (N := 13) (n := 13) hts (fun w h => gT_tbl (cpX5.2.1 w h)) (hts _ (gT_tbl wm_307))
      exact ⟨(c1, i1), fun q hq => by cases hq; exact h⟩
    | 6 =>
      obtain ⟨c1, i1, h⟩ := u_known (C := RX6) (T := TX6) (N := 3) (n := 3) hts (fun w h => gT_tbl (cpX6.2.1 w h)) (hts _ (gT_tbl wm_1380))
      exact ⟨(c1, i1), fun q hq => by cases hq; exact h⟩
    | 7 =>
      obtain ⟨c1, i1, h⟩ := u_known (C := RX7) (T := TX7) (N := 9) (n := 9) hts (fun w h => gT_tbl (cpX7.2.1 w h)) (hts _ (gT_tbl wm_599))
      exact ⟨(c1, i1), fun q hq => by cases hq; exact h⟩
    | 8 =>
      obtain ⟨c1, i1, h⟩ := u_known (C := RX8) (T := TX8) (N := 6) (n := 6) hts (fun w h => gT_tbl (cpX8.2.1 w h)) (hts _ (gT_tbl wm_463))
      exact ⟨(c1, i1), fun q hq => by cases hq; exact h⟩
    | 9 =>
      obtain ⟨c1, i1, h⟩ := u_known (C := RX9) (T := TX9) (N := 15) (n := 15) hts (fun w h => gT_tbl (cpX9.2.1 w h)) (hts _ (gT_tbl wm_461))
      exact ⟨(c1, i1), fun q hq => by cases hq; exact h⟩
    | 10 =>
      obtain ⟨c1, i1, h⟩ := u_known (C := RX10) (T := TX10) (N := 13) (n := 13) hts (fun w h => gT_tbl (cpX10.2.1 w h)) (hts _ (gT_tbl wm_552))
      exact ⟨(c1, i1), fun q hq => by cases hq; exact h⟩
    | 11 =>
      obtain ⟨c1, i1, h⟩ := u_known (C := RX11) (T := TX11) (N := 19) (n := 19) hts (fun w h => gT_tbl (cpX11.2.1 w h)) (hts _ (gT_tbl wm_198))
      exact ⟨(c1, i1), fun q hq => by cases hq; exact h⟩
    | 12 =>
      obtain ⟨c1, i1, h⟩ := u_known (C := RX12) (T := TX12) (N := 52) (n := 52) hts (fun w h => gT_tbl (cpX12.2.1 w h)) (hts _ (gT_tbl wm_1665))
      exact ⟨(c1, i1), fun q hq => by cases hq; exact h⟩
    | k + 13 => exact ⟨((default : Nat), fun _ => 0), fun q hq => by simp at hq⟩
  obtain ⟨f, hf⟩ := Classical.skolem.mp h1
  have ha : ∀ ty : FieldType, (∀ C, ty ≠ .object C) → Cond.arrayClass ty ∈ lw_tbl → ∃ cA : ClassId, ArrOfT s cA ty ∧ va_RA s cA ty := by
    intro ty hno hw
    obtain ⟨cA, kA, comp, e1, e2, e3⟩ := Cond.arrayClass_spec (hts _ hw)
    refine ⟨cA, fun n z => ⟨fun k h => (by cases h), kA, e2, comp, e3⟩, ?_⟩
    cases ty <;> first | exact absurd rfl (hno _) | exact e1
  obtain ⟨cB, hB⟩ := ha .byte (fun _ h => by cases h) (gT_tbl wm_304)
  obtain ⟨cI, hI⟩ := ha .int (fun _ h => by cases h) (gT_tbl wm_305)
  obtain ⟨cJ, hJ⟩ := ha .long (fun _ h => by cases h) (gT_tbl wm_427)
  obtain ⟨cZ, hZ⟩ := ha .boolean (fun _ h => by cases h) (gT_tbl wm_459)
  have hov : (Cond.arrayOver (.object "GrownKinds$RingList")).before args s = true := hts _ (by decide +kernel)
  obtain ⟨comp, cO, kO, hcomp, -, hkO, hkindO, hnameO⟩ := Cond.arrayOver_spec hov
  refine ⟨(fun k => (f k).1, fun k => (f k).2), fun k => if k = 0 then cB else if k = 1 then cI else if k = 2 then cJ else if k = 3 then cZ else cO, ⟨fun k q hq => hf k q hq, ?_⟩, va_AO.of hov, fun q hq => va_Nw.of rfl (hts _ ((by decide +kernel : ∀ q ∈ gnM, Cond.methodLinkNest q.1 q.2.1 q.2.2.1 q.2.2.2 ∈ lw_tbl) q hq)), fun q hq => va_Nw.of rfl (hts _ ((by decide +kernel : ∀ q ∈ gnF, Cond.fieldLinkNest q.1 q.2.1 q.2.2.1 q.2.2.2.1 q.2.2.2.2.1 q.2.2.2.2.2 ∈ lw_tbl) q hq))⟩
  intro k q hq
  match k with
  | 0 => cases hq; exact hB
  | 1 => cases hq; exact hI
  | 2 => cases hq; exact hJ
  | 3 => cases hq; exact hZ
  | 4 => cases hq; exact ⟨fun n z => ⟨fun k h => (by cases h), kO, hkO, comp, hkindO⟩, kO, comp, hkO, hkindO, hcomp, hnameO⟩
  | k + 5 => simp [gty] at hq
def Zs (b : Nat) (cy : Nat → ClassId) : List va_E := [Z0 b cy, Z1 b cy, Z2 b cy, Z3 b cy, Z4 b cy, Z5 b cy, Z6 b cy, Z7 b cy, Z8 b cy, Z9 b cy, Z10 b cy, Z11 b cy, Z12 b cy, Z13 b cy, Z14 b cy, Z15 b cy, Z16 b cy, Z17 b cy, Z18 b cy, Z19 b cy, Z20 b cy, Z21 b cy, Z22 b cy, Z23 b cy, Z24 b cy, Z25 b cy, Z26 b cy, Z27 b cy, Z28 b cy, Z29 b cy, Z30 b cy, Z31 b cy, Z32 b cy, Z33 b cy, Z34 b cy, Z35 b cy, Z36 b cy, Z37 b cy, Z38 b cy, Z39 b cy, Z40 b cy, Z41 b cy, Z42 b cy, Z43 b cy, Z44 b cy, Z45 b cy, Z46 b cy, Z47 b cy, Z48 b cy, Z49 b cy, Z50 b cy, Z51 b cy, Z52 b cy, Z53 b cy, Z54 b cy, Z55 b cy, Z56 b cy, Z57 b cy, Z58 b cy, Z59 b cy, Z60 b cy, Z61 b cy, Z62 b cy, Z63 b cy, Z64 b cy, Z65 b cy, Z66 b cy, Z67 b cy, Z68 b cy, Z69 b cy, Z70 b cy, Z71 b cy, Z72 b cy, Z73 b cy, Z74 b cy, Z75 b cy, Z76 b cy, Z77 b cy, Z78 b cy, Z79 b cy, Z80 b cy, Z81 b cy, Z82 b cy, Z83 b cy, Z84 b cy, Z85 b cy, Z86 b cy, Z87 b cy, Z88 b cy, Z89 b cy, Z90 b cy, Z91 b cy, Z92 b cy, Z93 b cy, Z94 b cy, Z95 b cy, Z96 b cy, Z97 b cy, Z98 b cy, Z99 b cy, Z100 b cy, Z101 b cy, Z102 b cy, Z103 b cy, Z104 b cy]
/-- class and reference as they are made -/
def Fresh (b : Nat) (cy : Nat → ClassId) (E : Nat → va_E) : Prop := ∀ k : Nat, k < 105 → (Zs b cy)[k]? = some (E k)
theorem Fresh.at {b : Nat} {cy : Nat → ClassId} {E : Nat → va_E} (F : Fresh b cy E) (k : Nat) {x : va_E} (hk : k < 105) (hx : (Zs b cy)[k]? = some x) : E k = x := Option.some.inj ((F k hk).symm.trans hx)
theorem lw_S {p : Program} {s : State} {m : MethodId} {meth : Method} {c : Code} {q0 L : Nat} {xs : Nat → Int32} (C0 : lw_At p s m meth c q0 L xs) : CallFix p m c code 4 s #[Value.ref q0] gT R_law := ⟨C0.1, C0.2.1, C0.2.2.2.1, C0.2.2.2.2.1, fun w h => C0.2.2.2.2.2.1 w (gT_tbl h)⟩
