/-! the class reads a text: a ring is turned -/
def rvT (v : List Int) (s : Nat) : List Int := v.drop s ++ v.take s
theorem rvT_len {v : List Int} {s : Nat} : (rvT v s).length = v.length := by
  unfold rvT
  rw [List.length_append, List.length_drop, List.length_take]
  omega
theorem rvT_at {v : List Int} {s i : Nat} (hs : s < v.length) (hi : i < v.length) : (rvT v s)[i]? = v[(s + i) % v.length]? := by
  unfold rvT
  by_cases c : s + i < v.length
  · rw [List.getElem?_append_left (by rw [List.length_drop]; omega), List.getElem?_drop, Nat.mod_eq_of_lt c]
  · rw [List.getElem?_append_right (by rw [List.length_drop]; omega), List.length_drop, List.getElem?_take_of_lt (by omega), Nat.mod_eq_sub_mod (by omega), Nat.mod_eq_of_lt (by omega), show i - (v.length - s) = s + i - v.length by omega]
theorem e_ct3 {S : St} {a0 p q : Nat} {v : List Int} (hp : p < v.length) (hq : q < v.length) (h40 : a0 + v.length ≤ 40) (hw : txA S a0 v) (hB : ∀ i : Nat, i < 40 → -128 ≤ S 68 (i : Int) ∧ S 68 (i : Int) ≤ 127) : ∀ (d i f : Nat), i + d = v.length → d < f → (mX10_compareTurns_3 S (a0 : Int) ((v.length : Nat) : Int) (p : Int) (q : Int) f (i : Int) = some (1, 0, 0) ∧ lxc ((rvT v p).drop i) ((rvT v q).drop i) = 0) ∨ ∃ x y : Int, mX10_compareTurns_3 S (a0 : Int) ((v.length : Nat) : Int) (p : Int) (q : Int) f (i : Int) = some (0, x, y) ∧ x ≠ y ∧ ((-128 ≤ x ∧ x ≤ 127) ∧ (-128 ≤ y ∧ y ≤ 127)) ∧ lxc ((rvT v p).drop i) ((rvT v q).drop i) = if x < y then -1 else 1 := by
  intro d
  induction d with
  | zero =>
    intro i f hi hf
    obtain ⟨f, rfl⟩ : ∃ g, f = g + 1 := ⟨f - 1, by omega⟩
    refine Or.inl ⟨?_, ?_⟩
    · rw [mX10_compareTurns_3, gd_t (by omega), if_pos (by omega)]
    · rw [List.drop_eq_nil_of_le (by rw [rvT_len]; omega), List.drop_eq_nil_of_le (by rw [rvT_len]; omega)]; rfl
  | succ d ih =>
    intro i f hi hf
    obtain ⟨f, rfl⟩ : ∃ g, f = g + 1 := ⟨f - 1, by omega⟩
    have at' : ∀ s : Nat, s < v.length → ∃ x, (rvT v s).drop i = x :: (rvT v s).drop (i + 1) ∧ S 68 ((a0 : Int) + (((s : Int) + (i : Int)) % ((v.length : Nat) : Int))) = x ∧ (s + i) % v.length < v.length := fun s hs => by
      have l : i < (rvT v s).length := by rw [rvT_len]; omega
      have m : (s + i) % v.length < v.length := Nat.mod_lt _ (by omega)
      refine ⟨(rvT v s)[i], List.drop_eq_getElem_cons l, ?_, m⟩
      have e := rvT_at hs (show i < v.length by omega)
      rw [List.getElem?_eq_getElem l] at e
      have := hw _ _ e.symm
      rw [show ((a0 + (s + i) % v.length : Nat) : Int) = (a0 : Int) + (((s : Int) + (i : Int)) % ((v.length : Nat) : Int)) by rw [Int.natCast_add, Int.natCast_emod, Int.natCast_add]] at this
      exact this
    obtain ⟨x, x1, x2, x3⟩ := at' p hp
    obtain ⟨y, y1, y2, y3⟩ := at' q hq
    have cx : ((p : Int) + (i : Int)) % ((v.length : Nat) : Int) = (((p + i) % v.length : Nat) : Int) := by rw [Int.natCast_emod, Int.natCast_add]
    have cy : ((q : Int) + (i : Int)) % ((v.length : Nat) : Int) = (((q + i) % v.length : Nat) : Int) := by rw [Int.natCast_emod, Int.natCast_add]
    have bx := hB (a0 + (p + i) % v.length) (by omega)
    have by' := hB (a0 + (q + i) % v.length) (by omega)
    rw [show ((a0 + (p + i) % v.length : Nat) : Int) = (a0 : Int) + (((p : Int) + (i : Int)) % ((v.length : Nat) : Int)) by rw [cx]; omega, x2] at bx
    rw [show ((a0 + (q + i) % v.length : Nat) : Int) = (a0 : Int) + (((q : Int) + (i : Int)) % ((v.length : Nat) : Int)) by rw [cy]; omega, y2] at by'
    rw [mX10_compareTurns_3, gd_t (by omega), if_neg (by omega), gd_t (by omega), gd_t (by rw [cx]; omega), nx_e, gd_t (by omega), gd_t (by rw [cy]; omega), nx_e, x2, y2, gd_t (by omega), x1, y1]
    by_cases c : x = y
    · rw [if_pos c]
      have e : lxc (x :: (rvT v p).drop (i + 1)) (y :: (rvT v q).drop (i + 1)) = lxc ((rvT v p).drop (i + 1)) ((rvT v q).drop (i + 1)) := by
        show (if x = y then _ else _) = _
        rw [if_pos c]
      rw [e]
      have i1 := ih (i + 1) f (by omega) (by omega)
      rw [show ((i + 1 : Nat) : Int) = (i : Int) + 1 by omega] at i1
      exact i1
    · rw [if_neg c]
      refine Or.inr ⟨x, y, rfl, c, ⟨by omega, by omega⟩, ?_⟩
      show (if x = y then _ else if x < y then -1 else 1) = _
      rw [if_neg c]
theorem e_cmpTurns {S : St} {a0 p q : Nat} {v : List Int} (hp : p < v.length) (hq : q < v.length) (h40 : a0 + v.length ≤ 40) (hw : txA S a0 v) (hB : ∀ i : Nat, i < 40 → -128 ≤ S 68 (i : Int) ∧ S 68 (i : Int) ≤ 127) : sgnL (mX10_compareTurns S (a0 : Int) ((v.length : Nat) : Int) (p : Int) (q : Int)) (lxc (rvT v p) (rvT v q)) := by
  unfold mX10_compareTurns
  rcases e_ct3 (S := S) hp hq h40 hw hB v.length 0 FU (by omega) (by unfold FU; omega) with ⟨e, l⟩ | ⟨x, y, e, ne, ⟨ix, iy⟩, l⟩
  · rw [show ((0 : Nat) : Int) = 0 from rfl] at e
    rw [List.drop_zero, List.drop_zero] at l
    rw [e, l]
    exact ⟨0, rfl, by omega, Iff.rfl, Iff.rfl⟩
  · rw [show ((0 : Nat) : Int) = 0 from rfl] at e
    rw [List.drop_zero, List.drop_zero] at l
    rw [e]
    show sgnL (if (0 : Int) = 0 then some (x - y) else some 0) _
    rw [if_pos rfl]
    exact sgn_of ne ix iy l
/-- how far in the k-th thing begins -/
def psT (es : List (List Int)) (k : Nat) : Nat := ((es.take k).flatten).length
theorem rv_rot (es : List (List Int)) (k : Nat) : rvT es.flatten (psT es k) = (rotL k es).flatten := by
  unfold rvT rotL psT
  have e : es.flatten = (es.take k).flatten ++ (es.drop k).flatten := by rw [← List.flatten_append, List.take_append_drop]
  rw [List.flatten_append]
  conv => lhs; rw [e]
  rw [List.drop_left, List.take_left]
theorem psT_lt {es : List (List Int)} (ne : ∀ x ∈ es, 1 ≤ x.length) {k : Nat} (hk : k < es.length) : psT es k < es.flatten.length := by
  have e : es.flatten.length = psT es k + ((es.drop k).flatten).length := by
    unfold psT
    rw [← List.length_append, ← List.flatten_append, List.take_append_drop]
  have d := List.drop_eq_getElem_cons hk
  rw [d, List.flatten_cons, List.length_append] at e
  have := ne es[k] (List.getElem_mem hk)
  omega
theorem rngB_lt {es : List (List Int)} : ∀ j, rngB es j ≤ j - 1 := by
  intro j
  induction j with
  | zero => exact Nat.le_refl _
  | succ j ih =>
    show (if _ then j else rngB es j) ≤ j + 1 - 1
    split <;> omega
theorem e_turn25 {S : St} {base a0 : Nat} {es : List (List Int)} (h : STs S base a0 es) (ne : ∀ x ∈ es, 1 ≤ x.length) : ∀ (d i f : Nat), 1 ≤ i → i + d = es.length → d < f → mX10_turn_25 S ((es.flatten.length : Nat) : Int) (a0 : Int) (base : Int) ((es.length : Nat) : Int) f (i : Int) ((psT es (rngB es i) : Nat) : Int) = some ((psT es (rngB es es.length) : Nat) : Int) := by
  intro d
  induction d with
  | zero =>
    intro i f i1 hi hf
    obtain ⟨f, rfl⟩ : ∃ g, f = g + 1 := ⟨f - 1, by omega⟩
    have b := h.2.2.1
    rw [mX10_turn_25, gd_t (by omega), if_pos (by omega), show i = es.length by omega]
  | succ d ih =>
    intro i f i1 hi hf
    obtain ⟨f, rfl⟩ : ∃ g, f = g + 1 := ⟨f - 1, by omega⟩
    have b := h.2.2.1
    have hil : i < es.length := by omega
    have s := (h.at hil).1
    have p1 := psT_lt ne hil
    have rl := rngB_lt (es := es) i
    have p2 := psT_lt ne (show rngB es i < es.length by omega)
    obtain ⟨v, ct, vI, v1, v2⟩ := e_cmpTurns (S := S) p1 p2 b.1 h.2.1 h.2.2.2
    rw [rv_rot, rv_rot] at v1 v2
    have c3 := lxc_3 (rotL i es).flatten (rotL (rngB es i) es).flatten
    have rs : rngB es (i + 1) = if lxc (rotL i es).flatten (rotL (rngB es i) es).flatten < 0 then i else rngB es i := rfl
    have i2 := ih (i + 1) f (by omega) (by omega) (by omega)
    rw [rs, show ((i + 1 : Nat) : Int) = (i : Int) + 1 by omega] at i2
    have x32 : ((a0 + ((es.take i).flatten).length : Nat) : Int) - (a0 : Int) = ((psT es i : Nat) : Int) := by unfold psT; omega
    rw [mX10_turn_25, gd_t (by omega), if_neg (by omega), gd_t (by omega), show (base : Int) + (i : Int) = ((base + i : Nat) : Int) by omega, s, x32, nx_e, bd1_e ct, gd_t (by omega)]
    by_cases c : lxc (rotL i es).flatten (rotL (rngB es i) es).flatten < 0
    · have := v1.mpr c
      rw [if_neg (by omega)]
      rw [if_pos c] at i2
      exact i2
    · have : ¬ v < 0 := fun w => c (v1.mp w)
      rw [if_pos (by omega)]
      rw [if_neg c] at i2
      exact i2
theorem e_turn76 {base a0 p m : Nat} {v : List Int} (hp : p < v.length) (h40 : a0 + v.length ≤ 40) : ∀ (d i f : Nat) (S : St), i + d = v.length → d < f → txA S a0 v → (∀ i : Nat, i < 40 → -128 ≤ S 68 (i : Int) ∧ S 68 (i : Int) ≤ 127) → txB S a0 ((rvT v p).take i) → ∃ T, mX10_turn_76 ((v.length : Nat) : Int) (a0 : Int) (base : Int) (m : Int) (p : Int) f (i : Int) S = some T ∧ kept [69] [] S T ∧ txB T a0 (rvT v p) := by
  intro d
  induction d with
  | zero =>
    intro i f S hi hf hw hB h9
    obtain ⟨f, rfl⟩ : ∃ g, f = g + 1 := ⟨f - 1, by omega⟩
    refine ⟨S, ?_, kept.rf, ?_⟩
    · rw [mX10_turn_76, gd_t (by omega), if_pos (by omega)]
    · rw [List.take_of_length_le (by rw [rvT_len]; omega)] at h9
      exact h9
  | succ d ih =>
    intro i f S hi hf hw hB h9
    obtain ⟨f, rfl⟩ : ∃ g, f = g + 1 := ⟨f - 1, by omega⟩
    have l : i < (rvT v p).length := by rw [rvT_len]; omega
    have m' : (p + i) % v.length < v.length := Nat.mod_lt _ (by omega)
    have e := rvT_at hp (show i < v.length by omega)
    rw [List.getElem?_eq_getElem l] at e
    have val := hw _ _ e.symm
    have cx : ((p : Int) + (i : Int)) % ((v.length : Nat) : Int) = (((p + i) % v.length : Nat) : Int) := by rw [Int.natCast_emod, Int.natCast_add]
    have ax : (a0 : Int) + (((p : Int) + (i : Int)) % ((v.length : Nat) : Int)) = ((a0 + (p + i) % v.length : Nat) : Int) := by rw [cx]; omega
    have bx := hB (a0 + (p + i) % v.length) (by omega)
    rw [mX10_turn_76, gd_t (by omega), if_neg (by omega), gd_t (by omega), ax, gd_t (by omega), gd_t (by omega), nx_e, val]
    obtain ⟨T, t1, t2, t3⟩ := ih (i + 1) f (up S 69 ((a0 : Int) + (i : Int)) (rvT v p)[i]) (by omega) (by omega) hw hB (by
      rw [List.take_add_one, List.getElem?_eq_getElem l]
      refine txB.app (fun j x hx => ?_) (fun j x hx => ?_)
      · have lj := (List.getElem?_eq_some_iff.mp hx).1
        rw [List.length_take] at lj
        rw [up_nk (by omega)]
        exact h9 j x hx
      · have lj := (List.getElem?_eq_some_iff.mp hx).1
        have j0 : j = 0 := by
          have : j < 1 := lj
          omega
        subst j0
        have hx' : some (rvT v p)[i] = some x := hx
        rw [List.length_take, show ((a0 + min i (rvT v p).length + 0 : Nat) : Int) = (a0 : Int) + (i : Int) by omega, up_eq]
        exact Option.some.inj hx')
    rw [show ((i + 1 : Nat) : Int) = (i : Int) + 1 by omega] at t1
    exact ⟨T, t1, (kept.rf.upA (by decide)).trans t2, t3⟩
theorem e_turn {S : St} {base a0 : Nat} {es : List (List Int)} (h : STs S base a0 es) (h6 : S 67 6 = 1) (ne : ∀ x ∈ es, 1 ≤ x.length) (h1 : 1 ≤ es.length) : ∃ T, mX10_turn S (base : Int) ((es.length : Nat) : Int) = some T ∧ kept [68, 69] [] S T ∧ txA T a0 (rngT es).flatten ∧ (∀ j : Int, (j < (a0 : Int) ∨ ((a0 + es.flatten.length : Nat) : Int) ≤ j) → T 68 j = S 68 j) ∧ ∀ i : Nat, i < 40 → -128 ≤ T 68 (i : Int) ∧ T 68 (i : Int) ≤ 127 := by
  have b := h.2.2.1
  have s0 := h.1 0 (by omega)
  have se := h.1 es.length (Nat.le_refl _)
  rw [List.take_length] at se
  rw [List.take_zero, show (([] : List (List Int)).flatten).length = 0 from rfl, Nat.add_zero, Nat.add_zero] at s0
  have t25 := e_turn25 h ne (es.length - 1) 1 FU (Nat.le_refl _) (by omega) (by unfold FU; omega)
  have r1 : rngB es 1 = 0 := by have := rngB_lt (es := es) 1; omega
  have z0 : psT es 0 = 0 := by unfold psT; rw [List.take_zero]; rfl
  rw [r1, z0, show ((0 : Nat) : Int) = 0 from rfl, show ((1 : Nat) : Int) = 1 from rfl] at t25
  have rl := rngB_lt (es := es) es.length
  have p1 := psT_lt ne (show rngB es es.length < es.length by omega)
  obtain ⟨S1, s1, s2, s3⟩ := e_turn76 (base := base) (a0 := a0) (m := es.length) p1 b.1 es.flatten.length 0 FU S (by omega) (by unfold FU; omega) h.2.1 h.2.2.2 (by rw [List.take_zero]; exact fun i x hx => by cases hx)
  rw [show ((0 : Nat) : Int) = 0 from rfl] at s1
  have hS1 : STs S1 base a0 es := h.of (s2.cell 71 (by decide) (by decide)) (s2.cell 68 (by decide) (by decide))
  have e6 : S1 67 6 = 1 := by rw [s2.cell 67 (by decide) (by decide)]; exact h6
  have er : rvT es.flatten (psT es (rngB es es.length)) = (rngT es).flatten := rv_rot es _
  have pm : (rngT es).flatten.Perm es.flatten := (rngT_rt es).pm.symm.flatten
  rw [er] at s3
  obtain ⟨T, t1, t2, t3, t4, t5⟩ := e_copyBack hS1 e6 s3 pm.length_eq (fun x hx => fl_mem h (pm.mem_iff.mp hx))
  unfold mX10_turn
  have x4 : ((a0 + es.flatten.length : Nat) : Int) - (a0 : Int) = ((es.flatten.length : Nat) : Int) := by omega
  rw [gd_t (by omega), nx_e, gd_t (by omega), show (base : Int) + ((es.length : Nat) : Int) = ((base + es.length : Nat) : Int) by omega, s0, se, x4, nx_e, bd1_e t25, bd1_e s1]
  refine ⟨T, by rw [bd1_e t1], (s2.mono (by decide) (by decide)).trans (t2.mono (by decide) (by decide)), t3, fun j hj => ?_, t5⟩
  rw [pm.length_eq] at t4
  rw [t4 j hj, s2.cell 68 (by decide) (by decide)]
