/-! the class reads a text: what has no order is put into one -/
def STs (S : St) (base a0 : Nat) (es : List (List Int)) : Prop := (∀ i : Nat, i ≤ es.length → S 71 ((base + i : Nat) : Int) = ((a0 + ((es.take i).flatten).length : Nat) : Int)) ∧ txA S a0 es.flatten ∧ (a0 + es.flatten.length ≤ 40 ∧ base + es.length ≤ 40) ∧ ∀ i : Nat, i < 40 → -128 ≤ S 68 (i : Int) ∧ S 68 (i : Int) ≤ 127
theorem STs.of {S T : St} {base a0 : Nat} {es : List (List Int)} (h : STs S base a0 es) (k1 : T 71 = S 71) (k2 : T 68 = S 68) : STs T base a0 es := by
  unfold STs txA at h ⊢
  rw [k1, k2]
  exact h
def ixl (es : List (List Int)) (i : Nat) : List Int := es.getD i []
theorem ixl_s {es : List (List Int)} {i : Nat} (h : i < es.length) : es[i]? = some (ixl es i) := by
  unfold ixl
  rw [List.getD_eq_getElem?_getD, List.getElem?_eq_getElem h]; rfl
theorem tk_s {es : List (List Int)} {i : Nat} (h : i < es.length) : es.take (i + 1) = es.take i ++ [ixl es i] := by
  rw [List.take_add_one, ixl_s h]; rfl
theorem ixl_sp {es : List (List Int)} {i : Nat} (h : i < es.length) : es = es.take i ++ ixl es i :: es.drop (i + 1) := by
  have a := ixl_s h
  have := List.getElem?_eq_some_iff.mp a
  obtain ⟨p, q⟩ := this
  rw [← q, ← List.drop_eq_getElem_cons p, List.take_append_drop]
theorem STs.at {S : St} {base a0 : Nat} {es : List (List Int)} (h : STs S base a0 es) {i : Nat} (hi : i < es.length) : S 71 ((base + i : Nat) : Int) = ((a0 + ((es.take i).flatten).length : Nat) : Int) ∧ S 71 ((base + i : Nat) + 1 : Int) = ((a0 + ((es.take i).flatten).length + (ixl es i).length : Nat) : Int) ∧ txA S (a0 + ((es.take i).flatten).length) (ixl es i) ∧ a0 + ((es.take i).flatten).length + (ixl es i).length ≤ a0 + es.flatten.length := by
  obtain ⟨h1, h2, h3, h4⟩ := h
  have a := h1 i (by omega)
  have b := h1 (i + 1) (by omega)
  rw [tk_s hi, List.flatten_append, List.length_append] at b
  have e : es.flatten = (es.take i).flatten ++ (ixl es i ++ (es.drop (i + 1)).flatten) := by
    rw [← List.flatten_cons, ← List.flatten_append, ← ixl_sp hi]
  have f1 : [ixl es i].flatten = ixl es i := by rw [List.flatten_cons]; exact List.append_nil _
  rw [f1] at b
  refine ⟨a, ?_, ?_, ?_⟩
  · rw [show ((base + i : Nat) + 1 : Int) = ((base + (i + 1) : Nat) : Int) by omega, b]
    exact congrArg Nat.cast (by omega)
  · rw [e] at h2
    exact (txA.app.mp (txA.app.mp h2).2).1
  · rw [e, List.length_append, List.length_append]; omega
theorem e_cmp15 {S : St} {a1 a2 e1 e2 : Nat} (h1 : S 71 ((a1 : Int) + 1) = (e1 : Int)) (h2 : S 71 ((a2 : Int) + 1) = (e2 : Int)) (b1 : a1 < 40 ∧ a2 < 40) (b2 : e1 ≤ 40 ∧ e2 ≤ 40) (hB : ∀ i : Nat, i < 40 → -128 ≤ S 68 (i : Int) ∧ S 68 (i : Int) ≤ 127) : ∀ (x y : List Int) (f pa pb : Nat), pa + x.length = e1 → pb + y.length = e2 → txA S pa x → txA S pb y → x.length < f → ∃ (t : Int) (p q : Nat), mX10_compare_15 S (a1 : Int) (a2 : Int) f (pb : Int) (pa : Int) = some (t, (p : Int), (q : Int)) ∧ ((t = 0 ∧ p < 40 ∧ q < 40 ∧ S 68 (p : Int) ≠ S 68 (q : Int) ∧ lxc x y = if S 68 (p : Int) < S 68 (q : Int) then -1 else 1) ∨ (t = 1 ∧ p ≤ e1 ∧ q ≤ e2 ∧ lxc x y = if e1 - p = e2 - q then 0 else if e1 - p < e2 - q then -1 else 1)) := by
  intro x
  induction x with
  | nil =>
    intro y f pa pb ha hb hx hy hf
    obtain ⟨f, rfl⟩ : ∃ g, f = g + 1 := ⟨f - 1, by have : 0 < f := hf; omega⟩
    have ha' : pa + 0 = e1 := ha
    refine ⟨1, pa, pb, ?_, Or.inr ⟨rfl, by omega, by omega, ?_⟩⟩
    · rw [mX10_compare_15, gd_t (by omega), h1, gd_t (by omega), if_pos (by omega)]
    · cases y with
      | nil =>
        have hb' : pb + 0 = e2 := hb
        rw [if_pos (by omega)]; rfl
      | cons b y =>
        rw [List.length_cons] at hb
        rw [if_neg (by omega), if_pos (by omega)]; rfl
  | cons a x ih =>
    intro y f pa pb ha hb hx hy hf
    rw [List.length_cons] at ha hf
    obtain ⟨f, rfl⟩ : ∃ g, f = g + 1 := ⟨f - 1, by omega⟩
    rw [mX10_compare_15, gd_t (by omega), h1, gd_t (by omega), if_neg (by omega), gd_t (by omega), h2, gd_t (by omega)]
    cases y with
    | nil =>
      have hb' : pb + 0 = e2 := hb
      refine ⟨1, pa, pb, by rw [if_pos (by omega)], Or.inr ⟨rfl, by omega, by omega, ?_⟩⟩
      rw [if_neg (by omega), if_neg (by omega)]; rfl
    | cons b y =>
      rw [List.length_cons] at hb
      have xa := hx.hd
      have yb := hy.hd
      have ba := hB pa (by omega)
      have bb := hB pb (by omega)
      rw [if_neg (by omega), gd_t (by omega), gd_t (by omega), gd_t (by omega)]
      by_cases c : a = b
      · rw [if_pos (by rw [xa, yb]; exact c)]
        obtain ⟨t, p, q, i1, i2⟩ := ih y f (pa + 1) (pb + 1) (by omega) (by omega) hx.tl hy.tl (by omega)
        rw [show ((pa + 1 : Nat) : Int) = (pa : Int) + 1 by omega, show ((pb + 1 : Nat) : Int) = (pb : Int) + 1 by omega] at i1
        refine ⟨t, p, q, i1, ?_⟩
        have e : lxc (a :: x) (b :: y) = lxc x y := by
          show (if a = b then lxc x y else _) = _
          rw [if_pos c]
        rw [e]
        exact i2
      · refine ⟨0, pa, pb, by rw [if_neg (by rw [xa, yb]; exact c)], Or.inl ⟨rfl, by omega, by omega, by rw [xa, yb]; exact c, ?_⟩⟩
        show (if a = b then lxc x y else if a < b then -1 else 1) = _
        rw [if_neg c, xa, yb]
/-- of a comparison: a number whose sign alone counts -/
def sgnL (o : Option Int) (c : Int) : Prop := ∃ v : Int, o = some v ∧ (-300 ≤ v ∧ v ≤ 300) ∧ (v < 0 ↔ c < 0) ∧ (v = 0 ↔ c = 0)
theorem sgn_of {a b c : Int} (ne : a ≠ b) (ha : -128 ≤ a ∧ a ≤ 127) (hb : -128 ≤ b ∧ b ≤ 127) (e : c = if a < b then -1 else 1) : sgnL (some (a - b)) c := by
  refine ⟨a - b, rfl, by omega, ?_, ?_⟩
  · by_cases d : a < b
    · rw [e, if_pos d]; constructor <;> intro _ <;> omega
    · rw [e, if_neg d]; constructor <;> intro _ <;> omega
  · by_cases d : a < b
    · rw [e, if_pos d]; constructor <;> intro _ <;> omega
    · rw [e, if_neg d]; constructor <;> intro _ <;> omega
theorem e_compare {S : St} {base a0 : Nat} {es : List (List Int)} (h : STs S base a0 es) {i j : Nat} (hi : i < es.length) (hj : j < es.length) : sgnL (mX10_compare S ((base + i : Nat) : Int) ((base + j : Nat) : Int)) (lxc (ixl es i) (ixl es j)) := by
  obtain ⟨x1, x2, x3, x4⟩ := h.at hi
  obtain ⟨y1, y2, y3, y4⟩ := h.at hj
  obtain ⟨-, -, ⟨h3, h5⟩, h4⟩ := h
  unfold mX10_compare
  rw [gd_t (by omega), nx_e, gd_t (by omega), nx_e, x1, y1]
  obtain ⟨t, p, q, c1, c2⟩ := e_cmp15 (S := S) (a1 := base + i) (a2 := base + j) x2 y2 (by omega) (by omega) h4 (ixl es i) (ixl es j) FU _ _ rfl rfl x3 y3 (by unfold FU; omega)
  rw [c1]
  show sgnL (if t = 0 then _ else _) _
  rcases c2 with ⟨t0, b1, b2, ne, e⟩ | ⟨t1, b1, b2, e⟩
  · have bp := h4 p b1
    have bq := h4 q b2
    rw [if_pos t0, gd_t (by omega), gd_t (by omega)]
    exact sgn_of ne bp bq e
  · rw [if_neg (by omega), gd_t (by omega), gd_t (by omega), x2, y2]
    obtain ⟨u, hu⟩ : ∃ u, u = a0 + ((es.take i).flatten).length + (ixl es i).length := ⟨_, rfl⟩
    obtain ⟨v, hv⟩ : ∃ v, v = a0 + ((es.take j).flatten).length + (ixl es j).length := ⟨_, rfl⟩
    rw [← hu, ← hv] at e ⊢
    rw [← hu] at b1 x4
    rw [← hv] at b2 y4
    refine ⟨_, rfl, by omega, ?_, ?_⟩
    · by_cases c : u - p = v - q
      · rw [e, if_pos c]; constructor <;> intro _ <;> omega
      · by_cases d : u - p < v - q
        · rw [e, if_neg c, if_pos d]; constructor <;> intro _ <;> omega
        · rw [e, if_neg c, if_neg d]; constructor <;> intro _ <;> omega
    · by_cases c : u - p = v - q
      · rw [e, if_pos c]; constructor <;> intro _ <;> omega
      · by_cases d : u - p < v - q
        · rw [e, if_neg c, if_pos d]; constructor <;> intro _ <;> omega
        · rw [e, if_neg c, if_neg d]; constructor <;> intro _ <;> omega
/-! places -/
def bef (es : List (List Int)) (j i : Nat) : Prop := lxc (ixl es j) (ixl es i) < 0 ∨ (lxc (ixl es j) (ixl es i) = 0 ∧ j < i)
def befb (es : List (List Int)) (j i : Nat) : Bool := decide (lxc (ixl es j) (ixl es i) < 0 ∨ (lxc (ixl es j) (ixl es i) = 0 ∧ j < i))
theorem befb_t {es : List (List Int)} {j i : Nat} : befb es j i = true ↔ bef es j i := decide_eq_true_iff
def plc (es : List (List Int)) (i k : Nat) : Nat := sm k (fun j => if befb es j i = true then 1 else 0)
theorem bef_tr {es : List (List Int)} {i j k : Nat} (h : bef es i j) (g : bef es j k) : bef es i k := by
  unfold bef at h g ⊢
  rcases h with h | ⟨h, h'⟩
  · rcases g with g | ⟨g, g'⟩
    · left
      have a := lxc_tr (show lxc (ixl es i) (ixl es j) ≤ 0 by omega) (show lxc (ixl es j) (ixl es k) ≤ 0 by omega)
      rcases lxc_3 (ixl es i) (ixl es k) with z | z | z
      · omega
      · have e := lxc_0 z
        rw [e] at h
        have := lxc_an (ixl es k) (ixl es j)
        omega
      · omega
    · rw [← lxc_0 g]; exact Or.inl h
  · rcases g with g | ⟨g, g'⟩
    · rw [lxc_0 h]; exact Or.inl g
    · rw [lxc_0 h]; exact Or.inr ⟨g, by omega⟩
theorem bef_ir {es : List (List Int)} {i : Nat} : ¬ bef es i i := by
  unfold bef
  rw [lxc_rf]
  omega
theorem bef_to {es : List (List Int)} {i j : Nat} (h : i ≠ j) : bef es i j ∨ bef es j i := by
  unfold bef
  have := lxc_an (ixl es i) (ixl es j)
  rcases lxc_3 (ixl es i) (ixl es j) with z | z | z <;> omega
theorem plc_lt {es : List (List Int)} {i j m : Nat} (hi : i < m) (h : bef es i j) : plc es i m < plc es j m := by
  unfold plc
  refine sm_lt (fun k _ => ?_) (j := i) hi ?_
  · try dsimp only
    by_cases c : befb es k i = true
    · rw [if_pos c, if_pos (befb_t.mpr (bef_tr (befb_t.mp c) h))]; exact Nat.le_refl _
    · rw [if_neg c]; exact Nat.zero_le _
  · try dsimp only
    rw [if_neg (fun c => bef_ir (befb_t.mp c)), if_pos (befb_t.mpr h)]; exact Nat.zero_lt_one
theorem plc_m {es : List (List Int)} {i m : Nat} (hi : i < m) : plc es i m < m := by
  have a := sm_lt (n := m) (f := fun j => if befb es j i = true then 1 else 0) (g := fun _ => 1) (fun k _ => by (try dsimp only); split <;> omega) (j := i) hi (by
    try dsimp only
    rw [if_neg (fun c => bef_ir (befb_t.mp c))]; exact Nat.zero_lt_one)
  rw [sm_const] at a
  unfold plc
  omega
theorem plc_inj {es : List (List Int)} {i j m : Nat} (hi : i < m) (hj : j < m) (h : plc es i m = plc es j m) : i = j := by
  by_cases c : i = j
  · exact c
  · rcases bef_to (es := es) c with d | d
    · have := plc_lt hi d; omega
    · have := plc_lt hj d; omega
theorem plc_sur {es : List (List Int)} {m k : Nat} (hk : k < m) : ∃ i, i < m ∧ plc es i m = k := by
  refine Classical.byContradiction fun no => ?_
  have nd : (k :: (List.range m).map (fun i => plc es i m)).Nodup := by
    rw [List.nodup_cons]
    refine ⟨fun h => ?_, ?_⟩
    · obtain ⟨i, i1, i2⟩ := List.mem_map.mp h
      exact no ⟨i, List.mem_range.mp i1, i2⟩
    · show List.Pairwise _ _
      rw [List.pairwise_map]
      refine List.Pairwise.imp_of_mem (fun {a b} ha hb hab e => ?_) (List.nodup_range (n := m))
      exact hab (plc_inj (List.mem_range.mp ha) (List.mem_range.mp hb) e)
  have := List.Nodup.length_le_of_subset nd (l₂ := List.range m) (fun x hx => by
    rcases List.mem_cons.mp hx with e | e
    · rw [e]; exact List.mem_range.mpr hk
    · obtain ⟨i, i1, i2⟩ := List.mem_map.mp e
      rw [← i2]
      exact List.mem_range.mpr (plc_m (List.mem_range.mp i1)))
  rw [List.length_cons, List.length_map, List.length_range] at this
  omega
/-- at each place stands the one that has it -/
theorem srt_plc {es : List (List Int)} : ∀ i, i < es.length → ixl (srtT es) (plc es i es.length) = ixl es i := by
  obtain ⟨inv, hv⟩ : ∃ inv : Nat → Nat, ∀ k, k < es.length → inv k < es.length ∧ plc es (inv k) es.length = k :=
    ⟨fun k => Classical.epsilon (fun i => i < es.length ∧ plc es i es.length = k), fun k hk => Classical.epsilon_spec (p := fun i => i < es.length ∧ plc es i es.length = k) (plc_sur hk)⟩
  have iv : ∀ i, i < es.length → inv (plc es i es.length) = i := fun i hi => plc_inj (hv _ (plc_m hi)).1 hi (hv _ (plc_m hi)).2
  have all : (List.range es.length).map (ixl es) = es := by
    refine List.ext_getElem? fun i => ?_
    rw [List.getElem?_map]
    by_cases c : i < es.length
    · rw [List.getElem?_range c, ixl_s c]; rfl
    · rw [List.getElem?_eq_none (by rw [List.length_range]; omega), List.getElem?_eq_none (by omega)]; rfl
  have pm : ((List.range es.length).map inv).Perm (List.range es.length) := by
    refine (List.perm_ext_iff_of_nodup ?_ List.nodup_range).mpr fun a => ?_
    · show List.Pairwise _ _
      rw [List.pairwise_map]
      refine List.Pairwise.imp_of_mem (fun {a b} ha hb hab e => hab ?_) (List.nodup_range (n := es.length))
      rw [← (hv a (List.mem_range.mp ha)).2, ← (hv b (List.mem_range.mp hb)).2, e]
    · constructor
      · intro h
        obtain ⟨k, k1, k2⟩ := List.mem_map.mp h
        rw [← k2]
        exact List.mem_range.mpr (hv k (List.mem_range.mp k1)).1
      · intro h
        exact List.mem_map.mpr ⟨plc es a es.length, List.mem_range.mpr (plc_m (List.mem_range.mp h)), iv a (List.mem_range.mp h)⟩
  have O : (List.range es.length).map (fun k => ixl es (inv k)) = srtT es := by
    refine srtT_of ?_ ?_
    · have := pm.map (ixl es)
      rw [all, List.map_map] at this
      exact this
    · rw [List.pairwise_map]
      refine List.Pairwise.imp_of_mem (fun {a b} ha hb hab => ?_) (List.pairwise_lt_range (n := es.length))
      have va := hv a (List.mem_range.mp ha)
      have vb := hv b (List.mem_range.mp hb)
      refine decide_eq_true ?_
      by_cases c : bef es (inv b) (inv a)
      · have := plc_lt (m := es.length) vb.1 c
        omega
      · unfold bef at c
        have := lxc_an (ixl es (inv a)) (ixl es (inv b))
        omega
  intro i hi
  have q := plc_m (es := es) hi
  rw [← O]
  unfold ixl
  rw [List.getD_eq_getElem?_getD, List.getElem?_map, List.getElem?_range q]
  show ixl es (inv (plc es i es.length)) = _
  rw [iv i hi]
  rfl
