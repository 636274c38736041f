/-! the class reads a text: the sort, whole; a ring turned -/
def anyD (u : Int) (es : List (List Int)) : Prop := u ≠ 0 ∧ ∃ j, j < es.length ∧ dupF es j 0
theorem e_sort11 {base a0 : Nat} {es : List (List Int)} {u : Int} (hu : u = 0 ∨ u = 1) : ∀ (d k f : Nat) (S : St), STs S base a0 es → k + d = es.length → d < f → inI (S 67 6) → txB S a0 (sofar es k) → (anyD u es → k = 0 ∨ S 67 6 = 0) → ∃ T, mX10_sort_11 (base : Int) ((es.length : Nat) : Int) u f (k : Int) ((a0 + (sofar es k).length : Nat) : Int) S = some T ∧ kept [69] [(67, 6)] S T ∧ (anyD u es → T 67 6 = 0) ∧ (¬ anyD u es → T 67 6 = S 67 6) ∧ (S 67 6 ≠ 0 → ¬ anyD u es → txB T a0 (sofar es es.length)) := by
  intro d
  induction d with
  | zero =>
    intro k f S h hk hf h6 hB hd
    obtain ⟨f, rfl⟩ : ∃ g, f = g + 1 := ⟨f - 1, by omega⟩
    have b := h.2.2.1
    have ek : k = es.length := by omega
    subst ek
    refine ⟨S, ?_, kept.rf, fun q => ?_, fun _ => rfl, fun _ _ => hB⟩
    · rw [mX10_sort_11, gd_t (by omega), if_pos (by omega)]
    · rcases hd q with y | y
      · obtain ⟨_, j, j1, _⟩ := q; omega
      · exact y
  | succ d ih =>
    intro k f S h hk hf h6 hB hd
    obtain ⟨f, rfl⟩ : ∃ g, f = g + 1 := ⟨f - 1, by omega⟩
    have b := h.2.2.1
    rw [mX10_sort_11, gd_t (by omega), if_neg (by omega), gd_t h6]
    by_cases z : S 67 6 = 0
    · rw [if_pos z]
      exact ⟨S, rfl, kept.rf, fun _ => z, fun _ => rfl, fun n => absurd z n⟩
    · rw [if_neg z]
      obtain ⟨i0, i1, i2⟩ := plc_sur (es := es) (m := es.length) (k := k) (by omega)
      obtain ⟨S1, s1, s2, s3, s4, s5, s6⟩ := e_sort27 hu i1 i2 es.length 0 FU S h (by omega) (by unfold FU; omega) (by rw [if_neg (by omega)]; exact hB)
      rw [if_neg (show ¬ i0 < 0 by omega)] at s1
      rw [bd2_e (show mX10_sort_27 (k : Int) (base : Int) ((es.length : Nat) : Int) u FU (base : Int) ((a0 + (sofar es k).length : Nat) : Int) S = _ from s1)]
      have h1 : STs S1 base a0 es := h.of (s2.cell 71 (by decide) (by decide)) (s2.cell 68 (by decide) (by decide))
      have i6 : inI (S1 67 6) := by
        rcases s6 with y | y
        · rw [y]; decide
        · rw [y]; exact h6
      obtain ⟨T, t1, t2, t3, t4, t5⟩ := ih (k + 1) f S1 h1 (by omega) (by omega) i6 s3 (fun q => Or.inr (s4 (by
        obtain ⟨q1, j, q2, q3⟩ := q
        exact ⟨j, Nat.zero_le _, q2, q1, q3⟩)))
      rw [show ((k + 1 : Nat) : Int) = (k : Int) + 1 by omega] at t1
      refine ⟨T, t1, s2.trans t2, t3, fun n => ?_, fun _ n => ?_⟩
      · rw [t4 n]
        exact s5 (fun ⟨j, _, j2, j3, j4⟩ => n ⟨j3, j, j2, j4⟩)
      · refine t5 ?_ n
        rw [s5 (fun ⟨j, _, j2, j3, j4⟩ => n ⟨j3, j, j2, j4⟩)]
        exact z
theorem dup_nd {es : List (List Int)} : (∃ j, j < es.length ∧ dupF es j 0) ↔ ¬ ndp es = true := by
  rw [ndp_iff]
  constructor
  · rintro ⟨j, j1, k, _, k1, k2, k3⟩ nd
    have a := ixl_s j1
    have b := ixl_s k1
    rw [k3] at b
    exact k2 ((List.getElem?_inj k1 nd).mp (b.trans a.symm))
  · intro nd
    refine Classical.byContradiction fun no => nd ?_
    show List.Pairwise _ _
    rw [List.pairwise_iff_getElem]
    intro i j hi hj hij e
    refine no ⟨i, hi, j, Nat.zero_le _, hj, by omega, ?_⟩
    unfold ixl
    rw [List.getD_eq_getElem?_getD, List.getD_eq_getElem?_getD, List.getElem?_eq_getElem hi, List.getElem?_eq_getElem hj]
    exact e.symm
theorem fl_mem {S : St} {base a0 : Nat} {es : List (List Int)} (h : STs S base a0 es) {x : Int} (hx : x ∈ es.flatten) : -128 ≤ x ∧ x ≤ 127 := by
  obtain ⟨i, i1, i2⟩ := List.mem_iff_getElem.mp hx
  have a := h.2.1 i x (by rw [List.getElem?_eq_getElem i1, i2])
  have b := h.2.2.2 (a0 + i) (by have := h.2.2.1; omega)
  rw [a] at b
  exact b
/-- what is laid beside is laid back -/
theorem e_copyBack {S : St} {base a0 : Nat} {es : List (List Int)} {w : List Int} (h : STs S base a0 es) (h6 : S 67 6 = 1) (hw : txB S a0 w) (hl : w.length = es.flatten.length) (hm : ∀ x ∈ w, -128 ≤ x ∧ x ≤ 127) : ∃ T, mX10_copyBack S (base : Int) ((es.length : Nat) : Int) = some T ∧ kept [68] [] S T ∧ txA T a0 w ∧ (∀ j : Int, (j < (a0 : Int) ∨ ((a0 + w.length : Nat) : Int) ≤ j) → T 68 j = S 68 j) ∧ ∀ i : Nat, i < 40 → -128 ≤ T 68 (i : Int) ∧ T 68 (i : Int) ≤ 127 := by
  obtain ⟨h1, h2, h3, h4⟩ := h
  have s0 := h1 0 (by omega)
  have sm := h1 es.length (Nat.le_refl _)
  rw [List.take_length] at sm
  rw [show (((es.take 0).flatten).length) = 0 from rfl, Nat.add_zero, Nat.add_zero] at s0
  unfold mX10_copyBack
  rw [gd_t (by omega), nx_e, gd_t (by omega), show (base : Int) + ((es.length : Nat) : Int) = ((base + es.length : Nat) : Int) by omega, s0, sm, nx_e, h6, gd_t (by decide), if_neg (by decide), gd_t (by omega)]
  rw [← hl] at h3 ⊢
  have ex : ((a0 + w.length : Nat) : Int) - (a0 : Int) = ((w.length : Nat) : Int) := by omega
  rw [ex]
  by_cases c : w.length = 0
  · have e : w = [] := List.eq_nil_of_length_eq_zero c
    refine ⟨S, by rw [if_pos (by omega)], kept.rf, by rw [e]; exact txA.nil, fun _ _ => rfl, h4⟩
  · have val : ∀ i : Nat, i < w.length → ∃ x, w[i]? = some x ∧ S 69 ((a0 + i : Nat) : Int) = x := fun i hi => ⟨w[i], List.getElem?_eq_getElem hi, hw i _ (List.getElem?_eq_getElem hi)⟩
    rw [if_neg (by omega), gd_t ⟨by omega, fun q hq => by
      obtain ⟨x, x1, x2⟩ := val q (by omega)
      rw [show (a0 : Int) + (q : Int) = ((a0 + q : Nat) : Int) by omega, x2]
      exact hm x (List.mem_of_getElem? x1)⟩, nx_e]
    obtain ⟨T, hT⟩ : ∃ T : St, T = cpyS S 69 68 (a0 : Int) (a0 : Int) ((w.length : Nat) : Int) := ⟨_, rfl⟩
    have v : ∀ z : Int, T 68 z = if (a0 : Int) ≤ z ∧ z < (a0 : Int) + ((w.length : Nat) : Int) then S 69 ((a0 : Int) + (z - (a0 : Int))) else S 68 z := fun z => by
      rw [hT]; unfold cpyS; rw [if_pos rfl]
    refine ⟨T, by rw [hT], by rw [hT]; exact kept.rf.cpy (by decide), fun i x hx => ?_, fun j hj => ?_, fun i hi => ?_⟩
    · have l := (List.getElem?_eq_some_iff.mp hx).1
      rw [v, if_pos (by omega), show (a0 : Int) + (((a0 + i : Nat) : Int) - (a0 : Int)) = ((a0 + i : Nat) : Int) by omega]
      exact hw i x hx
    · rw [v, if_neg (by omega)]
    · rw [v]
      by_cases z : (a0 : Int) ≤ (i : Int) ∧ (i : Int) < (a0 : Int) + ((w.length : Nat) : Int)
      · rw [if_pos z]
        obtain ⟨x, x1, x2⟩ := val (i - a0) (by omega)
        rw [show (a0 : Int) + ((i : Int) - (a0 : Int)) = ((a0 + (i - a0) : Nat) : Int) by omega, x2]
        exact hm x (List.mem_of_getElem? x1)
      · rw [if_neg z]; exact h4 i hi
theorem e_sort {S : St} {base a0 : Nat} {es : List (List Int)} {u : Int} (hu : u = 0 ∨ u = 1) (h : STs S base a0 es) (h6 : S 67 6 = 1) : ∃ T, mX10_sort S (base : Int) ((es.length : Nat) : Int) u = some T ∧ kept [68, 69] [(67, 6)] S T ∧ ((u ≠ 0 ∧ ¬ ndp es = true ∧ T 67 6 = 0) ∨ ((u = 0 ∨ ndp es = true) ∧ T 67 6 = 1 ∧ txA T a0 (srtT es).flatten ∧ (∀ j : Int, (j < (a0 : Int) ∨ ((a0 + es.flatten.length : Nat) : Int) ≤ j) → T 68 j = S 68 j) ∧ ∀ i : Nat, i < 40 → -128 ≤ T 68 (i : Int) ∧ T 68 (i : Int) ≤ 127)) := by
  have b := h.2.2.1
  have s0 := h.1 0 (by omega)
  rw [show (((es.take 0).flatten).length) = 0 from rfl, Nat.add_zero, Nat.add_zero] at s0
  obtain ⟨S1, s1, s2, s3, s4, s5⟩ := e_sort11 (base := base) (a0 := a0) hu es.length 0 FU S h (by omega) (by unfold FU; omega) (by rw [h6]; decide) (fun i x hx => by cases hx) (fun _ => Or.inl rfl)
  have h1 : STs S1 base a0 es := h.of (s2.cell 71 (by decide) (by decide)) (s2.cell 68 (by decide) (by decide))
  unfold anyD at s3 s4 s5
  rw [dup_nd] at s3 s4 s5
  have z0 : (sofar es 0).length = 0 := by unfold sofar; rw [List.take_zero]; rfl
  rw [z0, Nat.add_zero, show ((0 : Nat) : Int) = 0 from rfl] at s1
  unfold mX10_sort
  rw [gd_t (by omega), s0, nx_e, bd1_e s1]
  by_cases c : u ≠ 0 ∧ ¬ ndp es = true
  · have z := s3 c
    have e0 := h1.1 0 (by omega)
    have em := h1.1 es.length (Nat.le_refl _)
    rw [show (((es.take 0).flatten).length) = 0 from rfl, Nat.add_zero, Nat.add_zero] at e0
    refine ⟨S1, ?_, s2.mono (by decide) (by decide), Or.inl ⟨c.1, c.2, z⟩⟩
    have cb : mX10_copyBack S1 (base : Int) ((es.length : Nat) : Int) = some S1 := by
      unfold mX10_copyBack
      rw [gd_t (by omega), nx_e, gd_t (by omega), nx_e, z, gd_t (by decide), if_pos rfl]
    rw [bd1_e cb]
  · have ok : u = 0 ∨ ndp es = true := by
      rcases hu with y | y
      · exact Or.inl y
      · exact Or.inr (Classical.byContradiction fun n => c ⟨by omega, n⟩)
    have e6 : S1 67 6 = 1 := by rw [s4 c, h6]
    have wB := s5 (by rw [h6]; decide) c
    have sf : sofar es es.length = (srtT es).flatten := by
      unfold sofar
      rw [← (srtT_pm es).length_eq, List.take_length]
    rw [sf] at wB
    have pl := (srtT_pm es).flatten
    obtain ⟨T, t1, t2, t3, t4, t5⟩ := e_copyBack h1 e6 wB pl.length_eq (fun x hx => fl_mem h (pl.mem_iff.mp hx))
    refine ⟨T, by rw [bd1_e t1], (s2.mono (by decide) (by decide)).trans (t2.mono (by decide) (by decide)), Or.inr ⟨ok, ?_, t3, fun j hj => ?_, t5⟩⟩
    · rw [t2.cell 67 (by decide) (by decide)]; exact e6
    · rw [pl.length_eq] at t4
      rw [t4 j hj, s2.cell 68 (by decide) (by decide)]
