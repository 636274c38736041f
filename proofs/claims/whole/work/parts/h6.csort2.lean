/-! the class reads a text: the sort -/
/-- there is another like it, from a place on -/
def dupF (es : List (List Int)) (i j : Nat) : Prop := ∃ k, j ≤ k ∧ k < es.length ∧ k ≠ i ∧ ixl es k = ixl es i
theorem e_pl6 {base a0 i : Nat} {es : List (List Int)} {u : Int} (hu : u = 0 ∨ u = 1) (hi : i < es.length) : ∀ (d j f : Nat) (S : St), STs S base a0 es → j + d = es.length → d < f → ∃ T, mX10_placeOf_6 ((base + i : Nat) : Int) (base : Int) ((es.length : Nat) : Int) u f ((base + j : Nat) : Int) ((plc es i j : Nat) : Int) S = some (((plc es i es.length : Nat) : Int), T) ∧ kept [] [(67, 6)] S T ∧ (u ≠ 0 ∧ dupF es i j → T 67 6 = 0) ∧ (¬ (u ≠ 0 ∧ dupF es i j) → T = S) ∧ (T 67 6 = 0 ∨ T = S) := by
  intro d
  induction d with
  | zero =>
    intro j f S h hj hf
    obtain ⟨f, rfl⟩ : ∃ g, f = g + 1 := ⟨f - 1, by omega⟩
    have b := h.2.2.1
    have ej : j = es.length := by omega
    subst ej
    refine ⟨S, ?_, kept.rf, fun q => ?_, fun _ => rfl, Or.inr rfl⟩
    · rw [mX10_placeOf_6, gd_t (by omega), if_pos (by omega)]
    · obtain ⟨_, k, k1, k2, _⟩ := q; omega
  | succ d ih =>
    intro j f S h hj hf
    obtain ⟨f, rfl⟩ : ∃ g, f = g + 1 := ⟨f - 1, by omega⟩
    have b := h.2.2.1
    have hjl : j < es.length := by omega
    obtain ⟨v, cmp, vI, v1, v2⟩ := e_compare h hjl hi
    have c3 := lxc_3 (ixl es j) (ixl es i)
    have ps : plc es i (j + 1) = plc es i j + (if befb es j i = true then 1 else 0) := sm_s
    rw [mX10_placeOf_6, gd_t (by omega), if_neg (by omega)]
    by_cases c : j = i
    · -- itself
      have z13 : (gd (inI ((base + i : Nat) : Int)) <| if ((base + j : Nat) : Int) = ((base + i : Nat) : Int) then (some (1 : Int)) else (bd1 (mX10_compare S ((base + j : Nat) : Int) ((base + i : Nat) : Int)) fun r_32 => some (r_32))) = some 1 := by rw [gd_t (by omega), if_pos (by omega)]
      rw [bd1_e z13, gd_t (by decide), if_neg (by decide), bd1_s, gd_t (by decide), if_neg (by decide), if_neg (by decide)]
      obtain ⟨T, t1, t2, t3, t4, t5⟩ := ih (j + 1) f S h (by omega) (by omega)
      rw [show ((base + (j + 1) : Nat) : Int) = ((base + j : Nat) : Int) + 1 by omega, ps, if_neg (fun q => by rw [c] at q; exact bef_ir (befb_t.mp q)), Nat.add_zero] at t1
      refine ⟨T, t1, t2, fun q => t3 ⟨q.1, ?_⟩, fun q => t4 fun w => q ⟨w.1, ?_⟩, t5⟩
      · obtain ⟨k, k1, k2, k3, k4⟩ := q.2
        exact ⟨k, by omega, k2, k3, k4⟩
      · obtain ⟨k, k1, k2, k3, k4⟩ := w.2
        exact ⟨k, by omega, k2, k3, k4⟩
    · have z13 : (gd (inI ((base + i : Nat) : Int)) <| if ((base + j : Nat) : Int) = ((base + i : Nat) : Int) then (some (1 : Int)) else (bd1 (mX10_compare S ((base + j : Nat) : Int) ((base + i : Nat) : Int)) fun r_32 => some (r_32))) = some v := by rw [gd_t (by omega), if_neg (by omega), bd1_e cmp]
      rw [bd1_e z13, gd_t (by omega)]
      by_cases z : lxc (ixl es j) (ixl es i) = 0
      · have ze := lxc_0 z
        have zv := v2.mpr z
        rw [if_pos zv]
        have nx1 : ∀ T1 : St, T1 = (if u = 0 then S else up S 67 6 0) → (if v < 0 then (mX10_placeOf_6 ((base + i : Nat) : Int) (base : Int) ((es.length : Nat) : Int) u f (((base + j : Nat) : Int) + 1) (((plc es i j : Nat) : Int) + 1) T1) else (if v = 0 then (gd (inI ((base + i : Nat) : Int)) <| if ((base + i : Nat) : Int) ≤ ((base + j : Nat) : Int) then (mX10_placeOf_6 ((base + i : Nat) : Int) (base : Int) ((es.length : Nat) : Int) u f (((base + j : Nat) : Int) + 1) ((plc es i j : Nat) : Int) T1) else (mX10_placeOf_6 ((base + i : Nat) : Int) (base : Int) ((es.length : Nat) : Int) u f (((base + j : Nat) : Int) + 1) (((plc es i j : Nat) : Int) + 1) T1)) else (mX10_placeOf_6 ((base + i : Nat) : Int) (base : Int) ((es.length : Nat) : Int) u f (((base + j : Nat) : Int) + 1) ((plc es i j : Nat) : Int) T1))) = mX10_placeOf_6 ((base + i : Nat) : Int) (base : Int) ((es.length : Nat) : Int) u f ((base + (j + 1) : Nat) : Int) ((plc es i (j + 1) : Nat) : Int) T1 := fun T1 _ => by
          rw [if_neg (by omega), if_pos zv, gd_t (by omega), show ((base + (j + 1) : Nat) : Int) = ((base + j : Nat) : Int) + 1 by omega, ps]
          by_cases l : j < i
          · rw [if_neg (by omega), if_pos (befb_t.mpr (Or.inr ⟨z, l⟩))]; rfl
          · rw [if_pos (by omega), if_neg (fun q => by
              rcases befb_t.mp q with y | y <;> omega), Nat.add_zero]
        rcases hu with hu | hu
        · have gu : (gd (inI u) <| if u = 0 then (some (S)) else (nx (up S 67 6 0) fun S_28 => some (S_28))) = some S := by rw [gd_t (by omega), if_pos hu]
          rw [bd1_e gu, gd_t (by omega), nx1 S (by rw [if_pos hu])]
          obtain ⟨T, t1, t2, t3, t4, t5⟩ := ih (j + 1) f S h (by omega) (by omega)
          exact ⟨T, t1, t2, fun q => absurd hu q.1, fun _ => t4 fun w => absurd hu w.1, t5⟩
        · have gu : (gd (inI u) <| if u = 0 then (some (S)) else (nx (up S 67 6 0) fun S_28 => some (S_28))) = some (up S 67 6 0) := by rw [gd_t (by omega), if_neg (by omega)]; rfl
          rw [bd1_e gu, gd_t (by omega), nx1 (up S 67 6 0) (by rw [if_neg (by omega)])]
          obtain ⟨T, t1, t2, t3, t4, t5⟩ := ih (j + 1) f (up S 67 6 0) (h.of rfl rfl) (by omega) (by omega)
          have t0 : T 67 6 = 0 := by
            rcases t5 with q | q
            · exact q
            · rw [q, up_eq]
          exact ⟨T, t1, (kept.rf.upF (by decide)).trans t2, fun _ => t0, fun q => absurd ⟨by omega, j, Nat.le_refl _, hjl, c, ze⟩ q, Or.inl t0⟩
      · have nv : ¬ v = 0 := fun w => z (v2.mp w)
        rw [if_neg nv, bd1_s, gd_t (by omega)]
        have dd : dupF es i j ↔ dupF es i (j + 1) := by
          constructor
          · rintro ⟨k, k1, k2, k3, k4⟩
            by_cases e : k = j
            · subst e
              exact absurd (by rw [k4]; exact lxc_rf _) z
            · exact ⟨k, by omega, k2, k3, k4⟩
          · rintro ⟨k, k1, k2, k3, k4⟩
            exact ⟨k, by omega, k2, k3, k4⟩
        obtain ⟨T, t1, t2, t3, t4, t5⟩ := ih (j + 1) f S h (by omega) (by omega)
        rw [show ((base + (j + 1) : Nat) : Int) = ((base + j : Nat) : Int) + 1 by omega, ps] at t1
        rw [← dd] at t3 t4
        by_cases l : lxc (ixl es j) (ixl es i) < 0
        · rw [if_pos (v1.mpr l)]
          rw [if_pos (befb_t.mpr (Or.inl l))] at t1
          exact ⟨T, t1, t2, t3, t4, t5⟩
        · rw [if_neg (fun w => l (v1.mp w)), if_neg nv]
          rw [if_neg (fun q => by
            rcases befb_t.mp q with y | y <;> omega), Nat.add_zero] at t1
          exact ⟨T, t1, t2, t3, t4, t5⟩
theorem e_placeOf {base a0 i : Nat} {es : List (List Int)} {u : Int} (hu : u = 0 ∨ u = 1) (hi : i < es.length) {S : St} (h : STs S base a0 es) : ∃ T, mX10_placeOf S ((base + i : Nat) : Int) (base : Int) ((es.length : Nat) : Int) u = some (((plc es i es.length : Nat) : Int), T) ∧ kept [] [(67, 6)] S T ∧ (u ≠ 0 ∧ dupF es i 0 → T 67 6 = 0) ∧ (¬ (u ≠ 0 ∧ dupF es i 0) → T = S) ∧ (T 67 6 = 0 ∨ T = S) := by
  have b := h.2.2.1
  obtain ⟨T, t1, t2⟩ := e_pl6 hu hi es.length 0 FU S h (by omega) (by unfold FU; omega)
  refine ⟨T, ?_, t2⟩
  unfold mX10_placeOf
  rw [bd2_e (show mX10_placeOf_6 ((base + i : Nat) : Int) (base : Int) ((es.length : Nat) : Int) u FU (base : Int) 0 S = _ from t1)]
/-- a text in the other row -/
def txB (S : St) (a : Nat) (w : List Int) : Prop := ∀ (i : Nat) (x : Int), w[i]? = some x → S 69 ((a + i : Nat) : Int) = x
theorem txB.app {S : St} {a : Nat} {u w : List Int} (h1 : txB S a u) (h2 : txB S (a + u.length) w) : txB S a (u ++ w) := fun i x hx => by
  by_cases c : i < u.length
  · rw [List.getElem?_append_left c] at hx; exact h1 i x hx
  · rw [List.getElem?_append_right (by omega)] at hx
    have := h2 (i - u.length) x hx
    rw [show a + u.length + (i - u.length) = a + i by omega] at this
    exact this
def sofar (es : List (List Int)) (k : Nat) : List Int := ((srtT es).take k).flatten
theorem sofar_s {es : List (List Int)} {k i : Nat} (hi : i < es.length) (hk : plc es i es.length = k) : sofar es (k + 1) = sofar es k ++ ixl es i := by
  have q := plc_m (es := es) hi
  have l : k < (srtT es).length := by rw [(srtT_pm es).length_eq]; omega
  unfold sofar
  rw [tk_s l, List.flatten_append]
  have e := srt_plc i hi
  rw [hk] at e
  rw [e, List.flatten_cons]
  show _ ++ (ixl es i ++ []) = _
  rw [List.append_nil]
theorem flat_take {l : List (List Int)} (k : Nat) : (l.take k).flatten.length ≤ l.flatten.length := by
  conv => rhs; rw [← List.take_append_drop k l, List.flatten_append, List.length_append]
  omega
theorem sofar_le {es : List (List Int)} {k : Nat} : (sofar es k).length ≤ es.flatten.length := by
  unfold sofar
  refine Nat.le_trans (flat_take k) ?_
  rw [((srtT_pm es).flatten).length_eq]
  exact Nat.le_refl _
theorem e_sort27 {base a0 k i0 : Nat} {es : List (List Int)} {u : Int} (hu : u = 0 ∨ u = 1) (hi0 : i0 < es.length) (hp : plc es i0 es.length = k) : ∀ (d i f : Nat) (S : St), STs S base a0 es → i + d = es.length → d < f → txB S a0 (sofar es (if i0 < i then k + 1 else k)) → ∃ T, mX10_sort_27 (k : Int) (base : Int) ((es.length : Nat) : Int) u f ((base + i : Nat) : Int) ((a0 + (sofar es (if i0 < i then k + 1 else k)).length : Nat) : Int) S = some (((a0 + (sofar es (k + 1)).length : Nat) : Int), T) ∧ kept [69] [(67, 6)] S T ∧ txB T a0 (sofar es (k + 1)) ∧ ((∃ j, i ≤ j ∧ j < es.length ∧ u ≠ 0 ∧ dupF es j 0) → T 67 6 = 0) ∧ (¬ (∃ j, i ≤ j ∧ j < es.length ∧ u ≠ 0 ∧ dupF es j 0) → T 67 6 = S 67 6) ∧ (T 67 6 = 0 ∨ T 67 6 = S 67 6) := by
  intro d
  induction d with
  | zero =>
    intro i f S h hj hf hB
    obtain ⟨f, rfl⟩ : ∃ g, f = g + 1 := ⟨f - 1, by omega⟩
    have b := h.2.2.1
    rw [if_pos (by omega)] at hB ⊢
    refine ⟨S, ?_, kept.rf, hB, fun q => ?_, fun _ => rfl, Or.inr rfl⟩
    · rw [mX10_sort_27, gd_t (by omega), if_pos (by omega)]
    · obtain ⟨k, k1, k2, _⟩ := q; omega
  | succ d ih =>
    intro i f S h hj hf hB
    obtain ⟨f, rfl⟩ : ∃ g, f = g + 1 := ⟨f - 1, by omega⟩
    have b := h.2.2.1
    have hil : i < es.length := by omega
    obtain ⟨S1, s1, s2, s3, s4, s5⟩ := e_placeOf hu hil h
    have h1 : STs S1 base a0 es := h.of (s2.cell 71 (by decide) (by decide)) (s2.cell 68 (by decide) (by decide))
    have e69 : S1 69 = S 69 := s2.cell 69 (by decide) (by decide)
    rw [mX10_sort_27, gd_t (by omega), if_neg (by omega), bd2_e s1, gd_t (by have := plc_m (es := es) hil; omega)]
    -- the flags, whatever is done then
    have flags : ∀ T : St, (∃ j, i + 1 ≤ j ∧ j < es.length ∧ u ≠ 0 ∧ dupF es j 0 → T 67 6 = 0) → True := fun _ _ => trivial
    have fin : ∀ T : St, ((∃ j, i + 1 ≤ j ∧ j < es.length ∧ u ≠ 0 ∧ dupF es j 0) → T 67 6 = 0) → (¬ (∃ j, i + 1 ≤ j ∧ j < es.length ∧ u ≠ 0 ∧ dupF es j 0) → T 67 6 = S1 67 6) → (T 67 6 = 0 ∨ T 67 6 = S1 67 6) → ((∃ j, i ≤ j ∧ j < es.length ∧ u ≠ 0 ∧ dupF es j 0) → T 67 6 = 0) ∧ (¬ (∃ j, i ≤ j ∧ j < es.length ∧ u ≠ 0 ∧ dupF es j 0) → T 67 6 = S 67 6) ∧ (T 67 6 = 0 ∨ T 67 6 = S 67 6) := fun T q1 q2 q3 => by
      refine ⟨fun ⟨j, j1, j2, j3, j4⟩ => ?_, fun n => ?_, ?_⟩
      · by_cases e : j = i
        · subst e
          have := s3 ⟨j3, j4⟩
          rcases q3 with y | y
          · exact y
          · rw [y, this]
        · exact q1 ⟨j, by omega, j2, j3, j4⟩
      · rw [q2 (fun ⟨j, j1, j2, j3, j4⟩ => n ⟨j, by omega, j2, j3, j4⟩), s4 (fun w => n ⟨i, Nat.le_refl _, hil, w.1, w.2⟩)]
      · rcases q3 with y | y
        · exact Or.inl y
        · rcases s5 with z | z
          · exact Or.inl (by rw [y, z])
          · exact Or.inr (by rw [y, z])
    by_cases c : i = i0
    · subst c
      rw [if_neg (show ¬ i < i by omega)] at hB ⊢
      obtain ⟨x1, x2, x3, x4⟩ := h1.at hil
      have ss := sofar_s hil hp
      have sl := sofar_le (es := es) (k := k + 1)
      rw [ss, List.length_append] at sl
      rw [if_pos (show ((plc es i es.length : Nat) : Int) = (k : Int) by rw [hp]), gd_t (by omega), gd_t (by omega), nx_e, x1, x2]
      have ex : (((a0 + ((es.take i).flatten).length + (ixl es i).length : Nat) : Int) - ((a0 + ((es.take i).flatten).length : Nat) : Int)) = (((ixl es i).length : Nat) : Int) := by omega
      rw [ex, gd_t ⟨by omega, fun q hq => by
        have := h1.2.2.2 (a0 + ((es.take i).flatten).length + q) (by omega)
        rw [show ((a0 + ((es.take i).flatten).length : Nat) : Int) + (q : Int) = ((a0 + ((es.take i).flatten).length + q : Nat) : Int) by omega]
        exact this⟩, nx_e, nx_e]
      obtain ⟨S2, hS2⟩ : ∃ S2 : St, S2 = cpyS S1 68 69 ((a0 + ((es.take i).flatten).length : Nat) : Int) ((a0 + (sofar es k).length : Nat) : Int) (((ixl es i).length : Nat) : Int) := ⟨_, rfl⟩
      have k2 : kept [69] [] S1 S2 := by rw [hS2]; exact kept.rf.cpy (by decide)
      have v2 : ∀ z : Int, S2 69 z = if ((a0 + (sofar es k).length : Nat) : Int) ≤ z ∧ z < ((a0 + (sofar es k).length : Nat) : Int) + (((ixl es i).length : Nat) : Int) then S1 68 (((a0 + ((es.take i).flatten).length : Nat) : Int) + (z - ((a0 + (sofar es k).length : Nat) : Int))) else S1 69 z := fun z => by
        rw [hS2]; unfold cpyS; rw [if_pos rfl]
      have hB2 : txB S2 a0 (sofar es (k + 1)) := by
        rw [ss]
        refine txB.app (fun j x hx => ?_) (fun j x hx => ?_)
        · have lj := (List.getElem?_eq_some_iff.mp hx).1
          rw [v2, if_neg (by omega), e69]
          exact hB j x hx
        · have lj := (List.getElem?_eq_some_iff.mp hx).1
          rw [v2, if_pos (by omega)]
          have := x3 j x hx
          rw [show ((a0 + ((es.take i).flatten).length : Nat) : Int) + (((a0 + (sofar es k).length + j : Nat) : Int) - ((a0 + (sofar es k).length : Nat) : Int)) = ((a0 + ((es.take i).flatten).length + j : Nat) : Int) by omega]
          exact this
      have h2 : STs S2 base a0 es := h1.of (k2.cell 71 (by decide) (by decide)) (k2.cell 68 (by decide) (by decide))
      obtain ⟨T, t1, t2, t3, t4, t5, t6⟩ := ih (i + 1) f S2 h2 (by omega) (by omega) (by rw [if_pos (by omega)]; exact hB2)
      rw [if_pos (by omega), show ((base + (i + 1) : Nat) : Int) = ((base + i : Nat) : Int) + 1 by omega, show ((a0 + (sofar es (k + 1)).length : Nat) : Int) = ((a0 + (sofar es k).length : Nat) : Int) + (((ixl es i).length : Nat) : Int) by rw [ss, List.length_append]; omega] at t1
      have e66 : S2 67 6 = S1 67 6 := by rw [k2.cell 67 (by decide) (by decide)]
      rw [e66] at t5 t6
      refine ⟨T, ?_, ((s2.mono (by decide) (by decide)).trans (k2.mono (by decide) (by decide))).trans t2, t3, fin T t4 t5 t6⟩
      rw [← hS2, t1, ss, List.length_append]
      exact congrArg (fun z => some (z, T)) (by omega)
    · rw [if_neg (show ¬ ((plc es i es.length : Nat) : Int) = (k : Int) from fun e => c (plc_inj (es := es) (m := es.length) hil hi0 (by omega)))]
      have hB2 : txB S1 a0 (sofar es (if i0 < i + 1 then k + 1 else k)) := by
        have : (if i0 < i + 1 then k + 1 else k) = (if i0 < i then k + 1 else k) := by
          by_cases z : i0 < i
          · rw [if_pos z, if_pos (show i0 < i + 1 by omega)]
          · rw [if_neg z, if_neg (show ¬ i0 < i + 1 from fun q => z (Nat.lt_of_le_of_ne (Nat.le_of_lt_succ q) (fun e => c e.symm)))]
        rw [this]
        intro j x hx
        rw [e69]; exact hB j x hx
      obtain ⟨T, t1, t2, t3, t4, t5, t6⟩ := ih (i + 1) f S1 h1 (by omega) (by omega) hB2
      have : (if i0 < i + 1 then k + 1 else k) = (if i0 < i then k + 1 else k) := by
        by_cases z : i0 < i
        · rw [if_pos z, if_pos (show i0 < i + 1 by omega)]
        · rw [if_neg z, if_neg (show ¬ i0 < i + 1 from fun q => z (Nat.lt_of_le_of_ne (Nat.le_of_lt_succ q) (fun e => c e.symm)))]
      rw [this, show ((base + (i + 1) : Nat) : Int) = ((base + i : Nat) : Int) + 1 by omega] at t1
      exact ⟨T, t1, (s2.mono (by decide) (by decide)).trans t2, t3, fin T t4 t5 t6⟩
