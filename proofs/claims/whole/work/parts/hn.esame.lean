/-! two nodes are the same when their texts are -/
theorem ch_len {M : Int → Int} {D D' : Nat → Nat × List Int × Nat → Prop} : ∀ {l m : List (Nat × List Int × Nat)} {q : Int}, chD M D q l → chD M D' q m → l.length = m.length := by
  intro l
  induction l with
  | nil =>
    intro m q h k
    cases m with
    | nil => rfl
    | cons y m => have h' : q < 0 := h; obtain ⟨k1, _⟩ := k; omega
  | cons x l ih =>
    intro m q h k
    obtain ⟨h1, h2, h3⟩ := h
    cases m with
    | nil => have k' : q < 0 := k; omega
    | cons y m =>
      obtain ⟨k1, k2, k3⟩ := k
      show l.length + 1 = m.length + 1
      rw [ih h3 k3]
theorem ch_pr {M : Int → Int} {D D' : Nat → Nat × List Int × Nat → Prop} : ∀ {l m : List (Nat × List Int × Nat)} {q : Int} (k : Nat) {x y : Nat × List Int × Nat}, chD M D q l → chD M D' q m → l[k]? = some x → m[k]? = some y → ∃ p, D p x ∧ D' p y := by
  intro l
  induction l with
  | nil => intro m q k x y _ _ e; cases e
  | cons x l ih =>
    intro m q k x' y' h g e1 e2
    cases m with
    | nil => cases e2
    | cons y m =>
      obtain ⟨h1, h2, h3⟩ := h
      obtain ⟨g1, g2, g3⟩ := g
      cases k with
      | zero => cases e1; cases e2; exact ⟨_, h2, g2⟩
      | succ k => exact ih k h3 g3 e1 e2
theorem ch_dec {M : Int → Int} {D D' : Nat → Nat × List Int × Nat → Prop} (hD : ∀ p x, D p x → FXD M p x.2.1 x.2.2) (hD' : ∀ p x, D' p x → FXD M p x.2.1 x.2.2) : ∀ {l m : List (Nat × List Int × Nat)} {q : Int} {u v : List Int}, chD M D q l → chD M D' q m → flM l ++ u = flM m ++ v → mpC l = mpC m := by
  intro l
  induction l with
  | nil =>
    intro m q u v h k _
    have := ch_len h k
    rw [List.eq_nil_of_length_eq_zero this.symm]
  | cons x l ih =>
    intro m q u v h k e
    cases m with
    | nil => have := ch_len h k; cases this
    | cons y m =>
      obtain ⟨h1, h2, h3⟩ := h
      obtain ⟨k1, k2, k3⟩ := k
      have e' : x.2.1 ++ (flM l ++ u) = y.2.1 ++ (flM m ++ v) := by
        rw [← List.append_assoc, ← List.append_assoc]; exact e
      obtain ⟨a, _, b⟩ := (hD _ _ h2).dec (hD' _ _ k2) e'
      show x.2.1 :: mpC l = y.2.1 :: mpC m
      rw [a, ih h3 k3 b]
theorem fl_dec {M : Int → Int} {p : Nat} : ∀ A B : List (List Int), (∀ a ∈ A, 1 ≤ a.length ∧ ∃ n, FXD M p a n) → (∀ a ∈ B, 1 ≤ a.length ∧ ∃ n, FXD M p a n) → A.flatten = B.flatten → A = B := by
  intro A
  induction A with
  | nil =>
    intro B _ h e
    cases B with
    | nil => rfl
    | cons b B =>
      have := (h b (List.mem_cons_self ..)).1
      have e' : ([] : List Int) = b ++ B.flatten := e
      rw [(List.append_eq_nil_iff.mp e'.symm).1] at this
      exact absurd this (by decide)
  | cons a A ih =>
    intro B h k e
    cases B with
    | nil =>
      have := (h a (List.mem_cons_self ..)).1
      have e' : a ++ A.flatten = ([] : List Int) := e
      rw [(List.append_eq_nil_iff.mp e').1] at this
      exact absurd this (by decide)
    | cons b B =>
      obtain ⟨n, hn⟩ := (h a (List.mem_cons_self ..)).2
      obtain ⟨n', hn'⟩ := (k b (List.mem_cons_self ..)).2
      obtain ⟨r1, _, r2⟩ := hn.dec hn' (u := A.flatten) (u' := B.flatten) e
      rw [r1, ih B (fun x hx => h x (List.mem_cons_of_mem _ hx)) (fun x hx => k x (List.mem_cons_of_mem _ hx)) r2]
theorem e_as {S : St} {g a b : Nat} {P : Prop} (ha : a < 1024) (hb : b < 1024) (hI : ∀ (c : Nat) (j : Nat), 99 ≤ c → c ≤ 103 → j < 1024 → inI (S c (j : Int))) (e9 : S 99 (a : Int) = S 99 (b : Int)) (hP : P → S 100 (a : Int) = S 100 (b : Int) ∧ S 101 (a : Int) = S 101 (b : Int)) (hK : S 100 (a : Int) = S 100 (b : Int) → S 101 (a : Int) = S 101 (b : Int) → (if S 99 (a : Int) = 4 ∨ S 99 (a : Int) = 5 then ans (RX12_areSame (g + 1) 1 (a : Int) (b : Int) 0 S) P else if S 99 (a : Int) = 6 then ans (nx (S 102 (b : Int)) fun x_15 => bd1 (mX12_areSame_105 (RX12_areSame (g + 1)) S (a : Int) (b : Int) FU x_15) fun t_17 => if t_17 = 0 then (some (1)) else (some (0))) P else ans (RX12_areSame (g + 1) 2 (a : Int) (b : Int) (S 102 (b : Int)) S) P)) : ans (RX12_areSame (g + 2) 0 (a : Int) (b : Int) 0 S) P := by
  show ans (if (0 : Nat) = 0 then (bX12_areSame (RX12_areSame (g + 1)) S (a : Int) (b : Int)) else _) P
  rw [if_pos rfl]
  unfold bX12_areSame
  have i9 := hI 99 a (by omega) (by omega) ha
  have j9 := hI 99 b (by omega) (by omega) hb
  have i0 := hI 100 a (by omega) (by omega) ha
  have j0 := hI 100 b (by omega) (by omega) hb
  have i1 := hI 101 a (by omega) (by omega) ha
  have j1 := hI 101 b (by omega) (by omega) hb
  rw [gd_t (by omega), gd_t (by omega), gd_t ⟨i9, j9⟩, if_pos e9, gd_t ⟨i0, j0⟩]
  by_cases c0 : S 100 (a : Int) = S 100 (b : Int)
  · rw [if_pos c0, gd_t ⟨i1, j1⟩]
    by_cases c1 : S 101 (a : Int) = S 101 (b : Int)
    · rw [if_pos c1]
      have k := hK c0 c1
      have bit : ∀ {o : Option Int}, ans o P → ans (bd1 o fun r_11 => gd (r_11 = 0 ∨ r_11 = 1) <| some (r_11)) P := by
        intro o h
        obtain ⟨z, z1, z2⟩ := h
        refine ⟨z, ?_, z2⟩
        rw [bd1_e z1, gd_t (by rcases z2 with ⟨e, _⟩ | ⟨e, _⟩ <;> omega)]
      by_cases c4 : S 99 (a : Int) = 4
      · rw [if_pos (Or.inl c4)] at k
        rw [if_pos c4]
        exact bit k
      · rw [if_neg c4]
        by_cases c5 : S 99 (a : Int) = 5
        · rw [if_pos (Or.inr c5)] at k
          rw [if_pos c5]
          exact bit k
        · rw [if_neg c5]
          rw [if_neg (by omega)] at k
          by_cases c6 : S 99 (a : Int) = 6
          · rw [if_pos c6] at k ⊢
            exact k
          · rw [if_neg c6] at k ⊢
            exact bit k
    · rw [if_neg c1]
      exact ⟨0, rfl, Or.inr ⟨rfl, fun p => c1 (hP p).2⟩⟩
  · rw [if_neg c0]
    exact ⟨0, rfl, Or.inr ⟨rfl, fun p => c0 (hP p).1⟩⟩
theorem flM_len : ∀ l : List (Nat × List Int × Nat), (∀ y ∈ l, 1 ≤ y.2.1.length) → l.length ≤ (flM l).length ∧ ∀ y ∈ l, y.2.1.length ≤ (flM l).length := by
  intro l
  induction l with
  | nil => intro _; exact ⟨Nat.zero_le _, fun y hy => (by cases hy)⟩
  | cons x l ih =>
    intro h
    obtain ⟨h1, h2⟩ := ih (fun y hy => h y (List.mem_cons_of_mem _ hy))
    have hx := h x (List.mem_cons_self ..)
    have e : (flM (x :: l)).length = x.2.1.length + (flM l).length := by
      show (x.2.1 ++ flM l).length = _
      rw [List.length_append]
    refine ⟨by show l.length + 1 ≤ _; omega, fun y hy => ?_⟩
    rcases List.mem_cons.mp hy with q | q
    · rw [q]; omega
    · have := h2 y q; omega
theorem ch_all {M : Int → Int} {D : Nat → Nat × List Int × Nat → Prop} : ∀ {l : List (Nat × List Int × Nat)} {q : Int}, chD M D q l → ∀ y ∈ l, ∃ p, D p y := by
  intro l
  induction l with
  | nil => intro q _ y hy; cases hy
  | cons x l ih =>
    intro q h y hy
    obtain ⟨h1, h2, h3⟩ := h
    rcases List.mem_cons.mp hy with e | e
    · rw [e]; exact ⟨_, h2⟩
    · exact ih h3 y e
/-- a chain of two or more: each is shorter -/
theorem flM_two {l : List (Nat × List Int × Nat)} (h : ∀ y ∈ l, 1 ≤ y.2.1.length) (k : 2 ≤ l.length) : ∀ y ∈ l, y.2.1.length + 1 ≤ (flM l).length := by
  match l, k with
  | x :: z :: l, _ =>
    intro y hy
    have hx := h x (List.mem_cons_self ..)
    have hz := h z (List.mem_cons_of_mem _ (List.mem_cons_self ..))
    have e : (flM (x :: z :: l)).length = x.2.1.length + (flM (z :: l)).length := by
      show (x.2.1 ++ flM (z :: l)).length = _
      rw [List.length_append]
    obtain ⟨f1, f2⟩ := flM_len (z :: l) (fun y hy => h y (List.mem_cons_of_mem _ hy))
    have f1' : l.length + 1 ≤ (flM (z :: l)).length := f1
    rcases List.mem_cons.mp hy with q | q
    · rw [q]; omega
    · have := f2 y q; omega
theorem ty_ex {M : Int → Int} {p : Nat} {A B C : Prop} (h : M (24 + (p : Int)) ≤ 1 ∧ A ∨ (M (24 + (p : Int)) = 2 ∨ M (24 + (p : Int)) = 7) ∧ B ∨ (3 ≤ M (24 + (p : Int)) ∧ M (24 + (p : Int)) ≤ 6) ∧ C) : (M (24 + (p : Int)) ≤ 1 → A) ∧ ((M (24 + (p : Int)) = 2 ∨ M (24 + (p : Int)) = 7) → B) ∧ (3 ≤ M (24 + (p : Int)) ∧ M (24 + (p : Int)) ≤ 6 → C) := by
  rcases h with ⟨h1, h2⟩ | ⟨h1, h2⟩ | ⟨h1, h2⟩
  · exact ⟨fun _ => h2, fun _ => by omega, fun _ => by omega⟩
  · exact ⟨fun _ => by omega, fun _ => h2, fun _ => by omega⟩
  · exact ⟨fun _ => by omega, fun _ => by omega, fun _ => h2⟩
theorem e_same {M : Int → Int} {S : St} {hi hj : Nat} (hi4 : hi ≤ 1024) (hj4 : hj ≤ 1024) (hI : ∀ (c : Nat) (j : Nat), 99 ≤ c → c ≤ 103 → j < 1024 → inI (S c (j : Int))) : ∀ (f f' g p lo lo' : Nat) (x y : Nat × List Int × Nat), ND M S hi f lo p x → ND M S hj f' lo' p y → x.2.1.length ≤ 55 → 2 * x.2.1.length ≤ g → SMd S g x y := by
  intro f
  induction f with
  | zero => intro f' g p lo lo' x y h; exact h.elim
  | succ f ih =>
    intro f' g p lo lo' x y hx hy l55 hg
    cases f' with
    | zero => exact hy.elim
    | succ f' =>
      obtain ⟨x1', x2, x3, x4⟩ := hx.c
      obtain ⟨y1', y2, y3, y4⟩ := hy.c
      have x1 : x.1 < 1024 := by omega
      have y1 : y.1 < 1024 := by omega
      obtain ⟨g, rfl⟩ : ∃ g', g = g' + 2 := ⟨g - 2, by omega⟩
      have hsz : x.2.1 = y.2.1 → S 101 (x.1 : Int) = S 101 (y.1 : Int) := fun e => by
        have := x2.dec y2 (u := []) (u' := []) (by rw [e])
        rw [x4, y4, this.2.1]
      refine ans.of (P := x.2.1 = y.2.1) ?_
      rcases hx.2 with ⟨t, a1, a2, a3, a4⟩ | ⟨t, sg, a⟩ | ⟨t, sg, a1, T, l, a2, a3, a4, a5, a6⟩ | ⟨t, a1, l, a2, a3, a3', a4, a5, a6⟩
      · -- leaf
        rcases hy.2 with ⟨t', b1, b2, b3, b4⟩ | ⟨t', _⟩ | ⟨t', _⟩ | ⟨t', _⟩
        · refine e_as x1 y1 hI (by rw [a1, b1]) (fun e => ⟨by rw [a2, b2], hsz e⟩) (fun _ _ => ?_)
          rw [if_neg (by omega), if_neg (by omega)]
          have fr := e_from (g := g) (a := x.1) (b := y.1) (l := []) (m := []) (r := S 102 (y.1 : Int)) x1 y1 (hI 102 y.1 (by omega) (by omega) y1) rfl (by decide) a3 trivial (fun j hj => hI 103 j (by omega) (by omega) hj) (fun k x y h => by cases h)
          rw [if_pos rfl] at fr
          exact ⟨1, fr, Or.inl ⟨rfl, by rw [a4, b4]⟩⟩
        all_goals omega
      · -- one part alone
        rcases hy.2 with ⟨t', _⟩ | ⟨t', sg', b⟩ | ⟨t', sg', _⟩ | ⟨t', _⟩
        · omega
        · exact ans.mk (ih f' (g + 2) _ _ _ x y a b l55 hg)
        · exact absurd sg sg'
        · omega
      · -- a term
        rcases hy.2 with ⟨t', _⟩ | ⟨t', sg', _⟩ | ⟨t', sg', b1, T', m, b2, b3, b4, b5, b6⟩ | ⟨t', _⟩
        · omega
        · exact absurd sg' sg
        · have hT : x.2.1 = y.2.1 → T = T' := fun e => by
            rw [a6, b6] at e
            unfold dgT at e
            by_cases c : cnE M (exN M p) ≤ 1
            · omega
            · rw [if_neg c, if_neg c] at e
              have := (List.cons.inj e).1
              omega
          refine e_as x1 y1 hI (by rw [a1, b1]) (fun e => ⟨by rw [a3, b3, hT e], hsz e⟩) (fun c0 _ => ?_)
          have eT : T = T' := by rw [a3, b3] at c0; omega
          subst eT
          rw [if_neg (by omega), if_neg (by omega)]
          have ll := ch_len a5 b5
          have all : ∀ z ∈ l, 1 ≤ z.2.1.length := fun z hz => by
            obtain ⟨q, hq⟩ := ch_all a5 z hz
            exact hq.c.2.2.1
          obtain ⟨f1, f2⟩ := flM_len l all
          have lc : x.2.1.length = (dgT M (exN M p) T).length + (flM l).length := by rw [a6, List.length_append]
          have small : ∀ z ∈ l, z.2.1.length + 1 ≤ x.2.1.length := fun z hz => by
            by_cases c : cnE M (exN M p) ≤ 1
            · -- a chain of two
              have two : 2 ≤ l.length := by
                match l, a5, hz with
                | [z'], a5, _ =>
                  exfalso
                  obtain ⟨_, _, a7⟩ := a5
                  have a8 : M (96 + fpM M (exN M p) T) < 0 := a7
                  have eT : T = 0 := by omega
                  rw [eT] at a8
                  exact sg ⟨by omega, a8⟩
                | z1 :: z2 :: l, _, _ => show 2 ≤ l.length + 1 + 1; omega
              have := flM_two all two z hz
              omega
            · have e : (dgT M (exN M p) T).length = 1 := by unfold dgT; rw [if_neg c]; rfl
              have := f2 z hz
              omega
          have fr := e_from (g := g) (a := x.1) (b := y.1) (l := l) (m := m) (r := S 102 (y.1 : Int)) x1 y1 (hI 102 y.1 (by omega) (by omega) y1) ll (by omega) a4 (by
            have w := lnk_pre (b := y.1) (l := m.map Prod.fst) (m := []) (by rw [List.append_nil]; exact b4)
            exact w) (fun j hj => hI 103 j (by omega) (by omega) hj) (fun k z z' h1 h2 => by
            obtain ⟨q, d1, d2⟩ := ch_pr k a5 b5 h1 h2
            have := small z (List.mem_of_getElem? h1)
            exact ih f' g q _ _ z z' d1 d2 (by omega) (by omega))
          refine (ans.mk fr).iff ⟨fun e => ?_, fun e => ?_⟩
          · rw [a6, b6]
            show _ ++ (mpC l).flatten = _ ++ (mpC m).flatten
            rw [show mpC l = mpC m from e]
          · rw [a6, b6] at e
            have e' := List.append_cancel_left e
            exact ch_dec (fun p x h => ND.c h |>.2.1) (fun p x h => ND.c h |>.2.1) (u := []) (v := []) a5 b5 (by rw [List.append_nil, List.append_nil]; exact e')
        · omega
      · -- a sequence
        rcases hy.2 with ⟨t', _⟩ | ⟨t', _⟩ | ⟨t', _⟩ | ⟨t', b1, m, b2, b3, b3', b4, b5, b6⟩
        · omega
        · omega
        · omega
        · have all : ∀ z ∈ l, 1 ≤ z.2.1.length := fun z hz => (a5 z hz).1.c.2.2.1
          have key : x.2.1 = y.2.1 ↔ CQ (M (24 + (p : Int))) (mpC l) (mpC m) := by
            rw [a6, b6]
            constructor
            · intro e
              have e1 := List.append_cancel_right (List.cons.inj e).2
              have fd : ∀ (l : List (Nat × List Int × Nat)) (f lo hi : Nat), (∀ y ∈ l, ND M S hi f lo (chM M p) y ∧ ∃ (a : Int) (v : List Int), y.2.1 = a :: v ∧ a ≠ clS (M (24 + (p : Int)))) → ∀ a ∈ sqL (M (24 + (p : Int))) (mpC l), 1 ≤ a.length ∧ ∃ n, FXD M (chM M p) a n := by
                intro l f lo hi h a ha
                have ha' := (sqL_cq (M (24 + (p : Int))) (mpC l)).pm.mem_iff.mpr ha
                obtain ⟨z, z1, z2⟩ := List.mem_map.mp ha'
                have := (h z z1).1.c
                rw [← z2]
                exact ⟨this.2.2.1, _, this.2.1⟩
              have := fl_dec _ _ (fd l f _ _ a5) (fd m f' _ _ b5) e1
              exact (sqL_cq _ _).tr (by rw [this]; exact (sqL_cq _ _).sy)
            · intro e
              have := sqL_eq e
              show _ :: ((sqL _ (mpC l)).flatten ++ _) = _ :: ((sqL _ (mpC m)).flatten ++ _)
              rw [this]
          have ln : x.2.1 = y.2.1 → l.length = m.length := fun e => by
            have := (key.mp e).pm.length_eq
            unfold mpC at this
            rw [List.length_map, List.length_map] at this
            exact this
          have lc : x.2.1.length = (flM l).length + 2 := by
            have e : ((sqL (M (24 + (p : Int))) (mpC l)).flatten).length = (flM l).length := by
              exact ((sqL_cq (M (24 + (p : Int))) (mpC l)).pm.flatten).length_eq.symm
            have a6' : x.2.1 = opS (M (24 + (p : Int))) :: ((sqL (M (24 + (p : Int))) (mpC l)).flatten ++ [clS (M (24 + (p : Int)))]) := a6
            rw [a6', List.length_cons, List.length_append, e]
            rfl
          obtain ⟨f1, f2⟩ := flM_len l all
          refine e_as x1 y1 hI (by rw [a1, b1]) (fun e => ⟨by rw [a2, b2, ln e], hsz e⟩) (fun c0 _ => ?_)
          have ll : l.length = m.length := by rw [a2, b2] at c0; omega
          have prs : ∀ z ∈ l, ∀ z' ∈ m, SMd S g z z' := fun z hz z' hz' => by
            have := f2 z hz
            exact ih f' g _ _ _ z z' (a5 z hz).1 (b5 z' hz').1 (by omega) (by omega)
          rw [a1]
          unfold CQ at key
          by_cases k45 : M (24 + (p : Int)) = 4 ∨ M (24 + (p : Int)) = 5
          · rw [if_pos k45]
            rw [if_neg (by omega), if_neg (by omega)] at key
            exact (e_bags x1 y1 ll (by omega) a4 b4 prs).iff key.symm
          · rw [if_neg k45]
            by_cases k6 : M (24 + (p : Int)) = 6
            · rw [if_pos k6]
              rw [if_neg (by omega), if_pos k6] at key
              exact (e_ring x1 y1 hI ll a3 (a3' k6) a4 b4 prs).iff key.symm
            · rw [if_neg k6]
              rw [if_pos (by omega)] at key
              have fr := e_from (g := g) (a := x.1) (b := y.1) (l := l) (m := m) (r := S 102 (y.1 : Int)) x1 y1 (hI 102 y.1 (by omega) (by omega) y1) ll a3 a4 (by
                have w := lnk_pre (b := y.1) (l := m.map Prod.fst) (m := []) (by rw [List.append_nil]; exact b4)
                exact w) (fun j hj => hI 103 j (by omega) (by omega) hj) (fun k z z' h1 h2 => prs z (List.mem_of_getElem? h1) z' (List.mem_of_getElem? h2))
              exact (ans.mk fr).iff key.symm
