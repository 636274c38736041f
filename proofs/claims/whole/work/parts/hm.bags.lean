/-! the reference's comparing of bags and of rings -/
def ans (o : Option Int) (P : Prop) : Prop := ∃ z, o = some z ∧ ((z = 1 ∧ P) ∨ (z = 0 ∧ ¬ P))
theorem ans.iff {o : Option Int} {P Q : Prop} (h : ans o P) (k : P ↔ Q) : ans o Q := by
  obtain ⟨z, h1, h2⟩ := h
  rw [k] at h2
  exact ⟨z, h1, h2⟩
theorem ans.of {o : Option Int} {P : Prop} [Decidable P] (h : ans o P) : o = some (if P then 1 else 0) := by
  obtain ⟨z, h1, ⟨h2, h3⟩ | ⟨h2, h3⟩⟩ := h
  · rw [if_pos h3, h1, h2]
  · rw [if_neg h3, h1, h2]
theorem ans.mk {o : Option Int} {P : Prop} [Decidable P] (h : o = some (if P then 1 else 0)) : ans o P := by
  by_cases c : P
  · rw [if_pos c] at h; exact ⟨1, h, Or.inl ⟨rfl, c⟩⟩
  · rw [if_neg c] at h; exact ⟨0, h, Or.inr ⟨rfl, c⟩⟩
def remB (u : Nat) : Nat → List (Nat × List Int × Nat) → List (Nat × List Int × Nat)
  | _, [] => []
  | i, y :: m => if u.testBit i = true then remB u (i + 1) m else y :: remB u (i + 1) m
theorem remB_cg {u u' : Nat} : ∀ (m : List (Nat × List Int × Nat)) (i : Nat), (∀ k, i ≤ k → u.testBit k = u'.testBit k) → remB u i m = remB u' i m := by
  intro m
  induction m with
  | nil => intro i _; rfl
  | cons y m ih =>
    intro i h
    show (if u.testBit i = true then remB u (i + 1) m else y :: remB u (i + 1) m) = (if u'.testBit i = true then remB u' (i + 1) m else y :: remB u' (i + 1) m)
    rw [h i (Nat.le_refl i), ih (i + 1) (fun k hk => h k (by omega))]
theorem remB_0 : ∀ (m : List (Nat × List Int × Nat)) (i : Nat), remB 0 i m = m := by
  intro m
  induction m with
  | nil => intro i; rfl
  | cons y m ih =>
    intro i
    show (if (0 : Nat).testBit i = true then remB 0 (i + 1) m else y :: remB 0 (i + 1) m) = _
    rw [Nat.zero_testBit, if_neg (by decide), ih]
def mpC (l : List (Nat × List Int × Nat)) : List (List Int) := l.map (fun x => x.2.1)
theorem e_bag26 {S : St} {g u : Nat} {x : Nat × List Int × Nat} {a2 : Int} (hu : u < 2 ^ 54) : ∀ (m : List (Nat × List Int × Nat)) (f i : Nat) (q : Int), m.length < f → i + m.length ≤ 54 → lnk S q (m.map Prod.fst) → (∀ y ∈ m, SMd S g x y) → ∃ j w : Int, mX12_areSameBags_26 (RX12_areSame g) S (x.1 : Int) (u : Int) a2 f q (i : Int) = some (j, w) ∧ ((w = -1 ∧ ∀ y ∈ remB u i m, y.2.1 ≠ x.2.1) ∨ (0 ≤ w ∧ w < 1024 ∧ ∃ k : Nat, j = (k : Int) ∧ i ≤ k ∧ k < i + m.length ∧ (mpC (remB u i m)).Perm (x.2.1 :: mpC (remB (u ||| 2 ^ k) i m)))) := by
  intro m
  induction m with
  | nil =>
    intro f i q hf hi hq hs
    obtain ⟨f, rfl⟩ : ∃ f', f = f' + 1 := ⟨f - 1, by have : 0 < f := hf; omega⟩
    have q1 : q = -1 := hq
    refine ⟨(i : Int), -1, ?_, Or.inl ⟨rfl, fun y hy => (by cases hy)⟩⟩
    rw [mX12_areSameBags_26, q1, gd_t (by decide), if_pos (by decide)]
  | cons y m ih =>
    intro f i q hf hi hq hs
    have hf' : m.length + 1 < f := hf
    have hi' : i + (m.length + 1) ≤ 54 := hi
    obtain ⟨f, rfl⟩ : ∃ f', f = f' + 1 := ⟨f - 1, by omega⟩
    obtain ⟨a1, a2', a3⟩ := hq
    have s0 := hs y (List.mem_cons_self ..)
    unfold SMd at s0
    have ei : ((i : Int) + 1) = ((i + 1 : Nat) : Int) := by omega
    have go := ih f (i + 1) _ (by omega) (by omega) a3 (fun z hz => hs z (List.mem_cons_of_mem _ hz))
    rw [mX12_areSameBags_26, a1, gd_t (by omega), if_neg (by omega), lbit hu (show i < 54 by omega)]
    have er : remB u i (y :: m) = (if u.testBit i = true then remB u (i + 1) m else y :: remB u (i + 1) m) := rfl
    have er' : ∀ k, remB (u ||| 2 ^ k) i (y :: m) = (if (u ||| 2 ^ k).testBit i = true then remB (u ||| 2 ^ k) (i + 1) m else y :: remB (u ||| 2 ^ k) (i + 1) m) := fun k => rfl
    by_cases b : u.testBit i = true
    · rw [if_pos b] at er ⊢
      rw [gd_t (by decide), if_pos rfl, bd1_e rfl, if_pos rfl, gd_t (by omega), nx_e, ei]
      obtain ⟨j, w, g1, g2⟩ := go
      refine ⟨j, w, g1, ?_⟩
      rw [er]
      rcases g2 with ⟨z1, z2⟩ | ⟨z1, z2, k, k1, k2, k3, k4⟩
      · exact Or.inl ⟨z1, z2⟩
      · refine Or.inr ⟨z1, z2, k, k1, by omega, by show k < i + (m.length + 1); omega, ?_⟩
        rw [er' k, Nat.testBit_or, b, Bool.true_or, if_pos rfl]
        exact k4
    · rw [if_neg b] at er ⊢
      have b0 : u.testBit i = false := by
        cases h : u.testBit i with
        | true => exact absurd h b
        | false => rfl
      rw [gd_t (by decide), if_neg (by decide), bd1_e s0]
      by_cases c : x.2.1 = y.2.1
      · rw [if_pos c, gd_t (by decide), if_neg (by decide), bd1_e rfl, if_neg (by decide)]
        refine ⟨(i : Int), (y.1 : Int), rfl, Or.inr ⟨by omega, by omega, i, rfl, Nat.le_refl i, by show i < i + (m.length + 1); omega, ?_⟩⟩
        rw [er, er' i, Nat.testBit_or, Nat.testBit_two_pow_self, Bool.or_true, if_pos rfl, ← remB_cg (u := u) (u' := u ||| 2 ^ i) m (i + 1) (fun k hk => by rw [Nat.testBit_or, Nat.testBit_two_pow_of_ne (by omega), Bool.or_false])]
        show (y.2.1 :: mpC (remB u (i + 1) m)).Perm _
        rw [c]
      · rw [if_neg c, gd_t (by decide), if_pos rfl, bd1_e rfl, if_pos rfl, gd_t (by omega), nx_e, ei]
        obtain ⟨j, w, g1, g2⟩ := go
        refine ⟨j, w, g1, ?_⟩
        rw [er]
        rcases g2 with ⟨z1, z2⟩ | ⟨z1, z2, k, k1, k2, k3, k4⟩
        · refine Or.inl ⟨z1, fun z hz => ?_⟩
          rcases List.mem_cons.mp hz with e | e
          · subst e; exact fun w => c w.symm
          · exact z2 z e
        · refine Or.inr ⟨z1, z2, k, k1, by omega, by show k < i + (m.length + 1); omega, ?_⟩
          rw [er' k, Nat.testBit_or, b0, Nat.testBit_two_pow_of_ne (by omega), Bool.false_or, if_neg (by decide)]
          show (y.2.1 :: mpC (remB u (i + 1) m)).Perm (x.2.1 :: y.2.1 :: mpC (remB (u ||| 2 ^ k) (i + 1) m))
          exact (k4.cons y.2.1).trans (List.Perm.swap _ _ _)
theorem e_bag10 {S : St} {g b : Nat} {m : List (Nat × List Int × Nat)} (hb : b < 1024) (lm : m.length ≤ 53) (hm : lnk S (S 102 (b : Int)) (m.map Prod.fst)) : ∀ (l : List (Nat × List Int × Nat)) (u f : Nat) (q : Int), u < 2 ^ 54 → l.length < f → lnk S q (l.map Prod.fst) → (∀ x ∈ l, ∀ y ∈ m, SMd S g x y) → l.length = (remB u 0 m).length → ans (mX12_areSameBags_10 (RX12_areSame g) S (b : Int) f q (u : Int)) ((mpC l).Perm (mpC (remB u 0 m))) := by
  intro l
  induction l with
  | nil =>
    intro u f q hu hf hq hs hl
    obtain ⟨f, rfl⟩ : ∃ f', f = f' + 1 := ⟨f - 1, by have : 0 < f := hf; omega⟩
    have q1 : q = -1 := hq
    have z : remB u 0 m = [] := List.eq_nil_of_length_eq_zero hl.symm
    refine ⟨1, ?_, Or.inl ⟨rfl, ?_⟩⟩
    · rw [mX12_areSameBags_10, q1, gd_t (by decide), if_pos (by decide)]
    · rw [z]
  | cons x l ih =>
    intro u f q hu hf hq hs hl
    have hf' : l.length + 1 < f := hf
    have hl' : l.length + 1 = (remB u 0 m).length := hl
    obtain ⟨f, rfl⟩ : ∃ f', f = f' + 1 := ⟨f - 1, by omega⟩
    obtain ⟨a1, a2, a3⟩ := hq
    obtain ⟨j, w, g1, g2⟩ := e_bag26 (a2 := (b : Int)) hu m FU 0 _ (by unfold FU; omega) (by omega) hm (hs x (List.mem_cons_self ..))
    rw [show ((0 : Nat) : Int) = 0 from rfl] at g1
    rw [mX12_areSameBags_10, a1, gd_t (by omega), if_neg (by omega), gd_t (by omega), nx_e, bd2_e g1]
    rcases g2 with ⟨z1, z2⟩ | ⟨z1, z2, k, k1, k2, k3, k4⟩
    · rw [z1, gd_t (by decide), if_neg (by decide)]
      refine ⟨0, rfl, Or.inr ⟨rfl, fun p => ?_⟩⟩
      have : x.2.1 ∈ mpC (remB u 0 m) := p.mem_iff.mp (List.mem_cons_self ..)
      obtain ⟨y, y1, y2⟩ := List.mem_map.mp this
      exact z2 y y1 y2
    · obtain ⟨s1, s2⟩ := lset hu (show k < 54 by omega)
      rw [gd_t (by omega), if_pos z1, k1, nx_e, s1, gd_t (by omega), nx_e]
      have le := k4.length_eq
      unfold mpC at le
      rw [List.length_cons, List.length_map, List.length_map] at le
      refine (ih _ f _ s2 (by omega) a3 (fun x hx y hy => hs x (List.mem_cons_of_mem _ hx) y hy) (by omega)).iff ⟨fun p => ?_, fun p => ?_⟩
      · exact (p.cons x.2.1).trans k4.symm
      · exact (p.trans k4).cons_inv
theorem e_bags {S : St} {g a b : Nat} (ha : a < 1024) (hb : b < 1024) {l m : List (Nat × List Int × Nat)} (hl : l.length = m.length) (l53 : l.length ≤ 53) (hq : lnk S (S 102 (a : Int)) (l.map Prod.fst)) (hm : lnk S (S 102 (b : Int)) (m.map Prod.fst)) (hs : ∀ x ∈ l, ∀ y ∈ m, SMd S g x y) : ans (RX12_areSame (g + 1) 1 (a : Int) (b : Int) 0 S) ((mpC l).Perm (mpC m)) := by
  have h := e_bag10 hb (by omega) hm l 0 FU _ (by decide) (by unfold FU; omega) hq hs (by rw [remB_0]; exact hl)
  rw [remB_0] at h
  obtain ⟨z, z1, z2⟩ := h
  rw [show ((0 : Nat) : Int) = 0 from rfl] at z1
  refine ⟨z, ?_, z2⟩
  show (if (1 : Nat) = 0 then _ else (if (1 : Nat) = 1 then (bX12_areSameBags (RX12_areSame g) S (a : Int) (b : Int)) else _)) = _
  rw [if_neg (by decide), if_pos rfl]
  unfold bX12_areSameBags
  rw [gd_t (by omega), nx_e, bd1_e z1]
  rcases z2 with ⟨e, p⟩ | ⟨e, p⟩
  · rw [if_neg (by omega), e]
  · rw [if_pos e, e]
/-- rings -/
theorem lnk_pre {S : St} {b : Nat} : ∀ {l m : List Nat} {q : Int}, lnk S q (l ++ m) → wrp S b q l := by
  intro l
  induction l with
  | nil => intro m q _; trivial
  | cons j l ih =>
    intro m q h
    obtain ⟨a, b', c⟩ := h
    refine ⟨a, b', ?_⟩
    cases l with
    | nil => trivial
    | cons i l =>
      have g := c.ge.2.2 (List.cons_ne_nil _ _)
      rw [if_pos g]
      exact ih c
theorem lnk_suf {S : St} : ∀ {l m : List Nat} {q : Int}, lnk S q (l ++ m) → ∃ r, lnk S r m ∧ (l = [] → r = q) := by
  intro l
  induction l with
  | nil => intro m q h; exact ⟨q, h, fun _ => rfl⟩
  | cons j l ih =>
    intro m q h
    obtain ⟨a, b', c⟩ := h
    obtain ⟨r, r1, _⟩ := ih c
    exact ⟨r, r1, fun e => (by cases e)⟩
theorem e_ring105 {S : St} {g a b : Nat} (ha : a < 1024) (hb : b < 1024) (hI : ∀ (c : Nat) (j : Nat), 99 ≤ c → c ≤ 103 → j < 1024 → inI (S c (j : Int))) {l m : List (Nat × List Int × Nat)} (hl : l.length = m.length) (l60 : l.length < 60) (hq : lnk S (S 102 (a : Int)) (l.map Prod.fst)) (hm : lnk S (S 102 (b : Int)) (m.map Prod.fst)) (hs : ∀ x ∈ l, ∀ y ∈ m, SMd S g x y) : ∀ (m2 m1 : List (Nat × List Int × Nat)) (f : Nat) (q : Int), m = m1 ++ m2 → m2.length < f → lnk S q (m2.map Prod.fst) → ∃ z : Int, mX12_areSame_105 (RX12_areSame (g + 1)) S (a : Int) (b : Int) f q = some z ∧ ((z = 0 ∧ RT (mpC l) (mpC m)) ∨ (z = 1 ∧ ∀ c d, m2 = c ++ d → d ≠ [] → mpC l ≠ mpC (d ++ (m1 ++ c)))) := by
  intro m2
  induction m2 with
  | nil =>
    intro m1 f q e hf hq2
    obtain ⟨f, rfl⟩ : ∃ f', f = f' + 1 := ⟨f - 1, by have : 0 < f := hf; omega⟩
    have q1 : q = -1 := hq2
    refine ⟨1, ?_, Or.inr ⟨rfl, fun c d h k => ?_⟩⟩
    · rw [mX12_areSame_105, q1, gd_t (by decide), if_pos (by decide)]
    · exact absurd (List.append_eq_nil_iff.mp h.symm).2 k
  | cons y m2 ih =>
    intro m1 f q e hf hq2
    have hf' : m2.length + 1 < f := hf
    obtain ⟨f, rfl⟩ : ∃ f', f = f' + 1 := ⟨f - 1, by omega⟩
    have hq2' := hq2
    obtain ⟨a1, a2, a3⟩ := hq2
    have em : m.map Prod.fst = m1.map Prod.fst ++ (y :: m2).map Prod.fst := by rw [e, List.map_append]
    have hw := lnk.wrp (b := b) hq2' (lnk_pre (b := b) (by rw [em] at hm; exact hm))
    rw [if_neg (show ¬ (List.map Prod.fst (y :: m2) = []) from List.cons_ne_nil _ _), ← List.map_append] at hw
    have hw' : wrp S b q (((y :: m2) ++ m1).map Prod.fst) := hw
    have mem : ∀ z ∈ (y :: m2) ++ m1, z ∈ m := fun z hz => by
      rw [e]
      rcases List.mem_append.mp hz with i | i
      · exact List.mem_append_right _ i
      · exact List.mem_append_left _ i
    have fr := e_from (g := g) (a := a) (b := b) (l := l) (m := (y :: m2) ++ m1) (r := q) ha hb (hI 102 b (by omega) (by omega) hb) (by rw [hl, e, List.length_append, List.length_append]; omega) l60 hq hw' (fun j hj => hI 103 j (by omega) (by omega) hj) (fun k x z h1 h2 => hs x (List.mem_of_getElem? h1) z (mem z (List.mem_of_getElem? h2)))
    change RX12_areSame (g + 1) 2 (a : Int) (b : Int) q S = some (if mpC l = mpC ((y :: m2) ++ m1) then 1 else 0) at fr
    rw [mX12_areSame_105, gd_t (by omega), if_neg (by omega), bd1_e fr]
    by_cases c : mpC l = mpC ((y :: m2) ++ m1)
    · rw [if_pos c, gd_t (by decide), if_neg (by decide)]
      refine ⟨0, rfl, Or.inl ⟨rfl, mpC (y :: m2), mpC m1, ?_, ?_⟩⟩
      · rw [c]; exact List.map_append
      · rw [e]; exact List.map_append
    · rw [if_neg c, gd_t (by decide), if_pos rfl, gd_t (by omega), nx_e, a1]
      obtain ⟨z, z1, z2⟩ := ih (m1 ++ [y]) f _ (by rw [e, List.append_assoc]; rfl) (by omega) a3
      refine ⟨z, z1, ?_⟩
      rcases z2 with ⟨z3, z4⟩ | ⟨z3, z4⟩
      · exact Or.inl ⟨z3, z4⟩
      · refine Or.inr ⟨z3, fun c' d h k => ?_⟩
        cases c' with
        | nil =>
          have h' : y :: m2 = d := h
          rw [← h', List.append_nil]; exact c
        | cons y' c' =>
          obtain ⟨h1, h2⟩ := List.cons.inj h
          have := z4 c' d h2 k
          rw [List.append_assoc, h1] at this
          exact this
theorem e_ring {S : St} {g a b : Nat} (ha : a < 1024) (hb : b < 1024) (hI : ∀ (c : Nat) (j : Nat), 99 ≤ c → c ≤ 103 → j < 1024 → inI (S c (j : Int))) {l m : List (Nat × List Int × Nat)} (hl : l.length = m.length) (l60 : l.length < 60) (l1 : 1 ≤ l.length) (hq : lnk S (S 102 (a : Int)) (l.map Prod.fst)) (hm : lnk S (S 102 (b : Int)) (m.map Prod.fst)) (hs : ∀ x ∈ l, ∀ y ∈ m, SMd S g x y) : ans (nx (S 102 (b : Int)) fun x_15 => bd1 (mX12_areSame_105 (RX12_areSame (g + 1)) S (a : Int) (b : Int) FU x_15) fun t_17 => if t_17 = 0 then (some (1)) else (some (0))) (RT (mpC l) (mpC m)) := by
  obtain ⟨z, z1, z2⟩ := e_ring105 ha hb hI hl l60 hq hm hs m [] FU _ rfl (by unfold FU; omega) hm
  rw [nx_e, bd1_e z1]
  rcases z2 with ⟨z3, z4⟩ | ⟨z3, z4⟩
  · rw [if_pos z3]; exact ⟨1, rfl, Or.inl ⟨rfl, z4⟩⟩
  · rw [if_neg (by omega)]
    refine ⟨0, rfl, Or.inr ⟨rfl, fun r => ?_⟩⟩
    obtain ⟨A, B, h1, h2⟩ := r
    obtain ⟨c, d, e, e1, e2⟩ := List.map_eq_append_iff.mp h2
    -- m = c ++ d, c ~ B, d ~ A
    cases d with
    | nil =>
      have e1' : mpC c = B := e1
      have e2' : ([] : List (List Int)) = A := e2
      rw [List.append_nil] at e
      refine z4 [] m rfl (fun w => by rw [w] at hl; rw [hl] at l1; exact absurd l1 (by decide)) ?_
      rw [h1, ← e2', ← e1', e, List.nil_append]
      show mpC c = mpC (c ++ ([] ++ []))
      rw [List.nil_append, List.append_nil]
    | cons y d =>
      refine z4 c (y :: d) e (List.cons_ne_nil _ _) ?_
      rw [h1, ← e1, ← e2]
      show _ = List.map (fun x => x.2.1) ((y :: d) ++ ([] ++ c))
      rw [List.nil_append, List.map_append]
