/-! lists laid one behind the other; rows as lists; turns of a row -/
def flat {α : Type} : Nat → (Nat → List α) → List α
  | 0, _ => []
  | k + 1, g => flat k g ++ g k
theorem flat_len {α : Type} {g : Nat → List α} : ∀ k, (flat k g).length = sm k (fun i => (g i).length) := by
  intro k
  induction k with
  | zero => rfl
  | succ k ih => show (flat k g ++ g k).length = _; rw [List.length_append, ih, sm_s]
theorem flat_cnt {α : Type} {P : α → Bool} {g : Nat → List α} : ∀ k, (flat k g).countP P = sm k (fun i => (g i).countP P) := by
  intro k
  induction k with
  | zero => rfl
  | succ k ih => show (flat k g ++ g k).countP P = _; rw [List.countP_append, ih, sm_s]
theorem flat_mem {α : Type} {g : Nat → List α} {x : α} : ∀ k, x ∈ flat k g ↔ ∃ i, i < k ∧ x ∈ g i := by
  intro k
  induction k with
  | zero => exact ⟨fun h => (by cases h), fun ⟨i, h, _⟩ => by omega⟩
  | succ k ih =>
    show x ∈ flat k g ++ g k ↔ _
    rw [List.mem_append, ih]
    constructor
    · rintro (⟨i, a, b⟩ | b)
      · exact ⟨i, by omega, b⟩
      · exact ⟨k, by omega, b⟩
    · rintro ⟨i, a, b⟩
      by_cases z : i = k
      · subst z; exact Or.inr b
      · exact Or.inl ⟨i, by omega, b⟩
theorem flat_nd {α : Type} {g : Nat → List α} : ∀ k, (∀ i, i < k → (g i).Nodup) → (∀ i j x, i < j → j < k → x ∈ g i → x ∈ g j → False) → (flat k g).Nodup := by
  intro k
  induction k with
  | zero => intro _ _; exact List.nodup_nil
  | succ k ih =>
    intro h1 h2
    show (flat k g ++ g k).Nodup
    rw [List.nodup_append]
    refine ⟨ih (fun i a => h1 i (by omega)) (fun i j x a b => h2 i j x a (by omega)), h1 k (by omega), fun a ha b hb e => ?_⟩
    obtain ⟨i, i1, i2⟩ := (flat_mem k).mp ha
    exact h2 i k a i1 (by omega) i2 (e ▸ hb)
theorem cp_same {α : Type} {P : α → Bool} : ∀ {A B : List α}, A.Nodup → B.Nodup → (∀ x, x ∈ A ↔ x ∈ B) → A.countP P = B.countP P := by
  intro A
  induction A with
  | nil =>
    intro B _ _ h
    cases B with
    | nil => rfl
    | cons b B => exact absurd ((h b).mpr (List.mem_cons_self ..)) (by simp)
  | cons a A ih =>
    intro B hA hB h
    obtain ⟨s, t, e⟩ := List.append_of_mem ((h a).mp (List.mem_cons_self ..))
    subst e
    have hA' := List.nodup_cons.mp hA
    have hB' : (a :: (s ++ t)).Nodup := (List.perm_middle.nodup_iff).mp hB
    have hB2 := List.nodup_cons.mp hB'
    have e1 := ih hA'.2 hB2.2 (fun x => by
      constructor
      · intro hx
        have : x ∈ s ++ a :: t := (h x).mp (List.mem_cons_of_mem _ hx)
        have ne : x ≠ a := fun q => hA'.1 (q ▸ hx)
        rw [List.mem_append, List.mem_cons] at this
        rw [List.mem_append]
        rcases this with q | q | q
        · exact Or.inl q
        · exact absurd q ne
        · exact Or.inr q
      · intro hx
        have ne : x ≠ a := fun q => hB2.1 (q ▸ hx)
        have : x ∈ a :: A := (h x).mpr (by
          rw [List.mem_append] at hx
          rw [List.mem_append, List.mem_cons]
          rcases hx with q | q
          · exact Or.inl q
          · exact Or.inr (Or.inr q))
        rw [List.mem_cons] at this
        rcases this with q | q
        · exact absurd q ne
        · exact q)
    rw [List.countP_cons, e1, List.countP_append, List.countP_append, List.countP_cons]
    omega
def tot : List (Nat × Nat) → Nat
  | [] => 0
  | x :: l => x.1 + tot l
theorem tot_app : ∀ l m : List (Nat × Nat), tot (l ++ m) = tot l + tot m := by
  intro l
  induction l with
  | nil => intro m; show tot m = 0 + tot m; omega
  | cons x l ih => intro m; show x.1 + tot (l ++ m) = x.1 + tot l + tot m; rw [ih]; omega
def okL (c : Nat → Nat) (l : List (Nat × Nat)) : Prop := ∀ x ∈ l, 1 ≤ x.1 ∧ x.2 < c x.1
/-- all rows of N things of a size -/
def arN (c : Nat → Nat) : Nat → Nat → List (List (Nat × Nat))
  | 0, n => if n = 0 then [[]] else []
  | N + 1, n => flat n (fun i => flat (c (i + 1)) (fun r => (arN c N (n - (i + 1))).map (fun l => (i + 1, r) :: l)))
theorem sm_const {a : Nat} : ∀ k, sm k (fun _ => a) = k * a := by
  intro k
  induction k with
  | zero => rw [Nat.zero_mul]; rfl
  | succ k ih => rw [sm_s, ih, Nat.add_mul, Nat.one_mul]
theorem arN_len {C : Nat → Nat → Nat} : ∀ N n, (arN (fun s => C s 0) N n).length = tr C N n 0 := by
  intro N
  induction N with
  | zero =>
    intro n
    show (if n = 0 then [[]] else ([] : List (List (Nat × Nat)))).length = if n = 0 ∧ 0 = 0 then 1 else 0
    by_cases z : n = 0
    · rw [if_pos z, if_pos ⟨z, rfl⟩]; rfl
    · rw [if_neg z, if_neg (fun w => z w.1)]; rfl
  | succ N ih =>
    intro n
    show (flat n _).length = sm n (fun s => sm (0 + 1) (fun i => C (s + 1) i * tr C N (n - (s + 1)) (0 - i)))
    rw [flat_len]
    refine sm_congr fun i hi => ?_
    rw [flat_len, sm_s, sm_0, Nat.zero_add, ← ih (n - (i + 1)), ← sm_const]
    exact sm_congr fun r _ => List.length_map _
theorem arN_mem {c : Nat → Nat} {l : List (Nat × Nat)} : ∀ N n, l ∈ arN c N n ↔ l.length = N ∧ tot l = n ∧ okL c l := by
  intro N
  induction N generalizing l with
  | zero =>
    intro n
    show l ∈ (if n = 0 then [[]] else ([] : List (List (Nat × Nat)))) ↔ _
    by_cases z : n = 0
    · rw [if_pos z, List.mem_singleton]
      constructor
      · intro e; subst e; exact ⟨rfl, z.symm, fun x hx => by cases hx⟩
      · intro ⟨e, _⟩; exact List.eq_nil_of_length_eq_zero e
    · rw [if_neg z]
      constructor
      · intro h; cases h
      · intro ⟨e, e2, _⟩
        have := List.eq_nil_of_length_eq_zero e
        subst this
        exact absurd e2.symm z
  | succ N ih =>
    intro n
    show l ∈ flat n _ ↔ _
    rw [flat_mem]
    constructor
    · rintro ⟨i, i1, i2⟩
      obtain ⟨r, r1, r2⟩ := (flat_mem _).mp i2
      obtain ⟨m, m1, m2⟩ := List.mem_map.mp r2
      obtain ⟨a, b, d⟩ := (ih (n - (i + 1))).mp m1
      subst m2
      refine ⟨by rw [List.length_cons, a], by show i + 1 + tot m = n; omega, fun x hx => ?_⟩
      rcases List.mem_cons.mp hx with e | e
      · subst e; exact ⟨by show 1 ≤ i + 1; omega, r1⟩
      · exact d x e
    · rintro ⟨a, b, d⟩
      cases l with
      | nil => cases a
      | cons x l =>
        obtain ⟨x1, x2⟩ := d x (List.mem_cons_self ..)
        have b' : x.1 + tot l = n := b
        refine ⟨x.1 - 1, by omega, (flat_mem _).mpr ⟨x.2, by rw [show x.1 - 1 + 1 = x.1 by omega]; exact x2, List.mem_map.mpr ⟨l, (ih _).mpr ⟨?_, by omega, fun y hy => d y (List.mem_cons_of_mem _ hy)⟩, ?_⟩⟩⟩
        · rw [List.length_cons] at a; omega
        · rw [show x.1 - 1 + 1 = x.1 by omega]
theorem nd_map {α β : Type} {f : α → β} (hf : ∀ x y, f x = f y → x = y) : ∀ {l : List α}, l.Nodup → (l.map f).Nodup := by
  intro l
  induction l with
  | nil => intro _; exact List.nodup_nil
  | cons a l ih =>
    intro h
    have h' := List.nodup_cons.mp h
    rw [List.map_cons, List.nodup_cons]
    refine ⟨fun hm => ?_, ih h'.2⟩
    obtain ⟨x, x1, x2⟩ := List.mem_map.mp hm
    exact h'.1 (hf x a x2 ▸ x1)
theorem arN_nd {c : Nat → Nat} : ∀ N n, (arN c N n).Nodup := by
  intro N
  induction N with
  | zero =>
    intro n
    show (if n = 0 then [[]] else ([] : List (List (Nat × Nat)))).Nodup
    by_cases z : n = 0
    · rw [if_pos z]; exact List.nodup_cons.mpr ⟨by simp, List.nodup_nil⟩
    · rw [if_neg z]; exact List.nodup_nil
  | succ N ih =>
    intro n
    refine flat_nd n (fun i hi => flat_nd _ (fun r hr => nd_map (fun x y e => (List.cons.inj e).2) (ih _)) (fun r r' x hr hr' h h' => ?_)) (fun i j x hi hj h h' => ?_)
    · obtain ⟨m, _, e⟩ := List.mem_map.mp h
      obtain ⟨m', _, e'⟩ := List.mem_map.mp h'
      have := (List.cons.inj (e.trans e'.symm)).1
      have := (Prod.mk.inj this).2
      omega
    · obtain ⟨r, _, h⟩ := (flat_mem _).mp h
      obtain ⟨r', _, h'⟩ := (flat_mem _).mp h'
      obtain ⟨m, _, e⟩ := List.mem_map.mp h
      obtain ⟨m', _, e'⟩ := List.mem_map.mp h'
      have := (List.cons.inj (e.trans e'.symm)).1
      have := (Prod.mk.inj this).1
      omega
/-! turns -/
def rot (t : Nat) (l : List (Nat × Nat)) : List (Nat × Nat) := l.drop t ++ l.take t
theorem rot_len {t : Nat} {l : List (Nat × Nat)} : (rot t l).length = l.length := by
  unfold rot
  rw [List.length_append, List.length_drop, List.length_take]; omega
theorem rot_mem {t : Nat} {l : List (Nat × Nat)} {x : Nat × Nat} : x ∈ rot t l ↔ x ∈ l := by
  unfold rot
  rw [List.mem_append, Or.comm, ← List.mem_append, List.take_append_drop]
theorem rot_tot {t : Nat} {l : List (Nat × Nat)} : tot (rot t l) = tot l := by
  unfold rot
  rw [tot_app, Nat.add_comm, ← tot_app, List.take_append_drop]
theorem rot_arN {c : Nat → Nat} {N n t : Nat} {l : List (Nat × Nat)} : rot t l ∈ arN c N n ↔ l ∈ arN c N n := by
  rw [arN_mem, arN_mem, rot_len, rot_tot]
  unfold okL
  constructor
  · rintro ⟨a, b, d⟩; exact ⟨a, b, fun x hx => d x (rot_mem.mpr hx)⟩
  · rintro ⟨a, b, d⟩; exact ⟨a, b, fun x hx => d x (rot_mem.mp hx)⟩
theorem rot_rot {s t : Nat} {l : List (Nat × Nat)} (ht : t ≤ l.length) (hs : s + t ≤ l.length) : rot s (rot t l) = rot (s + t) l := by
  unfold rot
  rw [List.drop_append_of_le_length (by rw [List.length_drop]; omega), List.take_append_of_le_length (by rw [List.length_drop]; omega), List.drop_drop, List.append_assoc, Nat.add_comm s t, List.take_add]
theorem rot_0 {l : List (Nat × Nat)} : rot 0 l = l := by unfold rot; simp
theorem rot_all {l : List (Nat × Nat)} : rot l.length l = l := by unfold rot; simp
theorem rot_back {t : Nat} {l : List (Nat × Nat)} (ht : t ≤ l.length) : rot (l.length - t) (rot t l) = l := by
  rw [rot_rot ht (by omega), show l.length - t + t = l.length by omega, rot_all]
theorem rot_inj {t : Nat} {l m : List (Nat × Nat)} (hl : t ≤ l.length) (hm : t ≤ m.length) (e : rot t l = rot t m) : l = m := by
  have a := rot_back hl
  have b := rot_back hm
  have e1 : l.length = m.length := by rw [← rot_len (t := t) (l := l), e, rot_len]
  rw [← a, ← b, e, e1]
/-- as many rows have a property as have it behind a turn -/
theorem rot_cnt {c : Nat → Nat} {N n t : Nat} {P : List (Nat × Nat) → Bool} (ht : t ≤ N) : (arN c N n).countP (fun l => P (rot t l)) = (arN c N n).countP P := by
  have e : ((arN c N n).map (rot t)).countP P = (arN c N n).countP (fun l => P (rot t l)) := List.countP_map ..
  rw [← e]
  have nd : ((arN c N n).map (rot t)).Nodup := by
    have key : ∀ A : List (List (Nat × Nat)), (∀ l ∈ A, l.length = N) → A.Nodup → (A.map (rot t)).Nodup := by
      intro A
      induction A with
      | nil => intro _ _; exact List.nodup_nil
      | cons a A ih =>
        intro hl h
        have h' := List.nodup_cons.mp h
        rw [List.map_cons, List.nodup_cons]
        refine ⟨fun hm => ?_, ih (fun l hl' => hl l (List.mem_cons_of_mem _ hl')) h'.2⟩
        obtain ⟨x, x1, x2⟩ := List.mem_map.mp hm
        have := rot_inj (by rw [hl x (List.mem_cons_of_mem _ x1)]; exact ht) (by rw [hl a (List.mem_cons_self ..)]; exact ht) x2
        exact h'.1 (this ▸ x1)
    exact key _ (fun l hl => ((arN_mem N n).mp hl).1) (arN_nd N n)
  refine cp_same nd (arN_nd N n) (fun x => ?_)
  rw [List.mem_map]
  constructor
  · rintro ⟨l, a, b⟩; subst b; exact rot_arN.mpr a
  · intro hx
    have xl := ((arN_mem N n).mp hx).1
    refine ⟨rot (x.length - t) x, rot_arN.mpr hx, ?_⟩
    rw [rot_rot (by omega) (by omega), show t + (x.length - t) = x.length by omega, rot_all]
