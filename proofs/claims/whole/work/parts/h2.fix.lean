/-! what was read is read again as it is -/
theorem rdC_mo {M : Int → Int} {rec rec' : Nat → List Int → Option (List Int × Nat × List Int)} (h : ∀ p w x, rec p w = some x → rec' p w = some x) : ∀ (k : Nat) (q : Int) (w : List Int) (x : List (List Int × Nat) × List Int), rdC M rec k q w = some x → rdC M rec' k q w = some x := by
  intro k
  induction k with
  | zero => intro q w x e; cases e
  | succ k ih =>
    intro q w x e
    rw [rdC] at e ⊢
    split at e
    · next c => rw [if_pos c]; exact e
    · next c =>
      rw [if_neg c]
      obtain ⟨o, o1, o2⟩ := Option.bind_eq_some_iff.mp e
      obtain ⟨s, p1, p2⟩ := Option.bind_eq_some_iff.mp o2
      exact Option.bind_eq_some_iff.mpr ⟨o, h _ _ _ o1, Option.bind_eq_some_iff.mpr ⟨s, ih _ _ _ p1, p2⟩⟩
theorem rdL_mo {rec rec' : List Int → Option (List Int × Nat × List Int)} {cl : Int} (h : ∀ w x, rec w = some x → rec' w = some x) : ∀ (k : Nat) (w : List Int) (x : List (List Int × Nat) × List Int), rdL rec cl k w = some x → rdL rec' cl k w = some x := by
  intro k
  induction k with
  | zero => intro w x e; cases e
  | succ k ih =>
    intro w x e
    cases w with
    | nil => cases e
    | cons a w =>
      rw [rdL] at e ⊢
      split at e
      · next c => rw [if_pos c]; exact e
      · next c =>
        rw [if_neg c]
        obtain ⟨o, o1, o2⟩ := Option.bind_eq_some_iff.mp e
        obtain ⟨s, p1, p2⟩ := Option.bind_eq_some_iff.mp o2
        exact Option.bind_eq_some_iff.mpr ⟨o, h _ _ o1, Option.bind_eq_some_iff.mpr ⟨s, ih _ _ p1, p2⟩⟩
theorem rdE_mo {M : Int → Int} {rec rec' : Nat → List Int → Option (List Int × Nat × List Int)} (h : ∀ p w x, rec p w = some x → rec' p w = some x) {e : Nat} {w : List Int} {x : List Int × Nat × List Int} (k : rdE M rec e w = some x) : rdE M rec' e w = some x := by
  unfold rdE at k ⊢
  split at k
  · next c =>
    rw [if_pos c]
    split at k
    · next d =>
      rw [if_pos d]
      obtain ⟨o, o1, o2⟩ := Option.bind_eq_some_iff.mp k
      exact Option.bind_eq_some_iff.mpr ⟨o, rdC_mo h _ _ _ _ o1, o2⟩
    · cases k
  · next c =>
    rw [if_neg c]
    cases w with
    | nil => cases k
    | cons a w =>
      dsimp only at k ⊢
      split at k
      · next d =>
        rw [if_pos d]
        obtain ⟨o, o1, o2⟩ := Option.bind_eq_some_iff.mp k
        exact Option.bind_eq_some_iff.mpr ⟨o, rdC_mo h _ _ _ _ o1, o2⟩
      · cases k
theorem rdP_mo {M : Int → Int} : ∀ (f p : Nat) (w : List Int) (x : List Int × Nat × List Int), rdP M f p w = some x → rdP M (f + 1) p w = some x := by
  intro f
  induction f with
  | zero => intro p w x h; cases h
  | succ f ih =>
    intro p w x h
    rw [rdP_s] at h ⊢
    unfold rdB at h ⊢
    split at h
    · next c => rw [if_pos c]; exact h
    · next c =>
      rw [if_neg c]
      split at h
      · next d => rw [if_pos d]; exact rdE_mo ih h
      · next d =>
        rw [if_neg d]
        cases w with
        | nil => cases h
        | cons a w =>
          dsimp only at h ⊢
          split at h
          · next e =>
            rw [if_pos e]
            obtain ⟨o, o1, o2⟩ := Option.bind_eq_some_iff.mp h
            exact Option.bind_eq_some_iff.mpr ⟨o, rdL_mo (fun w x => ih _ w x) _ _ _ o1, o2⟩
          · cases h
theorem rdP_le {M : Int → Int} {f g p : Nat} {w : List Int} {x : List Int × Nat × List Int} (h : f ≤ g) (k : rdP M f p w = some x) : rdP M g p w = some x := by
  induction g with
  | zero => rw [show f = 0 by omega] at k; exact k
  | succ g ih =>
    by_cases c : f = g + 1
    · rw [← c]; exact k
    · exact rdP_mo _ _ _ _ (ih (by omega))
def fxd (rec : List Int → Option (List Int × Nat × List Int)) (y : List Int × Nat) : Prop := ∀ x, rec (y.1 ++ x) = some (y.1, y.2, x)
theorem rdC_fx {M : Int → Int} {rec : Nat → List Int → Option (List Int × Nat × List Int)} (hr : ∀ p w c n r, rec p w = some (c, n, r) → fxd (rec p) (c, n)) : ∀ (k : Nat) (q : Int) (w : List Int) (s : List (List Int × Nat)) (r : List Int), rdC M rec k q w = some (s, r) → ∀ x, rdC M rec k q (fl1 s ++ x) = some (s, x) := by
  intro k
  induction k with
  | zero => intro q w s r h; cases h
  | succ k ih =>
    intro q w s r h x
    rw [rdC] at h ⊢
    split at h
    · next c => cases h; rw [if_pos c]; rfl
    · next c =>
      rw [if_neg c]
      obtain ⟨⟨c1, n1, r1⟩, o1, o2⟩ := Option.bind_eq_some_iff.mp h
      obtain ⟨⟨s2, r2⟩, p1, p2⟩ := Option.bind_eq_some_iff.mp o2
      cases p2
      have e : fl1 ((c1, n1) :: s2) ++ x = c1 ++ (fl1 s2 ++ x) := by
        show (c1 :: (s2.map Prod.fst)).flatten ++ x = _
        rw [List.flatten_cons, List.append_assoc]; rfl
      rw [e]
      have h1 := hr _ _ _ _ _ o1 (fl1 s2 ++ x)
      exact Option.bind_eq_some_iff.mpr ⟨_, h1, Option.bind_eq_some_iff.mpr ⟨_, ih _ _ _ _ p1 x, rfl⟩⟩
theorem rdL_el {rec : List Int → Option (List Int × Nat × List Int)} {cl : Int} (hr : ∀ w c n r, rec w = some (c, n, r) → fxd rec (c, n)) : ∀ (k : Nat) (w : List Int) (s : List (List Int × Nat)) (r : List Int), rdL rec cl k w = some (s, r) → ∀ y ∈ s, fxd rec y := by
  intro k
  induction k with
  | zero => intro w s r h; cases h
  | succ k ih =>
    intro w s r h
    cases w with
    | nil => cases h
    | cons a w =>
      rw [rdL] at h
      split at h
      · cases h; exact fun y hy => (by cases hy)
      · obtain ⟨⟨c1, n1, r1⟩, o1, o2⟩ := Option.bind_eq_some_iff.mp h
        obtain ⟨⟨s2, r2⟩, p1, p2⟩ := Option.bind_eq_some_iff.mp o2
        cases p2
        intro y hy
        rcases List.mem_cons.mp hy with q | q
        · subst q; exact hr _ _ _ _ o1
        · exact ih _ _ _ p1 y q
theorem rdL_fx {rec : List Int → Option (List Int × Nat × List Int)} {cl : Int} : ∀ (ds : List (List Int × Nat)) (k : Nat), (∀ y ∈ ds, (∃ (a : Int) (v : List Int), y.1 = a :: v ∧ a ≠ cl) ∧ fxd rec y) → ds.length < k → ∀ x, rdL rec cl k (fl1 ds ++ cl :: x) = some (ds, x) := by
  intro ds
  induction ds with
  | nil =>
    intro k _ hk x
    obtain ⟨k, rfl⟩ : ∃ g, k = g + 1 := ⟨k - 1, by have : 0 < k := hk; omega⟩
    show rdL rec cl (k + 1) (cl :: x) = _
    rw [rdL, if_pos rfl]
  | cons y ds ih =>
    intro k h hk x
    rw [List.length_cons] at hk
    obtain ⟨k, rfl⟩ : ∃ g, k = g + 1 := ⟨k - 1, by omega⟩
    obtain ⟨⟨a, v, e1, e2⟩, fx⟩ := h y (List.mem_cons_self ..)
    have e : fl1 (y :: ds) ++ cl :: x = a :: (v ++ (fl1 ds ++ cl :: x)) := by
      show (y.1 :: (ds.map Prod.fst)).flatten ++ cl :: x = _
      rw [List.flatten_cons, List.append_assoc, e1]; rfl
    have fx' := fx (fl1 ds ++ cl :: x)
    rw [e1, List.cons_append] at fx'
    rw [e, rdL, if_neg e2]
    refine Option.bind_eq_some_iff.mpr ⟨_, fx', Option.bind_eq_some_iff.mpr ⟨_, ih k (fun z hz => h z (List.mem_cons_of_mem _ hz)) (by omega) x, ?_⟩⟩
    show some ((a :: v, y.2) :: ds, x) = _
    rw [← e1]
theorem pm_map {α β : Type} {f : α → β} {l m : List β} (h : l.Perm m) : ∀ s : List α, s.map f = l → ∃ ds : List α, ds.Perm s ∧ ds.map f = m := by
  induction h with
  | nil => intro s e; exact ⟨s, List.Perm.refl _, e⟩
  | cons x _ ih =>
    intro s e
    cases s with
    | nil => cases e
    | cons y s =>
      obtain ⟨e1, e2⟩ := List.cons.inj e
      obtain ⟨ds, d1, d2⟩ := ih s e2
      exact ⟨y :: ds, d1.cons y, by rw [List.map_cons, e1, d2]⟩
  | swap x y l =>
    intro s e
    cases s with
    | nil => cases e
    | cons a s =>
      cases s with
      | nil => cases (List.cons.inj e).2
      | cons b s =>
        obtain ⟨e1, e2⟩ := List.cons.inj e
        obtain ⟨e3, e4⟩ := List.cons.inj e2
        exact ⟨b :: a :: s, List.Perm.swap a b s, by rw [List.map_cons, List.map_cons, e1, e3, e4]⟩
  | trans _ _ a b =>
    intro s e
    obtain ⟨ds, d1, d2⟩ := a s e
    obtain ⟨ds', d3, d4⟩ := b ds d2
    exact ⟨ds', d3.trans d1, d4⟩
theorem rdE_fx {M : Int → Int} {rec : Nat → List Int → Option (List Int × Nat × List Int)} (hr : ∀ p w c n r, rec p w = some (c, n, r) → fxd (rec p) (c, n)) {e : Nat} {w c r : List Int} {n : Nat} (h : rdE M rec e w = some (c, n, r)) : fxd (rdE M rec e) (c, n) := by
  intro x
  unfold rdE at h ⊢
  dsimp only
  split at h
  · next z =>
    rw [if_pos z]
    split at h
    · next y =>
      rw [if_pos y]
      obtain ⟨⟨s, r'⟩, o1, o2⟩ := Option.bind_eq_some_iff.mp h
      cases o2
      exact Option.bind_eq_some_iff.mpr ⟨_, rdC_fx hr _ _ _ _ _ o1 x, rfl⟩
    · cases h
  · next z =>
    rw [if_neg z]
    cases w with
    | nil => cases h
    | cons a w =>
      dsimp only at h
      split at h
      · next y =>
        obtain ⟨⟨s, r'⟩, o1, o2⟩ := Option.bind_eq_some_iff.mp h
        cases o2
        show (if _ then _ else none) = _
        rw [if_pos y]
        exact Option.bind_eq_some_iff.mpr ⟨_, rdC_fx hr _ _ _ _ _ o1 x, rfl⟩
      · cases h
theorem rdP_fx {M : Int → Int} : ∀ (f p : Nat) (w c : List Int) (n : Nat) (r : List Int), rdP M f p w = some (c, n, r) → fxd (rdP M f p) (c, n) := by
  intro f
  induction f with
  | zero => intro p w c n r h; cases h
  | succ f ih =>
    intro p w c n r h x
    rw [rdP_s] at h ⊢
    unfold rdB at h ⊢
    split at h
    · next z =>
      rw [if_pos z]
      cases w with
      | nil => cases h
      | cons a w =>
        dsimp only at h
        split at h
        · next y => cases h; show (if _ then _ else none) = _; rw [if_pos y]; rfl
        · cases h
    · next z =>
      rw [if_neg z]
      split at h
      · next y => rw [if_pos y]; exact rdE_fx ih h x
      · next y =>
        rw [if_neg y]
        cases w with
        | nil => cases h
        | cons a w =>
          dsimp only at h
          split at h
          · next v =>
            obtain ⟨⟨s, r'⟩, o1, o2⟩ := Option.bind_eq_some_iff.mp h
            dsimp only at o2
            split at o2
            · next ok =>
              cases o2
              obtain ⟨_, g3, g4⟩ := rdL_ate (fun w c n r => rdP_ate f (chM M p) w c n r) _ _ _ _ o1
              have el := rdL_el (fun w c n r => ih (chM M p) w c n r) _ _ _ _ o1
              have cq := sqL_cq (M (24 + (p : Int))) (s.map Prod.fst)
              obtain ⟨ds, d1, d2⟩ := pm_map cq.pm s rfl
              have fx := rdL_fx (rec := rdP M f (chM M p)) (cl := clS (M (24 + (p : Int)))) ds 64 (fun y hy => ⟨g4 y (d1.mem_iff.mp hy), el y (d1.mem_iff.mp hy)⟩) (by rw [d1.length_eq]; exact g3) x
              have e : fl1 ds = (sqL (M (24 + (p : Int))) (s.map Prod.fst)).flatten := by unfold fl1; rw [d2]
              show (if a = _ then _ else none) = _
              rw [if_pos v]
              refine Option.bind_eq_some_iff.mpr ⟨(ds, x), ?_, ?_⟩
              · show rdL _ _ 64 (((sqL (M (24 + (p : Int))) (s.map Prod.fst)).flatten ++ [clS (M (24 + (p : Int)))]) ++ x) = _
                rw [List.append_assoc, ← e]; exact fx
              · dsimp only
                have k : okQ (M (24 + (p : Int))) (M (48 + (p : Int))) (ds.map Prod.fst) := by
                  rw [d2]; exact okQ_pm cq.pm ok
                rw [if_pos k, d2, ← sqL_eq cq, szs_pm d1]
            · cases o2
          · cases h
