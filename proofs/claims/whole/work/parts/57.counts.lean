-- the reference's counts: the tables set to zero, then size by size
theorem z90 (lett : Int) : ∀ (d i f : Nat) (S : St), i + d = 1920 → d < f → (∀ j : Nat, j < i → S 90 (j : Int) = 0) → wp (mX12_counts_2 lett f (i : Int) S) (fun S' => (∀ j : Nat, j < 1920 → S' 90 (j : Int) = 0) ∧ kept [90] [] S S') := by
  intro d
  induction d with
  | zero =>
    intro i f S hi hf h
    obtain ⟨g, rfl⟩ : ∃ g, f = g + 1 := ⟨f - 1, by omega⟩
    rw [mX12_counts_2, gd_t (by omega), if_pos (by omega), wp_some]
    exact ⟨fun j hj => h j (by omega), fun _ _ _ _ => rfl⟩
  | succ d ih =>
    intro i f S hi hf h
    obtain ⟨g, rfl⟩ : ∃ g, f = g + 1 := ⟨f - 1, by omega⟩
    rw [mX12_counts_2, gd_t (by omega), if_neg (by omega), gd_t (by omega), nx_e]
    have := ih (i + 1) g (up S 90 (i : Int) 0) (by omega) (by omega) (fun j hj => by
      by_cases e : j = i
      · subst e; exact up_eq
      · rw [up_nk (by omega)]; exact h j (by omega))
    rw [show ((i + 1 : Nat) : Int) = (i : Int) + 1 by omega] at this
    refine wp_mono this (fun S' q => ⟨q.1, fun r k a b => ?_⟩)
    rw [q.2 r k a b, up_n (by intro e; exact a (by simp [e]))]
theorem z91 (lett : Int) : ∀ (d i f : Nat) (S : St), i + d = 1536 → d < f → (∀ j : Nat, j < i → S 91 (j : Int) = 0) → wp (mX12_counts_26 lett f (i : Int) S) (fun S' => (∀ j : Nat, j < 1536 → S' 91 (j : Int) = 0) ∧ kept [91] [] S S') := by
  intro d
  induction d with
  | zero =>
    intro i f S hi hf h
    obtain ⟨g, rfl⟩ : ∃ g, f = g + 1 := ⟨f - 1, by omega⟩
    rw [mX12_counts_26, gd_t (by omega), if_pos (by omega), wp_some]
    exact ⟨fun j hj => h j (by omega), fun _ _ _ _ => rfl⟩
  | succ d ih =>
    intro i f S hi hf h
    obtain ⟨g, rfl⟩ : ∃ g, f = g + 1 := ⟨f - 1, by omega⟩
    rw [mX12_counts_26, gd_t (by omega), if_neg (by omega), gd_t (by omega), nx_e]
    have := ih (i + 1) g (up S 91 (i : Int) 0) (by omega) (by omega) (fun j hj => by
      by_cases e : j = i
      · subst e; exact up_eq
      · rw [up_nk (by omega)]; exact h j (by omega))
    rw [show ((i + 1 : Nat) : Int) = (i : Int) + 1 by omega] at this
    refine wp_mono this (fun S' q => ⟨q.1, fun r k a b => ?_⟩)
    rw [q.2 r k a b, up_n (by intro e; exact a (by simp [e]))]
