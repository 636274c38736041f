-- the reference's names: labelled rows
theorem ni61 {S : St} {c j m : Nat} {a1 a2 a4 : Int} {X : Nat → Nat} (hc : c < 30) (hj : 1 ≤ j) (hjm : j ≤ m) (hm : m ≤ 7) (h93 : nb S 93 240 1000000000000) (hX : ∀ t : Nat, t ≤ 7 → S 95 (((j - 1) * 8 + t : Nat) : Int) = ((min LL (X t) : Nat) : Int)) : ∀ d s f : Nat, s + d = m - j + 1 → d < f → mX12_namedIn_61 S (m : Int) (j : Int) a1 a2 (c : Int) a4 f ((s : Int) + 1) ((min LL (sm s (fun s => cho m (s + 1) * (tb S 93 (c * 8 + (s + 1)) * X (m - (s + 1))))) : Nat) : Int) = some ((min LL (sm (m - j + 1) (fun s => cho m (s + 1) * (tb S 93 (c * 8 + (s + 1)) * X (m - (s + 1))))) : Nat) : Int) := by
  have LE : LL = 100000000000000000 := rfl
  intro d
  induction d with
  | zero =>
    intro s f hi hf
    obtain ⟨g, rfl⟩ : ∃ g, f = g + 1 := ⟨f - 1, by omega⟩
    rw [mX12_namedIn_61, gd_t (by omega), if_pos (by omega), show s = m - j + 1 by omega]
  | succ d ih =>
    intro s f hi hf
    obtain ⟨g, rfl⟩ : ∃ g, f = g + 1 := ⟨f - 1, by omega⟩
    have l := ih (s + 1) g (by omega) (by omega)
    rw [sm_s, ← min_add] at l
    have v1 := h93.at (show c * 8 + (s + 1) < 240 by omega)
    have v2 := hX (m - (s + 1)) (by omega)
    rw [show ((c * 8 + (s + 1) : Nat) : Int) = (c : Int) * 8 + ((s : Int) + 1) by omega] at v1
    rw [show (((j - 1) * 8 + (m - (s + 1)) : Nat) : Int) = (((j : Int) - 1) * 8 + (m : Int)) - ((s : Int) + 1) by omega] at v2
    have cl : ∀ x : Nat, min LL x ≤ 100000000000000000 := fun x => Nat.min_le_left _ _
    have c1 := cl (sm s (fun s => cho m (s + 1) * (tb S 93 (c * 8 + (s + 1)) * X (m - (s + 1)))))
    have c0 := cl (X (m - (s + 1)))
    have c2 := cl (tb S 93 (c * 8 + (s + 1)) * X (m - (s + 1)))
    have c3 := cl (cho m (s + 1) * (tb S 93 (c * 8 + (s + 1)) * X (m - (s + 1))))
    have c4 : cho m (s + 1) ≤ 128 := cho_128 hm
    rw [mX12_namedIn_61, gd_t (by omega), if_neg (by omega), gd_t (by omega), gd_t (by omega), v1.1, v2, bd1_e (e_mulL (by omega) (by omega)), show (s : Int) + 1 = ((s + 1 : Nat) : Int) by omega, bd1_e (e_ofAll hm (by omega)), ← LE, min_mul]
    rw [bd1_e (show mX12_mul ((cho m (s + 1) : Nat) : Int) ((min LL (tb S 93 (c * 8 + (s + 1)) * X (m - (s + 1))) : Nat) : Int) 100000000000000000 = _ from e_mulL (by omega) (by omega)), ← LE, min_mul, bd1_e (e_addL (by omega)), ← LE]
    exact l
