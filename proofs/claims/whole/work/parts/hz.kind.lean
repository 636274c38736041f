/-! a kind of which something is read has a thing -/
theorem sur_kind {S : St} (h : Cor S) (nex : NEX (S 84)) {f e : Nat} {w c r : List Int} {n : Nat} (he : (e : Int) < S 84 0) (z : rdE (S 84) (rdP (S 84) f) e w = some (c, n, r)) (hn : ((n : Nat) : Int) ≤ S 84 1) : 1 ≤ kM (S 84) e n := by
  have wf := h.wf
  have hM1 := wf.2.1
  have oe := wf.2.2.2.2.1 e he
  refine ev_ps1 (k_terms h he (show n ≤ 7 by omega)) ?_
  have go : ∀ (t : Nat) (w' : List Int) (s : List (List Int × Nat)) (w2 : List Int), t < cnE (S 84) e → offM (S 84) e t = false → rdC (S 84) (rdP (S 84) f) 25 (fpM (S 84) e t) w' = some (s, w2) → szs s = n → 1 ≤ sm (cnE (S 84) e) (fun t => byM (S 84) e t n) := by
    intro t w' s w2 t1 t2 t3 t4
    obtain ⟨b1, b2, b3⟩ := oe.2.1 t (by unfold cnE at t1; omega)
    have eq : (((fpM (S 84) e t).toNat : Nat) : Int) = fpM (S 84) e t := by omega
    have k := (sur_ch h (sur_all h nex f) 25 (fpM (S 84) e t).toNat w' s w2 (by omega) (by rw [eq]; exact t3) (by omega)).1
    refine Nat.le_trans ?_ (le_sm (f := fun t => byM (S 84) e t n) t1)
    show 1 ≤ byM (S 84) e t n
    rw [byM_on t2, ← t4]
    exact k
  by_cases c1 : cnE (S 84) e ≤ 1
  · obtain ⟨⟨⟨q1, q2⟩, _⟩, s, w2, q3, q4⟩ := (rdE_1 c1).mp z
    exact go 0 w s w2 (by omega) q2 q3 (by cases q4; rfl)
  · cases w with
    | nil => rw [rdE_nil c1] at z; cases z
    | cons a w =>
      obtain ⟨⟨⟨q1, q2⟩, _⟩, s, w2, q3, q4⟩ := (rdE_n c1).mp z
      exact go (a - 48).toNat w s w2 (by omega) q2 q3 (by cases q4; rfl)
