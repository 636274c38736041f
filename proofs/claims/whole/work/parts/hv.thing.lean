/-! the reference's reader: a part, whatever it is -/
def MUx (M : Int → Int) (mu : Nat → Nat) : Prop := (∀ p : Nat, (p : Int) < M 2 → mu p ≤ 12) ∧ (∀ p : Nat, (p : Int) < M 2 → (M (24 + (p : Int)) = 2 ∨ M (24 + (p : Int)) = 7) → cnE M (exN M p) = 1 → 0 ≤ M (96 + fpM M (exN M p) 0) → (∃ m, m ≤ 7 ∧ 1 ≤ yM M p m) → mu (fpM M (exN M p) 0).toNat < mu p) ∧ (∀ k p p' : Nat, (p : Int) < M 2 → COL M k p p' → mu p' ≤ mu p)
theorem OUT2.col {M : Int → Int} {mu : Nat → Nat} {S T : St} {j p p' k : Nat} {w : List Int} {r : Int} (c : COL M j p p') (m : mu p' ≤ mu p) (h : OUT2 M mu S T p' k w r) : OUT2 M mu S T p k w r := by
  obtain ⟨a1, a2, a3, k', a4, a5, a6, a7⟩ := h
  refine ⟨a1, a2, a3, k', a4, a5, a6, ?_⟩
  rcases a7 with ⟨j, c', n, w', b1, b2, b3, b4, b5, b6⟩ | ⟨b1, b2, b3⟩
  · exact Or.inl ⟨j, c', n, w', b1, c.rd.mpr b2, b3, c.nd b4, b5, b6⟩
  · refine Or.inr ⟨b1, fun f c' n w' z => ?_, by omega⟩
    obtain ⟨f2, z2⟩ := c.rd.mp ⟨f, z⟩
    exact b2 f2 c' n w' z2
theorem e_rdLeaf {S : St} {M : Int → Int} {mu : Nat → Nat} {p k : Nat} {w : List Int} (wf : WF M) (hp : (p : Int) < M 2) (hv : inI (M (48 + (p : Int)))) (ty : M (24 + (p : Int)) ≤ 1) (h38 : S 83 38 = (k : Int)) (hT : cnt M (-1) S) (hI : hIn S) (hw : TXr S w) (hb : k + 14 * w.length + mu p + 1 ≤ 1024) : ∃ (r : Int) (T : St), (bd1 (mX12_here S) fun r_20 => bd1 (if M (24 + (p : Int)) = 0 then (gd (0 ≤ (48 + (p : Int)) ∧ (48 + (p : Int)) < 228) <| some ((97 + (M (48 + (p : Int)))))) else (some (45))) fun z_21 => gd ((inI r_20) ∧ (inI z_21)) <| if r_20 = z_21 then (nx (up S 83 41 ((S 83 41) + 1)) fun S_26 => gd (0 ≤ (48 + (p : Int)) ∧ (48 + (p : Int)) < 228) <| if M (24 + (p : Int)) = 0 then (bd2 (mX12_node S_26 (M (24 + (p : Int))) (S_26 84 (48 + (p : Int))) 1) fun r_33 S_34 => some (r_33, S_34)) else (bd2 (mX12_node S_26 (M (24 + (p : Int))) (S_26 84 (48 + (p : Int))) 0) fun r_30 S_31 => some (r_30, S_31))) else (some ((-1), S))) = some (r, T) ∧ OUT2 M mu S T p k w r := by
  have hM2 := wf.2.2.1
  obtain ⟨ok1, ok2, ok3, ok4, ok5, ok6⟩ := wf.2.2.2.1 p hp
  have e84 : S 84 = M := hT.1
  have hl : 0 ≤ lfS M p ∧ lfS M p < 128 := by
    unfold lfS
    split
    · next q => have := ok3 q; omega
    · omega
  have sg : (if M (24 + (p : Int)) = 0 then (gd (0 ≤ (48 + (p : Int)) ∧ (48 + (p : Int)) < 228) <| some ((97 + (M (48 + (p : Int)))))) else (some (45))) = some (lfS M p) := by
    unfold lfS
    split
    · rw [gd_t (by omega)]
    · rfl
  by_cases fit : ∃ w1, w = lfS M p :: w1
  · obtain ⟨w1, ew⟩ := fit
    subst ew
    have wl : (lfS M p :: w1).length = w1.length + 1 := rfl
    obtain ⟨y, ey, yb, ya⟩ := here_c hw
    have yo : y = lfS M p := (sb_eq yb hl).mp ya.symm
    obtain ⟨S0, eS0⟩ : ∃ S0, S0 = up S 83 41 (S 83 41 + 1) := ⟨_, rfl⟩
    have e840 : S0 84 = M := by rw [eS0, up_n (by decide)]; exact e84
    have h380 : S0 83 38 = (k : Int) := by rw [eS0, up_nk (by decide)]; exact h38
    have cm : ((lfN M p : Nat) : Int) = (if M (24 + (p : Int)) = 0 then 1 else 0) := by unfold lfN; split <;> rfl
    have run : (if M (24 + (p : Int)) = 0 then (bd2 (mX12_node S0 (M (24 + (p : Int))) (S0 84 (48 + (p : Int))) 1) fun r_33 S_34 => some (r_33, S_34)) else (bd2 (mX12_node S0 (M (24 + (p : Int))) (S0 84 (48 + (p : Int))) 0) fun r_30 S_31 => some (r_30, S_31))) = some ((k : Int), nwS S0 (k : Int) (M (24 + (p : Int))) (M (48 + (p : Int))) ((lfN M p : Nat) : Int)) := by
      rw [e840, cm]
      by_cases q : M (24 + (p : Int)) = 0
      · rw [if_pos q, if_pos q, bd2_e (e_node h380 (by omega))]
      · rw [if_neg q, if_neg q, bd2_e (e_node h380 (by omega))]
    rw [bd1_e ey, bd1_e sg, gd_t (by unfold inI; omega), if_pos yo, nx_e, ← eS0, gd_t (by omega), run]
    obtain ⟨S1, eS1⟩ : ∃ S1, S1 = nwS S0 (k : Int) (M (24 + (p : Int))) (M (48 + (p : Int))) ((lfN M p : Nat) : Int) := ⟨_, rfl⟩
    obtain ⟨n1, n2, n3, n4, n5, n6⟩ := nwS_at (S := S0) (k := (k : Int)) (a := M (24 + (p : Int))) (b := M (48 + (p : Int))) (c := ((lfN M p : Nat) : Int))
    rw [← eS1] at n1 n2 n3 n4 n5 n6 ⊢
    have nf0 : NFx S S0 := ⟨fun c i b1 b2 => by rw [eS0, up_n b1], fun i b1 b2 => by rw [eS0, up_nk b2]⟩
    have nf1 : NFx S0 S1 := ⟨fun c i a b => by rw [eS1, nwS_ot (by omega)], fun i a b => by rw [eS1, nwS_ot (by omega)]⟩
    have hI0 : hIn S0 := fun c j b1 b2 b3 => by rw [eS0, up_n (by omega)]; exact hI c j b1 b2 b3
    have hl2 : inI ((lfN M p : Nat) : Int) := by rw [cm]; split <;> decide
    have hI1 : hIn S1 := by
      rw [eS1]; unfold nwS
      have i1 : inI (-1) := by decide
      have h5 := (((((hI0.up (a := 99) (k := (k : Int)) (v := M (24 + (p : Int))) (by unfold inI; omega)).up (a := 100) (k := (k : Int)) (v := M (48 + (p : Int))) hv).up (a := 101) (k := (k : Int)) (v := ((lfN M p : Nat) : Int)) hl2).up (a := 102) (k := (k : Int)) i1).up (a := 103) (k := (k : Int)) i1)
      exact h5.up (by unfold inI; omega)
    have rdp : rdP M 1 p (lfS M p :: w1) = some ([lfS M p], lfN M p, w1) := by
      rw [rdP_leaf ty]
      dsimp only
      rw [if_pos rfl]
    refine ⟨(k : Int), S1, rfl, nf0.tr nf1, fun a j a1 a2 a3 => by rw [eS1, nwS_ot (by omega), eS0, up_n (by omega)], hI1, k + 1, by rw [n6]; omega, by omega, by omega, Or.inl ⟨k, _, _, w1, rfl, ⟨1, rdp⟩, ?_, ⟨1, ⟨⟨Nat.le_refl k, Nat.lt_succ_self k⟩, ⟨1, rdP_fx 1 p _ _ _ _ rdp⟩, Nat.le_refl 1, n3⟩, Or.inl ⟨ty, n1, n2, n4, rfl⟩⟩, n5, ?_⟩⟩
    · have h0 : TXr S0 w1 := by rw [eS0]; exact hw.nx
      exact h0.of (by rw [eS1, nwS_ot (by omega)]) (by rw [eS1, nwS_ot (by omega)]) (by rw [eS1]; exact funext fun i => nwS_ot (by omega))
    · show k + 1 + 1 ≤ k + 2 * 1
      omega
  · have hz : ∃ y : Int, mX12_here S = some y ∧ (-1 ≤ y ∧ y < 256) ∧ y ≠ lfS M p := by
      cases w with
      | nil => exact ⟨-1, here_nil hw, by omega, by omega⟩
      | cons a w =>
        obtain ⟨y, y1, y2, y3⟩ := here_c hw
        exact ⟨y, y1, by omega, fun z => fit ⟨w, by rw [y3, (sb_eq y2 hl).mpr z]⟩⟩
    obtain ⟨y, y1, y2, y3⟩ := hz
    rw [bd1_e y1, bd1_e sg, gd_t (by unfold inI; omega), if_neg y3]
    refine ⟨-1, S, rfl, NFx.rf, fun _ _ _ _ _ => rfl, hI, k, h38, Nat.le_refl _, by omega, Or.inr ⟨rfl, fun f c n w' z => ?_, by omega⟩⟩
    cases f with
    | zero => cases z
    | succ f =>
      rw [rdP_leaf ty] at z
      cases w with
      | nil => cases z
      | cons a w =>
        dsimp only at z
        by_cases q : a = lfS M p
        · exact absurd ⟨w, by rw [q]⟩ fit
        · rw [if_neg q] at z; cases z
