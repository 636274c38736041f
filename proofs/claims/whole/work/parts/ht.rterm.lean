/-! the reference's reader: an expression -/
theorem rdE_1 {M : Int → Int} {rec : Nat → List Int → Option (List Int × Nat × List Int)} {e : Nat} {w : List Int} (c : cnE M e ≤ 1) {x : List Int × Nat × List Int} : rdE M rec e w = some x ↔ ((cnE M e = 1 ∧ offM M e 0 = false) ∧ 0 ≤ fpM M e 0) ∧ ∃ s w', rdC M rec 25 (fpM M e 0) w = some (s, w') ∧ x = (fl1 s, szs s, w') := by
  unfold rdE
  rw [if_pos c]
  by_cases k : (cnE M e = 1 ∧ offM M e 0 = false) ∧ 0 ≤ fpM M e 0
  · rw [if_pos k]
    constructor
    · intro h
      obtain ⟨⟨s, w'⟩, h1, h2⟩ := Option.bind_eq_some_iff.mp h
      cases h2
      exact ⟨k, s, w', h1, rfl⟩
    · rintro ⟨_, s, w', h1, h2⟩
      rw [h1, h2]; rfl
  · rw [if_neg k]
    exact ⟨fun h => (by cases h), fun h => absurd h.1 k⟩
theorem rdE_n {M : Int → Int} {rec : Nat → List Int → Option (List Int × Nat × List Int)} {e : Nat} {a : Int} {w : List Int} (c : ¬ cnE M e ≤ 1) {x : List Int × Nat × List Int} : rdE M rec e (a :: w) = some x ↔ (((48 ≤ a ∧ a < 48 + ((cnE M e : Nat) : Int)) ∧ offM M e (a - 48).toNat = false) ∧ 0 ≤ fpM M e (a - 48).toNat) ∧ ∃ s w', rdC M rec 25 (fpM M e (a - 48).toNat) w = some (s, w') ∧ x = (a :: fl1 s, szs s, w') := by
  unfold rdE
  rw [if_neg c]
  dsimp only
  by_cases k : ((48 ≤ a ∧ a < 48 + ((cnE M e : Nat) : Int)) ∧ offM M e (a - 48).toNat = false) ∧ 0 ≤ fpM M e (a - 48).toNat
  · rw [if_pos k]
    constructor
    · intro h
      obtain ⟨⟨s, w'⟩, h1, h2⟩ := Option.bind_eq_some_iff.mp h
      cases h2
      exact ⟨k, s, w', h1, rfl⟩
    · rintro ⟨_, s, w', h1, h2⟩
      rw [h1, h2]; rfl
  · rw [if_neg k]
    exact ⟨fun h => (by cases h), fun h => absurd h.1 k⟩
theorem rdE_nil {M : Int → Int} {rec : Nat → List Int → Option (List Int × Nat × List Int)} {e : Nat} (c : ¬ cnE M e ≤ 1) : rdE M rec e [] = none := by
  unfold rdE
  rw [if_neg c]
theorem e_rdTerm {S : St} {M : Int → Int} {mu : Nat → Nat} {lo : Int} {g B e k : Nat} {w : List Int} (wf : WF M) (m12 : ∀ p : Nat, (p : Int) < M 2 → mu p ≤ 12) (H : CL2 M mu g) (hB : B ≤ 1024) (he : e < 30) (hlo : 0 ≤ lo) (oe : okE M lo e) (h38 : S 83 38 = (k : Int)) (hT : cnt M (-1) S) (hI : hIn S) (hw : TXr S w) (hk : k ≤ B) (hb : ∀ (t : Nat) (w' : List Int), (cnE M e = 1 ∧ t = 0 ∧ w' = w) ∨ (2 ≤ cnE M e ∧ t < cnE M e ∧ w'.length + 1 = w.length) → k + 1 + 14 * w'.length + mu (fpM M e t).toNat + 1 ≤ B ∧ 2 * (13 * w'.length + mu (fpM M e t).toNat) + 2 ≤ g) : ∃ (r : Int) (T : St), RX12_readsMany (g + 1) 1 (e : Int) S = some (r, T) ∧ NFx S T ∧ (∀ a j : Nat, 99 ≤ a → a ≤ 103 → j < k → T a (j : Int) = S a (j : Int)) ∧ hIn T ∧ ∃ k' : Nat, T 83 38 = (k' : Int) ∧ k ≤ k' ∧ k' ≤ 1024 ∧
    ((r = (k : Int) ∧ k < k' ∧ ∃ (t : Nat) (s : List (List Int × Nat)) (w' : List Int), t < cnE M e ∧ TXr T w' ∧ TRM M T k k' e t s ∧ ∃ f0, rdE M (rdP M f0) e w = some (dgT M e t ++ fl1 s, szs s, w')) ∨
     (r = -1 ∧ (∀ f c n w', rdE M (rdP M f) e w = some (c, n, w') → M 1 < ((n : Nat) : Int)) ∧ k' ≤ B)) := by
  have o1 := oe.1
  have e84 : S 84 = M := hT.1
  have ec : ((cnE M e : Nat) : Int) = M (198 + (e : Int)) := by unfold cnE; omega
  show ∃ (r : Int) (T : St), (if (1 : Nat) = 0 then _ else (if (1 : Nat) = 1 then (bX12_readsTerm (RX12_readsMany g) S (e : Int)) else _)) = some (r, T) ∧ _
  rw [if_neg (by decide), if_pos rfl]
  unfold bX12_readsTerm
  rw [e84, gd_t (by omega), gd_t (show inI (M (198 + (e : Int))) by unfold inI; omega)]
  by_cases c1 : M (198 + (e : Int)) = 1
  · rw [if_pos c1]
    have cn1 : cnE M e = 1 := by omega
    obtain ⟨b1, b2⟩ := hb 0 w (Or.inl ⟨cn1, rfl, rfl⟩)
    obtain ⟨r, T, g1, g2, g3, g4, k', g5, g6, g7, g8⟩ := e_tail (t := 0) wf m12 H hB he hlo oe (by omega) h38 hT hI hw b1 b2
    obtain ⟨t1, t2, t3⟩ := oe.2.1 0 (by omega)
    refine ⟨r, T, g1, g2, g3, g4, k', g5, g6, g7, ?_⟩
    rcases g8 with ⟨u1, u2, u3, s, w', ⟨f0, u4⟩, u5, u6⟩ | ⟨u1, u2, u3⟩
    · refine Or.inl ⟨u1, u2, 0, s, w', by omega, u5, u6, f0, ?_⟩
      refine (rdE_1 (by omega)).mpr ⟨⟨⟨cn1, u3⟩, by omega⟩, s, w', u4, ?_⟩
      unfold dgT
      rw [if_pos (by omega)]; rfl
    · refine Or.inr ⟨u1, fun f c n w' z => ?_, u3⟩
      obtain ⟨⟨⟨_, z1⟩, _⟩, s, w2, z2, z3⟩ := (rdE_1 (by omega)).mp z
      rcases u2 with v | v
      · rw [v] at z1; cases z1
      · have := v f 25 s w2 z2
        cases z3
        exact this
  · rw [if_neg c1]
    by_cases c0 : cnE M e = 0 ∨ w = []
    · -- none fits
      have none : ∀ f c n w', rdE M (rdP M f) e w = some (c, n, w') → M 1 < ((n : Nat) : Int) := fun f c n w' z => by
        rcases c0 with q | q
        · obtain ⟨⟨⟨z1, _⟩, _⟩, _⟩ := (rdE_1 (by omega)).mp z
          omega
        · by_cases c2 : cnE M e ≤ 1
          · obtain ⟨⟨⟨z1, _⟩, _⟩, _⟩ := (rdE_1 c2).mp z
            omega
          · rw [q, rdE_nil c2] at z; cases z
      obtain ⟨y, ey, yb, yn⟩ : ∃ y : Int, mX12_here S = some y ∧ (-1 ≤ y ∧ y < 256) ∧ (w = [] → y = -1) := by
        cases w with
        | nil => exact ⟨-1, here_nil hw, by omega, fun _ => rfl⟩
        | cons a w => obtain ⟨y, y1, y2, _⟩ := here_c hw; exact ⟨y, y1, by omega, fun q => (by cases q)⟩
      have ei := e_in (v := y - 48) (lo := 0) (hi := M (198 + (e : Int)) - 1) (by unfold inL; omega) (by decide) (by unfold inL; omega)
      have nf : ¬ (0 ≤ y - 48 ∧ y - 48 ≤ M (198 + (e : Int)) - 1) := fun q => by
        rcases c0 with z | z
        · omega
        · have := yn z; omega
      rw [if_neg nf] at ei
      rw [bd1_e ey, nx_e, gd_t (by unfold inI; omega), gd_t (by unfold inI; omega), bd1_e ei, gd_t (by decide), if_pos rfl]
      exact ⟨-1, S, rfl, NFx.rf, fun _ _ _ _ _ => rfl, hI, k, h38, Nat.le_refl _, by omega, Or.inr ⟨rfl, none, hk⟩⟩
    · have cn2 : ¬ cnE M e ≤ 1 := by
        have : cnE M e ≠ 0 := fun q => c0 (Or.inl q)
        omega
      cases w with
      | nil => exact absurd (Or.inr rfl) c0
      | cons a w =>
        obtain ⟨y, ey, yb, ya⟩ := here_c hw
        have ei := e_in (v := y - 48) (lo := 0) (hi := M (198 + (e : Int)) - 1) (by unfold inL; omega) (by decide) (by unfold inL; omega)
        rw [bd1_e ey, nx_e, gd_t (by unfold inI; omega), gd_t (by unfold inI; omega), bd1_e ei]
        by_cases fit : 0 ≤ y - 48 ∧ y - 48 ≤ M (198 + (e : Int)) - 1
        · rw [if_pos fit, gd_t (by decide), if_neg (by decide), nx_e]
          have a48 : a = y := by rw [ya]; unfold sb; rw [if_pos (by omega)]
          obtain ⟨t, et⟩ : ∃ t : Nat, y - 48 = (t : Int) := ⟨(y - 48).toNat, by omega⟩
          have et2 : (a - 48).toNat = t := by omega
          have hw2 := hw.nx
          have hI2 : hIn (up S 83 41 (S 83 41 + 1)) := fun c j b1 b2 b3 => by rw [up_n (by omega)]; exact hI c j b1 b2 b3
          have nf : NFx S (up S 83 41 (S 83 41 + 1)) := ⟨fun c i b1 b2 => by rw [up_n b1], fun i b1 b2 => by rw [up_nk b2]⟩
          obtain ⟨b1, b2⟩ := hb t w (Or.inr ⟨by omega, by omega, rfl⟩)
          obtain ⟨r, T, g1, g2, g3, g4, k', g5, g6, g7, g8⟩ := e_tail (S := up S 83 41 (S 83 41 + 1)) (t := t) wf m12 H hB he hlo oe (by omega) (by rw [up_nk (by decide)]; exact h38) (nf.cn hT) hI2 hw2 b1 b2
          obtain ⟨t1, t2, t3⟩ := oe.2.1 t (by omega)
          rw [et]
          refine ⟨r, T, g1, nf.tr g2, fun c j b1 b2 b3 => by rw [g3 c j b1 b2 b3, up_n (by omega)], g4, k', g5, g6, g7, ?_⟩
          rcases g8 with ⟨u1, u2, u3, s, w', ⟨f0, u4⟩, u5, u6⟩ | ⟨u1, u2, u3⟩
          · refine Or.inl ⟨u1, u2, t, s, w', by omega, u5, u6, f0, ?_⟩
            refine (rdE_n cn2).mpr ?_
            rw [et2]
            refine ⟨⟨⟨by omega, u3⟩, by omega⟩, s, w', u4, ?_⟩
            unfold dgT
            rw [if_neg cn2]
            show ((48 + (t : Int)) :: fl1 s, szs s, w') = _
            rw [show 48 + (t : Int) = a by omega]
          · refine Or.inr ⟨u1, fun f c n w' z => ?_, u3⟩
            have z' := (rdE_n cn2).mp z
            rw [et2] at z'
            obtain ⟨⟨⟨_, z1⟩, _⟩, s, w2, z2, z3⟩ := z'
            rcases u2 with v | v
            · rw [v] at z1; cases z1
            · have := v f 25 s w2 z2
              cases z3
              exact this
        · rw [if_neg fit, gd_t (by decide), if_pos rfl]
          refine ⟨-1, S, rfl, NFx.rf, fun _ _ _ _ _ => rfl, hI, k, h38, Nat.le_refl _, by omega, Or.inr ⟨rfl, fun f c n w' z => ?_, hk⟩⟩
          exfalso
          obtain ⟨⟨⟨⟨z1, z2⟩, _⟩, _⟩, _⟩ := (rdE_n cn2).mp z
          have : a = y := by
            rw [ya] at z1 z2 ⊢
            unfold sb at z1 z2 ⊢
            split
            · rfl
            · next q => rw [if_neg q] at z1 z2; omega
          omega
