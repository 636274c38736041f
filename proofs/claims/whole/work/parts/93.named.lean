/-! names of kinds: both readers find the same one -/
def NM (S T : St) (u : Int → Int) (n nk : Nat) : Prop := (S 13 1 = (nk : Int) ∧ T 84 0 = (nk : Int) ∧ nk ≤ 6) ∧ ∀ k : Nat, k < nk → ∃ s l : Nat, S 24 (k : Int) = (s : Int) ∧ S 25 (k : Int) = (l : Int) ∧ T 88 (k : Int) = (l : Int) ∧ l ≤ 8 ∧ s + l ≤ n ∧ ∀ j : Nat, j < l → T 87 (8 * (k : Int) + (j : Int)) = u ((s + j : Nat) : Int)
theorem sb_inj {x y : Int} (a : 0 ≤ x ∧ x ≤ 255) (b : 0 ≤ y ∧ y ≤ 255) : sb x = sb y ↔ x = y := by
  unfold sb
  constructor
  · intro h; split at h <;> split at h <;> omega
  · intro h; rw [h]
theorem e_sameBytes {S : St} {u : Int → Int} {n s a l : Nat} (h : TC S u n) (h1 : s + l ≤ n) (h2 : a + l ≤ n) : tells (mX5_sameBytes S (s : Int) (a : Int) (l : Int)) (∀ j : Nat, j < l → u ((s + j : Nat) : Int) = u ((a + j : Nat) : Int)) := by
  have h4 := h.1.2.2
  have key : ∀ d i f : Nat, i + d = l → d < f → ∃ r : Int, mX5_sameBytes_3 S (s : Int) (a : Int) (l : Int) f (i : Int) = some r ∧ (r = 0 ∨ r = 1) ∧ (r = 1 ↔ ∀ j : Nat, i ≤ j → j < l → u ((s + j : Nat) : Int) = u ((a + j : Nat) : Int)) := by
    intro d
    induction d with
    | zero =>
      intro i f hi hf
      obtain ⟨f', rfl⟩ : ∃ g, f = g + 1 := ⟨f - 1, by omega⟩
      refine ⟨1, ?_, by omega, ⟨fun _ j x y => by omega, fun _ => rfl⟩⟩
      rw [mX5_sameBytes_3, gd_t (by omega), if_pos (by omega)]
    | succ d ih =>
      intro i f hi hf
      obtain ⟨f', rfl⟩ : ∃ g, f = g + 1 := ⟨f - 1, by omega⟩
      obtain ⟨r, r1, r2, r3⟩ := ih (i + 1) f' (by omega) (by omega)
      rw [show ((i + 1 : Nat) : Int) = (i : Int) + 1 by omega] at r1
      obtain ⟨v, v0, v1⟩ := h.2 (s + i) (by omega)
      obtain ⟨w, w0, w1⟩ := h.2 (a + i) (by omega)
      have b1 : -128 ≤ sb (u ((s + i : Nat) : Int)) ∧ sb (u ((s + i : Nat) : Int)) ≤ 127 := by unfold sb; split <;> omega
      have b2 : -128 ≤ sb (u ((a + i : Nat) : Int)) ∧ sb (u ((a + i : Nat) : Int)) ≤ 127 := by unfold sb; split <;> omega
      rw [mX5_sameBytes_3, gd_t (by omega), if_neg (by omega), gd_t h.1.1, gd_t (by omega), gd_t (by omega), show (s : Int) + (i : Int) = ((s + i : Nat) : Int) by omega, show (a : Int) + (i : Int) = ((a + i : Nat) : Int) by omega, v, w, gd_t (by omega)]
      have si := sb_inj (x := u ((s + i : Nat) : Int)) (y := u ((a + i : Nat) : Int)) ⟨v0, v1⟩ ⟨w0, w1⟩
      by_cases e : u ((s + i : Nat) : Int) = u ((a + i : Nat) : Int)
      · refine ⟨r, by rw [if_pos (si.mpr e), r1], r2, r3.trans ⟨fun x j y z => ?_, fun x j y z => x j (by omega) z⟩⟩
        by_cases ej : j = i
        · subst ej; exact e
        · exact x j (by omega) z
      · exact ⟨0, by rw [if_neg (fun x => e (si.mp x))], by omega, ⟨fun x => by omega, fun x => absurd (x i (Nat.le_refl _) (by omega)) e⟩⟩
  obtain ⟨r, r1, r2, r3⟩ := key l 0 FU (by omega) (by unfold FU; omega)
  unfold mX5_sameBytes
  rw [bd1_e (show mX5_sameBytes_3 S (s : Int) (a : Int) (l : Int) FU 0 = some r from r1)]
  refine ⟨r, ?_, r2, r3.trans ⟨fun x i hi => x i (Nat.zero_le _) hi, fun x j _ hj => x j hj⟩⟩
  rcases r2 with e | e <;> rw [e] <;> rfl
theorem e_named46 {T : St} {u : Int → Int} {n s a l k : Nat} (h : TF T u n) (hk : k < 6) (h7 : T 83 7 = (a : Int)) (h8 : T 88 (k : Int) = (l : Int)) (hl : l ≤ 8) (h1 : s + l ≤ n) (h2 : a + l ≤ n) (hj : ∀ j : Nat, j < l → T 87 (8 * (k : Int) + (j : Int)) = u ((s + j : Nat) : Int)) : tells (mX12_named_46 T (k : Int) FU 0 1) (∀ j : Nat, j < l → u ((s + j : Nat) : Int) = u ((a + j : Nat) : Int)) := by
  have h4 := h.1.2
  have zero : ∀ i f : Nat, 0 < f → i ≤ l → mX12_named_46 T (k : Int) f (i : Int) 0 = some 0 := fun i f hf hi => by
    obtain ⟨f', rfl⟩ : ∃ g, f = g + 1 := ⟨f - 1, by omega⟩
    rw [mX12_named_46, gd_t (by omega), h8, gd_t (by omega)]
    split
    · rfl
    · rw [gd_t (by decide), if_pos rfl]
  have key : ∀ d i f : Nat, i + d = l → d + 1 < f → ∃ r : Int, mX12_named_46 T (k : Int) f (i : Int) 1 = some r ∧ (r = 0 ∨ r = 1) ∧ (r = 1 ↔ ∀ j : Nat, i ≤ j → j < l → u ((s + j : Nat) : Int) = u ((a + j : Nat) : Int)) := by
    intro d
    induction d with
    | zero =>
      intro i f hi hf
      obtain ⟨f', rfl⟩ : ∃ g, f = g + 1 := ⟨f - 1, by omega⟩
      refine ⟨1, ?_, by omega, ⟨fun _ j x y => by omega, fun _ => rfl⟩⟩
      rw [mX12_named_46, gd_t (by omega), h8, gd_t (by omega), if_pos (by omega)]
    | succ d ih =>
      intro i f hi hf
      obtain ⟨f', rfl⟩ : ∃ g, f = g + 1 := ⟨f - 1, by omega⟩
      obtain ⟨r, r1, r2, r3⟩ := ih (i + 1) f' (by omega) (by omega)
      have zz := zero (i + 1) f' (by omega) (by omega)
      rw [show ((i + 1 : Nat) : Int) = (i : Int) + 1 by omega] at r1 zz
      obtain ⟨v, v0, v1⟩ := h.2 (s + i) (by omega)
      obtain ⟨w, w0, w1⟩ := h.2 (a + i) (by omega)
      rw [mX12_named_46, gd_t (by omega), h8, gd_t (by omega), if_neg (by omega), gd_t (by decide), if_neg (by decide), h7, gd_t (by omega), gd_t (by omega), show (a : Int) + (i : Int) = ((a + i : Nat) : Int) by omega, w, hj i (by omega), gd_t (by omega)]
      by_cases e : u ((s + i : Nat) : Int) = u ((a + i : Nat) : Int)
      · refine ⟨r, by rw [if_pos e.symm, r1], r2, r3.trans ⟨fun x j y z => ?_, fun x j y z => x j (by omega) z⟩⟩
        by_cases ej : j = i
        · subst ej; exact e
        · exact x j (by omega) z
      · exact ⟨0, by rw [if_neg (fun x => e x.symm), zz], by omega, ⟨fun x => by omega, fun x => absurd (x i (Nat.le_refl _) (by omega)) e⟩⟩
  obtain ⟨r, r1, r2, r3⟩ := key l 0 FU (by omega) (by unfold FU; omega)
  exact ⟨r, r1, r2, r3.trans ⟨fun x i hi => x i (Nat.zero_le _) hi, fun x j _ hj => x j hj⟩⟩
theorem e_named0 {T : St} {l k : Nat} (hk : k < 6) (h8 : T 88 (k : Int) = (l : Int)) (hl : l ≤ 8) : mX12_named_46 T (k : Int) FU 0 0 = some 0 := by
  show mX12_named_46 T (k : Int) (1999999 + 1) 0 0 = some 0
  rw [mX12_named_46, gd_t (by omega), h8, gd_t (by omega)]
  split
  · rfl
  · rw [gd_t (by decide), if_pos rfl]
theorem sim_named {S T : St} {u : Int → Int} {n a nk : Nat} (hC : TC S u n) (hF : TF T u n) (cC : CL S u n a) (cF : FL T u n a) (hN : NM S T u n nk) (t1 : tk u n a = 1) : ∃ r : Int, mX5_kindNamed S = some r ∧ mX12_named T = some r ∧ (r = -1 ∨ (0 ≤ r ∧ r < (nk : Int))) := by
  obtain ⟨⟨n1, n2, n3⟩, hnm⟩ := hN
  obtain ⟨hn, c8, c6, c7, _⟩ := cC
  obtain ⟨_, f7, f6, f8, _⟩ := cF
  have eb := en_b (u := u) hn
  have h4 := hC.1.2.2
  have key : ∀ d k f : Nat, k + d = nk → d < f → (∃ j : Nat, j < nk ∧ mX5_kindNamed_2 S f (k : Int) = some (0, (j : Int)) ∧ mX12_named_2 T f (k : Int) = some (0, (j : Int))) ∨ (∃ y z : Int, mX5_kindNamed_2 S f (k : Int) = some (1, y) ∧ mX12_named_2 T f (k : Int) = some (1, z)) := by
    intro d
    induction d with
    | zero =>
      intro k f hi hf
      obtain ⟨f', rfl⟩ : ∃ g, f = g + 1 := ⟨f - 1, by omega⟩
      refine Or.inr ⟨(k : Int), (k : Int), ?_, ?_⟩
      · rw [mX5_kindNamed_2, n1, gd_t (by omega), if_pos (by omega)]
      · rw [mX12_named_2, n2, gd_t (by omega), if_pos (by omega)]
    | succ d ih =>
      intro k f hi hf
      obtain ⟨f', rfl⟩ : ∃ g, f = g + 1 := ⟨f - 1, by omega⟩
      have go := ih (k + 1) f' (by omega) (by omega)
      rw [show ((k + 1 : Nat) : Int) = (k : Int) + 1 by omega] at go
      obtain ⟨s, l, s1, s2, s3, s4, s5, s6⟩ := hnm k (by omega)
      by_cases le : en u n a = a + l
      · have z : (gd (inI (T 83 8)) <| if (T 83 8) = 1 then (gd (0 ≤ (k : Int) ∧ (k : Int) < 6) <| gd ((inI ((T 83 6) - (T 83 7))) ∧ (inI (T 88 (k : Int)))) <| if ((T 83 6) - (T 83 7)) = (T 88 (k : Int)) then (some (1 : Int)) else (some (0))) else (some (0))) = some 1 := by
          rw [f8, t1, gd_t (by decide), if_pos rfl, gd_t (by omega), f6, f7, s3, gd_t (by omega), if_pos (by omega)]
        obtain ⟨r, r1, r2, r3⟩ := e_named46 (s := s) (a := a) hF (show k < 6 by omega) f7 s3 s4 s5 (by omega) s6
        obtain ⟨q, q1, q2, q3⟩ := e_sameBytes (s := s) (a := a) (l := l) hC s5 (by omega)
        have rq : r = q := by
          rcases r2 with x | x <;> rcases q2 with y | y
          · omega
          · exfalso; have := r3.mpr (q3.mp y); omega
          · exfalso; have := q3.mpr (r3.mp x); omega
          · omega
        have eC : mX5_kindNamed_2 S (f' + 1) (k : Int) = if q = 0 then mX5_kindNamed_2 S f' ((k : Int) + 1) else some (0, (k : Int)) := by
          rw [mX5_kindNamed_2, n1, gd_t (by omega), if_neg (by omega), gd_t (by omega), s2, c6, c8, gd_t (by omega), if_pos (by omega), s1, show ((en u n a : Nat) : Int) - (a : Int) = (l : Int) by omega, bd1_e q1, gd_t (by omega)]
        have eF : mX12_named_2 T (f' + 1) (k : Int) = if q = 0 then mX12_named_2 T f' ((k : Int) + 1) else some (0, (k : Int)) := by
          rw [mX12_named_2, n2, gd_t (by omega), if_neg (by omega), bd1_e z, bd1_e r1, rq, gd_t (by omega)]
        rw [eC, eF]
        rcases q2 with y | y
        · rw [if_pos y, if_pos y]
          exact go
        · rw [if_neg (by omega), if_neg (by omega)]
          exact Or.inl ⟨k, by omega, rfl, rfl⟩
      · have z : (gd (inI (T 83 8)) <| if (T 83 8) = 1 then (gd (0 ≤ (k : Int) ∧ (k : Int) < 6) <| gd ((inI ((T 83 6) - (T 83 7))) ∧ (inI (T 88 (k : Int)))) <| if ((T 83 6) - (T 83 7)) = (T 88 (k : Int)) then (some (1 : Int)) else (some (0))) else (some (0))) = some 0 := by
          rw [f8, t1, gd_t (by decide), if_pos rfl, gd_t (by omega), f6, f7, s3, gd_t (by omega), if_neg (by omega)]
        have eC : mX5_kindNamed_2 S (f' + 1) (k : Int) = mX5_kindNamed_2 S f' ((k : Int) + 1) := by
          rw [mX5_kindNamed_2, n1, gd_t (by omega), if_neg (by omega), gd_t (by omega), s2, c6, c8, gd_t (by omega), if_neg (by omega)]
        have eF : mX12_named_2 T (f' + 1) (k : Int) = mX12_named_2 T f' ((k : Int) + 1) := by
          rw [mX12_named_2, n2, gd_t (by omega), if_neg (by omega), bd1_e z, bd1_e (e_named0 (by omega) s3 s4), gd_t (by decide), if_pos rfl]
        rw [eC, eF]
        exact go
  unfold mX5_kindNamed mX12_named
  rcases key nk 0 FU (by omega) (by unfold FU; omega) with ⟨j, j0, j1, j2⟩ | ⟨y, z, j1, j2⟩
  · exact ⟨(j : Int), by rw [bd2_e (show mX5_kindNamed_2 S FU 0 = _ from j1), if_pos rfl], by rw [bd2_e (show mX12_named_2 T FU 0 = _ from j2), if_pos rfl], Or.inr (by omega)⟩
  · exact ⟨-1, by rw [bd2_e (show mX5_kindNamed_2 S FU 0 = _ from j1), if_neg (by decide)], by rw [bd2_e (show mX12_named_2 T FU 0 = _ from j2), if_neg (by decide)], Or.inl rfl⟩
