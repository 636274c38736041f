/-! the reference: of a part and all behind it in its term -/
def rs (Y R : Nat → Nat) (q : Int) (p n k : Nat) : Nat := if q < 0 then Y (pl p n k) else sm (n + 1) (fun s => sm (k + 1) (fun i => Y (pl p s i) * R (pl q.toNat (n - s) (k - i))))
theorem cr60 {S : St} {p q n k s top : Nat} (hp : p < 30) (hq : q < 24) (hn : n ≤ 7) (hk : k ≤ 7) (hs : s ≤ n) (h90 : nb S 90 1920 1000000000000) (h91 : nb S 91 1536 1000000000000) (X : Nat) : ∀ d i f : Nat, i + d = min s k + 1 → d < f → mX12_countsRest_60 S (s : Int) (k : Int) (q : Int) (p : Int) (n : Int) (top : Int) f (i : Int) ((min CC (X + sm i (fun i => tb S 90 (pl p s i) * tb S 91 (pl q (n - s) (k - i)))) : Nat) : Int) = some ((min CC (X + sm (min s k + 1) (fun i => tb S 90 (pl p s i) * tb S 91 (pl q (n - s) (k - i)))) : Nat) : Int) := by
  intro d
  induction d with
  | zero =>
    intro i f hi hf
    obtain ⟨g, rfl⟩ : ∃ g, f = g + 1 := ⟨f - 1, by omega⟩
    rw [mX12_countsRest_60, gd_t (by omega), if_pos (by omega), show i = min s k + 1 by omega]
  | succ d ih =>
    intro i f hi hf
    obtain ⟨g, rfl⟩ : ∃ g, f = g + 1 := ⟨f - 1, by omega⟩
    have b1 : pl p s i < 1920 := Nat.lt_of_lt_of_le (pl_lt (by omega) (by omega) hp) (by decide)
    have b2 : pl q (n - s) (k - i) < 1536 := Nat.lt_of_lt_of_le (pl_lt (by omega) (by omega) hq) (by decide)
    have q1 := h90.at b1
    have q2 := h91.at b2
    have cl : ∀ x : Nat, min CC x ≤ 1000000000000 := fun x => Nat.min_le_left _ _
    have a1 := cl (X + sm i (fun i => tb S 90 (pl p s i) * tb S 91 (pl q (n - s) (k - i))))
    have a2 := cl (tb S 90 (pl p s i) * tb S 91 (pl q (n - s) (k - i)))
    rw [mX12_countsRest_60, gd_t (by omega), if_neg (by omega), bd1_e (e_pl (a := p) (n := s) (k := i)), gd_t (by omega)]
    rw [bd1_e (show mX12_place (q : Int) ((n : Int) - (s : Int)) ((k : Int) - (i : Int)) = some ((pl q (n - s) (k - i) : Nat) : Int) by
      rw [show (n : Int) - (s : Int) = ((n - s : Nat) : Int) by omega, show (k : Int) - (i : Int) = ((k - i : Nat) : Int) by omega]; exact e_pl), gd_t (by omega), q1.1, q2.1, bd1_e (e_mulC (by omega) (by omega))]
    rw [bd1_e (e_addC (by rw [CC_eq] at a1 a2 ⊢; omega))]
    have := ih (i + 1) g (by omega) (by omega)
    rw [show ((i + 1 : Nat) : Int) = (i : Int) + 1 by omega, sm_s, ← Nat.add_assoc, ← min_add] at this
    exact this
theorem cr46 {S : St} {p q n k top : Nat} (hp : p < 30) (hq : q < 24) (hn : n ≤ 7) (hk : k ≤ 7) (h90 : nb S 90 1920 1000000000000) (h91 : nb S 91 1536 1000000000000) : ∀ d s f : Nat, s + d = n + 1 → d < f → mX12_countsRest_46 S (k : Int) (q : Int) (p : Int) (n : Int) (top : Int) f (s : Int) ((min CC (sm s (fun s => sm (min s k + 1) (fun i => tb S 90 (pl p s i) * tb S 91 (pl q (n - s) (k - i))))) : Nat) : Int) = some ((min CC (sm (n + 1) (fun s => sm (min s k + 1) (fun i => tb S 90 (pl p s i) * tb S 91 (pl q (n - s) (k - i))))) : Nat) : Int) := by
  intro d
  induction d with
  | zero =>
    intro s f hs hf
    obtain ⟨g, rfl⟩ : ∃ g, f = g + 1 := ⟨f - 1, by omega⟩
    rw [mX12_countsRest_46, gd_t (by omega), if_pos (by omega), show s = n + 1 by omega]
  | succ d ih =>
    intro s f hs hf
    obtain ⟨g, rfl⟩ : ∃ g, f = g + 1 := ⟨f - 1, by omega⟩
    have l := cr60 (S := S) (p := p) (q := q) (n := n) (k := k) (s := s) (top := top) hp hq hn hk (by omega) h90 h91 (sm s (fun s => sm (min s k + 1) (fun i => tb S 90 (pl p s i) * tb S 91 (pl q (n - s) (k - i))))) (min s k + 1) 0 FU (by omega) (by unfold FU; omega)
    rw [show ∀ (X : Nat) (F : Nat → Nat), X + sm 0 F = X from fun _ _ => rfl] at l
    rw [mX12_countsRest_46, gd_t (by omega), if_neg (by omega), gd_t (by omega), if_neg (by omega), bd1_e (show mX12_countsRest_60 S (s : Int) (k : Int) (q : Int) (p : Int) (n : Int) (top : Int) FU 0 _ = some _ from l)]
    have := ih (s + 1) g (by omega) (by omega)
    rw [show ((s + 1 : Nat) : Int) = (s : Int) + 1 by omega] at this
    exact this
theorem cr46n {S : St} {p n k top : Nat} {q : Int} (hq : q = -1) (hn : n ≤ 7) {x : Int} : mX12_countsRest_46 S (k : Int) q (p : Int) (n : Int) (top : Int) FU 0 x = some x := by
  obtain ⟨m, hm⟩ := FU_ge (n := 0) (by omega)
  subst hq
  rw [hm, mX12_countsRest_46, gd_t (by omega), if_neg (by omega), gd_t (by omega), if_pos (by omega)]
theorem cr14 {p n top : Nat} {q : Int} {Y R : Nat → Nat} (hp : p < 24) (hn : n ≤ 7) (htop : top ≤ 7) (hq : q = -1 ∨ ((p : Int) < q ∧ q < 24)) (hY : ∀ j, j < 1920 → Y j ≤ 1000000000000) (hR : ∀ j, j < 1536 → R j ≤ 1000000000000) (hY0 : ∀ s i, s < i → i ≤ 7 → Y (pl p s i) = 0) : ∀ (d k f : Nat) (S : St), k + d = top + 1 → d < f → (∀ j : Nat, j < 1920 → S 90 (j : Int) = ((Y j : Nat) : Int)) → (∀ j : Nat, j < 1536 → S 91 (j : Int) = ((if ∃ k', k' < k ∧ j = pl p n k' then min CC (rs Y R q p n (j - pl p n 0)) else R j : Nat) : Int)) → wp (mX12_countsRest_14 q (p : Int) (n : Int) (top : Int) f (k : Int) S) (fun S' => ∀ j : Nat, j < 1536 → S' 91 (j : Int) = ((if ∃ k', k' < top + 1 ∧ j = pl p n k' then min CC (rs Y R q p n (j - pl p n 0)) else R j : Nat) : Int)) := by
  intro d
  induction d with
  | zero =>
    intro k f S hk hf h90 h91
    obtain ⟨g, rfl⟩ : ∃ g, f = g + 1 := ⟨f - 1, by omega⟩
    rw [mX12_countsRest_14, gd_t (by omega), if_pos (by omega), wp_some]
    rw [show k = top + 1 by omega] at h91
    exact h91
  | succ d ih =>
    intro k f S hk hf h90 h91
    obtain ⟨g, rfl⟩ : ∃ g, f = g + 1 := ⟨f - 1, by omega⟩
    have n90 : nb S 90 1920 1000000000000 := fun j hj => ⟨Y j, h90 j hj, hY j hj⟩
    have n91 : nb S 91 1536 1000000000000 := fun j hj => ⟨_, h91 j hj, by split; exact Nat.min_le_left _ _; exact hR j hj⟩
    have b1 : pl p n k < 1536 := Nat.lt_of_lt_of_le (pl_lt (by omega) (by omega) hp) (by decide)
    have t90 : ∀ j, j < 1920 → tb S 90 j = Y j := fun j hj => by unfold tb; rw [h90 j hj]; rfl
    have val : ∃ y : Int, (gd (inI q) <| if 0 ≤ q then (some (0 : Int)) else (bd1 (mX12_place (p : Int) (n : Int) (k : Int)) fun r_55 => gd (0 ≤ r_55 ∧ r_55 < 1920) <| some ((S 90 r_55)))) = some y ∧ mX12_countsRest_46 S (k : Int) q (p : Int) (n : Int) (top : Int) FU 0 y = some ((min CC (rs Y R q p n k) : Nat) : Int) := by
      rcases hq with rfl | hq
      · refine ⟨((Y (pl p n k) : Nat) : Int), by rw [gd_t (by omega), if_neg (by omega), bd1_e e_pl, gd_t (by omega), h90 _ (by omega)], ?_⟩
        rw [cr46n rfl hn]
        unfold rs
        rw [if_pos (by omega)]
        have := hY (pl p n k) (by omega)
        congr 2
        rw [CC_eq]; omega
      · obtain ⟨r, rfl⟩ : ∃ r : Nat, q = (r : Int) := ⟨q.toNat, by omega⟩
        refine ⟨0, by rw [gd_t (by omega), if_pos (by omega)], ?_⟩
        have l := cr46 (S := S) (p := p) (q := r) (n := n) (k := k) (top := top) (by omega) (by omega) hn (by omega) n90 n91 (n + 1) 0 FU (by omega) (by unfold FU; omega)
        have l : mX12_countsRest_46 S (k : Int) (r : Int) (p : Int) (n : Int) (top : Int) FU 0 0 = _ := l
        rw [l]
        unfold rs
        rw [if_neg (by omega)]
        congr 3
        refine sm_congr fun s hs => ?_
        rw [sm_cut (x := min s k + 1) (y := k + 1) (by omega) (fun i h1 h2 => by rw [hY0 s i (by omega) (by omega), Nat.zero_mul])]
        refine sm_congr fun i hi => ?_
        have c1 : pl p s i < 1920 := Nat.lt_of_lt_of_le (pl_lt (by omega) (by omega) (show p < 30 by omega)) (by decide)
        have c2 : pl r (n - s) (k - i) < 1536 := Nat.lt_of_lt_of_le (pl_lt (by omega) (by omega) (show r < 24 by omega)) (by decide)
        rw [t90 _ c1]
        congr 1
        unfold tb
        rw [h91 _ c2, if_neg]
        · rfl
        · rintro ⟨k', hk', e⟩
          have := (pl_inj e (by omega) (by omega) (by omega) (by omega)).1
          omega
    obtain ⟨y, v1, v2⟩ := val
    rw [mX12_countsRest_14, gd_t (by omega), if_neg (by omega), bd1_e v1, bd1_e v2, bd1_e e_pl, gd_t (by omega), nx_e]
    have := ih (k + 1) g (up S 91 ((pl p n k : Nat) : Int) ((min CC (rs Y R q p n k) : Nat) : Int)) (by omega) (by omega) (fun j hj => by rw [up_n (by decide)]; exact h90 j hj) (fun j hj => by
      by_cases e : j = pl p n k
      · subst e
        rw [up_eq, if_pos ⟨k, by omega, rfl⟩, show pl p n k - pl p n 0 = k by unfold pl; omega]
      · rw [up_nk (by omega), h91 j hj]
        by_cases w : ∃ k', k' < k ∧ j = pl p n k'
        · rw [if_pos w, if_pos (by obtain ⟨k', w1, w2⟩ := w; exact ⟨k', by omega, w2⟩)]
        · rw [if_neg w, if_neg]
          rintro ⟨k', w1, w2⟩
          by_cases kk : k' = k
          · exact e (by rw [w2, kk])
          · exact w ⟨k', by omega, w2⟩)
    rw [show ((k + 1 : Nat) : Int) = (k : Int) + 1 by omega] at this
    exact this
/-- what countsRest lays -/
theorem w_countsRest {S : St} {p n top : Nat} (h : WF (S 84)) (hp : (p : Int) < S 84 2) (hn : n ≤ 7) (htop : top ≤ 7) (h90 : nb S 90 1920 1000000000000) (h91 : nb S 91 1536 1000000000000) (hY0 : ∀ s i, s < i → i ≤ 7 → tb S 90 (pl p s i) = 0) : wp (mX12_countsRest S (p : Int) (n : Int) (top : Int)) (fun S' => kept [91] [] S S' ∧ nb S' 91 1536 1000000000000 ∧ ∀ j : Nat, j < 1536 → tb S' 91 j = if ∃ k', k' < top + 1 ∧ j = pl p n k' then min CC (rs (tb S 90) (tb S 91) (S 84 (96 + (p : Int))) p n (j - pl p n 0)) else tb S 91 j) := by
  have hM2 := h.2.2.1
  have hP := (h.2.2.2.1 p hp).2.1
  have hk := fr_mX12_countsRest S (p : Int) (n : Int) (top : Int)
  refine wp_mono (wp_all (Q := fun S' => kept [91] [] S S') (P := fun S' => ∀ j : Nat, j < 1536 → S' 91 (j : Int) = ((if ∃ k', k' < top + 1 ∧ j = pl p n k' then min CC (rs (tb S 90) (tb S 91) (S 84 (96 + (p : Int))) p n (j - pl p n 0)) else tb S 91 j : Nat) : Int)) ?_ hk) (fun S' q => ⟨q.2, fun j hj => ⟨_, q.1 j hj, ?_⟩, fun j hj => ?_⟩)
  · unfold mX12_countsRest
    rw [gd_t (by omega), wp_nx, wp_bd1]
    refine wp_mono (cr14 (Y := tb S 90) (R := tb S 91) (by omega) hn htop (by omega) (fun j hj => (h90.at hj).2) (fun j hj => (h91.at hj).2) hY0 (top + 1) 0 FU S (by omega) (by unfold FU; omega) (fun j hj => (h90.at hj).1) (fun j hj => ?_)) (fun S' q => ?_)
    · rw [if_neg (by rintro ⟨k', q1, q2⟩; omega)]
      exact (h91.at hj).1
    · rw [wp_some]; exact q
  · split
    · exact Nat.min_le_left _ _
    · exact (h91.at hj).2
  · unfold tb
    rw [q.1 j hj]
    rfl
