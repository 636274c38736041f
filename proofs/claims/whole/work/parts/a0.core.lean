/-! the reference's counts of a grammar, whatever stood in its rows before -/
def T0 (M : Int → Int) : St := fun i => if i = 84 then M else fun _ => 0
theorem T0_84 {M : Int → Int} : T0 M 84 = M := rfl
def cR (M : Int → Int) (l : Int) : St := (mX12_counts (T0 M) l).getD (T0 M)
def YP (M : Int → Int) (l : Int) (j : Nat) : Nat := tb (cR M l) 90 j
def RP (M : Int → Int) (l : Int) (j : Nat) : Nat := tb (cR M l) 91 j
theorem cR_hd {M : Int → Int} {l : Int} {E TE KE : Nat → Prop} {rO rT rK : Nat → Nat} (h : WF M) (hO : Ord M E TE KE rO rT rK) (hl : inI l) : hd50 M l (decide (0 ≤ l)) E TE 8 (cR M l) := by
  obtain ⟨S', a, b, -⟩ := w_counts (S := T0 M) h hO hl rfl T0_84
  unfold cR
  rw [a]; exact b
theorem ev_le {x y : Nat} (h : ev x y) (hx : x ≤ 1000000000000) (hy : y ≤ 1000000000000) : x = y := by
  unfold ev at h
  rw [CC_eq] at h
  omega
theorem hd_le {M : Int → Int} {l : Int} {L : Bool} {E TE : Nat → Prop} {S : St} (h : hd50 M l L E TE 8 S) : (∀ j, j < 1920 → tb S 90 j ≤ 1000000000000) ∧ (∀ j, j < 1536 → tb S 91 j ≤ 1000000000000) := by
  refine ⟨fun j hj => (h.2.1.at hj).2, fun j hj => (h.2.2.1.at hj).2⟩
/-- what counts(letter) leaves -/
def cnt (M : Int → Int) (l : Int) (S : St) : Prop := S 84 = M ∧ (nb S 90 1920 1000000000000 ∧ nb S 91 1536 1000000000000) ∧ (∀ p n k : Nat, (p : Int) < M 2 → n ≤ 7 → k ≤ 7 → S 90 ((pl p n k : Nat) : Int) = ((YP M l (pl p n k) : Nat) : Int) ∧ S 91 ((pl p n k : Nat) : Int) = ((RP M l (pl p n k) : Nat) : Int)) ∧ (∀ e n k : Nat, (e : Int) < M 0 → n ≤ 7 → k ≤ 7 → S 90 ((pl (24 + e) n k : Nat) : Int) = ((YP M l (pl (24 + e) n k) : Nat) : Int))
theorem counts_at {S : St} {M : Int → Int} {l : Int} {E TE KE : Nat → Prop} {rO rT rK : Nat → Nat} (h : WF M) (hO : Ord M E TE KE rO rT rK) (hl : inI l) (h84 : S 84 = M) : wp (mX12_counts S l) (fun S' => cnt M l S' ∧ kept [90, 91, 92] [] S S') := by
  have hM2 := h.2.2.1
  have hM0 := h.1
  refine wp_mono (w_counts (S := S) h hO hl rfl h84) (fun S' q => ⟨?_, q.2⟩)
  have q1 := q.1
  have c1 := cR_hd h hO hl
  have u := sol_uniq h hO (sol_P h q1) (sol_P h c1)
  obtain ⟨l1, l2⟩ := hd_le q1
  obtain ⟨m1, m2⟩ := hd_le c1
  have v90 : ∀ j : Nat, j < 1920 → S' 90 (j : Int) = ((tb S' 90 j : Nat) : Int) := fun j hj => (q1.2.1.at hj).1
  have v91 : ∀ j : Nat, j < 1536 → S' 91 (j : Int) = ((tb S' 91 j : Nat) : Int) := fun j hj => (q1.2.2.1.at hj).1
  refine ⟨q1.1, ⟨q1.2.1, q1.2.2.1⟩, fun p n k hp hn hk => ?_, fun e n k he hn hk => ?_⟩
  · have b1 : pl p n k < 1920 := pl_lt2 (show p < 30 by omega) hn hk (by decide)
    have b2 : pl p n k < 1536 := pl_lt2 (show p < 24 by omega) hn hk (by decide)
    rw [v90 _ b1, v91 _ b2]
    by_cases c : k ≤ topf (decide (0 ≤ l)) n
    · obtain ⟨x, y⟩ := (u n hn).1 p k hp c
      rw [ev_le x (l1 _ b1) (m1 _ b1), ev_le y (l2 _ b2) (m2 _ b2)]
      exact ⟨rfl, rfl⟩
    · rw [q1.2.2.2.1 p n k (by omega) hn (by omega) hk, q1.2.2.2.2.1 p n k (by omega) hn (by omega) hk]
      unfold YP RP
      rw [c1.2.2.2.1 p n k (by omega) hn (by omega) hk, c1.2.2.2.2.1 p n k (by omega) hn (by omega) hk]
      exact ⟨rfl, rfl⟩
  · have b1 : pl (24 + e) n k < 1920 := pl_lt2 (show 24 + e < 30 by omega) hn hk (by decide)
    rw [v90 _ b1]
    by_cases c : k ≤ topf (decide (0 ≤ l)) n
    · have x := (u n hn).2 e k he c
      rw [ev_le x (l1 _ b1) (m1 _ b1)]
      rfl
    · rw [q1.2.2.2.1 (24 + e) n k (by omega) hn (by omega) hk]
      unfold YP
      rw [c1.2.2.2.1 (24 + e) n k (by omega) hn (by omega) hk]
theorem YP_le {M : Int → Int} {l : Int} {E TE KE : Nat → Prop} {rO rT rK : Nat → Nat} (h : WF M) (hO : Ord M E TE KE rO rT rK) (hl : inI l) {j : Nat} (hj : j < 1920) : YP M l j ≤ 1000000000000 := (hd_le (cR_hd h hO hl)).1 j hj
theorem RP_le {M : Int → Int} {l : Int} {E TE KE : Nat → Prop} {rO rT rK : Nat → Nat} (h : WF M) (hO : Ord M E TE KE rO rT rK) (hl : inI l) {j : Nat} (hj : j < 1536) : RP M l j ≤ 1000000000000 := (hd_le (cR_hd h hO hl)).2 j hj
theorem YP_sol {M : Int → Int} {l : Int} {E TE KE : Nat → Prop} {rO rT rK : Nat → Nat} (h : WF M) (hO : Ord M E TE KE rO rT rK) (hl : inI l) : sol (decide (0 ≤ l)) false l M E TE (YP M l) (RP M l) := sol_P h (cR_hd h hO hl)
/-- how many a kind has of a size, as told -/
def kM (M : Int → Int) (e n : Nat) : Nat := YP M (-1) (pl (24 + e) n 0)
theorem kM_le {M : Int → Int} {E TE KE : Nat → Prop} {rO rT rK : Nat → Nat} (h : WF M) (hO : Ord M E TE KE rO rT rK) {e n : Nat} (he : (e : Int) < M 0) (hn : n ≤ 7) : kM M e n ≤ 1000000000000 := YP_le h hO (by decide) (pl_lt2 (show 24 + e < 30 by have := h.1; omega) hn (by omega) (by decide))
