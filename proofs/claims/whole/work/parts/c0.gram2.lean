/-! grammar(): both calls, and what they leave -/
theorem GI.of {S T : St} (g : GI S) (e84 : T 84 = S 84) (k : ∀ i, (2 ≤ i ∧ i ≤ 11) ∨ (33 ≤ i ∧ i ≤ 59) ∨ i = 80 ∨ i = 82 → T i = S i) (k0 : T 0 15 = S 0 15) (k83 : ∀ q : Int, 45 ≤ q → q ≤ 51 → T 83 q = S 83 q) : GI T := by
  obtain ⟨cor, st, ce, ⟨d, dp⟩, ⟨hm, hh⟩, ⟨am, as, m3⟩, nk, l1, l2, l3, dl⟩ := g
  refine ⟨cor.of e84 (fun i _ _ => k i (by omega)) (fun i _ _ => k i (by omega)), ?_, ?_, ?_, ?_, ⟨?_, ?_, ?_⟩, nk.of (fun i _ _ => k i (by omega)), ?_, ?_, ?_, dl.of e84 (k 80 (by omega)) k83⟩
  · rw [e84]; exact st.of (fun i _ _ => k i (by omega))
  · rw [e84]; exact ce
  · rw [e84]; exact ⟨d, dp⟩
  · rw [e84]; exact ⟨hm, hh⟩
  · rw [e84]; exact am
  · rw [e84]
    unfold AS at as ⊢
    rw [k0, k 82 (by omega)]; exact as
  · rw [e84]; exact m3
  · unfold LG1 at l1 ⊢
    rw [e84, k 47 (by omega), k 57 (by omega)]; exact l1
  · unfold LG2 at l2 ⊢
    rw [e84, k 47 (by omega), k 58 (by omega)]; exact l2
  · unfold LG3 at l3 ⊢
    rw [e84, k 47 (by omega), k 59 (by omega)]; exact l3
theorem cpy_at {T : St} {i j : Nat} {n k : Int} (h0 : 0 ≤ k) (h1 : k < n) : cpyS T i j 0 0 n j k = T i k := by
  unfold cpyS
  rw [if_pos rfl]
  show (if 0 ≤ k ∧ k < 0 + n then T i (0 + (k - 0)) else T j k) = _
  rw [if_pos (by omega), show 0 + (k - 0) = k by omega]
theorem cpy_n {T : St} {i j q : Nat} {a b n : Int} (h : q ≠ j) : cpyS T i j a b n q = T q := by
  unfold cpyS
  rw [if_neg h]
theorem e_copy {S : St} : ∃ S' : St, mX2_copy_2_13 S = some S' ∧ kept [3, 4, 5, 6, 7, 8, 9, 10, 11] [(2, 0), (2, 1), (2, 2), (2, 3), (2, 4)] S S' ∧ (S' 2 0 = S 13 0 ∧ S' 2 1 = S 13 1 ∧ S' 2 2 = S 13 2 ∧ S' 2 3 = S 13 3 ∧ S' 2 4 = S 13 4) ∧ (∀ k : Int, 0 ≤ k → k < 24 → S' 3 k = S 14 k ∧ S' 4 k = S 15 k ∧ S' 5 k = S 16 k ∧ S' 6 k = S 17 k) ∧ (∀ k : Int, 0 ≤ k → k < 30 → S' 8 k = S 19 k ∧ S' 10 k = S 21 k) ∧ (∀ k : Int, 0 ≤ k → k < 300 → S' 9 k = S 20 k) ∧ (∀ k : Int, 0 ≤ k → k < 54 → S' 11 k = S 22 k) := by
  obtain ⟨S5, h5⟩ : ∃ S5 : St, S5 = up (up (up (up (up S 2 0 (S 13 0)) 2 1 (S 13 1)) 2 2 (S 13 2)) 2 3 (S 13 3)) 2 4 (S 13 4) := ⟨_, rfl⟩
  have o5 : ∀ i, i ≠ 2 → S5 i = S i := fun i h => by rw [h5, up_n h, up_n h, up_n h, up_n h, up_n h]
  have k5 : kept [3, 4, 5, 6, 7, 8, 9, 10, 11] [(2, 0), (2, 1), (2, 2), (2, 3), (2, 4)] S S5 := by
    rw [h5]; exact ((((kept.rf.upF (by decide)).upF (by decide)).upF (by decide)).upF (by decide)).upF (by decide)
  obtain ⟨S6, h6⟩ : ∃ X : St, X = cpyS S5 14 3 0 0 24 := ⟨_, rfl⟩
  have k6 : kept [3, 4, 5, 6, 7, 8, 9, 10, 11] [(2, 0), (2, 1), (2, 2), (2, 3), (2, 4)] S S6 := by rw [h6]; exact kept.cpy (j := 3) k5 (by decide)
  have n6 : ∀ i, i ≠ 3 → S6 i = S5 i := fun i h => by rw [h6, cpy_n h]
  have a6 : ∀ k : Int, 0 ≤ k → k < 24 → S6 3 k = S5 14 k := fun k x y => by rw [h6, cpy_at x y]
  obtain ⟨S7, h7⟩ : ∃ X : St, X = cpyS S6 15 4 0 0 24 := ⟨_, rfl⟩
  have k7 : kept [3, 4, 5, 6, 7, 8, 9, 10, 11] [(2, 0), (2, 1), (2, 2), (2, 3), (2, 4)] S S7 := by rw [h7]; exact kept.cpy (j := 4) k6 (by decide)
  have n7 : ∀ i, i ≠ 4 → S7 i = S6 i := fun i h => by rw [h7, cpy_n h]
  have a7 : ∀ k : Int, 0 ≤ k → k < 24 → S7 4 k = S6 15 k := fun k x y => by rw [h7, cpy_at x y]
  obtain ⟨S8, h8⟩ : ∃ X : St, X = cpyS S7 16 5 0 0 24 := ⟨_, rfl⟩
  have k8 : kept [3, 4, 5, 6, 7, 8, 9, 10, 11] [(2, 0), (2, 1), (2, 2), (2, 3), (2, 4)] S S8 := by rw [h8]; exact kept.cpy (j := 5) k7 (by decide)
  have n8 : ∀ i, i ≠ 5 → S8 i = S7 i := fun i h => by rw [h8, cpy_n h]
  have a8 : ∀ k : Int, 0 ≤ k → k < 24 → S8 5 k = S7 16 k := fun k x y => by rw [h8, cpy_at x y]
  obtain ⟨S9, h9⟩ : ∃ X : St, X = cpyS S8 17 6 0 0 24 := ⟨_, rfl⟩
  have k9 : kept [3, 4, 5, 6, 7, 8, 9, 10, 11] [(2, 0), (2, 1), (2, 2), (2, 3), (2, 4)] S S9 := by rw [h9]; exact kept.cpy (j := 6) k8 (by decide)
  have n9 : ∀ i, i ≠ 6 → S9 i = S8 i := fun i h => by rw [h9, cpy_n h]
  have a9 : ∀ k : Int, 0 ≤ k → k < 24 → S9 6 k = S8 17 k := fun k x y => by rw [h9, cpy_at x y]
  obtain ⟨S10, h10⟩ : ∃ X : St, X = cpyS S9 18 7 0 0 24 := ⟨_, rfl⟩
  have k10 : kept [3, 4, 5, 6, 7, 8, 9, 10, 11] [(2, 0), (2, 1), (2, 2), (2, 3), (2, 4)] S S10 := by rw [h10]; exact kept.cpy (j := 7) k9 (by decide)
  have n10 : ∀ i, i ≠ 7 → S10 i = S9 i := fun i h => by rw [h10, cpy_n h]
  have a10 : ∀ k : Int, 0 ≤ k → k < 24 → S10 7 k = S9 18 k := fun k x y => by rw [h10, cpy_at x y]
  obtain ⟨S11, h11⟩ : ∃ X : St, X = cpyS S10 19 8 0 0 30 := ⟨_, rfl⟩
  have k11 : kept [3, 4, 5, 6, 7, 8, 9, 10, 11] [(2, 0), (2, 1), (2, 2), (2, 3), (2, 4)] S S11 := by rw [h11]; exact kept.cpy (j := 8) k10 (by decide)
  have n11 : ∀ i, i ≠ 8 → S11 i = S10 i := fun i h => by rw [h11, cpy_n h]
  have a11 : ∀ k : Int, 0 ≤ k → k < 30 → S11 8 k = S10 19 k := fun k x y => by rw [h11, cpy_at x y]
  obtain ⟨S12, h12⟩ : ∃ X : St, X = cpyS S11 20 9 0 0 300 := ⟨_, rfl⟩
  have k12 : kept [3, 4, 5, 6, 7, 8, 9, 10, 11] [(2, 0), (2, 1), (2, 2), (2, 3), (2, 4)] S S12 := by rw [h12]; exact kept.cpy (j := 9) k11 (by decide)
  have n12 : ∀ i, i ≠ 9 → S12 i = S11 i := fun i h => by rw [h12, cpy_n h]
  have a12 : ∀ k : Int, 0 ≤ k → k < 300 → S12 9 k = S11 20 k := fun k x y => by rw [h12, cpy_at x y]
  obtain ⟨S13, h13⟩ : ∃ X : St, X = cpyS S12 21 10 0 0 30 := ⟨_, rfl⟩
  have k13 : kept [3, 4, 5, 6, 7, 8, 9, 10, 11] [(2, 0), (2, 1), (2, 2), (2, 3), (2, 4)] S S13 := by rw [h13]; exact kept.cpy (j := 10) k12 (by decide)
  have n13 : ∀ i, i ≠ 10 → S13 i = S12 i := fun i h => by rw [h13, cpy_n h]
  have a13 : ∀ k : Int, 0 ≤ k → k < 30 → S13 10 k = S12 21 k := fun k x y => by rw [h13, cpy_at x y]
  obtain ⟨S14, h14⟩ : ∃ X : St, X = cpyS S13 22 11 0 0 54 := ⟨_, rfl⟩
  have k14 : kept [3, 4, 5, 6, 7, 8, 9, 10, 11] [(2, 0), (2, 1), (2, 2), (2, 3), (2, 4)] S S14 := by rw [h14]; exact kept.cpy (j := 11) k13 (by decide)
  have n14 : ∀ i, i ≠ 11 → S14 i = S13 i := fun i h => by rw [h14, cpy_n h]
  have a14 : ∀ k : Int, 0 ≤ k → k < 54 → S14 11 k = S13 22 k := fun k x y => by rw [h14, cpy_at x y]
  refine ⟨S14, ?_, k14, ?_, fun k x y => ⟨?_, ?_, ?_, ?_⟩, fun k x y => ⟨?_, ?_⟩, fun k x y => ?_, fun k x y => ?_⟩
  · unfold mX2_copy_2_13
    simp only [nx_e, up_n (show (13 : Nat) ≠ 2 by decide)]
    rw [← h5, ← h6, ← h7, ← h8, ← h9, ← h10, ← h11, ← h12, ← h13, ← h14]
  · rw [n14 2 (by decide), n13 2 (by decide), n12 2 (by decide), n11 2 (by decide), n10 2 (by decide), n9 2 (by decide), n8 2 (by decide), n7 2 (by decide), n6 2 (by decide), h5]
    exact ⟨rfl, rfl, rfl, rfl, rfl⟩
  · rw [n14 3 (by decide), n13 3 (by decide), n12 3 (by decide), n11 3 (by decide), n10 3 (by decide), n9 3 (by decide), n8 3 (by decide), n7 3 (by decide), a6 k x y, o5 14 (by decide)]
  · rw [n14 4 (by decide), n13 4 (by decide), n12 4 (by decide), n11 4 (by decide), n10 4 (by decide), n9 4 (by decide), n8 4 (by decide), a7 k x y, n6 15 (by decide), o5 15 (by decide)]
  · rw [n14 5 (by decide), n13 5 (by decide), n12 5 (by decide), n11 5 (by decide), n10 5 (by decide), n9 5 (by decide), a8 k x y, n7 16 (by decide), n6 16 (by decide), o5 16 (by decide)]
  · rw [n14 6 (by decide), n13 6 (by decide), n12 6 (by decide), n11 6 (by decide), n10 6 (by decide), a9 k x y, n8 17 (by decide), n7 17 (by decide), n6 17 (by decide), o5 17 (by decide)]
  · rw [n14 8 (by decide), n13 8 (by decide), n12 8 (by decide), a11 k x y, n10 19 (by decide), n9 19 (by decide), n8 19 (by decide), n7 19 (by decide), n6 19 (by decide), o5 19 (by decide)]
  · rw [n14 10 (by decide), a13 k x y, n12 21 (by decide), n11 21 (by decide), n10 21 (by decide), n9 21 (by decide), n8 21 (by decide), n7 21 (by decide), n6 21 (by decide), o5 21 (by decide)]
  · rw [n14 9 (by decide), n13 9 (by decide), a12 k x y, n11 20 (by decide), n10 20 (by decide), n9 20 (by decide), n8 20 (by decide), n7 20 (by decide), n6 20 (by decide), o5 20 (by decide)]
  · rw [a14 k x y, n13 22 (by decide), n12 22 (by decide), n11 22 (by decide), n10 22 (by decide), n9 22 (by decide), n8 22 (by decide), n7 22 (by decide), n6 22 (by decide), o5 22 (by decide)]
def KG (S S' : St) : Prop := kept [3, 4, 5, 6, 7, 8, 9, 10, 11, 14, 15, 16, 17, 18, 19, 20, 21, 22, 24, 25, 27, 28, 29, 30, 31, 32, 34, 35, 36, 37, 38, 39, 41, 42, 43, 44, 45, 46, 84, 85, 87, 88, 89] [(0, 1), (0, 4), (0, 5), (0, 15), (0, 16), (2, 0), (2, 1), (2, 2), (2, 3), (2, 4), (12, 1), (12, 2), (12, 4), (12, 5), (12, 6), (12, 7), (12, 8), (12, 9), (12, 10), (13, 0), (13, 1), (13, 2), (13, 3), (13, 4), (26, 1), (26, 2), (33, 1), (33, 2), (40, 1), (47, 2), (47, 3), (47, 4), (73, 1), (80, 1), (83, 3), (83, 4), (83, 5), (83, 6), (83, 7), (83, 8), (83, 9), (83, 10), (83, 45)] S S'
theorem KRS.toG {S S' : St} (h : KRS S S') : KG S S' := kept.mono h (by decide) (by decide)
theorem KRT.toG {S S' : St} (h : KRT S S') : KG S S' := kept.mono h (by decide) (by decide)
theorem GM_copy {S S' : St} {M : Int → Int} (w : WF M) (ce : CE M) (g : GM (sh11 S) M) (c2 : S' 2 0 = S 13 0 ∧ S' 2 1 = S 13 1 ∧ S' 2 2 = S 13 2 ∧ S' 2 3 = S 13 3 ∧ S' 2 4 = S 13 4) (c3 : ∀ k : Int, 0 ≤ k → k < 24 → S' 3 k = S 14 k ∧ S' 4 k = S 15 k ∧ S' 5 k = S 16 k ∧ S' 6 k = S 17 k) (c8 : ∀ k : Int, 0 ≤ k → k < 30 → S' 8 k = S 19 k ∧ S' 10 k = S 21 k) (c9 : ∀ k : Int, 0 ≤ k → k < 300 → S' 9 k = S 20 k) : GM S' M := by
  obtain ⟨⟨a1, a2, a3, a4⟩, b, c, d, e, f⟩ := g
  have hM2 := w.2.2.1
  refine ⟨⟨by rw [c2.1]; exact a1, by rw [c2.2.1]; exact a2, by rw [c2.2.2.1]; exact a3, by rw [c2.2.2.2.1]; exact a4⟩, fun p hp => ?_, fun x hx => ?_, fun x t hx ht => ?_, fun x hx => ?_, fun x hx hy => ?_⟩
  · obtain ⟨q1, q2, q3, q4⟩ := c3 (p : Int) (by omega) (by omega)
    rw [q1, q2, q3, q4]
    exact b p hp
  · rw [(c8 (x : Int) (by omega) (by omega)).1]; exact c x hx
  · have t10 : t < 10 := by
      rcases ce x hx with z | z
      · have := z.1; omega
      · omega
    rw [c9 _ (by omega) (by omega)]; exact d x t hx ht
  · rw [(c8 (x : Int) (by omega) (by omega)).2]; exact e x hx
  · rw [(c8 (x : Int) (by omega) (by omega)).2]; exact f x hx hy
theorem OA_copy {S S' : St} {M : Int → Int} {rO rT rK : Nat → Nat} {st : Nat} (o : OA (sh11 S) M rO rT rK st) (c2 : S' 2 4 = S 13 4) (c : ∀ k : Int, 0 ≤ k → k < 54 → S' 11 k = S 22 k) : OA S' M rO rT rK st := by
  obtain ⟨a, b, d, e, f⟩ := o
  have cc : ∀ i : Nat, i < st → S' 11 (i : Int) = (sh11 S) 11 (i : Int) := fun i hi => c _ (by omega) (by omega)
  refine ⟨by rw [c2]; exact a, b, fun i hi => ?_, fun p hp => ?_, fun x hx => ?_⟩
  · rw [cc i hi]; exact d i hi
  · obtain ⟨q1, q2, q3, q4⟩ := e p hp
    rw [cc _ q1, cc _ q3]; exact ⟨q1, q2, q3, q4⟩
  · obtain ⟨q1, q2⟩ := f x hx
    rw [cc _ q1]; exact ⟨q1, q2⟩
