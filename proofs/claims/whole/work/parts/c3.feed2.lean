/-! feed() of the reference -/
theorem e_feed42 {m N : Nat} {a b c d e : Int} (hN : 105 ≤ N) (hm : m + 20 ≤ 400) : ∀ (q v f : Nat) (T : St), v + q = 20 → q < f → T 83 3 = (m : Int) → dT T (N : Int) 4 → (∀ k : Nat, k < 5 → T N (k : Int) = fv a b c d e k) → ∃ T' : St, mX12_feed_42 (N : Int) f (v : Int) T = some T' ∧ kept [86] [] T T' ∧ (∀ i : Nat, v ≤ i → i < 20 → T' 86 ((m + i : Nat) : Int) = an (ush (fv a b c d e (i / 4)) (24 - 8 * ((i % 4 : Nat) : Int))) 255) ∧ (∀ j : Int, j < ((m + v : Nat) : Int) → T' 86 j = T 86 j) := by
  intro q
  induction q with
  | zero =>
    intro v f T hv hf h3 hd hk
    obtain ⟨g, rfl⟩ : ∃ g, f = g + 1 := ⟨f - 1, by omega⟩
    refine ⟨T, ?_, kept.rf, fun i x y => by omega, fun _ _ => rfl⟩
    rw [mX12_feed_42, gd_t (by omega), if_pos (by omega)]
  | succ q ih =>
    intro v f T hv hf h3 hd hk
    obtain ⟨g, rfl⟩ : ∃ g, f = g + 1 := ⟨f - 1, by omega⟩
    have e4 : (v : Int) / 4 = ((v / 4 : Nat) : Int) := by omega
    have e5 : (v : Int) % 4 = ((v % 4 : Nat) : Int) := by omega
    have val : T (Int.toNat (N : Int)) ((v / 4 : Nat) : Int) = fv a b c d e (v / 4) := hk (v / 4) (by omega)
    obtain ⟨T', r1, r2, r3, r4⟩ := ih (v + 1) g (up T 86 ((m + v : Nat) : Int) (an (ush (fv a b c d e (v / 4)) (24 - 8 * ((v % 4 : Nat) : Int))) 255)) (by omega) (by omega) h3 (by
      refine ⟨hd.1, ?_, ?_⟩
      · rw [up_n (show 0 ≠ 86 by decide)]; exact hd.2.1
      · rw [up_n (by show (N : Int).toNat ≠ 86; omega)]; exact hd.2.2) (fun k hk' => by rw [up_n (by omega)]; exact hk k hk')
    rw [show ((v + 1 : Nat) : Int) = (v : Int) + 1 by omega] at r1
    refine ⟨T', ?_, kept.trans (kept.rf.upA (by decide)) r2, fun i x y => ?_, fun j hj => ?_⟩
    · rw [mX12_feed_42, gd_t (by omega), if_neg (by omega), gd_t (by omega), gd_t ⟨hd, by omega⟩, h3, gd_t (by omega), e4, e5, val, show (m : Int) + (v : Int) = ((m + v : Nat) : Int) by omega, nx_e]
      exact r1
    · by_cases z : i = v
      · subst z
        rw [r4 _ (by omega), up_eq]
      · exact r3 i (by omega) y
    · rw [r4 j (by omega), up_nk (by omega)]
/-- cells that came later stay, but one more -/
def grew (S T : St) : Prop := nn T = nn S + 1 ∧ zz T = zz S + 5 ∧ (0 ≤ T 0 (-1) ∧ 0 ≤ T 0 (-2)) ∧ ∀ i, 105 ≤ i → i ≠ nn S → T i = S i
theorem f_feed {S : St} {n : Nat} {a b c d e : Int} (hN : 105 ≤ nn S) (hn : n + 20 ≤ 400) (h3 : S 83 3 = (n : Int)) : ∃ T : St, mX12_feed S a b c d e = some (((n + 20 : Nat) : Int), T) ∧ grew S T ∧ T 83 3 = ((n + 20 : Nat) : Int) ∧ (∀ i k, i < 105 → i ≠ 86 → (i, k) ≠ (83, 3) → (i ≠ 0 ∨ 0 ≤ k) → T i k = S i k) ∧ (∀ i : Nat, i < 20 → T 86 ((n + i : Nat) : Int) = an (ush (fv a b c d e (i / 4)) (24 - 8 * ((i % 4 : Nat) : Int))) 255) ∧ (∀ j : Int, j < (n : Int) → T 86 j = S 86 j) := by
  obtain ⟨N, hNe⟩ : ∃ N : Nat, N = nn S := ⟨_, rfl⟩
  have hN' : 105 ≤ N := by omega
  obtain ⟨S3, h3'⟩ : ∃ S3 : St, S3 = mk5 S := ⟨_, rfl⟩
  have m0 : S3 0 (-1) = ((N + 1 : Nat) : Int) := by
    rw [h3']; unfold mk5
    rw [if_neg (by omega), if_pos rfl, if_pos rfl, hNe]
  have m1 : S3 0 (-2) = ((zz S + 5 : Nat) : Int) := by
    rw [h3']; unfold mk5
    rw [if_neg (by omega), if_pos rfl, if_neg (by decide), if_pos rfl]
  have mk : ∀ k : Int, 0 ≤ k → S3 0 k = S 0 k := fun k hk => by
    rw [h3']; unfold mk5
    rw [if_neg (by omega), if_pos rfl, if_neg (by omega), if_neg (by omega)]
  have mN : S3 N (-1) = 4 := by
    rw [h3']; unfold mk5
    rw [if_pos hNe, if_pos rfl]
  have mo : ∀ i, i ≠ 0 → i ≠ N → S3 i = S i := fun i x y => by
    rw [h3']; unfold mk5
    rw [if_neg (by omega), if_neg x]
  obtain ⟨S18, h18⟩ : ∃ S18 : St, S18 = up (up (up (up (up S3 N 0 a) N 1 b) N 2 c) N 3 d) N 4 e := ⟨_, rfl⟩
  have o18 : ∀ i, i ≠ N → S18 i = S3 i := fun i x => by rw [h18, up_n x, up_n x, up_n x, up_n x, up_n x]
  have tg : ∀ (X : St) (k v : Int), k ≠ -1 → dT X (N : Int) 4 → dT (up X N k v) (N : Int) 4 := fun X k v hk h => by
    refine ⟨h.1, ?_, ?_⟩
    · rw [up_n (show 0 ≠ N by omega)]; exact h.2.1
    · show (up X N k v) N (-1) = 4
      rw [up_nk (fun z => hk z.symm)]; exact h.2.2
  have t3 : dT S3 (N : Int) 4 := ⟨by omega, by rw [m0]; omega, mN⟩
  have t4 := tg S3 0 a (by decide) t3
  have t5 := tg _ 1 b (by decide) t4
  have t6 := tg _ 2 c (by decide) t5
  have t7 := tg _ 3 d (by decide) t6
  have t8 := tg _ 4 e (by decide) t7
  rw [← h18] at t8
  have v18 : ∀ k : Nat, k < 5 → S18 N (k : Int) = fv a b c d e k := fun k hk => by
    have : k = 0 ∨ k = 1 ∨ k = 2 ∨ k = 3 ∨ k = 4 := by omega
    rw [h18]
    rcases this with z | z | z | z | z <;> subst z
    · rw [up_nk (by decide), up_nk (by decide), up_nk (by decide), up_nk (by decide)]; exact up_eq
    · rw [up_nk (by decide), up_nk (by decide), up_nk (by decide)]; exact up_eq
    · rw [up_nk (by decide), up_nk (by decide)]; exact up_eq
    · rw [up_nk (by decide)]; exact up_eq
    · exact up_eq
  obtain ⟨S21, r1, r2, r3, r4⟩ := e_feed42 (m := n) (N := N) hN' hn 20 0 FU S18 (by omega) (by unfold FU; omega) (by rw [o18 83 (by omega), mo 83 (by decide) (by omega)]; exact h3) t8 v18
  obtain ⟨T, hT⟩ : ∃ T : St, T = up S21 83 3 ((n : Int) + 20) := ⟨_, rfl⟩
  have s83 : S21 83 3 = (n : Int) := by rw [r2.cell 83 (by decide) (by decide), o18 83 (by omega), mo 83 (by decide) (by omega)]; exact h3
  have t0 : T 0 = S3 0 := by rw [hT, up_n (show 0 ≠ 83 by decide), r2.cell 0 (by decide) (by decide), o18 0 (by omega)]
  have nT : nn T = N + 1 := by show (T 0 (-1)).toNat = _; rw [t0, m0]; omega
  have zT : zz T = zz S + 5 := by show (T 0 (-2)).toNat = _; rw [t0, m1]; omega
  have nS3 : nn S3 = N + 1 := by show (S3 0 (-1)).toNat = _; rw [m0]; omega
  have zS3 : zz S3 = zz S + 5 := by show (S3 0 (-2)).toNat = _; rw [m1]; omega
  refine ⟨T, ?_, ⟨by rw [nT, hNe], zT, ⟨by rw [t0, m0]; omega, by rw [t0, m1]; omega⟩, fun i x y => ?_⟩, by rw [hT, up_eq]; omega, fun i k x y z w => ?_, fun i hi => ?_, fun j hj => ?_⟩
  · have key : wp (mX12_feed S a b c d e) (fun o => o = (((n + 20 : Nat) : Int), T)) := by
      unfold mX12_feed
      rw [wp_entG, h3, gd_t (by omega), if_pos (by omega), wp_bdG1, wp_some, ← h3', ← hNe]
      refine ⟨⟨by rw [nS3, hNe]; omega, by rw [zS3]; omega⟩, ?_⟩
      have h18' : S18 = up (up (up (up (up S3 (Int.toNat (N : Int)) 0 a) (Int.toNat (N : Int)) 1 b) (Int.toNat (N : Int)) 2 c) (Int.toNat (N : Int)) 3 d) (Int.toNat (N : Int)) 4 e := h18
      have t4' : dT (up S3 (Int.toNat (N : Int)) 0 a) (N : Int) 4 := t4
      have t5' : dT (up (up S3 (Int.toNat (N : Int)) 0 a) (Int.toNat (N : Int)) 1 b) (N : Int) 4 := t5
      have t6' : dT (up (up (up S3 (Int.toNat (N : Int)) 0 a) (Int.toNat (N : Int)) 1 b) (Int.toNat (N : Int)) 2 c) (N : Int) 4 := t6
      have t7' : dT (up (up (up (up S3 (Int.toNat (N : Int)) 0 a) (Int.toNat (N : Int)) 1 b) (Int.toNat (N : Int)) 2 c) (Int.toNat (N : Int)) 3 d) (N : Int) 4 := t7
      rw [nx_e, gd_t t3, nx_e, gd_t t4', nx_e, gd_t t5', nx_e, gd_t t6', nx_e, gd_t t7', nx_e, ← h18', bd1_e (show mX12_feed_42 (N : Int) FU 0 S18 = some S21 from r1), s83, nx_e, ← hT, wp_some]
      refine ⟨⟨by rw [nT, nS3]; exact Nat.le_refl _, by rw [zT, zS3]; exact Nat.le_refl _⟩, ⟨by show nn S ≤ nn T; rw [nT, hNe]; omega, by show zz S ≤ zz T; rw [zT]; omega⟩, ?_⟩
      rw [hT, up_eq, ← hT, show (n : Int) + 20 = ((n + 20 : Nat) : Int) by omega]
    obtain ⟨o, k1, k2⟩ := key
    rw [k1, k2]
  · rw [hT, up_n (by omega), r2.cell i (by simp; omega) (by simp), o18 i (by omega), mo i (by omega) (by omega)]
  · rw [hT]
    by_cases q : i = 83
    · subst q
      rw [up_nk (fun v => z (by rw [v])), r2.cell 83 (by decide) (by decide), o18 83 (by omega), mo 83 (by decide) (by omega)]
    · rw [up_n q, r2.cell i (by simp; omega) (by simp), o18 i (by omega)]
      by_cases q0 : i = 0
      · subst q0; exact mk k (by omega)
      · rw [mo i q0 (by omega)]
  · rw [hT, up_n (show 86 ≠ 83 by decide)]; exact r3 i (Nat.zero_le _) hi
  · rw [hT, up_n (show 86 ≠ 83 by decide), r4 j (by omega), o18 86 (by omega), mo 86 (by decide) (by omega)]
theorem s_feed {S : St} (tp : TP S) (hN : 105 ≤ nn S) {a b c d e : Int} : ∃ (r : Int) (S1 S2 : St), mX11_feed S a b c d e = some (r, S1) ∧ mX12_feed S1 a b c d e = some (r, S2) ∧ inI r ∧ kept [1] [(0, 1)] S S1 ∧ (S2 = S1 ∨ grew S S2) ∧ (∀ i k, i < 105 → i ≠ 1 → i ≠ 86 → (i, k) ≠ (83, 3) → (i, k) ≠ (0, 1) → (i ≠ 0 ∨ 0 ≤ k) → S2 i k = S i k) ∧ TP S2 := by
  have tp' := tp
  obtain ⟨⟨n, n1, n2, n3, n4⟩, ⟨q1, q2, q3, q4⟩, ⟨p1, p2, p3, p4⟩, ⟨a1, a2, a3⟩⟩ := tp
  by_cases c20 : n + 20 ≤ 400
  · obtain ⟨S1, x1, x2, x3, x4, x5⟩ := c_feed (a := a) (b := b) (c := c) (d := d) (e := e) c20 n2
    have n0 : nn S1 = nn S := by show (S1 0 (-1)).toNat = _; rw [x3 0 (-1) (by decide) (by decide)]
    have z0 : zz S1 = zz S := by show (S1 0 (-2)).toNat = _; rw [x3 0 (-2) (by decide) (by decide)]
    obtain ⟨S2, y1, y2, y3, y4, y5, y6⟩ := f_feed (S := S1) (a := a) (b := b) (c := c) (d := d) (e := e) (by rw [n0]; exact hN) c20 (by rw [x3.cell 83 (by decide) (by decide)]; exact n3)
    have kk : ∀ i k, i < 105 → i ≠ 1 → i ≠ 86 → (i, k) ≠ (83, 3) → (i, k) ≠ (0, 1) → (i ≠ 0 ∨ 0 ≤ k) → S2 i k = S i k := fun i k p q r s t u => by
      rw [y4 i k p r s u, x3 i k (by simp; omega) (by simp at t ⊢; omega)]
    refine ⟨_, S1, S2, x1, y1, by omega, x3, Or.inr ⟨by rw [y2.1, n0], by rw [y2.2.1, z0], y2.2.2.1, fun i p q => ?_⟩, kk, ⟨⟨n + 20, c20, ?_, y3, fun i hi => ?_⟩, ⟨?_, ?_, ?_, ?_⟩, ⟨?_, ?_, ?_, ?_⟩, ⟨?_, ?_⟩⟩⟩
    · rw [y2.2.2.2 i p (by rw [n0]; exact q), x3.cell i (by simp; omega) (by simp; omega)]
    · rw [y4 0 1 (by decide) (by decide) (by decide) (Or.inr (by decide)), x2]
    · have s1 : S2 1 (i : Int) = S1 1 (i : Int) := y4 1 _ (by decide) (by decide) (by simp) (Or.inl (by decide))
      by_cases z : i < n
      · obtain ⟨w1, w2⟩ := n4 i z
        rw [s1, x5 _ (by omega), y6 _ (by omega), x3.cell 86 (by decide) (by decide)]
        exact ⟨w1, w2⟩
      · obtain ⟨j, hj⟩ : ∃ j, i = n + j := ⟨i - n, by omega⟩
        subst hj
        have w1 := x4 j (by omega)
        have w2 := y5 j (by omega)
        obtain ⟨v, v1, v2, v3⟩ := byt (ush (fv a b c d e (j / 4)) (24 - 8 * ((j % 4 : Nat) : Int)))
        rw [s1, w1, w2, v2, v3]
        exact ⟨rfl, by omega, by omega⟩
    · rw [kk 0 4 (by decide) (by decide) (by decide) (by decide) (by decide) (Or.inr (by decide)), kk 83 4 (by decide) (by decide) (by decide) (by decide) (by decide) (Or.inl (by decide))]; exact q1
    · rw [kk 0 5 (by decide) (by decide) (by decide) (by decide) (by decide) (Or.inr (by decide)), kk 83 5 (by decide) (by decide) (by decide) (by decide) (by decide) (Or.inl (by decide))]; exact q2
    · rw [kk 0 4 (by decide) (by decide) (by decide) (by decide) (by decide) (Or.inr (by decide))]; exact q3
    · rw [kk 0 5 (by decide) (by decide) (by decide) (by decide) (by decide) (Or.inr (by decide))]; exact q4
    · rw [kk 0 17 (by decide) (by decide) (by decide) (by decide) (by decide) (Or.inr (by decide)), kk 83 42 (by decide) (by decide) (by decide) (by decide) (by decide) (Or.inl (by decide))]; exact p1
    · rw [kk 0 18 (by decide) (by decide) (by decide) (by decide) (by decide) (Or.inr (by decide)), kk 83 43 (by decide) (by decide) (by decide) (by decide) (by decide) (Or.inl (by decide))]; exact p2
    · rw [kk 0 17 (by decide) (by decide) (by decide) (by decide) (by decide) (Or.inr (by decide))]; exact p3
    · rw [kk 0 18 (by decide) (by decide) (by decide) (by decide) (by decide) (Or.inr (by decide))]; exact p4
    · rw [kk 0 15 (by decide) (by decide) (by decide) (by decide) (by decide) (Or.inr (by decide)), kk 84 4 (by decide) (by decide) (by decide) (by decide) (by decide) (Or.inl (by decide))]; exact a1
    · rw [kk 84 4 (by decide) (by decide) (by decide) (by decide) (by decide) (Or.inl (by decide))]; exact ⟨a2, a3⟩
  · refine ⟨-1, S, S, ?_, ?_, by omega, kept.rf, Or.inl rfl, fun _ _ _ _ _ _ _ _ => rfl, tp'⟩
    · unfold mX11_feed
      rw [n2, gd_t (by omega), if_neg (by omega)]
    · have key : wp (mX12_feed S a b c d e) (fun o => o = (-1, S)) := by
        unfold mX12_feed
        rw [wp_entG, n3, gd_t (by omega), if_neg (by omega), wp_some]
        exact ⟨⟨Nat.le_refl _, Nat.le_refl _⟩, rfl⟩
      obtain ⟨o, k1, k2⟩ := key
      rw [k1, k2]
