/-! the class's census 48: a part and what is behind it -/
theorem ct48_109 {S : St} {m : Int} {r a i q p n : Nat} (hm : inI m) (h1 : S 48 1 = m) (hr : r ≤ HH) (hq : q < 24) (hp : p < 24) (hpq : p ≠ q) (hn : n ≤ 7) (hi : i ≤ n) (ha : a ≤ topf (decide (0 ≤ m)) i) (hT : nb S 50 1536 HH) : wp (mX0_countTail_48_109 (r : Int) (a : Int) (i : Int) (q : Int) ((pl p n 0 : Nat) : Int) (p : Int) (n : Int) FU 0 S) (fun S' => nb S' 50 1536 HH ∧ (∀ j : Nat, j < 1536 → tb S' 50 j = if pl p n a ≤ j ∧ j < pl p n a + (topf (decide (0 ≤ m)) (n - i) + 1) then min HH (tb S 50 j + r * tb S 50 (pl q (n - i) (j - pl p n a))) else tb S 50 j) ∧ kept [50] [] S S') := by
  have ht : topf (decide (0 ≤ m)) (n - i) ≤ n - i := topf_le
  have ht2 : topf (decide (0 ≤ m)) i ≤ i := topf_le
  refine loopW (fun f v s => mX0_countTail_48_109 (r : Int) (a : Int) (i : Int) (q : Int) ((pl p n 0 : Nat) : Int) (p : Int) (n : Int) f v s) (fun b S' => nb S' 50 1536 HH ∧ (∀ j : Nat, j < 1536 → tb S' 50 j = if pl p n a ≤ j ∧ j < pl p n a + b then min HH (tb S 50 j + r * tb S 50 (pl q (n - i) (j - pl p n a))) else tb S 50 j) ∧ kept [50] [] S S') _ (topf (decide (0 ≤ m)) (n - i) + 1) (fun b f s hb hI hk => ?_) (fun f s hI => ?_) (topf (decide (0 ≤ m)) (n - i) + 1) 0 FU S (by omega) (by unfold FU; omega) ⟨hT, fun j hj => by rw [if_neg (by omega)], kept.rf⟩
  · obtain ⟨n1, v1, k1⟩ := hI
    try dsimp only at hk ⊢
    have eC := (congrFun (k1.cell 48 (by decide) (by decide)) 1).trans h1
    have b1 : pl q (n - i) b < 1536 := pl_lt2 (N := 24) hq (by omega) (by omega) (by decide)
    have b2 : pl p n a + b < 1536 := by
      have := pl_lt2 (N := 24) (B := 1536) (q := p) (s := n) (i := a + b) hp hn (by omega) (by decide)
      unfold pl at this ⊢; omega
    have r1 := n1.at b1
    have r2 := n1.at b2
    have w1 : tb s 50 (pl q (n - i) b) = tb S 50 (pl q (n - i) b) := by
      rw [v1 _ b1, if_neg]
      unfold pl; omega
    have w2 : tb s 50 (pl p n a + b) = tb S 50 (pl p n a + b) := by
      rw [v1 _ b2, if_neg (by omega)]
    rw [mX0_countTail_48_109]
    by_cases z : r = 0
    · subst z
      refine wp_mono (P := fun S' => S' = s) (by rw [gd_t (by decide), if_pos (by decide), wp_some]) (fun S' e => ?_)
      subst e
      refine ⟨n1, fun j hj => ?_, k1⟩
      rw [v1 j hj, Nat.zero_mul, Nat.add_zero, Nat.min_eq_right (hT.at hj).2]
      simp
    · have r' := HH_in hr
      rw [gd_t (by omega), if_neg (by omega), show (n : Int) - (i : Int) = ((n - i : Nat) : Int) by omega, bd1_e (e_ltop48 hm eC), gd_t (by omega), if_neg (by omega), show (q : Int) * 64 + ((n - i : Nat) : Int) * 8 + (b : Int) = ((pl q (n - i) b : Nat) : Int) by unfold pl; omega, gd_t (by omega), nx_e, show ((pl p n 0 : Nat) : Int) + (a : Int) + (b : Int) = ((pl p n a + b : Nat) : Int) by unfold pl; omega, gd_t (by omega), r1.1, bd1_e (e_timesH hr r1.2), r2.1, bd1_e (e_plusH r2.2 min_le'), nx_e]
      refine hk _ ⟨nb_up n1 min_le', fun j hj => ?_, kept.upA k1 (by simp)⟩
      rw [tb_up]
      by_cases e : j = pl p n a + b
      · subst e
        rw [if_pos rfl, if_pos (by omega), w1, w2, show pl p n a + b - pl p n a = b by omega]
        omega
      · rw [if_neg e, v1 j hj]
        by_cases w : pl p n a ≤ j ∧ j < pl p n a + b
        · rw [if_pos w, if_pos (by omega)]
        · rw [if_neg w, if_neg (by omega)]
  · obtain ⟨n1, v1, k1⟩ := hI
    have eC := (congrFun (k1.cell 48 (by decide) (by decide)) 1).trans h1
    have r' := HH_in hr
    try dsimp only
    rw [mX0_countTail_48_109]
    by_cases z : r = 0
    · rw [gd_t (by omega), if_pos (by omega), wp_some]; exact ⟨n1, v1, k1⟩
    · rw [gd_t (by omega), if_neg (by omega), show (n : Int) - (i : Int) = ((n - i : Nat) : Int) by omega, bd1_e (e_ltop48 hm eC), gd_t (by omega), if_pos (by omega), wp_some]; exact ⟨n1, v1, k1⟩
/-- one size, one number of atoms -/
def tm (w : Nat) (t2 : Nat) (A : Nat → Nat) (B : Nat → Nat) (k a : Nat) : Nat := if a ≤ k ∧ k - a ≤ t2 then A a * w * B (k - a) else 0
theorem ct48_65 {S : St} {m : Int} {i q p n : Nat} (hm : inI m) (h1 : S 48 1 = m) (hq : q < 24) (hp : p < 24) (hpq : p ≠ q) (hn : n ≤ 7) (hi : i ≤ n) (hO : nb S 49 1536 HH) (hT : nb S 50 1536 HH) : wp (mX0_countTail_48_65 (i : Int) (q : Int) ((pl p n 0 : Nat) : Int) (p : Int) (n : Int) FU 0 S) (fun S' => nb S' 50 1536 HH ∧ (∀ k : Nat, k ≤ topf (decide (0 ≤ m)) n → tb S' 50 (pl p n k) = min HH (tb S 50 (pl p n k) + sm (topf (decide (0 ≤ m)) i + 1) (tm (wt (decide (m = -2)) n i) (topf (decide (0 ≤ m)) (n - i)) (fun a => tb S 49 (pl p i a)) (fun b => tb S 50 (pl q (n - i) b)) k))) ∧ (∀ j : Nat, j < 1536 → (∀ k : Nat, k ≤ topf (decide (0 ≤ m)) n → j ≠ pl p n k) → tb S' 50 j = tb S 50 j) ∧ kept [50] [] S S') := by
  have ht0 : topf (decide (0 ≤ m)) n ≤ n := topf_le
  have ht1 : topf (decide (0 ≤ m)) (n - i) ≤ n - i := topf_le
  have ht2 : topf (decide (0 ≤ m)) i ≤ i := topf_le
  have ht3 : topf (decide (0 ≤ m)) i + topf (decide (0 ≤ m)) (n - i) = topf (decide (0 ≤ m)) n := by unfold topf; split <;> omega
  refine loopW (fun f v s => mX0_countTail_48_65 (i : Int) (q : Int) ((pl p n 0 : Nat) : Int) (p : Int) (n : Int) f v s) (fun A S' => nb S' 50 1536 HH ∧ (∀ k : Nat, k ≤ topf (decide (0 ≤ m)) n → tb S' 50 (pl p n k) = min HH (tb S 50 (pl p n k) + sm A (tm (wt (decide (m = -2)) n i) (topf (decide (0 ≤ m)) (n - i)) (fun a => tb S 49 (pl p i a)) (fun b => tb S 50 (pl q (n - i) b)) k))) ∧ (∀ j : Nat, j < 1536 → (∀ k : Nat, k ≤ topf (decide (0 ≤ m)) n → j ≠ pl p n k) → tb S' 50 j = tb S 50 j) ∧ kept [50] [] S S') _ (topf (decide (0 ≤ m)) i + 1) (fun A f s hA hI hk => ?_) (fun f s hI => ?_) (topf (decide (0 ≤ m)) i + 1) 0 FU S (by omega) (by unfold FU; omega) ⟨hT, fun k hk => by rw [sm_0, Nat.add_zero, Nat.min_eq_right (hT.at (pl_lt2 (N := 24) hp hn (by omega) (by decide))).2], fun _ _ _ => rfl, kept.rf⟩
  · obtain ⟨n1, v1, o1, k1⟩ := hI
    try dsimp only at hk ⊢
    have eC := (congrFun (k1.cell 48 (by decide) (by decide)) 1).trans h1
    have eO := k1.cell 49 (by decide) (by decide)
    have b1 : pl p i A < 1536 := pl_lt2 (N := 24) hp (by omega) (by omega) (by decide)
    have r1 := hO.at b1
    have hw := wt_le (lab := decide (m = -2)) (n := n) (i := i) hn
    rw [mX0_countTail_48_65, bd1_e (e_ltop48 hm eC), gd_t (by omega), if_neg (by omega), show (p : Int) * 64 + (i : Int) * 8 + (A : Int) = ((pl p i A : Nat) : Int) by unfold pl; omega, gd_t (by omega), bd1_e (e_weight48 hm eC hn hi), eO, r1.1, bd1_e (e_timesH r1.2 (Nat.le_trans hw (by decide))), wp_bd1]
    refine wp_mono (ct48_109 (S := s) hm eC min_le' hq hp hpq hn hi (by omega) n1) (fun S2 q2 => ?_)
    obtain ⟨n2, v2, k2⟩ := q2
    have rq : ∀ b : Nat, b ≤ topf (decide (0 ≤ m)) (n - i) → tb s 50 (pl q (n - i) b) = tb S 50 (pl q (n - i) b) := fun b hb => o1 _ (pl_lt2 (N := 24) hq (by omega) (by omega) (by decide)) (fun k hk e => hpq (pl_inj e (by omega) (by omega) (by omega) (by omega)).1.symm)
    refine hk S2 ⟨n2, fun k hk => ?_, fun j hj hne => ?_, kept.trans k1 k2⟩
    · have b2 : pl p n k < 1536 := pl_lt2 (N := 24) hp hn (by omega) (by decide)
      rw [v2 _ b2, sm_s]
      by_cases c : A ≤ k ∧ k - A ≤ topf (decide (0 ≤ m)) (n - i)
      · rw [if_pos (by unfold pl; omega), v1 k hk, show pl p n k - pl p n A = k - A by unfold pl; omega, rq _ c.2]
        rw [show tm (wt (decide (m = -2)) n i) (topf (decide (0 ≤ m)) (n - i)) (fun a => tb S 49 (pl p i a)) (fun b => tb S 50 (pl q (n - i) b)) k A = tb S 49 (pl p i A) * wt (decide (m = -2)) n i * tb S 50 (pl q (n - i) (k - A)) from if_pos c]
        rw [← Nat.add_assoc]
        generalize tb S 50 (pl p n k) + sm A (tm (wt (decide (m = -2)) n i) (topf (decide (0 ≤ m)) (n - i)) (fun a => tb S 49 (pl p i a)) (fun b => tb S 50 (pl q (n - i) b)) k) = X
        generalize tb S 49 (pl p i A) * wt (decide (m = -2)) n i = Z
        generalize tb S 50 (pl q (n - i) (k - A)) = t
        rw [← min_acc (r := Z)]
        generalize min HH Z * t = y
        omega
      · rw [if_neg (by unfold pl; omega), v1 k hk, show tm (wt (decide (m = -2)) n i) (topf (decide (0 ≤ m)) (n - i)) (fun a => tb S 49 (pl p i a)) (fun b => tb S 50 (pl q (n - i) b)) k A = 0 from if_neg c, Nat.add_zero]
    · rw [v2 j hj, if_neg, o1 j hj hne]
      rintro ⟨c1, c2⟩
      exact hne (j - pl p n 0) (by unfold pl at c1 c2 ⊢; omega) (by unfold pl at c1 c2 ⊢; omega)
  · obtain ⟨n1, v1, o1, k1⟩ := hI
    have eC := (congrFun (k1.cell 48 (by decide) (by decide)) 1).trans h1
    try dsimp only
    rw [mX0_countTail_48_65, bd1_e (e_ltop48 hm eC), gd_t (by omega), if_pos (by omega), wp_some]
    exact ⟨n1, v1, o1, k1⟩
def tsum (L lab : Bool) (n : Nat) (A B : Nat → Nat → Nat) (k N : Nat) : Nat := sm N (fun i => sm (topf L i + 1) (tm (wt lab n i) (topf L (n - i)) (A i) (B (n - i)) k))
theorem ct48_56 {S : St} {m : Int} {q p n : Nat} (hm : inI m) (h1 : S 48 1 = m) (hq : q < 24) (hp : p < 24) (hpq : p ≠ q) (hn : n ≤ 7) (hO : nb S 49 1536 HH) (hT : nb S 50 1536 HH) (hz : ∀ k : Nat, k ≤ topf (decide (0 ≤ m)) n → tb S 50 (pl p n k) = 0) : wp (mX0_countTail_48_56 (q : Int) ((pl p n 0 : Nat) : Int) (p : Int) (n : Int) FU 0 S) (fun S' => nb S' 50 1536 HH ∧ (∀ k : Nat, k ≤ topf (decide (0 ≤ m)) n → tb S' 50 (pl p n k) = min HH (tsum (decide (0 ≤ m)) (decide (m = -2)) n (fun s i => tb S 49 (pl p s i)) (fun s i => tb S 50 (pl q s i)) k (n + 1))) ∧ (∀ j : Nat, j < 1536 → (∀ k : Nat, k ≤ topf (decide (0 ≤ m)) n → j ≠ pl p n k) → tb S' 50 j = tb S 50 j) ∧ kept [50] [] S S') := by
  have ht0 : topf (decide (0 ≤ m)) n ≤ n := topf_le
  refine loopW (fun f v s => mX0_countTail_48_56 (q : Int) ((pl p n 0 : Nat) : Int) (p : Int) (n : Int) f v s) (fun N S' => nb S' 50 1536 HH ∧ (∀ k : Nat, k ≤ topf (decide (0 ≤ m)) n → tb S' 50 (pl p n k) = min HH (tsum (decide (0 ≤ m)) (decide (m = -2)) n (fun s i => tb S 49 (pl p s i)) (fun s i => tb S 50 (pl q s i)) k N)) ∧ (∀ j : Nat, j < 1536 → (∀ k : Nat, k ≤ topf (decide (0 ≤ m)) n → j ≠ pl p n k) → tb S' 50 j = tb S 50 j) ∧ kept [50] [] S S') _ (n + 1) (fun i f s hi hI hk => ?_) (fun f s hI => ?_) (n + 1) 0 FU S (by omega) (by unfold FU; omega) ⟨hT, fun k hk => by rw [hz k hk]; unfold tsum; rw [sm_0, Nat.min_zero], fun _ _ _ => rfl, kept.rf⟩
  · obtain ⟨n1, v1, o1, k1⟩ := hI
    try dsimp only at hk ⊢
    have eC := (congrFun (k1.cell 48 (by decide) (by decide)) 1).trans h1
    have eO := k1.cell 49 (by decide) (by decide)
    have tO : tb s 49 = tb S 49 := by funext j; unfold tb; rw [eO]
    rw [mX0_countTail_48_56, gd_t (by omega), if_neg (by omega), wp_bd1]
    refine wp_mono (ct48_65 (S := s) hm eC hq hp hpq hn (by omega) (by intro j hj; rw [eO]; exact hO j hj) n1) (fun S2 q2 => ?_)
    obtain ⟨n2, v2, o2, k2⟩ := q2
    have rq : ∀ t b : Nat, t ≤ 7 → b ≤ 7 → tb s 50 (pl q t b) = tb S 50 (pl q t b) := fun t b ht hb => o1 _ (pl_lt2 (N := 24) hq ht hb (by decide)) (fun k hk e => hpq (pl_inj e (by omega) (by omega) (by omega) (by omega)).1.symm)
    refine hk S2 ⟨n2, fun k hk => ?_, fun j hj hne => by rw [o2 j hj hne, o1 j hj hne], kept.trans k1 k2⟩
    rw [v2 k hk, v1 k hk, tO]
    have e : sm (topf (decide (0 ≤ m)) i + 1) (tm (wt (decide (m = -2)) n i) (topf (decide (0 ≤ m)) (n - i)) (fun a => tb S 49 (pl p i a)) (fun b => tb s 50 (pl q (n - i) b)) k) = sm (topf (decide (0 ≤ m)) i + 1) (tm (wt (decide (m = -2)) n i) (topf (decide (0 ≤ m)) (n - i)) (fun a => tb S 49 (pl p i a)) (fun b => tb S 50 (pl q (n - i) b)) k) := by
      refine sm_congr fun a ha => ?_
      unfold tm
      have : topf (decide (0 ≤ m)) (n - i) ≤ n - i := topf_le
      by_cases c : a ≤ k ∧ k - a ≤ topf (decide (0 ≤ m)) (n - i)
      · rw [if_pos c, if_pos c]; exact congrArg _ (rq _ _ (by omega) (by omega))
      · rw [if_neg c, if_neg c]
    rw [e]
    unfold tsum
    rw [sm_s (n := i)]
    generalize sm (topf (decide (0 ≤ m)) i + 1) (tm (wt (decide (m = -2)) n i) (topf (decide (0 ≤ m)) (n - i)) (fun a => tb S 49 (pl p i a)) (fun b => tb S 50 (pl q (n - i) b)) k) = x
    generalize sm i _ = y
    omega
  · obtain ⟨n1, v1, o1, k1⟩ := hI
    try dsimp only
    rw [mX0_countTail_48_56, gd_t (by omega), if_pos (by omega), wp_some]
    exact ⟨n1, v1, o1, k1⟩
/-- what countTail leaves -/
def tlv (L lab : Bool) (O T : Nat → Nat) (q : Int) (p n k : Nat) : Nat := if q = -1 then O (pl p n k) else min HH (tsum L lab n (fun s i => O (pl p s i)) (fun s i => T (pl q.toNat s i)) k (n + 1))
theorem w_countTail48 {S : St} {M : Int → Int} {m : Int} {p n : Nat} (h : WF M) (hG : GM S M) (hm : inI m) (h1 : S 48 1 = m) (hp : (p : Int) < M 2) (hn : n ≤ 7) (hO : nb S 49 1536 HH) (hT : nb S 50 1536 HH) : wp (mX0_countTail_48 S (p : Int) (n : Int)) (fun S' => nb S' 50 1536 HH ∧ (∀ k : Nat, k ≤ topf (decide (0 ≤ m)) n → tb S' 50 (pl p n k) = tlv (decide (0 ≤ m)) (decide (m = -2)) (tb S 49) (tb S 50) (M (96 + (p : Int))) p n k) ∧ (∀ j : Nat, j < 1536 → (∀ k : Nat, k ≤ topf (decide (0 ≤ m)) n → j ≠ pl p n k) → tb S' 50 j = tb S 50 j) ∧ kept [50] [] S S') := by
  have hM2 := h.2.2.1
  have ht0 : topf (decide (0 ≤ m)) n ≤ n := topf_le
  have hq := (h.2.2.2.1 p hp).2.1
  have bl : pl p n 0 + 7 < 1536 := by unfold pl; omega
  have rng : ∀ j : Nat, (pl p n 0 ≤ j ∧ j < pl p n 0 + (topf (decide (0 ≤ m)) n + 1)) ↔ ∃ k : Nat, k ≤ topf (decide (0 ≤ m)) n ∧ j = pl p n k := fun j => ⟨fun c => ⟨j - pl p n 0, by omega, by unfold pl at c ⊢; omega⟩, fun ⟨k, c1, c2⟩ => by subst c2; unfold pl; omega⟩
  unfold mX0_countTail_48
  rw [nx_e, gd_t (by omega), nx_e, (hG.2.1 p hp).2.1, gd_t (by omega), show (p : Int) * 64 + (n : Int) * 8 = ((pl p n 0 : Nat) : Int) by unfold pl; omega]
  by_cases z : M (96 + (p : Int)) = -1
  · rw [if_pos z, wp_bd1]
    refine wp_mono (w_cpy48_49_50 (S := S) hm h1 hn (by omega) (by omega)) (fun S' q => ?_)
    rw [wp_some]
    refine ⟨fun j hj => ?_, fun k hk => ?_, fun j hj hne => ?_, q.2⟩
    · rw [q.1 j hj]
      by_cases c : pl p n 0 ≤ j ∧ j < pl p n 0 + (topf (decide (0 ≤ m)) n + 1)
      · rw [if_pos c]; exact hO _ (by omega)
      · rw [if_neg c]; exact hT j hj
    · unfold tlv
      rw [if_pos z]
      show (S' 50 ((pl p n k : Nat) : Int)).toNat = _
      rw [q.1 _ (by unfold pl at bl ⊢; omega), if_pos (by unfold pl; omega), show pl p n 0 + (pl p n k - pl p n 0) = pl p n k by unfold pl; omega]
      rfl
    · show (S' 50 (j : Int)).toNat = _
      rw [q.1 j hj, if_neg]
      · rfl
      · intro c
        obtain ⟨k, c1, c2⟩ := (rng j).mp c
        exact hne k c1 c2
  · obtain ⟨q, eq⟩ : ∃ q : Nat, M (96 + (p : Int)) = (q : Int) := ⟨(M (96 + (p : Int))).toNat, by omega⟩
    rw [if_neg z, wp_bd1]
    refine wp_mono (w_clr48_50 (S := S) hm h1 hn (by omega)) (fun S1 q1 => ?_)
    obtain ⟨v1, k1⟩ := q1
    have eO := k1.cell 49 (by decide) (by decide)
    have tO : tb S1 49 = tb S 49 := by funext j; unfold tb; rw [eO]
    have n1 : nb S1 50 1536 HH := fun j hj => by
      rw [v1 j hj]
      by_cases c : pl p n 0 ≤ j ∧ j < pl p n 0 + (topf (decide (0 ≤ m)) n + 1)
      · rw [if_pos c]; exact ⟨0, rfl, Nat.zero_le _⟩
      · rw [if_neg c]; exact hT j hj
    have u1 : ∀ j : Nat, j < 1536 → tb S1 50 j = if pl p n 0 ≤ j ∧ j < pl p n 0 + (topf (decide (0 ≤ m)) n + 1) then 0 else tb S 50 j := fun j hj => by
      show (S1 50 (j : Int)).toNat = _
      rw [v1 j hj]
      split <;> rfl
    rw [wp_bd1, eq]
    refine wp_mono (ct48_56 (S := S1) (q := q) hm ((congrFun (k1.cell 48 (by decide) (by decide)) 1).trans h1) (by omega) (by omega) (by omega) hn (by intro j hj; rw [eO]; exact hO j hj) n1 (fun k hk => by rw [u1 _ (by unfold pl at bl ⊢; omega), if_pos (by unfold pl; omega)])) (fun S2 q2 => ?_)
    obtain ⟨n2, v2, o2, k2⟩ := q2
    rw [wp_some]
    refine ⟨n2, fun k hk => ?_, fun j hj hne => ?_, kept.trans k1 k2⟩
    · rw [v2 k hk, tO]
      unfold tlv
      rw [if_neg (by omega), show ((q : Int)).toNat = q from rfl]
      congr 1
      unfold tsum
      refine sm_congr fun i hi => sm_congr fun a ha => ?_
      unfold tm
      by_cases c : a ≤ k ∧ k - a ≤ topf (decide (0 ≤ m)) (n - i)
      · have : topf (decide (0 ≤ m)) (n - i) ≤ n - i := topf_le
        rw [if_pos c, if_pos c]
        dsimp only
        rw [u1 _ (pl_lt2 (N := 24) (by omega) (by omega) (by omega) (by decide)), if_neg]
        unfold pl; omega
      · rw [if_neg c, if_neg c]
    · rw [o2 j hj hne, u1 j hj, if_neg]
      intro c
      obtain ⟨k, c1, c2⟩ := (rng j).mp c
      exact hne k c1 c2
/-! the class's census 40: a part and what is behind it -/
theorem ct40_109 {S : St} {m : Int} {r a i q p n : Nat} (hm : inI m) (h1 : S 40 1 = m) (hr : r ≤ HH) (hq : q < 24) (hp : p < 24) (hpq : p ≠ q) (hn : n ≤ 7) (hi : i ≤ n) (ha : a ≤ topf (decide (0 ≤ m)) i) (hT : nb S 42 1536 HH) : wp (mX0_countTail_40_109 (r : Int) (a : Int) (i : Int) (q : Int) ((pl p n 0 : Nat) : Int) (p : Int) (n : Int) FU 0 S) (fun S' => nb S' 42 1536 HH ∧ (∀ j : Nat, j < 1536 → tb S' 42 j = if pl p n a ≤ j ∧ j < pl p n a + (topf (decide (0 ≤ m)) (n - i) + 1) then min HH (tb S 42 j + r * tb S 42 (pl q (n - i) (j - pl p n a))) else tb S 42 j) ∧ kept [42] [] S S') := by
  have ht : topf (decide (0 ≤ m)) (n - i) ≤ n - i := topf_le
  have ht2 : topf (decide (0 ≤ m)) i ≤ i := topf_le
  refine loopW (fun f v s => mX0_countTail_40_109 (r : Int) (a : Int) (i : Int) (q : Int) ((pl p n 0 : Nat) : Int) (p : Int) (n : Int) f v s) (fun b S' => nb S' 42 1536 HH ∧ (∀ j : Nat, j < 1536 → tb S' 42 j = if pl p n a ≤ j ∧ j < pl p n a + b then min HH (tb S 42 j + r * tb S 42 (pl q (n - i) (j - pl p n a))) else tb S 42 j) ∧ kept [42] [] S S') _ (topf (decide (0 ≤ m)) (n - i) + 1) (fun b f s hb hI hk => ?_) (fun f s hI => ?_) (topf (decide (0 ≤ m)) (n - i) + 1) 0 FU S (by omega) (by unfold FU; omega) ⟨hT, fun j hj => by rw [if_neg (by omega)], kept.rf⟩
  · obtain ⟨n1, v1, k1⟩ := hI
    try dsimp only at hk ⊢
    have eC := (congrFun (k1.cell 40 (by decide) (by decide)) 1).trans h1
    have b1 : pl q (n - i) b < 1536 := pl_lt2 (N := 24) hq (by omega) (by omega) (by decide)
    have b2 : pl p n a + b < 1536 := by
      have := pl_lt2 (N := 24) (B := 1536) (q := p) (s := n) (i := a + b) hp hn (by omega) (by decide)
      unfold pl at this ⊢; omega
    have r1 := n1.at b1
    have r2 := n1.at b2
    have w1 : tb s 42 (pl q (n - i) b) = tb S 42 (pl q (n - i) b) := by
      rw [v1 _ b1, if_neg]
      unfold pl; omega
    have w2 : tb s 42 (pl p n a + b) = tb S 42 (pl p n a + b) := by
      rw [v1 _ b2, if_neg (by omega)]
    rw [mX0_countTail_40_109]
    by_cases z : r = 0
    · subst z
      refine wp_mono (P := fun S' => S' = s) (by rw [gd_t (by decide), if_pos (by decide), wp_some]) (fun S' e => ?_)
      subst e
      refine ⟨n1, fun j hj => ?_, k1⟩
      rw [v1 j hj, Nat.zero_mul, Nat.add_zero, Nat.min_eq_right (hT.at hj).2]
      simp
    · have r' := HH_in hr
      rw [gd_t (by omega), if_neg (by omega), show (n : Int) - (i : Int) = ((n - i : Nat) : Int) by omega, bd1_e (e_ltop40 hm eC), gd_t (by omega), if_neg (by omega), show (q : Int) * 64 + ((n - i : Nat) : Int) * 8 + (b : Int) = ((pl q (n - i) b : Nat) : Int) by unfold pl; omega, gd_t (by omega), nx_e, show ((pl p n 0 : Nat) : Int) + (a : Int) + (b : Int) = ((pl p n a + b : Nat) : Int) by unfold pl; omega, gd_t (by omega), r1.1, bd1_e (e_timesH hr r1.2), r2.1, bd1_e (e_plusH r2.2 min_le'), nx_e]
      refine hk _ ⟨nb_up n1 min_le', fun j hj => ?_, kept.upA k1 (by simp)⟩
      rw [tb_up]
      by_cases e : j = pl p n a + b
      · subst e
        rw [if_pos rfl, if_pos (by omega), w1, w2, show pl p n a + b - pl p n a = b by omega]
        omega
      · rw [if_neg e, v1 j hj]
        by_cases w : pl p n a ≤ j ∧ j < pl p n a + b
        · rw [if_pos w, if_pos (by omega)]
        · rw [if_neg w, if_neg (by omega)]
  · obtain ⟨n1, v1, k1⟩ := hI
    have eC := (congrFun (k1.cell 40 (by decide) (by decide)) 1).trans h1
    have r' := HH_in hr
    try dsimp only
    rw [mX0_countTail_40_109]
    by_cases z : r = 0
    · rw [gd_t (by omega), if_pos (by omega), wp_some]; exact ⟨n1, v1, k1⟩
    · rw [gd_t (by omega), if_neg (by omega), show (n : Int) - (i : Int) = ((n - i : Nat) : Int) by omega, bd1_e (e_ltop40 hm eC), gd_t (by omega), if_pos (by omega), wp_some]; exact ⟨n1, v1, k1⟩
theorem ct40_65 {S : St} {m : Int} {i q p n : Nat} (hm : inI m) (h1 : S 40 1 = m) (hq : q < 24) (hp : p < 24) (hpq : p ≠ q) (hn : n ≤ 7) (hi : i ≤ n) (hO : nb S 41 1536 HH) (hT : nb S 42 1536 HH) : wp (mX0_countTail_40_65 (i : Int) (q : Int) ((pl p n 0 : Nat) : Int) (p : Int) (n : Int) FU 0 S) (fun S' => nb S' 42 1536 HH ∧ (∀ k : Nat, k ≤ topf (decide (0 ≤ m)) n → tb S' 42 (pl p n k) = min HH (tb S 42 (pl p n k) + sm (topf (decide (0 ≤ m)) i + 1) (tm (wt (decide (m = -2)) n i) (topf (decide (0 ≤ m)) (n - i)) (fun a => tb S 41 (pl p i a)) (fun b => tb S 42 (pl q (n - i) b)) k))) ∧ (∀ j : Nat, j < 1536 → (∀ k : Nat, k ≤ topf (decide (0 ≤ m)) n → j ≠ pl p n k) → tb S' 42 j = tb S 42 j) ∧ kept [42] [] S S') := by
  have ht0 : topf (decide (0 ≤ m)) n ≤ n := topf_le
  have ht1 : topf (decide (0 ≤ m)) (n - i) ≤ n - i := topf_le
  have ht2 : topf (decide (0 ≤ m)) i ≤ i := topf_le
  have ht3 : topf (decide (0 ≤ m)) i + topf (decide (0 ≤ m)) (n - i) = topf (decide (0 ≤ m)) n := by unfold topf; split <;> omega
  refine loopW (fun f v s => mX0_countTail_40_65 (i : Int) (q : Int) ((pl p n 0 : Nat) : Int) (p : Int) (n : Int) f v s) (fun A S' => nb S' 42 1536 HH ∧ (∀ k : Nat, k ≤ topf (decide (0 ≤ m)) n → tb S' 42 (pl p n k) = min HH (tb S 42 (pl p n k) + sm A (tm (wt (decide (m = -2)) n i) (topf (decide (0 ≤ m)) (n - i)) (fun a => tb S 41 (pl p i a)) (fun b => tb S 42 (pl q (n - i) b)) k))) ∧ (∀ j : Nat, j < 1536 → (∀ k : Nat, k ≤ topf (decide (0 ≤ m)) n → j ≠ pl p n k) → tb S' 42 j = tb S 42 j) ∧ kept [42] [] S S') _ (topf (decide (0 ≤ m)) i + 1) (fun A f s hA hI hk => ?_) (fun f s hI => ?_) (topf (decide (0 ≤ m)) i + 1) 0 FU S (by omega) (by unfold FU; omega) ⟨hT, fun k hk => by rw [sm_0, Nat.add_zero, Nat.min_eq_right (hT.at (pl_lt2 (N := 24) hp hn (by omega) (by decide))).2], fun _ _ _ => rfl, kept.rf⟩
  · obtain ⟨n1, v1, o1, k1⟩ := hI
    try dsimp only at hk ⊢
    have eC := (congrFun (k1.cell 40 (by decide) (by decide)) 1).trans h1
    have eO := k1.cell 41 (by decide) (by decide)
    have b1 : pl p i A < 1536 := pl_lt2 (N := 24) hp (by omega) (by omega) (by decide)
    have r1 := hO.at b1
    have hw := wt_le (lab := decide (m = -2)) (n := n) (i := i) hn
    rw [mX0_countTail_40_65, bd1_e (e_ltop40 hm eC), gd_t (by omega), if_neg (by omega), show (p : Int) * 64 + (i : Int) * 8 + (A : Int) = ((pl p i A : Nat) : Int) by unfold pl; omega, gd_t (by omega), bd1_e (e_weight40 hm eC hn hi), eO, r1.1, bd1_e (e_timesH r1.2 (Nat.le_trans hw (by decide))), wp_bd1]
    refine wp_mono (ct40_109 (S := s) hm eC min_le' hq hp hpq hn hi (by omega) n1) (fun S2 q2 => ?_)
    obtain ⟨n2, v2, k2⟩ := q2
    have rq : ∀ b : Nat, b ≤ topf (decide (0 ≤ m)) (n - i) → tb s 42 (pl q (n - i) b) = tb S 42 (pl q (n - i) b) := fun b hb => o1 _ (pl_lt2 (N := 24) hq (by omega) (by omega) (by decide)) (fun k hk e => hpq (pl_inj e (by omega) (by omega) (by omega) (by omega)).1.symm)
    refine hk S2 ⟨n2, fun k hk => ?_, fun j hj hne => ?_, kept.trans k1 k2⟩
    · have b2 : pl p n k < 1536 := pl_lt2 (N := 24) hp hn (by omega) (by decide)
      rw [v2 _ b2, sm_s]
      by_cases c : A ≤ k ∧ k - A ≤ topf (decide (0 ≤ m)) (n - i)
      · rw [if_pos (by unfold pl; omega), v1 k hk, show pl p n k - pl p n A = k - A by unfold pl; omega, rq _ c.2]
        rw [show tm (wt (decide (m = -2)) n i) (topf (decide (0 ≤ m)) (n - i)) (fun a => tb S 41 (pl p i a)) (fun b => tb S 42 (pl q (n - i) b)) k A = tb S 41 (pl p i A) * wt (decide (m = -2)) n i * tb S 42 (pl q (n - i) (k - A)) from if_pos c]
        rw [← Nat.add_assoc]
        generalize tb S 42 (pl p n k) + sm A (tm (wt (decide (m = -2)) n i) (topf (decide (0 ≤ m)) (n - i)) (fun a => tb S 41 (pl p i a)) (fun b => tb S 42 (pl q (n - i) b)) k) = X
        generalize tb S 41 (pl p i A) * wt (decide (m = -2)) n i = Z
        generalize tb S 42 (pl q (n - i) (k - A)) = t
        rw [← min_acc (r := Z)]
        generalize min HH Z * t = y
        omega
      · rw [if_neg (by unfold pl; omega), v1 k hk, show tm (wt (decide (m = -2)) n i) (topf (decide (0 ≤ m)) (n - i)) (fun a => tb S 41 (pl p i a)) (fun b => tb S 42 (pl q (n - i) b)) k A = 0 from if_neg c, Nat.add_zero]
    · rw [v2 j hj, if_neg, o1 j hj hne]
      rintro ⟨c1, c2⟩
      exact hne (j - pl p n 0) (by unfold pl at c1 c2 ⊢; omega) (by unfold pl at c1 c2 ⊢; omega)
  · obtain ⟨n1, v1, o1, k1⟩ := hI
    have eC := (congrFun (k1.cell 40 (by decide) (by decide)) 1).trans h1
    try dsimp only
    rw [mX0_countTail_40_65, bd1_e (e_ltop40 hm eC), gd_t (by omega), if_pos (by omega), wp_some]
    exact ⟨n1, v1, o1, k1⟩
theorem ct40_56 {S : St} {m : Int} {q p n : Nat} (hm : inI m) (h1 : S 40 1 = m) (hq : q < 24) (hp : p < 24) (hpq : p ≠ q) (hn : n ≤ 7) (hO : nb S 41 1536 HH) (hT : nb S 42 1536 HH) (hz : ∀ k : Nat, k ≤ topf (decide (0 ≤ m)) n → tb S 42 (pl p n k) = 0) : wp (mX0_countTail_40_56 (q : Int) ((pl p n 0 : Nat) : Int) (p : Int) (n : Int) FU 0 S) (fun S' => nb S' 42 1536 HH ∧ (∀ k : Nat, k ≤ topf (decide (0 ≤ m)) n → tb S' 42 (pl p n k) = min HH (tsum (decide (0 ≤ m)) (decide (m = -2)) n (fun s i => tb S 41 (pl p s i)) (fun s i => tb S 42 (pl q s i)) k (n + 1))) ∧ (∀ j : Nat, j < 1536 → (∀ k : Nat, k ≤ topf (decide (0 ≤ m)) n → j ≠ pl p n k) → tb S' 42 j = tb S 42 j) ∧ kept [42] [] S S') := by
  have ht0 : topf (decide (0 ≤ m)) n ≤ n := topf_le
  refine loopW (fun f v s => mX0_countTail_40_56 (q : Int) ((pl p n 0 : Nat) : Int) (p : Int) (n : Int) f v s) (fun N S' => nb S' 42 1536 HH ∧ (∀ k : Nat, k ≤ topf (decide (0 ≤ m)) n → tb S' 42 (pl p n k) = min HH (tsum (decide (0 ≤ m)) (decide (m = -2)) n (fun s i => tb S 41 (pl p s i)) (fun s i => tb S 42 (pl q s i)) k N)) ∧ (∀ j : Nat, j < 1536 → (∀ k : Nat, k ≤ topf (decide (0 ≤ m)) n → j ≠ pl p n k) → tb S' 42 j = tb S 42 j) ∧ kept [42] [] S S') _ (n + 1) (fun i f s hi hI hk => ?_) (fun f s hI => ?_) (n + 1) 0 FU S (by omega) (by unfold FU; omega) ⟨hT, fun k hk => by rw [hz k hk]; unfold tsum; rw [sm_0, Nat.min_zero], fun _ _ _ => rfl, kept.rf⟩
  · obtain ⟨n1, v1, o1, k1⟩ := hI
    try dsimp only at hk ⊢
    have eC := (congrFun (k1.cell 40 (by decide) (by decide)) 1).trans h1
    have eO := k1.cell 41 (by decide) (by decide)
    have tO : tb s 41 = tb S 41 := by funext j; unfold tb; rw [eO]
    rw [mX0_countTail_40_56, gd_t (by omega), if_neg (by omega), wp_bd1]
    refine wp_mono (ct40_65 (S := s) hm eC hq hp hpq hn (by omega) (by intro j hj; rw [eO]; exact hO j hj) n1) (fun S2 q2 => ?_)
    obtain ⟨n2, v2, o2, k2⟩ := q2
    have rq : ∀ t b : Nat, t ≤ 7 → b ≤ 7 → tb s 42 (pl q t b) = tb S 42 (pl q t b) := fun t b ht hb => o1 _ (pl_lt2 (N := 24) hq ht hb (by decide)) (fun k hk e => hpq (pl_inj e (by omega) (by omega) (by omega) (by omega)).1.symm)
    refine hk S2 ⟨n2, fun k hk => ?_, fun j hj hne => by rw [o2 j hj hne, o1 j hj hne], kept.trans k1 k2⟩
    rw [v2 k hk, v1 k hk, tO]
    have e : sm (topf (decide (0 ≤ m)) i + 1) (tm (wt (decide (m = -2)) n i) (topf (decide (0 ≤ m)) (n - i)) (fun a => tb S 41 (pl p i a)) (fun b => tb s 42 (pl q (n - i) b)) k) = sm (topf (decide (0 ≤ m)) i + 1) (tm (wt (decide (m = -2)) n i) (topf (decide (0 ≤ m)) (n - i)) (fun a => tb S 41 (pl p i a)) (fun b => tb S 42 (pl q (n - i) b)) k) := by
      refine sm_congr fun a ha => ?_
      unfold tm
      have : topf (decide (0 ≤ m)) (n - i) ≤ n - i := topf_le
      by_cases c : a ≤ k ∧ k - a ≤ topf (decide (0 ≤ m)) (n - i)
      · rw [if_pos c, if_pos c]; exact congrArg _ (rq _ _ (by omega) (by omega))
      · rw [if_neg c, if_neg c]
    rw [e]
    unfold tsum
    rw [sm_s (n := i)]
    generalize sm (topf (decide (0 ≤ m)) i + 1) (tm (wt (decide (m = -2)) n i) (topf (decide (0 ≤ m)) (n - i)) (fun a => tb S 41 (pl p i a)) (fun b => tb S 42 (pl q (n - i) b)) k) = x
    generalize sm i _ = y
    omega
  · obtain ⟨n1, v1, o1, k1⟩ := hI
    try dsimp only
    rw [mX0_countTail_40_56, gd_t (by omega), if_pos (by omega), wp_some]
    exact ⟨n1, v1, o1, k1⟩
theorem w_countTail40 {S : St} {M : Int → Int} {m : Int} {p n : Nat} (h : WF M) (hG : GM S M) (hm : inI m) (h1 : S 40 1 = m) (hp : (p : Int) < M 2) (hn : n ≤ 7) (hO : nb S 41 1536 HH) (hT : nb S 42 1536 HH) : wp (mX0_countTail_40 S (p : Int) (n : Int)) (fun S' => nb S' 42 1536 HH ∧ (∀ k : Nat, k ≤ topf (decide (0 ≤ m)) n → tb S' 42 (pl p n k) = tlv (decide (0 ≤ m)) (decide (m = -2)) (tb S 41) (tb S 42) (M (96 + (p : Int))) p n k) ∧ (∀ j : Nat, j < 1536 → (∀ k : Nat, k ≤ topf (decide (0 ≤ m)) n → j ≠ pl p n k) → tb S' 42 j = tb S 42 j) ∧ kept [42] [] S S') := by
  have hM2 := h.2.2.1
  have ht0 : topf (decide (0 ≤ m)) n ≤ n := topf_le
  have hq := (h.2.2.2.1 p hp).2.1
  have bl : pl p n 0 + 7 < 1536 := by unfold pl; omega
  have rng : ∀ j : Nat, (pl p n 0 ≤ j ∧ j < pl p n 0 + (topf (decide (0 ≤ m)) n + 1)) ↔ ∃ k : Nat, k ≤ topf (decide (0 ≤ m)) n ∧ j = pl p n k := fun j => ⟨fun c => ⟨j - pl p n 0, by omega, by unfold pl at c ⊢; omega⟩, fun ⟨k, c1, c2⟩ => by subst c2; unfold pl; omega⟩
  unfold mX0_countTail_40
  rw [nx_e, gd_t (by omega), nx_e, (hG.2.1 p hp).2.1, gd_t (by omega), show (p : Int) * 64 + (n : Int) * 8 = ((pl p n 0 : Nat) : Int) by unfold pl; omega]
  by_cases z : M (96 + (p : Int)) = -1
  · rw [if_pos z, wp_bd1]
    refine wp_mono (w_cpy40_41_42 (S := S) hm h1 hn (by omega) (by omega)) (fun S' q => ?_)
    rw [wp_some]
    refine ⟨fun j hj => ?_, fun k hk => ?_, fun j hj hne => ?_, q.2⟩
    · rw [q.1 j hj]
      by_cases c : pl p n 0 ≤ j ∧ j < pl p n 0 + (topf (decide (0 ≤ m)) n + 1)
      · rw [if_pos c]; exact hO _ (by omega)
      · rw [if_neg c]; exact hT j hj
    · unfold tlv
      rw [if_pos z]
      show (S' 42 ((pl p n k : Nat) : Int)).toNat = _
      rw [q.1 _ (by unfold pl at bl ⊢; omega), if_pos (by unfold pl; omega), show pl p n 0 + (pl p n k - pl p n 0) = pl p n k by unfold pl; omega]
      rfl
    · show (S' 42 (j : Int)).toNat = _
      rw [q.1 j hj, if_neg]
      · rfl
      · intro c
        obtain ⟨k, c1, c2⟩ := (rng j).mp c
        exact hne k c1 c2
  · obtain ⟨q, eq⟩ : ∃ q : Nat, M (96 + (p : Int)) = (q : Int) := ⟨(M (96 + (p : Int))).toNat, by omega⟩
    rw [if_neg z, wp_bd1]
    refine wp_mono (w_clr40_42 (S := S) hm h1 hn (by omega)) (fun S1 q1 => ?_)
    obtain ⟨v1, k1⟩ := q1
    have eO := k1.cell 41 (by decide) (by decide)
    have tO : tb S1 41 = tb S 41 := by funext j; unfold tb; rw [eO]
    have n1 : nb S1 42 1536 HH := fun j hj => by
      rw [v1 j hj]
      by_cases c : pl p n 0 ≤ j ∧ j < pl p n 0 + (topf (decide (0 ≤ m)) n + 1)
      · rw [if_pos c]; exact ⟨0, rfl, Nat.zero_le _⟩
      · rw [if_neg c]; exact hT j hj
    have u1 : ∀ j : Nat, j < 1536 → tb S1 42 j = if pl p n 0 ≤ j ∧ j < pl p n 0 + (topf (decide (0 ≤ m)) n + 1) then 0 else tb S 42 j := fun j hj => by
      show (S1 42 (j : Int)).toNat = _
      rw [v1 j hj]
      split <;> rfl
    rw [wp_bd1, eq]
    refine wp_mono (ct40_56 (S := S1) (q := q) hm ((congrFun (k1.cell 40 (by decide) (by decide)) 1).trans h1) (by omega) (by omega) (by omega) hn (by intro j hj; rw [eO]; exact hO j hj) n1 (fun k hk => by rw [u1 _ (by unfold pl at bl ⊢; omega), if_pos (by unfold pl; omega)])) (fun S2 q2 => ?_)
    obtain ⟨n2, v2, o2, k2⟩ := q2
    rw [wp_some]
    refine ⟨n2, fun k hk => ?_, fun j hj hne => ?_, kept.trans k1 k2⟩
    · rw [v2 k hk, tO]
      unfold tlv
      rw [if_neg (by omega), show ((q : Int)).toNat = q from rfl]
      congr 1
      unfold tsum
      refine sm_congr fun i hi => sm_congr fun a ha => ?_
      unfold tm
      by_cases c : a ≤ k ∧ k - a ≤ topf (decide (0 ≤ m)) (n - i)
      · have : topf (decide (0 ≤ m)) (n - i) ≤ n - i := topf_le
        rw [if_pos c, if_pos c]
        dsimp only
        rw [u1 _ (pl_lt2 (N := 24) (by omega) (by omega) (by omega) (by decide)), if_neg]
        unfold pl; omega
      · rw [if_neg c, if_neg c]
    · rw [o2 j hj hne, u1 j hj, if_neg]
      intro c
      obtain ⟨k, c1, c2⟩ := (rng j).mp c
      exact hne k c1 c2
