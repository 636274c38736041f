/-! the class's census 48: classes of things come into bags -/
theorem ac48_35 {S : St} {M : Int → Int} {r p s : Nat} {a : Int} (h : WF M) (hG : GM S M) (hp2 : (p : Int) < M 2) (hr : r ≤ HH) (hs : 1 ≤ s ∧ s ≤ 7) (hW : nb S 53 8 HH) : wp (mX0_addClasses_48_35 (r : Int) a (p : Int) (s : Int) FU 1 S) (fun S' => nb S' 53 8 HH ∧ (∀ i : Nat, 1 ≤ i → i ≤ 7 → i * s ≤ (M 1).toNat → ev (tb S' 53 i) (ch (M (24 + (p : Int)) == 5) r i)) ∧ kept [53] [] S S') := by
  have hM2 := h.2.2.1
  have hM1 := h.2.1
  have g0 := hG.1.1
  have g3 := (hG.2.1 p hp2).1
  have h1 := (h.2.2.2.1 p hp2).1
  have r' := HH_in hr
  refine loopW (fun f v s' => mX0_addClasses_48_35 (r : Int) a (p : Int) (s : Int) f v s') (fun i S' => 1 ≤ i ∧ nb S' 53 8 HH ∧ (∀ i' : Nat, 1 ≤ i' → i' < i → i' ≤ 7 → i' * s ≤ (M 1).toNat → ev (tb S' 53 i') (ch (M (24 + (p : Int)) == 5) r i')) ∧ kept [53] [] S S') _ 8 (fun i f s' hi hI hk => ?_) (fun f s' hI => ?_) 7 1 FU S (by omega) (by unfold FU; omega) ⟨by omega, hW, fun i' a b => by omega, kept.rf⟩
  · obtain ⟨i1, n1, v1, k1⟩ := hI
    try dsimp only at hk ⊢
    have e2 : s' 2 0 = M 1 := by rw [k1.cell 2 (by decide) (by decide)]; exact g0
    have e3 : s' 3 (p : Int) = M (24 + (p : Int)) := by rw [k1.cell 3 (by decide) (by decide)]; exact g3
    have pi : (i : Int) * (s : Int) = ((i * s : Nat) : Int) := by rw [Int.natCast_mul]
    have s49 : i * s ≤ 49 := Nat.le_trans (Nat.mul_le_mul (show i ≤ 7 by omega) hs.2) (by decide)
    rw [mX0_addClasses_48_35, gd_t (by omega), if_neg (by omega), e2, pi, gd_t (by omega)]
    by_cases c1 : M 1 < ((i * s : Nat) : Int)
    · rw [if_pos c1, wp_some]
      refine ⟨n1, fun i' a b c => ?_, k1⟩
      by_cases d : i' < i
      · exact v1 i' a d b c
      · have : i * s ≤ i' * s := Nat.mul_le_mul_right s (by omega)
        omega
    · rw [if_neg c1, gd_t (by omega), e3, gd_t (by omega)]
      have fin : ∀ (o : Int), (o = 0 ∨ o = 1) → (o == 1) = (M (24 + (p : Int)) == 5) → wp (bd1 (mX11_picks (r : Int) (i : Int) o) fun r_54 => gd (0 ≤ (i : Int) ∧ (i : Int) < 8) <| nx (up s' 53 (i : Int) r_54) fun S_56 => mX0_addClasses_48_35 (r : Int) a (p : Int) (s : Int) f ((i : Int) + 1) S_56) (fun S' => nb S' 53 8 HH ∧ (∀ i : Nat, 1 ≤ i → i ≤ 7 → i * s ≤ (M 1).toNat → ev (tb S' 53 i) (ch (M (24 + (p : Int)) == 5) r i)) ∧ kept [53] [] S S') := by
        intro o ho eo
        obtain ⟨P, p1, p2, p3, -⟩ := e_picks (x := r) (m := i) (o := o) r' (by omega) ho
        rw [bd1_e p1, gd_t (by omega), nx_e]
        refine hk _ ⟨by omega, nb_up n1 p2, fun i' a b c d => ?_, kept.upA k1 (by simp)⟩
        rw [tb_up]
        by_cases z : i' = i
        · rw [if_pos z, z, ← eo]; exact p3
        · rw [if_neg z]; exact v1 i' a (by omega) c d
      by_cases c5 : M (24 + (p : Int)) = 5
      · rw [if_pos c5]; exact fin 1 (Or.inr rfl) (by rw [c5]; rfl)
      · rw [if_neg c5]; exact fin 0 (Or.inl rfl) (by simp [c5])
  · obtain ⟨i1, n1, v1, k1⟩ := hI
    try dsimp only
    rw [mX0_addClasses_48_35, gd_t (by omega), if_pos (by omega), wp_some]
    exact ⟨n1, fun i' a b c => v1 i' a (by omega) b c, k1⟩
theorem ac48_103 {S : St} {M : Int → Int} {m : Int} {p s k : Nat} (h : WF M) (hG : GM S M) (hp2 : (p : Int) < M 2) (hsq : 3 ≤ M (24 + (p : Int)) ∧ M (24 + (p : Int)) ≤ 6) (hm : inI m) (h1 : S 48 1 = m) (hs : 1 ≤ s ∧ s ≤ 7) (hsm : (s : Int) ≤ M 1) (hkk : k ≤ 7) (hR : nb S 52 12288 HH) (hW : nb S 53 8 HH) : wp (mX0_addClasses_48_103 (k : Int) (p : Int) (s : Int) FU (M 1) S) (fun S' => nb S' 52 12288 HH ∧ (∀ n j q : Nat, s ≤ n → (n : Int) ≤ M 1 → 1 ≤ j → j ≤ min n (lgM M p) → q ≤ topf (decide (0 ≤ m)) n → tb S' 52 (p * 512 + pl j n q) = min HH (addC (w1 (tb S 53)) s k (tab (tb S 52) p) j n q)) ∧ (∀ x : Nat, x < 12288 → (∀ n j q : Nat, s ≤ n → (n : Int) ≤ M 1 → 1 ≤ j → j ≤ min n (lgM M p) → q ≤ topf (decide (0 ≤ m)) n → x ≠ p * 512 + pl j n q) → tb S' 52 x = tb S 52 x) ∧ kept [52] [] S S') := by
  have hM2 := h.2.2.1
  have hM1 := h.2.1
  have hl := lgM_le h hp2 hsq
  have hp : p < 24 := by omega
  refine loopD (fun f v s' => mX0_addClasses_48_103 (k : Int) (p : Int) (s : Int) f v s') (fun v S' => v ≤ M 1 ∧ nb S' 52 12288 HH ∧ (∀ n j q : Nat, s ≤ n → v < (n : Int) → (n : Int) ≤ M 1 → 1 ≤ j → j ≤ min n (lgM M p) → q ≤ topf (decide (0 ≤ m)) n → tb S' 52 (p * 512 + pl j n q) = min HH (addC (w1 (tb S 53)) s k (tab (tb S 52) p) j n q)) ∧ (∀ x : Nat, x < 12288 → (∀ n j q : Nat, s ≤ n → v < (n : Int) → (n : Int) ≤ M 1 → 1 ≤ j → j ≤ min n (lgM M p) → q ≤ topf (decide (0 ≤ m)) n → x ≠ p * 512 + pl j n q) → tb S' 52 x = tb S 52 x) ∧ kept [52] [] S S') _ (s : Int) (fun v f s' hv hI hk => ?_) (fun f s' hI => ?_) (M 1 - s + 1).toNat FU (M 1) S (by omega) (by unfold FU; omega) ⟨by omega, hR, fun n j q _ a b => by omega, fun _ _ _ => rfl, kept.rf⟩
  · obtain ⟨v0, n1, v1, o1, k1⟩ := hI
    try dsimp only at hk ⊢
    obtain ⟨n, rfl⟩ := Int.eq_ofNat_of_zero_le (show 0 ≤ v by omega)
    have t2 : topf (decide (0 ≤ m)) n ≤ n := topf_le
    have eC := (congrFun (k1.cell 48 (by decide) (by decide)) 1).trans h1
    have eW := k1.cell 53 (by decide) (by decide)
    have tW : tb s' 53 = tb S 53 := by funext j; unfold tb; rw [eW]
    have hG' : GM s' M := hG.of (fun i a b => k1.cell i (by simp; omega) (by simp))
    rw [mX0_addClasses_48_103, gd_t (by omega), if_neg (by omega), wp_bd1]
    refine wp_mono (w_addClass48 (S := s') (p := p) (n := n) (s := s) (k := k) h hG' hp2 hsq hm eC (by omega) hs.1 hs.2 hkk n1 (by intro i hi; rw [eW]; exact hW i hi)) (fun S2 q2 => ?_)
    obtain ⟨n2, v2, o2, k2⟩ := q2
    have old : ∀ j' n' q' : Nat, j' ≤ 7 → q' ≤ 7 → n' ≤ n → tab (tb s' 52) p j' n' q' = tab (tb S 52) p j' n' q' := fun j' n' q' a b d => by
      refine o1 _ (rb hp a (by omega) b) (fun n3 j3 q3 x0 x1 x2 x3 x4 x5 x6 => ?_)
      have t3 : topf (decide (0 ≤ m)) n3 ≤ n3 := topf_le
      have := pl_inj (Nat.add_left_cancel x6) (by omega) (by omega) (by omega) (by omega)
      omega
    refine hk S2 ⟨by omega, n2, fun n' j' q' a b c d e f' => ?_, fun x hx hne => ?_, kept.trans k1 k2⟩
    · have t3 : topf (decide (0 ≤ m)) n' ≤ n' := topf_le
      by_cases z : n' = n
      · subst z
        rw [v2 j' q' d e f', tW]
        congr 1
        exact addC_cg (old j' n' q' (by omega) (by omega) (Nat.le_refl _)) (fun i a1 a2 a3 a4 => old _ _ _ (by omega) (by omega) (by omega))
      · rw [o2 _ (rb hp (by omega) (by omega) (by omega)) (fun j3 q3 x1 x2 x3 x4 => z (by have := (pl_inj (Nat.add_left_cancel x4) (by omega) (by omega) (by omega) (by omega)).2.1; omega))]
        exact v1 n' j' q' a (by omega) c d e f'
    · rw [o2 x hx (fun j' q' a b c => hne n j' q' (by omega) (by omega) (by omega) a b c)]
      exact o1 x hx (fun n' j' q' a b => hne n' j' q' a (by omega))
  · obtain ⟨v0, n1, v1, o1, k1⟩ := hI
    try dsimp only
    rw [mX0_addClasses_48_103, gd_t (by omega), if_pos (by omega), wp_some]
    exact ⟨n1, fun n j q a => v1 n j q a (by omega), fun x hx hne => o1 x hx (fun n j q a _ => hne n j q a), k1⟩
theorem ac48_2 {S : St} {M : Int → Int} {m : Int} {p c s : Nat} (h : WF M) (hG : GM S M) (hp2 : (p : Int) < M 2) (hsq : 3 ≤ M (24 + (p : Int)) ∧ M (24 + (p : Int)) ≤ 6) (hc : M (72 + (p : Int)) = (c : Int)) (hm : inI m) (h1 : S 48 1 = m) (hs : 1 ≤ s ∧ s ≤ 7) (hsm : (s : Int) ≤ M 1) (hO : nb S 49 1536 HH) (hR : nb S 52 12288 HH) (hW : nb S 53 8 HH) (hz : rz (tb S 52)) (hB : bgOK (decide (0 ≤ m)) (M (24 + (p : Int)) == 5) (fun s i => tb S 49 (pl c s i)) (tb S 52) p (lgM M p) (M 1).toNat s 0) : wp (mX0_addClasses_48_2 (p : Int) (s : Int) FU 0 S) (fun S' => nb S' 52 12288 HH ∧ nb S' 53 8 HH ∧ rz (tb S' 52) ∧ bgOK (decide (0 ≤ m)) (M (24 + (p : Int)) == 5) (fun s i => tb S 49 (pl c s i)) (tb S' 52) p (lgM M p) (M 1).toNat s (topf (decide (0 ≤ m)) s + 1) ∧ (∀ x : Nat, x < 12288 → (x < p * 512 + 64 ∨ p * 512 + 512 ≤ x) → tb S' 52 x = tb S 52 x) ∧ kept [52, 53] [] S S') := by
  have hM2 := h.2.2.1
  have hM1 := h.2.1
  have hl := lgM_le h hp2 hsq
  have hp : p < 24 := by omega
  have h6 := (h.2.2.2.1 p hp2).2.2.2.2.2 hsq
  have ts : topf (decide (0 ≤ m)) s ≤ s := topf_le
  have e5 : S 5 (p : Int) = (c : Int) := by rw [← hc]; exact (hG.2.1 p hp2).2.2.2.2.1 hsq
  refine loopW (fun f v s' => mX0_addClasses_48_2 (p : Int) (s : Int) f v s') (fun i S' => nb S' 52 12288 HH ∧ nb S' 53 8 HH ∧ rz (tb S' 52) ∧ bgOK (decide (0 ≤ m)) (M (24 + (p : Int)) == 5) (fun s i => tb S 49 (pl c s i)) (tb S' 52) p (lgM M p) (M 1).toNat s i ∧ (∀ x : Nat, x < 12288 → (x < p * 512 + 64 ∨ p * 512 + 512 ≤ x) → tb S' 52 x = tb S 52 x) ∧ kept [52, 53] [] S S') _ (topf (decide (0 ≤ m)) s + 1) (fun i f s' hi hI hk => ?_) (fun f s' hI => ?_) (topf (decide (0 ≤ m)) s + 1) 0 FU S (by omega) (by unfold FU; omega) ⟨hR, hW, hz, hB, fun _ _ _ => rfl, kept.rf⟩
  · obtain ⟨n1, w1', z1, b1, o1, k1⟩ := hI
    try dsimp only at hk ⊢
    have eC := (congrFun (k1.cell 48 (by decide) (by decide)) 1).trans h1
    have eO := k1.cell 49 (by decide) (by decide)
    have tO : tb s' 49 = tb S 49 := by funext j; unfold tb; rw [eO]
    have f5 : s' 5 (p : Int) = (c : Int) := by rw [k1.cell 5 (by decide) (by decide)]; exact e5
    have hG' : GM s' M := hG.of (fun i a b => k1.cell i (by simp; omega) (by simp))
    obtain ⟨r1, r1'⟩ := e_rowsOf48 (S := s') (p := p) (c := c) (j := 1) (n := s) (k := i) hp (fun _ => ⟨f5, by omega⟩) (by omega) (by omega) (by omega) (by intro j hj; rw [eO]; exact hO j hj) n1
    rw [show rwv (tb s' 49) (tb s' 52) p c 1 s i = tb S 49 (pl c s i) by unfold rwv; rw [if_pos rfl, tO]] at r1 r1'
    have r1 : mX0_rowsOf_48 s' (p : Int) 1 (s : Int) (i : Int) = _ := r1
    have r2 := HH_in r1'
    rw [mX0_addClasses_48_2, gd_t (by omega), if_neg (by omega), bd1_e (e_ltop48 hm eC), gd_t (by omega), if_neg (by omega), bd1_e r1, gd_t (by omega)]
    by_cases z : tb S 49 (pl c s i) = 0
    · rw [if_pos (by omega)]
      refine hk s' ⟨n1, w1', z1, fun j n q a b d => ?_, o1, k1⟩
      rw [bgI_0 (c := fun s i => tb S 49 (pl c s i)) z]
      exact b1 j n q a b d
    · rw [if_neg (by omega), wp_bd1]
      refine wp_mono (ac48_35 (S := s') (a := (i : Int)) h hG' hp2 r1' hs w1') (fun S2 q2 => ?_)
      obtain ⟨n2, v2, k2⟩ := q2
      have k2' : kept [52, 53] [] S S2 := kept.trans k1 (k2.mono (by decide) (by decide))
      have hG2 : GM S2 M := hG.of (fun i a b => k2'.cell i (by simp; omega) (by simp))
      have eR := k2.cell 52 (by decide) (by decide)
      have tR : tb S2 52 = tb s' 52 := by funext j; unfold tb; rw [eR]
      rw [nx_e, hG2.1.1, wp_bd1]
      refine wp_mono (ac48_103 (S := S2) (p := p) (s := s) (k := i) h hG2 hp2 hsq hm ((congrFun (k2'.cell 48 (by decide) (by decide)) 1).trans h1) hs hsm (by omega) (by intro j hj; rw [eR]; exact n1 j hj) n2) (fun S3 q3 => ?_)
      obtain ⟨n3, v3, o3, k3⟩ := q3
      have eW3 := k3.cell 53 (by decide) (by decide)
      rw [tR] at v3 o3
      refine hk S3 ⟨n3, by intro j hj; rw [eW3]; exact n2 j hj, fun p' j n k a b d e => ?_, fun j n q a b d => ?_, fun x hx hne => ?_, kept.trans k2' (k3.mono (by decide) (by decide))⟩
      · rw [o3 _ (rb a b (by omega) e) (fun n' j' q' x1 x2 x3 x4 x5 x6 => ?_)]
        · exact z1 p' j n k a b d e
        · have t3 : topf (decide (0 ≤ m)) n' ≤ n' := topf_le
          have : pl j n k < 512 := Nat.lt_of_lt_of_le (pl_lt (N := 8) (by omega) (by omega) (by omega)) (by decide)
          have : pl j' n' q' < 512 := Nat.lt_of_lt_of_le (pl_lt (N := 8) (by omega) (by omega) (by omega)) (by decide)
          have e : pl j n k = pl j' n' q' := by omega
          have := pl_inj e (by omega) (by omega) (by omega) (by omega)
          omega
      · have t3 : topf (decide (0 ≤ m)) n ≤ n := topf_le
        have nx := bg_next (W := tb S2 53) hp hl (by omega) hs.1 (by omega) b1 z1 v2 a b d
        by_cases x : s ≤ n ∧ 1 ≤ j ∧ j ≤ n
        · show ev (tb S3 52 (p * 512 + pl j n q)) _
          rw [v3 n j q x.1 (by omega) x.2.1 (by omega) d]
          exact ev_HH.tr nx
        · show ev (tb S3 52 (p * 512 + pl j n q)) _
          rw [o3 _ (rb hp (by omega) (by omega) (by omega)) (fun n' j' q' x1 x2 x3 x4 x5 x6 => by
            have t4 : topf (decide (0 ≤ m)) n' ≤ n' := topf_le
            have := pl_inj (Nat.add_left_cancel x6) (by omega) (by omega) (by omega) (by omega)
            omega)]
          by_cases y : n < j
          · have u1 := b1 j n q a b d
            have zz : ∀ i', bgI (M (24 + (p : Int)) == 5) (fun s i => tb S 49 (pl c s i)) s (bgS (M (24 + (p : Int)) == 5) (fun s i => tb S 49 (pl c s i)) (topf (decide (0 ≤ m))) (s - 1)) i' j n q = 0 := fun i' => bg_small hs.1 (bgS_small _) i' j n q y
            rw [zz] at u1 ⊢
            exact u1
          · rw [addC_id (T := tab (tb s' 52) p) (show w1 (tb S2 53) 0 = 1 from rfl) (fun m' h1 h2 => Or.inr (Or.inl (by
              have : 1 * s ≤ m' * s := Nat.mul_le_mul_right s h1
              omega)))] at nx
            exact nx
      · rw [o3 x hx (fun n' j' q' x1 x2 x3 x4 x5 x6 => ?_)]
        · exact o1 x hx hne
        · have t3 : topf (decide (0 ≤ m)) n' ≤ n' := topf_le
          have : pl j' n' q' < 512 := Nat.lt_of_lt_of_le (pl_lt (N := 8) (by omega) (by omega) (by omega)) (by decide)
          have : 64 ≤ pl j' n' q' := by unfold pl; omega
          omega
  · obtain ⟨n1, w1', z1, b1, o1, k1⟩ := hI
    have eC := (congrFun (k1.cell 48 (by decide) (by decide)) 1).trans h1
    try dsimp only
    rw [mX0_addClasses_48_2, gd_t (by omega), if_neg (by omega), bd1_e (e_ltop48 hm eC), gd_t (by omega), if_pos (by omega), wp_some]
    exact ⟨n1, w1', z1, b1, o1, k1⟩
/-! the class's census 40: classes of things come into bags -/
theorem ac40_35 {S : St} {M : Int → Int} {r p s : Nat} {a : Int} (h : WF M) (hG : GM S M) (hp2 : (p : Int) < M 2) (hr : r ≤ HH) (hs : 1 ≤ s ∧ s ≤ 7) (hW : nb S 45 8 HH) : wp (mX0_addClasses_40_35 (r : Int) a (p : Int) (s : Int) FU 1 S) (fun S' => nb S' 45 8 HH ∧ (∀ i : Nat, 1 ≤ i → i ≤ 7 → i * s ≤ (M 1).toNat → ev (tb S' 45 i) (ch (M (24 + (p : Int)) == 5) r i)) ∧ kept [45] [] S S') := by
  have hM2 := h.2.2.1
  have hM1 := h.2.1
  have g0 := hG.1.1
  have g3 := (hG.2.1 p hp2).1
  have h1 := (h.2.2.2.1 p hp2).1
  have r' := HH_in hr
  refine loopW (fun f v s' => mX0_addClasses_40_35 (r : Int) a (p : Int) (s : Int) f v s') (fun i S' => 1 ≤ i ∧ nb S' 45 8 HH ∧ (∀ i' : Nat, 1 ≤ i' → i' < i → i' ≤ 7 → i' * s ≤ (M 1).toNat → ev (tb S' 45 i') (ch (M (24 + (p : Int)) == 5) r i')) ∧ kept [45] [] S S') _ 8 (fun i f s' hi hI hk => ?_) (fun f s' hI => ?_) 7 1 FU S (by omega) (by unfold FU; omega) ⟨by omega, hW, fun i' a b => by omega, kept.rf⟩
  · obtain ⟨i1, n1, v1, k1⟩ := hI
    try dsimp only at hk ⊢
    have e2 : s' 2 0 = M 1 := by rw [k1.cell 2 (by decide) (by decide)]; exact g0
    have e3 : s' 3 (p : Int) = M (24 + (p : Int)) := by rw [k1.cell 3 (by decide) (by decide)]; exact g3
    have pi : (i : Int) * (s : Int) = ((i * s : Nat) : Int) := by rw [Int.natCast_mul]
    have s49 : i * s ≤ 49 := Nat.le_trans (Nat.mul_le_mul (show i ≤ 7 by omega) hs.2) (by decide)
    rw [mX0_addClasses_40_35, gd_t (by omega), if_neg (by omega), e2, pi, gd_t (by omega)]
    by_cases c1 : M 1 < ((i * s : Nat) : Int)
    · rw [if_pos c1, wp_some]
      refine ⟨n1, fun i' a b c => ?_, k1⟩
      by_cases d : i' < i
      · exact v1 i' a d b c
      · have : i * s ≤ i' * s := Nat.mul_le_mul_right s (by omega)
        omega
    · rw [if_neg c1, gd_t (by omega), e3, gd_t (by omega)]
      have fin : ∀ (o : Int), (o = 0 ∨ o = 1) → (o == 1) = (M (24 + (p : Int)) == 5) → wp (bd1 (mX11_picks (r : Int) (i : Int) o) fun r_54 => gd (0 ≤ (i : Int) ∧ (i : Int) < 8) <| nx (up s' 45 (i : Int) r_54) fun S_56 => mX0_addClasses_40_35 (r : Int) a (p : Int) (s : Int) f ((i : Int) + 1) S_56) (fun S' => nb S' 45 8 HH ∧ (∀ i : Nat, 1 ≤ i → i ≤ 7 → i * s ≤ (M 1).toNat → ev (tb S' 45 i) (ch (M (24 + (p : Int)) == 5) r i)) ∧ kept [45] [] S S') := by
        intro o ho eo
        obtain ⟨P, p1, p2, p3, -⟩ := e_picks (x := r) (m := i) (o := o) r' (by omega) ho
        rw [bd1_e p1, gd_t (by omega), nx_e]
        refine hk _ ⟨by omega, nb_up n1 p2, fun i' a b c d => ?_, kept.upA k1 (by simp)⟩
        rw [tb_up]
        by_cases z : i' = i
        · rw [if_pos z, z, ← eo]; exact p3
        · rw [if_neg z]; exact v1 i' a (by omega) c d
      by_cases c5 : M (24 + (p : Int)) = 5
      · rw [if_pos c5]; exact fin 1 (Or.inr rfl) (by rw [c5]; rfl)
      · rw [if_neg c5]; exact fin 0 (Or.inl rfl) (by simp [c5])
  · obtain ⟨i1, n1, v1, k1⟩ := hI
    try dsimp only
    rw [mX0_addClasses_40_35, gd_t (by omega), if_pos (by omega), wp_some]
    exact ⟨n1, fun i' a b c => v1 i' a (by omega) b c, k1⟩
theorem ac40_103 {S : St} {M : Int → Int} {m : Int} {p s k : Nat} (h : WF M) (hG : GM S M) (hp2 : (p : Int) < M 2) (hsq : 3 ≤ M (24 + (p : Int)) ∧ M (24 + (p : Int)) ≤ 6) (hm : inI m) (h1 : S 40 1 = m) (hs : 1 ≤ s ∧ s ≤ 7) (hsm : (s : Int) ≤ M 1) (hkk : k ≤ 7) (hR : nb S 44 12288 HH) (hW : nb S 45 8 HH) : wp (mX0_addClasses_40_103 (k : Int) (p : Int) (s : Int) FU (M 1) S) (fun S' => nb S' 44 12288 HH ∧ (∀ n j q : Nat, s ≤ n → (n : Int) ≤ M 1 → 1 ≤ j → j ≤ min n (lgM M p) → q ≤ topf (decide (0 ≤ m)) n → tb S' 44 (p * 512 + pl j n q) = min HH (addC (w1 (tb S 45)) s k (tab (tb S 44) p) j n q)) ∧ (∀ x : Nat, x < 12288 → (∀ n j q : Nat, s ≤ n → (n : Int) ≤ M 1 → 1 ≤ j → j ≤ min n (lgM M p) → q ≤ topf (decide (0 ≤ m)) n → x ≠ p * 512 + pl j n q) → tb S' 44 x = tb S 44 x) ∧ kept [44] [] S S') := by
  have hM2 := h.2.2.1
  have hM1 := h.2.1
  have hl := lgM_le h hp2 hsq
  have hp : p < 24 := by omega
  refine loopD (fun f v s' => mX0_addClasses_40_103 (k : Int) (p : Int) (s : Int) f v s') (fun v S' => v ≤ M 1 ∧ nb S' 44 12288 HH ∧ (∀ n j q : Nat, s ≤ n → v < (n : Int) → (n : Int) ≤ M 1 → 1 ≤ j → j ≤ min n (lgM M p) → q ≤ topf (decide (0 ≤ m)) n → tb S' 44 (p * 512 + pl j n q) = min HH (addC (w1 (tb S 45)) s k (tab (tb S 44) p) j n q)) ∧ (∀ x : Nat, x < 12288 → (∀ n j q : Nat, s ≤ n → v < (n : Int) → (n : Int) ≤ M 1 → 1 ≤ j → j ≤ min n (lgM M p) → q ≤ topf (decide (0 ≤ m)) n → x ≠ p * 512 + pl j n q) → tb S' 44 x = tb S 44 x) ∧ kept [44] [] S S') _ (s : Int) (fun v f s' hv hI hk => ?_) (fun f s' hI => ?_) (M 1 - s + 1).toNat FU (M 1) S (by omega) (by unfold FU; omega) ⟨by omega, hR, fun n j q _ a b => by omega, fun _ _ _ => rfl, kept.rf⟩
  · obtain ⟨v0, n1, v1, o1, k1⟩ := hI
    try dsimp only at hk ⊢
    obtain ⟨n, rfl⟩ := Int.eq_ofNat_of_zero_le (show 0 ≤ v by omega)
    have t2 : topf (decide (0 ≤ m)) n ≤ n := topf_le
    have eC := (congrFun (k1.cell 40 (by decide) (by decide)) 1).trans h1
    have eW := k1.cell 45 (by decide) (by decide)
    have tW : tb s' 45 = tb S 45 := by funext j; unfold tb; rw [eW]
    have hG' : GM s' M := hG.of (fun i a b => k1.cell i (by simp; omega) (by simp))
    rw [mX0_addClasses_40_103, gd_t (by omega), if_neg (by omega), wp_bd1]
    refine wp_mono (w_addClass40 (S := s') (p := p) (n := n) (s := s) (k := k) h hG' hp2 hsq hm eC (by omega) hs.1 hs.2 hkk n1 (by intro i hi; rw [eW]; exact hW i hi)) (fun S2 q2 => ?_)
    obtain ⟨n2, v2, o2, k2⟩ := q2
    have old : ∀ j' n' q' : Nat, j' ≤ 7 → q' ≤ 7 → n' ≤ n → tab (tb s' 44) p j' n' q' = tab (tb S 44) p j' n' q' := fun j' n' q' a b d => by
      refine o1 _ (rb hp a (by omega) b) (fun n3 j3 q3 x0 x1 x2 x3 x4 x5 x6 => ?_)
      have t3 : topf (decide (0 ≤ m)) n3 ≤ n3 := topf_le
      have := pl_inj (Nat.add_left_cancel x6) (by omega) (by omega) (by omega) (by omega)
      omega
    refine hk S2 ⟨by omega, n2, fun n' j' q' a b c d e f' => ?_, fun x hx hne => ?_, kept.trans k1 k2⟩
    · have t3 : topf (decide (0 ≤ m)) n' ≤ n' := topf_le
      by_cases z : n' = n
      · subst z
        rw [v2 j' q' d e f', tW]
        congr 1
        exact addC_cg (old j' n' q' (by omega) (by omega) (Nat.le_refl _)) (fun i a1 a2 a3 a4 => old _ _ _ (by omega) (by omega) (by omega))
      · rw [o2 _ (rb hp (by omega) (by omega) (by omega)) (fun j3 q3 x1 x2 x3 x4 => z (by have := (pl_inj (Nat.add_left_cancel x4) (by omega) (by omega) (by omega) (by omega)).2.1; omega))]
        exact v1 n' j' q' a (by omega) c d e f'
    · rw [o2 x hx (fun j' q' a b c => hne n j' q' (by omega) (by omega) (by omega) a b c)]
      exact o1 x hx (fun n' j' q' a b => hne n' j' q' a (by omega))
  · obtain ⟨v0, n1, v1, o1, k1⟩ := hI
    try dsimp only
    rw [mX0_addClasses_40_103, gd_t (by omega), if_pos (by omega), wp_some]
    exact ⟨n1, fun n j q a => v1 n j q a (by omega), fun x hx hne => o1 x hx (fun n j q a _ => hne n j q a), k1⟩
theorem ac40_2 {S : St} {M : Int → Int} {m : Int} {p c s : Nat} (h : WF M) (hG : GM S M) (hp2 : (p : Int) < M 2) (hsq : 3 ≤ M (24 + (p : Int)) ∧ M (24 + (p : Int)) ≤ 6) (hc : M (72 + (p : Int)) = (c : Int)) (hm : inI m) (h1 : S 40 1 = m) (hs : 1 ≤ s ∧ s ≤ 7) (hsm : (s : Int) ≤ M 1) (hO : nb S 41 1536 HH) (hR : nb S 44 12288 HH) (hW : nb S 45 8 HH) (hz : rz (tb S 44)) (hB : bgOK (decide (0 ≤ m)) (M (24 + (p : Int)) == 5) (fun s i => tb S 41 (pl c s i)) (tb S 44) p (lgM M p) (M 1).toNat s 0) : wp (mX0_addClasses_40_2 (p : Int) (s : Int) FU 0 S) (fun S' => nb S' 44 12288 HH ∧ nb S' 45 8 HH ∧ rz (tb S' 44) ∧ bgOK (decide (0 ≤ m)) (M (24 + (p : Int)) == 5) (fun s i => tb S 41 (pl c s i)) (tb S' 44) p (lgM M p) (M 1).toNat s (topf (decide (0 ≤ m)) s + 1) ∧ (∀ x : Nat, x < 12288 → (x < p * 512 + 64 ∨ p * 512 + 512 ≤ x) → tb S' 44 x = tb S 44 x) ∧ kept [44, 45] [] S S') := by
  have hM2 := h.2.2.1
  have hM1 := h.2.1
  have hl := lgM_le h hp2 hsq
  have hp : p < 24 := by omega
  have h6 := (h.2.2.2.1 p hp2).2.2.2.2.2 hsq
  have ts : topf (decide (0 ≤ m)) s ≤ s := topf_le
  have e5 : S 5 (p : Int) = (c : Int) := by rw [← hc]; exact (hG.2.1 p hp2).2.2.2.2.1 hsq
  refine loopW (fun f v s' => mX0_addClasses_40_2 (p : Int) (s : Int) f v s') (fun i S' => nb S' 44 12288 HH ∧ nb S' 45 8 HH ∧ rz (tb S' 44) ∧ bgOK (decide (0 ≤ m)) (M (24 + (p : Int)) == 5) (fun s i => tb S 41 (pl c s i)) (tb S' 44) p (lgM M p) (M 1).toNat s i ∧ (∀ x : Nat, x < 12288 → (x < p * 512 + 64 ∨ p * 512 + 512 ≤ x) → tb S' 44 x = tb S 44 x) ∧ kept [44, 45] [] S S') _ (topf (decide (0 ≤ m)) s + 1) (fun i f s' hi hI hk => ?_) (fun f s' hI => ?_) (topf (decide (0 ≤ m)) s + 1) 0 FU S (by omega) (by unfold FU; omega) ⟨hR, hW, hz, hB, fun _ _ _ => rfl, kept.rf⟩
  · obtain ⟨n1, w1', z1, b1, o1, k1⟩ := hI
    try dsimp only at hk ⊢
    have eC := (congrFun (k1.cell 40 (by decide) (by decide)) 1).trans h1
    have eO := k1.cell 41 (by decide) (by decide)
    have tO : tb s' 41 = tb S 41 := by funext j; unfold tb; rw [eO]
    have f5 : s' 5 (p : Int) = (c : Int) := by rw [k1.cell 5 (by decide) (by decide)]; exact e5
    have hG' : GM s' M := hG.of (fun i a b => k1.cell i (by simp; omega) (by simp))
    obtain ⟨r1, r1'⟩ := e_rowsOf40 (S := s') (p := p) (c := c) (j := 1) (n := s) (k := i) hp (fun _ => ⟨f5, by omega⟩) (by omega) (by omega) (by omega) (by intro j hj; rw [eO]; exact hO j hj) n1
    rw [show rwv (tb s' 41) (tb s' 44) p c 1 s i = tb S 41 (pl c s i) by unfold rwv; rw [if_pos rfl, tO]] at r1 r1'
    have r1 : mX0_rowsOf_40 s' (p : Int) 1 (s : Int) (i : Int) = _ := r1
    have r2 := HH_in r1'
    rw [mX0_addClasses_40_2, gd_t (by omega), if_neg (by omega), bd1_e (e_ltop40 hm eC), gd_t (by omega), if_neg (by omega), bd1_e r1, gd_t (by omega)]
    by_cases z : tb S 41 (pl c s i) = 0
    · rw [if_pos (by omega)]
      refine hk s' ⟨n1, w1', z1, fun j n q a b d => ?_, o1, k1⟩
      rw [bgI_0 (c := fun s i => tb S 41 (pl c s i)) z]
      exact b1 j n q a b d
    · rw [if_neg (by omega), wp_bd1]
      refine wp_mono (ac40_35 (S := s') (a := (i : Int)) h hG' hp2 r1' hs w1') (fun S2 q2 => ?_)
      obtain ⟨n2, v2, k2⟩ := q2
      have k2' : kept [44, 45] [] S S2 := kept.trans k1 (k2.mono (by decide) (by decide))
      have hG2 : GM S2 M := hG.of (fun i a b => k2'.cell i (by simp; omega) (by simp))
      have eR := k2.cell 44 (by decide) (by decide)
      have tR : tb S2 44 = tb s' 44 := by funext j; unfold tb; rw [eR]
      rw [nx_e, hG2.1.1, wp_bd1]
      refine wp_mono (ac40_103 (S := S2) (p := p) (s := s) (k := i) h hG2 hp2 hsq hm ((congrFun (k2'.cell 40 (by decide) (by decide)) 1).trans h1) hs hsm (by omega) (by intro j hj; rw [eR]; exact n1 j hj) n2) (fun S3 q3 => ?_)
      obtain ⟨n3, v3, o3, k3⟩ := q3
      have eW3 := k3.cell 45 (by decide) (by decide)
      rw [tR] at v3 o3
      refine hk S3 ⟨n3, by intro j hj; rw [eW3]; exact n2 j hj, fun p' j n k a b d e => ?_, fun j n q a b d => ?_, fun x hx hne => ?_, kept.trans k2' (k3.mono (by decide) (by decide))⟩
      · rw [o3 _ (rb a b (by omega) e) (fun n' j' q' x1 x2 x3 x4 x5 x6 => ?_)]
        · exact z1 p' j n k a b d e
        · have t3 : topf (decide (0 ≤ m)) n' ≤ n' := topf_le
          have : pl j n k < 512 := Nat.lt_of_lt_of_le (pl_lt (N := 8) (by omega) (by omega) (by omega)) (by decide)
          have : pl j' n' q' < 512 := Nat.lt_of_lt_of_le (pl_lt (N := 8) (by omega) (by omega) (by omega)) (by decide)
          have e : pl j n k = pl j' n' q' := by omega
          have := pl_inj e (by omega) (by omega) (by omega) (by omega)
          omega
      · have t3 : topf (decide (0 ≤ m)) n ≤ n := topf_le
        have nx := bg_next (W := tb S2 45) hp hl (by omega) hs.1 (by omega) b1 z1 v2 a b d
        by_cases x : s ≤ n ∧ 1 ≤ j ∧ j ≤ n
        · show ev (tb S3 44 (p * 512 + pl j n q)) _
          rw [v3 n j q x.1 (by omega) x.2.1 (by omega) d]
          exact ev_HH.tr nx
        · show ev (tb S3 44 (p * 512 + pl j n q)) _
          rw [o3 _ (rb hp (by omega) (by omega) (by omega)) (fun n' j' q' x1 x2 x3 x4 x5 x6 => by
            have t4 : topf (decide (0 ≤ m)) n' ≤ n' := topf_le
            have := pl_inj (Nat.add_left_cancel x6) (by omega) (by omega) (by omega) (by omega)
            omega)]
          by_cases y : n < j
          · have u1 := b1 j n q a b d
            have zz : ∀ i', bgI (M (24 + (p : Int)) == 5) (fun s i => tb S 41 (pl c s i)) s (bgS (M (24 + (p : Int)) == 5) (fun s i => tb S 41 (pl c s i)) (topf (decide (0 ≤ m))) (s - 1)) i' j n q = 0 := fun i' => bg_small hs.1 (bgS_small _) i' j n q y
            rw [zz] at u1 ⊢
            exact u1
          · rw [addC_id (T := tab (tb s' 44) p) (show w1 (tb S2 45) 0 = 1 from rfl) (fun m' h1 h2 => Or.inr (Or.inl (by
              have : 1 * s ≤ m' * s := Nat.mul_le_mul_right s h1
              omega)))] at nx
            exact nx
      · rw [o3 x hx (fun n' j' q' x1 x2 x3 x4 x5 x6 => ?_)]
        · exact o1 x hx hne
        · have t3 : topf (decide (0 ≤ m)) n' ≤ n' := topf_le
          have : pl j' n' q' < 512 := Nat.lt_of_lt_of_le (pl_lt (N := 8) (by omega) (by omega) (by omega)) (by decide)
          have : 64 ≤ pl j' n' q' := by unfold pl; omega
          omega
  · obtain ⟨n1, w1', z1, b1, o1, k1⟩ := hI
    have eC := (congrFun (k1.cell 40 (by decide) (by decide)) 1).trans h1
    try dsimp only
    rw [mX0_addClasses_40_2, gd_t (by omega), if_neg (by omega), bd1_e (e_ltop40 hm eC), gd_t (by omega), if_pos (by omega), wp_some]
    exact ⟨n1, w1', z1, b1, o1, k1⟩
