-- the reference's counts: the tables set to zero, then size by size
theorem z90 (lett : Int) : ∀ (d i f : Nat) (S : St), i + d = 1920 → d < f → (∀ j : Nat, j < i → S 90 (j : Int) = 0) → wp (mX12_counts_2 lett f (i : Int) S) (fun S' => (∀ j : Nat, j < 1920 → S' 90 (j : Int) = 0) ∧ kept [90] [] S S') := by
  intro d
  induction d with
  | zero =>
    intro i f S hi hf h
    obtain ⟨g, rfl⟩ : ∃ g, f = g + 1 := ⟨f - 1, by omega⟩
    rw [mX12_counts_2, gd_t (by omega), if_pos (by omega), wp_some]
    exact ⟨fun j hj => h j (by omega), fun _ _ _ _ => rfl⟩
  | succ d ih =>
    intro i f S hi hf h
    obtain ⟨g, rfl⟩ : ∃ g, f = g + 1 := ⟨f - 1, by omega⟩
    rw [mX12_counts_2, gd_t (by omega), if_neg (by omega), gd_t (by omega), nx_e]
    have := ih (i + 1) g (up S 90 (i : Int) 0) (by omega) (by omega) (fun j hj => by
      by_cases e : j = i
      · subst e; exact up_eq
      · rw [up_nk (by omega)]; exact h j (by omega))
    rw [show ((i + 1 : Nat) : Int) = (i : Int) + 1 by omega] at this
    refine wp_mono this (fun S' q => ⟨q.1, fun r k a b => ?_⟩)
    rw [q.2 r k a b, up_n (by intro e; exact a (by simp [e]))]
theorem z91 (lett : Int) : ∀ (d i f : Nat) (S : St), i + d = 1536 → d < f → (∀ j : Nat, j < i → S 91 (j : Int) = 0) → wp (mX12_counts_26 lett f (i : Int) S) (fun S' => (∀ j : Nat, j < 1536 → S' 91 (j : Int) = 0) ∧ kept [91] [] S S') := by
  intro d
  induction d with
  | zero =>
    intro i f S hi hf h
    obtain ⟨g, rfl⟩ : ∃ g, f = g + 1 := ⟨f - 1, by omega⟩
    rw [mX12_counts_26, gd_t (by omega), if_pos (by omega), wp_some]
    exact ⟨fun j hj => h j (by omega), fun _ _ _ _ => rfl⟩
  | succ d ih =>
    intro i f S hi hf h
    obtain ⟨g, rfl⟩ : ∃ g, f = g + 1 := ⟨f - 1, by omega⟩
    rw [mX12_counts_26, gd_t (by omega), if_neg (by omega), gd_t (by omega), nx_e]
    have := ih (i + 1) g (up S 91 (i : Int) 0) (by omega) (by omega) (fun j hj => by
      by_cases e : j = i
      · subst e; exact up_eq
      · rw [up_nk (by omega)]; exact h j (by omega))
    rw [show ((i + 1 : Nat) : Int) = (i : Int) + 1 by omega] at this
    refine wp_mono this (fun S' q => ⟨q.1, fun r k a b => ?_⟩)
    rw [q.2 r k a b, up_n (by intro e; exact a (by simp [e]))]
/-- alike up to a size -/
def agL (n N : Nat) (Y Y' : Nat → Nat) : Prop := ∀ q s i : Nat, q < N → s ≤ n → i ≤ 7 → Y (pl q s i) = Y' (pl q s i)
/-- the equations at a size read no greater size -/
theorem eqP_lo {M : Int → Int} {lett : Int} {L : Bool} {n p : Nat} {Y Y' R R' : Nat → Nat} (h : WF M) (hp : (p : Int) < M 2) (hn : n ≤ 7) (hY : agL n 30 Y Y') (hR : agL n 24 R R') (e : eqP M lett L n Y R p) : eqP M lett L n Y' R' p := by
  have hM2 := h.2.2.1
  have hM0 := h.1
  have ht : topf L n ≤ 7 := Nat.le_trans topf_le hn
  obtain ⟨h1, h2, h3, h4, h5, h6⟩ := h.2.2.2.1 p hp
  intro k hk
  obtain ⟨e1, e2⟩ := e k hk
  refine ⟨?_, ?_⟩
  · rw [← hY p n k (by omega) (Nat.le_refl _) (by omega), e1]
    congr 1
    unfold pvT
    by_cases s0 : M (24 + (p : Int)) = 0
    · rw [if_pos s0, if_pos s0]
    rw [if_neg s0, if_neg s0]
    by_cases s1 : M (24 + (p : Int)) = 1
    · rw [if_pos s1, if_pos s1]
    rw [if_neg s1, if_neg s1]
    by_cases s2 : M (24 + (p : Int)) = 2
    · have := h4 s2
      rw [if_pos s2, if_pos s2]
      exact hY _ n k (by omega) (Nat.le_refl _) (by omega)
    rw [if_neg s2, if_neg s2]
    by_cases s7 : M (24 + (p : Int)) = 7
    · obtain ⟨q1, q2, q3⟩ := h5 s7
      rw [if_pos s7, if_pos s7]
      unfold xs
      refine sm_congr fun t ht => ?_
      have := q3.2.1 t (by omega)
      cases offM M (6 + p) t with
      | true => rfl
      | false =>
        simp only [Bool.false_eq_true, if_false]
        exact hR _ n k (by omega) (Nat.le_refl _) (by omega)
    rw [if_neg s7, if_neg s7]
    have h6' := h6 (by omega)
    have hc : ∀ s i, s ≤ n → i ≤ 7 → Y (pl (M (72 + (p : Int))).toNat s i) = Y' (pl (M (72 + (p : Int))).toNat s i) := fun s i a b => hY _ s i (by omega) a b
    refine inT_cg (fun _ j => ?_) (fun s i a1 a2 a3 => hc s i (by omega) (by omega))
    by_cases s3 : M (24 + (p : Int)) = 3
    · rw [if_pos s3, if_pos s3]
      exact tr_cg j n k (fun s i a1 a2 a3 => hc s i (by omega) (by omega))
    · rw [if_neg s3, if_neg s3, bgS_cg (c' := fun s i => Y' (pl (M (72 + (p : Int))).toNat s i)) (lt' := fun s => min s (topf L n)) n (fun t _ => rfl) (fun t i a1 a2 a3 => hc t i (by omega) (by omega))]
  · rw [← hR p n k (by omega) (Nat.le_refl _) (by omega), e2]
    congr 1
    unfold rs
    by_cases z : M (96 + (p : Int)) < 0
    · rw [if_pos z, if_pos z]; exact hY p n k (by omega) (Nat.le_refl _) (by omega)
    · rw [if_neg z, if_neg z]
      refine sm_congr fun s hs => sm_congr fun i hi => ?_
      rw [hY p s i (by omega) (by omega) (by omega), hR _ (n - s) (k - i) (by omega) (by omega) (by omega)]
theorem kv_cg {M : Int → Int} {R R' : Nat → Nat} {n e k : Nat} (h : WF M) (he : (e : Int) < M 0) (hk : k ≤ 7) (hR : agL n 24 R R') : kv M R n e k = kv M R' n e k := by
  have hM2 := h.2.2.1
  have hE := h.2.2.2.2.1 e he
  unfold kv xs
  congr 1
  refine sm_congr fun t ht => ?_
  have q4 := hE.2.1 t (by omega)
  cases offM M e t with
  | true => rfl
  | false =>
    simp only [Bool.false_eq_true, if_false]
    exact hR _ n k (by omega) (Nat.le_refl _) hk
/-- the state before the size n: what is below it is counted, the rest is 0 -/
def hd50 (M : Int → Int) (lett : Int) (L : Bool) (E TE : Nat → Prop) (n : Nat) (S : St) : Prop := S 84 = M ∧ nb S 90 1920 1000000000000 ∧ nb S 91 1536 1000000000000 ∧ thin L (tb S 90) ∧ thinR L (tb S 91) ∧ (n ≠ 0 → sup M E TE (tb S 90) (tb S 91)) ∧ (∀ q s i : Nat, q < 30 → n ≤ s → s ≤ 7 → i ≤ 7 → tb S 90 (pl q s i) = 0) ∧ (∀ s p : Nat, s < n → (p : Int) < M 2 → eqP M lett L s (tb S 90) (tb S 91) p) ∧ (∀ s e k : Nat, s < n → (e : Int) < M 0 → k ≤ topf L s → tb S 90 (pl (24 + e) s k) = kv M (tb S 91) s e k)
theorem w50 {M : Int → Int} {lett : Int} {L : Bool} {E TE KE : Nat → Prop} {rO rT rK : Nat → Nat} (h : WF M) (hO : Ord M E TE KE rO rT rK) (hl : inI lett) (hL : L = decide (0 ≤ lett)) : ∀ (d n f : Nat) (S : St), n + d = 8 → d < f → hd50 M lett L E TE n S → wp (mX12_counts_50 lett f (n : Int) S) (fun S' => hd50 M lett L E TE 8 S' ∧ kept [90, 91, 92] [] S S') := by
  have hM0 := h.1
  intro d
  induction d with
  | zero =>
    intro n f S hi hf hS
    obtain ⟨g, rfl⟩ : ∃ g, f = g + 1 := ⟨f - 1, by omega⟩
    rw [mX12_counts_50, gd_t (by omega), if_pos (by omega), wp_some]
    rw [show n = 8 by omega] at hS
    exact ⟨hS, fun _ _ _ _ => rfl⟩
  | succ d ih =>
    intro n f S hi hf hS
    obtain ⟨g, rfl⟩ : ∃ g, f = g + 1 := ⟨f - 1, by omega⟩
    rw [mX12_counts_50, gd_t (by omega), if_neg (by omega), wp_bd1]
    obtain ⟨h84, n90, n91, th, thR, sp, zz, eqs, kin⟩ := hS
    refine wp_mono (w58 (BY := tb S 90) (BR := tb S 91) h hO (by omega) hl hL sp 7 0 FU S (by omega) (by unfold FU; omega) ⟨h84, n90, n91, th, thR, fun _ _ _ _ _ _ _ => rfl, fun _ _ _ _ _ _ _ => rfl, fun z e a b => ?_, Or.inl rfl⟩) (fun S1 q => ?_)
    · subst z
      exact absurd (zz (24 + e) 0 0 (by omega) (by omega) (by omega) (by omega)) b
    · obtain ⟨m90, m91, k1, d1, d2, d3, d4, d5, d6, d7⟩ := q
      have aY : ∀ s, s < n → agL s 30 (tb S 90) (tb S1 90) := fun s hs q s' i a b c => (d4 q s' i a (by omega) (by omega) c).symm
      have aR : ∀ s, s < n → agL s 24 (tb S 91) (tb S1 91) := fun s hs q s' i a b c => (d5 q s' i a (by omega) (by omega) c).symm
      have := ih (n + 1) g S1 (by omega) (by omega) ⟨(k1.cell 84 (by decide) (by decide)).trans h84, m90, m91, d2, d3, fun _ => d1, fun q s i a b c e => by rw [d4 q s i a c (by omega) e]; exact zz q s i a (by omega) c e, fun s p a b => ?_, fun s e k a b c => ?_⟩
      · rw [show ((n + 1 : Nat) : Int) = (n : Int) + 1 by omega] at this
        exact wp_mono this (fun S' q => ⟨q.1, kept.trans k1 q.2⟩)
      · by_cases x : s = n
        · subst x; exact d6 p b
        · exact eqP_lo h b (by omega) (aY s (by omega)) (aR s (by omega)) (eqs s p (by omega) b)
      · by_cases x : s = n
        · subst x; exact d7 e k b c
        · have ht : topf L s ≤ s := topf_le
          rw [← aY s (by omega) (24 + e) s k (by omega) (Nat.le_refl _) (by omega), kin s e k (by omega) b c]
          exact kv_cg h b (by omega) (aR s (by omega))
/-- counts: the tables satisfy the equations at every size -/
theorem w_counts {M : Int → Int} {lett : Int} {L : Bool} {E TE KE : Nat → Prop} {rO rT rK : Nat → Nat} {S : St} (h : WF M) (hO : Ord M E TE KE rO rT rK) (hl : inI lett) (hL : L = decide (0 ≤ lett)) (h84 : S 84 = M) : wp (mX12_counts S lett) (fun S' => hd50 M lett L E TE 8 S' ∧ kept [90, 91, 92] [] S S') := by
  unfold mX12_counts
  rw [wp_bd1]
  refine wp_mono (z90 lett 1920 0 FU S (by omega) (by unfold FU; omega) (fun j hj => by omega)) (fun S1 q1 => ?_)
  rw [wp_bd1]
  refine wp_mono (z91 lett 1536 0 FU S1 (by omega) (by unfold FU; omega) (fun j hj => by omega)) (fun S2 q2 => ?_)
  rw [wp_bd1]
  have k2 : kept [90, 91, 92] [] S S2 := kept.trans (q1.2.mono (by decide) (by decide)) (q2.2.mono (by decide) (by decide))
  have c90 : S2 90 = S1 90 := q2.2.cell 90 (by decide) (by decide)
  have z0 : ∀ j : Nat, j < 1920 → tb S2 90 j = 0 := fun j hj => by unfold tb; rw [c90, q1.1 j hj]; rfl
  have z1 : ∀ j : Nat, j < 1536 → tb S2 91 j = 0 := fun j hj => by unfold tb; rw [q2.1 j hj]; rfl
  refine wp_mono (w50 h hO hl hL 8 0 FU S2 (by omega) (by unfold FU; omega) ⟨(k2.cell 84 (by decide) (by decide)).trans h84, fun j hj => ⟨0, by rw [c90, q1.1 j hj]; rfl, by omega⟩, fun j hj => ⟨0, by rw [q2.1 j hj]; rfl, by omega⟩, fun q s i a b c d => z0 _ (pl_lt2 a b d (by decide)), fun q s i a b c d => z1 _ (pl_lt2 a b d (by decide)), fun e => absurd rfl e, fun q s i a b c d => z0 _ (pl_lt2 a c d (by decide)), fun s p a => by omega, fun s e k a => by omega⟩) (fun S3 q3 => ?_)
  rw [wp_some]
  exact ⟨q3.1, kept.trans k2 q3.2⟩
