/-! a part's step -/
def nbG (C : Nat) (S : St) : Prop := C = 40 → nb S 46 12288 HH
def frG (C : Nat) (S S' : St) (p : Nat) : Prop := C = 40 → ∀ x : Nat, x < 12288 → (x < p * 512 ∨ p * 512 + 512 ≤ x) → tb S' 46 x = tb S 46 x
/-- the stages of a bag, a set, plain -/
def stP (C : Nat) (m : Int) (M : Int → Int) (c : Nat → Nat → Nat) (G : Nat → Nat) (p n : Nat) : Prop := C = 40 → m = -1 → (M (24 + (p : Int)) = 4 ∨ M (24 + (p : Int)) = 5) → M (48 + (p : Int)) ≠ 1 → ∀ s j t : Nat, s ≤ szM M p n → j ≤ lgM M p → t ≤ (M 1).toNat → ev (G (p * 512 + pl s j t)) (if M (48 + (p : Int)) = 0 ∧ j = 0 then sm (lgM M p + 1) (fun j => bgS (M (24 + (p : Int)) == 5) c (topf (decide (0 ≤ m))) s j t 0) else bgS (M (24 + (p : Int)) == 5) c (topf (decide (0 ≤ m))) s j t 0)
theorem szM_le {M : Int → Int} {p n : Nat} : szM M p n ≤ n := by unfold szM; split <;> omega
theorem stP_next {C : Nat} {m : Int} {M : Int → Int} {c : Nat → Nat → Nat} {R G G' : Nat → Nat} {p n : Nat} (hn : n ≤ 7) (hM1 : 0 ≤ M 1 ∧ M 1 ≤ 7) (hlg : lgM M p ≤ 7) (hp : p < 24) (h0 : 1 ≤ n → stP C m M c G p (n - 1)) (hQ : M (48 + (p : Int)) ≠ 1 → cls (decide (m = -2)) M p → ∀ j s q : Nat, j ≤ lgM M p → s ≤ (M 1).toNat → q ≤ topf (decide (0 ≤ m)) s → ev (tab R p j s q) (bgS (M (24 + (p : Int)) == 5) c (topf (decide (0 ≤ m))) (szM M p n) j s q)) (hs : C = 40 → m = -1 → stQ M R G' p (szM M p n)) (hf : C = 40 → ∀ x : Nat, x < 12288 → (∀ j n' : Nat, j ≤ 7 → n' ≤ 7 → x ≠ p * 512 + pl (szM M p n) j n') → G' x = G x) : stP C m M c G' p n := by
  intro hC hm h45 hnum s j t a b d
  have sl := szM_le (M := M) (p := p) (n := n)
  by_cases e : s = szM M p n
  · subst e
    have q := hQ hnum ⟨by simp [hm], h45⟩
    rw [hs hC hm j t b d]
    by_cases z : M (48 + (p : Int)) = 0 ∧ j = 0
    · rw [if_pos z, if_pos z]
      refine ev_HH.tr (sm_ev fun j' hj' => q j' t 0 (by omega) d (Nat.zero_le _))
    · rw [if_neg z, if_neg z]
      exact q j t 0 b d (Nat.zero_le _)
  · have s1 : 1 ≤ n := by omega
    rw [hf hC _ (rb hp (by omega) (by omega) (by omega)) (fun j' n' x1 x2 x3 => e (pl_inj (Nat.add_left_cancel x3) (by omega) (by omega) (by omega) (by omega)).1)]
    refine h0 s1 hC hm h45 hnum s j t ?_ b d
    unfold szM at a e ⊢
    by_cases y : M (48 + (p : Int)) = 0
    · rw [if_pos y] at a e ⊢; omega
    · rw [if_neg y] at a e ⊢; omega
/-- what a part's step leaves -/
def pvC (L lab : Bool) (m : Int) (M : Int → Int) (O T K : Nat → Nat) (p n k : Nat) : Nat :=
  if M (24 + (p : Int)) = 0 then (if n = 1 then (if m = M (48 + (p : Int)) then (if k = 1 then 1 else 0) else (if k = 0 then 1 else 0)) else 0)
  else if M (24 + (p : Int)) = 1 then (if n = 0 then 1 else 0)
  else if M (24 + (p : Int)) = 2 then K (pl (M (48 + (p : Int))).toNat n k)
  else if M (24 + (p : Int)) = 7 then xs M (fun q => T (pl q n k)) (6 + p)
  else if n = 0 then (if M (48 + (p : Int)) = 0 ∧ M (24 + (p : Int)) ≠ 6 then 1 else 0)
  else if M (48 + (p : Int)) = 1 then O (pl (M (72 + (p : Int))).toNat n k)
  else sqv L lab M (fun s i => O (pl (M (72 + (p : Int))).toNat s i)) p n k
theorem clr_rz {m : Int} {M : Int → Int} {S S' : St} {X p : Nat} (hM1 : 0 ≤ M 1 ∧ M 1 ≤ 7) (h : rz (tb S X)) (hf : ∀ x : Nat, x < 12288 → (∀ j n k : Nat, j ≤ 7 → n ≤ (M 1).toNat → k ≤ topf (decide (0 ≤ m)) n → x ≠ p * 512 + pl j n k) → tb S' X x = tb S X x) : rz (tb S' X) := by
  intro p' j n k a b d e
  rw [hf _ (rb a b (by omega) e) (fun j' n' k' x1 x2 x3 x4 => ?_)]
  · exact h p' j n k a b d e
  · have t3 : topf (decide (0 ≤ m)) n' ≤ n' := topf_le
    have : pl j n k < 512 := Nat.lt_of_lt_of_le (pl_lt (N := 8) (by omega) (by omega) (by omega)) (by decide)
    have : pl j' n' k' < 512 := Nat.lt_of_lt_of_le (pl_lt (N := 8) (by omega) (by omega) (by omega)) (by decide)
    have e' : pl j n k = pl j' n' k' := by omega
    have := pl_inj e' (by omega) (by omega) (by omega) (by omega)
    omega
theorem w_keep48 {S : St} {M : Int → Int} {m : Int} {p s : Nat} (h : WF M) (hG : GM S M) (hp2 : (p : Int) < M 2) (hsq : 3 ≤ M (24 + (p : Int)) ∧ M (24 + (p : Int)) ≤ 6) (hs : s ≤ 7) (hm : inI m) (h1 : S 48 1 = m) (hR : nb S 52 12288 HH) (hg : nbG 48 S) : wp (mX0_keepStage_48 S (p : Int) (s : Int)) (fun S' => nbG 48 S' ∧ frG 48 S S' p ∧ (48 = 40 → m = -1 → stQ M (tb S 52) (tb S' 46) p s) ∧ (48 = 40 → ∀ x : Nat, x < 12288 → (∀ j n : Nat, j ≤ 7 → n ≤ 7 → x ≠ p * 512 + pl s j n) → tb S' 46 x = tb S 46 x) ∧ kept [46] [] S S') := by
  rw [w_keepStage48 hm h1, wp_some]
  exact ⟨fun e => absurd e (by decide), fun e => absurd e (by decide), fun e => absurd e (by decide), fun e => absurd e (by decide), kept.rf⟩
/-! the class's census 48: a sequence's step -/
theorem cs48_185 {S : St} {M : Int → Int} {m x3 : Int} {p c j n : Nat} (h : WF M) (hG : GM S M) (hp2 : (p : Int) < M 2) (hsq : 3 ≤ M (24 + (p : Int)) ∧ M (24 + (p : Int)) ≤ 6) (hc : M (72 + (p : Int)) = (c : Int)) (hm : inI m) (h1 : S 48 1 = m) (hnum : M (48 + (p : Int)) ≠ 1) (hj : 1 ≤ j ∧ j ≤ lgM M p) (hjz : M (48 + (p : Int)) = 0 ∨ 2 ≤ j) (hn : 1 ≤ n ∧ (n : Int) ≤ M 1) (hO : nb S 49 1536 HH) (hR : nb S 52 12288 HH) (hQ : seqOK (decide (0 ≤ m)) (decide (m = -2)) M (fun s i => tb S 49 (pl c s i)) (tb S 52) p n) : wp (mX0_countSequence_48_185 (j : Int) x3 ((pl p n 0 : Nat) : Int) (p : Int) (n : Int) FU 0 S) (fun S' => nb S' 49 1536 HH ∧ (∀ k : Nat, k ≤ topf (decide (0 ≤ m)) n → ev (tb S' 49 (pl p n k)) (tb S 49 (pl p n k) + sq1 (decide (0 ≤ m)) (decide (m = -2)) M (fun s i => tb S 49 (pl c s i)) p j n k)) ∧ (∀ x : Nat, x < 1536 → (∀ k : Nat, k ≤ topf (decide (0 ≤ m)) n → x ≠ pl p n k) → tb S' 49 x = tb S 49 x) ∧ kept [49] [] S S') := by
  have hM2 := h.2.2.1
  have hM1 := h.2.1
  have h6 := (h.2.2.2.1 p hp2).2.2.2.2.2 hsq
  have tn : topf (decide (0 ≤ m)) n ≤ n := topf_le
  refine loopW (fun f v s => mX0_countSequence_48_185 (j : Int) x3 ((pl p n 0 : Nat) : Int) (p : Int) (n : Int) f v s) (fun K S' => nb S' 49 1536 HH ∧ (∀ k : Nat, k < K → k ≤ topf (decide (0 ≤ m)) n → ev (tb S' 49 (pl p n k)) (tb S 49 (pl p n k) + sq1 (decide (0 ≤ m)) (decide (m = -2)) M (fun s i => tb S 49 (pl c s i)) p j n k)) ∧ (∀ x : Nat, x < 1536 → (∀ k : Nat, k < K → k ≤ topf (decide (0 ≤ m)) n → x ≠ pl p n k) → tb S' 49 x = tb S 49 x) ∧ kept [49] [] S S') _ (topf (decide (0 ≤ m)) n + 1) (fun k f s hk hI hkk => ?_) (fun f s hI => ?_) (topf (decide (0 ≤ m)) n + 1) 0 FU S (by omega) (by unfold FU; omega) ⟨hO, fun k a => by omega, fun _ _ _ => rfl, kept.rf⟩
  · obtain ⟨n1, v1, o1, k1⟩ := hI
    try dsimp only at hkk ⊢
    have eC := (congrFun (k1.cell 48 (by decide) (by decide)) 1).trans h1
    have eR := k1.cell 52 (by decide) (by decide)
    have tR : tb s 52 = tb S 52 := by funext j; unfold tb; rw [eR]
    have hG' : GM s M := hG.of (fun i a b => k1.cell i (by simp; omega) (by simp))
    have ch : ∀ t i, t ≤ n → i ≤ topf (decide (0 ≤ m)) t → tb S 49 (pl c t i) = tb s 49 (pl c t i) := fun t i a b => by
      have tt : topf (decide (0 ≤ m)) t ≤ t := topf_le
      exact (o1 _ (pl_lt2 (N := 24) (by omega) (by omega) (by omega) (by decide)) (fun k' x1 x2 x3 => by have := (pl_inj x3 (by omega) (by omega) (by omega) (by omega)).1; omega)).symm
    obtain ⟨X, x1, x2, x4⟩ := w_seqOf48 (S := s) (j := j) (n := n) (k := k) h hG' hp2 hsq hc hm eC hnum hj hjz hn (by omega) n1 (by intro j hj; rw [eR]; exact hR j hj) (by rw [tR]; exact seqOK_cg (fun t i a b d => ch t i (by omega) d) hQ)
    rw [sq1_cg (c' := fun s i => tb S 49 (pl c s i)) (fun t i a b d => (ch t i b d).symm)] at x4
    have b := n1.at (pl_lt2 (N := 24) (B := 1536) (q := p) (s := n) (i := k) (by omega) (by omega) (by omega) (by decide))
    have bb : pl p n k < 1536 := pl_lt2 (N := 24) (by omega) (by omega) (by omega) (by decide)
    have u : tb s 49 (pl p n k) = tb S 49 (pl p n k) := o1 _ bb (fun k' x1 x2 x3 => by have := (pl_inj x3 (by omega) (by omega) (by omega) (by omega)).2.2; omega)
    rw [mX0_countSequence_48_185, bd1_e (e_ltop48 hm eC), gd_t (by omega), if_neg (by omega), show ((pl p n 0 : Nat) : Int) + (k : Int) = ((pl p n k : Nat) : Int) by unfold pl; omega, gd_t (by omega), bd1_e x1, b.1, bd1_e (e_plusH b.2 x2), nx_e]
    refine hkk _ ⟨nb_up n1 min_le', fun k' a d => ?_, fun x hx hne => ?_, kept.upA k1 (by simp)⟩
    · rw [tb_up]
      by_cases e : k' = k
      · subst e
        rw [if_pos rfl, u]
        exact ev_HH.tr (ev_add ev.rf x4)
      · rw [if_neg (fun x => e (pl_inj x (by omega) (by omega) (by omega) (by omega)).2.2)]
        exact v1 k' (by omega) d
    · rw [tb_up, if_neg (hne k (by omega) (by omega))]
      exact o1 x hx (fun k' a d => hne k' (by omega) d)
  · obtain ⟨n1, v1, o1, k1⟩ := hI
    have eC := (congrFun (k1.cell 48 (by decide) (by decide)) 1).trans h1
    try dsimp only
    rw [mX0_countSequence_48_185, bd1_e (e_ltop48 hm eC), gd_t (by omega), if_pos (by omega), wp_some]
    exact ⟨n1, fun k a => v1 k (by omega) a, fun x hx hne => o1 x hx (fun k a b => hne k b), k1⟩
theorem cs48_166 {S : St} {M : Int → Int} {m : Int} {p c n : Nat} (h : WF M) (hG : GM S M) (hp2 : (p : Int) < M 2) (hsq : 3 ≤ M (24 + (p : Int)) ∧ M (24 + (p : Int)) ≤ 6) (hc : M (72 + (p : Int)) = (c : Int)) (hm : inI m) (h1 : S 48 1 = m) (hnum : M (48 + (p : Int)) ≠ 1) (hn : 1 ≤ n ∧ (n : Int) ≤ M 1) (hO : nb S 49 1536 HH) (hR : nb S 52 12288 HH) (hQ : seqOK (decide (0 ≤ m)) (decide (m = -2)) M (fun s i => tb S 49 (pl c s i)) (tb S 52) p n) (h0 : ∀ k : Nat, k ≤ topf (decide (0 ≤ m)) n → tb S 49 (pl p n k) = 0) : wp (bd1 (if M (48 + (p : Int)) = 0 then (some 1) else (some (M (48 + (p : Int))))) fun z_16 => bd1 (mX0_countSequence_48_166 (M (48 + (p : Int))) ((pl p n 0 : Nat) : Int) (p : Int) (n : Int) FU z_16 S) fun S_21 => some (S_21)) (fun S' => nb S' 49 1536 HH ∧ (∀ k : Nat, k ≤ topf (decide (0 ≤ m)) n → ev (tb S' 49 (pl p n k)) (sqv (decide (0 ≤ m)) (decide (m = -2)) M (fun s i => tb S 49 (pl c s i)) p n k)) ∧ (∀ x : Nat, x < 1536 → (∀ k : Nat, k ≤ topf (decide (0 ≤ m)) n → x ≠ pl p n k) → tb S' 49 x = tb S 49 x) ∧ kept [49] [] S S') := by
  have hM2 := h.2.2.1
  have hM1 := h.2.1
  have hl := lgM_le h hp2 hsq
  have h6 := (h.2.2.2.1 p hp2).2.2.2.2.2 hsq
  have tn : topf (decide (0 ≤ m)) n ≤ n := topf_le
  by_cases z : M (48 + (p : Int)) = 0
  · have lz : lgM M p = (M 1).toNat := by unfold lgM; rw [if_pos z]
    rw [if_pos z, wp_bd1, wp_some, wp_bd1, z]
    refine wp_mono (loopW (fun f v s => mX0_countSequence_48_166 0 ((pl p n 0 : Nat) : Int) (p : Int) (n : Int) f v s) (fun J S' => 1 ≤ J ∧ nb S' 49 1536 HH ∧ (∀ k : Nat, k ≤ topf (decide (0 ≤ m)) n → ev (tb S' 49 (pl p n k)) (sm (J - 1) (fun j => sq1 (decide (0 ≤ m)) (decide (m = -2)) M (fun s i => tb S 49 (pl c s i)) p (j + 1) n k))) ∧ (∀ x : Nat, x < 1536 → (∀ k : Nat, k ≤ topf (decide (0 ≤ m)) n → x ≠ pl p n k) → tb S' 49 x = tb S 49 x) ∧ kept [49] [] S S') (fun S' => nb S' 49 1536 HH ∧ (∀ k : Nat, k ≤ topf (decide (0 ≤ m)) n → ev (tb S' 49 (pl p n k)) (sqv (decide (0 ≤ m)) (decide (m = -2)) M (fun s i => tb S 49 (pl c s i)) p n k)) ∧ (∀ x : Nat, x < 1536 → (∀ k : Nat, k ≤ topf (decide (0 ≤ m)) n → x ≠ pl p n k) → tb S' 49 x = tb S 49 x) ∧ kept [49] [] S S') (n + 1) (fun j f s hj hI hkk => ?_) (fun f s hI => ?_) n 1 FU S (by omega) (by unfold FU; omega) ⟨by omega, hO, fun k a => by rw [h0 k a]; exact ev.rf, fun _ _ _ => rfl, kept.rf⟩) (fun S' q => by rw [wp_some]; exact q)
    · obtain ⟨j1, n1, v1, o1, k1⟩ := hI
      try dsimp only at hkk ⊢
      have eC := (congrFun (k1.cell 48 (by decide) (by decide)) 1).trans h1
      have eR := k1.cell 52 (by decide) (by decide)
      have tR : tb s 52 = tb S 52 := by funext j; unfold tb; rw [eR]
      have hG' : GM s M := hG.of (fun i a b => k1.cell i (by simp; omega) (by simp))
      have ch : ∀ t i, t ≤ n → i ≤ topf (decide (0 ≤ m)) t → tb S 49 (pl c t i) = tb s 49 (pl c t i) := fun t i a b => by
        have tt : topf (decide (0 ≤ m)) t ≤ t := topf_le
        exact (o1 _ (pl_lt2 (N := 24) (by omega) (by omega) (by omega) (by decide)) (fun k' x1 x2 => by have := (pl_inj x2 (by omega) (by omega) (by omega) (by omega)).1; omega)).symm
      rw [mX0_countSequence_48_166, if_pos rfl, bd1_e rfl, gd_t (by omega), if_neg (by omega), wp_bd1]
      refine wp_mono (cs48_185 (S := s) (j := j) (n := n) (x3 := 0) h hG' hp2 hsq hc hm eC hnum (by omega) (Or.inl z) hn n1 (by intro j hj; rw [eR]; exact hR j hj) (by rw [tR]; exact seqOK_cg (fun t i a b d => ch t i (by omega) d) hQ)) (fun S2 q2 => ?_)
      obtain ⟨n2, v2, o2, k2⟩ := q2
      refine hkk S2 ⟨by omega, n2, fun k a => ?_, fun x hx hne => by rw [o2 x hx hne]; exact o1 x hx hne, kept.trans k1 k2⟩
      refine (v2 k a).tr ?_
      rw [sq1_cg (c' := fun s i => tb S 49 (pl c s i)) (fun t i a b d => (ch t i b d).symm)]
      obtain ⟨i, rfl⟩ : ∃ i, j = i + 1 := ⟨j - 1, by omega⟩
      rw [show i + 1 + 1 - 1 = i + 1 by omega, sm_s]
      exact ev_add (v1 k a) ev.rf
    · obtain ⟨j1, n1, v1, o1, k1⟩ := hI
      try dsimp only
      rw [mX0_countSequence_48_166, if_pos rfl, bd1_e rfl, gd_t (by omega), if_pos (by omega), wp_some]
      refine ⟨n1, fun k a => ?_, o1, k1⟩
      rw [sqv_sum hsq hn.1 z]
      exact v1 k a
  · obtain ⟨N, hN⟩ : ∃ N : Nat, M (48 + (p : Int)) = (N : Int) := ⟨(M (48 + (p : Int))).toNat, by omega⟩
    have lz : lgM M p = N := by unfold lgM; rw [if_neg z, hN]; rfl
    rw [if_neg z, wp_bd1, wp_some, wp_bd1]
    obtain ⟨g, hg⟩ : ∃ g, FU = g + 1 + 1 := ⟨1999998, rfl⟩
    rw [hg, mX0_countSequence_48_166, if_neg z, bd1_e rfl, gd_t (by omega), if_neg (by omega), wp_bd1, hN]
    refine wp_mono (cs48_185 (S := S) (j := N) (n := n) (x3 := (N : Int)) h hG hp2 hsq hc hm h1 hnum (by omega) (Or.inr (by omega)) hn hO hR hQ) (fun S2 q2 => ?_)
    obtain ⟨n2, v2, o2, k2⟩ := q2
    rw [mX0_countSequence_48_166, if_neg (by omega), bd1_e rfl, gd_t (by omega), if_pos (by omega), wp_some, wp_some]
    refine ⟨n2, fun k a => (v2 k a).tr ?_, o2, k2⟩
    rw [h0 k a, Nat.zero_add, sqv_one hsq (by omega), hN, show ((N : Int)).toNat = N from rfl]
    by_cases w : decide (m = -2) = true ∧ (n : Int) < (N : Int)
    · rw [if_pos w]
      unfold sq1
      rw [if_pos w.1, tl_small N n (by omega), Nat.zero_div]; exact ev.rf
    · rw [if_neg w]; exact ev.rf
theorem w_countSeq48 {S : St} {M : Int → Int} {m : Int} {p c n : Nat} (h : WF M) (hG : GM S M) (hp2 : (p : Int) < M 2) (hsq : 3 ≤ M (24 + (p : Int)) ∧ M (24 + (p : Int)) ≤ 6) (hc : M (72 + (p : Int)) = (c : Int)) (hm : inI m) (h1 : S 48 1 = m) (hn : (n : Int) ≤ M 1) (hO : nb S 49 1536 HH) (hR : nb S 52 12288 HH) (hW : nb S 53 8 HH) (hz : rz (tb S 52)) (hg : nbG 48 S) (hQ : 1 ≤ n → seqOK (decide (0 ≤ m)) (decide (m = -2)) M (fun s i => tb S 49 (pl c s i)) (tb S 52) p (n - 1)) (hS : 1 ≤ n → stP 48 m M (fun s i => tb S 49 (pl c s i)) (tb S 46) p (n - 1)) : wp (mX0_countSequence_48 S (p : Int) (n : Int)) (fun S' => (nb S' 49 1536 HH ∧ nb S' 52 12288 HH ∧ nb S' 53 8 HH ∧ rz (tb S' 52) ∧ nbG 48 S') ∧ (∀ k : Nat, k ≤ topf (decide (0 ≤ m)) n → ev (tb S' 49 (pl p n k)) (if n = 0 then (if M (48 + (p : Int)) = 0 ∧ M (24 + (p : Int)) ≠ 6 then 1 else 0) else if M (48 + (p : Int)) = 1 then tb S 49 (pl c n k) else sqv (decide (0 ≤ m)) (decide (m = -2)) M (fun s i => tb S 49 (pl c s i)) p n k)) ∧ (∀ x : Nat, x < 1536 → (∀ k : Nat, k ≤ topf (decide (0 ≤ m)) n → x ≠ pl p n k) → tb S' 49 x = tb S 49 x) ∧ seqOK (decide (0 ≤ m)) (decide (m = -2)) M (fun s i => tb S 49 (pl c s i)) (tb S' 52) p n ∧ stP 48 m M (fun s i => tb S 49 (pl c s i)) (tb S' 46) p n ∧ (∀ x : Nat, x < 12288 → (x < p * 512 ∨ p * 512 + 512 ≤ x) → tb S' 52 x = tb S 52 x) ∧ frG 48 S S' p) := by
  have hM2 := h.2.2.1
  have hM1 := h.2.1
  have hp : p < 24 := by omega
  have hl := lgM_le h hp2 hsq
  have h6 := (h.2.2.2.1 p hp2).2.2.2.2.2 hsq
  have tn : topf (decide (0 ≤ m)) n ≤ n := topf_le
  have g4 : S 4 (p : Int) = M (48 + (p : Int)) := (hG.2.1 p hp2).2.2.1 (by omega)
  have g3 : S 3 (p : Int) = M (24 + (p : Int)) := (hG.2.1 p hp2).1
  have e5 : S 5 (p : Int) = (c : Int) := by rw [← hc]; exact (hG.2.1 p hp2).2.2.2.2.1 hsq
  have bl : pl p n 0 + 7 < 1536 := by unfold pl; omega
  have p512 : ∀ j n k : Nat, j ≤ 7 → n ≤ 7 → k ≤ 7 → pl j n k < 512 := fun j n k a b d => Nat.lt_of_lt_of_le (pl_lt (N := 8) (by omega) (by omega) (by omega)) (by decide)
  unfold mX0_countSequence_48
  rw [nx_e, gd_t (by omega), nx_e, nx_e, g4, g3, wp_bd1, show (p : Int) * 64 + (n : Int) * 8 = ((pl p n 0 : Nat) : Int) by unfold pl; omega]
  refine wp_mono (w_clr48_49 (S := S) hm h1 (by omega) (by omega)) (fun S1 q1 => ?_)
  obtain ⟨v1, k1⟩ := q1
  have u1 : ∀ x : Nat, x < 1536 → tb S1 49 x = if pl p n 0 ≤ x ∧ x < pl p n 0 + (topf (decide (0 ≤ m)) n + 1) then 0 else tb S 49 x := fun x hx => by
    show (S1 49 (x : Int)).toNat = _
    rw [v1 x hx]; split <;> rfl
  have n1 : nb S1 49 1536 HH := fun x hx => by
    rw [v1 x hx]
    split
    · exact ⟨0, rfl, Nat.zero_le _⟩
    · exact hO x hx
  have z1 : ∀ k : Nat, k ≤ topf (decide (0 ≤ m)) n → tb S1 49 (pl p n k) = 0 := fun k a => by rw [u1 _ (by unfold pl at bl ⊢; omega), if_pos (by unfold pl; omega)]
  have o1 : ∀ x : Nat, x < 1536 → (∀ k : Nat, k ≤ topf (decide (0 ≤ m)) n → x ≠ pl p n k) → tb S1 49 x = tb S 49 x := fun x hx hne => by
    rw [u1 x hx, if_neg]
    rintro ⟨c1, c2⟩
    exact hne (x - pl p n 0) (by omega) (by unfold pl at c1 c2 ⊢; omega)
  have ch : ∀ t i, t ≤ 7 → i ≤ 7 → tb S1 49 (pl c t i) = tb S 49 (pl c t i) := fun t i a b => o1 _ (pl_lt2 (N := 24) (by omega) a b (by decide)) (fun k' x1 x2 => by have := (pl_inj x2 (by omega) (by omega) (by omega) (by omega)).1; omega)
  have eC1 := (congrFun (k1.cell 48 (by decide) (by decide)) 1).trans h1
  have eR1 := k1.cell 52 (by decide) (by decide)
  have tR1 : tb S1 52 = tb S 52 := by funext j; unfold tb; rw [eR1]
  have eW1 := k1.cell 53 (by decide) (by decide)
  have eG1 := k1.cell 46 (by decide) (by decide)
  have tG1 : tb S1 46 = tb S 46 := by funext j; unfold tb; rw [eG1]
  have hG1 : GM S1 M := hG.of (fun i a b => k1.cell i (by simp; omega) (by simp))
  have nR1 : nb S1 52 12288 HH := by intro j hj; rw [eR1]; exact hR j hj
  have nW1 : nb S1 53 8 HH := by intro j hj; rw [eW1]; exact hW j hj
  have ng1 : nbG 48 S1 := fun e j hj => by rw [eG1]; exact hg e j hj
  rw [gd_t (by omega)]
  by_cases n0 : n = 0
  · subst n0
    rw [if_pos (by omega), wp_bd1]
    refine wp_mono (w_clearRows48 (S := S1) h hG1 hp hm eC1 nR1) (fun S2 q2 => ?_)
    obtain ⟨n2, v2, o2, k2⟩ := q2
    have eC2 := (congrFun (k2.cell 48 (by decide) (by decide)) 1).trans eC1
    have hG2 : GM S2 M := hG1.of (fun i a b => k2.cell i (by simp; omega) (by simp))
    have eG2 := k2.cell 46 (by decide) (by decide)
    have tG2 : tb S2 46 = tb S 46 := by rw [← tG1]; funext j; unfold tb; rw [eG2]
    have ng2 : nbG 48 S2 := fun e j hj => by rw [eG2]; exact ng1 e j hj
    rw [wp_bd1]
    refine wp_mono (w_keep48 (S := S2) (s := 0) h hG2 hp2 hsq (by omega) hm eC2 n2 ng2) (fun S3 q3 => ?_)
    obtain ⟨ng3, fr3, st3, of3, k3⟩ := q3
    have eO3 : S3 49 = S1 49 := (k3.cell 49 (by decide) (by decide)).trans (k2.cell 49 (by decide) (by decide))
    have eR3 := k3.cell 52 (by decide) (by decide)
    have tR3 : tb S3 52 = tb S2 52 := by funext j; unfold tb; rw [eR3]
    have tO3 : tb S3 49 = tb S1 49 := by funext j; unfold tb; rw [eO3]
    have sq : seqOK (decide (0 ≤ m)) (decide (m = -2)) M (fun s i => tb S 49 (pl c s i)) (tb S2 52) p 0 := by
      refine ⟨fun s k a b => ?_, fun _ _ j s q a b d => ?_, fun _ _ => ⟨fun j s k a b d e => ?_, fun j s k a b d e f => ?_⟩⟩
      · rw [v2 0 s k (by omega) a b]
        by_cases w : s = 0 ∧ k = 0
        · rw [if_pos (by omega), if_pos w]
        · rw [if_neg (by omega), if_neg w]
      · rw [v2 j s q (by omega) b d, show szM M p 0 = 0 by unfold szM; split <;> rfl]
        exact ev.rf
      · rw [show tb S2 52 (p * 512 + pl j s k) = _ from v2 j s k (by omega) (by omega) e, if_neg (by omega), trw_small j s k (by omega), Nat.min_zero]
      · rw [v2 j s k (by omega) e f, if_neg (by omega)]
    have fin : ∀ v : Nat, v ≤ 1 → (v = if M (48 + (p : Int)) = 0 ∧ M (24 + (p : Int)) ≠ 6 then 1 else 0) → wp (gd (0 ≤ ((pl p 0 0 : Nat) : Int) ∧ ((pl p 0 0 : Nat) : Int) < 1536) <| nx (up S3 49 ((pl p 0 0 : Nat) : Int) (v : Int)) fun S_74 => some S_74) (fun S' => (nb S' 49 1536 HH ∧ nb S' 52 12288 HH ∧ nb S' 53 8 HH ∧ rz (tb S' 52) ∧ nbG 48 S') ∧ (∀ k : Nat, k ≤ topf (decide (0 ≤ m)) 0 → ev (tb S' 49 (pl p 0 k)) (if 0 = 0 then (if M (48 + (p : Int)) = 0 ∧ M (24 + (p : Int)) ≠ 6 then 1 else 0) else if M (48 + (p : Int)) = 1 then tb S 49 (pl c 0 k) else sqv (decide (0 ≤ m)) (decide (m = -2)) M (fun s i => tb S 49 (pl c s i)) p 0 k)) ∧ (∀ x : Nat, x < 1536 → (∀ k : Nat, k ≤ topf (decide (0 ≤ m)) 0 → x ≠ pl p 0 k) → tb S' 49 x = tb S 49 x) ∧ seqOK (decide (0 ≤ m)) (decide (m = -2)) M (fun s i => tb S 49 (pl c s i)) (tb S' 52) p 0 ∧ stP 48 m M (fun s i => tb S 49 (pl c s i)) (tb S' 46) p 0 ∧ (∀ x : Nat, x < 12288 → (x < p * 512 ∨ p * 512 + 512 ≤ x) → tb S' 52 x = tb S 52 x) ∧ frG 48 S S' p) := by
      intro v hv ve
      have tR4 : tb (up S3 49 ((pl p 0 0 : Nat) : Int) (v : Int)) 52 = tb S2 52 := by rw [← tR3]; funext j; unfold tb; rw [up_n (by decide)]
      have tG4 : tb (up S3 49 ((pl p 0 0 : Nat) : Int) (v : Int)) 46 = tb S3 46 := by funext j; unfold tb; rw [up_n (by decide)]
      have outR : ∀ x : Nat, x < 12288 → (x < p * 512 ∨ p * 512 + 512 ≤ x) → tb S2 52 x = tb S 52 x := fun x hx hne => by
        rw [o2 x hx (fun j n k a b d e => by
          have tt : topf (decide (0 ≤ m)) n ≤ n := topf_le
          have := p512 j n k a (by omega) (by omega)
          omega), tR1]
      rw [gd_t (by omega), nx_e, wp_some]
      refine ⟨⟨nb_up (by intro j hj; rw [eO3]; exact n1 j hj) (Nat.le_trans hv HH_pos), ?_, ?_, ?_, ?_⟩, fun k a => ?_, fun x hx hne => ?_, ?_, ?_, ?_, ?_⟩
      · intro j hj; rw [up_n (by decide), eR3]; exact n2 j hj
      · intro j hj; rw [up_n (by decide), k3.cell 53 (by decide) (by decide), k2.cell 53 (by decide) (by decide)]; exact nW1 j hj
      · rw [tR4]; exact clr_rz (m := m) (S := S1) hM1 (by rw [tR1]; exact hz) o2
      · intro e j hj; rw [up_n (by decide)]; exact ng3 e j hj
      · have k0 : k = 0 := by have : topf (decide (0 ≤ m)) 0 = 0 := topf_0; omega
        subst k0
        rw [tb_up, if_pos rfl, if_pos rfl, ve]; exact ev.rf
      · rw [tb_up, if_neg (hne 0 (Nat.zero_le _)), tO3]
        exact o1 x hx hne
      · rw [tR4]; exact sq
      · rw [tG4]
        refine stP_next (R := tb S2 52) (G := tb S2 46) (by omega) hM1 hl hp (fun e => by omega) sq.2.1 (by rw [show szM M p 0 = 0 by unfold szM; split <;> rfl]; exact st3) (by rw [show szM M p 0 = 0 by unfold szM; split <;> rfl]; exact of3)
      · intro x hx hne; rw [tR4]; exact outR x hx hne
      · intro e x hx hne
        rw [tG4, fr3 e x hx hne, tG2]
    rw [gd_t (by omega)]
    by_cases w0 : M (48 + (p : Int)) = 0
    · rw [if_pos w0, gd_t (by omega)]
      by_cases w6 : M (24 + (p : Int)) = 6
      · rw [if_pos w6]; exact fin 0 (by omega) (by rw [if_neg (by omega)])
      · rw [if_neg w6]; exact fin 1 (by omega) (by rw [if_pos ⟨w0, w6⟩])
    · rw [if_neg w0]; exact fin 0 (by omega) (by rw [if_neg (by omega)])
  · have hn1 : 1 ≤ n := by omega
    rw [if_neg (by omega), gd_t (by omega)]
    have e51 : S1 5 (p : Int) = (c : Int) := by rw [k1.cell 5 (by decide) (by decide)]; exact e5
    by_cases w1 : M (48 + (p : Int)) = 1
    · rw [if_pos w1, e51, wp_bd1, show (c : Int) * 64 + (n : Int) * 8 = ((pl c n 0 : Nat) : Int) by unfold pl; omega]
      refine wp_mono (w_cpy48_49_49 (S := S1) (src := pl c n 0) hm eC1 (by omega) (by unfold pl; omega) (by omega) (by unfold pl; omega)) (fun S2 q2 => ?_)
      obtain ⟨v2, k2⟩ := q2
      have tR2 : tb S2 52 = tb S 52 := by rw [← tR1]; funext j; unfold tb; rw [k2.cell 52 (by decide) (by decide)]
      have tG2 : tb S2 46 = tb S 46 := by rw [← tG1]; funext j; unfold tb; rw [k2.cell 46 (by decide) (by decide)]
      rw [wp_some]
      refine ⟨⟨fun x hx => ?_, ?_, ?_, by rw [tR2]; exact hz, ?_⟩, fun k a => ?_, fun x hx hne => ?_, ?_, ?_, fun x hx hne => by rw [tR2], fun e x hx hne => by rw [tG2]⟩
      · rw [v2 x hx]
        by_cases w : pl p n 0 ≤ x ∧ x < pl p n 0 + (topf (decide (0 ≤ m)) n + 1)
        · have b7 : pl c n 0 + 7 < 1536 := by unfold pl; omega
          rw [if_pos w]; exact n1 _ (by omega)
        · rw [if_neg w]; exact n1 x hx
      · intro j hj; rw [k2.cell 52 (by decide) (by decide)]; exact nR1 j hj
      · intro j hj; rw [k2.cell 53 (by decide) (by decide)]; exact nW1 j hj
      · intro e j hj; rw [k2.cell 46 (by decide) (by decide)]; exact ng1 e j hj
      · rw [if_neg n0, if_pos w1, ← ch n k (by omega) (by omega)]
        show ev (S2 49 ((pl p n k : Nat) : Int)).toNat _
        rw [v2 _ (by unfold pl at bl ⊢; omega), if_pos (by unfold pl; omega), show pl c n 0 + (pl p n k - pl p n 0) = pl c n k by unfold pl; omega]
        exact ev.rf
      · rw [← o1 x hx hne]
        show (S2 49 (x : Int)).toNat = _
        rw [v2 x hx, if_neg]
        · rfl
        · rintro ⟨c1, c2⟩
          exact hne (x - pl p n 0) (by omega) (by unfold pl at c1 c2 ⊢; omega)
      · rw [tR2]
        exact ⟨(hQ hn1).1, fun a => absurd w1 a, fun a => absurd w1 a⟩
      · intro _ _ _ a; exact absurd w1 a
    · rw [if_neg w1]
      obtain ⟨z, z1', z2, z3⟩ := e_inClasses48 h hG1 hp2 hm eC1
      rw [bd1_e z1', wp_bd1]
      have cgO : ∀ t i, 1 ≤ t → t ≤ n → i ≤ topf (decide (0 ≤ m)) t → tb S 49 (pl c t i) = tb S1 49 (pl c t i) := fun t i a b d => by
        have tt : topf (decide (0 ≤ m)) t ≤ t := topf_le
        exact (ch t i (by omega) (by omega)).symm
      have Q1 : seqOK (decide (0 ≤ m)) (decide (m = -2)) M (fun s i => tb S1 49 (pl c s i)) (tb S1 52) p (n - 1) := by
        rw [tR1]
        exact seqOK_cg (fun t i a b d => cgO t i a (by omega) d) (hQ hn1)
      -- behind the rows or the classes
      have fin : ∀ S2 : St, nb S2 52 12288 HH → nb S2 53 8 HH → rz (tb S2 52) → nbG 48 S2 → seqOK (decide (0 ≤ m)) (decide (m = -2)) M (fun s i => tb S1 49 (pl c s i)) (tb S2 52) p n → stP 48 m M (fun s i => tb S 49 (pl c s i)) (tb S2 46) p n → (∀ x : Nat, x < 12288 → (x < p * 512 ∨ p * 512 + 512 ≤ x) → tb S2 52 x = tb S 52 x) → frG 48 S S2 p → kept [52, 53, 46] [] S1 S2 → wp (bd1 (if M (48 + (p : Int)) = 0 then (some 1) else (some (M (48 + (p : Int))))) fun z_16 => bd1 (mX0_countSequence_48_166 (M (48 + (p : Int))) ((pl p n 0 : Nat) : Int) (p : Int) (n : Int) FU z_16 S2) fun S_21 => some (S_21)) (fun S' => (nb S' 49 1536 HH ∧ nb S' 52 12288 HH ∧ nb S' 53 8 HH ∧ rz (tb S' 52) ∧ nbG 48 S') ∧ (∀ k : Nat, k ≤ topf (decide (0 ≤ m)) n → ev (tb S' 49 (pl p n k)) (if n = 0 then (if M (48 + (p : Int)) = 0 ∧ M (24 + (p : Int)) ≠ 6 then 1 else 0) else if M (48 + (p : Int)) = 1 then tb S 49 (pl c n k) else sqv (decide (0 ≤ m)) (decide (m = -2)) M (fun s i => tb S 49 (pl c s i)) p n k)) ∧ (∀ x : Nat, x < 1536 → (∀ k : Nat, k ≤ topf (decide (0 ≤ m)) n → x ≠ pl p n k) → tb S' 49 x = tb S 49 x) ∧ seqOK (decide (0 ≤ m)) (decide (m = -2)) M (fun s i => tb S 49 (pl c s i)) (tb S' 52) p n ∧ stP 48 m M (fun s i => tb S 49 (pl c s i)) (tb S' 46) p n ∧ (∀ x : Nat, x < 12288 → (x < p * 512 ∨ p * 512 + 512 ≤ x) → tb S' 52 x = tb S 52 x) ∧ frG 48 S S' p) := by
        intro S2 nR2 nW2 rz2 ng2 sq2 st2 out2 fr2 k2
        have eO2 := k2.cell 49 (by decide) (by decide)
        have tO2 : tb S2 49 = tb S1 49 := by funext j; unfold tb; rw [eO2]
        have eC2 := (congrFun (k2.cell 48 (by decide) (by decide)) 1).trans eC1
        have hG2 : GM S2 M := hG1.of (fun i a b => k2.cell i (by simp; omega) (by simp))
        refine wp_mono (cs48_166 (S := S2) (n := n) h hG2 hp2 hsq hc hm eC2 w1 ⟨hn1, hn⟩ (by intro j hj; rw [eO2]; exact n1 j hj) nR2 (by rw [tO2]; exact sq2) (fun k a => by rw [tO2]; exact z1 k a)) (fun S3 q3 => ?_)
        obtain ⟨n3, v3, o3, k3⟩ := q3
        have tR3 : tb S3 52 = tb S2 52 := by funext j; unfold tb; rw [k3.cell 52 (by decide) (by decide)]
        have tG3 : tb S3 46 = tb S2 46 := by funext j; unfold tb; rw [k3.cell 46 (by decide) (by decide)]
        refine ⟨⟨n3, ?_, ?_, by rw [tR3]; exact rz2, ?_⟩, fun k a => ?_, fun x hx hne => by rw [o3 x hx hne, tO2]; exact o1 x hx hne, ?_, by rw [tG3]; exact st2, by rw [tR3]; exact out2, fun e x hx hne => by rw [tG3]; exact fr2 e x hx hne⟩
        · intro j hj; rw [k3.cell 52 (by decide) (by decide)]; exact nR2 j hj
        · intro j hj; rw [k3.cell 53 (by decide) (by decide)]; exact nW2 j hj
        · intro e j hj; rw [k3.cell 46 (by decide) (by decide)]; exact ng2 e j hj
        · rw [if_neg n0, if_neg w1]
          refine (v3 k a).tr ?_
          rw [tO2]
          have e : sqv (decide (0 ≤ m)) (decide (m = -2)) M (fun s i => tb S1 49 (pl c s i)) p n k = sqv (decide (0 ≤ m)) (decide (m = -2)) M (fun s i => tb S 49 (pl c s i)) p n k := by
            by_cases y : M (48 + (p : Int)) = 0
            · rw [sqv_sum hsq hn1 y, sqv_sum hsq hn1 y]
              exact sm_congr fun j hj => sq1_cg (fun t i a b d => (cgO t i a b d).symm)
            · rw [sqv_one hsq (by omega), sqv_one hsq (by omega), sq1_cg (c' := fun s i => tb S 49 (pl c s i)) (fun t i a b d => (cgO t i a b d).symm)]
          rw [e]; exact ev.rf
        · rw [tR3]
          exact seqOK_cg (fun t i a b d => (cgO t i a (by omega) d).symm) sq2
      rw [wp_gd]
      refine ⟨by omega, ?_⟩
      by_cases cl : cls (decide (m = -2)) M p
      · rw [if_neg (fun e => z3.mp e cl)]
        have go : ∀ s : Nat, s = szM M p n → wp (bd1 (mX0_addClasses_48 S1 (p : Int) (s : Int)) fun S_60 => some S_60) (fun S2 => wp (bd1 (if M (48 + (p : Int)) = 0 then (some 1) else (some (M (48 + (p : Int))))) fun z_16 => bd1 (mX0_countSequence_48_166 (M (48 + (p : Int))) ((pl p n 0 : Nat) : Int) (p : Int) (n : Int) FU z_16 S2) fun S_21 => some (S_21)) (fun S' => (nb S' 49 1536 HH ∧ nb S' 52 12288 HH ∧ nb S' 53 8 HH ∧ rz (tb S' 52) ∧ nbG 48 S') ∧ (∀ k : Nat, k ≤ topf (decide (0 ≤ m)) n → ev (tb S' 49 (pl p n k)) (if n = 0 then (if M (48 + (p : Int)) = 0 ∧ M (24 + (p : Int)) ≠ 6 then 1 else 0) else if M (48 + (p : Int)) = 1 then tb S 49 (pl c n k) else sqv (decide (0 ≤ m)) (decide (m = -2)) M (fun s i => tb S 49 (pl c s i)) p n k)) ∧ (∀ x : Nat, x < 1536 → (∀ k : Nat, k ≤ topf (decide (0 ≤ m)) n → x ≠ pl p n k) → tb S' 49 x = tb S 49 x) ∧ seqOK (decide (0 ≤ m)) (decide (m = -2)) M (fun s i => tb S 49 (pl c s i)) (tb S' 52) p n ∧ stP 48 m M (fun s i => tb S 49 (pl c s i)) (tb S' 46) p n ∧ (∀ x : Nat, x < 12288 → (x < p * 512 ∨ p * 512 + 512 ≤ x) → tb S' 52 x = tb S 52 x) ∧ frG 48 S S' p)) := by
          intro s hs
          have sl := szM_le (M := M) (p := p) (n := n)
          rw [wp_bd1]
          unfold mX0_addClasses_48
          rw [wp_bd1]
          have pre := Q1.2.1 w1 cl
          -- the classes of this size
          have mid : wp (mX0_addClasses_48_2 (p : Int) (s : Int) FU 0 S1) (fun S2 => nb S2 52 12288 HH ∧ nb S2 53 8 HH ∧ rz (tb S2 52) ∧ (∀ j t q : Nat, j ≤ lgM M p → t ≤ (M 1).toNat → q ≤ topf (decide (0 ≤ m)) t → ev (tab (tb S2 52) p j t q) (bgS (M (24 + (p : Int)) == 5) (fun s i => tb S1 49 (pl c s i)) (topf (decide (0 ≤ m))) s j t q)) ∧ (∀ x : Nat, x < 12288 → (x < p * 512 + 64 ∨ p * 512 + 512 ≤ x) → tb S2 52 x = tb S1 52 x) ∧ kept [52, 53] [] S1 S2) := by
            by_cases s0 : s = 0
            · have e : szM M p (n - 1) = s := by
                unfold szM at hs ⊢
                split at hs <;> split <;> omega
              rw [e] at pre
              obtain ⟨g, hgu⟩ : ∃ g, FU = g + 1 := ⟨1999999, rfl⟩
              rw [hgu, mX0_addClasses_48_2, gd_t (by omega), if_pos (by omega), wp_some]
              exact ⟨nR1, nW1, by rw [tR1]; exact hz, pre, fun _ _ _ => rfl, kept.rf⟩
            · have e : szM M p (n - 1) = s - 1 := by
                unfold szM at hs ⊢
                split at hs <;> split <;> omega
              rw [e] at pre
              refine wp_mono (ac48_2 (S := S1) (s := s) h hG1 hp2 hsq hc hm eC1 (by omega) (by omega) n1 nR1 nW1 (by rw [tR1]; exact hz) (fun j t q a b d => pre j t q a b d)) (fun S2 q2 => ?_)
              obtain ⟨a1, a2, a3, a4, a5, a6⟩ := q2
              refine ⟨a1, a2, a3, fun j t q a b d => ?_, a5, a6⟩
              have := a4 j t q a b d
              obtain ⟨r, rfl⟩ : ∃ r, s = r + 1 := ⟨s - 1, by omega⟩
              exact this
          refine wp_mono mid (fun S2 q2 => ?_)
          obtain ⟨nR2, nW2, rz2, bg2, out2, k2⟩ := q2
          have eC2 := (congrFun (k2.cell 48 (by decide) (by decide)) 1).trans eC1
          have hG2 : GM S2 M := hG1.of (fun i a b => k2.cell i (by simp; omega) (by simp))
          have eG2 := k2.cell 46 (by decide) (by decide)
          have tG2 : tb S2 46 = tb S 46 := by rw [← tG1]; funext j; unfold tb; rw [eG2]
          rw [wp_bd1]
          refine wp_mono (w_keep48 (S := S2) (s := s) h hG2 hp2 hsq (by omega) hm eC2 nR2 (fun e j hj => by rw [eG2]; exact ng1 e j hj)) (fun S3 q3 => ?_)
          obtain ⟨ng3, fr3, st3, of3, k3⟩ := q3
          have eR3 := k3.cell 52 (by decide) (by decide)
          have tR3 : tb S3 52 = tb S2 52 := by funext j; unfold tb; rw [eR3]
          rw [wp_some, wp_some]
          have bgS' : ∀ j t q : Nat, j ≤ lgM M p → t ≤ (M 1).toNat → q ≤ topf (decide (0 ≤ m)) t → ev (tab (tb S2 52) p j t q) (bgS (M (24 + (p : Int)) == 5) (fun s i => tb S 49 (pl c s i)) (topf (decide (0 ≤ m))) (szM M p n) j t q) := fun j t q a b d => by
            rw [← hs, ← bgS_cg (c := fun s i => tb S1 49 (pl c s i)) (c' := fun s i => tb S 49 (pl c s i)) (lt := topf (decide (0 ≤ m))) (lt' := topf (decide (0 ≤ m))) s (fun _ _ => rfl) (fun t i t1 t2 t3 => (cgO t i t1 (by omega) t3).symm)]
            exact bg2 j t q a b d
          refine fin S3 (by intro j hj; rw [eR3]; exact nR2 j hj) (by intro j hj; rw [k3.cell 53 (by decide) (by decide)]; exact nW2 j hj) (by rw [tR3]; exact rz2) ng3 ?_ ?_ ?_ ?_ (kept.trans (k2.mono (by simp) (by simp)) (k3.mono (by simp) (by simp)))
          · rw [tR3]
            refine ⟨fun t k a b => ?_, fun _ _ j t q a b d => by rw [← hs]; exact bg2 j t q a b d, fun _ x => absurd cl x⟩
            have tt : topf (decide (0 ≤ m)) t ≤ t := topf_le
            rw [← Q1.1 t k a b]
            exact out2 _ (rb hp (by omega) (by omega) (by omega)) (Or.inl (by unfold pl; omega))
          · exact stP_next (R := tb S2 52) (G := tb S2 46) (by omega) hM1 hl hp (fun e => by rw [tG2]; exact hS e) (fun _ _ => bgS') (by rw [← hs]; exact st3) (by rw [← hs]; exact of3)
          · intro x hx hne
            rw [tR3, out2 x hx (hne.imp (fun e => Nat.lt_of_lt_of_le e (Nat.le_add_right _ _)) id), tR1]
          · intro e x hx hne
            rw [fr3 e x hx hne, tG2]
        by_cases y : M (48 + (p : Int)) = 0
        · rw [if_pos y]
          exact go n (by unfold szM; rw [if_pos y])
        · rw [if_neg y, show (n : Int) - 1 = ((n - 1 : Nat) : Int) by omega]
          exact go (n - 1) (by unfold szM; rw [if_neg y])
      · rw [if_pos (z3.mpr cl), wp_bd1]
        have pre := Q1.2.2 w1 cl
        refine wp_mono (w_growRows48 (S := S1) (n := n) h hG1 hm eC1 hp2 hsq hc ⟨hn1, by omega⟩ n1 nR1 (fun j k a b d => pre.2 j n k a b (by omega) (by omega) d) pre.1) (fun S2 q2 => ?_)
        obtain ⟨nR2, sq2, out2, k2⟩ := q2
        have tG2 : tb S2 46 = tb S 46 := by rw [← tG1]; funext j; unfold tb; rw [k2.cell 46 (by decide) (by decide)]
        have keep : ∀ j t k : Nat, j ≤ 7 → t ≤ 7 → k ≤ 7 → (t ≠ n ∨ j < 2) → tab (tb S2 52) p j t k = tab (tb S1 52) p j t k := fun j t k a b d e => out2 _ (rb hp a b d) (fun j' k' x1 x2 x3 x4 => by have := pl_inj (Nat.add_left_cancel x4) (by omega) (by omega) (by omega) (by omega); omega)
        rw [wp_some]
        refine fin S2 nR2 (by intro j hj; rw [k2.cell 53 (by decide) (by decide)]; exact nW1 j hj) ?_ (fun e j hj => by rw [k2.cell 46 (by decide) (by decide)]; exact ng1 e j hj) ⟨fun t k a b => ?_, fun _ x => absurd x cl, fun _ _ => ⟨sq2, fun j t k a b d e f => ?_⟩⟩ ?_ ?_ ?_ (k2.mono (by simp) (by simp))
        · intro p' j t k a b d e
          rw [out2 _ (rb a b (by omega) e) (fun j' k' x1 x2 x3 x4 => ?_), tR1]
          · exact hz p' j t k a b d e
          · have := p512 j t k b (by omega) e
            have := p512 j' n k' x2 (by omega) (by omega)
            have e' : pl j t k = pl j' n k' := by omega
            have := pl_inj e' (by omega) (by omega) (by omega) (by omega)
            omega
        · have tt : topf (decide (0 ≤ m)) t ≤ t := topf_le
          rw [keep 0 t k (by omega) (by omega) (by omega) (by omega)]
          exact Q1.1 t k a b
        · have tt : topf (decide (0 ≤ m)) t ≤ t := topf_le
          rw [keep j t k (by omega) (by omega) (by omega) (by omega)]
          exact pre.2 j t k a b (by omega) e f
        · intro hC hm' h45
          exact absurd ⟨by simp [hm'], h45⟩ cl
        · intro x hx hne
          rw [out2 x hx (fun j' k' x1 x2 x3 x4 => by have := p512 j' n k' x2 (by omega) (by omega); omega), tR1]
        · intro e x hx hne
          rw [tG2]
theorem w_keep40 {S : St} {M : Int → Int} {m : Int} {p s : Nat} (h : WF M) (hG : GM S M) (hp2 : (p : Int) < M 2) (hsq : 3 ≤ M (24 + (p : Int)) ∧ M (24 + (p : Int)) ≤ 6) (hs : s ≤ 7) (hm : inI m) (h1 : S 40 1 = m) (hR : nb S 44 12288 HH) (hg : nbG 40 S) : wp (mX0_keepStage_40 S (p : Int) (s : Int)) (fun S' => nbG 40 S' ∧ frG 40 S S' p ∧ (40 = 40 → m = -1 → stQ M (tb S 44) (tb S' 46) p s) ∧ (40 = 40 → ∀ x : Nat, x < 12288 → (∀ j n : Nat, j ≤ 7 → n ≤ 7 → x ≠ p * 512 + pl s j n) → tb S' 46 x = tb S 46 x) ∧ kept [46] [] S S') := by
  have hM2 := h.2.2.1
  refine wp_mono (w_keepStage40 h hG hp2 hsq hs hm h1 hR (hg rfl)) (fun S' q => ⟨fun _ => q.1, fun _ x hx hne => ?_, fun _ => q.2.1, fun _ => q.2.2.1, q.2.2.2⟩)
  refine q.2.2.1 x hx (fun j n a b e => ?_)
  have : pl s j n < 512 := Nat.lt_of_lt_of_le (pl_lt (N := 8) (by omega) (by omega) (by omega)) (by decide)
  omega
/-! the class's census 40: a sequence's step -/
theorem cs40_185 {S : St} {M : Int → Int} {m x3 : Int} {p c j n : Nat} (h : WF M) (hG : GM S M) (hp2 : (p : Int) < M 2) (hsq : 3 ≤ M (24 + (p : Int)) ∧ M (24 + (p : Int)) ≤ 6) (hc : M (72 + (p : Int)) = (c : Int)) (hm : inI m) (h1 : S 40 1 = m) (hnum : M (48 + (p : Int)) ≠ 1) (hj : 1 ≤ j ∧ j ≤ lgM M p) (hjz : M (48 + (p : Int)) = 0 ∨ 2 ≤ j) (hn : 1 ≤ n ∧ (n : Int) ≤ M 1) (hO : nb S 41 1536 HH) (hR : nb S 44 12288 HH) (hQ : seqOK (decide (0 ≤ m)) (decide (m = -2)) M (fun s i => tb S 41 (pl c s i)) (tb S 44) p n) : wp (mX0_countSequence_40_185 (j : Int) x3 ((pl p n 0 : Nat) : Int) (p : Int) (n : Int) FU 0 S) (fun S' => nb S' 41 1536 HH ∧ (∀ k : Nat, k ≤ topf (decide (0 ≤ m)) n → ev (tb S' 41 (pl p n k)) (tb S 41 (pl p n k) + sq1 (decide (0 ≤ m)) (decide (m = -2)) M (fun s i => tb S 41 (pl c s i)) p j n k)) ∧ (∀ x : Nat, x < 1536 → (∀ k : Nat, k ≤ topf (decide (0 ≤ m)) n → x ≠ pl p n k) → tb S' 41 x = tb S 41 x) ∧ kept [41] [] S S') := by
  have hM2 := h.2.2.1
  have hM1 := h.2.1
  have h6 := (h.2.2.2.1 p hp2).2.2.2.2.2 hsq
  have tn : topf (decide (0 ≤ m)) n ≤ n := topf_le
  refine loopW (fun f v s => mX0_countSequence_40_185 (j : Int) x3 ((pl p n 0 : Nat) : Int) (p : Int) (n : Int) f v s) (fun K S' => nb S' 41 1536 HH ∧ (∀ k : Nat, k < K → k ≤ topf (decide (0 ≤ m)) n → ev (tb S' 41 (pl p n k)) (tb S 41 (pl p n k) + sq1 (decide (0 ≤ m)) (decide (m = -2)) M (fun s i => tb S 41 (pl c s i)) p j n k)) ∧ (∀ x : Nat, x < 1536 → (∀ k : Nat, k < K → k ≤ topf (decide (0 ≤ m)) n → x ≠ pl p n k) → tb S' 41 x = tb S 41 x) ∧ kept [41] [] S S') _ (topf (decide (0 ≤ m)) n + 1) (fun k f s hk hI hkk => ?_) (fun f s hI => ?_) (topf (decide (0 ≤ m)) n + 1) 0 FU S (by omega) (by unfold FU; omega) ⟨hO, fun k a => by omega, fun _ _ _ => rfl, kept.rf⟩
  · obtain ⟨n1, v1, o1, k1⟩ := hI
    try dsimp only at hkk ⊢
    have eC := (congrFun (k1.cell 40 (by decide) (by decide)) 1).trans h1
    have eR := k1.cell 44 (by decide) (by decide)
    have tR : tb s 44 = tb S 44 := by funext j; unfold tb; rw [eR]
    have hG' : GM s M := hG.of (fun i a b => k1.cell i (by simp; omega) (by simp))
    have ch : ∀ t i, t ≤ n → i ≤ topf (decide (0 ≤ m)) t → tb S 41 (pl c t i) = tb s 41 (pl c t i) := fun t i a b => by
      have tt : topf (decide (0 ≤ m)) t ≤ t := topf_le
      exact (o1 _ (pl_lt2 (N := 24) (by omega) (by omega) (by omega) (by decide)) (fun k' x1 x2 x3 => by have := (pl_inj x3 (by omega) (by omega) (by omega) (by omega)).1; omega)).symm
    obtain ⟨X, x1, x2, x4⟩ := w_seqOf40 (S := s) (j := j) (n := n) (k := k) h hG' hp2 hsq hc hm eC hnum hj hjz hn (by omega) n1 (by intro j hj; rw [eR]; exact hR j hj) (by rw [tR]; exact seqOK_cg (fun t i a b d => ch t i (by omega) d) hQ)
    rw [sq1_cg (c' := fun s i => tb S 41 (pl c s i)) (fun t i a b d => (ch t i b d).symm)] at x4
    have b := n1.at (pl_lt2 (N := 24) (B := 1536) (q := p) (s := n) (i := k) (by omega) (by omega) (by omega) (by decide))
    have bb : pl p n k < 1536 := pl_lt2 (N := 24) (by omega) (by omega) (by omega) (by decide)
    have u : tb s 41 (pl p n k) = tb S 41 (pl p n k) := o1 _ bb (fun k' x1 x2 x3 => by have := (pl_inj x3 (by omega) (by omega) (by omega) (by omega)).2.2; omega)
    rw [mX0_countSequence_40_185, bd1_e (e_ltop40 hm eC), gd_t (by omega), if_neg (by omega), show ((pl p n 0 : Nat) : Int) + (k : Int) = ((pl p n k : Nat) : Int) by unfold pl; omega, gd_t (by omega), bd1_e x1, b.1, bd1_e (e_plusH b.2 x2), nx_e]
    refine hkk _ ⟨nb_up n1 min_le', fun k' a d => ?_, fun x hx hne => ?_, kept.upA k1 (by simp)⟩
    · rw [tb_up]
      by_cases e : k' = k
      · subst e
        rw [if_pos rfl, u]
        exact ev_HH.tr (ev_add ev.rf x4)
      · rw [if_neg (fun x => e (pl_inj x (by omega) (by omega) (by omega) (by omega)).2.2)]
        exact v1 k' (by omega) d
    · rw [tb_up, if_neg (hne k (by omega) (by omega))]
      exact o1 x hx (fun k' a d => hne k' (by omega) d)
  · obtain ⟨n1, v1, o1, k1⟩ := hI
    have eC := (congrFun (k1.cell 40 (by decide) (by decide)) 1).trans h1
    try dsimp only
    rw [mX0_countSequence_40_185, bd1_e (e_ltop40 hm eC), gd_t (by omega), if_pos (by omega), wp_some]
    exact ⟨n1, fun k a => v1 k (by omega) a, fun x hx hne => o1 x hx (fun k a b => hne k b), k1⟩
theorem cs40_166 {S : St} {M : Int → Int} {m : Int} {p c n : Nat} (h : WF M) (hG : GM S M) (hp2 : (p : Int) < M 2) (hsq : 3 ≤ M (24 + (p : Int)) ∧ M (24 + (p : Int)) ≤ 6) (hc : M (72 + (p : Int)) = (c : Int)) (hm : inI m) (h1 : S 40 1 = m) (hnum : M (48 + (p : Int)) ≠ 1) (hn : 1 ≤ n ∧ (n : Int) ≤ M 1) (hO : nb S 41 1536 HH) (hR : nb S 44 12288 HH) (hQ : seqOK (decide (0 ≤ m)) (decide (m = -2)) M (fun s i => tb S 41 (pl c s i)) (tb S 44) p n) (h0 : ∀ k : Nat, k ≤ topf (decide (0 ≤ m)) n → tb S 41 (pl p n k) = 0) : wp (bd1 (if M (48 + (p : Int)) = 0 then (some 1) else (some (M (48 + (p : Int))))) fun z_16 => bd1 (mX0_countSequence_40_166 (M (48 + (p : Int))) ((pl p n 0 : Nat) : Int) (p : Int) (n : Int) FU z_16 S) fun S_21 => some (S_21)) (fun S' => nb S' 41 1536 HH ∧ (∀ k : Nat, k ≤ topf (decide (0 ≤ m)) n → ev (tb S' 41 (pl p n k)) (sqv (decide (0 ≤ m)) (decide (m = -2)) M (fun s i => tb S 41 (pl c s i)) p n k)) ∧ (∀ x : Nat, x < 1536 → (∀ k : Nat, k ≤ topf (decide (0 ≤ m)) n → x ≠ pl p n k) → tb S' 41 x = tb S 41 x) ∧ kept [41] [] S S') := by
  have hM2 := h.2.2.1
  have hM1 := h.2.1
  have hl := lgM_le h hp2 hsq
  have h6 := (h.2.2.2.1 p hp2).2.2.2.2.2 hsq
  have tn : topf (decide (0 ≤ m)) n ≤ n := topf_le
  by_cases z : M (48 + (p : Int)) = 0
  · have lz : lgM M p = (M 1).toNat := by unfold lgM; rw [if_pos z]
    rw [if_pos z, wp_bd1, wp_some, wp_bd1, z]
    refine wp_mono (loopW (fun f v s => mX0_countSequence_40_166 0 ((pl p n 0 : Nat) : Int) (p : Int) (n : Int) f v s) (fun J S' => 1 ≤ J ∧ nb S' 41 1536 HH ∧ (∀ k : Nat, k ≤ topf (decide (0 ≤ m)) n → ev (tb S' 41 (pl p n k)) (sm (J - 1) (fun j => sq1 (decide (0 ≤ m)) (decide (m = -2)) M (fun s i => tb S 41 (pl c s i)) p (j + 1) n k))) ∧ (∀ x : Nat, x < 1536 → (∀ k : Nat, k ≤ topf (decide (0 ≤ m)) n → x ≠ pl p n k) → tb S' 41 x = tb S 41 x) ∧ kept [41] [] S S') (fun S' => nb S' 41 1536 HH ∧ (∀ k : Nat, k ≤ topf (decide (0 ≤ m)) n → ev (tb S' 41 (pl p n k)) (sqv (decide (0 ≤ m)) (decide (m = -2)) M (fun s i => tb S 41 (pl c s i)) p n k)) ∧ (∀ x : Nat, x < 1536 → (∀ k : Nat, k ≤ topf (decide (0 ≤ m)) n → x ≠ pl p n k) → tb S' 41 x = tb S 41 x) ∧ kept [41] [] S S') (n + 1) (fun j f s hj hI hkk => ?_) (fun f s hI => ?_) n 1 FU S (by omega) (by unfold FU; omega) ⟨by omega, hO, fun k a => by rw [h0 k a]; exact ev.rf, fun _ _ _ => rfl, kept.rf⟩) (fun S' q => by rw [wp_some]; exact q)
    · obtain ⟨j1, n1, v1, o1, k1⟩ := hI
      try dsimp only at hkk ⊢
      have eC := (congrFun (k1.cell 40 (by decide) (by decide)) 1).trans h1
      have eR := k1.cell 44 (by decide) (by decide)
      have tR : tb s 44 = tb S 44 := by funext j; unfold tb; rw [eR]
      have hG' : GM s M := hG.of (fun i a b => k1.cell i (by simp; omega) (by simp))
      have ch : ∀ t i, t ≤ n → i ≤ topf (decide (0 ≤ m)) t → tb S 41 (pl c t i) = tb s 41 (pl c t i) := fun t i a b => by
        have tt : topf (decide (0 ≤ m)) t ≤ t := topf_le
        exact (o1 _ (pl_lt2 (N := 24) (by omega) (by omega) (by omega) (by decide)) (fun k' x1 x2 => by have := (pl_inj x2 (by omega) (by omega) (by omega) (by omega)).1; omega)).symm
      rw [mX0_countSequence_40_166, if_pos rfl, bd1_e rfl, gd_t (by omega), if_neg (by omega), wp_bd1]
      refine wp_mono (cs40_185 (S := s) (j := j) (n := n) (x3 := 0) h hG' hp2 hsq hc hm eC hnum (by omega) (Or.inl z) hn n1 (by intro j hj; rw [eR]; exact hR j hj) (by rw [tR]; exact seqOK_cg (fun t i a b d => ch t i (by omega) d) hQ)) (fun S2 q2 => ?_)
      obtain ⟨n2, v2, o2, k2⟩ := q2
      refine hkk S2 ⟨by omega, n2, fun k a => ?_, fun x hx hne => by rw [o2 x hx hne]; exact o1 x hx hne, kept.trans k1 k2⟩
      refine (v2 k a).tr ?_
      rw [sq1_cg (c' := fun s i => tb S 41 (pl c s i)) (fun t i a b d => (ch t i b d).symm)]
      obtain ⟨i, rfl⟩ : ∃ i, j = i + 1 := ⟨j - 1, by omega⟩
      rw [show i + 1 + 1 - 1 = i + 1 by omega, sm_s]
      exact ev_add (v1 k a) ev.rf
    · obtain ⟨j1, n1, v1, o1, k1⟩ := hI
      try dsimp only
      rw [mX0_countSequence_40_166, if_pos rfl, bd1_e rfl, gd_t (by omega), if_pos (by omega), wp_some]
      refine ⟨n1, fun k a => ?_, o1, k1⟩
      rw [sqv_sum hsq hn.1 z]
      exact v1 k a
  · obtain ⟨N, hN⟩ : ∃ N : Nat, M (48 + (p : Int)) = (N : Int) := ⟨(M (48 + (p : Int))).toNat, by omega⟩
    have lz : lgM M p = N := by unfold lgM; rw [if_neg z, hN]; rfl
    rw [if_neg z, wp_bd1, wp_some, wp_bd1]
    obtain ⟨g, hg⟩ : ∃ g, FU = g + 1 + 1 := ⟨1999998, rfl⟩
    rw [hg, mX0_countSequence_40_166, if_neg z, bd1_e rfl, gd_t (by omega), if_neg (by omega), wp_bd1, hN]
    refine wp_mono (cs40_185 (S := S) (j := N) (n := n) (x3 := (N : Int)) h hG hp2 hsq hc hm h1 hnum (by omega) (Or.inr (by omega)) hn hO hR hQ) (fun S2 q2 => ?_)
    obtain ⟨n2, v2, o2, k2⟩ := q2
    rw [mX0_countSequence_40_166, if_neg (by omega), bd1_e rfl, gd_t (by omega), if_pos (by omega), wp_some, wp_some]
    refine ⟨n2, fun k a => (v2 k a).tr ?_, o2, k2⟩
    rw [h0 k a, Nat.zero_add, sqv_one hsq (by omega), hN, show ((N : Int)).toNat = N from rfl]
    by_cases w : decide (m = -2) = true ∧ (n : Int) < (N : Int)
    · rw [if_pos w]
      unfold sq1
      rw [if_pos w.1, tl_small N n (by omega), Nat.zero_div]; exact ev.rf
    · rw [if_neg w]; exact ev.rf
theorem w_countSeq40 {S : St} {M : Int → Int} {m : Int} {p c n : Nat} (h : WF M) (hG : GM S M) (hp2 : (p : Int) < M 2) (hsq : 3 ≤ M (24 + (p : Int)) ∧ M (24 + (p : Int)) ≤ 6) (hc : M (72 + (p : Int)) = (c : Int)) (hm : inI m) (h1 : S 40 1 = m) (hn : (n : Int) ≤ M 1) (hO : nb S 41 1536 HH) (hR : nb S 44 12288 HH) (hW : nb S 45 8 HH) (hz : rz (tb S 44)) (hg : nbG 40 S) (hQ : 1 ≤ n → seqOK (decide (0 ≤ m)) (decide (m = -2)) M (fun s i => tb S 41 (pl c s i)) (tb S 44) p (n - 1)) (hS : 1 ≤ n → stP 40 m M (fun s i => tb S 41 (pl c s i)) (tb S 46) p (n - 1)) : wp (mX0_countSequence_40 S (p : Int) (n : Int)) (fun S' => (nb S' 41 1536 HH ∧ nb S' 44 12288 HH ∧ nb S' 45 8 HH ∧ rz (tb S' 44) ∧ nbG 40 S') ∧ (∀ k : Nat, k ≤ topf (decide (0 ≤ m)) n → ev (tb S' 41 (pl p n k)) (if n = 0 then (if M (48 + (p : Int)) = 0 ∧ M (24 + (p : Int)) ≠ 6 then 1 else 0) else if M (48 + (p : Int)) = 1 then tb S 41 (pl c n k) else sqv (decide (0 ≤ m)) (decide (m = -2)) M (fun s i => tb S 41 (pl c s i)) p n k)) ∧ (∀ x : Nat, x < 1536 → (∀ k : Nat, k ≤ topf (decide (0 ≤ m)) n → x ≠ pl p n k) → tb S' 41 x = tb S 41 x) ∧ seqOK (decide (0 ≤ m)) (decide (m = -2)) M (fun s i => tb S 41 (pl c s i)) (tb S' 44) p n ∧ stP 40 m M (fun s i => tb S 41 (pl c s i)) (tb S' 46) p n ∧ (∀ x : Nat, x < 12288 → (x < p * 512 ∨ p * 512 + 512 ≤ x) → tb S' 44 x = tb S 44 x) ∧ frG 40 S S' p) := by
  have hM2 := h.2.2.1
  have hM1 := h.2.1
  have hp : p < 24 := by omega
  have hl := lgM_le h hp2 hsq
  have h6 := (h.2.2.2.1 p hp2).2.2.2.2.2 hsq
  have tn : topf (decide (0 ≤ m)) n ≤ n := topf_le
  have g4 : S 4 (p : Int) = M (48 + (p : Int)) := (hG.2.1 p hp2).2.2.1 (by omega)
  have g3 : S 3 (p : Int) = M (24 + (p : Int)) := (hG.2.1 p hp2).1
  have e5 : S 5 (p : Int) = (c : Int) := by rw [← hc]; exact (hG.2.1 p hp2).2.2.2.2.1 hsq
  have bl : pl p n 0 + 7 < 1536 := by unfold pl; omega
  have p512 : ∀ j n k : Nat, j ≤ 7 → n ≤ 7 → k ≤ 7 → pl j n k < 512 := fun j n k a b d => Nat.lt_of_lt_of_le (pl_lt (N := 8) (by omega) (by omega) (by omega)) (by decide)
  unfold mX0_countSequence_40
  rw [nx_e, gd_t (by omega), nx_e, nx_e, g4, g3, wp_bd1, show (p : Int) * 64 + (n : Int) * 8 = ((pl p n 0 : Nat) : Int) by unfold pl; omega]
  refine wp_mono (w_clr40_41 (S := S) hm h1 (by omega) (by omega)) (fun S1 q1 => ?_)
  obtain ⟨v1, k1⟩ := q1
  have u1 : ∀ x : Nat, x < 1536 → tb S1 41 x = if pl p n 0 ≤ x ∧ x < pl p n 0 + (topf (decide (0 ≤ m)) n + 1) then 0 else tb S 41 x := fun x hx => by
    show (S1 41 (x : Int)).toNat = _
    rw [v1 x hx]; split <;> rfl
  have n1 : nb S1 41 1536 HH := fun x hx => by
    rw [v1 x hx]
    split
    · exact ⟨0, rfl, Nat.zero_le _⟩
    · exact hO x hx
  have z1 : ∀ k : Nat, k ≤ topf (decide (0 ≤ m)) n → tb S1 41 (pl p n k) = 0 := fun k a => by rw [u1 _ (by unfold pl at bl ⊢; omega), if_pos (by unfold pl; omega)]
  have o1 : ∀ x : Nat, x < 1536 → (∀ k : Nat, k ≤ topf (decide (0 ≤ m)) n → x ≠ pl p n k) → tb S1 41 x = tb S 41 x := fun x hx hne => by
    rw [u1 x hx, if_neg]
    rintro ⟨c1, c2⟩
    exact hne (x - pl p n 0) (by omega) (by unfold pl at c1 c2 ⊢; omega)
  have ch : ∀ t i, t ≤ 7 → i ≤ 7 → tb S1 41 (pl c t i) = tb S 41 (pl c t i) := fun t i a b => o1 _ (pl_lt2 (N := 24) (by omega) a b (by decide)) (fun k' x1 x2 => by have := (pl_inj x2 (by omega) (by omega) (by omega) (by omega)).1; omega)
  have eC1 := (congrFun (k1.cell 40 (by decide) (by decide)) 1).trans h1
  have eR1 := k1.cell 44 (by decide) (by decide)
  have tR1 : tb S1 44 = tb S 44 := by funext j; unfold tb; rw [eR1]
  have eW1 := k1.cell 45 (by decide) (by decide)
  have eG1 := k1.cell 46 (by decide) (by decide)
  have tG1 : tb S1 46 = tb S 46 := by funext j; unfold tb; rw [eG1]
  have hG1 : GM S1 M := hG.of (fun i a b => k1.cell i (by simp; omega) (by simp))
  have nR1 : nb S1 44 12288 HH := by intro j hj; rw [eR1]; exact hR j hj
  have nW1 : nb S1 45 8 HH := by intro j hj; rw [eW1]; exact hW j hj
  have ng1 : nbG 40 S1 := fun e j hj => by rw [eG1]; exact hg e j hj
  rw [gd_t (by omega)]
  by_cases n0 : n = 0
  · subst n0
    rw [if_pos (by omega), wp_bd1]
    refine wp_mono (w_clearRows40 (S := S1) h hG1 hp hm eC1 nR1) (fun S2 q2 => ?_)
    obtain ⟨n2, v2, o2, k2⟩ := q2
    have eC2 := (congrFun (k2.cell 40 (by decide) (by decide)) 1).trans eC1
    have hG2 : GM S2 M := hG1.of (fun i a b => k2.cell i (by simp; omega) (by simp))
    have eG2 := k2.cell 46 (by decide) (by decide)
    have tG2 : tb S2 46 = tb S 46 := by rw [← tG1]; funext j; unfold tb; rw [eG2]
    have ng2 : nbG 40 S2 := fun e j hj => by rw [eG2]; exact ng1 e j hj
    rw [wp_bd1]
    refine wp_mono (w_keep40 (S := S2) (s := 0) h hG2 hp2 hsq (by omega) hm eC2 n2 ng2) (fun S3 q3 => ?_)
    obtain ⟨ng3, fr3, st3, of3, k3⟩ := q3
    have eO3 : S3 41 = S1 41 := (k3.cell 41 (by decide) (by decide)).trans (k2.cell 41 (by decide) (by decide))
    have eR3 := k3.cell 44 (by decide) (by decide)
    have tR3 : tb S3 44 = tb S2 44 := by funext j; unfold tb; rw [eR3]
    have tO3 : tb S3 41 = tb S1 41 := by funext j; unfold tb; rw [eO3]
    have sq : seqOK (decide (0 ≤ m)) (decide (m = -2)) M (fun s i => tb S 41 (pl c s i)) (tb S2 44) p 0 := by
      refine ⟨fun s k a b => ?_, fun _ _ j s q a b d => ?_, fun _ _ => ⟨fun j s k a b d e => ?_, fun j s k a b d e f => ?_⟩⟩
      · rw [v2 0 s k (by omega) a b]
        by_cases w : s = 0 ∧ k = 0
        · rw [if_pos (by omega), if_pos w]
        · rw [if_neg (by omega), if_neg w]
      · rw [v2 j s q (by omega) b d, show szM M p 0 = 0 by unfold szM; split <;> rfl]
        exact ev.rf
      · rw [show tb S2 44 (p * 512 + pl j s k) = _ from v2 j s k (by omega) (by omega) e, if_neg (by omega), trw_small j s k (by omega), Nat.min_zero]
      · rw [v2 j s k (by omega) e f, if_neg (by omega)]
    have fin : ∀ v : Nat, v ≤ 1 → (v = if M (48 + (p : Int)) = 0 ∧ M (24 + (p : Int)) ≠ 6 then 1 else 0) → wp (gd (0 ≤ ((pl p 0 0 : Nat) : Int) ∧ ((pl p 0 0 : Nat) : Int) < 1536) <| nx (up S3 41 ((pl p 0 0 : Nat) : Int) (v : Int)) fun S_74 => some S_74) (fun S' => (nb S' 41 1536 HH ∧ nb S' 44 12288 HH ∧ nb S' 45 8 HH ∧ rz (tb S' 44) ∧ nbG 40 S') ∧ (∀ k : Nat, k ≤ topf (decide (0 ≤ m)) 0 → ev (tb S' 41 (pl p 0 k)) (if 0 = 0 then (if M (48 + (p : Int)) = 0 ∧ M (24 + (p : Int)) ≠ 6 then 1 else 0) else if M (48 + (p : Int)) = 1 then tb S 41 (pl c 0 k) else sqv (decide (0 ≤ m)) (decide (m = -2)) M (fun s i => tb S 41 (pl c s i)) p 0 k)) ∧ (∀ x : Nat, x < 1536 → (∀ k : Nat, k ≤ topf (decide (0 ≤ m)) 0 → x ≠ pl p 0 k) → tb S' 41 x = tb S 41 x) ∧ seqOK (decide (0 ≤ m)) (decide (m = -2)) M (fun s i => tb S 41 (pl c s i)) (tb S' 44) p 0 ∧ stP 40 m M (fun s i => tb S 41 (pl c s i)) (tb S' 46) p 0 ∧ (∀ x : Nat, x < 12288 → (x < p * 512 ∨ p * 512 + 512 ≤ x) → tb S' 44 x = tb S 44 x) ∧ frG 40 S S' p) := by
      intro v hv ve
      have tR4 : tb (up S3 41 ((pl p 0 0 : Nat) : Int) (v : Int)) 44 = tb S2 44 := by rw [← tR3]; funext j; unfold tb; rw [up_n (by decide)]
      have tG4 : tb (up S3 41 ((pl p 0 0 : Nat) : Int) (v : Int)) 46 = tb S3 46 := by funext j; unfold tb; rw [up_n (by decide)]
      have outR : ∀ x : Nat, x < 12288 → (x < p * 512 ∨ p * 512 + 512 ≤ x) → tb S2 44 x = tb S 44 x := fun x hx hne => by
        rw [o2 x hx (fun j n k a b d e => by
          have tt : topf (decide (0 ≤ m)) n ≤ n := topf_le
          have := p512 j n k a (by omega) (by omega)
          omega), tR1]
      rw [gd_t (by omega), nx_e, wp_some]
      refine ⟨⟨nb_up (by intro j hj; rw [eO3]; exact n1 j hj) (Nat.le_trans hv HH_pos), ?_, ?_, ?_, ?_⟩, fun k a => ?_, fun x hx hne => ?_, ?_, ?_, ?_, ?_⟩
      · intro j hj; rw [up_n (by decide), eR3]; exact n2 j hj
      · intro j hj; rw [up_n (by decide), k3.cell 45 (by decide) (by decide), k2.cell 45 (by decide) (by decide)]; exact nW1 j hj
      · rw [tR4]; exact clr_rz (m := m) (S := S1) hM1 (by rw [tR1]; exact hz) o2
      · intro e j hj; rw [up_n (by decide)]; exact ng3 e j hj
      · have k0 : k = 0 := by have : topf (decide (0 ≤ m)) 0 = 0 := topf_0; omega
        subst k0
        rw [tb_up, if_pos rfl, if_pos rfl, ve]; exact ev.rf
      · rw [tb_up, if_neg (hne 0 (Nat.zero_le _)), tO3]
        exact o1 x hx hne
      · rw [tR4]; exact sq
      · rw [tG4]
        refine stP_next (R := tb S2 44) (G := tb S2 46) (by omega) hM1 hl hp (fun e => by omega) sq.2.1 (by rw [show szM M p 0 = 0 by unfold szM; split <;> rfl]; exact st3) (by rw [show szM M p 0 = 0 by unfold szM; split <;> rfl]; exact of3)
      · intro x hx hne; rw [tR4]; exact outR x hx hne
      · intro e x hx hne
        rw [tG4, fr3 e x hx hne, tG2]
    rw [gd_t (by omega)]
    by_cases w0 : M (48 + (p : Int)) = 0
    · rw [if_pos w0, gd_t (by omega)]
      by_cases w6 : M (24 + (p : Int)) = 6
      · rw [if_pos w6]; exact fin 0 (by omega) (by rw [if_neg (by omega)])
      · rw [if_neg w6]; exact fin 1 (by omega) (by rw [if_pos ⟨w0, w6⟩])
    · rw [if_neg w0]; exact fin 0 (by omega) (by rw [if_neg (by omega)])
  · have hn1 : 1 ≤ n := by omega
    rw [if_neg (by omega), gd_t (by omega)]
    have e51 : S1 5 (p : Int) = (c : Int) := by rw [k1.cell 5 (by decide) (by decide)]; exact e5
    by_cases w1 : M (48 + (p : Int)) = 1
    · rw [if_pos w1, e51, wp_bd1, show (c : Int) * 64 + (n : Int) * 8 = ((pl c n 0 : Nat) : Int) by unfold pl; omega]
      refine wp_mono (w_cpy40_41_41 (S := S1) (src := pl c n 0) hm eC1 (by omega) (by unfold pl; omega) (by omega) (by unfold pl; omega)) (fun S2 q2 => ?_)
      obtain ⟨v2, k2⟩ := q2
      have tR2 : tb S2 44 = tb S 44 := by rw [← tR1]; funext j; unfold tb; rw [k2.cell 44 (by decide) (by decide)]
      have tG2 : tb S2 46 = tb S 46 := by rw [← tG1]; funext j; unfold tb; rw [k2.cell 46 (by decide) (by decide)]
      rw [wp_some]
      refine ⟨⟨fun x hx => ?_, ?_, ?_, by rw [tR2]; exact hz, ?_⟩, fun k a => ?_, fun x hx hne => ?_, ?_, ?_, fun x hx hne => by rw [tR2], fun e x hx hne => by rw [tG2]⟩
      · rw [v2 x hx]
        by_cases w : pl p n 0 ≤ x ∧ x < pl p n 0 + (topf (decide (0 ≤ m)) n + 1)
        · have b7 : pl c n 0 + 7 < 1536 := by unfold pl; omega
          rw [if_pos w]; exact n1 _ (by omega)
        · rw [if_neg w]; exact n1 x hx
      · intro j hj; rw [k2.cell 44 (by decide) (by decide)]; exact nR1 j hj
      · intro j hj; rw [k2.cell 45 (by decide) (by decide)]; exact nW1 j hj
      · intro e j hj; rw [k2.cell 46 (by decide) (by decide)]; exact ng1 e j hj
      · rw [if_neg n0, if_pos w1, ← ch n k (by omega) (by omega)]
        show ev (S2 41 ((pl p n k : Nat) : Int)).toNat _
        rw [v2 _ (by unfold pl at bl ⊢; omega), if_pos (by unfold pl; omega), show pl c n 0 + (pl p n k - pl p n 0) = pl c n k by unfold pl; omega]
        exact ev.rf
      · rw [← o1 x hx hne]
        show (S2 41 (x : Int)).toNat = _
        rw [v2 x hx, if_neg]
        · rfl
        · rintro ⟨c1, c2⟩
          exact hne (x - pl p n 0) (by omega) (by unfold pl at c1 c2 ⊢; omega)
      · rw [tR2]
        exact ⟨(hQ hn1).1, fun a => absurd w1 a, fun a => absurd w1 a⟩
      · intro _ _ _ a; exact absurd w1 a
    · rw [if_neg w1]
      obtain ⟨z, z1', z2, z3⟩ := e_inClasses40 h hG1 hp2 hm eC1
      rw [bd1_e z1', wp_bd1]
      have cgO : ∀ t i, 1 ≤ t → t ≤ n → i ≤ topf (decide (0 ≤ m)) t → tb S 41 (pl c t i) = tb S1 41 (pl c t i) := fun t i a b d => by
        have tt : topf (decide (0 ≤ m)) t ≤ t := topf_le
        exact (ch t i (by omega) (by omega)).symm
      have Q1 : seqOK (decide (0 ≤ m)) (decide (m = -2)) M (fun s i => tb S1 41 (pl c s i)) (tb S1 44) p (n - 1) := by
        rw [tR1]
        exact seqOK_cg (fun t i a b d => cgO t i a (by omega) d) (hQ hn1)
      -- behind the rows or the classes
      have fin : ∀ S2 : St, nb S2 44 12288 HH → nb S2 45 8 HH → rz (tb S2 44) → nbG 40 S2 → seqOK (decide (0 ≤ m)) (decide (m = -2)) M (fun s i => tb S1 41 (pl c s i)) (tb S2 44) p n → stP 40 m M (fun s i => tb S 41 (pl c s i)) (tb S2 46) p n → (∀ x : Nat, x < 12288 → (x < p * 512 ∨ p * 512 + 512 ≤ x) → tb S2 44 x = tb S 44 x) → frG 40 S S2 p → kept [44, 45, 46] [] S1 S2 → wp (bd1 (if M (48 + (p : Int)) = 0 then (some 1) else (some (M (48 + (p : Int))))) fun z_16 => bd1 (mX0_countSequence_40_166 (M (48 + (p : Int))) ((pl p n 0 : Nat) : Int) (p : Int) (n : Int) FU z_16 S2) fun S_21 => some (S_21)) (fun S' => (nb S' 41 1536 HH ∧ nb S' 44 12288 HH ∧ nb S' 45 8 HH ∧ rz (tb S' 44) ∧ nbG 40 S') ∧ (∀ k : Nat, k ≤ topf (decide (0 ≤ m)) n → ev (tb S' 41 (pl p n k)) (if n = 0 then (if M (48 + (p : Int)) = 0 ∧ M (24 + (p : Int)) ≠ 6 then 1 else 0) else if M (48 + (p : Int)) = 1 then tb S 41 (pl c n k) else sqv (decide (0 ≤ m)) (decide (m = -2)) M (fun s i => tb S 41 (pl c s i)) p n k)) ∧ (∀ x : Nat, x < 1536 → (∀ k : Nat, k ≤ topf (decide (0 ≤ m)) n → x ≠ pl p n k) → tb S' 41 x = tb S 41 x) ∧ seqOK (decide (0 ≤ m)) (decide (m = -2)) M (fun s i => tb S 41 (pl c s i)) (tb S' 44) p n ∧ stP 40 m M (fun s i => tb S 41 (pl c s i)) (tb S' 46) p n ∧ (∀ x : Nat, x < 12288 → (x < p * 512 ∨ p * 512 + 512 ≤ x) → tb S' 44 x = tb S 44 x) ∧ frG 40 S S' p) := by
        intro S2 nR2 nW2 rz2 ng2 sq2 st2 out2 fr2 k2
        have eO2 := k2.cell 41 (by decide) (by decide)
        have tO2 : tb S2 41 = tb S1 41 := by funext j; unfold tb; rw [eO2]
        have eC2 := (congrFun (k2.cell 40 (by decide) (by decide)) 1).trans eC1
        have hG2 : GM S2 M := hG1.of (fun i a b => k2.cell i (by simp; omega) (by simp))
        refine wp_mono (cs40_166 (S := S2) (n := n) h hG2 hp2 hsq hc hm eC2 w1 ⟨hn1, hn⟩ (by intro j hj; rw [eO2]; exact n1 j hj) nR2 (by rw [tO2]; exact sq2) (fun k a => by rw [tO2]; exact z1 k a)) (fun S3 q3 => ?_)
        obtain ⟨n3, v3, o3, k3⟩ := q3
        have tR3 : tb S3 44 = tb S2 44 := by funext j; unfold tb; rw [k3.cell 44 (by decide) (by decide)]
        have tG3 : tb S3 46 = tb S2 46 := by funext j; unfold tb; rw [k3.cell 46 (by decide) (by decide)]
        refine ⟨⟨n3, ?_, ?_, by rw [tR3]; exact rz2, ?_⟩, fun k a => ?_, fun x hx hne => by rw [o3 x hx hne, tO2]; exact o1 x hx hne, ?_, by rw [tG3]; exact st2, by rw [tR3]; exact out2, fun e x hx hne => by rw [tG3]; exact fr2 e x hx hne⟩
        · intro j hj; rw [k3.cell 44 (by decide) (by decide)]; exact nR2 j hj
        · intro j hj; rw [k3.cell 45 (by decide) (by decide)]; exact nW2 j hj
        · intro e j hj; rw [k3.cell 46 (by decide) (by decide)]; exact ng2 e j hj
        · rw [if_neg n0, if_neg w1]
          refine (v3 k a).tr ?_
          rw [tO2]
          have e : sqv (decide (0 ≤ m)) (decide (m = -2)) M (fun s i => tb S1 41 (pl c s i)) p n k = sqv (decide (0 ≤ m)) (decide (m = -2)) M (fun s i => tb S 41 (pl c s i)) p n k := by
            by_cases y : M (48 + (p : Int)) = 0
            · rw [sqv_sum hsq hn1 y, sqv_sum hsq hn1 y]
              exact sm_congr fun j hj => sq1_cg (fun t i a b d => (cgO t i a b d).symm)
            · rw [sqv_one hsq (by omega), sqv_one hsq (by omega), sq1_cg (c' := fun s i => tb S 41 (pl c s i)) (fun t i a b d => (cgO t i a b d).symm)]
          rw [e]; exact ev.rf
        · rw [tR3]
          exact seqOK_cg (fun t i a b d => (cgO t i a (by omega) d).symm) sq2
      rw [wp_gd]
      refine ⟨by omega, ?_⟩
      by_cases cl : cls (decide (m = -2)) M p
      · rw [if_neg (fun e => z3.mp e cl)]
        have go : ∀ s : Nat, s = szM M p n → wp (bd1 (mX0_addClasses_40 S1 (p : Int) (s : Int)) fun S_60 => some S_60) (fun S2 => wp (bd1 (if M (48 + (p : Int)) = 0 then (some 1) else (some (M (48 + (p : Int))))) fun z_16 => bd1 (mX0_countSequence_40_166 (M (48 + (p : Int))) ((pl p n 0 : Nat) : Int) (p : Int) (n : Int) FU z_16 S2) fun S_21 => some (S_21)) (fun S' => (nb S' 41 1536 HH ∧ nb S' 44 12288 HH ∧ nb S' 45 8 HH ∧ rz (tb S' 44) ∧ nbG 40 S') ∧ (∀ k : Nat, k ≤ topf (decide (0 ≤ m)) n → ev (tb S' 41 (pl p n k)) (if n = 0 then (if M (48 + (p : Int)) = 0 ∧ M (24 + (p : Int)) ≠ 6 then 1 else 0) else if M (48 + (p : Int)) = 1 then tb S 41 (pl c n k) else sqv (decide (0 ≤ m)) (decide (m = -2)) M (fun s i => tb S 41 (pl c s i)) p n k)) ∧ (∀ x : Nat, x < 1536 → (∀ k : Nat, k ≤ topf (decide (0 ≤ m)) n → x ≠ pl p n k) → tb S' 41 x = tb S 41 x) ∧ seqOK (decide (0 ≤ m)) (decide (m = -2)) M (fun s i => tb S 41 (pl c s i)) (tb S' 44) p n ∧ stP 40 m M (fun s i => tb S 41 (pl c s i)) (tb S' 46) p n ∧ (∀ x : Nat, x < 12288 → (x < p * 512 ∨ p * 512 + 512 ≤ x) → tb S' 44 x = tb S 44 x) ∧ frG 40 S S' p)) := by
          intro s hs
          have sl := szM_le (M := M) (p := p) (n := n)
          rw [wp_bd1]
          unfold mX0_addClasses_40
          rw [wp_bd1]
          have pre := Q1.2.1 w1 cl
          -- the classes of this size
          have mid : wp (mX0_addClasses_40_2 (p : Int) (s : Int) FU 0 S1) (fun S2 => nb S2 44 12288 HH ∧ nb S2 45 8 HH ∧ rz (tb S2 44) ∧ (∀ j t q : Nat, j ≤ lgM M p → t ≤ (M 1).toNat → q ≤ topf (decide (0 ≤ m)) t → ev (tab (tb S2 44) p j t q) (bgS (M (24 + (p : Int)) == 5) (fun s i => tb S1 41 (pl c s i)) (topf (decide (0 ≤ m))) s j t q)) ∧ (∀ x : Nat, x < 12288 → (x < p * 512 + 64 ∨ p * 512 + 512 ≤ x) → tb S2 44 x = tb S1 44 x) ∧ kept [44, 45] [] S1 S2) := by
            by_cases s0 : s = 0
            · have e : szM M p (n - 1) = s := by
                unfold szM at hs ⊢
                split at hs <;> split <;> omega
              rw [e] at pre
              obtain ⟨g, hgu⟩ : ∃ g, FU = g + 1 := ⟨1999999, rfl⟩
              rw [hgu, mX0_addClasses_40_2, gd_t (by omega), if_pos (by omega), wp_some]
              exact ⟨nR1, nW1, by rw [tR1]; exact hz, pre, fun _ _ _ => rfl, kept.rf⟩
            · have e : szM M p (n - 1) = s - 1 := by
                unfold szM at hs ⊢
                split at hs <;> split <;> omega
              rw [e] at pre
              refine wp_mono (ac40_2 (S := S1) (s := s) h hG1 hp2 hsq hc hm eC1 (by omega) (by omega) n1 nR1 nW1 (by rw [tR1]; exact hz) (fun j t q a b d => pre j t q a b d)) (fun S2 q2 => ?_)
              obtain ⟨a1, a2, a3, a4, a5, a6⟩ := q2
              refine ⟨a1, a2, a3, fun j t q a b d => ?_, a5, a6⟩
              have := a4 j t q a b d
              obtain ⟨r, rfl⟩ : ∃ r, s = r + 1 := ⟨s - 1, by omega⟩
              exact this
          refine wp_mono mid (fun S2 q2 => ?_)
          obtain ⟨nR2, nW2, rz2, bg2, out2, k2⟩ := q2
          have eC2 := (congrFun (k2.cell 40 (by decide) (by decide)) 1).trans eC1
          have hG2 : GM S2 M := hG1.of (fun i a b => k2.cell i (by simp; omega) (by simp))
          have eG2 := k2.cell 46 (by decide) (by decide)
          have tG2 : tb S2 46 = tb S 46 := by rw [← tG1]; funext j; unfold tb; rw [eG2]
          rw [wp_bd1]
          refine wp_mono (w_keep40 (S := S2) (s := s) h hG2 hp2 hsq (by omega) hm eC2 nR2 (fun e j hj => by rw [eG2]; exact ng1 e j hj)) (fun S3 q3 => ?_)
          obtain ⟨ng3, fr3, st3, of3, k3⟩ := q3
          have eR3 := k3.cell 44 (by decide) (by decide)
          have tR3 : tb S3 44 = tb S2 44 := by funext j; unfold tb; rw [eR3]
          rw [wp_some, wp_some]
          have bgS' : ∀ j t q : Nat, j ≤ lgM M p → t ≤ (M 1).toNat → q ≤ topf (decide (0 ≤ m)) t → ev (tab (tb S2 44) p j t q) (bgS (M (24 + (p : Int)) == 5) (fun s i => tb S 41 (pl c s i)) (topf (decide (0 ≤ m))) (szM M p n) j t q) := fun j t q a b d => by
            rw [← hs, ← bgS_cg (c := fun s i => tb S1 41 (pl c s i)) (c' := fun s i => tb S 41 (pl c s i)) (lt := topf (decide (0 ≤ m))) (lt' := topf (decide (0 ≤ m))) s (fun _ _ => rfl) (fun t i t1 t2 t3 => (cgO t i t1 (by omega) t3).symm)]
            exact bg2 j t q a b d
          refine fin S3 (by intro j hj; rw [eR3]; exact nR2 j hj) (by intro j hj; rw [k3.cell 45 (by decide) (by decide)]; exact nW2 j hj) (by rw [tR3]; exact rz2) ng3 ?_ ?_ ?_ ?_ (kept.trans (k2.mono (by simp) (by simp)) (k3.mono (by simp) (by simp)))
          · rw [tR3]
            refine ⟨fun t k a b => ?_, fun _ _ j t q a b d => by rw [← hs]; exact bg2 j t q a b d, fun _ x => absurd cl x⟩
            have tt : topf (decide (0 ≤ m)) t ≤ t := topf_le
            rw [← Q1.1 t k a b]
            exact out2 _ (rb hp (by omega) (by omega) (by omega)) (Or.inl (by unfold pl; omega))
          · exact stP_next (R := tb S2 44) (G := tb S2 46) (by omega) hM1 hl hp (fun e => by rw [tG2]; exact hS e) (fun _ _ => bgS') (by rw [← hs]; exact st3) (by rw [← hs]; exact of3)
          · intro x hx hne
            rw [tR3, out2 x hx (hne.imp (fun e => Nat.lt_of_lt_of_le e (Nat.le_add_right _ _)) id), tR1]
          · intro e x hx hne
            rw [fr3 e x hx hne, tG2]
        by_cases y : M (48 + (p : Int)) = 0
        · rw [if_pos y]
          exact go n (by unfold szM; rw [if_pos y])
        · rw [if_neg y, show (n : Int) - 1 = ((n - 1 : Nat) : Int) by omega]
          exact go (n - 1) (by unfold szM; rw [if_neg y])
      · rw [if_pos (z3.mpr cl), wp_bd1]
        have pre := Q1.2.2 w1 cl
        refine wp_mono (w_growRows40 (S := S1) (n := n) h hG1 hm eC1 hp2 hsq hc ⟨hn1, by omega⟩ n1 nR1 (fun j k a b d => pre.2 j n k a b (by omega) (by omega) d) pre.1) (fun S2 q2 => ?_)
        obtain ⟨nR2, sq2, out2, k2⟩ := q2
        have tG2 : tb S2 46 = tb S 46 := by rw [← tG1]; funext j; unfold tb; rw [k2.cell 46 (by decide) (by decide)]
        have keep : ∀ j t k : Nat, j ≤ 7 → t ≤ 7 → k ≤ 7 → (t ≠ n ∨ j < 2) → tab (tb S2 44) p j t k = tab (tb S1 44) p j t k := fun j t k a b d e => out2 _ (rb hp a b d) (fun j' k' x1 x2 x3 x4 => by have := pl_inj (Nat.add_left_cancel x4) (by omega) (by omega) (by omega) (by omega); omega)
        rw [wp_some]
        refine fin S2 nR2 (by intro j hj; rw [k2.cell 45 (by decide) (by decide)]; exact nW1 j hj) ?_ (fun e j hj => by rw [k2.cell 46 (by decide) (by decide)]; exact ng1 e j hj) ⟨fun t k a b => ?_, fun _ x => absurd x cl, fun _ _ => ⟨sq2, fun j t k a b d e f => ?_⟩⟩ ?_ ?_ ?_ (k2.mono (by simp) (by simp))
        · intro p' j t k a b d e
          rw [out2 _ (rb a b (by omega) e) (fun j' k' x1 x2 x3 x4 => ?_), tR1]
          · exact hz p' j t k a b d e
          · have := p512 j t k b (by omega) e
            have := p512 j' n k' x2 (by omega) (by omega)
            have e' : pl j t k = pl j' n k' := by omega
            have := pl_inj e' (by omega) (by omega) (by omega) (by omega)
            omega
        · have tt : topf (decide (0 ≤ m)) t ≤ t := topf_le
          rw [keep 0 t k (by omega) (by omega) (by omega) (by omega)]
          exact Q1.1 t k a b
        · have tt : topf (decide (0 ≤ m)) t ≤ t := topf_le
          rw [keep j t k (by omega) (by omega) (by omega) (by omega)]
          exact pre.2 j t k a b (by omega) e f
        · intro hC hm' h45
          exact absurd ⟨by simp [hm'], h45⟩ cl
        · intro x hx hne
          rw [out2 x hx (fun j' k' x1 x2 x3 x4 => by have := p512 j' n k' x2 (by omega) (by omega); omega), tR1]
        · intro e x hx hne
          rw [tG2]
