/-! what the rows hang on; bags of one thing -/
theorem trw_cg {lab : Bool} {c c' : Nat → Nat → Nat} : ∀ j n k, (∀ s i, 1 ≤ s → s ≤ n → c s i = c' s i) → trw lab c j n k = trw lab c' j n k := by
  intro j
  induction j with
  | zero => intro n k _; rfl
  | succ j ih =>
    intro n k h
    refine s2_congr fun s i h1 h2 h3 => ?_
    rw [h s i h1 h2, ih (n - s) (k - i) (fun t l t1 t2 => h t l t1 (by omega))]
theorem trw_cl {lab : Bool} {c c' : Nat → Nat → Nat} {j n k : Nat} (hj : 2 ≤ j) (h : ∀ s i, 1 ≤ s → s < n → c s i = c' s i) : trw lab c j n k = trw lab c' j n k := by
  obtain ⟨m, rfl⟩ : ∃ m, j = m + 2 := ⟨j - 2, by omega⟩
  refine s2_congr fun s i h1 h2 h3 => ?_
  by_cases e : s = n
  · subst e
    rw [trw_small (m + 1) (s - s) (k - i) (by omega), trw_small (m + 1) (s - s) (k - i) (by omega), Nat.mul_zero, Nat.mul_zero]
  · rw [h s i h1 (by omega), trw_cg (m + 1) (n - s) (k - i) (fun t l t1 t2 => h t l t1 (by omega))]
theorem cut_cg {L : Bool} {c c' : Nat → Nat → Nat} {s : Nat} (h : ∀ i, i ≤ topf L s → c s i = c' s i) (i : Nat) : cut L c s i = cut L c' s i := by
  unfold cut
  by_cases z : i ≤ topf L s
  · rw [if_pos z, if_pos z, h i z]
  · rw [if_neg z, if_neg z]
theorem seqOK_cg {L lab : Bool} {M : Int → Int} {c c' : Nat → Nat → Nat} {R : Nat → Nat} {p n : Nat} (h : ∀ s i, 1 ≤ s → (s < n ∨ (s = n ∧ M (48 + (p : Int)) = 0)) → i ≤ topf L s → c s i = c' s i) (q : seqOK L lab M c R p n) : seqOK L lab M c' R p n := by
  refine ⟨q.1, fun a b j s k hj hs hk => ?_, fun a b => ⟨fun j s k hj hl hs hk => ?_, (q.2.2 a b).2⟩⟩
  · rw [← bgS_cg (c := c) (c' := c') (lt := topf L) (lt' := topf L) (szM M p n) (fun _ _ => rfl) (fun t i t1 t2 t3 => h t i t1 (by unfold szM at t2; split at t2 <;> omega) t3)]
    exact q.2.1 a b j s k hj hs hk
  · rw [(q.2.2 a b).1 j s k hj hl hs hk, trw_cl (c' := cut L c') hj (fun t i t1 t2 => cut_cg (fun i' hi' => h t i' t1 (Or.inl (by omega)) hi') i)]
theorem sq1_cg {L lab : Bool} {M : Int → Int} {c c' : Nat → Nat → Nat} {p j n k : Nat} (h : ∀ s i, 1 ≤ s → s ≤ n → i ≤ topf L s → c s i = c' s i) : sq1 L lab M c p j n k = sq1 L lab M c' p j n k := by
  have hc : ∀ s i, 1 ≤ s → s ≤ n → cut L c s i = cut L c' s i := fun s i a b => cut_cg (fun i' hi' => h s i' a b hi') i
  unfold sq1
  rw [tl_cg (c' := fun s => cut L c' s 0) j n (fun s a b => hc s 0 a b), rgu_cg (c' := cut L c') (fun s i a b _ => hc s i a b), tr_cg (c' := cut L c') j n k (fun s i a b _ => hc s i a b), bgS_cg (c := c) (c' := c') (lt := topf L) (lt' := topf L) n (fun _ _ => rfl) (fun t i t1 t2 t3 => h t i t1 t2 t3)]
theorem ch_1 {once : Bool} {a : Nat} : ch once a 1 = a := by
  unfold ch
  rw [if_neg (by omega), show a + 1 - 1 = a by omega, cho_1]
  split <;> rfl
theorem bgI_j1 {once : Bool} {c : Nat → Nat → Nat} {s : Nat} {T : Nat → Nat → Nat → Nat} (h0 : ∀ n k, T 0 n k = if n = 0 ∧ k = 0 then 1 else 0) : ∀ i, (∀ n k, bgI once c s T i 0 n k = if n = 0 ∧ k = 0 then 1 else 0) ∧ ∀ n k, bgI once c s T i 1 n k = T 1 n k + (if n = s ∧ k < i then c s k else 0) := by
  intro i
  induction i with
  | zero => exact ⟨h0, fun n k => by rw [if_neg (by omega)]; rfl⟩
  | succ i ih =>
    obtain ⟨i0, i1⟩ := ih
    have e0 : ∀ n k, bgI once c s T (i + 1) 0 n k = if n = 0 ∧ k = 0 then 1 else 0 := fun n k => by
      show addC (ch once (c s i)) s i (bgI once c s T i) 0 n k = _
      unfold addC
      rw [sm_s, sm_0, Nat.zero_add, if_pos (by omega), show ch once (c s i) 0 = 1 by unfold ch; rw [if_pos rfl], Nat.one_mul]
      simp only [Nat.zero_mul, Nat.sub_zero]
      exact i0 n k
    refine ⟨e0, fun n k => ?_⟩
    show addC (ch once (c s i)) s i (bgI once c s T i) 1 n k = _
    unfold addC
    rw [sm_s, sm_s, sm_0, Nat.zero_add, if_pos (by omega), show ch once (c s i) 0 = 1 by unfold ch; rw [if_pos rfl], Nat.one_mul]
    simp only [Nat.zero_mul, Nat.sub_zero, Nat.one_mul, Nat.sub_self]
    rw [i1 n k, ch_1, i0]
    by_cases x : s ≤ n ∧ i ≤ k
    · rw [if_pos x]
      by_cases y : n = s ∧ k = i
      · obtain ⟨y1, y2⟩ := y
        subst y1; subst y2
        rw [if_neg (by omega), if_pos (by omega), if_pos (by omega), Nat.mul_one]; omega
      · rw [show (if n - s = 0 ∧ k - i = 0 then 1 else 0) = 0 from if_neg (by omega), Nat.mul_zero, Nat.add_zero]
        by_cases w : n = s ∧ k < i
        · omega
        · rw [if_neg w, if_neg (by omega)]
    · rw [if_neg x, Nat.add_zero]
      by_cases w : n = s ∧ k < i
      · rw [if_pos w, if_pos (by omega)]
      · rw [if_neg w, if_neg (by omega)]
theorem bgS_j1 {once : Bool} {c : Nat → Nat → Nat} {lt : Nat → Nat} : ∀ s n k, bgS once c lt s 1 n k = if 1 ≤ n ∧ n ≤ s ∧ k ≤ lt n then c n k else 0 := by
  intro s
  induction s with
  | zero =>
    intro n k
    show (if (1 : Nat) = 0 ∧ n = 0 ∧ k = 0 then 1 else 0) = _
    rw [if_neg (by omega), if_neg (by omega)]
  | succ s ih =>
    intro n k
    show bgI once c (s + 1) (bgS once c lt s) (lt (s + 1) + 1) 1 n k = _
    rw [(bgI_j1 (T := bgS once c lt s) (bgS_j0 s) (lt (s + 1) + 1)).2 n k, ih n k]
    by_cases e : n = s + 1
    · subst e
      rw [if_neg (by omega), Nat.zero_add]
      by_cases w : k ≤ lt (s + 1)
      · rw [if_pos (by omega), if_pos (by omega)]
      · rw [if_neg (by omega), if_neg (by omega)]
    · rw [if_neg (show ¬ (n = s + 1 ∧ k < lt (s + 1) + 1) by omega), Nat.add_zero]
      by_cases w : 1 ≤ n ∧ n ≤ s ∧ k ≤ lt n
      · rw [if_pos w, if_pos (by omega)]
      · rw [if_neg w, if_neg (by omega)]
theorem rgu_1 {c : Nat → Nat → Nat} {n k : Nat} : rgu c 1 n k / 1 = tr c 1 n k := by
  unfold rgu
  rw [sm_s, sm_0, Nat.zero_add, if_pos (by omega), Nat.div_one]
  simp only [Nat.zero_add, Nat.div_one]
  rw [show phi 1 = 1 from rfl, Nat.one_mul]
theorem tr_1 {c : Nat → Nat → Nat} {n k : Nat} (hn : 1 ≤ n) : tr c 1 n k = c n k := by rw [← trw_f, trw_1 hn, wt_nn, Nat.one_mul]
theorem tl_1 {c : Nat → Nat} {n : Nat} (hn : 1 ≤ n) : tl c 1 n = c n := by
  have := trw_t (c := fun s _ => c s) 1 n
  rw [trw_1 hn, wt_nn, Nat.one_mul] at this
  exact this.symm
/-- of one thing -/
theorem sqv_1 {L lab : Bool} {M : Int → Int} {c : Nat → Nat → Nat} {p n k : Nat} (hs : 3 ≤ M (24 + (p : Int)) ∧ M (24 + (p : Int)) ≤ 6) (hnum : M (48 + (p : Int)) = 1) (hn : 1 ≤ n) (hk : k ≤ topf L n) (hl : lab = true → k = 0) : sqv L lab M c p n k = c n k := by
  rw [sqv_one hs (by omega), if_neg (by omega), hnum, show (1 : Int).toNat = 1 from rfl]
  unfold sq1
  cases lab with
  | true =>
    have k0 := hl rfl
    subst k0
    simp only [if_true]
    rw [tl_1 hn, show cut L c n 0 = c n 0 from if_pos (Nat.zero_le _)]
    unfold dv
    split
    · exact Nat.div_one _
    · split
      · exact Nat.div_one _
      · exact Nat.div_one _
  | false =>
    simp only [Bool.false_eq_true, if_false]
    by_cases s6 : M (24 + (p : Int)) = 6
    · rw [if_pos s6, rgu_1, tr_1 hn]; exact if_pos hk
    · rw [if_neg s6]
      by_cases s3 : M (24 + (p : Int)) = 3
      · rw [if_pos s3, tr_1 hn]; exact if_pos hk
      · rw [if_neg s3, bgS_j1, if_pos ⟨hn, Nat.le_refl _, hk⟩]
/-! the class's census 48: rows cleared -/
theorem w_clearRows48 {S : St} {M : Int → Int} {m : Int} {p : Nat} (h : WF M) (hG : GM S M) (hp : p < 24) (hm : inI m) (h1 : S 48 1 = m) (hR : nb S 52 12288 HH) : wp (mX0_clearRows_48 S (p : Int)) (fun S' => nb S' 52 12288 HH ∧ (∀ j n k : Nat, j ≤ 7 → n ≤ (M 1).toNat → k ≤ topf (decide (0 ≤ m)) n → tab (tb S' 52) p j n k = if j = 0 ∧ n = 0 ∧ k = 0 then 1 else 0) ∧ (∀ x : Nat, x < 12288 → (∀ j n k : Nat, j ≤ 7 → n ≤ (M 1).toNat → k ≤ topf (decide (0 ≤ m)) n → x ≠ p * 512 + pl j n k) → tb S' 52 x = tb S 52 x) ∧ kept [52] [] S S') := by
  have hM1 := h.2.1
  unfold mX0_clearRows_48
  rw [wp_bd1]
  have in10 : ∀ (j : Nat) (S : St), j ≤ 7 → GM S M → S 48 1 = m → nb S 52 12288 HH → wp (mX0_clearRows_48_10 (j : Int) (p : Int) FU 0 S) (fun S' => nb S' 52 12288 HH ∧ (∀ n k : Nat, n ≤ (M 1).toNat → k ≤ topf (decide (0 ≤ m)) n → tb S' 52 (p * 512 + pl j n k) = 0) ∧ (∀ x : Nat, x < 12288 → (∀ n k : Nat, n ≤ (M 1).toNat → k ≤ topf (decide (0 ≤ m)) n → x ≠ p * 512 + pl j n k) → tb S' 52 x = tb S 52 x) ∧ kept [52] [] S S') := by
    intro j S hj hG h1 hR
    refine loopW (fun f v s => mX0_clearRows_48_10 (j : Int) (p : Int) f v s) (fun N S' => nb S' 52 12288 HH ∧ (∀ n k : Nat, n < N → n ≤ (M 1).toNat → k ≤ topf (decide (0 ≤ m)) n → tb S' 52 (p * 512 + pl j n k) = 0) ∧ (∀ x : Nat, x < 12288 → (∀ n k : Nat, n < N → n ≤ (M 1).toNat → k ≤ topf (decide (0 ≤ m)) n → x ≠ p * 512 + pl j n k) → tb S' 52 x = tb S 52 x) ∧ kept [52] [] S S') _ ((M 1).toNat + 1) (fun n f s hn hI hk => ?_) (fun f s hI => ?_) ((M 1).toNat + 1) 0 FU S (by omega) (by unfold FU; omega) ⟨hR, fun n k a => by omega, fun _ _ _ => rfl, kept.rf⟩
    · obtain ⟨n1, v1, o1, k1⟩ := hI
      try dsimp only at hk ⊢
      have tn : topf (decide (0 ≤ m)) n ≤ n := topf_le
      have eC := (congrFun (k1.cell 48 (by decide) (by decide)) 1).trans h1
      have e2 : s 2 0 = M 1 := by rw [k1.cell 2 (by decide) (by decide)]; exact hG.1.1
      rw [mX0_clearRows_48_10, e2, gd_t (by omega), if_neg (by omega), wp_bd1, show (p : Int) * 512 + (j : Int) * 64 + (n : Int) * 8 = ((p * 512 + pl j n 0 : Nat) : Int) by unfold pl; omega]
      refine wp_mono (w_clr48_52 (S := s) hm eC (by omega) (Nat.lt_of_le_of_lt (show p * 512 + pl j n 0 + topf (decide (0 ≤ m)) n ≤ p * 512 + pl j n (topf (decide (0 ≤ m)) n) by unfold pl; omega) (rb hp hj (by omega) (by omega)))) (fun S2 q2 => ?_)
      obtain ⟨v2, k2⟩ := q2
      have u2 : ∀ x : Nat, x < 12288 → tb S2 52 x = if p * 512 + pl j n 0 ≤ x ∧ x < p * 512 + pl j n 0 + (topf (decide (0 ≤ m)) n + 1) then 0 else tb s 52 x := fun x hx => by
        show (S2 52 (x : Int)).toNat = _
        rw [v2 x hx]; split <;> rfl
      refine hk S2 ⟨fun x hx => ?_, fun n' k a b d => ?_, fun x hx hne => ?_, kept.trans k1 k2⟩
      · rw [v2 x hx]
        split
        · exact ⟨0, rfl, Nat.zero_le _⟩
        · exact n1 x hx
      · have tn' : topf (decide (0 ≤ m)) n' ≤ n' := topf_le
        rw [u2 _ (rb hp hj (by omega) (by omega))]
        by_cases e : n' = n
        · subst e; rw [if_pos (by unfold pl; omega)]
        · rw [v1 n' k (by omega) b d]; split <;> rfl
      · rw [u2 x hx, if_neg, o1 x hx (fun n' k a b d => hne n' k (by omega) b d)]
        rintro ⟨c1, c2⟩
        exact hne n (x - (p * 512 + pl j n 0)) (by omega) (by omega) (by omega) (by unfold pl at c1 c2 ⊢; omega)
    · obtain ⟨n1, v1, o1, k1⟩ := hI
      have e2 : s 2 0 = M 1 := by rw [k1.cell 2 (by decide) (by decide)]; exact hG.1.1
      try dsimp only
      rw [mX0_clearRows_48_10, e2, gd_t (by omega), if_pos (by omega), wp_some]
      exact ⟨n1, fun n k a b => v1 n k (by omega) a b, fun x hx hne => o1 x hx (fun n k a b c => hne n k b c), k1⟩
  refine wp_mono (loopW (fun f v s => mX0_clearRows_48_2 (p : Int) f v s) (fun J S' => nb S' 52 12288 HH ∧ (∀ j n k : Nat, j < J → j ≤ 7 → n ≤ (M 1).toNat → k ≤ topf (decide (0 ≤ m)) n → tb S' 52 (p * 512 + pl j n k) = 0) ∧ (∀ x : Nat, x < 12288 → (∀ j n k : Nat, j < J → j ≤ 7 → n ≤ (M 1).toNat → k ≤ topf (decide (0 ≤ m)) n → x ≠ p * 512 + pl j n k) → tb S' 52 x = tb S 52 x) ∧ kept [52] [] S S') (fun S' => nb S' 52 12288 HH ∧ (∀ j n k : Nat, j ≤ 7 → n ≤ (M 1).toNat → k ≤ topf (decide (0 ≤ m)) n → tb S' 52 (p * 512 + pl j n k) = 0) ∧ (∀ x : Nat, x < 12288 → (∀ j n k : Nat, j ≤ 7 → n ≤ (M 1).toNat → k ≤ topf (decide (0 ≤ m)) n → x ≠ p * 512 + pl j n k) → tb S' 52 x = tb S 52 x) ∧ kept [52] [] S S') 8 (fun j f s hj hI hk => ?_) (fun f s hI => ?_) 8 0 FU S (by omega) (by unfold FU; omega) ⟨hR, fun j n k a => by omega, fun _ _ _ => rfl, kept.rf⟩) (fun S1 q => ?_)
  · obtain ⟨n1, v1, o1, k1⟩ := hI
    try dsimp only at hk ⊢
    have eC := (congrFun (k1.cell 48 (by decide) (by decide)) 1).trans h1
    have hG' : GM s M := hG.of (fun i a b => k1.cell i (by simp; omega) (by simp))
    rw [mX0_clearRows_48_2, gd_t (by omega), if_neg (by omega), wp_bd1]
    refine wp_mono (in10 j s (by omega) hG' eC n1) (fun S2 q2 => ?_)
    obtain ⟨n2, v2, o2, k2⟩ := q2
    refine hk S2 ⟨n2, fun j' n k a b c d => ?_, fun x hx hne => ?_, kept.trans k1 k2⟩
    · have tn : topf (decide (0 ≤ m)) n ≤ n := topf_le
      by_cases e : j' = j
      · subst e; exact v2 n k c d
      · rw [o2 _ (rb hp b (by omega) (by omega)) (fun n' k' x1 x2 x3 => e (by
          have tn' : topf (decide (0 ≤ m)) n' ≤ n' := topf_le
          exact (pl_inj (Nat.add_left_cancel x3) (by omega) (by omega) (by omega) (by omega)).1))]
        exact v1 j' n k (by omega) b c d
    · rw [o2 x hx (fun n k a b => hne j n k (by omega) (by omega) a b)]
      exact o1 x hx (fun j' n k a b => hne j' n k (by omega) b)
  · obtain ⟨n1, v1, o1, k1⟩ := hI
    try dsimp only
    rw [mX0_clearRows_48_2, gd_t (by omega), if_pos (by omega), wp_some]
    exact ⟨n1, fun j n k a b => v1 j n k (by omega) a b, fun x hx hne => o1 x hx (fun j n k a b => hne j n k b), k1⟩
  · obtain ⟨n1, v1, o1, k1⟩ := q
    rw [show (p : Int) * 512 = ((p * 512 + pl 0 0 0 : Nat) : Int) by unfold pl; omega, gd_t (by unfold pl; omega), nx_e, wp_some]
    refine ⟨nb_up (v := 1) n1 HH_pos, fun j n k a b d => ?_, fun x hx hne => ?_, kept.upA k1 (by simp)⟩
    · have tn : topf (decide (0 ≤ m)) n ≤ n := topf_le
      have u := tb_up (S := S1) (i := 52) (k := p * 512 + pl 0 0 0) (v := 1) (j := p * 512 + pl j n k)
      refine Eq.trans u ?_
      by_cases e : j = 0 ∧ n = 0 ∧ k = 0
      · obtain ⟨e1, e2, e3⟩ := e
        subst e1; subst e2; subst e3
        rw [if_pos rfl, if_pos (by omega)]
      · rw [if_neg (fun x => e (by have := pl_inj (Nat.add_left_cancel x) (by omega) (by omega) (by omega) (by omega); omega)), if_neg e]
        exact v1 j n k a b d
    · have u := tb_up (S := S1) (i := 52) (k := p * 512 + pl 0 0 0) (v := 1) (j := x)
      refine Eq.trans u ?_
      rw [if_neg (hne 0 0 0 (by omega) (by omega) (by omega))]
      exact o1 x hx hne
/-! the class's census 40: rows cleared -/
theorem w_clearRows40 {S : St} {M : Int → Int} {m : Int} {p : Nat} (h : WF M) (hG : GM S M) (hp : p < 24) (hm : inI m) (h1 : S 40 1 = m) (hR : nb S 44 12288 HH) : wp (mX0_clearRows_40 S (p : Int)) (fun S' => nb S' 44 12288 HH ∧ (∀ j n k : Nat, j ≤ 7 → n ≤ (M 1).toNat → k ≤ topf (decide (0 ≤ m)) n → tab (tb S' 44) p j n k = if j = 0 ∧ n = 0 ∧ k = 0 then 1 else 0) ∧ (∀ x : Nat, x < 12288 → (∀ j n k : Nat, j ≤ 7 → n ≤ (M 1).toNat → k ≤ topf (decide (0 ≤ m)) n → x ≠ p * 512 + pl j n k) → tb S' 44 x = tb S 44 x) ∧ kept [44] [] S S') := by
  have hM1 := h.2.1
  unfold mX0_clearRows_40
  rw [wp_bd1]
  have in10 : ∀ (j : Nat) (S : St), j ≤ 7 → GM S M → S 40 1 = m → nb S 44 12288 HH → wp (mX0_clearRows_40_10 (j : Int) (p : Int) FU 0 S) (fun S' => nb S' 44 12288 HH ∧ (∀ n k : Nat, n ≤ (M 1).toNat → k ≤ topf (decide (0 ≤ m)) n → tb S' 44 (p * 512 + pl j n k) = 0) ∧ (∀ x : Nat, x < 12288 → (∀ n k : Nat, n ≤ (M 1).toNat → k ≤ topf (decide (0 ≤ m)) n → x ≠ p * 512 + pl j n k) → tb S' 44 x = tb S 44 x) ∧ kept [44] [] S S') := by
    intro j S hj hG h1 hR
    refine loopW (fun f v s => mX0_clearRows_40_10 (j : Int) (p : Int) f v s) (fun N S' => nb S' 44 12288 HH ∧ (∀ n k : Nat, n < N → n ≤ (M 1).toNat → k ≤ topf (decide (0 ≤ m)) n → tb S' 44 (p * 512 + pl j n k) = 0) ∧ (∀ x : Nat, x < 12288 → (∀ n k : Nat, n < N → n ≤ (M 1).toNat → k ≤ topf (decide (0 ≤ m)) n → x ≠ p * 512 + pl j n k) → tb S' 44 x = tb S 44 x) ∧ kept [44] [] S S') _ ((M 1).toNat + 1) (fun n f s hn hI hk => ?_) (fun f s hI => ?_) ((M 1).toNat + 1) 0 FU S (by omega) (by unfold FU; omega) ⟨hR, fun n k a => by omega, fun _ _ _ => rfl, kept.rf⟩
    · obtain ⟨n1, v1, o1, k1⟩ := hI
      try dsimp only at hk ⊢
      have tn : topf (decide (0 ≤ m)) n ≤ n := topf_le
      have eC := (congrFun (k1.cell 40 (by decide) (by decide)) 1).trans h1
      have e2 : s 2 0 = M 1 := by rw [k1.cell 2 (by decide) (by decide)]; exact hG.1.1
      rw [mX0_clearRows_40_10, e2, gd_t (by omega), if_neg (by omega), wp_bd1, show (p : Int) * 512 + (j : Int) * 64 + (n : Int) * 8 = ((p * 512 + pl j n 0 : Nat) : Int) by unfold pl; omega]
      refine wp_mono (w_clr40_44 (S := s) hm eC (by omega) (Nat.lt_of_le_of_lt (show p * 512 + pl j n 0 + topf (decide (0 ≤ m)) n ≤ p * 512 + pl j n (topf (decide (0 ≤ m)) n) by unfold pl; omega) (rb hp hj (by omega) (by omega)))) (fun S2 q2 => ?_)
      obtain ⟨v2, k2⟩ := q2
      have u2 : ∀ x : Nat, x < 12288 → tb S2 44 x = if p * 512 + pl j n 0 ≤ x ∧ x < p * 512 + pl j n 0 + (topf (decide (0 ≤ m)) n + 1) then 0 else tb s 44 x := fun x hx => by
        show (S2 44 (x : Int)).toNat = _
        rw [v2 x hx]; split <;> rfl
      refine hk S2 ⟨fun x hx => ?_, fun n' k a b d => ?_, fun x hx hne => ?_, kept.trans k1 k2⟩
      · rw [v2 x hx]
        split
        · exact ⟨0, rfl, Nat.zero_le _⟩
        · exact n1 x hx
      · have tn' : topf (decide (0 ≤ m)) n' ≤ n' := topf_le
        rw [u2 _ (rb hp hj (by omega) (by omega))]
        by_cases e : n' = n
        · subst e; rw [if_pos (by unfold pl; omega)]
        · rw [v1 n' k (by omega) b d]; split <;> rfl
      · rw [u2 x hx, if_neg, o1 x hx (fun n' k a b d => hne n' k (by omega) b d)]
        rintro ⟨c1, c2⟩
        exact hne n (x - (p * 512 + pl j n 0)) (by omega) (by omega) (by omega) (by unfold pl at c1 c2 ⊢; omega)
    · obtain ⟨n1, v1, o1, k1⟩ := hI
      have e2 : s 2 0 = M 1 := by rw [k1.cell 2 (by decide) (by decide)]; exact hG.1.1
      try dsimp only
      rw [mX0_clearRows_40_10, e2, gd_t (by omega), if_pos (by omega), wp_some]
      exact ⟨n1, fun n k a b => v1 n k (by omega) a b, fun x hx hne => o1 x hx (fun n k a b c => hne n k b c), k1⟩
  refine wp_mono (loopW (fun f v s => mX0_clearRows_40_2 (p : Int) f v s) (fun J S' => nb S' 44 12288 HH ∧ (∀ j n k : Nat, j < J → j ≤ 7 → n ≤ (M 1).toNat → k ≤ topf (decide (0 ≤ m)) n → tb S' 44 (p * 512 + pl j n k) = 0) ∧ (∀ x : Nat, x < 12288 → (∀ j n k : Nat, j < J → j ≤ 7 → n ≤ (M 1).toNat → k ≤ topf (decide (0 ≤ m)) n → x ≠ p * 512 + pl j n k) → tb S' 44 x = tb S 44 x) ∧ kept [44] [] S S') (fun S' => nb S' 44 12288 HH ∧ (∀ j n k : Nat, j ≤ 7 → n ≤ (M 1).toNat → k ≤ topf (decide (0 ≤ m)) n → tb S' 44 (p * 512 + pl j n k) = 0) ∧ (∀ x : Nat, x < 12288 → (∀ j n k : Nat, j ≤ 7 → n ≤ (M 1).toNat → k ≤ topf (decide (0 ≤ m)) n → x ≠ p * 512 + pl j n k) → tb S' 44 x = tb S 44 x) ∧ kept [44] [] S S') 8 (fun j f s hj hI hk => ?_) (fun f s hI => ?_) 8 0 FU S (by omega) (by unfold FU; omega) ⟨hR, fun j n k a => by omega, fun _ _ _ => rfl, kept.rf⟩) (fun S1 q => ?_)
  · obtain ⟨n1, v1, o1, k1⟩ := hI
    try dsimp only at hk ⊢
    have eC := (congrFun (k1.cell 40 (by decide) (by decide)) 1).trans h1
    have hG' : GM s M := hG.of (fun i a b => k1.cell i (by simp; omega) (by simp))
    rw [mX0_clearRows_40_2, gd_t (by omega), if_neg (by omega), wp_bd1]
    refine wp_mono (in10 j s (by omega) hG' eC n1) (fun S2 q2 => ?_)
    obtain ⟨n2, v2, o2, k2⟩ := q2
    refine hk S2 ⟨n2, fun j' n k a b c d => ?_, fun x hx hne => ?_, kept.trans k1 k2⟩
    · have tn : topf (decide (0 ≤ m)) n ≤ n := topf_le
      by_cases e : j' = j
      · subst e; exact v2 n k c d
      · rw [o2 _ (rb hp b (by omega) (by omega)) (fun n' k' x1 x2 x3 => e (by
          have tn' : topf (decide (0 ≤ m)) n' ≤ n' := topf_le
          exact (pl_inj (Nat.add_left_cancel x3) (by omega) (by omega) (by omega) (by omega)).1))]
        exact v1 j' n k (by omega) b c d
    · rw [o2 x hx (fun n k a b => hne j n k (by omega) (by omega) a b)]
      exact o1 x hx (fun j' n k a b => hne j' n k (by omega) b)
  · obtain ⟨n1, v1, o1, k1⟩ := hI
    try dsimp only
    rw [mX0_clearRows_40_2, gd_t (by omega), if_pos (by omega), wp_some]
    exact ⟨n1, fun j n k a b => v1 j n k (by omega) a b, fun x hx hne => o1 x hx (fun j n k a b => hne j n k b), k1⟩
  · obtain ⟨n1, v1, o1, k1⟩ := q
    rw [show (p : Int) * 512 = ((p * 512 + pl 0 0 0 : Nat) : Int) by unfold pl; omega, gd_t (by unfold pl; omega), nx_e, wp_some]
    refine ⟨nb_up (v := 1) n1 HH_pos, fun j n k a b d => ?_, fun x hx hne => ?_, kept.upA k1 (by simp)⟩
    · have tn : topf (decide (0 ≤ m)) n ≤ n := topf_le
      have u := tb_up (S := S1) (i := 44) (k := p * 512 + pl 0 0 0) (v := 1) (j := p * 512 + pl j n k)
      refine Eq.trans u ?_
      by_cases e : j = 0 ∧ n = 0 ∧ k = 0
      · obtain ⟨e1, e2, e3⟩ := e
        subst e1; subst e2; subst e3
        rw [if_pos rfl, if_pos (by omega)]
      · rw [if_neg (fun x => e (by have := pl_inj (Nat.add_left_cancel x) (by omega) (by omega) (by omega) (by omega); omega)), if_neg e]
        exact v1 j n k a b d
    · have u := tb_up (S := S1) (i := 44) (k := p * 512 + pl 0 0 0) (v := 1) (j := x)
      refine Eq.trans u ?_
      rw [if_neg (hne 0 0 0 (by omega) (by omega) (by omega))]
      exact o1 x hx hne
/-! the class's census 40: stages -/
def stQ (M : Int → Int) (R G : Nat → Nat) (p s : Nat) : Prop := ∀ j n : Nat, j ≤ lgM M p → n ≤ (M 1).toNat → G (p * 512 + pl s j n) = if M (48 + (p : Int)) = 0 ∧ j = 0 then min HH (sm (lgM M p + 1) (fun j => tab R p j n 0)) else tab R p j n 0
theorem w_keepStage40 {S : St} {M : Int → Int} {m : Int} {p s : Nat} (h : WF M) (hG : GM S M) (hp2 : (p : Int) < M 2) (hsq : 3 ≤ M (24 + (p : Int)) ∧ M (24 + (p : Int)) ≤ 6) (hs : s ≤ 7) (hm : inI m) (h1 : S 40 1 = m) (hR : nb S 44 12288 HH) (hg : nb S 46 12288 HH) : wp (mX0_keepStage_40 S (p : Int) (s : Int)) (fun S' => nb S' 46 12288 HH ∧ (m = -1 → stQ M (tb S 44) (tb S' 46) p s) ∧ (∀ x : Nat, x < 12288 → (∀ j n : Nat, j ≤ 7 → n ≤ 7 → x ≠ p * 512 + pl s j n) → tb S' 46 x = tb S 46 x) ∧ kept [46] [] S S') := by
  have hM2 := h.2.2.1
  have hM1 := h.2.1
  have hl := lgM_le h hp2 hsq
  have hp : p < 24 := by omega
  have h6 := (h.2.2.2.1 p hp2).2.2.2.2.2 hsq
  have g4 : S 4 (p : Int) = M (48 + (p : Int)) := (hG.2.1 p hp2).2.2.1 (by omega)
  have i49 : ∀ (n : Nat) (S : St), n ≤ (M 1).toNat → GM S M → nb S 44 12288 HH → nb S 46 12288 HH → wp (mX0_keepStage_40_49 (n : Int) ((p * 512 + pl s 0 0 : Nat) : Int) (p : Int) FU 0 0 S) (fun o => o.1 = ((min HH (sm (lgM M p + 1) (fun j => tab (tb S 44) p j n 0)) : Nat) : Int) ∧ nb o.2 46 12288 HH ∧ (∀ j : Nat, j ≤ lgM M p → tb o.2 46 (p * 512 + pl s j n) = tab (tb S 44) p j n 0) ∧ (∀ x : Nat, x < 12288 → (∀ j : Nat, j ≤ lgM M p → x ≠ p * 512 + pl s j n) → tb o.2 46 x = tb S 46 x) ∧ kept [46] [] S o.2) := by
    intro n S hn hG hR hg
    refine loopW (fun f v (s' : Int × St) => mX0_keepStage_40_49 (n : Int) ((p * 512 + pl s 0 0 : Nat) : Int) (p : Int) f v s'.1 s'.2) (fun J o => o.1 = ((min HH (sm J (fun j => tab (tb S 44) p j n 0)) : Nat) : Int) ∧ nb o.2 46 12288 HH ∧ (∀ j : Nat, j < J → tb o.2 46 (p * 512 + pl s j n) = tab (tb S 44) p j n 0) ∧ (∀ x : Nat, x < 12288 → (∀ j : Nat, j < J → x ≠ p * 512 + pl s j n) → tb o.2 46 x = tb S 46 x) ∧ kept [46] [] S o.2) _ (lgM M p + 1) (fun j f s' hj hI hk => ?_) (fun f s' hI => ?_) (lgM M p + 1) 0 FU (0, S) (by omega) (by unfold FU; omega) ⟨rfl, hg, fun j a => by omega, fun _ _ _ => rfl, kept.rf⟩
    · obtain ⟨a, s'⟩ := s'
      obtain ⟨a1, n1, v1, o1, k1⟩ := hI
      dsimp only at hk a1 n1 v1 o1 k1 ⊢
      subst a1
      have hG' : GM s' M := hG.of (fun i a b => k1.cell i (by simp; omega) (by simp))
      have eR := k1.cell 44 (by decide) (by decide)
      have b := hR.at (rb hp (show j ≤ 7 by omega) (show n ≤ 7 by omega) (show 0 ≤ 7 by omega))
      have b2 := rb (p := p) (j := s) (n := j) (k := n) hp (by omega) (by omega) (by omega)
      have b3 := rb (p := p) (j := j) (n := n) (k := 0) hp (by omega) (by omega) (by omega)
      rw [mX0_keepStage_40_49, bd1_e (e_longest40 h hG' hp2 hsq), gd_t (by omega), if_neg (by omega), show (p : Int) * 512 + (j : Int) * 64 + (n : Int) * 8 = ((p * 512 + pl j n 0 : Nat) : Int) by unfold pl; omega, gd_t (by omega), nx_e, eR, b.1, show ((p * 512 + pl s 0 0 : Nat) : Int) + (j : Int) * 8 + (n : Int) = ((p * 512 + pl s j n : Nat) : Int) by unfold pl; omega, gd_t (by omega), nx_e, bd1_e (e_plusH min_le' b.2)]
      refine hk (_, _) ⟨?_, nb_up n1 b.2, fun j' a => ?_, fun x hx hne => ?_, kept.upA k1 (by simp)⟩
      · rw [sm_s]
        show ((min HH (min HH (sm j fun j => tab (tb S 44) p j n 0) + tab (tb S 44) p j n 0) : Nat) : Int) = _
        congr 1
        omega
      · show tb (up s' 46 _ _) 46 _ = _
        rw [tb_up]
        by_cases e : j' = j
        · subst e; rw [if_pos rfl]; rfl
        · rw [if_neg (fun x => e (pl_inj (Nat.add_left_cancel x) (by omega) (by omega) (by omega) (by omega)).2.1)]
          exact v1 j' (by omega)
      · show tb (up s' 46 _ _) 46 _ = _
        rw [tb_up, if_neg (hne j (by omega))]
        exact o1 x hx (fun j' a => hne j' (by omega))
    · obtain ⟨a, s'⟩ := s'
      obtain ⟨a1, n1, v1, o1, k1⟩ := hI
      dsimp only at a1 n1 v1 o1 k1 ⊢
      have hG' : GM s' M := hG.of (fun i a b => k1.cell i (by simp; omega) (by simp))
      rw [mX0_keepStage_40_49, bd1_e (e_longest40 h hG' hp2 hsq), gd_t (by omega), if_pos (by omega), wp_some]
      exact ⟨a1, n1, fun j a => v1 j (by omega), fun x hx hne => o1 x hx (fun j a => hne j (by omega)), k1⟩
  unfold mX0_keepStage_40
  rw [h1, gd_t hm]
  by_cases z : m = -1
  · rw [if_pos z, nx_e, wp_bd1, show (p : Int) * 512 + (s : Int) * 64 = ((p * 512 + pl s 0 0 : Nat) : Int) by unfold pl; omega]
    refine wp_mono (loopW (fun f v s' => mX0_keepStage_40_31 ((p * 512 + pl s 0 0 : Nat) : Int) (p : Int) f v s') (fun N S' => nb S' 46 12288 HH ∧ (∀ j n : Nat, j ≤ lgM M p → n < N → tb S' 46 (p * 512 + pl s j n) = if M (48 + (p : Int)) = 0 ∧ j = 0 then min HH (sm (lgM M p + 1) (fun j => tab (tb S 44) p j n 0)) else tab (tb S 44) p j n 0) ∧ (∀ x : Nat, x < 12288 → (∀ j n : Nat, j ≤ lgM M p → n < N → x ≠ p * 512 + pl s j n) → tb S' 46 x = tb S 46 x) ∧ kept [46] [] S S') (fun S' => nb S' 46 12288 HH ∧ stQ M (tb S 44) (tb S' 46) p s ∧ (∀ x : Nat, x < 12288 → (∀ j n : Nat, j ≤ 7 → n ≤ 7 → x ≠ p * 512 + pl s j n) → tb S' 46 x = tb S 46 x) ∧ kept [46] [] S S') ((M 1).toNat + 1) (fun n f s' hn hI hk => ?_) (fun f s' hI => ?_) ((M 1).toNat + 1) 0 FU S (by omega) (by unfold FU; omega) ⟨hg, fun j n a b => by omega, fun _ _ _ => rfl, kept.rf⟩) (fun S' q => by rw [wp_some]; exact ⟨q.1, fun _ => q.2.1, q.2.2⟩)
    · obtain ⟨n1, v1, o1, k1⟩ := hI
      try dsimp only at hk ⊢
      have hG' : GM s' M := hG.of (fun i a b => k1.cell i (by simp; omega) (by simp))
      have eR := k1.cell 44 (by decide) (by decide)
      have tR : tb s' 44 = tb S 44 := by funext j; unfold tb; rw [eR]
      rw [mX0_keepStage_40_31, hG'.1.1, gd_t (by omega), if_neg (by omega), wp_bd2]
      refine wp_mono (i49 n s' (by omega) hG' (by intro j hj; rw [eR]; exact hR j hj) n1) (fun o q => ?_)
      obtain ⟨y, S2⟩ := o
      obtain ⟨y1, n2, v2, o2, k2⟩ := q
      dsimp only at y1 n2 v2 o2 k2 ⊢
      rw [tR] at y1 v2
      have f4 : S2 4 (p : Int) = M (48 + (p : Int)) := by rw [k2.cell 4 (by decide) (by decide), k1.cell 4 (by decide) (by decide)]; exact g4
      have b2 := rb (p := p) (j := s) (n := 0) (k := n) hp (by omega) (by omega) (by omega)
      have old : ∀ j' n' : Nat, j' ≤ lgM M p → n' < n → tb S2 46 (p * 512 + pl s j' n') = tb s' 46 (p * 512 + pl s j' n') := fun j' n' a b => o2 _ (rb hp (by omega) (by omega) (by omega)) (fun j3 x1 x2 => by have := (pl_inj (Nat.add_left_cancel x2) (by omega) (by omega) (by omega) (by omega)).2.2; omega)
      rw [gd_t (by omega), gd_t (by rw [f4]; omega)]
      by_cases w : M (48 + (p : Int)) = 0
      · rw [if_pos (by rw [f4]; exact w), show ((p * 512 + pl s 0 0 : Nat) : Int) + (n : Int) = ((p * 512 + pl s 0 n : Nat) : Int) by unfold pl; omega, gd_t (by omega), nx_e, y1]
        refine hk _ ⟨nb_up n2 min_le', fun j' n' a b => ?_, fun x hx hne => ?_, kept.upA (kept.trans k1 k2) (by simp)⟩
        · rw [tb_up]
          by_cases e : j' = 0 ∧ n' = n
          · obtain ⟨e1, e2⟩ := e
            subst e1; subst e2
            rw [if_pos rfl, if_pos ⟨w, rfl⟩]
          · rw [if_neg (fun x => e (by have := pl_inj (Nat.add_left_cancel x) (by omega) (by omega) (by omega) (by omega); omega))]
            by_cases e2 : n' = n
            · subst e2
              rw [v2 j' a, if_neg (by omega)]
            · rw [old j' n' a (by omega), v1 j' n' a (by omega)]
        · rw [tb_up, if_neg (hne 0 n (by omega) (by omega)), o2 x hx (fun j' a => hne j' n a (by omega))]
          exact o1 x hx (fun j' n' a b => hne j' n' a (by omega))
      · rw [if_neg (by rw [f4]; exact w)]
        refine hk _ ⟨n2, fun j' n' a b => ?_, fun x hx hne => ?_, kept.trans k1 k2⟩
        · by_cases e2 : n' = n
          · subst e2
            rw [v2 j' a, if_neg (by omega)]
          · rw [old j' n' a (by omega), v1 j' n' a (by omega)]
        · rw [o2 x hx (fun j' a => hne j' n a (by omega))]
          exact o1 x hx (fun j' n' a b => hne j' n' a (by omega))
    · obtain ⟨n1, v1, o1, k1⟩ := hI
      have hG' : GM s' M := hG.of (fun i a b => k1.cell i (by simp; omega) (by simp))
      try dsimp only
      rw [mX0_keepStage_40_31, hG'.1.1, gd_t (by omega), if_pos (by omega), wp_some]
      exact ⟨n1, fun j n a b => v1 j n a (by omega), fun x hx hne => o1 x hx (fun j n a b => hne j n (by omega) (by omega)), k1⟩
  · rw [if_neg z, wp_some]
    exact ⟨hg, fun e => absurd e z, fun _ _ _ => rfl, kept.rf⟩
theorem w_keepStage48 {S : St} {m a b : Int} (hm : inI m) (h1 : S 48 1 = m) : mX0_keepStage_48 S a b = some S := by
  unfold mX0_keepStage_48
  rw [h1, gd_t hm]
  split <;> rfl
