/-! the class's study -/
def hasR (M : Int → Int) (sort : Int) (X : Nat → Nat) (p : Nat) : Nat := if M (24 + (p : Int)) = 7 then eO M X gdT (6 + p) else if 3 ≤ M (24 + (p : Int)) ∧ M (24 + (p : Int)) ≤ 6 then X (M (72 + (p : Int))).toNat else if M (24 + (p : Int)) = sort then 2 ^ (M (48 + (p : Int))).toNat else 0
def leaR (M : Int → Int) (F : Nat → Bool) (X : Nat → Nat) (p : Nat) : Nat := if M (24 + (p : Int)) = 7 then eO M X (gdL M F (6 + p)) (6 + p) else if 3 ≤ M (24 + (p : Int)) ∧ M (24 + (p : Int)) ≤ 6 then (if M (48 + (p : Int)) ≤ 1 then X (M (72 + (p : Int))).toNat else 0) else if M (24 + (p : Int)) = 2 then 2 ^ (M (48 + (p : Int))).toNat else 0
theorem hasR_cg {M : Int → Int} {sort : Int} {X X' : Nat → Nat} {p : Nat} (h : WF M) (hp : (p : Int) < M 2) (hX : ∀ q : Nat, p < q → (q : Int) < M 2 → X q = X' q) : hasR M sort X p = hasR M sort X' p := by
  obtain ⟨h1, h2, h3, h4, h5, h6⟩ := h.2.2.2.1 p hp
  unfold hasR
  by_cases s7 : M (24 + (p : Int)) = 7
  · rw [if_pos s7, if_pos s7]
    exact eO_cg (lo := p + 1) h (by rw [Int.natCast_add]; exact (h5 s7).2.2) (fun q a b => hX q (by omega) b) (fun _ _ => rfl)
  · rw [if_neg s7, if_neg s7]
    by_cases sq : 3 ≤ M (24 + (p : Int)) ∧ M (24 + (p : Int)) ≤ 6
    · have := h6 sq
      rw [if_pos sq, if_pos sq, hX _ (by omega) (by omega)]
    · rw [if_neg sq, if_neg sq]
theorem leaR_cg {M : Int → Int} {F : Nat → Bool} {X X' : Nat → Nat} {p : Nat} (h : WF M) (hp : (p : Int) < M 2) (hX : ∀ q : Nat, p < q → (q : Int) < M 2 → X q = X' q) : leaR M F X p = leaR M F X' p := by
  obtain ⟨h1, h2, h3, h4, h5, h6⟩ := h.2.2.2.1 p hp
  unfold leaR
  by_cases s7 : M (24 + (p : Int)) = 7
  · rw [if_pos s7, if_pos s7]
    exact eO_cg (lo := p + 1) h (by rw [Int.natCast_add]; exact (h5 s7).2.2) (fun q a b => hX q (by omega) b) (fun _ _ => rfl)
  · rw [if_neg s7, if_neg s7]
    by_cases sq : 3 ≤ M (24 + (p : Int)) ∧ M (24 + (p : Int)) ≤ 6
    · have := h6 sq
      rw [if_pos sq, if_pos sq, hX _ (by omega) (by omega)]
    · rw [if_neg sq, if_neg sq]
theorem tb_upo {S : St} {i j k v : Nat} (h : j ≠ i) : tb (up S i (k : Int) (v : Int)) j = tb S j := by funext x; unfold tb; rw [up_n h]
theorem w_studyPart33 {S : St} {M : Int → Int} {p : Nat} (h : WF M) (hG : GM S M) (hc : c0133 S) (hp : (p : Int) < M 2) (na : nb S 34 24 B30) (nb' : nb S 35 24 B30) (nc : nb S 36 24 B30) : wp (mX3_studyPart_33 S (p : Int)) (fun S' => (nb S' 34 24 B30 ∧ nb S' 35 24 B30 ∧ nb S' 36 24 B30) ∧ (∀ q : Nat, tb S' 34 q = if q = p then leaR M (cf33 S) (tb S 34) p else tb S 34 q) ∧ (∀ q : Nat, tb S' 35 q = if q = p then hasR M 2 (tb S 35) p else tb S 35 q) ∧ (∀ q : Nat, tb S' 36 q = if q = p then hasR M 0 (tb S 36) p else tb S 36 q) ∧ kept [34, 35, 36] [] S S') := by
  have hM2 := h.2.2.1
  have hM0 := h.1
  obtain ⟨h1, h2, h3, h4, h5, h6⟩ := h.2.2.2.1 p hp
  obtain ⟨g3, g6, g4, g4', g5, g5'⟩ := hG.2.1 p hp
  have g3 : S 3 (p : Int) = M (24 + (p : Int)) := g3
  have g4 : M (24 + (p : Int)) ≠ 7 → S 4 (p : Int) = M (48 + (p : Int)) := g4
  have g5 : 3 ≤ M (24 + (p : Int)) ∧ M (24 + (p : Int)) ≤ 6 → S 5 (p : Int) = M (72 + (p : Int)) := g5
  have g5' : ¬ (3 ≤ M (24 + (p : Int)) ∧ M (24 + (p : Int)) ≤ 6) → S 5 (p : Int) = -1 := g5'
  -- the three cells of the part
  have three : ∀ x y z : Nat, x < 2 ^ 30 → y < 2 ^ 30 → z < 2 ^ 30 → x = leaR M (cf33 S) (tb S 34) p → y = hasR M 2 (tb S 35) p → z = hasR M 0 (tb S 36) p → (nb (up (up (up S 34 (p : Int) (x : Int)) 35 (p : Int) (y : Int)) 36 (p : Int) (z : Int)) 34 24 B30 ∧ nb (up (up (up S 34 (p : Int) (x : Int)) 35 (p : Int) (y : Int)) 36 (p : Int) (z : Int)) 35 24 B30 ∧ nb (up (up (up S 34 (p : Int) (x : Int)) 35 (p : Int) (y : Int)) 36 (p : Int) (z : Int)) 36 24 B30) ∧ (∀ q : Nat, tb (up (up (up S 34 (p : Int) (x : Int)) 35 (p : Int) (y : Int)) 36 (p : Int) (z : Int)) 34 q = if q = p then leaR M (cf33 S) (tb S 34) p else tb S 34 q) ∧ (∀ q : Nat, tb (up (up (up S 34 (p : Int) (x : Int)) 35 (p : Int) (y : Int)) 36 (p : Int) (z : Int)) 35 q = if q = p then hasR M 2 (tb S 35) p else tb S 35 q) ∧ (∀ q : Nat, tb (up (up (up S 34 (p : Int) (x : Int)) 35 (p : Int) (y : Int)) 36 (p : Int) (z : Int)) 36 q = if q = p then hasR M 0 (tb S 36) p else tb S 36 q) ∧ kept [34, 35, 36] [] S (up (up (up S 34 (p : Int) (x : Int)) 35 (p : Int) (y : Int)) 36 (p : Int) (z : Int)) := by
    intro x y z bx by' bz ex ey ez
    refine ⟨⟨?_, ?_, ?_⟩, fun q => ?_, fun q => ?_, fun q => ?_, kept.upA (kept.upA (kept.upA kept.rf (by simp)) (by simp)) (by simp)⟩
    · intro j hj; rw [up_n (by decide), up_n (by decide)]; exact nb_up na (le30 bx) j hj
    · intro j hj; rw [up_n (by decide)]; exact nb_up (by intro j hj; rw [up_n (by decide)]; exact nb' j hj) (le30 by') j hj
    · exact nb_up (by intro j hj; rw [up_n (by decide), up_n (by decide)]; exact nc j hj) (le30 bz)
    · rw [tb_upo (by decide), tb_upo (by decide), tb_up, ex]
    · rw [tb_upo (by decide), tb_up, ey, tb_upo (by decide)]
    · rw [tb_up, ez, tb_upo (by decide), tb_upo (by decide)]
  have bla := bX_nb h na
  have blb := bX_nb h nb'
  have blc := bX_nb h nc
  unfold mX3_studyPart_33
  rw [gd_t (by omega), nx_e, nx_e, g3, gd_t (by omega)]
  by_cases s7 : M (24 + (p : Int)) = 7
  · obtain ⟨q1, q2, q3⟩ := h5 s7
    have e1 := el33 (e := 6 + p) h hG hc na (by omega) (by omega) q3
    have x1 := eO_lt (g := gdL M (cf33 S) (6 + p)) h bla (by omega) q3
    have x2 := eO_lt (g := gdT) h blb (by omega) q3
    have x3 := eO_lt (g := gdT) h blc (by omega) q3
    rw [if_pos s7, nx_e, show (6 : Int) + (p : Int) = ((6 + p : Nat) : Int) by omega, bd1_e e1, nx_e]
    have hG1 : GM (up S 34 (p : Int) ((eO M (tb S 34) (gdL M (cf33 S) (6 + p)) (6 + p) : Nat) : Int)) M := hG.of (fun i a b => up_n (by omega))
    have e2 := eh33_35 (e := 6 + p) h hG1 (by intro j hj; rw [up_n (by decide)]; exact nb' j hj) (by omega) (by omega) q3
    rw [tb_upo (by decide)] at e2
    rw [bd1_e e2, nx_e]
    have hG2 : GM (up (up S 34 (p : Int) ((eO M (tb S 34) (gdL M (cf33 S) (6 + p)) (6 + p) : Nat) : Int)) 35 (p : Int) ((eO M (tb S 35) gdT (6 + p) : Nat) : Int)) M := hG1.of (fun i a b => up_n (by omega))
    have e3 := eh33_36 (e := 6 + p) h hG2 (by intro j hj; rw [up_n (by decide), up_n (by decide)]; exact nc j hj) (by omega) (by omega) q3
    rw [tb_upo (by decide), tb_upo (by decide)] at e3
    rw [bd1_e e3, nx_e, wp_some]
    exact three _ _ _ x1 x2 x3 (by unfold leaR; rw [if_pos s7]) (by unfold hasR; rw [if_pos s7]) (by unfold hasR; rw [if_pos s7])
  rw [if_neg s7]
  by_cases sq : 3 ≤ M (24 + (p : Int)) ∧ M (24 + (p : Int)) ≤ 6
  · have h6' := h6 sq
    obtain ⟨c, hcc⟩ : ∃ c : Nat, M (72 + (p : Int)) = (c : Int) := ⟨(M (72 + (p : Int))).toNat, by omega⟩
    rw [g5 sq, hcc, gd_t (by omega), if_neg (by omega), g4 s7]
    have va := (na.at (show c < 24 by omega)).1
    have vb := (nb'.at (show c < 24 by omega)).1
    have vc := (nc.at (show c < 24 by omega)).1
    have z17 : (gd (inI (M (48 + (p : Int)))) <| if 1 < M (48 + (p : Int)) then (some (0 : Int)) else (gd (0 ≤ (c : Int) ∧ (c : Int) < 24) <| some (S 34 (c : Int)))) = some (((if M (48 + (p : Int)) ≤ 1 then tb S 34 c else 0 : Nat)) : Int) := by
      rw [gd_t (by omega)]
      by_cases w : M (48 + (p : Int)) ≤ 1
      · rw [if_neg (by omega), if_pos w, gd_t (by omega), va]
      · rw [if_pos (by omega), if_neg w]; rfl
    rw [bd1_e z17, nx_e, gd_t (by omega), nx_e, nx_e, wp_some]
    have f1 : up S 34 (p : Int) (((if M (48 + (p : Int)) ≤ 1 then tb S 34 c else 0 : Nat)) : Int) 35 (c : Int) = ((tb S 35 c : Nat) : Int) := by rw [up_n (by decide)]; exact vb
    rw [f1]
    have f2 : up (up S 34 (p : Int) (((if M (48 + (p : Int)) ≤ 1 then tb S 34 c else 0 : Nat)) : Int)) 35 (p : Int) ((tb S 35 c : Nat) : Int) 36 (c : Int) = ((tb S 36 c : Nat) : Int) := by rw [up_n (by decide), up_n (by decide)]; exact vc
    rw [f2]
    refine three _ _ _ (by split; exact bla c (by omega); exact Nat.two_pow_pos 30) (blb c (by omega)) (blc c (by omega)) ?_ ?_ ?_
    · unfold leaR; rw [if_neg s7, if_pos sq, hcc]; rfl
    · unfold hasR; rw [if_neg s7, if_pos sq, hcc]; rfl
    · unfold hasR; rw [if_neg s7, if_pos sq, hcc]; rfl
  · rw [g5' sq, gd_t (by decide), if_pos rfl, g4 s7]
    have pw : ∀ k : Nat, k < 26 → 2 ^ k < 2 ^ 30 := fun k hk => Nat.pow_lt_pow_right (by decide) (by omega)
    have l0 : leaR M (cf33 S) (tb S 34) p = if M (24 + (p : Int)) = 2 then 2 ^ (M (48 + (p : Int))).toNat else 0 := by unfold leaR; rw [if_neg s7, if_neg sq]
    have l1 : ∀ (so : Int) (X : Nat → Nat), hasR M so X p = if M (24 + (p : Int)) = so then 2 ^ (M (48 + (p : Int))).toNat else 0 := fun so X => by unfold hasR; rw [if_neg s7, if_neg sq]
    by_cases s2 : M (24 + (p : Int)) = 2
    · have v2 := h4 s2
      obtain ⟨k, hk⟩ : ∃ k : Nat, M (48 + (p : Int)) = (k : Int) := ⟨(M (48 + (p : Int))).toNat, by omega⟩
      rw [bd1_e (show (if M (24 + (p : Int)) = 2 then (some (shl 1 (M (48 + (p : Int))))) else (some 0)) = some ((2 ^ k : Nat) : Int) by rw [if_pos s2, hk, shl1 (by omega)]), nx_e, nx_e, if_neg (by omega), nx_e, wp_some]
      rw [show up S 34 (p : Int) ((2 ^ k : Nat) : Int) 34 (p : Int) = ((2 ^ k : Nat) : Int) from up_eq]
      have := three (2 ^ k) (2 ^ k) 0 (pw k (by omega)) (pw k (by omega)) (Nat.two_pow_pos 30) (by rw [l0, if_pos s2, hk]; rfl) (by rw [l1, if_pos s2, hk]; rfl) (by rw [l1, if_neg (by omega)])
      exact this
    · rw [bd1_e (show (if M (24 + (p : Int)) = 2 then (some (shl 1 (M (48 + (p : Int))))) else (some 0)) = some ((0 : Nat) : Int) by rw [if_neg s2]; rfl), nx_e, nx_e]
      rw [show up S 34 (p : Int) ((0 : Nat) : Int) 34 (p : Int) = ((0 : Nat) : Int) from up_eq]
      by_cases s0 : M (24 + (p : Int)) = 0
      · have v0 := h3 s0
        obtain ⟨k, hk⟩ : ∃ k : Nat, M (48 + (p : Int)) = (k : Int) := ⟨(M (48 + (p : Int))).toNat, by omega⟩
        have f4 : up (up S 34 (p : Int) ((0 : Nat) : Int)) 35 (p : Int) ((0 : Nat) : Int) 4 (p : Int) = (k : Int) := by rw [up_n (by decide), up_n (by decide), g4 s7, hk]
        rw [if_pos s0, f4, shl1 (by omega), nx_e, wp_some]
        exact three 0 0 (2 ^ k) (Nat.two_pow_pos 30) (Nat.two_pow_pos 30) (pw k (by omega)) (by rw [l0, if_neg s2]) (by rw [l1, if_neg s2]) (by rw [l1, if_pos s0, hk]; rfl)
      · rw [if_neg s0, nx_e, wp_some]
        exact three 0 0 0 (Nat.two_pow_pos 30) (Nat.two_pow_pos 30) (Nat.two_pow_pos 30) (by rw [l0, if_neg s2]) (by rw [l1, if_neg s2]) (by rw [l1, if_neg s0])
/-- what study leaves -/
def stuOK33 (M : Int → Int) (S : St) : Prop := (c0133 S ∧ lfE M (cf33 S)) ∧ (nb S 34 24 B30 ∧ nb S 35 24 B30 ∧ nb S 36 24 B30) ∧ (nb S 37 6 B30 ∧ nb S 38 6 B30 ∧ nb S 39 6 B30) ∧ (leaEq M (cf33 S) (tb S 34) ∧ hasEq M 2 (tb S 35) ∧ hasEq M 0 (tb S 36)) ∧ (∀ e : Nat, (e : Int) < M 0 → tb S 37 e = eO M (tb S 34) (gdL M (cf33 S) e) e ∧ tb S 38 e = eO M (tb S 35) gdT e ∧ tb S 39 e = eO M (tb S 36) gdT e)
theorem w_study33 {S : St} {M : Int → Int} (h : WF M) (hG : GM S M) (na : nb S 34 24 B30) (nb' : nb S 35 24 B30) (nc : nb S 36 24 B30) (nd : nb S 37 6 B30) (ne : nb S 38 6 B30) (nf : nb S 39 6 B30) : wp (mX3_study_33 S) (fun S' => stuOK33 M S' ∧ kept [34, 35, 36, 37, 38, 39] [(33, 1), (33, 2)] S S') := by
  have hM2 := h.2.2.1
  have hM0 := h.1
  have gcl : ∀ S' : St, kept [34, 35, 36, 37, 38, 39] [(33, 1), (33, 2)] S S' → GM S' M := fun S' k => hG.of (fun i a b => k.cell _ (by simp; omega) (by simp; omega))
  unfold mX3_study_33
  rw [wp_bd1]
  refine wp_mono (w_findEmpty33 h hG) (fun S1 q1 => ?_)
  obtain ⟨c1, l1, k1⟩ := q1
  have k1' : kept [34, 35, 36, 37, 38, 39] [(33, 1), (33, 2)] S S1 := k1.mono (by simp) (by simp)
  have cfk : ∀ S' : St, (∀ k, S' 33 k = S1 33 k) → c0133 S' ∧ cf33 S' = cf33 S1 := fun S' e => by
    refine ⟨?_, ?_⟩
    · unfold c0133; rw [e, e]; exact c1
    · funext x; unfold cf33; rw [e, e]
  have g3 : S1 2 3 = M 2 := (gcl S1 k1').1.2.2.2
  rw [nx_e, g3, wp_bd1]
  refine wp_mono (loopD (fun f v s => mX3_study_33_14 f v s) (fun v S' => v < M 2 ∧ (nb S' 34 24 B30 ∧ nb S' 35 24 B30 ∧ nb S' 36 24 B30) ∧ (∀ q : Nat, v < (q : Int) → (q : Int) < M 2 → tb S' 34 q = leaR M (cf33 S1) (tb S' 34) q ∧ tb S' 35 q = hasR M 2 (tb S' 35) q ∧ tb S' 36 q = hasR M 0 (tb S' 36) q) ∧ kept [34, 35, 36] [] S1 S') (fun S' => (nb S' 34 24 B30 ∧ nb S' 35 24 B30 ∧ nb S' 36 24 B30) ∧ (∀ q : Nat, (q : Int) < M 2 → tb S' 34 q = leaR M (cf33 S1) (tb S' 34) q ∧ tb S' 35 q = hasR M 2 (tb S' 35) q ∧ tb S' 36 q = hasR M 0 (tb S' 36) q) ∧ kept [34, 35, 36] [] S1 S') 0 (fun v f s hv hI hk => ?_) (fun f s hI => ?_) (M 2).toNat FU (M 2 - 1) S1 (by omega) (by unfold FU; omega) ⟨by omega, ⟨by intro j hj; rw [k1.cell 34 (by decide) (by decide)]; exact na j hj, by intro j hj; rw [k1.cell 35 (by decide) (by decide)]; exact nb' j hj, by intro j hj; rw [k1.cell 36 (by decide) (by decide)]; exact nc j hj⟩, fun q a b => by omega, kept.rf⟩) (fun S2 q2 => ?_)
  · obtain ⟨v0, ⟨a1, a2, a3⟩, eqs, kk⟩ := hI
    try dsimp only at hk ⊢
    obtain ⟨p, rfl⟩ := Int.eq_ofNat_of_zero_le hv
    have kS : kept [34, 35, 36, 37, 38, 39] [(33, 1), (33, 2)] S s := kept.trans k1' (kk.mono (by simp) (by simp))
    obtain ⟨cs, es⟩ := cfk s (fun k => by rw [kk.cell 33 (by decide) (by decide)])
    rw [mX3_study_33_14, gd_t (by omega), if_neg (by omega), wp_bd1]
    refine wp_mono (w_studyPart33 h (gcl s kS) cs v0 a1 a2 a3) (fun S3 q3 => ?_)
    obtain ⟨n3, ea, eb', ec, k3⟩ := q3
    rw [es] at ea
    have oa : ∀ q : Nat, q ≠ p → tb S3 34 q = tb s 34 q := fun q e => by rw [ea, if_neg e]
    have ob : ∀ q : Nat, q ≠ p → tb S3 35 q = tb s 35 q := fun q e => by rw [eb', if_neg e]
    have oc : ∀ q : Nat, q ≠ p → tb S3 36 q = tb s 36 q := fun q e => by rw [ec, if_neg e]
    refine hk S3 ⟨by omega, n3, fun q a b => ?_, kept.trans kk k3⟩
    have ca : leaR M (cf33 S1) (tb s 34) q = leaR M (cf33 S1) (tb S3 34) q := leaR_cg h b (fun r x y => (oa r (by omega)).symm)
    have cb : hasR M 2 (tb s 35) q = hasR M 2 (tb S3 35) q := hasR_cg h b (fun r x y => (ob r (by omega)).symm)
    have cc : hasR M 0 (tb s 36) q = hasR M 0 (tb S3 36) q := hasR_cg h b (fun r x y => (oc r (by omega)).symm)
    by_cases e : q = p
    · subst e
      exact ⟨by rw [← ca, ea, if_pos rfl], by rw [← cb, eb', if_pos rfl], by rw [← cc, ec, if_pos rfl]⟩
    · have := eqs q (by omega) b
      exact ⟨by rw [← ca, oa q e]; exact this.1, by rw [← cb, ob q e]; exact this.2.1, by rw [← cc, oc q e]; exact this.2.2⟩
  · obtain ⟨v0, a1, eqs, kk⟩ := hI
    try dsimp only
    rw [mX3_study_33_14, gd_t (by omega), if_pos (by omega), wp_some]
    exact ⟨a1, fun q a => eqs q (by omega) a, kk⟩
  · obtain ⟨⟨a1, a2, a3⟩, eqs, k2⟩ := q2
    rw [wp_bd1]
    have k2' : kept [34, 35, 36, 37, 38, 39] [(33, 1), (33, 2)] S S2 := kept.trans k1' (k2.mono (by simp) (by simp))
    have eL : ∀ k, S2 33 k = S1 33 k := fun k => by rw [k2.cell 33 (by decide) (by decide)]
    refine wp_mono (loopW (fun f v s => mX3_study_33_31 f v s) (fun E S' => (nb S' 37 6 B30 ∧ nb S' 38 6 B30 ∧ nb S' 39 6 B30) ∧ (∀ e : Nat, e < E → tb S' 37 e = eO M (tb S2 34) (gdL M (cf33 S1) e) e ∧ tb S' 38 e = eO M (tb S2 35) gdT e ∧ tb S' 39 e = eO M (tb S2 36) gdT e) ∧ kept [37, 38, 39] [] S2 S') (fun S' => stuOK33 M S' ∧ kept [34, 35, 36, 37, 38, 39] [(33, 1), (33, 2)] S S') (M 0).toNat (fun e f s he hI hk => ?_) (fun f s hI => ?_) (M 0).toNat 0 FU S2 (by omega) (by unfold FU; omega) ⟨⟨by intro j hj; rw [k2.cell 37 (by decide) (by decide), k1.cell 37 (by decide) (by decide)]; exact nd j hj, by intro j hj; rw [k2.cell 38 (by decide) (by decide), k1.cell 38 (by decide) (by decide)]; exact ne j hj, by intro j hj; rw [k2.cell 39 (by decide) (by decide), k1.cell 39 (by decide) (by decide)]; exact nf j hj⟩, fun e a => by omega, kept.rf⟩) (fun S' q => by rw [wp_some]; exact q)
    · obtain ⟨⟨n1, n2, n3⟩, v1, kk⟩ := hI
      try dsimp only at hk ⊢
      have hE := h.2.2.2.2.1 e (by omega)
      have kS : kept [34, 35, 36, 37, 38, 39] [(33, 1), (33, 2)] S s := kept.trans k2' (kk.mono (by simp) (by simp))
      obtain ⟨cs, es⟩ := cfk s (fun k => by rw [kk.cell 33 (by decide) (by decide), eL])
      have ta : tb s 34 = tb S2 34 := by funext j; unfold tb; rw [kk.cell 34 (by decide) (by decide)]
      have tb' : tb s 35 = tb S2 35 := by funext j; unfold tb; rw [kk.cell 35 (by decide) (by decide)]
      have tc : tb s 36 = tb S2 36 := by funext j; unfold tb; rw [kk.cell 36 (by decide) (by decide)]
      have ma : nb s 34 24 B30 := by intro j hj; rw [kk.cell 34 (by decide) (by decide)]; exact a1 j hj
      have mb : nb s 35 24 B30 := by intro j hj; rw [kk.cell 35 (by decide) (by decide)]; exact a2 j hj
      have mc : nb s 36 24 B30 := by intro j hj; rw [kk.cell 36 (by decide) (by decide)]; exact a3 j hj
      have g1 : s 2 1 = M 0 := (gcl s kS).1.2.1
      have e1 := el33 (e := e) (lo := 0) h (gcl s kS) cs ma (by omega) (by omega) hE
      rw [es, ta] at e1
      have x1 := eO_lt (g := gdL M (cf33 S1) e) h (bX_nb h a1) (show (0 : Int) ≤ 0 by omega) hE
      have x2 := eO_lt (g := gdT) h (bX_nb h a2) (show (0 : Int) ≤ 0 by omega) hE
      have x3 := eO_lt (g := gdT) h (bX_nb h a3) (show (0 : Int) ≤ 0 by omega) hE
      rw [mX3_study_33_31, g1, gd_t (by omega), if_neg (by omega), bd1_e e1, gd_t (by omega), nx_e]
      have hG1 : GM (up s 37 (e : Int) ((eO M (tb S2 34) (gdL M (cf33 S1) e) e : Nat) : Int)) M := (gcl s kS).of (fun i a b => up_n (by omega))
      have e2 := eh33_35 (e := e) (lo := 0) h hG1 (by intro j hj; rw [up_n (by decide)]; exact mb j hj) (by omega) (by omega) hE
      rw [tb_upo (by decide), tb'] at e2
      rw [bd1_e e2, nx_e]
      have hG2 : GM (up (up s 37 (e : Int) ((eO M (tb S2 34) (gdL M (cf33 S1) e) e : Nat) : Int)) 38 (e : Int) ((eO M (tb S2 35) gdT e : Nat) : Int)) M := hG1.of (fun i a b => up_n (by omega))
      have e3 := eh33_36 (e := e) (lo := 0) h hG2 (by intro j hj; rw [up_n (by decide), up_n (by decide)]; exact mc j hj) (by omega) (by omega) hE
      rw [tb_upo (by decide), tb_upo (by decide), tc] at e3
      rw [bd1_e e3, nx_e]
      refine hk _ ⟨⟨?_, ?_, ?_⟩, fun e' a => ⟨?_, ?_, ?_⟩, kept.upA (kept.upA (kept.upA kk (by simp)) (by simp)) (by simp)⟩
      · intro j hj; rw [up_n (by decide), up_n (by decide)]; exact nb_up n1 (le30 x1) j hj
      · intro j hj; rw [up_n (by decide)]; exact nb_up (by intro j hj; rw [up_n (by decide)]; exact n2 j hj) (le30 x2) j hj
      · exact nb_up (by intro j hj; rw [up_n (by decide), up_n (by decide)]; exact n3 j hj) (le30 x3)
      · rw [tb_upo (by decide), tb_upo (by decide), tb_up]
        by_cases w : e' = e
        · subst w; rw [if_pos rfl]
        · rw [if_neg w]; exact (v1 e' (by omega)).1
      · rw [tb_upo (by decide), tb_up, tb_upo (by decide)]
        by_cases w : e' = e
        · subst w; rw [if_pos rfl]
        · rw [if_neg w]; exact (v1 e' (by omega)).2.1
      · rw [tb_up, tb_upo (by decide), tb_upo (by decide)]
        by_cases w : e' = e
        · subst w; rw [if_pos rfl]
        · rw [if_neg w]; exact (v1 e' (by omega)).2.2
    · obtain ⟨nn', v1, kk⟩ := hI
      try dsimp only
      have kS : kept [34, 35, 36, 37, 38, 39] [(33, 1), (33, 2)] S s := kept.trans k2' (kk.mono (by simp) (by simp))
      have g1 : s 2 1 = M 0 := (gcl s kS).1.2.1
      obtain ⟨cs, es⟩ := cfk s (fun k => by rw [kk.cell 33 (by decide) (by decide), eL])
      have ta : tb s 34 = tb S2 34 := by funext j; unfold tb; rw [kk.cell 34 (by decide) (by decide)]
      have tb' : tb s 35 = tb S2 35 := by funext j; unfold tb; rw [kk.cell 35 (by decide) (by decide)]
      have tc : tb s 36 = tb S2 36 := by funext j; unfold tb; rw [kk.cell 36 (by decide) (by decide)]
      rw [mX3_study_33_31, g1, gd_t (by omega), if_pos (by omega), wp_some]
      refine ⟨⟨⟨cs, by rw [es]; exact l1⟩, ⟨?_, ?_, ?_⟩, nn', ⟨?_, ?_, ?_⟩, fun e a => ?_⟩, kS⟩
      · intro j hj; rw [kk.cell 34 (by decide) (by decide)]; exact a1 j hj
      · intro j hj; rw [kk.cell 35 (by decide) (by decide)]; exact a2 j hj
      · intro j hj; rw [kk.cell 36 (by decide) (by decide)]; exact a3 j hj
      · rw [es, ta]; exact fun p hp => (eqs p hp).1
      · rw [tb']; exact fun p hp => (eqs p hp).2.1
      · rw [tc]; exact fun p hp => (eqs p hp).2.2
      · rw [es, ta, tb', tc]; exact v1 e (by omega)
theorem w_studyPart26 {S : St} {M : Int → Int} {p : Nat} (h : WF M) (hG : GM (sh11 S) M) (hc : c0126 S) (hp : (p : Int) < M 2) (na : nb S 27 24 B30) (nb' : nb S 28 24 B30) (nc : nb S 29 24 B30) : wp (mX3_studyPart_26 S (p : Int)) (fun S' => (nb S' 27 24 B30 ∧ nb S' 28 24 B30 ∧ nb S' 29 24 B30) ∧ (∀ q : Nat, tb S' 27 q = if q = p then leaR M (cf26 S) (tb S 27) p else tb S 27 q) ∧ (∀ q : Nat, tb S' 28 q = if q = p then hasR M 2 (tb S 28) p else tb S 28 q) ∧ (∀ q : Nat, tb S' 29 q = if q = p then hasR M 0 (tb S 29) p else tb S 29 q) ∧ kept [27, 28, 29] [] S S') := by
  have hM2 := h.2.2.1
  have hM0 := h.1
  obtain ⟨h1, h2, h3, h4, h5, h6⟩ := h.2.2.2.1 p hp
  obtain ⟨g3, g6, g4, g4', g5, g5'⟩ := hG.2.1 p hp
  have g3 : S 14 (p : Int) = M (24 + (p : Int)) := g3
  have g4 : M (24 + (p : Int)) ≠ 7 → S 15 (p : Int) = M (48 + (p : Int)) := g4
  have g5 : 3 ≤ M (24 + (p : Int)) ∧ M (24 + (p : Int)) ≤ 6 → S 16 (p : Int) = M (72 + (p : Int)) := g5
  have g5' : ¬ (3 ≤ M (24 + (p : Int)) ∧ M (24 + (p : Int)) ≤ 6) → S 16 (p : Int) = -1 := g5'
  -- the three cells of the part
  have three : ∀ x y z : Nat, x < 2 ^ 30 → y < 2 ^ 30 → z < 2 ^ 30 → x = leaR M (cf26 S) (tb S 27) p → y = hasR M 2 (tb S 28) p → z = hasR M 0 (tb S 29) p → (nb (up (up (up S 27 (p : Int) (x : Int)) 28 (p : Int) (y : Int)) 29 (p : Int) (z : Int)) 27 24 B30 ∧ nb (up (up (up S 27 (p : Int) (x : Int)) 28 (p : Int) (y : Int)) 29 (p : Int) (z : Int)) 28 24 B30 ∧ nb (up (up (up S 27 (p : Int) (x : Int)) 28 (p : Int) (y : Int)) 29 (p : Int) (z : Int)) 29 24 B30) ∧ (∀ q : Nat, tb (up (up (up S 27 (p : Int) (x : Int)) 28 (p : Int) (y : Int)) 29 (p : Int) (z : Int)) 27 q = if q = p then leaR M (cf26 S) (tb S 27) p else tb S 27 q) ∧ (∀ q : Nat, tb (up (up (up S 27 (p : Int) (x : Int)) 28 (p : Int) (y : Int)) 29 (p : Int) (z : Int)) 28 q = if q = p then hasR M 2 (tb S 28) p else tb S 28 q) ∧ (∀ q : Nat, tb (up (up (up S 27 (p : Int) (x : Int)) 28 (p : Int) (y : Int)) 29 (p : Int) (z : Int)) 29 q = if q = p then hasR M 0 (tb S 29) p else tb S 29 q) ∧ kept [27, 28, 29] [] S (up (up (up S 27 (p : Int) (x : Int)) 28 (p : Int) (y : Int)) 29 (p : Int) (z : Int)) := by
    intro x y z bx by' bz ex ey ez
    refine ⟨⟨?_, ?_, ?_⟩, fun q => ?_, fun q => ?_, fun q => ?_, kept.upA (kept.upA (kept.upA kept.rf (by simp)) (by simp)) (by simp)⟩
    · intro j hj; rw [up_n (by decide), up_n (by decide)]; exact nb_up na (le30 bx) j hj
    · intro j hj; rw [up_n (by decide)]; exact nb_up (by intro j hj; rw [up_n (by decide)]; exact nb' j hj) (le30 by') j hj
    · exact nb_up (by intro j hj; rw [up_n (by decide), up_n (by decide)]; exact nc j hj) (le30 bz)
    · rw [tb_upo (by decide), tb_upo (by decide), tb_up, ex]
    · rw [tb_upo (by decide), tb_up, ey, tb_upo (by decide)]
    · rw [tb_up, ez, tb_upo (by decide), tb_upo (by decide)]
  have bla := bX_nb h na
  have blb := bX_nb h nb'
  have blc := bX_nb h nc
  unfold mX3_studyPart_26
  rw [gd_t (by omega), nx_e, nx_e, g3, gd_t (by omega)]
  by_cases s7 : M (24 + (p : Int)) = 7
  · obtain ⟨q1, q2, q3⟩ := h5 s7
    have e1 := el26 (e := 6 + p) h hG hc na (by omega) (by omega) q3
    have x1 := eO_lt (g := gdL M (cf26 S) (6 + p)) h bla (by omega) q3
    have x2 := eO_lt (g := gdT) h blb (by omega) q3
    have x3 := eO_lt (g := gdT) h blc (by omega) q3
    rw [if_pos s7, nx_e, show (6 : Int) + (p : Int) = ((6 + p : Nat) : Int) by omega, bd1_e e1, nx_e]
    have hG1 : GM (sh11 (up S 27 (p : Int) ((eO M (tb S 27) (gdL M (cf26 S) (6 + p)) (6 + p) : Nat) : Int))) M := hG.of (fun i a b => up_n (by omega))
    have e2 := eh26_28 (e := 6 + p) h hG1 (by intro j hj; rw [up_n (by decide)]; exact nb' j hj) (by omega) (by omega) q3
    rw [tb_upo (by decide)] at e2
    rw [bd1_e e2, nx_e]
    have hG2 : GM (sh11 (up (up S 27 (p : Int) ((eO M (tb S 27) (gdL M (cf26 S) (6 + p)) (6 + p) : Nat) : Int)) 28 (p : Int) ((eO M (tb S 28) gdT (6 + p) : Nat) : Int))) M := hG1.of (fun i a b => up_n (by omega))
    have e3 := eh26_29 (e := 6 + p) h hG2 (by intro j hj; rw [up_n (by decide), up_n (by decide)]; exact nc j hj) (by omega) (by omega) q3
    rw [tb_upo (by decide), tb_upo (by decide)] at e3
    rw [bd1_e e3, nx_e, wp_some]
    exact three _ _ _ x1 x2 x3 (by unfold leaR; rw [if_pos s7]) (by unfold hasR; rw [if_pos s7]) (by unfold hasR; rw [if_pos s7])
  rw [if_neg s7]
  by_cases sq : 3 ≤ M (24 + (p : Int)) ∧ M (24 + (p : Int)) ≤ 6
  · have h6' := h6 sq
    obtain ⟨c, hcc⟩ : ∃ c : Nat, M (72 + (p : Int)) = (c : Int) := ⟨(M (72 + (p : Int))).toNat, by omega⟩
    rw [g5 sq, hcc, gd_t (by omega), if_neg (by omega), g4 s7]
    have va := (na.at (show c < 24 by omega)).1
    have vb := (nb'.at (show c < 24 by omega)).1
    have vc := (nc.at (show c < 24 by omega)).1
    have z17 : (gd (inI (M (48 + (p : Int)))) <| if 1 < M (48 + (p : Int)) then (some (0 : Int)) else (gd (0 ≤ (c : Int) ∧ (c : Int) < 24) <| some (S 27 (c : Int)))) = some (((if M (48 + (p : Int)) ≤ 1 then tb S 27 c else 0 : Nat)) : Int) := by
      rw [gd_t (by omega)]
      by_cases w : M (48 + (p : Int)) ≤ 1
      · rw [if_neg (by omega), if_pos w, gd_t (by omega), va]
      · rw [if_pos (by omega), if_neg w]; rfl
    rw [bd1_e z17, nx_e, gd_t (by omega), nx_e, nx_e, wp_some]
    have f1 : up S 27 (p : Int) (((if M (48 + (p : Int)) ≤ 1 then tb S 27 c else 0 : Nat)) : Int) 28 (c : Int) = ((tb S 28 c : Nat) : Int) := by rw [up_n (by decide)]; exact vb
    rw [f1]
    have f2 : up (up S 27 (p : Int) (((if M (48 + (p : Int)) ≤ 1 then tb S 27 c else 0 : Nat)) : Int)) 28 (p : Int) ((tb S 28 c : Nat) : Int) 29 (c : Int) = ((tb S 29 c : Nat) : Int) := by rw [up_n (by decide), up_n (by decide)]; exact vc
    rw [f2]
    refine three _ _ _ (by split; exact bla c (by omega); exact Nat.two_pow_pos 30) (blb c (by omega)) (blc c (by omega)) ?_ ?_ ?_
    · unfold leaR; rw [if_neg s7, if_pos sq, hcc]; rfl
    · unfold hasR; rw [if_neg s7, if_pos sq, hcc]; rfl
    · unfold hasR; rw [if_neg s7, if_pos sq, hcc]; rfl
  · rw [g5' sq, gd_t (by decide), if_pos rfl, g4 s7]
    have pw : ∀ k : Nat, k < 26 → 2 ^ k < 2 ^ 30 := fun k hk => Nat.pow_lt_pow_right (by decide) (by omega)
    have l0 : leaR M (cf26 S) (tb S 27) p = if M (24 + (p : Int)) = 2 then 2 ^ (M (48 + (p : Int))).toNat else 0 := by unfold leaR; rw [if_neg s7, if_neg sq]
    have l1 : ∀ (so : Int) (X : Nat → Nat), hasR M so X p = if M (24 + (p : Int)) = so then 2 ^ (M (48 + (p : Int))).toNat else 0 := fun so X => by unfold hasR; rw [if_neg s7, if_neg sq]
    by_cases s2 : M (24 + (p : Int)) = 2
    · have v2 := h4 s2
      obtain ⟨k, hk⟩ : ∃ k : Nat, M (48 + (p : Int)) = (k : Int) := ⟨(M (48 + (p : Int))).toNat, by omega⟩
      rw [bd1_e (show (if M (24 + (p : Int)) = 2 then (some (shl 1 (M (48 + (p : Int))))) else (some 0)) = some ((2 ^ k : Nat) : Int) by rw [if_pos s2, hk, shl1 (by omega)]), nx_e, nx_e, if_neg (by omega), nx_e, wp_some]
      rw [show up S 27 (p : Int) ((2 ^ k : Nat) : Int) 27 (p : Int) = ((2 ^ k : Nat) : Int) from up_eq]
      have := three (2 ^ k) (2 ^ k) 0 (pw k (by omega)) (pw k (by omega)) (Nat.two_pow_pos 30) (by rw [l0, if_pos s2, hk]; rfl) (by rw [l1, if_pos s2, hk]; rfl) (by rw [l1, if_neg (by omega)])
      exact this
    · rw [bd1_e (show (if M (24 + (p : Int)) = 2 then (some (shl 1 (M (48 + (p : Int))))) else (some 0)) = some ((0 : Nat) : Int) by rw [if_neg s2]; rfl), nx_e, nx_e]
      rw [show up S 27 (p : Int) ((0 : Nat) : Int) 27 (p : Int) = ((0 : Nat) : Int) from up_eq]
      by_cases s0 : M (24 + (p : Int)) = 0
      · have v0 := h3 s0
        obtain ⟨k, hk⟩ : ∃ k : Nat, M (48 + (p : Int)) = (k : Int) := ⟨(M (48 + (p : Int))).toNat, by omega⟩
        have f4 : up (up S 27 (p : Int) ((0 : Nat) : Int)) 28 (p : Int) ((0 : Nat) : Int) 15 (p : Int) = (k : Int) := by rw [up_n (by decide), up_n (by decide), g4 s7, hk]
        rw [if_pos s0, f4, shl1 (by omega), nx_e, wp_some]
        exact three 0 0 (2 ^ k) (Nat.two_pow_pos 30) (Nat.two_pow_pos 30) (pw k (by omega)) (by rw [l0, if_neg s2]) (by rw [l1, if_neg s2]) (by rw [l1, if_pos s0, hk]; rfl)
      · rw [if_neg s0, nx_e, wp_some]
        exact three 0 0 0 (Nat.two_pow_pos 30) (Nat.two_pow_pos 30) (Nat.two_pow_pos 30) (by rw [l0, if_neg s2]) (by rw [l1, if_neg s2]) (by rw [l1, if_neg s0])
/-- what study leaves -/
def stuOK26 (M : Int → Int) (S : St) : Prop := (c0126 S ∧ lfE M (cf26 S)) ∧ (nb S 27 24 B30 ∧ nb S 28 24 B30 ∧ nb S 29 24 B30) ∧ (nb S 30 6 B30 ∧ nb S 31 6 B30 ∧ nb S 32 6 B30) ∧ (leaEq M (cf26 S) (tb S 27) ∧ hasEq M 2 (tb S 28) ∧ hasEq M 0 (tb S 29)) ∧ (∀ e : Nat, (e : Int) < M 0 → tb S 30 e = eO M (tb S 27) (gdL M (cf26 S) e) e ∧ tb S 31 e = eO M (tb S 28) gdT e ∧ tb S 32 e = eO M (tb S 29) gdT e)
theorem w_study26 {S : St} {M : Int → Int} (h : WF M) (hG : GM (sh11 S) M) (na : nb S 27 24 B30) (nb' : nb S 28 24 B30) (nc : nb S 29 24 B30) (nd : nb S 30 6 B30) (ne : nb S 31 6 B30) (nf : nb S 32 6 B30) : wp (mX3_study_26 S) (fun S' => stuOK26 M S' ∧ kept [27, 28, 29, 30, 31, 32] [(26, 1), (26, 2)] S S') := by
  have hM2 := h.2.2.1
  have hM0 := h.1
  have gcl : ∀ S' : St, kept [27, 28, 29, 30, 31, 32] [(26, 1), (26, 2)] S S' → GM (sh11 S') M := fun S' k => hG.of (fun i a b => k.cell _ (by simp; omega) (by simp; omega))
  unfold mX3_study_26
  rw [wp_bd1]
  refine wp_mono (w_findEmpty26 h hG) (fun S1 q1 => ?_)
  obtain ⟨c1, l1, k1⟩ := q1
  have k1' : kept [27, 28, 29, 30, 31, 32] [(26, 1), (26, 2)] S S1 := k1.mono (by simp) (by simp)
  have cfk : ∀ S' : St, (∀ k, S' 26 k = S1 26 k) → c0126 S' ∧ cf26 S' = cf26 S1 := fun S' e => by
    refine ⟨?_, ?_⟩
    · unfold c0126; rw [e, e]; exact c1
    · funext x; unfold cf26; rw [e, e]
  have g3 : S1 13 3 = M 2 := (gcl S1 k1').1.2.2.2
  rw [nx_e, g3, wp_bd1]
  refine wp_mono (loopD (fun f v s => mX3_study_26_14 f v s) (fun v S' => v < M 2 ∧ (nb S' 27 24 B30 ∧ nb S' 28 24 B30 ∧ nb S' 29 24 B30) ∧ (∀ q : Nat, v < (q : Int) → (q : Int) < M 2 → tb S' 27 q = leaR M (cf26 S1) (tb S' 27) q ∧ tb S' 28 q = hasR M 2 (tb S' 28) q ∧ tb S' 29 q = hasR M 0 (tb S' 29) q) ∧ kept [27, 28, 29] [] S1 S') (fun S' => (nb S' 27 24 B30 ∧ nb S' 28 24 B30 ∧ nb S' 29 24 B30) ∧ (∀ q : Nat, (q : Int) < M 2 → tb S' 27 q = leaR M (cf26 S1) (tb S' 27) q ∧ tb S' 28 q = hasR M 2 (tb S' 28) q ∧ tb S' 29 q = hasR M 0 (tb S' 29) q) ∧ kept [27, 28, 29] [] S1 S') 0 (fun v f s hv hI hk => ?_) (fun f s hI => ?_) (M 2).toNat FU (M 2 - 1) S1 (by omega) (by unfold FU; omega) ⟨by omega, ⟨by intro j hj; rw [k1.cell 27 (by decide) (by decide)]; exact na j hj, by intro j hj; rw [k1.cell 28 (by decide) (by decide)]; exact nb' j hj, by intro j hj; rw [k1.cell 29 (by decide) (by decide)]; exact nc j hj⟩, fun q a b => by omega, kept.rf⟩) (fun S2 q2 => ?_)
  · obtain ⟨v0, ⟨a1, a2, a3⟩, eqs, kk⟩ := hI
    try dsimp only at hk ⊢
    obtain ⟨p, rfl⟩ := Int.eq_ofNat_of_zero_le hv
    have kS : kept [27, 28, 29, 30, 31, 32] [(26, 1), (26, 2)] S s := kept.trans k1' (kk.mono (by simp) (by simp))
    obtain ⟨cs, es⟩ := cfk s (fun k => by rw [kk.cell 26 (by decide) (by decide)])
    rw [mX3_study_26_14, gd_t (by omega), if_neg (by omega), wp_bd1]
    refine wp_mono (w_studyPart26 h (gcl s kS) cs v0 a1 a2 a3) (fun S3 q3 => ?_)
    obtain ⟨n3, ea, eb', ec, k3⟩ := q3
    rw [es] at ea
    have oa : ∀ q : Nat, q ≠ p → tb S3 27 q = tb s 27 q := fun q e => by rw [ea, if_neg e]
    have ob : ∀ q : Nat, q ≠ p → tb S3 28 q = tb s 28 q := fun q e => by rw [eb', if_neg e]
    have oc : ∀ q : Nat, q ≠ p → tb S3 29 q = tb s 29 q := fun q e => by rw [ec, if_neg e]
    refine hk S3 ⟨by omega, n3, fun q a b => ?_, kept.trans kk k3⟩
    have ca : leaR M (cf26 S1) (tb s 27) q = leaR M (cf26 S1) (tb S3 27) q := leaR_cg h b (fun r x y => (oa r (by omega)).symm)
    have cb : hasR M 2 (tb s 28) q = hasR M 2 (tb S3 28) q := hasR_cg h b (fun r x y => (ob r (by omega)).symm)
    have cc : hasR M 0 (tb s 29) q = hasR M 0 (tb S3 29) q := hasR_cg h b (fun r x y => (oc r (by omega)).symm)
    by_cases e : q = p
    · subst e
      exact ⟨by rw [← ca, ea, if_pos rfl], by rw [← cb, eb', if_pos rfl], by rw [← cc, ec, if_pos rfl]⟩
    · have := eqs q (by omega) b
      exact ⟨by rw [← ca, oa q e]; exact this.1, by rw [← cb, ob q e]; exact this.2.1, by rw [← cc, oc q e]; exact this.2.2⟩
  · obtain ⟨v0, a1, eqs, kk⟩ := hI
    try dsimp only
    rw [mX3_study_26_14, gd_t (by omega), if_pos (by omega), wp_some]
    exact ⟨a1, fun q a => eqs q (by omega) a, kk⟩
  · obtain ⟨⟨a1, a2, a3⟩, eqs, k2⟩ := q2
    rw [wp_bd1]
    have k2' : kept [27, 28, 29, 30, 31, 32] [(26, 1), (26, 2)] S S2 := kept.trans k1' (k2.mono (by simp) (by simp))
    have eL : ∀ k, S2 26 k = S1 26 k := fun k => by rw [k2.cell 26 (by decide) (by decide)]
    refine wp_mono (loopW (fun f v s => mX3_study_26_31 f v s) (fun E S' => (nb S' 30 6 B30 ∧ nb S' 31 6 B30 ∧ nb S' 32 6 B30) ∧ (∀ e : Nat, e < E → tb S' 30 e = eO M (tb S2 27) (gdL M (cf26 S1) e) e ∧ tb S' 31 e = eO M (tb S2 28) gdT e ∧ tb S' 32 e = eO M (tb S2 29) gdT e) ∧ kept [30, 31, 32] [] S2 S') (fun S' => stuOK26 M S' ∧ kept [27, 28, 29, 30, 31, 32] [(26, 1), (26, 2)] S S') (M 0).toNat (fun e f s he hI hk => ?_) (fun f s hI => ?_) (M 0).toNat 0 FU S2 (by omega) (by unfold FU; omega) ⟨⟨by intro j hj; rw [k2.cell 30 (by decide) (by decide), k1.cell 30 (by decide) (by decide)]; exact nd j hj, by intro j hj; rw [k2.cell 31 (by decide) (by decide), k1.cell 31 (by decide) (by decide)]; exact ne j hj, by intro j hj; rw [k2.cell 32 (by decide) (by decide), k1.cell 32 (by decide) (by decide)]; exact nf j hj⟩, fun e a => by omega, kept.rf⟩) (fun S' q => by rw [wp_some]; exact q)
    · obtain ⟨⟨n1, n2, n3⟩, v1, kk⟩ := hI
      try dsimp only at hk ⊢
      have hE := h.2.2.2.2.1 e (by omega)
      have kS : kept [27, 28, 29, 30, 31, 32] [(26, 1), (26, 2)] S s := kept.trans k2' (kk.mono (by simp) (by simp))
      obtain ⟨cs, es⟩ := cfk s (fun k => by rw [kk.cell 26 (by decide) (by decide), eL])
      have ta : tb s 27 = tb S2 27 := by funext j; unfold tb; rw [kk.cell 27 (by decide) (by decide)]
      have tb' : tb s 28 = tb S2 28 := by funext j; unfold tb; rw [kk.cell 28 (by decide) (by decide)]
      have tc : tb s 29 = tb S2 29 := by funext j; unfold tb; rw [kk.cell 29 (by decide) (by decide)]
      have ma : nb s 27 24 B30 := by intro j hj; rw [kk.cell 27 (by decide) (by decide)]; exact a1 j hj
      have mb : nb s 28 24 B30 := by intro j hj; rw [kk.cell 28 (by decide) (by decide)]; exact a2 j hj
      have mc : nb s 29 24 B30 := by intro j hj; rw [kk.cell 29 (by decide) (by decide)]; exact a3 j hj
      have g1 : s 13 1 = M 0 := (gcl s kS).1.2.1
      have e1 := el26 (e := e) (lo := 0) h (gcl s kS) cs ma (by omega) (by omega) hE
      rw [es, ta] at e1
      have x1 := eO_lt (g := gdL M (cf26 S1) e) h (bX_nb h a1) (show (0 : Int) ≤ 0 by omega) hE
      have x2 := eO_lt (g := gdT) h (bX_nb h a2) (show (0 : Int) ≤ 0 by omega) hE
      have x3 := eO_lt (g := gdT) h (bX_nb h a3) (show (0 : Int) ≤ 0 by omega) hE
      rw [mX3_study_26_31, g1, gd_t (by omega), if_neg (by omega), bd1_e e1, gd_t (by omega), nx_e]
      have hG1 : GM (sh11 (up s 30 (e : Int) ((eO M (tb S2 27) (gdL M (cf26 S1) e) e : Nat) : Int))) M := (gcl s kS).of (fun i a b => up_n (by omega))
      have e2 := eh26_28 (e := e) (lo := 0) h hG1 (by intro j hj; rw [up_n (by decide)]; exact mb j hj) (by omega) (by omega) hE
      rw [tb_upo (by decide), tb'] at e2
      rw [bd1_e e2, nx_e]
      have hG2 : GM (sh11 (up (up s 30 (e : Int) ((eO M (tb S2 27) (gdL M (cf26 S1) e) e : Nat) : Int)) 31 (e : Int) ((eO M (tb S2 28) gdT e : Nat) : Int))) M := hG1.of (fun i a b => up_n (by omega))
      have e3 := eh26_29 (e := e) (lo := 0) h hG2 (by intro j hj; rw [up_n (by decide), up_n (by decide)]; exact mc j hj) (by omega) (by omega) hE
      rw [tb_upo (by decide), tb_upo (by decide), tc] at e3
      rw [bd1_e e3, nx_e]
      refine hk _ ⟨⟨?_, ?_, ?_⟩, fun e' a => ⟨?_, ?_, ?_⟩, kept.upA (kept.upA (kept.upA kk (by simp)) (by simp)) (by simp)⟩
      · intro j hj; rw [up_n (by decide), up_n (by decide)]; exact nb_up n1 (le30 x1) j hj
      · intro j hj; rw [up_n (by decide)]; exact nb_up (by intro j hj; rw [up_n (by decide)]; exact n2 j hj) (le30 x2) j hj
      · exact nb_up (by intro j hj; rw [up_n (by decide), up_n (by decide)]; exact n3 j hj) (le30 x3)
      · rw [tb_upo (by decide), tb_upo (by decide), tb_up]
        by_cases w : e' = e
        · subst w; rw [if_pos rfl]
        · rw [if_neg w]; exact (v1 e' (by omega)).1
      · rw [tb_upo (by decide), tb_up, tb_upo (by decide)]
        by_cases w : e' = e
        · subst w; rw [if_pos rfl]
        · rw [if_neg w]; exact (v1 e' (by omega)).2.1
      · rw [tb_up, tb_upo (by decide), tb_upo (by decide)]
        by_cases w : e' = e
        · subst w; rw [if_pos rfl]
        · rw [if_neg w]; exact (v1 e' (by omega)).2.2
    · obtain ⟨nn', v1, kk⟩ := hI
      try dsimp only
      have kS : kept [27, 28, 29, 30, 31, 32] [(26, 1), (26, 2)] S s := kept.trans k2' (kk.mono (by simp) (by simp))
      have g1 : s 13 1 = M 0 := (gcl s kS).1.2.1
      obtain ⟨cs, es⟩ := cfk s (fun k => by rw [kk.cell 26 (by decide) (by decide), eL])
      have ta : tb s 27 = tb S2 27 := by funext j; unfold tb; rw [kk.cell 27 (by decide) (by decide)]
      have tb' : tb s 28 = tb S2 28 := by funext j; unfold tb; rw [kk.cell 28 (by decide) (by decide)]
      have tc : tb s 29 = tb S2 29 := by funext j; unfold tb; rw [kk.cell 29 (by decide) (by decide)]
      rw [mX3_study_26_31, g1, gd_t (by omega), if_pos (by omega), wp_some]
      refine ⟨⟨⟨cs, by rw [es]; exact l1⟩, ⟨?_, ?_, ?_⟩, nn', ⟨?_, ?_, ?_⟩, fun e a => ?_⟩, kS⟩
      · intro j hj; rw [kk.cell 27 (by decide) (by decide)]; exact a1 j hj
      · intro j hj; rw [kk.cell 28 (by decide) (by decide)]; exact a2 j hj
      · intro j hj; rw [kk.cell 29 (by decide) (by decide)]; exact a3 j hj
      · rw [es, ta]; exact fun p hp => (eqs p hp).1
      · rw [tb']; exact fun p hp => (eqs p hp).2.1
      · rw [tc]; exact fun p hp => (eqs p hp).2.2
      · rw [es, ta, tb', tc]; exact v1 e (by omega)
