/-! the class's census 48: cells -/
theorem e_ltop48 {S : St} {m : Int} {n : Nat} (hm : inI m) (h : S 48 1 = m) : mX0_letterTop_48 S (n : Int) = some ((topf (decide (0 ≤ m)) n : Nat) : Int) := by
  unfold mX0_letterTop_48 topf
  rw [h, gd_t hm]
  by_cases c : m < 0
  · rw [if_pos c]; simp [show ¬ (0 ≤ m) by omega]
  · rw [if_neg c]; simp [show 0 ≤ m by omega]
theorem e_weight48 {S : St} {m : Int} {n i : Nat} (hm : inI m) (h : S 48 1 = m) (hn : n ≤ 7) (hi : i ≤ n) : mX0_weight_48 S (n : Int) (i : Int) = some ((wt (decide (m = -2)) n i : Nat) : Int) := by
  unfold mX0_weight_48 wt
  rw [h, gd_t hm]
  by_cases c : m = -2
  · have := cho_128 (k := i) hn
    rw [if_pos c, gd_t (by omega), ch_tab n i hn hi, gd_t (by omega)]
    simp [c]
  · rw [if_neg c]; simp [c]
theorem w_clr48_50 {S : St} {m : Int} {base n : Nat} (hm : inI m) (h : S 48 1 = m) (hn : n ≤ 7) (hb : base + topf (decide (0 ≤ m)) n < 1536) : wp (mX0_clearCells_48_50 S (base : Int) (n : Int)) (fun S' => (∀ j : Nat, j < 1536 → S' 50 (j : Int) = if base ≤ j ∧ j < base + (topf (decide (0 ≤ m)) n + 1) then 0 else S 50 (j : Int)) ∧ kept [50] [] S S') := by
  have ht : topf (decide (0 ≤ m)) n ≤ 7 := Nat.le_trans topf_le hn
  unfold mX0_clearCells_48_50
  rw [wp_bd1]
  refine wp_mono (fill (X := 50) (N := 1536) (base := base) (top := topf (decide (0 ≤ m)) n) (V := fun _ => 0) (S0 := S) (fun f v s => mX0_clearCells_48_50_3 (base : Int) (n : Int) f v s) hb (fun k f s hk hK hX => ?_) (fun f s hK => ?_) (f := FU) (by unfold FU; omega)) (fun S' q => by rw [wp_some]; exact q)
  · try dsimp only
    rw [mX0_clearCells_48_50_3, bd1_e (e_ltop48 hm ((congrFun (hK.cell 48 (by decide) (by decide)) 1).trans h)), gd_t (by omega), if_neg (by omega), gd_t (by omega), nx_e, show (base : Int) + (k : Int) = ((base + k : Nat) : Int) by omega]
  · try dsimp only
    rw [mX0_clearCells_48_50_3, bd1_e (e_ltop48 hm ((congrFun (hK.cell 48 (by decide) (by decide)) 1).trans h)), gd_t (by omega), if_pos (by omega)]
theorem w_clr48_49 {S : St} {m : Int} {base n : Nat} (hm : inI m) (h : S 48 1 = m) (hn : n ≤ 7) (hb : base + topf (decide (0 ≤ m)) n < 1536) : wp (mX0_clearCells_48_49 S (base : Int) (n : Int)) (fun S' => (∀ j : Nat, j < 1536 → S' 49 (j : Int) = if base ≤ j ∧ j < base + (topf (decide (0 ≤ m)) n + 1) then 0 else S 49 (j : Int)) ∧ kept [49] [] S S') := by
  have ht : topf (decide (0 ≤ m)) n ≤ 7 := Nat.le_trans topf_le hn
  unfold mX0_clearCells_48_49
  rw [wp_bd1]
  refine wp_mono (fill (X := 49) (N := 1536) (base := base) (top := topf (decide (0 ≤ m)) n) (V := fun _ => 0) (S0 := S) (fun f v s => mX0_clearCells_48_49_3 (base : Int) (n : Int) f v s) hb (fun k f s hk hK hX => ?_) (fun f s hK => ?_) (f := FU) (by unfold FU; omega)) (fun S' q => by rw [wp_some]; exact q)
  · try dsimp only
    rw [mX0_clearCells_48_49_3, bd1_e (e_ltop48 hm ((congrFun (hK.cell 48 (by decide) (by decide)) 1).trans h)), gd_t (by omega), if_neg (by omega), gd_t (by omega), nx_e, show (base : Int) + (k : Int) = ((base + k : Nat) : Int) by omega]
  · try dsimp only
    rw [mX0_clearCells_48_49_3, bd1_e (e_ltop48 hm ((congrFun (hK.cell 48 (by decide) (by decide)) 1).trans h)), gd_t (by omega), if_pos (by omega)]
theorem w_clr48_52 {S : St} {m : Int} {base n : Nat} (hm : inI m) (h : S 48 1 = m) (hn : n ≤ 7) (hb : base + topf (decide (0 ≤ m)) n < 12288) : wp (mX0_clearCells_48_52 S (base : Int) (n : Int)) (fun S' => (∀ j : Nat, j < 12288 → S' 52 (j : Int) = if base ≤ j ∧ j < base + (topf (decide (0 ≤ m)) n + 1) then 0 else S 52 (j : Int)) ∧ kept [52] [] S S') := by
  have ht : topf (decide (0 ≤ m)) n ≤ 7 := Nat.le_trans topf_le hn
  unfold mX0_clearCells_48_52
  rw [wp_bd1]
  refine wp_mono (fill (X := 52) (N := 12288) (base := base) (top := topf (decide (0 ≤ m)) n) (V := fun _ => 0) (S0 := S) (fun f v s => mX0_clearCells_48_52_3 (base : Int) (n : Int) f v s) hb (fun k f s hk hK hX => ?_) (fun f s hK => ?_) (f := FU) (by unfold FU; omega)) (fun S' q => by rw [wp_some]; exact q)
  · try dsimp only
    rw [mX0_clearCells_48_52_3, bd1_e (e_ltop48 hm ((congrFun (hK.cell 48 (by decide) (by decide)) 1).trans h)), gd_t (by omega), if_neg (by omega), gd_t (by omega), nx_e, show (base : Int) + (k : Int) = ((base + k : Nat) : Int) by omega]
  · try dsimp only
    rw [mX0_clearCells_48_52_3, bd1_e (e_ltop48 hm ((congrFun (hK.cell 48 (by decide) (by decide)) 1).trans h)), gd_t (by omega), if_pos (by omega)]
theorem w_cpy48_49_50 {S : St} {m : Int} {src base n : Nat} (hm : inI m) (h : S 48 1 = m) (hn : n ≤ 7) (hs : src + topf (decide (0 ≤ m)) n < 1536) (hb : base + topf (decide (0 ≤ m)) n < 1536) : wp (mX0_copyCells_48_49_50 S (src : Int) (base : Int) (n : Int)) (fun S' => (∀ j : Nat, j < 1536 → S' 50 (j : Int) = if base ≤ j ∧ j < base + (topf (decide (0 ≤ m)) n + 1) then S 49 ((src + (j - base) : Nat) : Int) else S 50 (j : Int)) ∧ kept [50] [] S S') := by
  have ht : topf (decide (0 ≤ m)) n ≤ 7 := Nat.le_trans topf_le hn
  unfold mX0_copyCells_48_49_50
  rw [wp_bd1]
  refine wp_mono (fill (X := 50) (N := 1536) (base := base) (top := topf (decide (0 ≤ m)) n) (V := fun k => S 49 ((src + k : Nat) : Int)) (S0 := S) (fun f v s => mX0_copyCells_48_49_50_3 (src : Int) (base : Int) (n : Int) f v s) hb (fun k f s hk hK hX => ?_) (fun f s hK => ?_) (f := FU) (by unfold FU; omega)) (fun S' q => by rw [wp_some]; exact q)
  · try dsimp only
    rw [mX0_copyCells_48_49_50_3, bd1_e (e_ltop48 hm ((congrFun (hK.cell 48 (by decide) (by decide)) 1).trans h)), gd_t (by omega), if_neg (by omega), gd_t (by omega), gd_t (by omega), nx_e, show (base : Int) + (k : Int) = ((base + k : Nat) : Int) by omega, show (src : Int) + (k : Int) = ((src + k : Nat) : Int) by omega, show s 49 = S 49 from hK.cell 49 (by decide) (by decide)]
  · try dsimp only
    rw [mX0_copyCells_48_49_50_3, bd1_e (e_ltop48 hm ((congrFun (hK.cell 48 (by decide) (by decide)) 1).trans h)), gd_t (by omega), if_pos (by omega)]
theorem w_cpy48_51_49 {S : St} {m : Int} {src base n : Nat} (hm : inI m) (h : S 48 1 = m) (hn : n ≤ 7) (hs : src + topf (decide (0 ≤ m)) n < 384) (hb : base + topf (decide (0 ≤ m)) n < 1536) : wp (mX0_copyCells_48_51_49 S (src : Int) (base : Int) (n : Int)) (fun S' => (∀ j : Nat, j < 1536 → S' 49 (j : Int) = if base ≤ j ∧ j < base + (topf (decide (0 ≤ m)) n + 1) then S 51 ((src + (j - base) : Nat) : Int) else S 49 (j : Int)) ∧ kept [49] [] S S') := by
  have ht : topf (decide (0 ≤ m)) n ≤ 7 := Nat.le_trans topf_le hn
  unfold mX0_copyCells_48_51_49
  rw [wp_bd1]
  refine wp_mono (fill (X := 49) (N := 1536) (base := base) (top := topf (decide (0 ≤ m)) n) (V := fun k => S 51 ((src + k : Nat) : Int)) (S0 := S) (fun f v s => mX0_copyCells_48_51_49_3 (src : Int) (base : Int) (n : Int) f v s) hb (fun k f s hk hK hX => ?_) (fun f s hK => ?_) (f := FU) (by unfold FU; omega)) (fun S' q => by rw [wp_some]; exact q)
  · try dsimp only
    rw [mX0_copyCells_48_51_49_3, bd1_e (e_ltop48 hm ((congrFun (hK.cell 48 (by decide) (by decide)) 1).trans h)), gd_t (by omega), if_neg (by omega), gd_t (by omega), gd_t (by omega), nx_e, show (base : Int) + (k : Int) = ((base + k : Nat) : Int) by omega, show (src : Int) + (k : Int) = ((src + k : Nat) : Int) by omega, show s 51 = S 51 from hK.cell 51 (by decide) (by decide)]
  · try dsimp only
    rw [mX0_copyCells_48_51_49_3, bd1_e (e_ltop48 hm ((congrFun (hK.cell 48 (by decide) (by decide)) 1).trans h)), gd_t (by omega), if_pos (by omega)]
theorem w_cpy48_49_49 {S : St} {m : Int} {src base n : Nat} (hm : inI m) (h : S 48 1 = m) (hn : n ≤ 7) (hs : src + topf (decide (0 ≤ m)) n < 1536) (hb : base + topf (decide (0 ≤ m)) n < 1536) (hd : src + topf (decide (0 ≤ m)) n < base ∨ base + topf (decide (0 ≤ m)) n < src) : wp (mX0_copyCells_48_49_49 S (src : Int) (base : Int) (n : Int)) (fun S' => (∀ j : Nat, j < 1536 → S' 49 (j : Int) = if base ≤ j ∧ j < base + (topf (decide (0 ≤ m)) n + 1) then S 49 ((src + (j - base) : Nat) : Int) else S 49 (j : Int)) ∧ kept [49] [] S S') := by
  have ht : topf (decide (0 ≤ m)) n ≤ 7 := Nat.le_trans topf_le hn
  unfold mX0_copyCells_48_49_49
  rw [wp_bd1]
  refine wp_mono (fill (X := 49) (N := 1536) (base := base) (top := topf (decide (0 ≤ m)) n) (V := fun k => S 49 ((src + k : Nat) : Int)) (S0 := S) (fun f v s => mX0_copyCells_48_49_49_3 (src : Int) (base : Int) (n : Int) f v s) hb (fun k f s hk hK hX => ?_) (fun f s hK => ?_) (f := FU) (by unfold FU; omega)) (fun S' q => by rw [wp_some]; exact q)
  · try dsimp only
    rw [mX0_copyCells_48_49_49_3, bd1_e (e_ltop48 hm ((congrFun (hK.cell 48 (by decide) (by decide)) 1).trans h)), gd_t (by omega), if_neg (by omega), gd_t (by omega), gd_t (by omega), nx_e, show (base : Int) + (k : Int) = ((base + k : Nat) : Int) by omega, show (src : Int) + (k : Int) = ((src + k : Nat) : Int) by omega, hX (src + k) (by omega), if_neg (by omega)]
  · try dsimp only
    rw [mX0_copyCells_48_49_49_3, bd1_e (e_ltop48 hm ((congrFun (hK.cell 48 (by decide) (by decide)) 1).trans h)), gd_t (by omega), if_pos (by omega)]
theorem st48_49 {S : St} {M : Int → Int} {e n k : Nat} {lo a4 : Int} (h : WF M) (hG : GM S M) (he : e < 30) (hlo : 0 ≤ lo) (hE : okE M lo e) (hn : n ≤ 7) (hk : k ≤ 7) (hT : nb S 50 1536 HH) : mX0_sumTerms_48_49_19 S (k : Int) (e : Int) (n : Int) a4 FU 0 0 = some ((min HH (xs M (fun p => tb S 50 (pl p n k)) e) : Nat) : Int) := by
  have hM2 := h.2.2.1
  have h8 := hG.2.2.1 e he
  have hm := hE.1
  have key : ∀ d t f : Nat, (t : Int) + d = M (198 + (e : Int)) → d < f → mX0_sumTerms_48_49_19 S (k : Int) (e : Int) (n : Int) a4 f (t : Int) ((min HH (sm t (fun t => if offM M e t then 0 else tb S 50 (pl (fpM M e t).toNat n k))) : Nat) : Int) = some ((min HH (xs M (fun p => tb S 50 (pl p n k)) e) : Nat) : Int) := by
    intro d
    induction d with
    | zero =>
      intro t f ht hf
      obtain ⟨g, rfl⟩ : ∃ g, f = g + 1 := ⟨f - 1, by omega⟩
      rw [mX0_sumTerms_48_49_19, gd_t (by omega), h8, gd_t (by omega), if_pos (by omega)]
      unfold xs
      rw [show (M (198 + (e : Int))).toNat = t by omega]
    | succ d ih =>
      intro t f ht hf
      obtain ⟨g, rfl⟩ : ∃ g, f = g + 1 := ⟨f - 1, by omega⟩
      have l := ih (t + 1) g (by omega) (by omega)
      rw [show ((t + 1 : Nat) : Int) = (t : Int) + 1 by omega, sm_s] at l
      obtain ⟨q1, q2, q3⟩ := e_start2 (t := t) hlo hG he hE (by omega)
      have b : pl (fpM M e t).toNat n k < 1536 := pl_lt2 (N := 24) (by omega) hn hk (by decide)
      have hv := hT.at b
      rw [mX0_sumTerms_48_49_19, gd_t (by omega), h8, gd_t (by omega), if_neg (by omega), bd1_e (e_isOff2 h hG he (by omega))]
      cases ho : offM M e t with
      | true =>
        rw [ho, if_pos rfl, Nat.add_zero] at l
        rw [if_pos rfl, gd_t (by decide), if_neg (by decide)]
        exact l
      | false =>
        rw [ho, if_neg (by decide)] at l
        rw [if_neg (by decide), gd_t (by decide), if_pos rfl, bd1_e q1, show (((fpM M e t).toNat : Nat) : Int) * 64 + (n : Int) * 8 + (k : Int) = ((pl (fpM M e t).toNat n k : Nat) : Int) by unfold pl; omega, gd_t (by omega), hv.1, bd1_e (e_plusH min_le' hv.2)]
        rw [show min HH (min HH (sm t fun t => if offM M e t then 0 else tb S 50 (pl (fpM M e t).toNat n k)) + tb S 50 (pl (fpM M e t).toNat n k)) = min HH ((sm t fun t => if offM M e t then 0 else tb S 50 (pl (fpM M e t).toNat n k)) + tb S 50 (pl (fpM M e t).toNat n k)) by omega]
        exact l
  have l := key (M (198 + (e : Int))).toNat 0 FU (by omega) (by unfold FU; omega)
  exact l
theorem w_sum48_49 {S : St} {M : Int → Int} {m : Int} {e base n : Nat} {lo : Int} (h : WF M) (hG : GM S M) (hm : inI m) (h1 : S 48 1 = m) (he : e < 30) (hlo : 0 ≤ lo) (hE : okE M lo e) (hn : n ≤ 7) (hT : nb S 50 1536 HH) (hb : base + topf (decide (0 ≤ m)) n < 1536) : wp (mX0_sumTerms_48_49 S (e : Int) (n : Int) (base : Int)) (fun S' => (∀ j : Nat, j < 1536 → S' 49 (j : Int) = if base ≤ j ∧ j < base + (topf (decide (0 ≤ m)) n + 1) then ((min HH (xs M (fun p => tb S 50 (pl p n (j - base))) e) : Nat) : Int) else S 49 (j : Int)) ∧ kept [49] [] S S') := by
  have ht : topf (decide (0 ≤ m)) n ≤ 7 := Nat.le_trans topf_le hn
  unfold mX0_sumTerms_48_49
  rw [wp_bd1]
  refine wp_mono (fill (X := 49) (N := 1536) (base := base) (top := topf (decide (0 ≤ m)) n) (V := fun k => ((min HH (xs M (fun p => tb S 50 (pl p n k)) e) : Nat) : Int)) (S0 := S) (fun f v s => mX0_sumTerms_48_49_3 (e : Int) (n : Int) (base : Int) f v s) hb (fun k f s hk hK hX => ?_) (fun f s hK => ?_) (f := FU) (by unfold FU; omega)) (fun S' q => by rw [wp_some]; exact q)
  · try dsimp only
    have eT := hK.cell 50 (by decide) (by decide)
    have tT : tb s 50 = tb S 50 := by funext j; unfold tb; rw [eT]
    rw [mX0_sumTerms_48_49_3, bd1_e (e_ltop48 hm ((congrFun (hK.cell 48 (by decide) (by decide)) 1).trans h1)), gd_t (by omega), if_neg (by omega), bd1_e (st48_49 h (hG.of (fun i a b => hK.cell i (by simp; omega) (by simp))) he hlo hE hn (by omega) (by intro j hj; rw [eT]; exact hT j hj)), gd_t (by omega), nx_e, show (base : Int) + (k : Int) = ((base + k : Nat) : Int) by omega, tT]
  · try dsimp only
    rw [mX0_sumTerms_48_49_3, bd1_e (e_ltop48 hm ((congrFun (hK.cell 48 (by decide) (by decide)) 1).trans h1)), gd_t (by omega), if_pos (by omega)]
theorem st48_51 {S : St} {M : Int → Int} {e n k : Nat} {lo a4 : Int} (h : WF M) (hG : GM S M) (he : e < 30) (hlo : 0 ≤ lo) (hE : okE M lo e) (hn : n ≤ 7) (hk : k ≤ 7) (hT : nb S 50 1536 HH) : mX0_sumTerms_48_51_19 S (k : Int) (e : Int) (n : Int) a4 FU 0 0 = some ((min HH (xs M (fun p => tb S 50 (pl p n k)) e) : Nat) : Int) := by
  have hM2 := h.2.2.1
  have h8 := hG.2.2.1 e he
  have hm := hE.1
  have key : ∀ d t f : Nat, (t : Int) + d = M (198 + (e : Int)) → d < f → mX0_sumTerms_48_51_19 S (k : Int) (e : Int) (n : Int) a4 f (t : Int) ((min HH (sm t (fun t => if offM M e t then 0 else tb S 50 (pl (fpM M e t).toNat n k))) : Nat) : Int) = some ((min HH (xs M (fun p => tb S 50 (pl p n k)) e) : Nat) : Int) := by
    intro d
    induction d with
    | zero =>
      intro t f ht hf
      obtain ⟨g, rfl⟩ : ∃ g, f = g + 1 := ⟨f - 1, by omega⟩
      rw [mX0_sumTerms_48_51_19, gd_t (by omega), h8, gd_t (by omega), if_pos (by omega)]
      unfold xs
      rw [show (M (198 + (e : Int))).toNat = t by omega]
    | succ d ih =>
      intro t f ht hf
      obtain ⟨g, rfl⟩ : ∃ g, f = g + 1 := ⟨f - 1, by omega⟩
      have l := ih (t + 1) g (by omega) (by omega)
      rw [show ((t + 1 : Nat) : Int) = (t : Int) + 1 by omega, sm_s] at l
      obtain ⟨q1, q2, q3⟩ := e_start2 (t := t) hlo hG he hE (by omega)
      have b : pl (fpM M e t).toNat n k < 1536 := pl_lt2 (N := 24) (by omega) hn hk (by decide)
      have hv := hT.at b
      rw [mX0_sumTerms_48_51_19, gd_t (by omega), h8, gd_t (by omega), if_neg (by omega), bd1_e (e_isOff2 h hG he (by omega))]
      cases ho : offM M e t with
      | true =>
        rw [ho, if_pos rfl, Nat.add_zero] at l
        rw [if_pos rfl, gd_t (by decide), if_neg (by decide)]
        exact l
      | false =>
        rw [ho, if_neg (by decide)] at l
        rw [if_neg (by decide), gd_t (by decide), if_pos rfl, bd1_e q1, show (((fpM M e t).toNat : Nat) : Int) * 64 + (n : Int) * 8 + (k : Int) = ((pl (fpM M e t).toNat n k : Nat) : Int) by unfold pl; omega, gd_t (by omega), hv.1, bd1_e (e_plusH min_le' hv.2)]
        rw [show min HH (min HH (sm t fun t => if offM M e t then 0 else tb S 50 (pl (fpM M e t).toNat n k)) + tb S 50 (pl (fpM M e t).toNat n k)) = min HH ((sm t fun t => if offM M e t then 0 else tb S 50 (pl (fpM M e t).toNat n k)) + tb S 50 (pl (fpM M e t).toNat n k)) by omega]
        exact l
  have l := key (M (198 + (e : Int))).toNat 0 FU (by omega) (by unfold FU; omega)
  exact l
theorem w_sum48_51 {S : St} {M : Int → Int} {m : Int} {e base n : Nat} {lo : Int} (h : WF M) (hG : GM S M) (hm : inI m) (h1 : S 48 1 = m) (he : e < 30) (hlo : 0 ≤ lo) (hE : okE M lo e) (hn : n ≤ 7) (hT : nb S 50 1536 HH) (hb : base + topf (decide (0 ≤ m)) n < 384) : wp (mX0_sumTerms_48_51 S (e : Int) (n : Int) (base : Int)) (fun S' => (∀ j : Nat, j < 384 → S' 51 (j : Int) = if base ≤ j ∧ j < base + (topf (decide (0 ≤ m)) n + 1) then ((min HH (xs M (fun p => tb S 50 (pl p n (j - base))) e) : Nat) : Int) else S 51 (j : Int)) ∧ kept [51] [] S S') := by
  have ht : topf (decide (0 ≤ m)) n ≤ 7 := Nat.le_trans topf_le hn
  unfold mX0_sumTerms_48_51
  rw [wp_bd1]
  refine wp_mono (fill (X := 51) (N := 384) (base := base) (top := topf (decide (0 ≤ m)) n) (V := fun k => ((min HH (xs M (fun p => tb S 50 (pl p n k)) e) : Nat) : Int)) (S0 := S) (fun f v s => mX0_sumTerms_48_51_3 (e : Int) (n : Int) (base : Int) f v s) hb (fun k f s hk hK hX => ?_) (fun f s hK => ?_) (f := FU) (by unfold FU; omega)) (fun S' q => by rw [wp_some]; exact q)
  · try dsimp only
    have eT := hK.cell 50 (by decide) (by decide)
    have tT : tb s 50 = tb S 50 := by funext j; unfold tb; rw [eT]
    rw [mX0_sumTerms_48_51_3, bd1_e (e_ltop48 hm ((congrFun (hK.cell 48 (by decide) (by decide)) 1).trans h1)), gd_t (by omega), if_neg (by omega), bd1_e (st48_51 h (hG.of (fun i a b => hK.cell i (by simp; omega) (by simp))) he hlo hE hn (by omega) (by intro j hj; rw [eT]; exact hT j hj)), gd_t (by omega), nx_e, show (base : Int) + (k : Int) = ((base + k : Nat) : Int) by omega, tT]
  · try dsimp only
    rw [mX0_sumTerms_48_51_3, bd1_e (e_ltop48 hm ((congrFun (hK.cell 48 (by decide) (by decide)) 1).trans h1)), gd_t (by omega), if_pos (by omega)]
/-! the class's census 40: cells -/
theorem e_ltop40 {S : St} {m : Int} {n : Nat} (hm : inI m) (h : S 40 1 = m) : mX0_letterTop_40 S (n : Int) = some ((topf (decide (0 ≤ m)) n : Nat) : Int) := by
  unfold mX0_letterTop_40 topf
  rw [h, gd_t hm]
  by_cases c : m < 0
  · rw [if_pos c]; simp [show ¬ (0 ≤ m) by omega]
  · rw [if_neg c]; simp [show 0 ≤ m by omega]
theorem e_weight40 {S : St} {m : Int} {n i : Nat} (hm : inI m) (h : S 40 1 = m) (hn : n ≤ 7) (hi : i ≤ n) : mX0_weight_40 S (n : Int) (i : Int) = some ((wt (decide (m = -2)) n i : Nat) : Int) := by
  unfold mX0_weight_40 wt
  rw [h, gd_t hm]
  by_cases c : m = -2
  · have := cho_128 (k := i) hn
    rw [if_pos c, gd_t (by omega), ch_tab n i hn hi, gd_t (by omega)]
    simp [c]
  · rw [if_neg c]; simp [c]
theorem w_clr40_42 {S : St} {m : Int} {base n : Nat} (hm : inI m) (h : S 40 1 = m) (hn : n ≤ 7) (hb : base + topf (decide (0 ≤ m)) n < 1536) : wp (mX0_clearCells_40_42 S (base : Int) (n : Int)) (fun S' => (∀ j : Nat, j < 1536 → S' 42 (j : Int) = if base ≤ j ∧ j < base + (topf (decide (0 ≤ m)) n + 1) then 0 else S 42 (j : Int)) ∧ kept [42] [] S S') := by
  have ht : topf (decide (0 ≤ m)) n ≤ 7 := Nat.le_trans topf_le hn
  unfold mX0_clearCells_40_42
  rw [wp_bd1]
  refine wp_mono (fill (X := 42) (N := 1536) (base := base) (top := topf (decide (0 ≤ m)) n) (V := fun _ => 0) (S0 := S) (fun f v s => mX0_clearCells_40_42_3 (base : Int) (n : Int) f v s) hb (fun k f s hk hK hX => ?_) (fun f s hK => ?_) (f := FU) (by unfold FU; omega)) (fun S' q => by rw [wp_some]; exact q)
  · try dsimp only
    rw [mX0_clearCells_40_42_3, bd1_e (e_ltop40 hm ((congrFun (hK.cell 40 (by decide) (by decide)) 1).trans h)), gd_t (by omega), if_neg (by omega), gd_t (by omega), nx_e, show (base : Int) + (k : Int) = ((base + k : Nat) : Int) by omega]
  · try dsimp only
    rw [mX0_clearCells_40_42_3, bd1_e (e_ltop40 hm ((congrFun (hK.cell 40 (by decide) (by decide)) 1).trans h)), gd_t (by omega), if_pos (by omega)]
theorem w_clr40_41 {S : St} {m : Int} {base n : Nat} (hm : inI m) (h : S 40 1 = m) (hn : n ≤ 7) (hb : base + topf (decide (0 ≤ m)) n < 1536) : wp (mX0_clearCells_40_41 S (base : Int) (n : Int)) (fun S' => (∀ j : Nat, j < 1536 → S' 41 (j : Int) = if base ≤ j ∧ j < base + (topf (decide (0 ≤ m)) n + 1) then 0 else S 41 (j : Int)) ∧ kept [41] [] S S') := by
  have ht : topf (decide (0 ≤ m)) n ≤ 7 := Nat.le_trans topf_le hn
  unfold mX0_clearCells_40_41
  rw [wp_bd1]
  refine wp_mono (fill (X := 41) (N := 1536) (base := base) (top := topf (decide (0 ≤ m)) n) (V := fun _ => 0) (S0 := S) (fun f v s => mX0_clearCells_40_41_3 (base : Int) (n : Int) f v s) hb (fun k f s hk hK hX => ?_) (fun f s hK => ?_) (f := FU) (by unfold FU; omega)) (fun S' q => by rw [wp_some]; exact q)
  · try dsimp only
    rw [mX0_clearCells_40_41_3, bd1_e (e_ltop40 hm ((congrFun (hK.cell 40 (by decide) (by decide)) 1).trans h)), gd_t (by omega), if_neg (by omega), gd_t (by omega), nx_e, show (base : Int) + (k : Int) = ((base + k : Nat) : Int) by omega]
  · try dsimp only
    rw [mX0_clearCells_40_41_3, bd1_e (e_ltop40 hm ((congrFun (hK.cell 40 (by decide) (by decide)) 1).trans h)), gd_t (by omega), if_pos (by omega)]
theorem w_clr40_44 {S : St} {m : Int} {base n : Nat} (hm : inI m) (h : S 40 1 = m) (hn : n ≤ 7) (hb : base + topf (decide (0 ≤ m)) n < 12288) : wp (mX0_clearCells_40_44 S (base : Int) (n : Int)) (fun S' => (∀ j : Nat, j < 12288 → S' 44 (j : Int) = if base ≤ j ∧ j < base + (topf (decide (0 ≤ m)) n + 1) then 0 else S 44 (j : Int)) ∧ kept [44] [] S S') := by
  have ht : topf (decide (0 ≤ m)) n ≤ 7 := Nat.le_trans topf_le hn
  unfold mX0_clearCells_40_44
  rw [wp_bd1]
  refine wp_mono (fill (X := 44) (N := 12288) (base := base) (top := topf (decide (0 ≤ m)) n) (V := fun _ => 0) (S0 := S) (fun f v s => mX0_clearCells_40_44_3 (base : Int) (n : Int) f v s) hb (fun k f s hk hK hX => ?_) (fun f s hK => ?_) (f := FU) (by unfold FU; omega)) (fun S' q => by rw [wp_some]; exact q)
  · try dsimp only
    rw [mX0_clearCells_40_44_3, bd1_e (e_ltop40 hm ((congrFun (hK.cell 40 (by decide) (by decide)) 1).trans h)), gd_t (by omega), if_neg (by omega), gd_t (by omega), nx_e, show (base : Int) + (k : Int) = ((base + k : Nat) : Int) by omega]
  · try dsimp only
    rw [mX0_clearCells_40_44_3, bd1_e (e_ltop40 hm ((congrFun (hK.cell 40 (by decide) (by decide)) 1).trans h)), gd_t (by omega), if_pos (by omega)]
theorem w_cpy40_41_42 {S : St} {m : Int} {src base n : Nat} (hm : inI m) (h : S 40 1 = m) (hn : n ≤ 7) (hs : src + topf (decide (0 ≤ m)) n < 1536) (hb : base + topf (decide (0 ≤ m)) n < 1536) : wp (mX0_copyCells_40_41_42 S (src : Int) (base : Int) (n : Int)) (fun S' => (∀ j : Nat, j < 1536 → S' 42 (j : Int) = if base ≤ j ∧ j < base + (topf (decide (0 ≤ m)) n + 1) then S 41 ((src + (j - base) : Nat) : Int) else S 42 (j : Int)) ∧ kept [42] [] S S') := by
  have ht : topf (decide (0 ≤ m)) n ≤ 7 := Nat.le_trans topf_le hn
  unfold mX0_copyCells_40_41_42
  rw [wp_bd1]
  refine wp_mono (fill (X := 42) (N := 1536) (base := base) (top := topf (decide (0 ≤ m)) n) (V := fun k => S 41 ((src + k : Nat) : Int)) (S0 := S) (fun f v s => mX0_copyCells_40_41_42_3 (src : Int) (base : Int) (n : Int) f v s) hb (fun k f s hk hK hX => ?_) (fun f s hK => ?_) (f := FU) (by unfold FU; omega)) (fun S' q => by rw [wp_some]; exact q)
  · try dsimp only
    rw [mX0_copyCells_40_41_42_3, bd1_e (e_ltop40 hm ((congrFun (hK.cell 40 (by decide) (by decide)) 1).trans h)), gd_t (by omega), if_neg (by omega), gd_t (by omega), gd_t (by omega), nx_e, show (base : Int) + (k : Int) = ((base + k : Nat) : Int) by omega, show (src : Int) + (k : Int) = ((src + k : Nat) : Int) by omega, show s 41 = S 41 from hK.cell 41 (by decide) (by decide)]
  · try dsimp only
    rw [mX0_copyCells_40_41_42_3, bd1_e (e_ltop40 hm ((congrFun (hK.cell 40 (by decide) (by decide)) 1).trans h)), gd_t (by omega), if_pos (by omega)]
theorem w_cpy40_43_41 {S : St} {m : Int} {src base n : Nat} (hm : inI m) (h : S 40 1 = m) (hn : n ≤ 7) (hs : src + topf (decide (0 ≤ m)) n < 384) (hb : base + topf (decide (0 ≤ m)) n < 1536) : wp (mX0_copyCells_40_43_41 S (src : Int) (base : Int) (n : Int)) (fun S' => (∀ j : Nat, j < 1536 → S' 41 (j : Int) = if base ≤ j ∧ j < base + (topf (decide (0 ≤ m)) n + 1) then S 43 ((src + (j - base) : Nat) : Int) else S 41 (j : Int)) ∧ kept [41] [] S S') := by
  have ht : topf (decide (0 ≤ m)) n ≤ 7 := Nat.le_trans topf_le hn
  unfold mX0_copyCells_40_43_41
  rw [wp_bd1]
  refine wp_mono (fill (X := 41) (N := 1536) (base := base) (top := topf (decide (0 ≤ m)) n) (V := fun k => S 43 ((src + k : Nat) : Int)) (S0 := S) (fun f v s => mX0_copyCells_40_43_41_3 (src : Int) (base : Int) (n : Int) f v s) hb (fun k f s hk hK hX => ?_) (fun f s hK => ?_) (f := FU) (by unfold FU; omega)) (fun S' q => by rw [wp_some]; exact q)
  · try dsimp only
    rw [mX0_copyCells_40_43_41_3, bd1_e (e_ltop40 hm ((congrFun (hK.cell 40 (by decide) (by decide)) 1).trans h)), gd_t (by omega), if_neg (by omega), gd_t (by omega), gd_t (by omega), nx_e, show (base : Int) + (k : Int) = ((base + k : Nat) : Int) by omega, show (src : Int) + (k : Int) = ((src + k : Nat) : Int) by omega, show s 43 = S 43 from hK.cell 43 (by decide) (by decide)]
  · try dsimp only
    rw [mX0_copyCells_40_43_41_3, bd1_e (e_ltop40 hm ((congrFun (hK.cell 40 (by decide) (by decide)) 1).trans h)), gd_t (by omega), if_pos (by omega)]
theorem w_cpy40_41_41 {S : St} {m : Int} {src base n : Nat} (hm : inI m) (h : S 40 1 = m) (hn : n ≤ 7) (hs : src + topf (decide (0 ≤ m)) n < 1536) (hb : base + topf (decide (0 ≤ m)) n < 1536) (hd : src + topf (decide (0 ≤ m)) n < base ∨ base + topf (decide (0 ≤ m)) n < src) : wp (mX0_copyCells_40_41_41 S (src : Int) (base : Int) (n : Int)) (fun S' => (∀ j : Nat, j < 1536 → S' 41 (j : Int) = if base ≤ j ∧ j < base + (topf (decide (0 ≤ m)) n + 1) then S 41 ((src + (j - base) : Nat) : Int) else S 41 (j : Int)) ∧ kept [41] [] S S') := by
  have ht : topf (decide (0 ≤ m)) n ≤ 7 := Nat.le_trans topf_le hn
  unfold mX0_copyCells_40_41_41
  rw [wp_bd1]
  refine wp_mono (fill (X := 41) (N := 1536) (base := base) (top := topf (decide (0 ≤ m)) n) (V := fun k => S 41 ((src + k : Nat) : Int)) (S0 := S) (fun f v s => mX0_copyCells_40_41_41_3 (src : Int) (base : Int) (n : Int) f v s) hb (fun k f s hk hK hX => ?_) (fun f s hK => ?_) (f := FU) (by unfold FU; omega)) (fun S' q => by rw [wp_some]; exact q)
  · try dsimp only
    rw [mX0_copyCells_40_41_41_3, bd1_e (e_ltop40 hm ((congrFun (hK.cell 40 (by decide) (by decide)) 1).trans h)), gd_t (by omega), if_neg (by omega), gd_t (by omega), gd_t (by omega), nx_e, show (base : Int) + (k : Int) = ((base + k : Nat) : Int) by omega, show (src : Int) + (k : Int) = ((src + k : Nat) : Int) by omega, hX (src + k) (by omega), if_neg (by omega)]
  · try dsimp only
    rw [mX0_copyCells_40_41_41_3, bd1_e (e_ltop40 hm ((congrFun (hK.cell 40 (by decide) (by decide)) 1).trans h)), gd_t (by omega), if_pos (by omega)]
theorem st40_41 {S : St} {M : Int → Int} {e n k : Nat} {lo a4 : Int} (h : WF M) (hG : GM S M) (he : e < 30) (hlo : 0 ≤ lo) (hE : okE M lo e) (hn : n ≤ 7) (hk : k ≤ 7) (hT : nb S 42 1536 HH) : mX0_sumTerms_40_41_19 S (k : Int) (e : Int) (n : Int) a4 FU 0 0 = some ((min HH (xs M (fun p => tb S 42 (pl p n k)) e) : Nat) : Int) := by
  have hM2 := h.2.2.1
  have h8 := hG.2.2.1 e he
  have hm := hE.1
  have key : ∀ d t f : Nat, (t : Int) + d = M (198 + (e : Int)) → d < f → mX0_sumTerms_40_41_19 S (k : Int) (e : Int) (n : Int) a4 f (t : Int) ((min HH (sm t (fun t => if offM M e t then 0 else tb S 42 (pl (fpM M e t).toNat n k))) : Nat) : Int) = some ((min HH (xs M (fun p => tb S 42 (pl p n k)) e) : Nat) : Int) := by
    intro d
    induction d with
    | zero =>
      intro t f ht hf
      obtain ⟨g, rfl⟩ : ∃ g, f = g + 1 := ⟨f - 1, by omega⟩
      rw [mX0_sumTerms_40_41_19, gd_t (by omega), h8, gd_t (by omega), if_pos (by omega)]
      unfold xs
      rw [show (M (198 + (e : Int))).toNat = t by omega]
    | succ d ih =>
      intro t f ht hf
      obtain ⟨g, rfl⟩ : ∃ g, f = g + 1 := ⟨f - 1, by omega⟩
      have l := ih (t + 1) g (by omega) (by omega)
      rw [show ((t + 1 : Nat) : Int) = (t : Int) + 1 by omega, sm_s] at l
      obtain ⟨q1, q2, q3⟩ := e_start2 (t := t) hlo hG he hE (by omega)
      have b : pl (fpM M e t).toNat n k < 1536 := pl_lt2 (N := 24) (by omega) hn hk (by decide)
      have hv := hT.at b
      rw [mX0_sumTerms_40_41_19, gd_t (by omega), h8, gd_t (by omega), if_neg (by omega), bd1_e (e_isOff2 h hG he (by omega))]
      cases ho : offM M e t with
      | true =>
        rw [ho, if_pos rfl, Nat.add_zero] at l
        rw [if_pos rfl, gd_t (by decide), if_neg (by decide)]
        exact l
      | false =>
        rw [ho, if_neg (by decide)] at l
        rw [if_neg (by decide), gd_t (by decide), if_pos rfl, bd1_e q1, show (((fpM M e t).toNat : Nat) : Int) * 64 + (n : Int) * 8 + (k : Int) = ((pl (fpM M e t).toNat n k : Nat) : Int) by unfold pl; omega, gd_t (by omega), hv.1, bd1_e (e_plusH min_le' hv.2)]
        rw [show min HH (min HH (sm t fun t => if offM M e t then 0 else tb S 42 (pl (fpM M e t).toNat n k)) + tb S 42 (pl (fpM M e t).toNat n k)) = min HH ((sm t fun t => if offM M e t then 0 else tb S 42 (pl (fpM M e t).toNat n k)) + tb S 42 (pl (fpM M e t).toNat n k)) by omega]
        exact l
  have l := key (M (198 + (e : Int))).toNat 0 FU (by omega) (by unfold FU; omega)
  exact l
theorem w_sum40_41 {S : St} {M : Int → Int} {m : Int} {e base n : Nat} {lo : Int} (h : WF M) (hG : GM S M) (hm : inI m) (h1 : S 40 1 = m) (he : e < 30) (hlo : 0 ≤ lo) (hE : okE M lo e) (hn : n ≤ 7) (hT : nb S 42 1536 HH) (hb : base + topf (decide (0 ≤ m)) n < 1536) : wp (mX0_sumTerms_40_41 S (e : Int) (n : Int) (base : Int)) (fun S' => (∀ j : Nat, j < 1536 → S' 41 (j : Int) = if base ≤ j ∧ j < base + (topf (decide (0 ≤ m)) n + 1) then ((min HH (xs M (fun p => tb S 42 (pl p n (j - base))) e) : Nat) : Int) else S 41 (j : Int)) ∧ kept [41] [] S S') := by
  have ht : topf (decide (0 ≤ m)) n ≤ 7 := Nat.le_trans topf_le hn
  unfold mX0_sumTerms_40_41
  rw [wp_bd1]
  refine wp_mono (fill (X := 41) (N := 1536) (base := base) (top := topf (decide (0 ≤ m)) n) (V := fun k => ((min HH (xs M (fun p => tb S 42 (pl p n k)) e) : Nat) : Int)) (S0 := S) (fun f v s => mX0_sumTerms_40_41_3 (e : Int) (n : Int) (base : Int) f v s) hb (fun k f s hk hK hX => ?_) (fun f s hK => ?_) (f := FU) (by unfold FU; omega)) (fun S' q => by rw [wp_some]; exact q)
  · try dsimp only
    have eT := hK.cell 42 (by decide) (by decide)
    have tT : tb s 42 = tb S 42 := by funext j; unfold tb; rw [eT]
    rw [mX0_sumTerms_40_41_3, bd1_e (e_ltop40 hm ((congrFun (hK.cell 40 (by decide) (by decide)) 1).trans h1)), gd_t (by omega), if_neg (by omega), bd1_e (st40_41 h (hG.of (fun i a b => hK.cell i (by simp; omega) (by simp))) he hlo hE hn (by omega) (by intro j hj; rw [eT]; exact hT j hj)), gd_t (by omega), nx_e, show (base : Int) + (k : Int) = ((base + k : Nat) : Int) by omega, tT]
  · try dsimp only
    rw [mX0_sumTerms_40_41_3, bd1_e (e_ltop40 hm ((congrFun (hK.cell 40 (by decide) (by decide)) 1).trans h1)), gd_t (by omega), if_pos (by omega)]
theorem st40_43 {S : St} {M : Int → Int} {e n k : Nat} {lo a4 : Int} (h : WF M) (hG : GM S M) (he : e < 30) (hlo : 0 ≤ lo) (hE : okE M lo e) (hn : n ≤ 7) (hk : k ≤ 7) (hT : nb S 42 1536 HH) : mX0_sumTerms_40_43_19 S (k : Int) (e : Int) (n : Int) a4 FU 0 0 = some ((min HH (xs M (fun p => tb S 42 (pl p n k)) e) : Nat) : Int) := by
  have hM2 := h.2.2.1
  have h8 := hG.2.2.1 e he
  have hm := hE.1
  have key : ∀ d t f : Nat, (t : Int) + d = M (198 + (e : Int)) → d < f → mX0_sumTerms_40_43_19 S (k : Int) (e : Int) (n : Int) a4 f (t : Int) ((min HH (sm t (fun t => if offM M e t then 0 else tb S 42 (pl (fpM M e t).toNat n k))) : Nat) : Int) = some ((min HH (xs M (fun p => tb S 42 (pl p n k)) e) : Nat) : Int) := by
    intro d
    induction d with
    | zero =>
      intro t f ht hf
      obtain ⟨g, rfl⟩ : ∃ g, f = g + 1 := ⟨f - 1, by omega⟩
      rw [mX0_sumTerms_40_43_19, gd_t (by omega), h8, gd_t (by omega), if_pos (by omega)]
      unfold xs
      rw [show (M (198 + (e : Int))).toNat = t by omega]
    | succ d ih =>
      intro t f ht hf
      obtain ⟨g, rfl⟩ : ∃ g, f = g + 1 := ⟨f - 1, by omega⟩
      have l := ih (t + 1) g (by omega) (by omega)
      rw [show ((t + 1 : Nat) : Int) = (t : Int) + 1 by omega, sm_s] at l
      obtain ⟨q1, q2, q3⟩ := e_start2 (t := t) hlo hG he hE (by omega)
      have b : pl (fpM M e t).toNat n k < 1536 := pl_lt2 (N := 24) (by omega) hn hk (by decide)
      have hv := hT.at b
      rw [mX0_sumTerms_40_43_19, gd_t (by omega), h8, gd_t (by omega), if_neg (by omega), bd1_e (e_isOff2 h hG he (by omega))]
      cases ho : offM M e t with
      | true =>
        rw [ho, if_pos rfl, Nat.add_zero] at l
        rw [if_pos rfl, gd_t (by decide), if_neg (by decide)]
        exact l
      | false =>
        rw [ho, if_neg (by decide)] at l
        rw [if_neg (by decide), gd_t (by decide), if_pos rfl, bd1_e q1, show (((fpM M e t).toNat : Nat) : Int) * 64 + (n : Int) * 8 + (k : Int) = ((pl (fpM M e t).toNat n k : Nat) : Int) by unfold pl; omega, gd_t (by omega), hv.1, bd1_e (e_plusH min_le' hv.2)]
        rw [show min HH (min HH (sm t fun t => if offM M e t then 0 else tb S 42 (pl (fpM M e t).toNat n k)) + tb S 42 (pl (fpM M e t).toNat n k)) = min HH ((sm t fun t => if offM M e t then 0 else tb S 42 (pl (fpM M e t).toNat n k)) + tb S 42 (pl (fpM M e t).toNat n k)) by omega]
        exact l
  have l := key (M (198 + (e : Int))).toNat 0 FU (by omega) (by unfold FU; omega)
  exact l
theorem w_sum40_43 {S : St} {M : Int → Int} {m : Int} {e base n : Nat} {lo : Int} (h : WF M) (hG : GM S M) (hm : inI m) (h1 : S 40 1 = m) (he : e < 30) (hlo : 0 ≤ lo) (hE : okE M lo e) (hn : n ≤ 7) (hT : nb S 42 1536 HH) (hb : base + topf (decide (0 ≤ m)) n < 384) : wp (mX0_sumTerms_40_43 S (e : Int) (n : Int) (base : Int)) (fun S' => (∀ j : Nat, j < 384 → S' 43 (j : Int) = if base ≤ j ∧ j < base + (topf (decide (0 ≤ m)) n + 1) then ((min HH (xs M (fun p => tb S 42 (pl p n (j - base))) e) : Nat) : Int) else S 43 (j : Int)) ∧ kept [43] [] S S') := by
  have ht : topf (decide (0 ≤ m)) n ≤ 7 := Nat.le_trans topf_le hn
  unfold mX0_sumTerms_40_43
  rw [wp_bd1]
  refine wp_mono (fill (X := 43) (N := 384) (base := base) (top := topf (decide (0 ≤ m)) n) (V := fun k => ((min HH (xs M (fun p => tb S 42 (pl p n k)) e) : Nat) : Int)) (S0 := S) (fun f v s => mX0_sumTerms_40_43_3 (e : Int) (n : Int) (base : Int) f v s) hb (fun k f s hk hK hX => ?_) (fun f s hK => ?_) (f := FU) (by unfold FU; omega)) (fun S' q => by rw [wp_some]; exact q)
  · try dsimp only
    have eT := hK.cell 42 (by decide) (by decide)
    have tT : tb s 42 = tb S 42 := by funext j; unfold tb; rw [eT]
    rw [mX0_sumTerms_40_43_3, bd1_e (e_ltop40 hm ((congrFun (hK.cell 40 (by decide) (by decide)) 1).trans h1)), gd_t (by omega), if_neg (by omega), bd1_e (st40_43 h (hG.of (fun i a b => hK.cell i (by simp; omega) (by simp))) he hlo hE hn (by omega) (by intro j hj; rw [eT]; exact hT j hj)), gd_t (by omega), nx_e, show (base : Int) + (k : Int) = ((base + k : Nat) : Int) by omega, tT]
  · try dsimp only
    rw [mX0_sumTerms_40_43_3, bd1_e (e_ltop40 hm ((congrFun (hK.cell 40 (by decide) (by decide)) 1).trans h1)), gd_t (by omega), if_pos (by omega)]
