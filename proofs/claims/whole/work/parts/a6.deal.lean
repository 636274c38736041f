/-! drawn() -/
def grp (w b g : Nat) : Nat := (w >>> (g * b)) &&& (2 ^ b - 1)
theorem e_grp {w b g : Nat} (hw : w ≤ 1073741823) (hb : b ≤ 20) (hg : g * b < 30) : an (shr (w : Int) ((g : Int) * (b : Int))) (shl 1 (b : Int) - 1) = ((grp w b g : Nat) : Int) ∧ grp w b g ≤ w := by
  have p0 : 0 < (2 : Nat) ^ b := Nat.two_pow_pos b
  have p : (2 : Nat) ^ b ≤ 2 ^ 20 := Nat.pow_le_pow_right (by omega) (by omega)
  have p' : (2 : Nat) ^ b ≤ 1048576 := p
  have s : w >>> (g * b) ≤ w := Nat.shiftRight_le w _
  rw [← Int.natCast_mul, shr_nat (by omega) (by omega), shl1 (by omega), show ((2 ^ b : Nat) : Int) - 1 = ((2 ^ b - 1 : Nat) : Int) by omega, an_nat (by omega) (by omega)]
  exact ⟨rfl, Nat.le_trans Nat.and_le_left s⟩
theorem e_draw {T : St} {w b k : Nat} {a1 a2 a5 : Int} (hw : w ≤ 1073741823) (hb : 1 ≤ b ∧ b ≤ 20) (hk : k ≤ 1000000) : ∀ d g f : Nat, g + d = 30 / b → d + 1 < f → (∃ x : Nat, x < k ∧ mX1_draw_14 (b : Int) (k : Int) (w : Int) f (g : Int) = some (0, (x : Int)) ∧ mX12_drawn_72 T (b : Int) (k : Int) a1 a2 (w : Int) a5 f (g : Int) (-1) = some (x : Int)) ∨ ((∃ y, mX1_draw_14 (b : Int) (k : Int) (w : Int) f (g : Int) = some (1, y)) ∧ mX12_drawn_72 T (b : Int) (k : Int) a1 a2 (w : Int) a5 f (g : Int) (-1) = some (-1)) := by
  have q : (30 : Int) / (b : Int) = ((30 / b : Nat) : Int) := (Int.natCast_ediv 30 b).symm
  have qb : 30 / b ≤ 30 := Nat.div_le_self _ _
  intro d
  induction d with
  | zero =>
    intro g f hg hf
    obtain ⟨f', rfl⟩ : ∃ g, f = g + 1 := ⟨f - 1, by omega⟩
    refine Or.inr ⟨⟨0, ?_⟩, ?_⟩
    · rw [mX1_draw_14, gd_t (by omega), q, gd_t (by omega), if_pos (by omega)]
    · rw [mX12_drawn_72, gd_t (by omega), if_neg (by omega), gd_t (by omega), q, gd_t (by omega), if_pos (by omega)]
  | succ d ih =>
    intro g f hg hf
    obtain ⟨f', rfl⟩ : ∃ g, f = g + 1 := ⟨f - 1, by omega⟩
    have gb : g * b < 30 := by
      have h1 : (g + 1) * b ≤ (30 / b) * b := Nat.mul_le_mul_right b (by omega)
      have h2 : (30 / b) * b ≤ 30 := Nat.div_mul_le_self _ _
      have h3 : (g + 1) * b = g * b + b := Nat.succ_mul g b
      omega
    obtain ⟨e1, e2⟩ := e_grp hw hb.2 gb
    have eC : mX1_draw_14 (b : Int) (k : Int) (w : Int) (f' + 1) (g : Int) = if (k : Int) ≤ ((grp w b g : Nat) : Int) then mX1_draw_14 (b : Int) (k : Int) (w : Int) f' ((g : Int) + 1) else some (0, ((grp w b g : Nat) : Int)) := by
      rw [mX1_draw_14, gd_t (by omega), q, gd_t (by omega), if_neg (by omega), e1, nx_e, gd_t (by omega)]
    have eF : mX12_drawn_72 T (b : Int) (k : Int) a1 a2 (w : Int) a5 (f' + 1) (g : Int) (-1) = if (k : Int) ≤ ((grp w b g : Nat) : Int) then mX12_drawn_72 T (b : Int) (k : Int) a1 a2 (w : Int) a5 f' ((g : Int) + 1) (-1) else mX12_drawn_72 T (b : Int) (k : Int) a1 a2 (w : Int) a5 f' ((g : Int) + 1) ((grp w b g : Nat) : Int) := by
      rw [mX12_drawn_72, gd_t (by omega), if_neg (by omega), gd_t (by omega), q, gd_t (by omega), if_neg (by omega), gd_t (by decide), if_neg (by decide), e1, nx_e, gd_t (by omega)]
    rw [eC, eF]
    by_cases c : (k : Int) ≤ ((grp w b g : Nat) : Int)
    · rw [if_pos c, if_pos c]
      have r := ih (g + 1) f' (by omega) (by omega)
      rw [show ((g + 1 : Nat) : Int) = (g : Int) + 1 by omega] at r
      exact r
    · rw [if_neg c, if_neg c]
      left
      refine ⟨grp w b g, by omega, rfl, ?_⟩
      obtain ⟨f'', rfl⟩ : ∃ g, f' = g + 1 := ⟨f' - 1, by omega⟩
      rw [mX12_drawn_72, gd_t (by omega), if_neg (by omega), gd_t (by omega), q, gd_t (by omega)]
      by_cases z : ((30 / b : Nat) : Int) ≤ (g : Int) + 1
      · rw [if_pos z]
      · rw [if_neg z, gd_t (by omega), if_pos (by omega)]
theorem s_drawn {S : St} (h : Cor S) {a b c w x : Int} (ha : inI a) (hb : inI b) (hc : inI c) (hw : inI w) (hx : inI x) : ∃ (r : Int) (S' : St), mX11_drawn S a b c w x = some r ∧ mX12_drawn S a b c w x = some (r, S') ∧ inI r ∧ kept [90, 91, 92] [(83, 44)] S S' := by
  have hM1 := h.wf.2.1
  have bo := e_boxy h ha hb hc
  have iw := e_in (v := w) (lo := 0) (hi := 1073741823) (by omega) (by decide) (by decide)
  have ix := e_in (v := x) (lo := 0) (hi := 1) (by omega) (by decide) (by decide)
  by_cases hW : 0 ≤ w ∧ w ≤ 1073741823
  · rw [if_pos hW] at iw
    by_cases hX : 0 ≤ x ∧ x ≤ 1
    · rw [if_pos hX] at ix
      obtain ⟨S', s1, s2, s3⟩ := f_inBox h (most := 1000000) (by omega) ha hb hc
      have s2' : kept [90, 91, 92] [(83, 44)] S S' := s2.mono (by simp) (by simp)
      have eF : ∀ (V : Option (Int × St)) (z : Int), mX12_inBox S a b c 1000000 = some (z, S') → (gd (inI z) <| if 0 ≤ z then (bd1 (mX12_bitsFor z) fun r_11 => bd1 (gd (inI r_11) <| if r_11 = 0 then (some (0)) else (some ((-1)))) fun z_12 => bd1 (mX12_drawn_72 S' r_11 z a b w x FU 0 z_12) fun y_17 => gd (inI y_17) <| if 0 ≤ y_17 then (bd2 (mX12_rankIn S' a b y_17) fun r_23 S_24 => gd (inI x) <| if x = 0 then (some ((S_24 83 44), S_24)) else (some (r_23, S_24))) else (some ((-1), S'))) else (some (z, S'))) = V → mX12_drawn S a b c w x = V := fun V z y1 y2 => by
        unfold mX12_drawn
        rw [gd_t hw, bd1_e iw, gd_t (by decide), if_neg (by decide), gd_t hx, bd1_e ix, gd_t (by decide), if_neg (by decide), bd2_e y1, bd2_s]
        exact y2
      by_cases hB : isB (S 84) a b c
      · have bl := bx_le (M := S 84) (e := a.toNat) (lo := b.toNat) (hi := c.toNat)
        rw [if_pos hB] at bo s1
        have eC : ∀ V : Option Int, (gd (inL ((bx (S 84) a.toNat b.toNat c.toNat : Nat) : Int)) <| if ((bx (S 84) a.toNat b.toNat c.toNat : Nat) : Int) ≤ 1000000 then (bd1 (if ((bx (S 84) a.toNat b.toNat c.toNat : Nat) : Int) = 0 then (some ((-1))) else (bd1 (mX1_draw ((bx (S 84) a.toNat b.toNat c.toNat : Nat) : Int) w) fun r_27 => some (r_27))) fun z_15 => gd (inI z_15) <| if z_15 = (-1) then (some ((-1))) else (bd1 (mX0_sizeAt_40 S a b z_15) fun r_21 => if x = 0 then (some (r_21)) else (bd1 (mX0_rankAt_40 S a b z_15) fun r_24 => some (r_24)))) else (some ((-3)))) = V → mX11_drawn S a b c w x = V := fun V y => by
          unfold mX11_drawn
          rw [bd1_e bo, gd_t (by decide), if_neg (by decide), gd_t hw, if_neg (by omega), if_neg (by omega), gd_t hx, if_neg (by omega), if_pos (by omega), bd1_e (c_btw h hB)]
          exact y
        generalize hk : bx (S 84) a.toNat b.toNat c.toNat = k at bl s1 eC
        by_cases y : k ≤ 1000000
        · rw [if_pos y] at s1
          by_cases z : k = 0
          · rw [if_pos z] at s1
            refine ⟨-1, S', eC _ ?_, eF _ _ s1 ?_, by omega, s2'⟩
            · rw [gd_t (by omega), if_pos (by omega), if_pos (by omega), bd1_s, gd_t (by decide), if_pos rfl]
            · rw [gd_t (by decide), if_neg (by decide)]
          · rw [if_neg z] at s1
            obtain ⟨q, q1, q2, q3, q4, q5⟩ := e_bitsFor y
            obtain ⟨e, rfl⟩ : ∃ e : Nat, a = (e : Int) := ⟨a.toNat, by omega⟩
            obtain ⟨n, rfl⟩ : ∃ e : Nat, b = (e : Int) := ⟨b.toNat, by omega⟩
            obtain ⟨m, rfl⟩ : ∃ e : Nat, c = (e : Int) := ⟨c.toNat, by omega⟩
            obtain ⟨v, rfl⟩ : ∃ e : Nat, w = (e : Int) := ⟨w.toNat, by omega⟩
            have ksn : k = sN (S 84) e (m + 1 - n) n := by
              rw [← hk]
              exact bx_sN (e := e) (lo := n) (hi := m) (by omega) (by show bx (S 84) e n m < _; rw [show bx (S 84) e n m = k from hk]; omega)
            -- what both do with a number
            have fin : ∀ j : Nat, j < k → mX1_draw (k : Int) (v : Int) = some (j : Int) → (bd1 (gd (inI (q : Int)) <| if (q : Int) = 0 then (some (0)) else (some ((-1)))) fun z_12 => mX12_drawn_72 S' (q : Int) (k : Int) (e : Int) (n : Int) (v : Int) x FU 0 z_12) = some (j : Int) → ∃ (r : Int) (S'' : St), mX11_drawn S (e : Int) (n : Int) (m : Int) (v : Int) x = some r ∧ mX12_drawn S (e : Int) (n : Int) (m : Int) (v : Int) x = some (r, S'') ∧ inI r ∧ kept [90, 91, 92] [(83, 44)] S S'' := fun j hj u1 u2 => by
              obtain ⟨v1, v2⟩ := c_sizeAt h (e := e) (d := m + 1 - n) (n := n) (k := j) (by omega) (by omega) (by omega) (by omega)
              have v3 := f_rankIn h.wf h.kall (s3 hB) (e := e) (by omega) (m + 1 - n) n j FU (by omega) (by unfold FU; omega) (by omega) (by omega)
              obtain ⟨p1, p2, p3⟩ := psn_ok (M := S 84) (e := e) (m + 1 - n) n j (by omega)
              have rI : mX12_rankIn S' (e : Int) (n : Int) (j : Int) = some ((((psn (S 84) e (m + 1 - n) n j).2 : Nat) : Int), up S' 83 44 (((psn (S 84) e (m + 1 - n) n j).1 : Nat) : Int)) := by
                unfold mX12_rankIn
                rw [gd_t (by omega), bd2_e v3, nx_e]
              refine ⟨if x = 0 then (((psn (S 84) e (m + 1 - n) n j).1 : Nat) : Int) else (((psn (S 84) e (m + 1 - n) n j).2 : Nat) : Int), up S' 83 44 (((psn (S 84) e (m + 1 - n) n j).1 : Nat) : Int), eC _ ?_, eF _ _ s1 ?_, by split <;> omega, s2'.upF (by decide)⟩
              · rw [gd_t (by omega), if_pos (by omega), if_neg (by omega), bd1_e u1, bd1_s, gd_t (by omega), if_neg (by omega), bd1_e v1, bd1_e v2]
                split <;> rfl
              · obtain ⟨z12, t1, t2⟩ := bd1_some u2
                rw [gd_t (by omega), if_pos (by omega), bd1_e q3, bd1_e t1, bd1_e t2, gd_t (by omega), if_pos (by omega), bd2_e rI, gd_t hx]
                by_cases x0 : x = 0
                · rw [if_pos x0, if_pos x0]; rfl
                · rw [if_neg x0, if_neg x0]
            by_cases q0 : q = 0
            · refine fin 0 (by omega) ?_ ?_
              · unfold mX1_draw
                rw [gd_t (by omega), bd1_e q2, gd_t (by omega), if_pos (by omega)]
                rfl
              · rw [gd_t (by omega), if_pos (by omega), bd1_s]
                show mX12_drawn_72 S' (q : Int) (k : Int) (e : Int) (n : Int) (v : Int) x (1999999 + 1) 0 0 = _
                rw [mX12_drawn_72, gd_t (by omega), if_pos (by omega)]
                rfl
            · rcases e_draw (T := S') (w := v) (b := q) (k := k) (a1 := (e : Int)) (a2 := (n : Int)) (a5 := x) (by omega) (by omega) y (30 / q) 0 FU (by omega) (by have : 30 / q ≤ 30 := Nat.div_le_self _ _; unfold FU; omega) with ⟨j, j1, j2, j3⟩ | ⟨⟨j, j1⟩, j2⟩
              · refine fin j j1 ?_ ?_
                · unfold mX1_draw
                  rw [gd_t (by omega), bd1_e q2, gd_t (by omega), if_neg (by omega), bd2_e (show mX1_draw_14 (q : Int) (k : Int) (v : Int) FU 0 = _ from j2), if_pos rfl]
                · rw [gd_t (by omega), if_neg (by omega), bd1_s]
                  exact j3
              · refine ⟨-1, S', eC _ ?_, eF _ _ s1 ?_, by omega, s2'⟩
                · have : mX1_draw (k : Int) (v : Int) = some (-1) := by
                    unfold mX1_draw
                    rw [gd_t (by omega), bd1_e q2, gd_t (by omega), if_neg (by omega), bd2_e (show mX1_draw_14 (q : Int) (k : Int) (v : Int) FU 0 = _ from j1), if_neg (by decide)]
                  rw [gd_t (by omega), if_pos (by omega), if_neg (by omega), bd1_e this, bd1_s, gd_t (by decide), if_pos rfl]
                · rw [gd_t (by omega), if_pos (by omega), bd1_e q3, gd_t (by omega), if_neg (by omega), bd1_s, bd1_e (show mX12_drawn_72 S' (q : Int) (k : Int) (e : Int) (n : Int) (v : Int) x FU 0 (-1) = _ from j2), gd_t (by decide), if_neg (by decide)]
        · rw [if_neg y] at s1
          refine ⟨-3, S', eC _ ?_, eF _ _ s1 ?_, by omega, s2'⟩
          · rw [gd_t (by omega), if_neg (by omega)]
          · rw [gd_t (by decide), if_neg (by decide)]
      · rw [if_neg hB] at bo s1
        refine ⟨-2, S', ?_, eF _ _ s1 ?_, by omega, s2'⟩
        · unfold mX11_drawn
          rw [bd1_e bo, gd_t (by decide), if_pos rfl]
        · rw [gd_t (by decide), if_neg (by decide)]
    · rw [if_neg hX] at ix
      refine ⟨-2, S, ?_, ?_, by omega, kept.rf⟩
      · unfold mX11_drawn
        rw [bd1_e bo]
        by_cases hB : isB (S 84) a b c
        · rw [if_pos hB, gd_t (by decide), if_neg (by decide), gd_t hw, if_neg (by omega), if_neg (by omega), gd_t hx]
          by_cases z : x < 0
          · rw [if_pos z]
          · rw [if_neg z, if_neg (by omega)]
        · rw [if_neg hB, gd_t (by decide), if_pos rfl]
      · unfold mX12_drawn
        rw [gd_t hw, bd1_e iw, gd_t (by decide), if_neg (by decide), gd_t hx, bd1_e ix, gd_t (by decide), if_pos rfl, bd2_s, gd_t (by decide), if_neg (by decide)]
  · rw [if_neg hW] at iw
    refine ⟨-2, S, ?_, ?_, by omega, kept.rf⟩
    · unfold mX11_drawn
      rw [bd1_e bo]
      by_cases hB : isB (S 84) a b c
      · rw [if_pos hB, gd_t (by decide), if_neg (by decide), gd_t hw]
        by_cases z : w < 0
        · rw [if_pos z]
        · rw [if_neg z, if_pos (by omega)]
      · rw [if_neg hB, gd_t (by decide), if_pos rfl]
    · unfold mX12_drawn
      rw [gd_t hw, bd1_e iw, gd_t (by decide), if_pos rfl, bd2_s, gd_t (by decide), if_neg (by decide)]
