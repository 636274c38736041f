/-! the loop over the terms of an expression -/
theorem C2_go {gC m f : Nat} {e L rC : Int} {S S3 : St} (hm : m ≤ 10) (h : S 12 1 = 0) (hr : bX5_readTerm (RX5_readExpr gC) S L (if m = 10 then 1 else 0) = some (rC, S3)) : mX5_readExpr_2 (RX5_readExpr (gC + 1)) e L (f + 1) (m : Int) S = (gd (inI (S3 12 1)) <| if (S3 12 1) = 0 then (if (m : Int) = 10 then (some (0, S3)) else (gd (0 ≤ ((e * 10) + (m : Int)) ∧ ((e * 10) + (m : Int)) < 300) <| nx (up S3 20 ((e * 10) + (m : Int)) rC) fun S_26 => gd (0 ≤ e ∧ e < 30) <| nx (up S_26 19 e ((m : Int) + 1)) fun S_28 => bd1 (mX5_isWord_12_s tx8 S_28) fun r_30 => gd (inI r_30) <| if r_30 = 0 then (some (1, S_28)) else (bd1 (mX5_advance S_28) fun S_34 => mX5_readExpr_2 (RX5_readExpr (gC + 1)) e L f ((m : Int) + 1) S_34))) else (some (0, S3))) := by
  have z1 : (if (m : Int) = 10 then some (1 : Int) else some 0) = some (if m = 10 then 1 else 0) := by
    by_cases c : m = 10
    · rw [if_pos (by omega), if_pos c]
    · rw [if_neg (by omega), if_neg c]
  have tR : RX5_readExpr (gC + 1) 2 L (if m = 10 then 1 else 0) S = some (rC, S3) := by
    show (if (2 : Nat) = 0 then _ else (if (2 : Nat) = 1 then _ else (if (2 : Nat) = 2 then bX5_readTerm (RX5_readExpr gC) S L (if m = 10 then 1 else 0) else _))) = _
    rw [if_neg (by decide), if_neg (by decide), if_pos rfl]
    exact hr
  rw [mX5_readExpr_2, gd_t (by omega), if_neg (by omega), h, gd_t (by decide), if_pos rfl, z1, bd1_s, bd2_e tR]
theorem F5_go {gF m f e : Nat} {L last rF : Int} {T T1 : St} (hm : m ≤ 10) (he : e < 30) (h : T 84 (198 + (e : Int)) = (m : Int)) (hr : RX12_readsExpr gF 2 L (if m = 10 then 1 else 0) 0 T = some (rF, T1)) : mX12_readsExpr_5 (RX12_readsExpr gF) (e : Int) L (f + 1) last 1 T = (gd (inI (T1 83 10)) <| if (T1 83 10) = 0 then (nx (T1 84 5) fun x_23 => nx (up T1 84 5 ((T1 84 5) + 1)) fun S_24 => gd (0 ≤ (120 + x_23) ∧ (120 + x_23) < 228) <| nx (up S_24 84 (120 + x_23) rF) fun S_26 => bd1 (gd (inI last) <| if 0 ≤ last then (some ((144 + last))) else (some ((168 + (e : Int))))) fun z_27 => gd (0 ≤ z_27 ∧ z_27 < 228) <| nx (up S_26 84 z_27 x_23) fun S_31 => nx (198 + (e : Int)) fun x_32 => gd (0 ≤ x_32 ∧ x_32 < 228) <| nx (up S_31 84 x_32 ((S_31 84 x_32) + 1)) fun S_34 => bd1 (mX12_readsExpr_118 (RX12_readsExpr gF) x_23 (e : Int) L FU rF S_34) fun S_37 => gd (inI (S_37 83 10)) <| if (S_37 83 10) = 0 then (bd1 (mX12_isWord S_37 4) fun r_44 => gd (inI r_44) <| if r_44 = 0 then (mX12_readsExpr_5 (RX12_readsExpr gF) (e : Int) L f x_23 0 S_37) else (bd1 (mX12_next S_37) fun S_50 => mX12_readsExpr_5 (RX12_readsExpr gF) (e : Int) L f x_23 1 S_50)) else (mX12_readsExpr_5 (RX12_readsExpr gF) (e : Int) L f x_23 0 S_37)) else (some (0, T1))) := by
  have z1 : (if (m : Int) = 10 then some (1 : Int) else some 0) = some (if m = 10 then 1 else 0) := by
    by_cases c : m = 10
    · rw [if_pos (by omega), if_pos c]
    · rw [if_neg (by omega), if_neg c]
  rw [mX12_readsExpr_5, gd_t (by decide), if_neg (by decide), gd_t (by omega), h, gd_t (by omega), z1, bd1_s, bd2_e hr]
theorem exprL {u : Int → Int} {n nk ln L gC gF e p0 t0 : Nat} (hL : L ≤ 6) (IP : simP u n nk ln L gC gF) (he : e < 6 + p0) (hp0 : p0 ≤ 24) : ∀ (k m fC fF : Nat) (S T : St) (a p t : Nat) (d : Nat → Nat) (last : Int), 24 ≤ p + k → k + 1 < fC → k + 1 < fF → RR S T u n a → NM S T u n nk → S 12 10 = (ln : Int) → FR S (T 84) p t → p0 ≤ p → t0 ≤ t → EXm S (T 84) d p0 p t0 t e L m → REG S (T 84) nk ln d p0 p t0 t → COVE (T 84) e p0 p m → m ≤ 10 → (m = 0 → last = -1) → (0 < m → last = tlM (T 84) e (m - 1)) → ∃ (tC tF : Int) (S' T' : St), mX5_readExpr_2 (RX5_readExpr (gC + 1)) (e : Int) (L : Int) fC (m : Int) S = some (tC, S') ∧ mX12_readsExpr_5 (RX12_readsExpr gF) (e : Int) (L : Int) fF last 1 T = some (tF, T') ∧ KS S S' ∧ KT T T' ∧ (BB S' T' ∨ okX S T S' T' u n nk ln L e p0 p t0 t d) := by
  intro k
  induction k with
  | zero =>
    intro m fC fF S T a p t d last hk hfC hfF h hN hln hF hp ht hE reg cov hm hl0 hl1
    obtain ⟨fC, rfl⟩ : ∃ g, fC = g + 1 := ⟨fC - 1, by omega⟩
    obtain ⟨fF, rfl⟩ : ∃ g, fF = g + 1 := ⟨fF - 1, by omega⟩
    have p24 := hF.1.2.2.2.2
    have e198 := hE.1.1
    obtain ⟨rC, S1, rF, T1, i1, i2, i3, i4, i5⟩ := IP S T a p t d (if m = 10 then 1 else 0) h hN hln hF (by split <;> omega)
    rcases i5 with i5 | ⟨-, -, -, i5⟩
    · have n1 := i5.2.1
      have tC : bX5_readTerm (RX5_readExpr gC) S (L : Int) (if m = 10 then 1 else 0) = some (rC, S1) := by
        unfold bX5_readTerm
        rw [bd2_e i1]
        have : mX5_readTerm_13 (RX5_readExpr gC) rC (L : Int) (1999999 + 1) 0 rC S1 = some S1 := by
          rw [mX5_readTerm_13, gd_t (by decide), if_neg (by decide), gd_t (by omega), if_neg (by omega)]
        rw [bd1_e (show mX5_readTerm_13 (RX5_readExpr gC) rC (L : Int) FU 0 rC S1 = some S1 from this)]
      refine ⟨0, 0, S1, T1, ?_, ?_, i3, i4, Or.inl i5⟩
      · rw [C2_go hm h.2.2.1 tC, gd_t (by omega), if_neg (by omega)]
      · rw [F5_go hm (by omega) e198 i2, i5.1, gd_t (by decide), if_neg (by decide)]
    · obtain ⟨_, p1, _, _, _, f5, c, _⟩ := i5
      have := f5.1.2.2.2.2
      omega
  | succ k ih =>
    intro m fC fF S T a p t d last hk hfC hfF h hN hln hF hp ht hE reg cov hm hl0 hl1
    obtain ⟨fC, rfl⟩ : ∃ g, fC = g + 1 := ⟨fC - 1, by omega⟩
    obtain ⟨fF, rfl⟩ : ∃ g, fF = g + 1 := ⟨fF - 1, by omega⟩
    have p24 := hF.1.2.2.2.2
    have tp := hF.1.2.2.2.1
    have e198 := hE.1.1
    obtain ⟨rC, S1, rF, T1, i1, i2, i3, i4, i5⟩ := IP S T a p t d (if m = 10 then 1 else 0) h hN hln hF (by split <;> omega)
    rcases i5 with i5 | ⟨m10, j1, j2, i5⟩
    · have n1 := i5.2.1
      have tC : bX5_readTerm (RX5_readExpr gC) S (L : Int) (if m = 10 then 1 else 0) = some (rC, S1) := by
        unfold bX5_readTerm
        rw [bd2_e i1]
        have : mX5_readTerm_13 (RX5_readExpr gC) rC (L : Int) (1999999 + 1) 0 rC S1 = some S1 := by
          rw [mX5_readTerm_13, gd_t (by decide), if_neg (by decide), gd_t (by omega), if_neg (by omega)]
        rw [bd1_e (show mX5_readTerm_13 (RX5_readExpr gC) rC (L : Int) FU 0 rC S1 = some S1 from this)]
      refine ⟨0, 0, S1, T1, ?_, ?_, i3, i4, Or.inl i5⟩
      · rw [C2_go hm h.2.2.1 tC, gd_t (by omega), if_neg (by omega)]
      · rw [F5_go hm (by omega) e198 i2, i5.1, gd_t (by decide), if_neg (by decide)]
    · have m9 : m ≤ 9 := by
        by_cases c : m = 10
        · rw [if_pos c] at m10; cases m10
        · omega
      obtain ⟨a1, p1, t1, d1, r1, f1, c1, lo1, dd1, dp1, n1, reg1, cov1⟩ := i5
      have p124 := f1.1.2.2.2.2
      have tp1 := f1.1.2.2.2.1
      have hl2 : m = 0 ∨ (0 < m ∧ (t0 : Int) ≤ last ∧ last < (t : Int)) := by
        by_cases c : m = 0
        · exact Or.inl c
        · have := (hE.2.1 (m - 1) (by omega)).1
          rw [← hl1 (by omega)] at this
          exact Or.inr ⟨by omega, this⟩
      obtain ⟨z, hz⟩ : ∃ z : Int, z = if 0 ≤ last then 144 + last else 168 + (e : Int) := ⟨_, rfl⟩
      have zb : 0 ≤ z ∧ z < 228 ∧ z ≠ 5 ∧ z ≠ 198 + (e : Int) ∧ z ≠ 120 + (t1 : Int) ∧ z ≠ 144 + (t1 : Int) := by
        rw [hz]
        rcases hl2 with c | c
        · have := hl0 c; rw [if_neg (by omega)]; omega
        · rw [if_pos (by omega)]; omega
      -- the reference's rows
      obtain ⟨T2, hT2⟩ : ∃ T2 : St, T2 = up (up (up (up T1 84 5 ((t1 : Int) + 1)) 84 (120 + (t1 : Int)) (p : Int)) 84 z (t1 : Int)) 84 (198 + (e : Int)) ((m : Int) + 1) := ⟨_, rfl⟩
      have f5 := f1.1.2.2.1
      have E1 := hE.low (d' := d1) lo1 (Nat.le_refl _) (by omega) (by omega) (fun q _ y => dd1 q y) hm
      have fup : FUP (T1 84) (T2 84) e t1 z := fun k x1 x2 x3 x4 => by rw [hT2, up_nk x4, up_nk x3, up_nk x2, up_nk x1]
      have q198 : T2 84 (198 + (e : Int)) = (m : Int) + 1 := by rw [hT2, up_eq]
      have qz : T2 84 z = (t1 : Int) := by rw [hT2, up_nk zb.2.2.2.1, up_eq]
      have q120 : T2 84 (120 + (t1 : Int)) = (p : Int) := by rw [hT2, up_nk (by omega), up_nk (fun w => zb.2.2.2.2.1 w.symm), up_eq]
      have q5 : T2 84 5 = (t1 : Int) + 1 := by rw [hT2, up_nk (by omega), up_nk (fun w => zb.2.2.1 w.symm), up_nk (by omega), up_eq]
      have o83 : T2 83 = T1 83 := by rw [hT2]; rfl
      have o86 : T2 86 = T1 86 := by rw [hT2]; rfl
      have kT2 : KT T1 T2 := by
        rw [hT2]
        refine (((KT_84 (Or.inr (Or.inl rfl))).trans (KT_84 (Or.inr (Or.inr (by omega))))).trans (KT_84 (Or.inr (Or.inr ?_)))).trans (KT_84 (Or.inr (Or.inr (by omega))))
        rw [hz]
        rcases hl2 with c | c
        · have := hl0 c; rw [if_neg (by omega)]; omega
        · rw [if_pos (by omega)]; omega
      have e1 : T1 84 (198 + (e : Int)) = (m : Int) := E1.1.1
      have hlev : (∀ q, p0 ≤ q → q < p → L ≤ d1 q) ∧ (∀ q, p ≤ q → q < p1 → L ≤ d1 q) := by
        refine ⟨fun q x y => ?_, lev reg1 cov1 dp1⟩
        rw [dd1 q y]
        exact levE reg cov (fun t ht => (hE.2.1 t ht).2.2.1) q x y
      have zok : zOK (T1 84) d1 e L t1 z := by
        rcases hl2 with c | ⟨c, c2, c3⟩
        · left; rw [hz, if_neg (by have := hl0 c; omega)]
        · right
          refine ⟨last.toNat, by rw [hz, if_pos (by omega)]; omega, by omega, ?_⟩
          have q := E1.2.1 (m - 1) (by omega)
          have lq : tlM (T1 84) e (m - 1) = last := by
            rw [hl1 c]
            exact tl_low (m := m) lo1 (Nat.le_refl _) (by omega) (by omega) (fun t ht => by have := (hE.2.1 t ht).1; omega) (m - 1) (by omega)
          have q3 := q.2.2.1
          unfold fpM at q3
          rw [lq] at q3
          rw [show ((last.toNat : Nat) : Int) = last by omega]
          exact q3
      have regO1 : REG S1 (T1 84) nk ln d1 p0 p t0 t := reg.low lo1 (Nat.le_refl _) (Nat.le_refl _) (Or.inr (by omega)) (fun q _ y => dd1 q y)
      have regO2 : REG S1 (T2 84) nk ln d1 p0 p t0 t := regO1.fup hlev.1 fup zok he (Nat.le_refl _) (by omega) (by omega) (by omega)
      have regN2 : REG S1 (T2 84) nk ln d1 p p1 t t1 := reg1.fup hlev.2 fup zok he hp (by omega) (Nat.le_refl _) (by omega)
      have covN2 : COV (T2 84) p p1 := fun x a b => by
        obtain ⟨q, x1, x2, x3⟩ := cov1 x a b
        exact ⟨q, x1, x2, stp_fup (reg1 q x1 (by omega)) (hlev.2 q x1 (by omega)) fup zok he (by omega) (by omega) (Nat.le_refl _) (by omega) x3⟩
      have zz : ∀ k : Int, k < 120 ∨ (168 ≤ k ∧ k ≠ 168 + (e : Int)) → k ≠ z := fun k hk w => by
        rw [hz] at w
        split at w <;> rcases hl2 with c | c <;> omega
      have z144 : ∀ s : Nat, t1 ≤ s → s < 24 → 144 + (s : Int) ≠ z := fun s x y w => by
        rw [hz] at w
        split at w <;> rcases hl2 with c | c <;> omega
      have fr2 : FR S1 (T2 84) p1 (t1 + 1) := by
        obtain ⟨⟨g1, g2, g3, g4, g5⟩, gb, gt⟩ := f1
        refine ⟨⟨g1, by rw [fup 2 (by omega) (by omega) (zz _ (by omega)) (by omega)]; exact g2, by rw [q5]; omega, by omega, g5⟩, fun q x y => ?_, fun t' x y => ?_⟩
        · rw [fup _ (by omega) (by omega) (zz _ (by omega)) (by omega), fup _ (by omega) (by omega) (zz _ (by omega)) (by omega), fup _ (by omega) (by omega) (zz _ (by omega)) (by omega)]
          exact gb q x y
        · rw [fup _ (by omega) (by omega) (z144 t' (by omega) y) (by omega)]
          exact gt t' (by omega) y
      have q144 : T2 84 (144 + (t1 : Int)) = -1 := by
        rw [fup _ (by omega) (by omega) (z144 t1 (Nat.le_refl _) (by omega)) (by omega)]
        exact f1.2.2 t1 (Nat.le_refl _) (by omega)
      have q96 : T2 84 (96 + (p : Int)) = -1 := by
        rw [fup _ (by omega) (by omega) (zz _ (by omega)) (by omega)]; exact n1
      obtain ⟨S3, T3, w1, w2, w3, w4, w5⟩ := withL (r2 := (p : Int)) (x23 := (t1 : Int)) (e := (e : Int)) (pb := p) (tb := t) IP 24 0 FU FU S1 T2 a1 p1 (t1 + 1) p d1 (by omega) (by unfold FU; omega) (by unfold FU; omega) (r1.of rfl rfl o83 o86) (hN.of i3 (i4.trans kT2)) (by rw [i3 12 10 (by decide) (by decide)]; exact hln) fr2 (by omega) (Nat.le_refl _) c1.1 dp1 dp1 q96 (fun q x y => (regN2 q x y).mono (Nat.le_refl _) (Nat.le_refl _) (by omega)) covN2 (by omega)
      have tC : bX5_readTerm (RX5_readExpr gC) S (L : Int) (if m = 10 then 1 else 0) = some ((p : Int), S3) := by
        unfold bX5_readTerm
        rw [bd2_e i1, j1, bd1_e (show mX5_readTerm_13 (RX5_readExpr gC) (p : Int) (L : Int) FU 0 (p : Int) S1 = some S3 from w1)]
      have z27 : (gd (inI last) <| if 0 ≤ last then (some ((144 + last))) else (some ((168 + (e : Int))))) = some z := by
        rw [hz, gd_t (by rcases hl2 with c | c; · have := hl0 c; omega
                         · omega)]
        split <;> rfl
      have eFt : ∀ (V : Option (Int × St)), (bd1 (mX12_readsExpr_118 (RX12_readsExpr gF) (t1 : Int) (e : Int) (L : Int) FU (p : Int) T2) fun S_37 => gd (inI (S_37 83 10)) <| if (S_37 83 10) = 0 then (bd1 (mX12_isWord S_37 4) fun r_44 => gd (inI r_44) <| if r_44 = 0 then (mX12_readsExpr_5 (RX12_readsExpr gF) (e : Int) (L : Int) fF (t1 : Int) 0 S_37) else (bd1 (mX12_next S_37) fun S_50 => mX12_readsExpr_5 (RX12_readsExpr gF) (e : Int) (L : Int) fF (t1 : Int) 1 S_50)) else (mX12_readsExpr_5 (RX12_readsExpr gF) (e : Int) (L : Int) fF (t1 : Int) 0 S_37)) = V → mX12_readsExpr_5 (RX12_readsExpr gF) (e : Int) (L : Int) (fF + 1) last 1 T = V := fun V hV => by
        rw [F5_go hm (by omega) e198 i2]
        rw [r1.2.2.2, gd_t (by decide), if_pos rfl, nx_e, f5, nx_e, gd_t (by omega), nx_e, bd1_e z27, gd_t ⟨zb.1, zb.2.1⟩, nx_e, nx_e, gd_t (by omega), j2]
        have q : up (up (up T1 84 5 ((t1 : Int) + 1)) 84 (120 + (t1 : Int)) (p : Int)) 84 z (t1 : Int) 84 (198 + (e : Int)) = (m : Int) := by
          rw [up_nk (fun w => zb.2.2.2.1 w.symm), up_nk (by omega), up_nk (by omega)]; exact e1
        rw [q, nx_e, ← hT2]
        exact hV
      rcases w5 with w5 | ⟨a3, p3, t3, d3, v1, v2, v3, v4, v5, v6, v7⟩
      · have n1 := w5.2.1
        obtain ⟨gF', rfl⟩ : ∃ g, fF = g + 1 := ⟨fF - 1, by omega⟩
        refine ⟨0, 1, S3, T3, ?_, eFt _ ?_, i3.trans w3, (i4.trans kT2).trans w4, Or.inl w5⟩
        · rw [C2_go hm h.2.2.1 tC, gd_t (by omega), if_neg (by omega)]
        · rw [bd1_e w2, w5.1, gd_t (by decide), if_neg (by decide), mX12_readsExpr_5, gd_t (by decide), if_pos rfl]
      · have p324 := v2.1.2.2.2.2
        obtain ⟨S4, hS4⟩ : ∃ S4 : St, S4 = up (up S3 20 ((e : Int) * 10 + (m : Int)) (p : Int)) 19 (e : Int) ((m : Int) + 1) := ⟨_, rfl⟩
        have o12 : S4 12 = S3 12 := by rw [hS4]; rfl
        have o1 : S4 1 = S3 1 := by rw [hS4]; rfl
        have r4 : RR S4 T3 u n a3 := v1.of o12 o1 rfl rfl
        have e20 : ∀ k : Int, k ≠ (e : Int) * 10 + (m : Int) → S4 20 k = S3 20 k := fun k hk => by rw [hS4]; show (up S3 20 _ _) 20 k = _; rw [up_nk hk]
        have e20' : S4 20 ((e : Int) * 10 + (m : Int)) = (p : Int) := by rw [hS4]; show (up S3 20 _ _) 20 _ = _; rw [up_eq]
        have e19 : ∀ k : Int, k ≠ (e : Int) → S4 19 k = S3 19 k := fun k hk => by rw [hS4, up_nk hk]; rfl
        have e19' : S4 19 (e : Int) = (m : Int) + 1 := by rw [hS4, up_eq]
        have lo4 : ∀ P T' : Nat, LOW S3 S4 (T3 84) (T3 84) P T' e := fun P T' => by
          refine ⟨fun p _ => ⟨⟨by rw [hS4]; rfl, by rw [hS4]; rfl, by rw [hS4]; rfl, by rw [hS4]; rfl, by rw [hS4]; rfl⟩, rfl, rfl, rfl, rfl⟩, fun x _ hx => ⟨e19 _ (by omega), fun j hj => e20 _ (by omega), rfl, rfl⟩, fun _ _ => ⟨rfl, rfl⟩⟩
        -- the rows at the end of the term
        have lv4 := v4.2.1 e (by omega) (by omega)
        have m3 : ∀ s : Nat, s < t → T3 84 (120 + (s : Int)) = T 84 (120 + (s : Int)) ∧ ((s : Int) ≠ tlM (T 84) e (m - 1) → T3 84 (144 + (s : Int)) = T 84 (144 + (s : Int))) := fun s hs => by
          obtain ⟨x1, x2⟩ := v4.2.2 s (by omega)
          obtain ⟨y1, y2⟩ := lo1.2.2 s hs
          refine ⟨?_, fun w => ?_⟩
          · rw [x1, fup _ (by omega) (by omega) (fun w => ?_) (by omega), y1]
            rw [hz] at w
            split at w <;> rcases hl2 with c | c <;> omega
          · rw [x2, fup _ (by omega) (by omega) (fun w' => ?_) (by omega), y2]
            rw [hz] at w'
            split at w'
            · rcases hl2 with c | c
              · have := hl0 c; omega
              · exact w (by rw [← hl1 c.1]; omega)
            · omega
        have mx : T3 84 (120 + (t1 : Int)) = (p : Int) ∧ T3 84 (144 + (t1 : Int)) = -1 := by
          obtain ⟨x1, x2⟩ := v4.2.2 t1 (by omega)
          exact ⟨by rw [x1]; exact q120, by rw [x2]; exact q144⟩
        have m168 : T3 84 (168 + (e : Int)) = if m = 0 then (t1 : Int) else T 84 (168 + (e : Int)) := by
          rw [lv4.2.2.1]
          by_cases c : m = 0
          · rw [if_pos c]
            have : z = 168 + (e : Int) := by rw [hz, if_neg (by have := hl0 c; omega)]
            rw [← this]; exact qz
          · rw [if_neg c, fup _ (by omega) (by omega) (fun w => ?_) (by omega)]
            · exact (lo1.2.1 e (by omega) (by omega)).2.2.1
            · rcases hl2 with c' | c'
              · exact c c'
              · rw [hz, if_pos (by omega)] at w; omega
        have m144 : 0 < m → T3 84 (144 + tlM (T 84) e (m - 1)) = (t1 : Int) := fun c => by
          rcases hl2 with c' | c'
          · omega
          · rw [← hl1 c]
            have := (v4.2.2 last.toNat (by omega)).2
            rw [show ((last.toNat : Nat) : Int) = last by omega] at this
            rw [this]
            have : z = 144 + last := by rw [hz, if_pos (by omega)]
            rw [← this]; exact qz
        obtain ⟨E4, fp4, fm4, tm4⟩ := hE.more (S' := S4) (M' := T3 84) (d' := d3) (p' := p3) (t' := t3) (x := t1) m9 ⟨c1.2.1, by omega⟩ ⟨hp, by omega⟩ ht (fun q hq => by rw [v5 q (by omega)]; exact dd1 q hq) (by rw [v5 p c1.1]; exact dp1) (by rw [lv4.2.2.2]; exact q198) m168 m144 m3 mx e19' (fun j hj => by
            rw [e20 _ (by omega), lv4.2.1 j (by omega)]
            exact (lo1.2.1 e (by omega) (by omega)).2.1 j (by omega)) e20'
        have regO3 : REG S3 (T3 84) nk ln d3 p0 p t0 t := regO2.low v4 (by omega) (Nat.le_refl _) (Or.inr (by omega)) (fun q _ y => v5 q (by omega))
        have regJ : REG S3 (T3 84) nk ln d3 p0 p3 t0 t3 := regO3.join v6 (by omega) ht (by omega)
        have reg4 : REG S4 (T3 84) nk ln d3 p0 p3 t0 t3 := regJ.low (lo4 p3 t3) (Nat.le_refl _) (Nat.le_refl _) (Or.inl he) (fun _ _ _ => rfl)
        have cov4 : COVE (T3 84) e p0 p3 (m + 1) := fun q x y => by
          by_cases c : q < p
          · rcases cov q x c with ⟨t, g1, g2⟩ | ⟨r, g1, g2, g3⟩
            · exact Or.inl ⟨t, by omega, by rw [fp4 t g1]; exact g2⟩
            · refine Or.inr ⟨r, g1, g2, ?_⟩
              have k1 := stp_low (reg r g1 (by omega)) lo1 (Nat.le_refl _) (by omega) (by omega) g3
              have k2 := stp_fup (regO1 r g1 (by omega)) (hlev.1 r g1 (by omega)) fup zok he g1 (by omega) (by omega) (by omega) k1
              exact stp_low (regO2 r g1 (by omega)) v4 (by omega) (by omega) (by omega) k2
          · by_cases c' : q = p
            · exact Or.inl ⟨m, by omega, by rw [fm4, c']⟩
            · obtain ⟨r, g1, g2, g3⟩ := v7 q (by omega) y
              exact Or.inr ⟨r, by omega, g2, g3⟩
        have LOWs : LOW S S4 (T 84) (T3 84) p0 t0 e := by
          have l2 : LOW S1 S1 (T1 84) (T2 84) p0 t0 e := by
            refine ⟨fun p hp' => ⟨⟨rfl, rfl, rfl, rfl, rfl⟩, fup _ (by omega) (by omega) (zz _ (by omega)) (by omega), fup _ (by omega) (by omega) (zz _ (by omega)) (by omega), fup _ (by omega) (by omega) (zz _ (by omega)) (by omega), fup _ (by omega) (by omega) (zz _ (by omega)) (by omega)⟩, fun x hx hx' => ⟨rfl, fun _ _ => rfl, fup _ (by omega) (by omega) (zz _ (by omega)) (by omega), fup _ (by omega) (by omega) (zz _ (by omega)) (by omega)⟩, fun s hs => ⟨fup _ (by omega) (by omega) (fun w => ?_) (by omega), fup _ (by omega) (by omega) (fun w => ?_) (by omega)⟩⟩
            · rw [hz] at w
              split at w <;> rcases hl2 with c | c <;> omega
            · rw [hz] at w
              split at w <;> rcases hl2 with c | c <;> omega
          have a1 : LOW S S1 (T 84) (T1 84) p0 t0 e := lo1.mono hp ht (Or.inr (by omega))
          have a3 : LOW S1 S3 (T2 84) (T3 84) p0 t0 e := v4.mono hp (by omega) (Or.inr (by omega))
          exact ((a1.trans l2 (Nat.le_refl _) (Nat.le_refl _) (Or.inl rfl)).trans a3 (Nat.le_refl _) (Nat.le_refl _) (Or.inl rfl)).trans (lo4 p0 t0) (Nat.le_refl _) (Nat.le_refl _) (Or.inl rfl)
        have fr4 : FR S4 (T3 84) p3 t3 := by
          obtain ⟨⟨g1, g2, g3, g4, g5⟩, gb, gt⟩ := v2
          refine ⟨⟨by rw [hS4]; exact g1, g2, g3, g4, g5⟩, fun q x y => ?_, gt⟩
          obtain ⟨b1, b2, b3, b4⟩ := gb q x y
          exact ⟨b1, b2, by rw [e19 _ (by omega)]; exact b3, b4⟩
        have kS4 : KS S S4 := by
          rw [hS4]
          exact ((i3.trans w3).upA (by decide)).upA (by decide)
        have kT3 : KT T T3 := (i4.trans kT2).trans w4
        obtain ⟨r, r2, r3, r5⟩ := sim_isWord (k := 4) r4 (by decide)
        have eCt : ∀ (V : Option (Int × St)), (if r = 0 then (some ((1 : Int), S4)) else (bd1 (mX5_advance S4) fun S_34 => mX5_readExpr_2 (RX5_readExpr (gC + 1)) (e : Int) (L : Int) fC ((m : Int) + 1) S_34)) = V → mX5_readExpr_2 (RX5_readExpr (gC + 1)) (e : Int) (L : Int) (fC + 1) (m : Int) S = V := fun V hV => by
          rw [C2_go hm h.2.2.1 tC]
          rw [v1.2.2.1, gd_t (by decide), if_pos rfl, if_neg (by omega), gd_t (by omega), nx_e, gd_t (by omega), nx_e, ← hS4, bd1_e (show mX5_isWord_12_s tx8 S4 = some r from r3), gd_t (by omega)]
          exact hV
        rcases r2 with e0 | e0
        · obtain ⟨gF', rfl⟩ : ∃ g, fF = g + 1 := ⟨fF - 1, by omega⟩
          refine ⟨1, 1, S4, T3, eCt _ (if_pos e0), eFt _ ?_, kS4, kT3, Or.inr ⟨a3, p3, t3, m + 1, d3, r4, fr4, by omega, LOWs, fun q hq => by rw [v5 q (by omega)]; exact dd1 q hq, E4, by omega, reg4, cov4⟩⟩
          rw [bd1_e w2, r4.2.2.2, gd_t (by decide), if_pos rfl, bd1_e (show mX12_isWord T3 4 = some r from r5), gd_t (by omega), if_pos e0, mX12_readsExpr_5, gd_t (by decide), if_pos rfl]
        · obtain ⟨S5, T5, s1, s2, s3, s4, s5⟩ := sim_adv r4
          have e84 : T5 84 = T3 84 := s5.cell 84 (by decide) (by decide)
          have lo5 : ∀ P T' x : Nat, LOW S4 S5 (T3 84) (T5 84) P T' x := fun P T' x => LOW.adv s4 e84
          have t3p := v2.1.2.2.2.1
          obtain ⟨tC', tF', S', T', y1, y2, y3, y4, y5⟩ := ih (m + 1) fC fF S5 T5 _ p3 t3 d3 (t1 : Int) (by omega) (by omega) (by omega) s3 (hN.of (kS4.trans (KS.adv s4)) (kT3.trans (KT.adv s5))) (by rw [s4 12 10 (by decide) (by decide), kS4 12 10 (by decide) (by decide)]; exact hln) (fr4.up (s4 13 3 (by decide) (by decide)) (s4.cell 19 (by decide) (by decide)) (fun k _ => by rw [e84])) (by omega) (by omega) (E4.low (lo5 p3 t3 30) (Nat.le_refl _) (by omega) (by omega) (fun _ _ _ => rfl) (by omega)) (reg4.low (lo5 p3 t3 30) (Nat.le_refl _) (Nat.le_refl _) (Or.inr (by omega)) (fun _ _ _ => rfl)) (by rw [e84]; exact cov4) (by omega) (by omega) (fun _ => by rw [e84, show m + 1 - 1 = m by omega]; exact tm4.symm)
          rw [show ((m + 1 : Nat) : Int) = (m : Int) + 1 by omega] at y1
          refine ⟨tC', tF', S', T', eCt _ (by rw [if_neg (by omega), bd1_e s1]; exact y1), eFt _ ?_, (kS4.trans (KS.adv s4)).trans y3, (kT3.trans (KT.adv s5)).trans y4, ?_⟩
          · rw [bd1_e w2, r4.2.2.2, gd_t (by decide), if_pos rfl, bd1_e (show mX12_isWord T3 4 = some r from r5), gd_t (by omega), if_neg (by omega), bd1_e s2]
            exact y2
          · rcases y5 with y5 | ⟨a6, p6, t6, m6, d6, g1, g2, g3, g4, g5, g6, g7, g8, g9⟩
            · exact Or.inl y5
            · exact Or.inr ⟨a6, p6, t6, m6, d6, g1, g2, by omega, (LOWs.trans (lo5 p0 t0 e) (Nat.le_refl _) (Nat.le_refl _) (Or.inl rfl)).trans g4 (Nat.le_refl _) (Nat.le_refl _) (Or.inl rfl), fun q hq => by rw [g5 q (by omega), v5 q (by omega)]; exact dd1 q hq, g6, g7, g8, g9⟩
theorem simE_step {u : Int → Int} {n nk ln L gC gF : Nat} (hL : L ≤ 6) (IP : simP u n nk ln L gC gF) : simE u n nk ln L (gC + 2) (gF + 1) := by
  intro S T a p0 t0 d e h hN hln hF he h19 h198
  have p24 := hF.1.2.2.2.2
  obtain ⟨tC, tF, S', T', y1, y2, y3, y4, y5⟩ := exprL (e := e) (p0 := p0) (t0 := t0) hL IP he p24 24 0 FU FU S T a p0 t0 d (-1) (by omega) (by unfold FU; omega) (by unfold FU; omega) h hN hln hF (Nat.le_refl _) (Nat.le_refl _) ⟨⟨h198, h19⟩, fun t ht => by omega, fun w => by omega⟩ (fun p x y => by omega) (fun q x y => by omega) (by omega) (fun _ => rfl) (fun w => by omega)
  refine ⟨S', T', ?_, ?_, y3, y4, ?_⟩
  · show (if (0 : Nat) = 0 then (bd1 (bX5_readExpr (RX5_readExpr (gC + 1)) S (e : Int) (L : Int)) fun S1 => some (0, S1)) else _) = _
    rw [if_pos rfl]
    have : bX5_readExpr (RX5_readExpr (gC + 1)) S (e : Int) (L : Int) = some S' := by
      unfold bX5_readExpr
      rw [bd2_e (show mX5_readExpr_2 (RX5_readExpr (gC + 1)) (e : Int) (L : Int) FU 0 S = some (tC, S') from y1)]
      split
      · rfl
      · split <;> rfl
    rw [bd1_e this]
  · show (if (0 : Nat) = 0 then (bd1 (bX12_readsExpr (RX12_readsExpr gF) T (e : Int) (L : Int)) fun S1 => some (0, S1)) else _) = _
    rw [if_pos rfl]
    have : bX12_readsExpr (RX12_readsExpr gF) T (e : Int) (L : Int) = some T' := by
      unfold bX12_readsExpr
      rw [bd2_e y2]
      split <;> rfl
    rw [bd1_e this]
  · rcases y5 with y5 | ⟨a6, p6, t6, m6, d6, g1, g2, g3, g4, g5, g6, g7, g8, g9⟩
    · exact Or.inl y5
    · refine Or.inr ⟨a6, p6, t6, d6, g1, g2, by omega, g4, g5, ⟨⟨?_, ?_, ?_⟩, fun t ht => ?_, ?_⟩, g8, ?_⟩
      · rw [g6.1.1]; omega
      · rw [g6.1.1]; omega
      · rw [g6.1.1, g6.1.2]
      · rw [g6.1.1] at ht
        exact g6.2.1 t (by omega)
      · rw [g6.1.1]; exact g6.2.2 g7.1
      · rw [g6.1.1]; exact g9
theorem simP_all {u : Int → Int} {n nk ln : Nat} : ∀ (k L fC fF : Nat), L + k = 6 → 3 * k + 1 ≤ fC → 2 * k + 2 ≤ fF → simP u n nk ln L fC fF := by
  intro k
  induction k with
  | zero =>
    intro L fC fF hL hC hF
    obtain ⟨gC, rfl⟩ : ∃ g, fC = g + 1 := ⟨fC - 1, by omega⟩
    obtain ⟨gF, rfl⟩ : ∃ g, fF = g + 2 := ⟨fF - 2, by omega⟩
    exact simP_step (by omega) (fun w => by omega) (fun w => by omega)
  | succ k ih =>
    intro L fC fF hL hC hF
    obtain ⟨gC, rfl⟩ : ∃ g, fC = g + 3 := ⟨fC - 3, by omega⟩
    obtain ⟨gF, rfl⟩ : ∃ g, fF = g + 2 := ⟨fF - 2, by omega⟩
    exact simP_step (gC := gC + 2) (gF := gF) (by omega) (fun _ => ih (L + 1) (gC + 2) gF (by omega) (by omega) (by omega)) (fun _ => simE_step (by omega) (ih (L + 1) gC gF (by omega) (by omega) (by omega)))
theorem simE_0 {u : Int → Int} {n nk ln : Nat} : simE u n nk ln 0 40 40 := simE_step (gC := 38) (gF := 39) (by omega) (simP_all 6 0 38 39 (by omega) (by omega) (by omega))
