/-! a line read by both -/
theorem NM.of' {S T S' T' : St} {u : Int → Int} {n nk : Nat} (h : NM S T u n nk) (a : S' 13 1 = S 13 1) (b : S' 24 = S 24) (c : S' 25 = S 25) (e : T' 84 0 = T 84 0) (f : T' 87 = T 87) (g : T' 88 = T 88) : NM S' T' u n nk := by
  unfold NM at h ⊢
  rw [a, b, c, e, f, g]; exact h
theorem RR.up10 {S T : St} {u : Int → Int} {n a : Nat} {v : Int} (h : RR S T u n a) : RR (up S 12 10 v) T u n a := by
  obtain ⟨⟨hC, hF⟩, ⟨cC, cF⟩, z1, z2⟩ := h
  exact ⟨⟨hC.of rfl rfl rfl rfl, hF⟩, ⟨cC, cF⟩, z1, z2⟩
def KLS (S S' : St) : Prop := kept [14, 15, 16, 17, 18, 19, 20] [(12, 1), (12, 2), (12, 6), (12, 7), (12, 8), (12, 9), (12, 10), (13, 2), (13, 3)] S S'
theorem KS.to {S S' : St} (h : KS S S') : KLS S S' := kept.mono h (by decide) (by decide)
def okLine (S T S' T' : St) (u : Int → Int) (n nk p0 t0 : Nat) (d : Nat → Nat) : Prop := ∃ (a' p1 t1 e : Nat) (d' : Nat → Nat), RR S' T' u n a' ∧ NM S' T' u n nk ∧ FR S' (T' 84) p1 t1 ∧ (e < nk ∧ T 84 (198 + (e : Int)) = 0) ∧ p0 < p1 ∧ t0 ≤ t1 ∧ LOW S S' (T 84) (T' 84) p0 t0 e ∧ (∀ q, q < p0 → d' q = d q) ∧ EX S' (T' 84) d' p0 p1 t0 t1 e 0 ∧ REG S' (T' 84) nk e d' p0 p1 t0 t1 ∧ COVE (T' 84) e p0 p1 (T' 84 (198 + (e : Int))).toNat ∧ S' 13 2 = S 13 2 + 1
theorem sim_line {S T : St} {u : Int → Int} {n a nk p0 t0 : Nat} {d : Nat → Nat} (h : RR S T u n a) (hN : NM S T u n nk) (hF : FR S (T 84) p0 t0) (hE : ∀ e : Nat, e < 6 → S 19 (e : Int) = T 84 (198 + (e : Int)) ∧ 0 ≤ T 84 (198 + (e : Int)) ∧ T 84 (198 + (e : Int)) ≤ 10) : ∃ S' T1 T' : St, mX5_readLine S = some S' ∧ mX12_readsKind T = some T1 ∧ endS T1 T' ∧ KLS S S' ∧ KT T T' ∧ (BB S' T' ∨ okLine S T S' T' u n nk p0 t0 d) := by
  have hh := h
  obtain ⟨⟨hC, hFt⟩, ⟨cC, cF⟩, z1, z2⟩ := h
  obtain ⟨k, k1, k2⟩ := e_key hFt cF
  have pb := e_partBegun hC cC k2
  have kb : k = -1 ∨ k = 0 ∨ k = 1 ∨ k = 2 ∨ k = 3 ∨ k = 4 ∨ k = 5 ∨ k = 6 ∨ k = 7 ∨ k = 8 ∨ k = 9 := by
    rcases k2 with ⟨i, i1, i2, _⟩ | ⟨i1, _⟩ <;> omega
  have n6 := hN.1.2.2
  have tI : inI (tk u n a) := by rcases tk_cases u n a with q | q | q | q | q <;> omega
  have ktf : ∀ q : Int, KT T (up (up (up T 83 10 1) 83 4 q) 83 5 (T 83 7)) := fun q => ⟨((kept.rf.upF (by decide)).upF (by decide)).upF (by decide), fun _ _ _ _ _ => rfl⟩
  have flt1 : (∀ S', mX5_refuse S 1 = some S' → mX5_readLine S = some S') → (∀ T', mX12_faults T 1 = some (-1, T') → mX12_readsKind T = some T') → ∃ S' T1 T' : St, mX5_readLine S = some S' ∧ mX12_readsKind T = some T1 ∧ endS T1 T' ∧ KLS S S' ∧ KT T T' ∧ (BB S' T' ∨ okLine S T S' T' u n nk p0 t0 d) := fun x y => by
    obtain ⟨f1, f2, f3⟩ := sim_faultE (k := 1) hh (by omega)
    exact ⟨_, _, _, x _ f1, y _ f2, Or.inr ⟨f3.1, rfl⟩, (kept.rf.upF (by decide)).upF (by decide), ktf 1, Or.inl f3⟩
  by_cases t1 : tk u n a = 1
  · rw [if_pos t1] at pb
    have pbI : inI (pbt k) := by
      rcases kb with e | e | e | e | e | e | e | e | e | e | e <;> (rw [e]; decide)
    by_cases kk : 0 ≤ k
    · have p2 : pbt k ≠ 2 := by
        rcases kb with e | e | e | e | e | e | e | e | e | e | e <;> first | omega | (rw [e]; decide)
      refine flt1 (fun S' s => ?_) (fun T' s => ?_)
      · unfold mX5_readLine
        rw [bd1_e pb, gd_t pbI, if_neg p2, bd1_e s]
      · unfold mX12_readsKind
        rw [cF.2.2.2.1, t1, gd_t (by decide), if_pos rfl, bd1_e k1, gd_t (by omega), if_neg (by omega), bd2_e s]
    · have km : k = -1 := by omega
      rw [km] at pb k1
      have p2 : pbt (-1) = 2 := rfl
      rw [p2] at pb
      obtain ⟨r, r1, r2, r3⟩ := sim_named hC hFt cC cF hN t1
      have R7 : RR (up S 12 10 r) T u n a := hh.up10
      have eC : ∀ S' : St, (gd (inI ((up S 12 10 r) 12 10)) <| if ((up S 12 10 r) 12 10) = (-1) then (bd1 (mX5_refuse (up S 12 10 r) 2) fun S_11 => some (S_11)) else (gd (0 ≤ ((up S 12 10 r) 12 10) ∧ ((up S 12 10 r) 12 10) < 30) <| gd (inI ((up S 12 10 r) 19 ((up S 12 10 r) 12 10))) <| if ((up S 12 10 r) 19 ((up S 12 10 r) 12 10)) ≤ 0 then (bd1 (mX5_advance (up S 12 10 r)) fun S_16 => bd1 (mX5_expectSign S_16 61) fun S_18 => bd1 (gd (inI (S_18 12 1)) <| if (S_18 12 1) = 0 then (bd1 (mX5_readExpr S_18 (S_18 12 10) 0) fun S_28 => some (S_28)) else (some (S_18))) fun S_19 => bd1 (mX5_expectSign S_19 59) fun S_23 => nx (up S_23 13 2 ((S_23 13 2) + 1)) fun S_24 => some (S_24)) else (bd1 (mX5_refuse (up S 12 10 r) 2) fun S_30 => some (S_30)))) = some S' → mX5_readLine S = some S' := fun S' x => by
        unfold mX5_readLine
        rw [bd1_e pb, gd_t (by decide), if_pos rfl, bd1_e r1, nx_e]
        exact x
      rw [show (up S 12 10 r) 12 10 = r from up_eq] at eC
      have flt2 : (∀ S', mX5_refuse (up S 12 10 r) 2 = some S' → mX5_readLine S = some S') → (∀ T', mX12_faults T 2 = some (-1, T') → mX12_readsKind T = some T') → ∃ S' T1 T' : St, mX5_readLine S = some S' ∧ mX12_readsKind T = some T1 ∧ endS T1 T' ∧ KLS S S' ∧ KT T T' ∧ (BB S' T' ∨ okLine S T S' T' u n nk p0 t0 d) := fun x y => by
        obtain ⟨f1, f2, f3⟩ := sim_faultE (k := 2) R7 (by omega)
        exact ⟨_, _, _, x _ f1, y _ f2, Or.inr ⟨f3.1, rfl⟩, ((kept.rf.upF (by decide)).upF (by decide)).upF (by decide), ktf 2, Or.inl f3⟩
      by_cases rr : r = -1
      · refine flt2 (fun S' s => eC S' ?_) (fun T' s => ?_)
        · rw [rr, gd_t (by decide), if_pos rfl, ← rr, bd1_e s]
        · unfold mX12_readsKind
          rw [cF.2.2.2.1, t1, gd_t (by decide), if_pos rfl, bd1_e k1, gd_t (by decide), if_pos (by decide), bd1_e r2, rr, gd_t (by decide), if_pos (by decide), bd2_e s]
      · obtain ⟨e, rfl⟩ : ∃ e : Nat, r = (e : Int) := ⟨r.toNat, by omega⟩
        obtain ⟨e1, e2, e3⟩ := hE e (by omega)
        have e19 : (up S 12 10 (e : Int)) 19 (e : Int) = T 84 (198 + (e : Int)) := e1
        rw [e19] at eC
        by_cases c0 : T 84 (198 + (e : Int)) ≤ 0
        · have c0' : T 84 (198 + (e : Int)) = 0 := by omega
          obtain ⟨S2, T2, s1, s2, s3, s4, s5⟩ := sim_adv R7
          have eF : ∀ T1 : St, (bd1 (mX12_needs T2 61) fun S_23 => gd (inI (S_23 83 10)) <| if (S_23 83 10) = 0 then (bd1 (mX12_readsExpr S_23 (e : Int) 0) fun S_27 => some (S_27)) else (some (S_23))) = some T1 → mX12_readsKind T = some T1 := fun T1 x => by
            unfold mX12_readsKind
            rw [cF.2.2.2.1, t1, gd_t (by decide), if_pos rfl, bd1_e k1, gd_t (by decide), if_pos (by decide), bd1_e r2, gd_t (by omega), if_neg (by omega), gd_t (by omega), gd_t (by omega), if_pos c0, bd1_e s2]
            exact x
          have eC' : ∀ S' : St, (bd1 (mX5_expectSign S2 61) fun S_18 => bd1 (gd (inI (S_18 12 1)) <| if (S_18 12 1) = 0 then (bd1 (mX5_readExpr S_18 (S_18 12 10) 0) fun S_28 => some (S_28)) else (some (S_18))) fun S_19 => bd1 (mX5_expectSign S_19 59) fun S_23 => nx (up S_23 13 2 ((S_23 13 2) + 1)) fun S_24 => some (S_24)) = some S' → mX5_readLine S = some S' := fun S' x => by
            refine eC S' ?_
            rw [gd_t (by omega), if_neg (by omega), gd_t (by omega), gd_t (by omega), if_pos c0, bd1_e s1]
            exact x
          have kS2 : KLS S S2 := kept.trans (kept.rf.upF (by decide)) (KS.adv s4).to
          have kT2 : KT T T2 := KT.adv s5
          rcases sim_signE (c := 61) s3 (by omega) with ⟨S3, T3, w1, w2, w3, w4, w5⟩ | ⟨w1, w2, w3⟩
          · have e84 : T3 84 = T 84 := (w5.cell 84 (by decide) (by decide)).trans (s5.cell 84 (by decide) (by decide))
            have c : ∀ i, 13 ≤ i → i ≤ 25 → S3 i = S i := fun i a b => (w4.cell i (by simp) (by simp; omega)).trans ((s4.cell i (by simp) (by simp; omega)).trans (by unfold up; rw [if_neg (by omega)]))
            have kS3 : KLS S S3 := kept.trans kS2 (KS.adv w4).to
            have kT3 : KT T T3 := kT2.trans (KT.adv w5)
            have l10 : S3 12 10 = (e : Int) := by rw [w4 12 10 (by decide) (by decide), s4 12 10 (by decide) (by decide), up_eq]
            have nm3 : NM S3 T3 u n nk := hN.of' (by rw [c 13 (by omega) (by omega)]) (c 24 (by omega) (by omega)) (c 25 (by omega) (by omega)) (by rw [e84]) (kT3.1.cell 87 (by decide) (by decide)) (kT3.1.cell 88 (by decide) (by decide))
            have fr3 : FR S3 (T3 84) p0 t0 := hF.up (by rw [c 13 (by omega) (by omega)]) (c 19 (by omega) (by omega)) (fun k _ => by rw [e84])
            have lo3 : LOW S S3 (T 84) (T3 84) p0 t0 e := by
              rw [e84]
              exact ⟨fun p _ => ⟨⟨by rw [c 14 (by omega) (by omega)], by rw [c 15 (by omega) (by omega)], by rw [c 16 (by omega) (by omega)], by rw [c 17 (by omega) (by omega)], by rw [c 18 (by omega) (by omega)]⟩, rfl, rfl, rfl, rfl⟩, fun e _ _ => ⟨by rw [c 19 (by omega) (by omega)], fun j _ => by rw [c 20 (by omega) (by omega)], rfl, rfl⟩, fun _ _ => ⟨rfl, rfl⟩⟩
            obtain ⟨S4, T4, i1, i2, i3, i4, i5⟩ := simE_0 (u := u) (n := n) (nk := nk) (ln := e) S3 T3 _ p0 t0 d e w3 nm3 l10 fr3 (by omega) (by rw [c 19 (by omega) (by omega), e1]; exact c0') (by rw [e84]; exact c0')
            have x1 : mX5_readExpr S3 (e : Int) 0 = some S4 := by
              unfold mX5_readExpr
              rw [bd2_e (show RX5_readExpr 40 0 (e : Int) 0 S3 = some (0, S4) from i1)]
            have x2 : mX12_readsExpr T3 (e : Int) 0 = some T4 := by
              unfold mX12_readsExpr
              rw [bd2_e (show RX12_readsExpr 40 0 (e : Int) 0 0 T3 = some (0, T4) from i2)]
            have eF4 := eF T4 (by rw [bd1_e w2, w3.2.2.2, gd_t (by decide), if_pos rfl, bd1_e x2])
            have eC4 : ∀ S5 : St, mX5_expectSign S4 59 = some S5 → mX5_readLine S = some (up S5 13 2 (S5 13 2 + 1)) := fun S5 y => eC' _ (by rw [bd1_e w1, w3.2.2.1, gd_t (by decide), if_pos rfl, l10, bd1_e x1, bd1_s, bd1_e y, nx_e])
            rcases i5 with i5 | ⟨a4, p1, t1', d', r5, f5, c5, lo5, dd, ex, reg, cov⟩
            · exact ⟨_, T4, T4, eC4 S4 (bad_expectSign i5.2.1), eF4, Or.inr ⟨i5.1, rfl⟩, kept.upF (kept.trans kS3 i3.to) (by decide), kT3.trans i4, Or.inl i5⟩
            · rcases sim_signE (c := 59) r5 (by omega) with ⟨S6, T6, y1, y2, y3, y4, y5⟩ | ⟨y1, y2, y3⟩
              · have g84 : T6 84 = T4 84 := y5.cell 84 (by decide) (by decide)
                have cS : ∀ i, 14 ≤ i → i ≤ 25 → (up S6 13 2 (S6 13 2 + 1)) i = S4 i := fun i a b => by
                  show (if i = 13 then _ else S6 i) = _
                  rw [if_neg (by omega)]
                  exact y4.cell i (by simp) (by simp; omega)
                have lo6 : ∀ P T' x : Nat, LOW S4 (up S6 13 2 (S6 13 2 + 1)) (T4 84) (T6 84) P T' x := fun P T' x => by
                  rw [g84]
                  exact ⟨fun p _ => ⟨⟨by rw [cS 14 (by omega) (by omega)], by rw [cS 15 (by omega) (by omega)], by rw [cS 16 (by omega) (by omega)], by rw [cS 17 (by omega) (by omega)], by rw [cS 18 (by omega) (by omega)]⟩, rfl, rfl, rfl, rfl⟩, fun e _ _ => ⟨by rw [cS 19 (by omega) (by omega)], fun j _ => by rw [cS 20 (by omega) (by omega)], rfl, rfl⟩, fun _ _ => ⟨rfl, rfl⟩⟩
                have p124 := f5.1.2.2.2.2
                have kT6 : KT T T6 := (kT3.trans i4).trans (KT.adv y5)
                have kS6 : KLS S S6 := kept.trans (kept.trans kS3 i3.to) (KS.adv y4).to
                have s132 : S6 13 2 = S 13 2 := by
                  rw [y4 13 2 (by decide) (by decide), i3 13 2 (by decide) (by decide), c 13 (by omega) (by omega)]
                refine ⟨_, T4, T6, eC4 S6 y1, eF4, Or.inl ⟨r5.2.2.2, y2⟩, kept.upF kS6 (by decide), kT6, Or.inr ⟨_, p1, t1', e, d', y3.of rfl rfl rfl rfl, ?_, ?_, ⟨by omega, c0'⟩, c5.1, c5.2.1, (lo3.trans lo5 (Nat.le_refl _) (Nat.le_refl _) (Or.inl rfl)).trans (lo6 p0 t0 e) (Nat.le_refl _) (Nat.le_refl _) (Or.inl rfl), dd, ?_, ?_, ?_, ?_⟩⟩
                · refine nm3.of' ?_ ?_ ?_ ?_ ?_ ?_
                  · show S6 13 1 = _
                    rw [y4 13 1 (by decide) (by decide), i3 13 1 (by decide) (by decide)]
                  · rw [cS 24 (by omega) (by omega), i3.cell 24 (by decide) (by decide)]
                  · rw [cS 25 (by omega) (by omega), i3.cell 25 (by decide) (by decide)]
                  · rw [g84]; exact i4.2 0 (by decide) (by decide) (by decide) (by decide)
                  · rw [y5.cell 87 (by decide) (by decide)]; exact i4.1.cell 87 (by decide) (by decide)
                  · rw [y5.cell 88 (by decide) (by decide)]; exact i4.1.cell 88 (by decide) (by decide)
                · exact f5.up (y4 13 3 (by decide) (by decide)) (cS 19 (by omega) (by omega)) (fun k _ => by rw [g84])
                · exact ex.low (lo6 p1 t1' 30) (Nat.le_refl _) (by omega) (by omega) (fun _ _ _ => rfl)
                · exact reg.low (lo6 p1 t1' 30) (Nat.le_refl _) (Nat.le_refl _) (Or.inr (by omega)) (fun _ _ _ => rfl)
                · rw [g84]; exact cov
                · rw [up_eq, s132]
              · exact ⟨_, T4, _, eC4 _ y1, eF4, Or.inl ⟨r5.2.2.2, y2⟩, kept.upF (kept.upF (kept.upF (kept.trans kS3 i3.to) (by decide)) (by decide)) (by decide), (kT3.trans i4).trans ⟨((kept.rf.upF (by decide)).upF (by decide)).upF (by decide), fun _ _ _ _ _ => rfl⟩, Or.inl y3⟩
          · have n1 := w3.2.1
            refine ⟨_, _, _, eC' (up (up (up S2 12 1 1) 12 2 (S2 12 8)) 13 2 ((up (up S2 12 1 1) 12 2 (S2 12 8)) 13 2 + 1)) ?_, eF _ ?_, Or.inr ⟨w3.1, rfl⟩, kept.upF (kept.upF (kept.upF kS2 (by decide)) (by decide)) (by decide), kT2.trans ⟨((kept.rf.upF (by decide)).upF (by decide)).upF (by decide), fun _ _ _ _ _ => rfl⟩, Or.inl w3⟩
            · rw [bd1_e w1, gd_t (by omega), if_neg (by omega), bd1_s, bd1_e (bad_expectSign n1), nx_e]
            · rw [bd1_e w2, w3.1, gd_t (by decide), if_neg (by decide)]
        · refine flt2 (fun S' s => eC S' ?_) (fun T' s => ?_)
          · rw [gd_t (by omega), if_neg (by omega), gd_t (by omega), gd_t (by omega), if_neg c0, bd1_e s]
          · unfold mX12_readsKind
            rw [cF.2.2.2.1, t1, gd_t (by decide), if_pos rfl, bd1_e k1, gd_t (by decide), if_pos (by decide), bd1_e r2, gd_t (by omega), if_neg (by omega), gd_t (by omega), gd_t (by omega), if_neg c0, bd2_e s]
  · rw [if_neg t1] at pb
    refine flt1 (fun S' s => ?_) (fun T' s => ?_)
    · unfold mX5_readLine
      rw [bd1_e pb]
      split
      · rw [gd_t (by decide), if_neg (by decide), bd1_e s]
      · rw [gd_t (by decide), if_neg (by decide), bd1_e s]
    · unfold mX12_readsKind
      rw [cF.2.2.2.1, gd_t tI, if_neg t1, bd2_e s]
