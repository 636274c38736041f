/-! brackets read by both; one part at a level -/
theorem wrap_group {S T S4 T4 S5 T5 S6 T6 : St} {u : Int → Int} {n nk ln L p0 t0 a6 : Nat} {d : Nat → Nat} (h : OPN S S4 (T 84) (T4 84) p0 ln 7 0 (6 + (p0 : Int))) (hF : FR S (T 84) p0 t0) (hp : p0 < 24) (hL : L ≤ 5) (hc : okExpr S4 T4 S5 T5 u n nk ln (L + 1) (6 + p0) (p0 + 1) t0 (fun q => if q = p0 then L else d q)) (r6 : RR S6 T6 u n a6) (kC : kept [] [(12, 6), (12, 7), (12, 8), (12, 9)] S5 S6) (kF : kept [] [(83, 6), (83, 7), (83, 8), (83, 9)] T5 T6) : okPart S T S6 T6 u n nk ln L p0 t0 d := by
  obtain ⟨-, lo4, n4, m198, s19⟩ := h.fr hF hp
  obtain ⟨⟨s14, s15, s16, s17, s18⟩, sO, -, ⟨m2, m24, m48⟩, mO⟩ := h
  obtain ⟨a', p1, t1, d', r5, f5, ⟨c1, c2, c3⟩, lo5, dd, ex, reg, cov⟩ := hc
  have p24 := f5.1.2.2.2.2
  have e84 : T6 84 = T5 84 := kF.cell 84 (by decide) (by decide)
  have cc : ∀ i, 14 ≤ i → i ≤ 20 → S6 i = S5 i := fun i a b => kC.cell i (by simp) (by simp; omega)
  have e13 : S6 13 3 = S5 13 3 := kC 13 3 (by decide) (by decide)
  obtain ⟨⟨k1, k2, k3, k4, k5⟩, k6, k7, k8, k9⟩ := lo5.1 p0 (by omega)
  have dp : d' p0 = L := by rw [dd p0 (by omega)]; exact if_pos rfl
  have c14 := cc 14 (by decide) (by decide)
  have c15 := cc 15 (by decide) (by decide)
  have c16 := cc 16 (by decide) (by decide)
  have c17 := cc 17 (by decide) (by decide)
  have c18 := cc 18 (by decide) (by decide)
  have c19 := cc 19 (by decide) (by decide)
  have c20 := cc 20 (by decide) (by decide)
  have hi : HI S5 S6 (T5 84) (T6 84) (p0 + 1) t0 t1 := by
    rw [e84]
    exact ⟨⟨fun k _ => ⟨by rw [c14], by rw [c15], by rw [c16], by rw [c17], by rw [c18]⟩, fun e _ => by rw [c19], fun k _ => by rw [c20]⟩, fun _ _ _ => ⟨rfl, rfl, rfl, rfl⟩, fun _ _ _ => ⟨rfl, rfl⟩, fun _ _ _ => ⟨rfl, rfl⟩⟩
  have lo6 : LOW S5 S6 (T5 84) (T6 84) p0 t0 30 := by
    rw [e84]
    exact ⟨fun p _ => ⟨⟨by rw [c14], by rw [c15], by rw [c16], by rw [c17], by rw [c18]⟩, rfl, rfl, rfl, rfl⟩, fun e _ _ => ⟨by rw [c19], fun j _ => by rw [c20], rfl, rfl⟩, fun _ _ => ⟨rfl, rfl⟩⟩
  have lo5' : LOW S4 S5 (T4 84) (T5 84) p0 t0 30 := lo5.mono (by omega) (Nat.le_refl _) (Or.inr (by omega))
  have n6 : T6 84 (96 + (p0 : Int)) = -1 := by rw [e84, k9]; exact n4
  refine ⟨a6, p1, t1, d', r6, f5.up e13 c19 (fun k _ => by rw [e84]), by omega, (lo4.trans lo5' (Nat.le_refl _) (Nat.le_refl _) (Or.inl rfl)).trans lo6 (Nat.le_refl _) (Nat.le_refl _) (Or.inl rfl), fun q hq => ?_, dp, n6, fun p x y => ?_, fun q x y => ?_⟩
  · rw [dd q (by omega)]; exact if_neg (by omega)
  · by_cases e : p = p0
    · subst e
      have g24 : T6 84 (24 + (p : Int)) = 7 := by rw [e84, k6]; exact m24
      have g48 : T6 84 (48 + (p : Int)) = 6 + (p : Int) := by rw [e84, k7]; exact m48
      have ex6 : EX S6 (T6 84) d' (p + 1) p1 t0 t1 (6 + p) (L + 1) := ex.cg (by rw [c19]) (fun j _ => by rw [c20]) (by rw [e84]) (by rw [e84]) (fun t _ _ => by rw [e84]; exact ⟨rfl, rfl⟩) (fun _ _ _ => rfl)
      unfold PG isQ
      rw [g24, g48, n6, dp]
      refine ⟨⟨?_, ?_, ?_, ex6.1.2.2, by omega⟩, by omega, Or.inl rfl, ⟨by omega, by omega, fun w => absurd rfl w⟩, fun _ => ⟨?_, rfl, ex6, hL⟩, fun s => by omega, fun _ => ?_⟩
      · rw [c14, k1]; exact s14
      · rw [c17, k4]; exact s17
      · rw [c18, k5]; exact s18
      · rw [c15, k2]; exact s15
      · rw [c16, k3]; exact s16
    · exact reg.hi hi p24 (fun _ _ => rfl) p (by omega) y
  · rw [e84]
    rcases cov q (by omega) y with ⟨t, x1, x2⟩ | ⟨p, x1, x2, x3⟩
    · exact ⟨p0, Nat.le_refl _, by omega, Or.inr (Or.inr ⟨by rw [k6]; exact m24, t, by omega, x2⟩)⟩
    · exact ⟨p, by omega, x2, x3⟩
theorem tail_group {S T : St} {u : Int → Int} {n nk ln a p0 t0 L gC gF : Nat} {d : Nat → Nat} {kd : Int} (h : RR S T u n a) (hN : NM S T u n nk) (hln : S 12 10 = (ln : Int)) (hF : FR S (T 84) p0 t0) (hp : p0 < 24) (hL : L ≤ 5) (IH : simE u n nk ln (L + 1) gC gF) : outP (tlC (RX5_readExpr gC) (addS S (p0 : Int) 7 (ln : Int)) (L : Int) 7 kd (p0 : Int)) (tlF (RX12_readsExpr gF) T (L : Int) (-1) kd 1) S T u n nk ln L p0 t0 d := by
  obtain ⟨S2, T2, a1, a2, a3, a4, a5⟩ := opened (p0 := p0) (S1 := addS S (p0 : Int) 7 (ln : Int)) h hN rfl rfl
  have m84 : T2 84 = up T 84 2 ((p0 : Int) + 1) 84 := a5.cell 84 (by decide) (by decide)
  have f2 := hF.1.2.1
  obtain ⟨c1, c2, c3⟩ := added a4
  have KS2 : KS S S2 := KS_add.trans (KS.adv a4)
  have KT4 : KT T (up (up T2 84 (24 + (p0 : Int)) 7) 84 (48 + (p0 : Int)) (6 + (p0 : Int))) := (((KT_84 (Or.inl rfl)).trans (KT.adv a5)).trans (KT_84 (by omega))).trans (KT_84 (by omega))
  generalize nxt u n a = b at a3
  have R4 : RR S2 (up (up T2 84 (24 + (p0 : Int)) 7) 84 (48 + (p0 : Int)) (6 + (p0 : Int))) u n b := a3.of rfl rfl rfl rfl
  have O4 : OPN S S2 (T 84) ((up (up T2 84 (24 + (p0 : Int)) 7) 84 (48 + (p0 : Int)) (6 + (p0 : Int))) 84) p0 ln 7 0 (6 + (p0 : Int)) := ⟨c1, c2, c3, ⟨by rw [up_nk (by omega), up_nk (by omega), m84, up_eq], by rw [up_nk (by omega), up_eq], by rw [up_eq]⟩, fun k x y z => by rw [up_nk z, up_nk y, m84, up_nk x]⟩
  obtain ⟨fr4, -, -, m198, s19⟩ := O4.fr hF hp
  obtain ⟨S5, T5, i1, i2, i3, i4, i5⟩ := IH S2 _ b (p0 + 1) t0 (fun q => if q = p0 then L else d q) (6 + p0) R4 (hN.of KS2 KT4) (by rw [KS2 12 10 (by decide) (by decide)]; exact hln) fr4 (by omega) s19 m198
  rw [show ((L + 1 : Nat) : Int) = (L : Int) + 1 by omega, show ((6 + p0 : Nat) : Int) = 6 + (p0 : Int) by omega] at i1 i2
  have eC : tlC (RX5_readExpr gC) (addS S (p0 : Int) 7 (ln : Int)) (L : Int) 7 kd (p0 : Int) = bd1 (mX5_expectSign S5 41) fun S_36 => some ((p0 : Int), S_36) := by
    unfold tlC
    rw [gd_t (by decide), if_neg (by decide), bd1_s, bd1_e a1, gd_t (by decide), if_neg (by decide), if_pos rfl, bd2_e i1]
  have eF : ∀ T6 : St, (gd (inI (T5 83 10)) <| if (T5 83 10) = 0 then (bd1 (mX12_needs T5 41) fun S_85 => some (S_85)) else (some (T5))) = some T6 → tlF (RX12_readsExpr gF) T (L : Int) (-1) kd 1 = (gd (inI (T6 83 10)) <| if T6 83 10 = 0 then some ((p0 : Int), T6) else some (-1, T6)) := fun T6 h6 => by
    unfold tlF
    rw [nx_e, f2, nx_e, bd1_e a2, gd_t (by decide), if_neg (by decide), gd_t (by omega), nx_e, gd_t (by omega), nx_e, bd2_e i2, bd1_e h6]
  rcases i5 with i5 | i5
  · refine ⟨(p0 : Int), S5, -1, T5, ?_, ?_, KS2.trans i3, KT4.trans i4, Or.inl i5⟩
    · rw [eC, bd1_e (bad_expectSign i5.2.1)]
    · rw [eF T5 (by rw [i5.1, gd_t (by decide), if_neg (by decide)]), i5.1, gd_t (by decide), if_neg (by decide)]
  · have i5' := i5
    obtain ⟨a', p1, t1, d', r5, -⟩ := i5
    obtain ⟨S6, T6, s1, s2, s3⟩ := sim_sign (c := 41) r5 (by omega)
    have eT6 := eF T6 (by rw [r5.2.2.2, gd_t (by decide), if_pos rfl, bd1_e s2])
    rcases s3 with ⟨a6, r6, k6, k7⟩ | s3
    · refine ⟨(p0 : Int), S6, (p0 : Int), T6, by rw [eC, bd1_e s1], by rw [eT6, r6.2.2.2, gd_t (by decide), if_pos rfl], (KS2.trans i3).trans (KS.adv k6), (KT4.trans i4).trans (KT.adv k7), Or.inr ⟨rfl, rfl, wrap_group O4 hF hp hL i5' r6 k6 k7⟩⟩
    · obtain ⟨S7, T7, w1, w2, w3, w4, w5⟩ := sim_faultK (k := 1) r5 (by omega)
      -- the sign is wanting: both sides say fault 1
      have q1 : S6 = S7 := by
        unfold mX5_expectSign at s1
        rw [r5.2.2.1, gd_t (by decide), if_pos rfl] at s1
        have tI : inI (tkC u n a') := by rcases tk_cases u n a' with q | q | q | q | q <;> omega
        rw [r5.2.1.1.2.2.2.1, gd_t (by omega)] at s1
        by_cases e : tkC u n a' = 41
        · exfalso
          rw [if_pos e] at s1
          obtain ⟨S8, T8, v1, v2, v3, -⟩ := sim_adv r5
          rw [bd1_e v1] at s1
          have e8 : S8 = S6 := Option.some.inj s1
          have := v3.2.2.1
          rw [e8] at this
          have := s3.2.1
          omega
        · rw [if_neg e, bd1_e w1] at s1
          exact (Option.some.inj s1).symm
      have q2 : T6 = T7 := by
        unfold mX12_needs at s2
        rw [bd1_e (e_isSign r5.1.2 r5.2.1.2 (c := 41) (by omega))] at s2
        by_cases e : tkC u n a' = 41
        · exfalso
          rw [if_pos e, gd_t (by decide), if_neg (by decide), r5.2.2.2, gd_t (by decide), if_pos rfl] at s2
          obtain ⟨S8, T8, v1, v2, v3, -⟩ := sim_adv r5
          rw [bd1_e v2] at s2
          have e8 : T8 = T6 := Option.some.inj s2
          have := v3.2.2.2
          rw [e8, s3.1] at this
          cases this
        · rw [if_neg e, gd_t (by decide), if_pos rfl, bd2_e w2, w3.1, gd_t (by decide), if_neg (by decide)] at s2
          exact (Option.some.inj s2).symm
      subst q1 q2
      exact ⟨(p0 : Int), S6, -1, T6, by rw [eC, bd1_e s1], by rw [eT6, s3.1, gd_t (by decide), if_neg (by decide)], (KS2.trans i3).trans w4, (KT4.trans i4).trans w5, Or.inl s3⟩
theorem simP_step {u : Int → Int} {n nk ln L gC gF : Nat} (hL : L ≤ 6) (IP : L ≤ 5 → simP u n nk ln (L + 1) gC gF) (IE : L ≤ 5 → simE u n nk ln (L + 1) gC (gF + 1)) : simP u n nk ln L (gC + 1) (gF + 2) := by
  intro S T a p0 t0 d tm h hN hln hF htm
  have eC : RX5_readExpr (gC + 1) 1 (L : Int) tm S = bX5_readPart (RX5_readExpr gC) S (L : Int) tm := by
    show (if (1 : Nat) = 0 then _ else (if (1 : Nat) = 1 then bX5_readPart (RX5_readExpr gC) S (L : Int) tm else _)) = _
    rw [if_neg (by decide), if_pos rfl]
  have eF : RX12_readsExpr (gF + 2) 2 (L : Int) tm 0 T = bX12_readsPart (RX12_readsExpr (gF + 1)) T (L : Int) tm := by
    show (if (2 : Nat) = 0 then _ else (if (2 : Nat) = 1 then _ else (if (2 : Nat) = 2 then bX12_readsPart (RX12_readsExpr (gF + 1)) T (L : Int) tm else _))) = _
    rw [if_neg (by decide), if_neg (by decide), if_pos rfl]
  rw [eC, eF]
  rcases front (recC := RX5_readExpr gC) (recF := RX12_readsExpr (gF + 1)) h hN hln hF htm hL with ⟨S', T', x1, x2, x3, x4, x5⟩ | ⟨x0, hp, ty, kd, z1, r8, x1, x2, x3⟩
  · exact ⟨-1, S', -1, T', x1, x2, x4, x5, Or.inl x3⟩
  · have fin : outP (tlC (RX5_readExpr gC) (addS S (p0 : Int) ty (ln : Int)) (L : Int) ty kd (p0 : Int)) (tlF (RX12_readsExpr (gF + 1)) T (L : Int) z1 kd r8) S T u n nk ln L p0 t0 d := by
      rcases x3 with ⟨e1, e2, e3, e4⟩ | ⟨e1, e2, e3⟩ | ⟨e1, e2, e3⟩ | ⟨e1, e1', e2, e3, e4⟩ | ⟨e1, e2, e3, e4⟩
      · rw [e1, e2, e3]; exact tail_name h hN hF hp hL e4
      · rw [e1, e2, e3]; exact tail_unit h hN hF hp hL
      · rw [e1, e2, e3]; exact tail_atom h hN hF hp hL
      · rw [e2, e3]; exact tail_seq h hN hln hF hp e4 ⟨e1, e1'⟩ (IP e4)
      · rw [e1, e2, e3]; exact tail_group h hN hln hF hp e4 (IE e4)
    rw [x1, x2]
    obtain ⟨rC, S', rF, T', y1, y2, y3, y4, y5⟩ := fin
    exact ⟨rC, S', rF, T', y1, y2, y3, y4, y5.imp id (fun z => ⟨x0, z⟩)⟩
