/-! sequences and brackets read by both -/
theorem FR.up {S S' : St} {M M' : Int → Int} {p t : Nat} (h : FR S M p t) (a : S' 13 3 = S 13 3) (b : S' 19 = S 19) (c : ∀ k : Int, (k < 72 ∨ 96 ≤ k) → M' k = M k) : FR S' M' p t := by
  obtain ⟨⟨f1, f2, f3, f4, f5⟩, fb, ft⟩ := h
  refine ⟨⟨by rw [a]; exact f1, by rw [c 2 (by omega)]; exact f2, by rw [c 5 (by omega)]; exact f3, f4, f5⟩, fun q x y => ?_, fun t' x y => ?_⟩
  · rw [c _ (by omega), c _ (by omega), c _ (by omega), b]; exact fb q x y
  · rw [c _ (by omega)]; exact ft t' x y
theorem wrap_seq {S T S4 T4 S5 T5 : St} {u : Int → Int} {n nk ln L p0 t0 : Nat} {d : Nat → Nat} {ty v : Int} (h : OPN S S4 (T 84) (T4 84) p0 ln ty v v) (hF : FR S (T 84) p0 t0) (hp : p0 < 24) (hL : L ≤ 5) (hty : 3 ≤ ty ∧ ty ≤ 6) (hv : 0 ≤ v ∧ v ≤ 7) (hc : okPart S4 T4 S5 T5 u n nk ln (L + 1) (p0 + 1) t0 (fun q => if q = p0 then L else d q)) : okPart S T (up S5 16 (p0 : Int) ((p0 : Int) + 1)) (up T5 84 (72 + (p0 : Int)) ((p0 : Int) + 1)) u n nk ln L p0 t0 d := by
  obtain ⟨-, lo4, n4, m198, s19⟩ := h.fr hF hp
  obtain ⟨⟨s14, s15, s16, s17, s18⟩, sO, -, ⟨m2, m24, m48⟩, mO⟩ := h
  obtain ⟨a', p1, t1, d', r5, f5, ⟨c1, c2, c3⟩, lo5, dd, dc, nc, reg, cov⟩ := hc
  have p24 := f5.1.2.2.2.2
  rw [show ((p0 + 1 : Nat) : Int) = (p0 : Int) + 1 by omega] at nc
  obtain ⟨⟨k1, k2, k3, k4, k5⟩, k6, k7, k8, k9⟩ := lo5.1 p0 (by omega)
  obtain ⟨e1, e2, e3, e4⟩ := lo5.2.1 (6 + p0) (by omega) (by omega)
  have dp : d' p0 = L := by rw [dd p0 (by omega)]; exact if_pos rfl
  have mK : ∀ k : Int, k ≠ 72 + (p0 : Int) → (up T5 84 (72 + (p0 : Int)) ((p0 : Int) + 1)) 84 k = T5 84 k := fun k hk => up_nk hk
  have mC : (up T5 84 (72 + (p0 : Int)) ((p0 : Int) + 1)) 84 (72 + (p0 : Int)) = (p0 : Int) + 1 := up_eq
  have sK : ∀ k : Int, k ≠ (p0 : Int) → (up S5 16 (p0 : Int) ((p0 : Int) + 1)) 16 k = S5 16 k := fun k hk => up_nk hk
  have sC : (up S5 16 (p0 : Int) ((p0 : Int) + 1)) 16 (p0 : Int) = (p0 : Int) + 1 := up_eq
  have hi : HI S5 (up S5 16 (p0 : Int) ((p0 : Int) + 1)) (T5 84) ((up T5 84 (72 + (p0 : Int)) ((p0 : Int) + 1)) 84) (p0 + 1) t0 t1 := by
    refine ⟨⟨fun k hk => ⟨rfl, rfl, sK k (by omega), rfl, rfl⟩, fun _ _ => rfl, fun _ _ => rfl⟩, fun p a b => ⟨mK _ (by omega), mK _ (by omega), mK _ (by omega), mK _ (by omega)⟩, fun e a b => ⟨mK _ (by omega), mK _ (by omega)⟩, fun t a b => ⟨mK _ (by omega), mK _ (by omega)⟩⟩
  have lo6 : LOW S5 (up S5 16 (p0 : Int) ((p0 : Int) + 1)) (T5 84) ((up T5 84 (72 + (p0 : Int)) ((p0 : Int) + 1)) 84) p0 t0 30 := by
    refine ⟨fun p hp' => ⟨⟨rfl, rfl, sK _ (by omega), rfl, rfl⟩, mK _ (by omega), mK _ (by omega), mK _ (by omega), mK _ (by omega)⟩, fun e he _ => ⟨rfl, fun _ _ => rfl, mK _ (by omega), mK _ (by omega)⟩, fun t ht => ⟨mK _ (by omega), mK _ (by omega)⟩⟩
  have n6 : (up T5 84 (72 + (p0 : Int)) ((p0 : Int) + 1)) 84 (96 + (p0 : Int)) = -1 := by rw [mK _ (by omega), k9]; exact n4
  refine ⟨a', p1, t1, d', r5.of rfl rfl rfl rfl, f5.up rfl rfl (fun k hk => mK k (by omega)), by omega, (lo4.trans lo5 (by omega) (by omega) (Or.inl rfl)).trans lo6 (Nat.le_refl _) (Nat.le_refl _) (Or.inl rfl), fun q hq => ?_, dp, n6, fun p x y => ?_, fun q x y => ?_⟩
  · rw [dd q (by omega)]; exact if_neg (by omega)
  · by_cases e : p = p0
    · subst e
      have g24 : (up T5 84 (72 + (p : Int)) ((p : Int) + 1)) 84 (24 + (p : Int)) = ty := by rw [mK _ (by omega), k6]; exact m24
      have g48 : (up T5 84 (72 + (p : Int)) ((p : Int) + 1)) 84 (48 + (p : Int)) = v := by rw [mK _ (by omega), k7]; exact m48
      have g198 : (up T5 84 (72 + (p : Int)) ((p : Int) + 1)) 84 (198 + ((6 + p : Nat) : Int)) = 0 := by rw [mK _ (by omega), e4]; exact m198
      have g97 : (up T5 84 (72 + (p : Int)) ((p : Int) + 1)) 84 (96 + ((p : Int) + 1)) = -1 := by rw [mK _ (by omega)]; exact nc
      have q19 : (up S5 16 (p : Int) ((p : Int) + 1)) 19 ((6 + p : Nat) : Int) = 0 := by show S5 19 _ = 0; rw [e1]; exact s19
      unfold PG isQ
      rw [g24, g48, g198, n6, mC, g97, sC, q19, dp]
      refine ⟨⟨?_, ?_, ?_, rfl, by omega⟩, by omega, Or.inl rfl, ⟨by omega, by omega, fun _ => ⟨?_, rfl⟩⟩, fun s => by omega, fun _ => ⟨hv, by omega, rfl, rfl, ?_, hL⟩, fun s => absurd hty s⟩
      · show S5 14 _ = _; rw [k1]; exact s14
      · show S5 17 _ = _; rw [k4]; exact s17
      · show S5 18 _ = _; rw [k5]; exact s18
      · show S5 15 _ = _; rw [k2]; exact s15
      · rw [show ((p : Int) + 1).toNat = p + 1 by omega]; exact dc
    · exact reg.hi hi p24 (fun _ _ => rfl) p (by omega) y
  · by_cases e : q = p0 + 1
    · refine ⟨p0, Nat.le_refl _, by omega, Or.inr (Or.inl ⟨?_, ?_⟩)⟩
      · rw [mK _ (by omega), k6, m24]; exact hty
      · rw [mC]; omega
    · obtain ⟨p, x1, x2, x3⟩ := cov.hi reg hi p24 q (by omega) y
      exact ⟨p, by omega, x2, x3⟩
theorem tail_seq {S T : St} {u : Int → Int} {n nk ln a p0 t0 L gC gF : Nat} {d : Nat → Nat} {kd ty : Int} (h : RR S T u n a) (hN : NM S T u n nk) (hln : S 12 10 = (ln : Int)) (hF : FR S (T 84) p0 t0) (hp : p0 < 24) (hL : L ≤ 5) (hty : 3 ≤ ty ∧ ty ≤ 6) (IH : simP u n nk ln (L + 1) gC gF) : outP (tlC (RX5_readExpr gC) (addS S (p0 : Int) ty (ln : Int)) (L : Int) ty kd (p0 : Int)) (tlF (RX12_readsExpr (gF + 1)) T (L : Int) (ty + 3) kd 0) S T u n nk ln L p0 t0 d := by
  obtain ⟨S2, T2, a1, a2, a3, a4, a5⟩ := opened (p0 := p0) (S1 := addS S (p0 : Int) ty (ln : Int)) h hN rfl rfl
  have m84 : T2 84 = up T 84 2 ((p0 : Int) + 1) 84 := a5.cell 84 (by decide) (by decide)
  have f2 := hF.1.2.1
  have b48 := (hF.2.1 p0 (Nat.le_refl _) hp).1
  obtain ⟨c1, c2, c3⟩ := added a4
  have KS2 : KS S S2 := KS_add.trans (KS.adv a4)
  have KT3 : KT T (up T2 84 (24 + (p0 : Int)) ty) := ((KT_84 (Or.inl rfl)).trans (KT.adv a5)).trans (KT_84 (by omega))
  generalize nxt u n a = b at a3
  have R3 : RR S2 (up T2 84 (24 + (p0 : Int)) ty) u n b := a3.of rfl rfl rfl rfl
  have O3 : OPN S S2 (T 84) ((up T2 84 (24 + (p0 : Int)) ty) 84) p0 ln ty 0 0 := ⟨c1, c2, c3, ⟨by rw [up_nk (by omega), m84, up_eq], by rw [up_eq], by rw [up_nk (by omega), m84, up_nk (by omega)]; exact b48⟩, fun k x y z => by rw [up_nk y, m84, up_nk x]⟩
  have eC : tlC (RX5_readExpr gC) (addS S (p0 : Int) ty (ln : Int)) (L : Int) ty kd (p0 : Int) = bd1 (mX5_readMany S2 (p0 : Int)) fun S_24 => gd (inI (S_24 12 1)) <| if (S_24 12 1) = 0 then (bd2 (RX5_readExpr gC 1 ((L : Int) + 1) 0 S_24) fun r_28 S_29 => gd (0 ≤ (p0 : Int) ∧ (p0 : Int) < 24) <| nx (up S_29 16 (p0 : Int) r_28) fun S_31 => some ((p0 : Int), S_31)) else (some ((p0 : Int), S_24)) := by
    unfold tlC
    rw [gd_t (by omega), if_neg (by omega), bd1_s, bd1_e a1, gd_t (by omega), if_neg (by omega), if_neg (by omega), if_neg (by omega)]
  have eF : ∀ T5 : St, bX12_readsIn (RX12_readsExpr gF) T2 (p0 : Int) ty (L : Int) = some T5 → tlF (RX12_readsExpr (gF + 1)) T (L : Int) (ty + 3) kd 0 = (gd (inI (T5 83 10)) <| if T5 83 10 = 0 then some ((p0 : Int), T5) else some (-1, T5)) := fun T5 h5 => by
    unfold tlF
    rw [nx_e, f2, nx_e, bd1_e a2, gd_t (by decide), if_pos rfl, if_pos (by omega), if_neg (by omega), if_neg (by omega), show ty + 3 - 3 = ty by omega]
    rw [bd2_e (show RX12_readsExpr (gF + 1) 1 (p0 : Int) ty (L : Int) T2 = some (0, T5) by
      show (if (1 : Nat) = 0 then _ else (if (1 : Nat) = 1 then (bd1 (bX12_readsIn (RX12_readsExpr gF) T2 (p0 : Int) ty (L : Int)) fun S1 => some (0, S1)) else _)) = _
      rw [if_neg (by decide), if_pos rfl, bd1_e h5]), bd1_s]
  -- the child, and back
  have child : ∀ (S4 T4 : St) (b' : Nat) (v : Int), RR S4 T4 u n b' → OPN S S4 (T 84) (T4 84) p0 ln ty v v → (0 ≤ v ∧ v ≤ 7) → KS S S4 → KT T T4 → mX5_readMany S2 (p0 : Int) = some S4 → (∀ T5 : St, (bd2 (RX12_readsExpr gF 2 ((L : Int) + 1) 0 0 T4) fun r_12 S_13 => gd (0 ≤ (72 + (p0 : Int)) ∧ (72 + (p0 : Int)) < 228) <| nx (up S_13 84 (72 + (p0 : Int)) r_12) fun S_15 => some (S_15)) = some T5 → bX12_readsIn (RX12_readsExpr gF) T2 (p0 : Int) ty (L : Int) = some T5) → outP (tlC (RX5_readExpr gC) (addS S (p0 : Int) ty (ln : Int)) (L : Int) ty kd (p0 : Int)) (tlF (RX12_readsExpr (gF + 1)) T (L : Int) (ty + 3) kd 0) S T u n nk ln L p0 t0 d := fun S4 T4 b' v r4 o4 hv k4 kt4 x y => by
    obtain ⟨fr4, -, -, -, -⟩ := o4.fr hF hp
    obtain ⟨rC, S5, rF, T5, i1, i2, i3, i4, i5⟩ := IH S4 T4 b' (p0 + 1) t0 (fun q => if q = p0 then L else d q) 0 r4 (hN.of k4 kt4) (by rw [k4 12 10 (by decide) (by decide)]; exact hln) fr4 (Or.inl rfl)
    rw [show ((L + 1 : Nat) : Int) = (L : Int) + 1 by omega] at i1 i2
    have y5 := y (up T5 84 (72 + (p0 : Int)) rF) (by rw [bd2_e i2, gd_t (by omega), nx_e])
    refine ⟨(p0 : Int), up S5 16 (p0 : Int) rC, if T5 83 10 = 0 then (p0 : Int) else -1, up T5 84 (72 + (p0 : Int)) rF, ?_, ?_, (k4.trans i3).upA (by decide), (kt4.trans i4).trans (KT_84 (by omega)), ?_⟩
    · rw [eC, bd1_e x, r4.2.2.1, gd_t (by decide), if_pos rfl, bd2_e i1, gd_t (by omega), nx_e]
    · rw [eF _ y5, show (up T5 84 (72 + (p0 : Int)) rF) 83 10 = T5 83 10 from rfl]
      rcases i5 with i5 | ⟨_, _, _, i5⟩
      · rw [i5.1, gd_t (by decide), if_neg (by decide), if_neg (by decide)]
      · obtain ⟨_, _, _, _, r5, _⟩ := i5
        rw [r5.2.2.2, gd_t (by decide), if_pos rfl, if_pos rfl]
    · rcases i5 with i5 | ⟨-, j1, j2, i5⟩
      · exact Or.inl i5
      · right
        have z5 : T5 83 10 = 0 := by
          obtain ⟨_, _, _, _, r5, _⟩ := i5
          exact r5.2.2.2
        refine ⟨rfl, if_pos z5, ?_⟩
        rw [j1, j2, show ((p0 + 1 : Nat) : Int) = (p0 : Int) + 1 by omega]
        exact wrap_seq o4 hF hp hL hty hv i5
  have R3' := R3
  obtain ⟨⟨hC, hFt⟩, ⟨cC, cF⟩, z1, z2⟩ := R3
  have tI : inI (tk u n b) ∧ inI (tkC u n b) := by rcases tk_cases u n b with q | q | q | q | q <;> omega
  by_cases t2 : tk u n b = 2
  · have tc : tkC u n b = 2 := by rcases tk_cases u n b with q | q | q | q | q <;> omega
    have c9 := cC.2.2.2.2 t2
    have f9 := cF.2.2.2.2 t2
    by_cases vv : 1 ≤ vl u n b ∧ vl u n b ≤ 7
    · obtain ⟨S5, T5, g1, g2, g3, g4, g5⟩ := sim_adv (S := up S2 15 (p0 : Int) ((vl u n b : Nat) : Int)) (T := up (up T2 84 (24 + (p0 : Int)) ty) 84 (48 + (p0 : Int)) ((vl u n b : Nat) : Int)) (R3'.of rfl rfl rfl rfl)
      have m5 : T5 84 = (up (up T2 84 (24 + (p0 : Int)) ty) 84 (48 + (p0 : Int)) ((vl u n b : Nat) : Int)) 84 := g5.cell 84 (by decide) (by decide)
      have d14 := g4.cell 14 (by decide) (by decide)
      have d15 := g4.cell 15 (by decide) (by decide)
      have d16 := g4.cell 16 (by decide) (by decide)
      have d17 := g4.cell 17 (by decide) (by decide)
      have d18 := g4.cell 18 (by decide) (by decide)
      refine child S5 T5 (nxt u n b) ((vl u n b : Nat) : Int) g3 ⟨⟨?_, ?_, ?_, ?_, ?_⟩, fun k hk => ⟨?_, ?_, ?_, ?_, ?_⟩, ⟨?_, ?_, ?_⟩, ⟨?_, ?_, ?_⟩, fun k x y z => ?_⟩ (by omega) ((KS2.upA (by decide)).trans (KS.adv g4)) ((KT3.trans (KT_84 (by omega))).trans (KT.adv g5)) ?_ (fun T6 h6 => ?_)
      · rw [d14]; exact c1.1
      · rw [d15, up_eq]
      · rw [d16]; exact c1.2.2.1
      · rw [d17]; exact c1.2.2.2.1
      · rw [d18]; exact c1.2.2.2.2
      · rw [d14]; exact (c2 k hk).1
      · rw [d15, up_nk hk]; exact (c2 k hk).2.1
      · rw [d16]; exact (c2 k hk).2.2.1
      · rw [d17]; exact (c2 k hk).2.2.2.1
      · rw [d18]; exact (c2 k hk).2.2.2.2
      · rw [g4.cell 19 (by decide) (by decide)]; exact c3.1
      · rw [g4.cell 20 (by decide) (by decide)]; exact c3.2.1
      · rw [g4 13 3 (by decide) (by decide)]; exact c3.2.2
      · rw [m5, up_nk (by omega), up_nk (by omega), m84, up_eq]
      · rw [m5, up_nk (by omega), up_eq]
      · rw [m5, up_eq]
      · rw [m5, up_nk z, up_nk y, m84, up_nk x]
      · unfold mX5_readMany
        rw [cC.2.2.2.1, tc, gd_t (by decide), if_pos rfl, c9, gd_t (by omega), if_neg (by omega), if_pos (by omega), gd_t (by omega), show ((min 8 (vl u n b) : Nat) : Int) = ((vl u n b : Nat) : Int) by omega, nx_e, bd1_e g1]
      · unfold bX12_readsIn
        rw [gd_t (by omega), nx_e, cF.2.2.2.1, t2, gd_t (by decide), if_pos rfl, f9, show ((min 9999 (vl u n b) : Nat) : Int) = ((vl u n b : Nat) : Int) by omega, gd_t (by omega), bd1_e (e_in (by omega) (by decide) (by decide)), if_pos (by omega), gd_t (by decide), if_neg (by decide), gd_t (by omega), nx_e, bd1_e g2, bd2_s, if_neg (by decide)]
        exact h6
    · obtain ⟨S', T', s1, s2, s3, s4, s5⟩ := sim_faultK (k := 2) R3' (by omega)
      have x : mX5_readMany S2 (p0 : Int) = some S' := by
        unfold mX5_readMany
        rw [cC.2.2.2.1, tc, gd_t (by decide), if_pos rfl, c9, gd_t (by omega)]
        by_cases w : vl u n b < 1
        · rw [if_pos (by omega), bd1_e s1]
        · rw [if_neg (by omega), if_neg (by omega), bd1_e s1]
      have y : bX12_readsIn (RX12_readsExpr gF) T2 (p0 : Int) ty (L : Int) = some T' := by
        unfold bX12_readsIn
        rw [gd_t (by omega), nx_e, cF.2.2.2.1, t2, gd_t (by decide), if_pos rfl, f9, gd_t (by omega), bd1_e (e_in (by omega) (by decide) (by decide)), if_neg (by omega), gd_t (by decide), if_pos rfl, bd2_s, if_pos rfl, bd2_e s2]
      refine ⟨(p0 : Int), S', -1, T', ?_, ?_, KS2.trans s4, KT3.trans s5, Or.inl s3⟩
      · rw [eC, bd1_e x, gd_t (by have := s3.2.1; omega), if_neg (by have := s3.2.1; omega)]
      · rw [eF T' y, s3.1, gd_t (by decide), if_neg (by decide)]
  · have tc : tkC u n b ≠ 2 := by rcases tk_cases u n b with q | q | q | q | q <;> omega
    refine child S2 (up T2 84 (24 + (p0 : Int)) ty) b 0 R3' O3 (by omega) KS2 KT3 ?_ (fun T6 h6 => ?_)
    · unfold mX5_readMany
      rw [cC.2.2.2.1, gd_t tI.2, if_neg tc]
    · unfold bX12_readsIn
      rw [gd_t (by omega), nx_e, cF.2.2.2.1, gd_t tI.1, if_neg t2, bd2_s, if_neg (by decide)]
      exact h6
