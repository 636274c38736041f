/-! parts opened: units, atoms, sequences, brackets -/
theorem sim_faultK {S T : St} {u : Int → Int} {n a : Nat} {k : Int} (h : RR S T u n a) (hk : k = 1 ∨ k = 2 ∨ k = 3) : ∃ S' T' : St, mX5_refuse S k = some S' ∧ mX12_faults T k = some (-1, T') ∧ BB S' T' ∧ KS S S' ∧ KT T T' := by
  obtain ⟨⟨hC, -⟩, ⟨cC, cF⟩, z1, z2⟩ := h
  refine ⟨up (up S 12 1 k) 12 2 (S 12 8), up (up (up T 83 10 1) 83 4 k) 83 5 (T 83 7), ?_, ?_, ⟨rfl, hk, rfl, ?_, ?_⟩, (KS.rf.upF (by decide)).upF (by decide), ⟨((kept.rf.upF (by decide)).upF (by decide)).upF (by decide), fun _ _ _ _ _ => rfl⟩⟩
  · unfold mX5_refuse
    rw [z1, gd_t (by decide), if_pos rfl]; rfl
  · unfold mX12_faults
    rw [z2, gd_t (by decide), if_pos rfl]; rfl
  · show T 83 7 = S 12 8
    rw [cC.2.1, cF.2.1]
  · show inI (S 12 8)
    have h4 := hC.1.2.2
    have h5 := cC.1
    rw [cC.2.1]; omega
def OPN (S S4 : St) (M M4 : Int → Int) (p0 ln : Nat) (ty v w : Int) : Prop :=
  (S4 14 (p0 : Int) = ty ∧ S4 15 (p0 : Int) = v ∧ S4 16 (p0 : Int) = -1 ∧ S4 17 (p0 : Int) = -1 ∧ S4 18 (p0 : Int) = (ln : Int)) ∧
  (∀ k : Int, k ≠ (p0 : Int) → S4 14 k = S 14 k ∧ S4 15 k = S 15 k ∧ S4 16 k = S 16 k ∧ S4 17 k = S 17 k ∧ S4 18 k = S 18 k) ∧
  (S4 19 = S 19 ∧ S4 20 = S 20 ∧ S4 13 3 = (p0 : Int) + 1) ∧
  (M4 2 = (p0 : Int) + 1 ∧ M4 (24 + (p0 : Int)) = ty ∧ M4 (48 + (p0 : Int)) = w) ∧
  (∀ k : Int, k ≠ 2 → k ≠ 24 + (p0 : Int) → k ≠ 48 + (p0 : Int) → M4 k = M k)
/-- the class's side of a part added, and a token on -/
theorem added {S S2 : St} {p0 ln : Nat} {ty : Int} (a4 : kept [] [(12, 6), (12, 7), (12, 8), (12, 9)] (addS S (p0 : Int) ty (ln : Int)) S2) : (S2 14 (p0 : Int) = ty ∧ S2 15 (p0 : Int) = 0 ∧ S2 16 (p0 : Int) = -1 ∧ S2 17 (p0 : Int) = -1 ∧ S2 18 (p0 : Int) = (ln : Int)) ∧ (∀ k : Int, k ≠ (p0 : Int) → S2 14 k = S 14 k ∧ S2 15 k = S 15 k ∧ S2 16 k = S 16 k ∧ S2 17 k = S 17 k ∧ S2 18 k = S 18 k) ∧ (S2 19 = S 19 ∧ S2 20 = S 20 ∧ S2 13 3 = (p0 : Int) + 1) := by
  have c14 := a4.cell 14 (by decide) (by decide)
  have c15 := a4.cell 15 (by decide) (by decide)
  have c16 := a4.cell 16 (by decide) (by decide)
  have c17 := a4.cell 17 (by decide) (by decide)
  have c18 := a4.cell 18 (by decide) (by decide)
  refine ⟨⟨?_, ?_, ?_, ?_, ?_⟩, fun k hk' => ⟨?_, ?_, ?_, ?_, ?_⟩, a4.cell 19 (by decide) (by decide), a4.cell 20 (by decide) (by decide), (a4 13 3 (by decide) (by decide)).trans rfl⟩
  · rw [c14]; show (up S 14 (p0 : Int) ty) 14 (p0 : Int) = ty; rw [up_eq]
  · rw [c15]; show (up _ 15 (p0 : Int) 0) 15 (p0 : Int) = 0; rw [up_eq]
  · rw [c16]; show (up _ 16 (p0 : Int) (-1)) 16 (p0 : Int) = -1; rw [up_eq]
  · rw [c17]; show (up _ 17 (p0 : Int) (-1)) 17 (p0 : Int) = -1; rw [up_eq]
  · rw [c18]; show (up _ 18 (p0 : Int) (ln : Int)) 18 (p0 : Int) = (ln : Int); rw [up_eq]
  · rw [c14]; show (up S 14 (p0 : Int) ty) 14 k = _; rw [up_nk hk']
  · rw [c15]; show (up _ 15 (p0 : Int) 0) 15 k = _; rw [up_nk hk']; rfl
  · rw [c16]; show (up _ 16 (p0 : Int) (-1)) 16 k = _; rw [up_nk hk']; rfl
  · rw [c17]; show (up _ 17 (p0 : Int) (-1)) 17 k = _; rw [up_nk hk']; rfl
  · rw [c18]; show (up _ 18 (p0 : Int) (ln : Int)) 18 k = _; rw [up_nk hk']; rfl
theorem OPN.fr {S S4 : St} {M M4 : Int → Int} {p0 ln t0 : Nat} {ty v w : Int} (h : OPN S S4 M M4 p0 ln ty v w) (hF : FR S M p0 t0) (hp : p0 < 24) : FR S4 M4 (p0 + 1) t0 ∧ LOW S S4 M M4 p0 t0 30 ∧ M4 (96 + (p0 : Int)) = -1 ∧ M4 (198 + ((6 + p0 : Nat) : Int)) = 0 ∧ S4 19 ((6 + p0 : Nat) : Int) = 0 := by
  obtain ⟨-, sO, ⟨s19, s20, s13⟩, ⟨m2, -, -⟩, mO⟩ := h
  obtain ⟨⟨f1, f2, f3, f4, f5⟩, fb, ft⟩ := hF
  obtain ⟨b1, b2, b3, b4⟩ := fb p0 (Nat.le_refl _) hp
  refine ⟨⟨⟨by rw [s13]; omega, by rw [m2]; omega, by rw [mO 5 (by decide) (by omega) (by omega)]; exact f3, by omega, by omega⟩, fun q x y => ?_, fun t x y => ?_⟩, ⟨fun p hp' => ?_, fun e he _ => ?_, fun t ht => ?_⟩, ?_, ?_, ?_⟩
  · obtain ⟨c1, c2, c3, c4⟩ := fb q (by omega) y
    rw [mO _ (by omega) (by omega) (by omega), mO _ (by omega) (by omega) (by omega), mO _ (by omega) (by omega) (by omega), s19]
    exact ⟨c1, c2, c3, c4⟩
  · rw [mO _ (by omega) (by omega) (by omega)]; exact ft t x y
  · refine ⟨sO p (by omega), ?_⟩
    rw [mO _ (by omega) (by omega) (by omega), mO _ (by omega) (by omega) (by omega), mO _ (by omega) (by omega) (by omega), mO _ (by omega) (by omega) (by omega)]
    exact ⟨rfl, rfl, rfl, rfl⟩
  · rw [s19, s20, mO _ (by omega) (by omega) (by omega), mO _ (by omega) (by omega) (by omega)]
    exact ⟨rfl, fun _ _ => rfl, rfl, rfl⟩
  · rw [mO _ (by omega) (by omega) (by omega), mO _ (by omega) (by omega) (by omega)]
    exact ⟨rfl, rfl⟩
  · rw [mO _ (by omega) (by omega) (by omega)]; exact b2
  · rw [mO _ (by omega) (by omega) (by omega)]; exact b4
  · rw [s19]; exact b3
theorem OPN.leaf {S T S3 T3 : St} {u : Int → Int} {n nk ln a' L p0 t0 : Nat} {d : Nat → Nat} {ty v : Int} (h : OPN S S3 (T 84) (T3 84) p0 ln ty v v) (hR : RR S3 T3 u n a') (hF : FR S (T 84) p0 t0) (hp : p0 < 24) (hL : L ≤ 6) (hty : (ty = 0 ∧ 0 ≤ v ∧ v ≤ 25) ∨ ty = 1 ∨ (ty = 2 ∧ 0 ≤ v ∧ v < (nk : Int))) : okPart S T S3 T3 u n nk ln L p0 t0 d := by
  obtain ⟨⟨s14, s15, s16, s17, s18⟩, sO, ⟨s19, s20, s13⟩, ⟨m2, m24, m48⟩, mO⟩ := h
  exact leaf_ok hR hF hp hL s14 s15 s16 s17 s18 sO s19 s20 s13 m2 m24 m48 mO hty
theorem tail_unit {S T : St} {u : Int → Int} {n nk ln a p0 t0 L : Nat} {d : Nat → Nat} {kd : Int} {recC : Nat → Int → Int → St → Option (Int × St)} {recF : Nat → Int → Int → Int → St → Option (Int × St)} (h : RR S T u n a) (hN : NM S T u n nk) (hF : FR S (T 84) p0 t0) (hp : p0 < 24) (hL : L ≤ 6) : outP (tlC recC (addS S (p0 : Int) 1 (ln : Int)) (L : Int) 1 kd (p0 : Int)) (tlF recF T (L : Int) 3 kd 0) S T u n nk ln L p0 t0 d := by
  obtain ⟨S2, T2, a1, a2, a3, a4, a5⟩ := opened (p0 := p0) (S1 := addS S (p0 : Int) 1 (ln : Int)) h hN rfl rfl
  have m84 : T2 84 = up T 84 2 ((p0 : Int) + 1) 84 := a5.cell 84 (by decide) (by decide)
  have f2 := hF.1.2.1
  have b48 := (hF.2.1 p0 (Nat.le_refl _) hp).1
  obtain ⟨c1, c2, c3⟩ := added a4
  refine ⟨(p0 : Int), S2, (p0 : Int), up T2 84 (24 + (p0 : Int)) 1, ?_, ?_, KS_add.trans (KS.adv a4), ((KT_84 (Or.inl rfl)).trans (KT.adv a5)).trans (KT_84 (by omega)), Or.inr ⟨rfl, rfl, ?_⟩⟩
  · unfold tlC
    rw [gd_t (by decide), if_neg (by decide), bd1_s, bd1_e a1, gd_t (by decide), if_neg (by decide), if_neg (by decide), if_pos (by decide)]
  · unfold tlF
    rw [nx_e, f2, nx_e, bd1_e a2, gd_t (by decide), if_pos rfl, if_pos (by decide), if_pos rfl, gd_t (by omega), nx_e, bd1_s]
    rw [show (up T2 84 (24 + (p0 : Int)) 1) 83 10 = T2 83 10 from rfl, a3.2.2.2, gd_t (by decide), if_pos rfl]
  · refine OPN.leaf (ty := 1) (v := 0) (a' := nxt u n a) ⟨c1, c2, c3, ⟨?_, ?_, ?_⟩, fun k x y z => ?_⟩ (a3.of rfl rfl rfl rfl) hF hp hL (Or.inr (Or.inl rfl))
    · rw [up_nk (by omega), m84, up_eq]
    · rw [up_eq]
    · rw [up_nk (by omega), m84, up_nk (by omega)]; exact b48
    · rw [up_nk y, m84, up_nk x]
theorem tail_atom {S T : St} {u : Int → Int} {n nk ln a p0 t0 L : Nat} {d : Nat → Nat} {kd : Int} {recC : Nat → Int → Int → St → Option (Int × St)} {recF : Nat → Int → Int → Int → St → Option (Int × St)} (h : RR S T u n a) (hN : NM S T u n nk) (hF : FR S (T 84) p0 t0) (hp : p0 < 24) (hL : L ≤ 6) : outP (tlC recC (addS S (p0 : Int) 0 (ln : Int)) (L : Int) 0 kd (p0 : Int)) (tlF recF T (L : Int) 2 kd 0) S T u n nk ln L p0 t0 d := by
  obtain ⟨S2, T2, a1, a2, a3, a4, a5⟩ := opened (p0 := p0) (S1 := addS S (p0 : Int) 0 (ln : Int)) h hN rfl rfl
  have m84 : T2 84 = up T 84 2 ((p0 : Int) + 1) 84 := a5.cell 84 (by decide) (by decide)
  have f2 := hF.1.2.1
  obtain ⟨c1, c2, c3⟩ := added a4
  have KS2 : KS S S2 := KS_add.trans (KS.adv a4)
  have KT3 : KT T (up T2 84 (24 + (p0 : Int)) 0) := ((KT_84 (Or.inl rfl)).trans (KT.adv a5)).trans (KT_84 (by omega))
  generalize nxt u n a = b at a3
  have R3 : RR S2 (up T2 84 (24 + (p0 : Int)) 0) u n b := a3.of rfl rfl rfl rfl
  have eC : tlC recC (addS S (p0 : Int) 0 (ln : Int)) (L : Int) 0 kd (p0 : Int) = bd1 (mX5_readLetter S2 (p0 : Int)) fun S_38 => some ((p0 : Int), S_38) := by
    unfold tlC
    rw [gd_t (by decide), if_neg (by decide), bd1_s, bd1_e a1, gd_t (by decide), if_pos rfl]
  have eF : ∀ T3 : St, mX12_readsAtom T2 (p0 : Int) = some T3 → tlF recF T (L : Int) 2 kd 0 = (gd (inI (T3 83 10)) <| if T3 83 10 = 0 then some ((p0 : Int), T3) else some (-1, T3)) := fun T3 h3 => by
    unfold tlF
    rw [nx_e, f2, nx_e, bd1_e a2, gd_t (by decide), if_pos rfl, if_pos (by decide), if_neg (by decide), if_pos rfl, bd1_e h3, bd1_s]
  have R3' := R3
  obtain ⟨⟨hC, hFt⟩, ⟨cC, cF⟩, z1, z2⟩ := R3
  have tI : inI (tk u n b) ∧ inI (tkC u n b) := by rcases tk_cases u n b with q | q | q | q | q <;> omega
  have eb := en_b (u := u) cC.1
  have h4 := hC.1.2.2
  have bad : ∀ q : Int, (q = 1 ∨ q = 2) → (∀ S' : St, mX5_refuse S2 q = some S' → mX5_readLetter S2 (p0 : Int) = some S') → (∀ T' : St, mX12_faults (up T2 84 (24 + (p0 : Int)) 0) q = some (-1, T') → mX12_readsAtom T2 (p0 : Int) = some T') → outP (tlC recC (addS S (p0 : Int) 0 (ln : Int)) (L : Int) 0 kd (p0 : Int)) (tlF recF T (L : Int) 2 kd 0) S T u n nk ln L p0 t0 d := fun q hq x y => by
    obtain ⟨S', T', s1, s2, s3, s4, s5⟩ := sim_faultK R3' (show q = 1 ∨ q = 2 ∨ q = 3 by omega)
    refine ⟨(p0 : Int), S', -1, T', by rw [eC, bd1_e (x S' s1)], ?_, KS2.trans s4, KT3.trans s5, Or.inl s3⟩
    rw [eF T' (y T' s2), s3.1, gd_t (by decide), if_neg (by decide)]
  by_cases t1 : tk u n b = 1
  · have tc : tkC u n b = 1 := by rcases tk_cases u n b with q | q | q | q | q <;> omega
    have bn : b < n := by rcases tk_cases u n b with q | q | q | q | q <;> omega
    have e1 := en_lt (u := u) bn
    by_cases one : en u n b ≤ b + 1
    · obtain ⟨v, v0, v1⟩ := hC.2 b bn
      have lt := isLt_t.mp (en_let (u := u) (n := n) (a := b) (j := b) t1 (Nat.le_refl _) e1)
      have sbe : sb (u (b : Int)) = u (b : Int) := by unfold sb; rw [if_pos (by omega)]
      obtain ⟨S5, T5, g1, g2, g3, g4, g5⟩ := sim_adv (S := up S2 15 (p0 : Int) (u (b : Int) - 97)) (T := up (up T2 84 (24 + (p0 : Int)) 0) 84 (48 + (p0 : Int)) (u (b : Int) - 97)) (R3'.of rfl rfl rfl rfl)
      have rC : mX5_readLetter S2 (p0 : Int) = some S5 := by
        unfold mX5_readLetter
        rw [cC.2.2.2.1, tc, gd_t (by decide), if_pos rfl, cC.2.2.1, cC.2.1, gd_t (by omega), if_pos (by omega), gd_t hC.1.1, gd_t (by omega), gd_t (by omega), v, sbe, nx_e, bd1_e g1]
      have rF : mX12_readsAtom T2 (p0 : Int) = some T5 := by
        unfold mX12_readsAtom
        rw [gd_t (by omega), nx_e, cF.2.2.2.1, t1, gd_t (by decide), if_pos rfl, cF.2.2.1, cF.2.1, gd_t (by omega), if_pos (by omega), gd_t (by omega), gd_t (by omega), (hFt.2 b bn).1, nx_e, bd1_e g2]
      have m5 : T5 84 = (up (up T2 84 (24 + (p0 : Int)) 0) 84 (48 + (p0 : Int)) (u (b : Int) - 97)) 84 := g5.cell 84 (by decide) (by decide)
      have d14 := g4.cell 14 (by decide) (by decide)
      have d15 := g4.cell 15 (by decide) (by decide)
      have d16 := g4.cell 16 (by decide) (by decide)
      have d17 := g4.cell 17 (by decide) (by decide)
      have d18 := g4.cell 18 (by decide) (by decide)
      refine ⟨(p0 : Int), S5, (p0 : Int), T5, by rw [eC, bd1_e rC], ?_, (KS2.upA (by decide)).trans (KS.adv g4), (KT3.trans (KT_84 (by omega))).trans (KT.adv g5), Or.inr ⟨rfl, rfl, ?_⟩⟩
      · rw [eF T5 rF, g3.2.2.2, gd_t (by decide), if_pos rfl]
      · refine OPN.leaf (ty := 0) (v := u (b : Int) - 97) ⟨⟨?_, ?_, ?_, ?_, ?_⟩, fun k hk => ⟨?_, ?_, ?_, ?_, ?_⟩, ⟨?_, ?_, ?_⟩, ⟨?_, ?_, ?_⟩, fun k x y z => ?_⟩ g3 hF hp hL (Or.inl ⟨rfl, by omega, by omega⟩)
        · rw [d14]; exact c1.1
        · rw [d15, up_eq]
        · rw [d16]; exact c1.2.2.1
        · rw [d17]; exact c1.2.2.2.1
        · rw [d18]; exact c1.2.2.2.2
        · rw [d14]; exact (c2 k hk).1
        · rw [d15, up_nk hk]; exact (c2 k hk).2.1
        · rw [d16]; exact (c2 k hk).2.2.1
        · rw [d17]; exact (c2 k hk).2.2.2.1
        · rw [d18]; exact (c2 k hk).2.2.2.2
        · rw [g4.cell 19 (by decide) (by decide)]; exact c3.1
        · rw [g4.cell 20 (by decide) (by decide)]; exact c3.2.1
        · rw [g4 13 3 (by decide) (by decide)]; exact c3.2.2
        · rw [m5, up_nk (by omega), up_nk (by omega), m84, up_eq]
        · rw [m5, up_nk (by omega), up_eq]
        · rw [m5, up_eq]
        · rw [m5, up_nk z, up_nk y, m84, up_nk x]
    · refine bad 2 (by omega) (fun S' s => ?_) (fun T' s => ?_)
      · unfold mX5_readLetter
        rw [cC.2.2.2.1, tc, gd_t (by decide), if_pos rfl, cC.2.2.1, cC.2.1, gd_t (by omega), if_neg (by omega), bd1_e s]
      · unfold mX12_readsAtom
        rw [gd_t (by omega), nx_e, cF.2.2.2.1, t1, gd_t (by decide), if_pos rfl, cF.2.2.1, cF.2.1, gd_t (by omega), if_neg (by omega), bd2_e s]
  · have tc : tkC u n b ≠ 1 := by rcases tk_cases u n b with q | q | q | q | q <;> omega
    refine bad 1 (by omega) (fun S' s => ?_) (fun T' s => ?_)
    · unfold mX5_readLetter
      rw [cC.2.2.2.1, gd_t tI.2, if_neg tc, bd1_e s]
    · unfold mX12_readsAtom
      rw [gd_t (by omega), nx_e, cF.2.2.2.1, gd_t tI.1, if_neg t1, bd2_e s]
