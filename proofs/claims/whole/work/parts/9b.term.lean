/-! terms read by both: levels, links -/
theorem lev {S : St} {M : Int → Int} {nk ln L : Nat} {d : Nat → Nat} {p0 p1 t0 t1 : Nat} (h : REG S M nk ln d p0 p1 t0 t1) (c : COV M p0 p1) (h0 : d p0 = L) : ∀ q, p0 ≤ q → q < p1 → L ≤ d q := by
  intro q
  induction q using Nat.strongRecOn with
  | ind q ih =>
    intro a b
    by_cases e : q = p0
    · rw [e, h0]; exact Nat.le_refl _
    · obtain ⟨p, x1, x2, x3⟩ := c q (by omega) b
      have i := ih p x2 x1 (by omega)
      obtain ⟨-, -, g1, -, g2, g3, -⟩ := h p x1 (by omega)
      rcases x3 with x3 | ⟨x3, x4⟩ | ⟨x3, t, x4, x5⟩
      · rcases g1 with g1 | g1
        · omega
        · have := g1.2.2
          rw [← x3, show ((q : Int)).toNat = q from rfl] at this
          omega
      · have := (g3 x3).2.2.2.2.1
        rw [← x4, show ((q : Int)).toNat = q from rfl] at this
        omega
      · have := ((g2 x3).2.2.1.2.1 t x4).2.2.1
        rw [← x5, show ((q : Int)).toNat = q from rfl] at this
        omega
theorem FR.nx {S S' : St} {M M' : Int → Int} {p t q : Nat} (h : FR S M p t) (hq : q < p) (a : S' 13 3 = S 13 3) (b : S' 19 = S 19) (c : ∀ k : Int, k ≠ 96 + (q : Int) → M' k = M k) : FR S' M' p t := by
  obtain ⟨⟨f1, f2, f3, f4, f5⟩, fb, ft⟩ := h
  refine ⟨⟨by rw [a]; exact f1, by rw [c 2 (by omega)]; exact f2, by rw [c 5 (by omega)]; exact f3, f4, f5⟩, fun q x y => ?_, fun t' x y => ?_⟩
  · rw [c _ (by omega), c _ (by omega), c _ (by omega), b]; exact fb q x y
  · rw [c _ (by omega)]; exact ft t' x y
/-- a part behind another -/
theorem REG.link {S S' : St} {M M' : Int → Int} {nk ln L : Nat} {d : Nat → Nat} {pb p1 tb t1 q r : Nat} (h : REG S M nk ln d pb p1 tb t1) (hl : ∀ p, pb ≤ p → p < p1 → L ≤ d p) (hq : pb ≤ q ∧ q < r ∧ r < p1) (hp : p1 ≤ 24) (dq : d q = L) (dr : d r = L) (s17 : S' 17 (q : Int) = (r : Int)) (sO : ∀ k : Int, k ≠ (q : Int) → S' 17 k = S 17 k) (sR : S' 14 = S 14 ∧ S' 15 = S 15 ∧ S' 16 = S 16 ∧ S' 18 = S 18 ∧ S' 19 = S 19 ∧ S' 20 = S 20) (m96 : M' (96 + (q : Int)) = (r : Int)) (mO : ∀ k : Int, k ≠ 96 + (q : Int) → M' k = M k) : REG S' M' nk ln d pb p1 tb t1 := fun p a b => by
  obtain ⟨s14, s15, s16, s18, s19, s20⟩ := sR
  have hp0 := h p a b
  by_cases e : p = q
  · subst e
    obtain ⟨⟨a1, a2, a3, a4, a5⟩, b1, c, e, f, g, i⟩ := hp0
    have m24 := mO (24 + (p : Int)) (by omega)
    have m48 := mO (48 + (p : Int)) (by omega)
    have m72 := mO (72 + (p : Int)) (by omega)
    have m198 := mO (198 + ((6 + p : Nat) : Int)) (by omega)
    unfold PG isQ
    rw [m24, m48, m72, m96, m198, s14, s15, s16, s17, s18, s19]
    refine ⟨⟨a1, rfl, a3, a4, a5⟩, b1, Or.inr ⟨by omega, by omega, by rw [show ((r : Int)).toNat = r from rfl]; omega⟩, e, fun s => ?_, fun s => ?_, i⟩
    · obtain ⟨f1, f2, f3, f4⟩ := f s
      exact ⟨f1, f2, f3.cg (by rw [s19]) (fun j _ => by rw [s20]) (mO _ (by omega)) (mO _ (by omega)) (fun t _ _ => ⟨mO _ (by omega), mO _ (by omega)⟩) (fun _ _ _ => rfl), f4⟩
    · obtain ⟨g1, g2, g3, g4, g5, g6⟩ := g s
      exact ⟨g1, g2, g3, by rw [mO _ (by omega)]; exact g4, g5, g6⟩
  · refine hp0.cg ⟨by rw [s14], by rw [s15], by rw [s16], sO _ (by omega), by rw [s18]⟩ ⟨mO _ (by omega), mO _ (by omega), mO _ (by omega), mO _ (by omega)⟩ (by rw [s19]) (fun j _ => by rw [s20]) (mO _ (by omega)) (mO _ (by omega)) (fun t _ _ => ⟨mO _ (by omega), mO _ (by omega)⟩) (fun s => mO _ (fun w => ?_)) (fun _ _ _ => rfl)
    have g := hp0.2.2.2.2.2.1 s
    have w' : M (72 + (p : Int)) = (q : Int) := by omega
    have l := hl p a b
    have := g.2.2.2.2.1
    rw [w', show ((q : Int)).toNat = q from rfl] at this
    omega
theorem stp_link {M M' : Int → Int} {p x q : Nat} (hq : M (96 + (q : Int)) = -1) (hp : p < 24) (h24 : q < 24) (hb : M (24 + (p : Int)) = 7 → ∀ t : Nat, (t : Int) < M (198 + ((6 + p : Nat) : Int)) → 0 ≤ tlM M (6 + p) t ∧ tlM M (6 + p) t < 24) (mO : ∀ k : Int, k ≠ 96 + (q : Int) → M' k = M k) (hs : stp M p x) : stp M' p x := by
  by_cases e : p = q
  · subst e
    have m24 := mO (24 + (p : Int)) (by omega)
    have m72 := mO (72 + (p : Int)) (by omega)
    have m198 := mO (198 + ((6 + p : Nat) : Int)) (by omega)
    unfold stp
    rw [m24, m72, m198]
    rcases hs with e | e | ⟨e, t, t2, t3⟩
    · omega
    · exact Or.inr (Or.inl e)
    · obtain ⟨tl, fp⟩ := tlM_cg (M := M) (M' := M') (t0 := 0) (t1 := 24) (m := (M (198 + ((6 + p : Nat) : Int))).toNat) (mO (168 + ((6 + p : Nat) : Int)) (by omega)) (fun t _ _ => ⟨mO _ (by omega), mO _ (by omega)⟩) (fun t ht => hb e t (by omega))
      exact Or.inr (Or.inr ⟨e, t, t2, by rw [fp t (by omega)]; exact t3⟩)
  · exact stp_cg (t0 := 0) (t1 := 24) ⟨mO _ (by omega), mO _ (by omega), mO _ (by omega), mO _ (by omega)⟩ (mO _ (by omega)) (mO _ (by omega)) (fun t _ _ => ⟨mO _ (by omega), mO _ (by omega)⟩) hb hs
theorem PG.tl {S : St} {M : Int → Int} {nk ln : Nat} {d : Nat → Nat} {b t0 t1 p : Nat} (h : PG S M nk ln d b t0 t1 p) (ht : t1 ≤ 24) : M (24 + (p : Int)) = 7 → ∀ t : Nat, (t : Int) < M (198 + ((6 + p : Nat) : Int)) → 0 ≤ tlM M (6 + p) t ∧ tlM M (6 + p) t < 24 := fun e t h' => by
  have := ((h.2.2.2.2.1 e).2.2.1.2.1 t h').1
  omega
theorem C13_bad {rec : Nat → Int → Int → St → Option (Int × St)} {r2 a1 v q : Int} {f : Nat} {S : St} (hv : inI v) (h : S 12 1 = 1 ∨ S 12 1 = 2 ∨ S 12 1 = 3) : mX5_readTerm_13 rec r2 a1 (f + 1) v q S = some S := by
  rw [mX5_readTerm_13, gd_t hv]
  by_cases c : 24 ≤ v
  · rw [if_pos c]
  · rw [if_neg c, gd_t (by omega), if_neg (by omega)]
theorem C13_no {rec : Nat → Int → Int → St → Option (Int × St)} {r2 a1 v q : Int} {f : Nat} {S : St} (hv : 0 ≤ v ∧ v < 24) (h : S 12 1 = 0) (hw : mX5_isWord_12_s tx9 S = some 0) : mX5_readTerm_13 rec r2 a1 (f + 1) v q S = some S := by
  rw [mX5_readTerm_13, gd_t (by omega), if_neg (by omega), h, gd_t (by decide), if_pos rfl, bd1_e hw, gd_t (by decide), if_pos rfl]
theorem C13_go {rec : Nat → Int → Int → St → Option (Int × St)} {r2 a1 v q rC : Int} {f : Nat} {S S1 S2 : St} (hv : 0 ≤ v ∧ v < 24) (h : S 12 1 = 0) (hw : mX5_isWord_12_s tx9 S = some 1) (ha : mX5_advance S = some S1) (hr : rec 1 a1 0 S1 = some (rC, S2)) : mX5_readTerm_13 rec r2 a1 (f + 1) v q S = (gd (inI (S2 12 1)) <| if (S2 12 1) = 0 then (gd (inI q) <| if q = (-1) then (mX5_readTerm_13 rec r2 a1 f (v + 1) rC S2) else (gd (0 ≤ q ∧ q < 24) <| nx (up S2 17 q rC) fun S_31 => mX5_readTerm_13 rec r2 a1 f (v + 1) rC S_31)) else (mX5_readTerm_13 rec r2 a1 f (v + 1) rC S2)) := by
  rw [mX5_readTerm_13, gd_t (by omega), if_neg (by omega), h, gd_t (by decide), if_pos rfl, bd1_e hw, gd_t (by decide), if_neg (by decide), bd1_e ha, bd2_e hr]
theorem F118_bad {rec : Nat → Int → Int → Int → St → Option (Int × St)} {x a b v : Int} {f : Nat} {T : St} (h : T 83 10 = 1) : mX12_readsExpr_118 rec x a b (f + 1) v T = some T := by
  rw [mX12_readsExpr_118, h, gd_t (by decide), if_neg (by decide)]
theorem F118_no {rec : Nat → Int → Int → Int → St → Option (Int × St)} {x a b v : Int} {f : Nat} {T : St} (h : T 83 10 = 0) (hw : mX12_isWord T 5 = some 0) : mX12_readsExpr_118 rec x a b (f + 1) v T = some T := by
  rw [mX12_readsExpr_118, h, gd_t (by decide), if_pos rfl, bd1_e hw, gd_t (by decide), if_pos rfl]
theorem F118_go {rec : Nat → Int → Int → Int → St → Option (Int × St)} {x a b v rF : Int} {f : Nat} {T T1 T2 : St} (h : T 83 10 = 0) (hw : mX12_isWord T 5 = some 1) (ha : mX12_next T = some T1) (hr : rec 2 b 0 0 T1 = some (rF, T2)) : mX12_readsExpr_118 rec x a b (f + 1) v T = (gd (inI (T2 83 10)) <| if (T2 83 10) = 0 then (gd (0 ≤ (96 + v) ∧ (96 + v) < 228) <| nx (up T2 84 (96 + v) rF) fun S_68 => mX12_readsExpr_118 rec x a b f rF S_68) else (mX12_readsExpr_118 rec x a b f v T2)) := by
  rw [mX12_readsExpr_118, h, gd_t (by decide), if_pos rfl, bd1_e hw, gd_t (by decide), if_neg (by decide), bd1_e ha, bd2_e hr]
def okWith (S T S' T' : St) (u : Int → Int) (n nk ln pb p' tb t' : Nat) (d : Nat → Nat) : Prop := ∃ (a' p1 t1 : Nat) (d' : Nat → Nat), RR S' T' u n a' ∧ FR S' (T' 84) p1 t1 ∧ (p' ≤ p1 ∧ t' ≤ t1 ∧ t1 + p' ≤ t' + p1) ∧ LOW S S' (T 84) (T' 84) pb t' 30 ∧ (∀ q, q < p' → d' q = d q) ∧ REG S' (T' 84) nk ln d' pb p1 tb t1 ∧ COV (T' 84) pb p1
theorem withL {u : Int → Int} {n nk ln L gC gF pb tb : Nat} {r2 x23 e : Int} (IP : simP u n nk ln L gC gF) : ∀ (k i fC fF : Nat) (S T : St) (a p' t' q : Nat) (d : Nat → Nat), 24 ≤ p' + k → k + 1 < fC → k + 1 < fF → RR S T u n a → NM S T u n nk → S 12 10 = (ln : Int) → FR S (T 84) p' t' → i + 1 ≤ p' → pb ≤ q → q < p' → d pb = L → d q = L → T 84 (96 + (q : Int)) = -1 → REG S (T 84) nk ln d pb p' tb t' → COV (T 84) pb p' → tb ≤ t' → ∃ S' T' : St, mX5_readTerm_13 (RX5_readExpr gC) r2 (L : Int) fC (i : Int) (q : Int) S = some S' ∧ mX12_readsExpr_118 (RX12_readsExpr gF) x23 e (L : Int) fF (q : Int) T = some T' ∧ KS S S' ∧ KT T T' ∧ (BB S' T' ∨ okWith S T S' T' u n nk ln pb p' tb t' d) := by
  intro k
  induction k with
  | zero =>
    intro i fC fF S T a p' t' q d hk hfC hfF h hN hln hF hi hq1 hq2 dp dq m96 reg cov tbt
    obtain ⟨fC, rfl⟩ : ∃ g, fC = g + 1 := ⟨fC - 1, by omega⟩
    obtain ⟨fF, rfl⟩ : ∃ g, fF = g + 1 := ⟨fF - 1, by omega⟩
    have p24 := hF.1.2.2.2.2
    obtain ⟨r, r2', r3, r4⟩ := sim_isWord (k := 5) h (by decide)
    rcases r2' with e0 | e0
    · subst e0
      exact ⟨S, T, C13_no (by omega) h.2.2.1 r3, F118_no h.2.2.2 r4, KS.rf, KT.rf, Or.inr ⟨a, p', t', d, h, hF, by omega, LOW.rf, fun _ _ => rfl, reg, cov⟩⟩
    · subst e0
      obtain ⟨S1, T1, s1, s2, s3, s4, s5⟩ := sim_adv h
      have e84 : T1 84 = T 84 := s5.cell 84 (by decide) (by decide)
      have fr1 : FR S1 (T1 84) p' t' := hF.up (s4 13 3 (by decide) (by decide)) (s4.cell 19 (by decide) (by decide)) (fun k _ => by rw [e84])
      obtain ⟨rC, S2, rF, T2, i1, i2, i3, i4, i5⟩ := IP S1 T1 _ p' t' d 0 s3 (hN.of (KS.adv s4) (KT.adv s5)) (by rw [s4 12 10 (by decide) (by decide)]; exact hln) fr1 (Or.inl rfl)
      rcases i5 with i5 | ⟨-, -, -, i5⟩
      · obtain ⟨gC', rfl⟩ : ∃ g, fC = g + 1 := ⟨fC - 1, by omega⟩
        obtain ⟨gF', rfl⟩ : ∃ g, fF = g + 1 := ⟨fF - 1, by omega⟩
        have n1 := i5.2.1
        refine ⟨S2, T2, ?_, ?_, (KS.adv s4).trans i3, (KT.adv s5).trans i4, Or.inl i5⟩
        · rw [C13_go (by omega) h.2.2.1 r3 s1 i1, gd_t (by omega), if_neg (by omega), C13_bad (by omega) n1]
        · rw [F118_go h.2.2.2 r4 s2 i2, i5.1, gd_t (by decide), if_neg (by decide), F118_bad i5.1]
      · obtain ⟨_, p1, _, _, _, f5, c, _⟩ := i5
        have := f5.1.2.2.2.2
        omega
  | succ k ih =>
    intro i fC fF S T a p' t' q d hk hfC hfF h hN hln hF hi hq1 hq2 dp dq m96 reg cov tbt
    obtain ⟨fC, rfl⟩ : ∃ g, fC = g + 1 := ⟨fC - 1, by omega⟩
    obtain ⟨fF, rfl⟩ : ∃ g, fF = g + 1 := ⟨fF - 1, by omega⟩
    have p24 := hF.1.2.2.2.2
    obtain ⟨r, r2', r3, r4⟩ := sim_isWord (k := 5) h (by decide)
    rcases r2' with e0 | e0
    · subst e0
      exact ⟨S, T, C13_no (by omega) h.2.2.1 r3, F118_no h.2.2.2 r4, KS.rf, KT.rf, Or.inr ⟨a, p', t', d, h, hF, by omega, LOW.rf, fun _ _ => rfl, reg, cov⟩⟩
    · subst e0
      obtain ⟨S1, T1, s1, s2, s3, s4, s5⟩ := sim_adv h
      have e84 : T1 84 = T 84 := s5.cell 84 (by decide) (by decide)
      have fr1 : FR S1 (T1 84) p' t' := hF.up (s4 13 3 (by decide) (by decide)) (s4.cell 19 (by decide) (by decide)) (fun k _ => by rw [e84])
      obtain ⟨rC, S2, rF, T2, i1, i2, i3, i4, i5⟩ := IP S1 T1 _ p' t' d 0 s3 (hN.of (KS.adv s4) (KT.adv s5)) (by rw [s4 12 10 (by decide) (by decide)]; exact hln) fr1 (Or.inl rfl)
      rcases i5 with i5 | ⟨-, j1, j2, i5⟩
      · obtain ⟨gC', rfl⟩ : ∃ g, fC = g + 1 := ⟨fC - 1, by omega⟩
        obtain ⟨gF', rfl⟩ : ∃ g, fF = g + 1 := ⟨fF - 1, by omega⟩
        have n1 := i5.2.1
        refine ⟨S2, T2, ?_, ?_, (KS.adv s4).trans i3, (KT.adv s5).trans i4, Or.inl i5⟩
        · rw [C13_go (by omega) h.2.2.1 r3 s1 i1, gd_t (by omega), if_neg (by omega), C13_bad (by omega) n1]
        · rw [F118_go h.2.2.2 r4 s2 i2, i5.1, gd_t (by decide), if_neg (by decide), F118_bad i5.1]
      · obtain ⟨a2, p1, t1, d2, r5, f5, c5, lo5, dd, dp5, n5, reg5, cov5⟩ := i5
        have p124 := f5.1.2.2.2.2
        have cc : ∀ i, 14 ≤ i → i ≤ 20 → S1 i = S i := fun i a b => s4.cell i (by simp) (by simp; omega)
        have c14 := cc 14 (by decide) (by decide)
        have c15 := cc 15 (by decide) (by decide)
        have c16 := cc 16 (by decide) (by decide)
        have c17 := cc 17 (by decide) (by decide)
        have c18 := cc 18 (by decide) (by decide)
        have c19 := cc 19 (by decide) (by decide)
        have c20 := cc 20 (by decide) (by decide)
        have lo1 : LOW S S1 (T 84) (T1 84) p' t' 30 := by
          rw [e84]
          exact ⟨fun p _ => ⟨⟨by rw [c14], by rw [c15], by rw [c16], by rw [c17], by rw [c18]⟩, rfl, rfl, rfl, rfl⟩, fun e _ _ => ⟨by rw [c19], fun j _ => by rw [c20], rfl, rfl⟩, fun _ _ => ⟨rfl, rfl⟩⟩
        have lo2 : LOW S S2 (T 84) (T2 84) p' t' 30 := lo1.trans lo5 (Nat.le_refl _) (Nat.le_refl _) (Or.inl rfl)
        have regO : REG S2 (T2 84) nk ln d2 pb p' tb t' := reg.low lo2 (Nat.le_refl _) (Nat.le_refl _) (Or.inr (by omega)) (fun q _ y => dd q y)
        have covO : COV (T2 84) pb p' := cov.low reg lo2 (Nat.le_refl _) (Nat.le_refl _) (Or.inr (by omega))
        have regJ : REG S2 (T2 84) nk ln d2 pb p1 tb t1 := regO.join reg5 (by omega) tbt c5.2.1
        have m96' : T2 84 (96 + (q : Int)) = -1 := by rw [(lo2.1 q (by omega)).2.2.2.2]; exact m96
        have l1 := lev regO covO (show d2 pb = L by rw [dd pb (by omega)]; exact dp)
        have l2 := lev reg5 cov5 dp5
        have lv : ∀ p, pb ≤ p → p < p1 → L ≤ d2 p := fun p x y => by
          by_cases w : p < p'
          · exact l1 p x w
          · exact l2 p (by omega) y
        have t124 : t1 ≤ 24 := by have := f5.1.2.2.2.1; omega
        have mK : ∀ k : Int, k ≠ 96 + (q : Int) → (up T2 84 (96 + (q : Int)) (p' : Int)) 84 k = T2 84 k := fun k hk => up_nk hk
        have regN : REG (up S2 17 (q : Int) (p' : Int)) ((up T2 84 (96 + (q : Int)) (p' : Int)) 84) nk ln d2 pb p1 tb t1 := regJ.link lv ⟨hq1, hq2, by omega⟩ p124 (by rw [dd q hq2]; exact dq) dp5 up_eq (fun k hk => up_nk hk) ⟨rfl, rfl, rfl, rfl, rfl, rfl⟩ up_eq mK
        have covN : COV ((up T2 84 (96 + (q : Int)) (p' : Int)) 84) pb p1 := fun x a b => by
          by_cases w : x = p'
          · subst w
            exact ⟨q, hq1, hq2, Or.inl up_eq.symm⟩
          · by_cases w' : x < p'
            · obtain ⟨p, x1, x2, x3⟩ := covO x a w'
              exact ⟨p, x1, x2, stp_link m96' (by omega) (by omega) ((regJ p x1 (by omega)).tl t124) mK x3⟩
            · obtain ⟨p, x1, x2, x3⟩ := cov5 x (by omega) b
              exact ⟨p, by omega, x2, stp_link m96' (by omega) (by omega) ((regJ p (by omega) (by omega)).tl t124) mK x3⟩
        have loN : LOW S2 (up S2 17 (q : Int) (p' : Int)) (T2 84) ((up T2 84 (96 + (q : Int)) (p' : Int)) 84) pb t' 30 := by
          refine ⟨fun p hp' => ⟨⟨rfl, rfl, rfl, up_nk (by omega), rfl⟩, mK _ (by omega), mK _ (by omega), mK _ (by omega), mK _ (by omega)⟩, fun e he _ => ⟨rfl, fun _ _ => rfl, mK _ (by omega), mK _ (by omega)⟩, fun t ht => ⟨mK _ (by omega), mK _ (by omega)⟩⟩
        have kS : KS S (up S2 17 (q : Int) (p' : Int)) := ((KS.adv s4).trans i3).upA (by decide)
        have kT : KT T (up T2 84 (96 + (q : Int)) (p' : Int)) := ((KT.adv s5).trans i4).trans (KT_84 (by omega))
        obtain ⟨S', T', w1, w2, w3, w4, w5⟩ := ih (i + 1) fC fF (up S2 17 (q : Int) (p' : Int)) (up T2 84 (96 + (q : Int)) (p' : Int)) a2 p1 t1 p' d2 (by omega) (by omega) (by omega) (r5.of rfl rfl rfl rfl) (hN.of kS kT) (by rw [kS 12 10 (by decide) (by decide)]; exact hln) (f5.nx (q := q) (by omega) rfl rfl mK) (by omega) (by omega) (by omega) (by rw [dd pb (by omega)]; exact dp) dp5 (by rw [mK _ (by omega)]; exact n5) regN covN (by omega)
        rw [show ((i + 1 : Nat) : Int) = (i : Int) + 1 by omega] at w1
        refine ⟨S', T', ?_, ?_, kS.trans w3, kT.trans w4, ?_⟩
        · rw [C13_go (by omega) h.2.2.1 r3 s1 i1, r5.2.2.1, gd_t (by decide), if_pos rfl, gd_t (by omega), if_neg (by omega), gd_t (by omega), nx_e, j1]
          exact w1
        · rw [F118_go h.2.2.2 r4 s2 i2, r5.2.2.2, gd_t (by decide), if_pos rfl, gd_t (by omega), nx_e, j2]
          exact w2
        · rcases w5 with w5 | ⟨a3, p3, t3, d3, v1, v2, v3, v4, v5, v6, v7⟩
          · exact Or.inl w5
          · exact Or.inr ⟨a3, p3, t3, d3, v1, v2, by omega, ((lo2.mono (by omega) (Nat.le_refl _) (Or.inl rfl)).trans loN (Nat.le_refl _) (Nat.le_refl _) (Or.inl rfl)).trans v4 (Nat.le_refl _) c5.2.1 (Or.inl rfl), fun x hx => (v5 x (by omega)).trans (dd x hx), v6, v7⟩
