/-! any call; the start -/
theorem law_keeps {n : Nat} {S : St} (g : INV n S) (hn : n ≤ 512) {x0 x1 x2 x3 x4 x5 : Int} (h1 : inI x1) (h2 : inI x2) (h3 : inI x3) (h4 : inI x4) (h5 : inI x5) : ∃ S1, lawStep x0 x1 x2 x3 x4 x5 S = some S1 ∧ INV (n + 1) S1 := by
  unfold lawStep
  by_cases c0 : an x0 63 = 0
  · rw [if_pos c0]; exact st_c0 g hn
  rw [if_neg c0]
  by_cases c1 : an x0 63 = 1
  · rw [if_pos c1]; exact st_c1 g hn h1
  rw [if_neg c1]
  by_cases c2 : an x0 63 = 2
  · rw [if_pos c2]; exact st_c2 g hn
  rw [if_neg c2]
  by_cases c3 : an x0 63 = 3
  · rw [if_pos c3]; exact st_c3 g hn h1 h2 h3 h4 h5
  rw [if_neg c3]
  by_cases c4 : an x0 63 = 4
  · rw [if_pos c4]; exact st_c4 g hn h1 h2 h3 h4 h5
  rw [if_neg c4]
  by_cases c5 : an x0 63 = 5
  · rw [if_pos c5]; exact st_c5 g hn h1 h2 h3 h4 h5
  rw [if_neg c5]
  by_cases c6 : an x0 63 = 6
  · rw [if_pos c6]; exact st_c6 g hn h1 h2 h3 h4 h5
  rw [if_neg c6]
  by_cases c7 : an x0 63 = 7
  · rw [if_pos c7]; exact st_c7 g hn h1 h2 h3 h4 h5
  rw [if_neg c7]
  by_cases c8 : an x0 63 = 8
  · rw [if_pos c8]; exact st_c8 g hn h1 h2 h3 h4 h5
  rw [if_neg c8]
  by_cases c9 : an x0 63 = 9
  · rw [if_pos c9]; exact st_c9 g hn h1 h2 h3 h4 h5
  rw [if_neg c9]
  by_cases c10 : an x0 63 = 10
  · rw [if_pos c10]; exact st_c10 g hn h1 h2 h3 h4 h5
  rw [if_neg c10]
  by_cases c11 : an x0 63 = 11
  · rw [if_pos c11]; exact st_c11 g hn h1 h2 h3 h4 h5
  rw [if_neg c11]
  by_cases c12 : an x0 63 = 12
  · rw [if_pos c12]; exact st_c12 g hn h1 h2 h3 h4 h5
  rw [if_neg c12]
  by_cases c13 : an x0 63 = 13
  · rw [if_pos c13]; exact st_c13 g hn h1 h2 h3 h4 h5
  rw [if_neg c13]
  by_cases c14 : an x0 63 = 14
  · rw [if_pos c14]; exact st_c14 g hn h1 h2 h3 h4 h5
  rw [if_neg c14]
  by_cases c15 : an x0 63 = 15
  · rw [if_pos c15]; exact st_c15 g hn h1 h2 h3 h4 h5
  rw [if_neg c15]
  by_cases c16 : an x0 63 = 16
  · rw [if_pos c16]; exact st_c16 g hn h1 h2 h3 h4 h5
  rw [if_neg c16]
  by_cases c17 : an x0 63 = 17
  · rw [if_pos c17]; exact st_c17 g hn h1 h2 h3 h4 h5
  rw [if_neg c17]
  by_cases c18 : an x0 63 = 18
  · rw [if_pos c18]; exact st_c18 g hn h1 h2 h3 h4 h5
  rw [if_neg c18]
  by_cases c19 : an x0 63 = 19
  · rw [if_pos c19]; exact st_c19 g hn h1 h2 h3 h4 h5
  rw [if_neg c19]
  by_cases c20 : an x0 63 = 20
  · rw [if_pos c20]; exact st_c20 g hn h1 h2 h3 h4 h5
  rw [if_neg c20]
  by_cases c21 : an x0 63 = 21
  · rw [if_pos c21]; exact st_c21 g hn h1 h2 h3 h4 h5
  rw [if_neg c21]
  by_cases c22 : an x0 63 = 22
  · rw [if_pos c22]; exact st_c22 g hn h1 h2 h3 h4 h5
  rw [if_neg c22]
  by_cases c23 : an x0 63 = 23
  · rw [if_pos c23]; exact st_c23 g hn h1 h2 h3 h4 h5
  rw [if_neg c23]
  by_cases c24 : an x0 63 = 24
  · rw [if_pos c24]; exact st_c24 g hn h1 h2 h3 h4 h5
  rw [if_neg c24]
  by_cases c25 : an x0 63 = 25
  · rw [if_pos c25]; exact st_c25 g hn h1 h2 h3 h4 h5
  rw [if_neg c25]
  by_cases c26 : an x0 63 = 26
  · rw [if_pos c26]; exact st_c26 g hn h1 h2 h3 h4 h5
  rw [if_neg c26]
  by_cases c27 : an x0 63 = 27
  · rw [if_pos c27]; exact st_c27 g hn h1 h2 h3 h4 h5
  rw [if_neg c27]
  by_cases c28 : an x0 63 = 28
  · rw [if_pos c28]; exact st_c28 g hn h1 h2 h3 h4 h5
  rw [if_neg c28]
  by_cases c29 : an x0 63 = 29
  · rw [if_pos c29]; exact st_c29 g hn h1 h2 h3 h4 h5
  rw [if_neg c29]
  by_cases c30 : an x0 63 = 30
  · rw [if_pos c30]; exact st_c30 g hn h1 h2 h3 h4 h5
  rw [if_neg c30]
  by_cases c31 : an x0 63 = 31
  · rw [if_pos c31]; exact st_c31 g hn h1 h2 h3 h4 h5
  rw [if_neg c31]
  by_cases c32 : an x0 63 = 32
  · rw [if_pos c32]; exact st_c32 g hn h1 h2 h3 h4 h5
  rw [if_neg c32]
  by_cases c33 : an x0 63 = 33
  · rw [if_pos c33]; exact st_c33 g hn h1 h2 h3 h4 h5
  rw [if_neg c33]
  by_cases c34 : an x0 63 = 34
  · rw [if_pos c34]; exact st_c34 g hn h1 h2 h3 h4 h5
  rw [if_neg c34]
  by_cases c35 : an x0 63 = 35
  · rw [if_pos c35]; exact st_c35 g hn h1 h2 h3 h4 h5
  rw [if_neg c35]
  by_cases c36 : an x0 63 = 36
  · rw [if_pos c36]; exact st_c36 g hn h1 h2 h3 h4 h5
  rw [if_neg c36]
  by_cases c37 : an x0 63 = 37
  · rw [if_pos c37]; exact st_c37 g hn h1 h2 h3 h4 h5
  rw [if_neg c37]
  by_cases c38 : an x0 63 = 38
  · rw [if_pos c38]; exact st_c38 g hn h1 h2 h3 h4 h5
  rw [if_neg c38]
  by_cases c39 : an x0 63 = 39
  · rw [if_pos c39]; exact st_c39 g hn h1 h2 h3 h4 h5
  rw [if_neg c39]
  by_cases c40 : an x0 63 = 40
  · rw [if_pos c40]; exact st_c40 g hn h1 h2 h3 h4 h5
  rw [if_neg c40]
  by_cases c41 : an x0 63 = 41
  · rw [if_pos c41]; exact st_c41 g hn h1 h2 h3 h4 h5
  rw [if_neg c41]
  by_cases c42 : an x0 63 = 42
  · rw [if_pos c42]; exact st_c42 g hn h1 h2 h3 h4 h5
  rw [if_neg c42]
  by_cases c43 : an x0 63 = 43
  · rw [if_pos c43]; exact st_c43 g hn h1 h2 h3 h4 h5
  rw [if_neg c43]
  by_cases c44 : an x0 63 = 44
  · rw [if_pos c44]; exact st_c44 g hn h1 h2
  rw [if_neg c44]
  by_cases c45 : an x0 63 = 45
  · rw [if_pos c45]; exact st_c45 g hn
  rw [if_neg c45]
  by_cases c46 : an x0 63 = 46
  · rw [if_pos c46]; exact st_c46 g hn
  rw [if_neg c46]
  exact ⟨S, rfl, g.more hn⟩
theorem nb_zero {S : St} {i N B : Nat} (h : ∀ k : Int, S i k = 0) : nb S i N B := fun j _ => ⟨0, by rw [h]; rfl, Nat.zero_le _⟩
theorem tb_zero {S : St} {i j : Nat} (h : ∀ k : Int, S i k = 0) : tb S i j = 0 := by
  unfold tb
  rw [h]; rfl
theorem m_lo {k : Int} (h : k < 96 ∨ 198 ≤ k) : stI 84 k = 0 := by
  show (if 96 ≤ k ∧ k < 198 then (-1 : Int) else 0) = 0
  rw [if_neg (by omega)]
theorem m_hi {k : Int} (h : 96 ≤ k ∧ k < 198) : stI 84 k = -1 := by
  show (if 96 ≤ k ∧ k < 198 then (-1 : Int) else 0) = -1
  rw [if_pos h]
theorem m0I : stI 84 0 = 0 := m_lo (by decide)
theorem m1I : stI 84 1 = 0 := m_lo (by decide)
theorem m2I : stI 84 2 = 0 := m_lo (by decide)
theorem noP {p : Nat} (h : (p : Int) < stI 84 2) : False := by rw [m2I] at h; omega
theorem noK {e : Nat} (h : (e : Int) < stI 84 0) : False := by rw [m0I] at h; omega
theorem wfI : WF (stI 84) := ⟨by rw [m0I]; decide, by rw [m1I]; decide, by rw [m2I]; decide, fun p h => (noP h).elim, fun e h => (noK h).elim, fun e he => by rw [m_lo (by omega)]; decide⟩
theorem ordI : Ord (stI 84) (fun _ => True) (fun _ => True) (fun _ => True) (fun _ => 0) (fun _ => 0) (fun _ => 0) := ⟨fun p h => (noP h).elim, fun e h => (noK h).elim, fun p h => (noP h).elim, fun e h => (noK h).elim⟩
theorem gmI : GM stI (stI 84) := by
  refine ⟨⟨by rw [m1I] <;> rfl, by rw [m0I] <;> rfl, by rw [m_lo (by decide)] <;> rfl, by rw [m2I] <;> rfl⟩, fun p h => (noP h).elim, fun e he => by rw [m_lo (by omega)] <;> rfl, fun e t he ht => ?_, fun e he => by rw [m_lo (by omega)] <;> rfl, fun e a b => rfl⟩
  rw [m_lo (by omega)] at ht
  omega
theorem corI : Cor stI := by
  refine ⟨fun _ => True, fun _ => True, fun _ => True, fun _ => 0, fun _ => 0, fun _ => 0, 0, wfI, ordI, ⟨rfl, gmI, ⟨rfl, by decide, fun i h => by omega, fun p h => (noP h).elim, fun e h => (noK h).elim⟩⟩, ⟨nb_zero (fun _ => rfl), nb_zero (fun _ => rfl), nb_zero (fun _ => rfl), nb_zero (fun _ => rfl), nb_zero (fun _ => rfl), fun p j n k _ _ _ _ => tb_zero (fun _ => rfl), fun _ => nb_zero (fun _ => rfl)⟩, fun p s k h => (noP h).elim, fun p s k h => (noP h).elim, fun e s k h => (noK h).elim, fun p h => (noP h).elim, fun p h => (noP h).elim⟩
theorem giI : GI stI := by
  have vx0 : ∀ x, ¬ vx (stI 84) x := fun x h => by
    unfold vx at h
    rw [m2I, m0I] at h
    omega
  refine ⟨corI, ⟨⟨⟨⟨by decide, by decide⟩, ⟨by decide, by decide⟩⟩, fun x h => (vx0 x h).elim, fun G _ x h => (vx0 x h).elim⟩, ⟨nb_zero (fun _ => rfl), nb_zero (fun _ => rfl), nb_zero (fun _ => rfl)⟩, ⟨nb_zero (fun _ => rfl), nb_zero (fun _ => rfl), nb_zero (fun _ => rfl)⟩, ⟨fun p h => (noP h).elim, fun p h => (noP h).elim, fun p h => (noP h).elim⟩, fun e h => (noK h).elim⟩, fun e he => Or.inr (m_lo (by omega)), ⟨fun _ => 0, fun e t h => (noK h).elim, fun p h => (noP h).elim⟩, ⟨fun _ => 0, fun p h => (noP h).elim, fun e t h => (noK h).elim, fun p q h => (noP h).elim, fun q h => (noP h).elim⟩, ⟨⟨⟨by rw [m_lo (by decide)]; decide, by rw [m_lo (by decide)]; decide⟩, fun i h => ?_, fun i j h => ?_⟩, ⟨by rw [m_lo (by decide)] <;> rfl, fun i h => ?_⟩, by rw [m_lo (by decide)]; decide, by rw [m_lo (by decide)]; decide⟩, ⟨nb_zero (fun _ => rfl), nb_zero (fun _ => rfl), nb_zero (fun _ => rfl), nb_zero (fun _ => rfl), nb_zero (fun _ => rfl), fun p j n k _ _ _ _ => tb_zero (fun _ => rfl)⟩, ⟨Or.inl rfl, fun h => ?_⟩, ⟨(show fgs 0 26 from fgs_0), fun a ha h => ?_⟩, ⟨(show fgs 0 60 from fgs_0), fun e t h => (noK h).elim⟩, Or.inl ⟨rfl, rfl⟩⟩
  · rw [m_lo (by decide)] at h; omega
  · rw [m_lo (by decide)] at h; omega
  · rw [m_lo (by decide)] at h; omega
  · exact absurd h (by decide)
  · rw [show stI 47 3 = 0 from rfl, show (0 : Int).toNat = 0 from rfl, Nat.zero_testBit] at h
    cases h
theorem nbLI : nbL stI := ⟨⟨nb_zero (fun _ => rfl), nb_zero (fun _ => rfl), nb_zero (fun _ => rfl)⟩, ⟨nb_zero (fun _ => rfl), nb_zero (fun _ => rfl), nb_zero (fun _ => rfl)⟩⟩
theorem tpI : TP stI := by
  refine ⟨⟨0, by decide, rfl, rfl, fun i hi => by omega⟩, ⟨rfl, rfl, by decide, by decide⟩, ⟨rfl, rfl, by decide, by decide⟩, ⟨by rw [m_lo (by decide)] <;> rfl, by rw [m_lo (by decide)]; decide, by rw [m_lo (by decide)]; decide⟩⟩
theorem lkI : LK (stI 84) := by
  have e1 : lkE (stI 84) = 0 := sm_zero fun i hi => by
    try dsimp only
    rw [m_lo (by omega)]; rfl
  have e2 : lkN (stI 84) = 0 := sm_zero fun i hi => by
    try dsimp only
    rw [m_hi (by omega)]; exact if_neg (by decide)
  have e3 : lkS (stI 84) = 0 := sm_zero fun i hi => by
    try dsimp only
    rw [m_lo (by omega)]; exact if_neg (by decide)
  unfold LK lkc
  rw [e1, e2, e3, m2I]
  decide
theorem vuI : VU (stI 84) := fun x a b => Or.inr (by rw [m_lo (by omega)]; decide)
theorem wrI : WR stI [] := by
  refine ⟨⟨Or.inl rfl, ?_, 0, rfl, by decide⟩, ⟨rfl, Nat.zero_le _⟩, rfl, (fun i c h => nomatch h), fun k hk => ?_⟩
  · rfl
  · exact (show -128 ≤ (0 : Int) ∧ (0 : Int) ≤ 127 from by decide)
theorem RnI : Rn stI = 0 := sm_zero fun w hw => by
  show (if (-1 : Int) < 0 then 0 else 1) = 0
  rfl
theorem inv0 : INV 0 stI := by
  refine ⟨giI, tpI, nbLI, ⟨⟨_, _, _, _, _, _, ordI, fun p h => (noP h).elim⟩, lkI, vuI⟩, ⟨fun w hw => Or.inl (show (-1 : Int) < 0 by decide), ⟨⟨[], wrI⟩, by decide, by decide⟩, by decide, fun h => ?_⟩, ⟨(show fgs 0 60 from fgs_0), fun e n h => (noK h).elim⟩, ⟨fun i hi => (show -128 ≤ (0 : Int) ∧ (0 : Int) ≤ 127 from by decide), fun c j a b d => ?_⟩, ⟨by decide, by decide⟩, ⟨by decide, ?_, ?_⟩⟩
  · exact absurd h (by decide)
  · have : c = 99 ∨ c = 100 ∨ c = 101 ∨ c = 102 ∨ c = 103 := by omega
    rcases this with e | e | e | e | e <;> (subst e; exact (show inI (0 : Int) by decide))
  · rw [RnI, show nn stI = 105 from rfl, show dl stI = 256 from rfl]; decide
  · rw [RnI, show zz stI = 74647 from rfl, show dl stI = 256 from rfl]; decide
theorem INV.om {n : Nat} {S : St} (hn : n ≤ 512) (g : INV n S) : 105 ≤ nn S ∧ gle S OM := by
  obtain ⟨gi0, tp0, nl0, x0, ⟨rc, sc⟩, rl0, hb, s, ⟨r1, r2, r3⟩⟩ := g
  obtain ⟨w, hw⟩ := sc.1.1
  obtain ⟨E, e1, e2, e3, e4⟩ := hw.e
  have rn : Rn S ≤ 192 * 1 := sm_le fun i _ => by
    try dsimp only
    split <;> decide
  refine ⟨r1, ?_, ?_⟩
  · rw [show nn OM = 600000 from rfl]; omega
  · rw [show zz OM = 7302250 from rfl]; omega
theorem inv_ok : isInv INV := ⟨inv0, fun n S hn g => g.om hn, fun n S hn g x0 x1 x2 x3 x4 x5 h0 h1 h2 h3 h4 h5 => law_keeps g (by omega) h1 h2 h3 h4 h5⟩
