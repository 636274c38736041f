/-! each call keeps the invariant: the tape, the grammar, terms off -/
theorem st_c0 {n : Nat} {S : St} (g : INV n S) (hn : n ≤ 512) {x1 x2 x3 x4 x5 : Int} : ∃ S1, mL_0 x1 x2 x3 x4 x5 S = some S1 ∧ INV (n + 1) S1 := by
  have so := g.spo hn
  have g' := g
  obtain ⟨gi, tp, nl, x0, y0, rl, ⟨hb, hi⟩, s, rr⟩ := g'
  obtain ⟨r, S1, S2, a, b, c, q1, q2, q3, tp2⟩ := s_feed tp rr.1 (a := x1) (b := x2) (c := x3) (d := x4) (e := x5)
  have m1 : msk S1 S = S1 := msk_k (fun i hi => q1.cell i (by simp <;> omega) (by simp <;> omega)) (fun k hk => q1 0 k (by decide) (by simp <;> omega))
  have n1 : nn S1 = nn S := nn_of (q1 0 (-1) (by decide) (by decide))
  have z1 : zz S1 = zz S := zz_of (q1 0 (-2) (by decide) (by decide))
  have cc : ∀ i, 0 < i → i < 105 → i ≠ 1 → i ≠ 83 → i ≠ 86 → S2 i = S i := fun i h0 h a b c => funext fun k => q3 i k h a c (by simp <;> omega) (by simp <;> omega) (Or.inl (by omega))
  have c0 : ∀ z : Int, 0 ≤ z → z ≠ 1 → S2 0 z = S 0 z := fun z hz h1 => q3 0 z (by decide) (by decide) (by decide) (by simp) (by simp; exact h1) (Or.inr hz)
  have c83 : ∀ z : Int, z ≠ 3 → S2 83 z = S 83 z := fun z hz => q3 83 z (by decide) (by decide) (by decide) (by simp; exact hz) (by simp) (Or.inl (by decide))
  have e84 : S2 84 = S 84 := cc 84 (by decide) (by decide) (by decide) (by decide) (by decide)
  have n8 := rr.1
  have grow : gle S1 S2 ∧ S 0 (-1) ≤ S2 0 (-1) ∧ (∀ i, 105 ≤ i → i < nn S → S2 i = S i) ∧ nn S ≤ nn S2 ∧ nn S2 ≤ nn S + 1 ∧ zz S2 ≤ zz S + 5 := by
    rcases q2 with e | ⟨w1, w2, w3, w4⟩
    · rw [e]
      exact ⟨gle_rfl, by rw [q1 0 (-1) (by decide) (by decide)]; exact Int.le_refl _, fun i a _ => q1.cell i (by simp <;> omega) (by simp <;> omega), by omega, by omega, by omega⟩
    · refine ⟨⟨by omega, by omega⟩, ?_, fun i a b => w4 i a (by omega), by omega, by omega, by omega⟩
      unfold nn at w1 n8
      omega
  obtain ⟨gl, z0, far, nn1, nn2, zz1⟩ := grow
  obtain ⟨so2, d2, r2⟩ := so.eq' (T := S2) (fun i hi => by
    by_cases h : i < 105
    · exact cc i (by omega) h (by omega) (by omega) (by omega)
    · exact far i (by omega) (by omega)) z0 (c0 16 (by decide) (by decide))
  refine ⟨S2, ?_, g.stepY (gi.of e84 (fun i a => cc i (by omega) (by omega) (by omega) (by omega) (by omega)) (c0 15 (by decide) (by decide)) (fun z a b => c83 z (by omega))) tp2 e84 (nl.of (fun i a b => cc i (by omega) (by omega) (by omega) (by omega) (by omega))) so2 (rl.of (fun i a => cc i (by omega) (by omega) (by omega) (by omega) (by omega))) (hb.of (cc 68 (by decide) (by decide) (by decide) (by decide) (by decide))) (hi.of (fun i a b => cc i (by omega) (by omega) (by omega) (by omega) (by omega))) (c0 16 (by decide) (by decide)) ⟨nn1, by omega, by omega⟩⟩
  unfold mL_0
  rw [bd2_e a, nx_e, m1]
  refine bdG2_e b gl ?_ gle_rfl
  rw [gd_t ⟨c, c⟩, if_pos rfl]
theorem st_c1 {n : Nat} {S : St} (g : INV n S) (hn : n ≤ 512) {x1 x2 x3 x4 x5 : Int} (h1 : inI x1) : ∃ S1, mL_1 x1 x2 x3 x4 x5 S = some S1 ∧ INV (n + 1) S1 := by
  have so := g.spo hn
  have g' := g
  obtain ⟨gi, tp, nl, x0, y0, rl, ⟨hb, hi⟩, s, rr⟩ := g'
  obtain ⟨r, S1, S2, a, b, c, q1, q2, tp2⟩ := s_end tp h1
  have m1 : msk S1 S = S1 := msk_k (fun i hi => q1.cell i (by simp) (by simp <;> omega)) (fun k hk => q1 0 k (by simp) (by simp <;> omega))
  have m2 : msk S2 S1 = S2 := msk_k (fun i hi => (q2.cell i (by simp) (by simp <;> omega)).trans (q1.cell i (by simp) (by simp <;> omega)).symm) (fun k hk => (q2 0 k (by simp) (by simp <;> omega)).trans (q1 0 k (by simp) (by simp <;> omega)).symm)
  have cc : ∀ i, 0 < i → i ≠ 83 → S2 i = S i := fun i h0 h => q2.cell i (by simp) (by simp <;> omega)
  have c0 : ∀ z : Int, z ≠ 1 → S2 0 z = S 0 z := fun z hz => q2 0 z (by simp) (by simp; exact hz)
  have c83 : ∀ z : Int, z ≠ 3 → S2 83 z = S 83 z := fun z hz => q2 83 z (by simp) (by simp; exact hz)
  have e84 : S2 84 = S 84 := cc 84 (by decide) (by decide)
  obtain ⟨so2, rm⟩ := so.eq (T := S2) (fun i hi => cc i (by omega) (by omega)) ⟨c0 (-1) (by decide), c0 (-2) (by decide), c0 16 (by decide)⟩
  refine ⟨S2, ?_, g.step (gi.of e84 (fun i a => cc i (by omega) (by omega)) (c0 15 (by decide)) (fun z a b => c83 z (by omega))) tp2 e84 (nl.of (fun i a b => cc i (by omega) (by omega))) so2 (rl.of (fun i a => cc i (by omega) (by omega))) (hb.of (cc 68 (by decide) (by decide))) (hi.of (fun i a b => cc i (by omega) (by omega))) (c0 16 (by decide)) rm⟩
  unfold mL_1
  rw [bd2_e a, nx_e, m1, bd2_e b, nx_e, m2, gd_t ⟨c, c⟩, if_pos rfl]
/-- what was kept for an older grammar -/
theorem RC.old {S T : St} (h : RC S) (h0 : 105 ≤ nn S) (a : T 63 = S 63) (b : S 0 16 < T 0 16) (d : T 0 (-1) = S 0 (-1)) (e : ∀ i, 105 ≤ i → T i = S i) : RC T := by
  intro w hw
  rw [a]
  rcases h w hw with z | ⟨O, o1, ⟨o2, o3, o4⟩, o5, o6, o7⟩
  · exact Or.inl z
  · have q1 : T O = S O := e O (by have := o2.1; omega)
    have q2 : T (O + 1) = S (O + 1) := e (O + 1) (by have := o2.1; omega)
    have t1 : S O (-1) = 1 := o2.2.2
    have t2 : S (O + 1) (-1) = 2 := o4.2.2
    have x2 : dT T (O : Int) 1 := ⟨o2.1, by rw [d]; exact o2.2.1, by show T O (-1) = 1; rw [q1]; exact t1⟩
    have x4 : dT T ((O + 1 : Nat) : Int) 2 := ⟨o4.1, by rw [d]; exact o4.2.1, by show T (O + 1) (-1) = 2; rw [q2]; exact t2⟩
    refine Or.inr ⟨O, by rw [a]; exact o1, ⟨x2, by rw [q1]; exact o3, x4⟩, ⟨by rw [q1]; exact o5.1, by rw [q1]; have := o5.2; omega⟩, by rw [a]; exact o6, fun y => ?_⟩
    rw [q1] at y
    have := o5.2
    omega
theorem INV.newer {n : Nat} {S T : St} (g : INV n S) (hn : n ≤ 512) (gi : GI T) (tp : TP T) (nl : nbL T) (nex : NEX (T 84)) (lk : LK (T 84)) (vu : VU (T 84)) (c : ∀ i, (60 ≤ i ∧ i ≤ 66) ∨ i = 68 ∨ (99 ≤ i ∧ i ≤ 103) ∨ 105 ≤ i → T i = S i) (c0 : ∀ k : Int, k < 0 → T 0 k = S 0 k) (e16 : T 0 16 = S 0 16 + 1) (z74 : T 73 1 = 0) : INV (n + 1) T := by
  have cor : Cor T := by
    have gi' := gi
    obtain ⟨cor, -⟩ := gi'
    exact cor
  obtain ⟨gi0, tp0, nl0, x0, ⟨rc, sc⟩, rl0, ⟨hb, hi⟩, ⟨s1, s2⟩, ⟨r1, r2, r3⟩⟩ := g
  have z1 := c0 (-1) (by decide)
  have z2 := c0 (-2) (by decide)
  have c60 := c 60 (by omega)
  have en := nn_of (S := S) (T := T) z1
  have ez := zz_of (S := S) (T := T) z2
  have er := Rn_of (S := S) (T := T) (c 63 (by omega))
  obtain ⟨⟨⟨w, hw⟩, h13, h14⟩, h6, h7⟩ := sc
  have hE := hw
  obtain ⟨E, e1, e2, -⟩ := hE.e
  have eE : T E = S E := c E (by omega)
  have wT : WR T w := hw.of (by rw [c60]) (by rw [c60]) (by rw [c60]) (by rw [z1]; exact Int.le_refl _) (by rw [e1]; exact eE)
  have d : dl T = dl S := by
    unfold dl
    rw [dl_of (S := S) (T := T) (by rw [c60]) (fun _ => by rw [e1]; rw [show T (Int.toNat (E : Int)) = S (Int.toNat (E : Int)) from eE])]
  refine ⟨gi, tp, nl, ⟨nex, lk, vu⟩, ⟨rc.old r1 (c 63 (by omega)) (by omega) z1 (fun i a => c i (by omega)), ⟨⟨w, wT⟩, by rw [c60]; exact h13, by rw [c60]; exact h14⟩, by rw [c60]; omega, fun y => ?_⟩, ⟨by rw [z74]; exact fgs_0, fun e m he hm y => ?_⟩, ⟨hb.of (c 68 (by omega)), hi.of (fun i a b => c i (by omega))⟩, ⟨by omega, by omega⟩, ⟨by omega, by omega, by omega⟩⟩
  · rw [c60] at y
    omega
  · rw [z74, show (0 : Int).toNat = 0 from rfl, Nat.zero_testBit] at y
    cases y
theorem NEX.same {M M' : Int → Int} (h : NEX M) (w : WF M) (s : same6 M M') : NEX M' := by
  obtain ⟨E, TE, KE, rO, rT, rK, o, k⟩ := h
  refine ⟨E, TE, KE, rO, rT, rK, Ord6 s w o, fun p hp hs => ?_⟩
  rw [s 2 (by omega)] at hp
  rw [s (24 + (p : Int)) (by omega)] at hs
  rw [s (72 + (p : Int)) (by omega)]
  exact k p hp hs
theorem st_c2 {n : Nat} {S : St} (g : INV n S) (hn : n ≤ 512) {x1 x2 x3 x4 x5 : Int} : ∃ S1, mL_2 x1 x2 x3 x4 x5 S = some S1 ∧ INV (n + 1) S1 := by
  have so := g.spo hn
  have g' := g
  obtain ⟨gi, tp, nl, x0, y0, rl, ⟨hb, hi⟩, s, rr⟩ := g'
  obtain ⟨r, S1, S2, a, b, c, q1, q2, gi2, tp2, nl2, alt⟩ := s_grammar gi tp nl
  have far1 : ∀ i, 105 ≤ i → S1 i = S i := fun i hi => kept.cell q1 i (by simp <;> omega) (by simp <;> omega)
  have far2 : ∀ i, 105 ≤ i → S2 i = S i := fun i hi => kept.cell q2 i (by simp <;> omega) (by simp <;> omega)
  have neg1 : ∀ k : Int, k < 0 → S1 0 k = S 0 k := fun k hk => q1 0 k (by decide) (by simp <;> omega)
  have neg2 : ∀ k : Int, k < 0 → S2 0 k = S 0 k := fun k hk => q2 0 k (by decide) (by simp <;> omega)
  have m1 : msk S1 S = S1 := msk_k far1 neg1
  have m2 : msk S2 S1 = S2 := msk_k (fun i hi => (far2 i hi).trans (far1 i hi).symm) (fun k hk => (neg2 k hk).trans (neg1 k hk).symm)
  have cc : ∀ i, (60 ≤ i ∧ i ≤ 72) ∨ (74 ≤ i ∧ i ≤ 79) ∨ (99 ≤ i ∧ i ≤ 103) ∨ 105 ≤ i → S2 i = S i := fun i hi => kept.cell q2 i (by simp <;> omega) (by simp <;> omega)
  refine ⟨S2, ?_, ?_⟩
  · unfold mL_2
    rw [bd2_e a, nx_e, m1, bd2_e b, nx_e, m2, gd_t ⟨c, c⟩, if_pos rfl]
  · rcases alt with ⟨e84, e16, same⟩ | ⟨e16, z74, nex, r0⟩
    · obtain ⟨so2, rm⟩ := so.eq (T := S2) (fun i hi => by
        rcases hi with h | h | h | h | h
        · exact same i (by omega)
        · exact same i (by omega)
        · exact same i (by omega)
        · rw [h]; exact e84
        · exact far2 i h) ⟨neg2 _ (by decide), neg2 _ (by decide), e16⟩
      refine g.step gi2 tp2 e84 nl2 so2 (rl.of (fun i hi => ?_)) (hb.of (cc 68 (by omega))) (hi.of (fun i a b => cc i (by omega))) e16 rm
      rcases hi with h | h
      · exact same i (by omega)
      · rw [h]; exact e84
    · have q1 := lk_grammar (T := S1) (r, S2) b r0
      have q2 := vu_grammar (T := S1) (r, S2) b r0
      exact g.newer hn gi2 tp2 nl2 nex q1 q2 (fun i hi => cc i (by omega)) neg2 e16 z74
theorem INV.acts {n : Nat} {S S2 : St} (g : INV n S) (hn : n ≤ 512) (q : KA S S2) (gi2 : GI S2) (e16 : S2 0 16 = S 0 16 + 1) (z74 : S2 73 1 = 0) (e15 : S2 0 15 = S2 84 4) (s6 : same6 (S 84) (S2 84)) : INV (n + 1) S2 := by
  have cor := g.cor
  have g' := g
  obtain ⟨gi, tp, nl, ⟨nex, lk, vu⟩, y0, rl, ⟨hb, hi⟩, s, rr⟩ := g'
  have gi3 := gi2
  obtain ⟨_, _, _, _, _, ⟨am, _, _⟩, _⟩ := gi3
  have cc : ∀ i, (11 < i ∧ i < 33) ∨ (56 < i ∧ i < 73) ∨ i = 1 ∨ i = 86 ∨ (85 < i) → S2 i = S i := fun i hi => kept.cell q i (by simp <;> omega) (by simp <;> omega)
  have c0 : ∀ k : Int, k ≠ 15 → k ≠ 16 → S2 0 k = S 0 k := fun k a b => q 0 k (by decide) (by simp <;> omega)
  have c83 : ∀ k : Int, k ≠ 45 → S2 83 k = S 83 k := fun k a => q 83 k (by decide) (by simp <;> omega)
  obtain ⟨t1, t2, t3, t4⟩ := tp
  have tp2 : TP S2 := by
    refine ⟨?_, ?_, ?_, e15, am.1.1, am.1.2⟩
    · rw [c0 1 (by decide) (by decide), c83 3 (by decide), cc 1 (by omega), cc 86 (by omega)]
      exact t1
    · rw [c0 4 (by decide) (by decide), c0 5 (by decide) (by decide), c83 4 (by decide), c83 5 (by decide)]
      exact t2
    · rw [c0 17 (by decide) (by decide), c0 18 (by decide) (by decide), c83 42 (by decide), c83 43 (by decide)]
      exact t3
  exact g.newer hn gi2 tp2 (nl.of (fun i a b => cc i (by omega))) (nex.same cor.wf s6) (lk.same s6) (vu.same s6) (fun i hi => cc i (by omega)) (fun k hk => c0 k (by omega) (by omega)) e16 z74
theorem mskA {S S1 S2 : St} (q1 : KA S S1) (q2 : KA S S2) : msk S1 S = S1 ∧ msk S2 S1 = S2 := by
  have far1 : ∀ i, 105 ≤ i → S1 i = S i := fun i hi => kept.cell q1 i (by simp <;> omega) (by simp <;> omega)
  have far2 : ∀ i, 105 ≤ i → S2 i = S i := fun i hi => kept.cell q2 i (by simp <;> omega) (by simp <;> omega)
  have neg1 : ∀ k : Int, k < 0 → S1 0 k = S 0 k := fun k hk => q1 0 k (by decide) (by simp <;> omega)
  have neg2 : ∀ k : Int, k < 0 → S2 0 k = S 0 k := fun k hk => q2 0 k (by decide) (by simp <;> omega)
  exact ⟨msk_k far1 neg1, msk_k (fun i hi => (far2 i hi).trans (far1 i hi).symm) (fun k hk => (neg2 k hk).trans (neg1 k hk).symm)⟩
theorem st_c44 {n : Nat} {S : St} (g : INV n S) (hn : n ≤ 512) {x1 x2 x3 x4 x5 : Int} (h1 : inI x1) (h2 : inI x2) : ∃ S1, mL_44 x1 x2 x3 x4 x5 S = some S1 ∧ INV (n + 1) S1 := by
  have g' := g
  obtain ⟨gi, -⟩ := g'
  obtain ⟨r, S1, S2, a, b, c, q1, q2, gi2, alt, e15, s6⟩ := s_takes gi h1 h2
  obtain ⟨m1, m2⟩ := mskA q1 q2
  refine ⟨S2, ?_, ?_⟩
  · unfold mL_44
    rw [bd2_e a, nx_e, m1, bd2_e b, nx_e, m2, gd_t ⟨c, c⟩, if_pos rfl]
  · rcases alt with e | ⟨e16, z74⟩
    · rw [e]; exact g.more hn
    · exact g.acts hn q2 gi2 e16 z74 e15 s6
theorem st_c45 {n : Nat} {S : St} (g : INV n S) (hn : n ≤ 512) {x1 x2 x3 x4 x5 : Int} : ∃ S1, mL_45 x1 x2 x3 x4 x5 S = some S1 ∧ INV (n + 1) S1 := by
  have g' := g
  obtain ⟨gi, -⟩ := g'
  obtain ⟨r, S1, S2, a, b, c, q1, q2, gi2, alt, e15, s6⟩ := s_undo gi
  obtain ⟨m1, m2⟩ := mskA q1 q2
  refine ⟨S2, ?_, ?_⟩
  · unfold mL_45
    rw [bd2_e a, nx_e, m1, bd2_e b, nx_e, m2, gd_t ⟨c, c⟩, if_pos rfl]
  · rcases alt with e | ⟨e16, z74⟩
    · rw [e]; exact g.more hn
    · exact g.acts hn q2 gi2 e16 z74 e15 s6
theorem st_c46 {n : Nat} {S : St} (g : INV n S) (hn : n ≤ 512) {x1 x2 x3 x4 x5 : Int} : ∃ S1, mL_46 x1 x2 x3 x4 x5 S = some S1 ∧ INV (n + 1) S1 := by
  have g' := g
  obtain ⟨gi, -⟩ := g'
  obtain ⟨r, S1, S2, a, b, c, q1, q2, gi2, alt, e15, s6⟩ := s_anew gi
  obtain ⟨m1, m2⟩ := mskA q1 q2
  refine ⟨S2, ?_, ?_⟩
  · unfold mL_46
    rw [bd2_e a, nx_e, m1, bd2_e b, nx_e, m2, gd_t ⟨c, c⟩, if_pos rfl]
  · rcases alt with ⟨e16, e84, same⟩ | ⟨e16, z74⟩
    · exact g.quiet hn ⟨fun i hi => same i (by omega) (by omega), fun k hk => q2 83 k (by decide) (by simp <;> omega)⟩ gi2
    · exact g.acts hn q2 gi2 e16 z74 e15 s6
