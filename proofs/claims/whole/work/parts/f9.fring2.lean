/-! the class: a ring found by its number -/
theorem rg_ok {M : Int → Int} {p n v : Nat} {x : List (Nat × Nat)} (hn : n ≤ 7) (hnu : -1 ≤ nuM M p ∧ nuM M p ≠ 0 ∧ nuM M p ≤ 7) (h : (rgM M p n).length ≤ 200) (hv : (rgM M p n)[v]? = some x) : okL (cM M p) x ∧ tot x = n ∧ (0 ≤ nuM M p → ((x.length : Nat) : Int) = nuM M p) ∧ x ≠ [] ∧ lst x = true ∧ (∀ y ∈ x, 1 ≤ y.1 ∧ y.1 ≤ 7 ∧ y.2 ≤ 1023) ∧ (∀ y ∈ x, cM M p y.1 ≤ 200) := by
  obtain ⟨s, e, a, b, d, g, l⟩ := (rgE_mem 7 n (nuM M p) [] x hn hn hnu.1).mp (List.mem_of_getElem? hv)
  rw [List.nil_append] at e
  subst e
  suffices fw : ∀ y ∈ x, cM M p y.1 ≤ 200 from ⟨a, b, d, g, l, fun y hy => ⟨(a y hy).1, by have := (ok_sm a b).2 y hy; omega, by have := fw y hy; have := (a y hy).2; omega⟩, fw⟩
  intro y hy
  have k := (ok_sm a b).2 y hy
  have ya := a y hy
  -- the others stand behind it, if it is turned to the front
  obtain ⟨s1, s2, es⟩ := List.append_of_mem hy
  have m0 := hnu.2.1
  have l' : okL (cM M p) (s1 ++ s2) := fun z hz => a z (by
    rw [es]
    rcases List.mem_append.mp hz with q | q
    · exact List.mem_append.mpr (Or.inl q)
    · exact List.mem_append.mpr (Or.inr (List.mem_cons_of_mem _ q)))
  have t' : tot (s1 ++ s2) = n - y.1 := by
    have : tot s1 + (y.1 + tot s2) = n := by
      rw [es, tot_app] at b
      exact b
    rw [tot_app]; omega
  have pos := comp_pos (s1 ++ s2) (n - y.1) (lss (nuM M p)) l' t' (by omega) (lss_ge hnu.1 m0) (fun z => by
    unfold lss at z ⊢
    by_cases q : nuM M p < 0
    · rw [if_pos q] at z; omega
    · rw [if_neg q]
      have dd := d (by omega)
      rw [es, List.length_append, List.length_cons] at dd
      rw [List.length_append]; omega)
  have few := ring_few hn hnu h [] (nuM M p) n y.1 (fun z hz => (by cases hz)) (by show 0 + n = n; omega) (fun z => ⟨by rw [List.length_nil]; omega, z⟩) (fun z => by omega) ya.1 k m0 (by omega)
  exact few
theorem c_findRing {S : St} {p n v : Nat} {x : List (Nat × Nat)} (h : Cor S) (nex : NEX (S 84)) (rc : RC S) (h0 : 105 ≤ nn S) (h16 : 0 ≤ S 0 16 ∧ S 0 16 ≤ 2147483647) (hp : (p : Int) < S 84 2) (z6 : S 84 (24 + (p : Int)) = 6) (hn : (n : Int) ≤ S 84 1) (hn1 : 1 ≤ n) (hlen : (rgM (S 84) p n).length ≤ 200) (hv : (rgM (S 84) p n)[v]? = some x) : ∃ S', mX8_findRing S (p : Int) (n : Int) (v : Int) (S 0 16) = some S' ∧ cds S' x ∧ RC S' ∧ FRm S S' := by
  have w := h.wf
  have hM1 := w.2.1
  have hM2 := w.2.2.1
  have hs : isSq (S 84) p := by unfold isSq; omega
  obtain ⟨g3, g4, g5, c24, p24, c2⟩ := gm_sq h hp hs
  have nu := nu_ge w hp hs
  obtain ⟨x1, x2, x3, x4, x5, x6, -⟩ := rg_ok (by omega) nu hlen hv
  have xl := (ok_sm x1 x2).1
  obtain ⟨S2, hS2⟩ : ∃ S2, S2 = up S 61 5 ((chM (S 84) p : Nat) : Int) := ⟨_, rfl⟩
  have o2 : ∀ i, i ≠ 61 → S2 i = S i := fun i hi => by rw [hS2, up_n hi]
  have n2 : nn S2 = nn S := nn_of (by rw [o2 0 (by decide)])
  have rc2 : RC S2 := rc.of h0 (o2 63 (by decide)) (o2 84 (by decide)) (by rw [o2 0 (by decide)]) (by omega) (fun i a _ _ => o2 i (by omega))
  obtain ⟨O, T, t1, t2, t3, t4, t5, t6⟩ := e_getList (w := p * 8 + n) rc2 (by omega) (by rw [o2 0 (by decide)]; exact h16) (by omega)
  have f2 : FRm S S2 := ⟨fun i k a b c d e => by rw [o2 i b], fun i a => o2 i (by have := a.1; omega), gle_rf (o2 0 (by decide)), by rw [n2, Rn_of (o2 63 (by decide))], by rw [zz_of (by rw [o2 0 (by decide)]), Rn_of (o2 63 (by decide))]⟩
  have fT : FRm S T := f2.trans t4
  have T16 : T 0 16 = S 0 16 := fT.1 0 16 (by decide) (by decide) (by decide) (by decide) (Or.inr (by decide))
  have T84 : T 84 = S 84 := fT.cell (by decide) (by decide) (by decide) (by decide) (by decide)
  have tc : ∀ i, (2 ≤ i ∧ i ≤ 11) ∨ (40 ≤ i ∧ i ≤ 46) → T i = S i := fun i hi => fT.cell (by omega) (by omega) (by omega) (by omega) (by omega)
  have corT : Cor T := h.of T84 (fun i a b => tc i (by omega)) (fun i a b => tc i (by omega))
  have I5 : T 61 5 = ((chM (S 84) p : Nat) : Int) := by rw [t5, hS2, up_eq]
  obtain ⟨o1, ⟨dO, eQ, dQ⟩, ⟨st1, st2⟩, dist, cont⟩ := t3
  have ew : (p * 8 + n) / 8 = p ∧ (p * 8 + n) % 8 = n := by omega
  rw [ew.1, ew.2, T84] at cont
  have b1 := dO.1
  have nT0 : 105 ≤ nn T := by have := dO.2.1; unfold nn; omega
  -- the list, filled
  have mid : ∃ U, (gd ((inI (T (Int.toNat (O : Int)) 0)) ∧ (inI (S 0 16))) <| if T (Int.toNat (O : Int)) 0 = S 0 16 then some T else (nx (up T (Int.toNat (O : Int)) 0 (S 0 16)) fun S_40 => gd (dT S_40 (O : Int) 1) <| nx (up S_40 (Int.toNat (O : Int)) 1 0) fun S_41 => nx (up S_41 61 2 0) fun S_43 => bdG1 S_43 (fun o : St => o) (mX8_listRings_61_dO S_43 (p : Int) (n : Int) (O : Int)) fun S_45 => some S_45)) = some U ∧ gle T U ∧ LR U O (O + 1) (rgM (S 84) p n) ∧ RC U ∧ FRm T U ∧ U 61 5 = T 61 5 := by
    have eO : ∀ X : St, X (Int.toNat (O : Int)) = X O := fun X => rfl
    rw [eO T, gd_t ⟨st1, by omega⟩]
    by_cases z : T O 0 = S 0 16
    · rw [if_pos z]
      exact ⟨T, rfl, gle_rfl, (cont (by rw [T16]; exact z)).1, t2, FRm.rf, rfl⟩
    · rw [if_neg z]
      obtain ⟨U0, hU0⟩ : ∃ U0, U0 = up (up (up T O 0 (S 0 16)) O 1 0) 61 2 0 := ⟨_, rfl⟩
      have u0 : ∀ i, i ≠ 61 → i ≠ O → U0 i = T i := fun i a b => by rw [hU0, up_n a, up_n b, up_n b]
      have uO : ∀ k : Int, k ≠ 0 → k ≠ 1 → U0 O k = T O k := fun k a b => by rw [hU0, up_n (by omega), up_nk b, up_nk a]
      have u61 : ∀ k : Int, k ≠ 2 → U0 61 k = T 61 k := fun k a => by rw [hU0, up_nk a, up_n (by omega), up_n (by omega)]
      have dU : dT U0 (O : Int) 1 := ⟨dO.1, by rw [u0 0 (by decide) (by omega)]; exact dO.2.1, by show U0 O (-1) = 1; rw [uO _ (by decide) (by decide)]; exact dO.2.2⟩
      have dUQ : dT U0 ((O + 1 : Nat) : Int) 2 := ⟨dQ.1, by rw [u0 0 (by decide) (by omega)]; exact dQ.2.1, by show U0 (O + 1) (-1) = 2; rw [u0 _ (by omega) (by omega)]; exact dQ.2.2⟩
      have L0 : LR U0 O (O + 1) [] := ⟨⟨dU, by rw [uO 2 (by decide) (by decide)]; exact eQ, dUQ⟩, by rw [hU0, up_n (by omega), up_eq]; rfl, fun r y e => by simp at e⟩
      have c0 : cds U0 [] := ⟨by rw [hU0, up_eq]; rfl, fun i y e => by simp at e⟩
      have corU : Cor U0 := corT.of (u0 84 (by decide) (by omega)) (fun i a b => u0 i (by omega) (by omega)) (fun i a b => u0 i (by omega) (by omega))
      obtain ⟨U, l1, l2, l3, l4⟩ := c_list (M := S 84) (p := p) (O := O) (Q := O + 1) (n0 := n) hp z6 nex hn (ring_few (by omega) nu hlen) 7 n (nuM (S 84) p) [] [] 24 U0 (by omega) (by omega) (fun y hy => (by cases hy)) (fun y hy => (by cases hy)) (by show 0 + n = n; omega) (fun e => by omega) (fun e => ⟨by rw [List.length_nil]; omega, e⟩) (fun e => by omega) nu.1 corU ((u0 84 (by decide) (by omega)).trans T84) ((u61 5 (by decide)).trans I5) c0 L0 (by rw [List.length_nil, Nat.zero_add]; exact hlen) (fun e => by omega)
      rw [List.nil_append] at l3
      have l3' : LR U O (O + 1) (rgM (S 84) p n) := l3
      have U0' : U 0 = T 0 := (l4.cell (by decide) (by decide) (by decide)).trans (u0 0 (by decide) (by omega))
      have Uo : ∀ i, 105 ≤ i → i ≠ O → i ≠ O + 1 → U i = T i := fun i a b c => (l4.2.1 i a b c).trans (u0 i (by omega) b)
      have U63 : U 63 = T 63 := (l4.cell (by decide) (by decide) (by decide)).trans (u0 63 (by decide) (by omega))
      have U84 : U 84 = T 84 := (l4.cell (by decide) (by decide) (by decide)).trans (u0 84 (by decide) (by omega))
      have fU : FRm T U := by
        refine ⟨fun i k a b c d e => ?_, fun i a => ?_, gle_rf U0', by rw [nn_of (by rw [U0']), Rn_of U63], by rw [zz_of (by rw [U0']), Rn_of U63]⟩
        · rw [l4.1 i k a c (fun e => b (Prod.mk.inj e).1), u0 i b (by omega)]
        · refine Uo i a.1 (fun e => ?_) (fun e => ?_)
          · rw [e] at a; exact a.2.2.1 dO.2.2
          · rw [e] at a; exact a.2.2.2 dQ.2.2
      refine ⟨U, ?_, gle_rf U0', l3', fun w' hw' => ?_, fU, ?_⟩
      · rw [nx_e, gd_t ⟨dO.1, by show _ < (up T O 0 (S 0 16)) 0 (-1); rw [up_n (by omega)]; exact dO.2.1, by show (up T O 0 (S 0 16)) O (-1) = 1; rw [up_nk (by decide)]; exact dO.2.2⟩, nx_e, nx_e, show (up (up (up T (Int.toNat (O : Int)) 0 (S 0 16)) (Int.toNat (O : Int)) 1 0) 61 2 0) = U0 from hU0.symm]
        exact bdG1_e l1 l4.gle rfl gle_rfl
      · rw [U63]
        by_cases e : w' = p * 8 + n
        · subst e
          refine Or.inr ⟨O, by rw [U63]; exact o1, l3'.1, ?_, by rw [U63]; exact dist, fun _ => ?_⟩
          · have : U O 0 = S 0 16 := by
              rw [l4.2.2.1 0 (by decide), hU0, up_n (by omega), up_nk (by decide), up_eq]
            rw [this, U0', T16]
            exact ⟨by omega, Int.le_refl _⟩
          · rw [ew.1, ew.2, U84, T84]
            exact ⟨l3', hlen⟩
        · rcases t2 w' hw' with y | ⟨O', p1, ⟨p2, p3, p4⟩, p5, p6, p7⟩
          · exact Or.inl y
          · have ne1 : O' ≠ O := fun q => by
              rw [q] at p1
              exact dist w' hw' e (p1.trans o1.symm)
            have ne2 : O' ≠ O + 1 := fun q => by
              have a : T O' (-1) = 1 := p2.2.2
              have b : T (O + 1) (-1) = 2 := dQ.2.2
              rw [q, b] at a; cases a
            have ne3 : O' + 1 ≠ O := fun q => by
              have a : T (O' + 1) (-1) = 2 := p4.2.2
              have b : T O (-1) = 1 := dO.2.2
              rw [q, b] at a; cases a
            have q1 : U O' = T O' := Uo O' (by have := p2.1; omega) ne1 ne2
            have q2 : U (O' + 1) = T (O' + 1) := Uo (O' + 1) (by have := p2.1; omega) ne3 (by omega)
            have y2 : dT U (O' : Int) 1 := ⟨p2.1, by rw [U0']; exact p2.2.1, by show U O' (-1) = 1; rw [q1]; exact p2.2.2⟩
            have y4 : dT U ((O' + 1 : Nat) : Int) 2 := ⟨p4.1, by rw [U0']; exact p4.2.1, by show U (O' + 1) (-1) = 2; rw [q2]; exact p4.2.2⟩
            refine Or.inr ⟨O', by rw [U63]; exact p1, ⟨y2, by rw [q1]; exact p3, y4⟩, by rw [q1, U0']; exact p5, by rw [U63]; exact p6, fun y => ?_⟩
            rw [q1, U0'] at y
            obtain ⟨⟨-, m2, m3⟩, m4⟩ := p7 y
            rw [U84]
            exact ⟨⟨⟨y2, by rw [q1]; exact p3, y4⟩, by rw [q1]; exact m2, by rw [q2]; exact m3⟩, m4⟩
      · rw [l4.1 61 5 (by decide) (by decide) (by decide), u61 5 (by decide)]
  obtain ⟨U, m1, m2, m3, m4, m5, m6⟩ := mid
  have L1 : LR (up U 61 2 0) O (O + 1) (rgM (S 84) p n) := m3.of (up_n (by omega)) (up_n (by omega)) rfl
  obtain ⟨V, v1, v2, v3⟩ := e_97 L1 hv hlen (by omega) x6 ⟨by rw [up_eq]; rfl, fun i y e => by simp at e⟩
  have V0 : V 0 = U 0 := (v3.cell 0 (by decide) (by decide)).trans (up_n (by decide))
  have Vo : ∀ i, i ≠ 61 → i ≠ 62 → V i = U i := fun i a b => (v3.cell i (by simp; omega) (by simp; omega)).trans (up_n a)
  have fV : FRm U V := ⟨fun i k a b c d e => by rw [Vo i b c], fun i a => Vo i (by have := a.1; omega) (by have := a.1; omega), gle_rf V0, by rw [nn_of (by rw [V0]), Rn_of (Vo 63 (by decide) (by decide))], by rw [zz_of (by rw [V0]), Rn_of (Vo 63 (by decide) (by decide))]⟩
  have nU0 : 105 ≤ nn U := Nat.le_trans nT0 m2.1
  refine ⟨V, ?_, v2, m4.of nU0 (Vo 63 (by decide) (by decide)) (Vo 84 (by decide) (by decide)) (by rw [V0]) (Nat.le_of_eq (nn_of (by rw [V0])).symm) (fun i a _ _ => Vo i (by omega) (by omega)), (fT.trans m5).trans fV⟩
  unfold mX8_findRing
  refine entG_e ?_ ((fT.trans m5).trans fV).2.2.1
  rw [gd_t (by omega), g5, nx_e, ← hS2, nx_e, show (p : Int) * 8 + (n : Int) = ((p * 8 + n : Nat) : Int) by omega]
  refine bdG2_e t1 t4.2.2.1 ?_ (m5.trans fV).2.2.1
  rw [gd_t dO]
  refine bdG1_e m1 m2 ?_ fV.2.2.1
  rw [nx_e, bd1_e v1]
