/-! the reference goes through a thing: sequences, parts -/
theorem ok_x {c : Nat → Nat} : ∀ {L : List (Nat × Nat)} {x : Nat × Nat}, okL c L → x ∈ L → x.1 + L.length ≤ tot L + 1 := by
  intro L
  induction L with
  | nil => intro x _ h; cases h
  | cons y L ih =>
    intro x h hx
    have y1 := (h y (List.mem_cons_self ..)).1
    have t : tot (y :: L) = y.1 + tot L := rfl
    rw [List.length_cons, t]
    rcases List.mem_cons.mp hx with e | e
    · subst e
      have := (ok_sm (fun z hz => h z (List.mem_cons_of_mem _ hz)) (rfl : tot L = tot L)).1
      omega
    · have := ih (fun z hz => h z (List.mem_cons_of_mem _ hz)) e
      omega
theorem e_202 {S : St} {E TE : Nat → Prop} {rO rT rK : Nat → Nat} {f g nest base ch : Nat} {x1 x3 : Int} {L : List (Nat × Nat)} (h : Cor S) (rk : RKs (S 84) E TE rO rT rK) (hr : HR (S 84) rO f g) (hb0 : base + L.length ≤ 500) (hs : smL' L) (hy : ∀ y ∈ L, VN (S 84) (ch, y.1, y.2) ∧ ms rO (ch, y.1, y.2) < f ∧ base + L.length + ms rO (ch, y.1, y.2) + 2 * y.1 ≤ 446 ∧ nest + ms rO (ch, y.1, y.2) ≤ 440) : ∀ (l : List (Nat × Nat)) (i n F : Nat) (T : St), i + l.length = L.length → (∀ j, j < l.length → gx l j = gx L (i + j)) → l.length < F → PR (S 84) T nest n → els T base L → T 83 31 = ((base + L.length : Nat) : Int) → n + (cat (l.map (fun y => (ch, y.1, y.2))) (txt (S 84) f)).length ≤ 2000000000 → ∃ T', mX12_goesIn_202 (RX12_goesExpr g) ((base + L.length : Nat) : Int) x1 (ch : Int) x3 (nest : Int) F ((base + i : Nat) : Int) T = some T' ∧ EF T T' nest (cat (l.map (fun y => (ch, y.1, y.2))) (txt (S 84) f)) (prd (l.map (fun y => (ch, y.1, y.2))) (trn (S 84) f)) (mxl (l.map (fun y => (ch, y.1, y.2))) (dpN (S 84) f)) := by
  intro l
  induction l with
  | nil =>
    intro i n F T hi hg hF hP hL hb hl
    obtain ⟨F, rfl⟩ : ∃ f', F = f' + 1 := ⟨F - 1, by omega⟩
    rw [List.length_nil] at hi
    refine ⟨T, ?_, EF.nil hP.2.1.1⟩
    rw [mX12_goesIn_202, gd_t ⟨by omega, by omega⟩, if_pos (by omega)]
  | cons y l ih =>
    intro i n F T hi hg hF hP hL hb hl
    obtain ⟨F, rfl⟩ : ∃ f', F = f' + 1 := ⟨F - 1, by omega⟩
    rw [List.length_cons] at hi hF
    have ey : y = gx L i := hg 0 (by rw [List.length_cons]; omega)
    have ym : y ∈ L := by
      rw [ey]
      exact List.mem_of_getElem? (gx_some (by omega))
    obtain ⟨v1, v2, v3, v4⟩ := hy y ym
    have sy := hs y ym
    obtain ⟨l1, l2⟩ := (els_i L T base).mp hL i (by omega)
    rw [← ey] at l1 l2
    rw [show cat ((y :: l).map (fun y => (ch, y.1, y.2))) (txt (S 84) f) = txt (S 84) f (ch, y.1, y.2) ++ cat (l.map (fun y => (ch, y.1, y.2))) (txt (S 84) f) from rfl] at hl ⊢
    rw [List.length_append] at hl
    obtain ⟨T1, t1, t2⟩ := hr (ch, y.1, y.2) nest (base + L.length) n T v1 v2 hP hb v3 v4 (by omega)
    have dl := dp_le h rk f _ v1 v2
    have hP1 := hP.ef t2 (by omega)
    have hL1 : els T1 base L := hL.of (fun j hj => t2.2.2.1.2 (base + j) (by rw [hb]; omega))
    obtain ⟨T2, u1, u2⟩ := ih (i + 1) (n + (txt (S 84) f (ch, y.1, y.2)).length) F T1 (by omega) (fun j hj => by
      have := hg (j + 1) (by rw [List.length_cons]; omega)
      rw [show i + 1 + j = i + (j + 1) by omega]
      exact this) (by omega) hP1 hL1 (t2.2.2.1.1.trans hb) (by omega)
    refine ⟨T2, ?_, t2.app u2⟩
    dsimp only at t1
    rw [mX12_goesIn_202, gd_t ⟨by omega, by omega⟩, if_neg (by omega), gd_t (by omega), l2, gd_t (by omega), l1, bd1_e t1]
    rw [show ((base + (i + 1) : Nat) : Int) = ((base + i : Nat) : Int) + 1 by omega] at u1
    exact u1
theorem e_goIn {S : St} {E TE : Nat → Prop} {rO rT rK : Nat → Nat} {f g nest base p n v l : Nat} {T : St} (h : Cor S) (rk : RKs (S 84) E TE rO rT rK) (hr : HR (S 84) rO f g) (hx : VN (S 84) (p, n, v)) (hs : isSq (S 84) p) (hm : ms rO (p, n, v) < f + 1) (hP : PR (S 84) T nest l) (hb : T 83 31 = (base : Int)) (hb2 : base + ms rO (p, n, v) + 2 * n ≤ 446) (hn2 : nest + ms rO (p, n, v) ≤ 440) (hl : l + (txt (S 84) (f + 1) (p, n, v)).length ≤ 2000000000) : ∃ T', RX12_goesExpr (g + 1) 1 (p : Int) (n : Int) (v : Int) ((nest : Int) + 1) T = some T' ∧ EF T T' nest (txt (S 84) (f + 1) (p, n, v)) (trn (S 84) (f + 1) (p, n, v)) (dpN (S 84) (f + 1) (p, n, v)) := by
  have w := h.wf
  have hM1 := w.2.1
  have hM2 := w.2.2.1
  obtain ⟨hp, hn, hv, h2⟩ := id hx
  dsimp only at hp hn hv h2
  have h6 := (w.2.2.2.1 p hp).2.2.2.2.2 hs
  have hs' := hs
  unfold isSq at hs'
  obtain ⟨⟨KE, o⟩, r54, sup⟩ := id rk
  have r54p := r54 p hp
  have msx : ms rO (p, n, v) = 54 * n + rO p := rfl
  have ec : S 84 (72 + (p : Int)) = ((chM (S 84) p : Nat) : Int) := by unfold chM; omega
  obtain ⟨a, b, d, gg⟩ := sqI_ok h hp hs hn hv h2
  obtain ⟨s1, s2⟩ := sq_small h hp hs hn hv h2
  -- the pieces
  have ib : isQb (S 84) p = true := decide_eq_true hs
  have e1 : itm (S 84) (p, n, v) = (sqI (S 84) p n v).map (fun y => (chM (S 84) p, y.1, y.2)) := by
    unfold itm
    rw [if_neg (by dsimp only; omega), if_neg (by dsimp only; omega)]
  have e2 : hdS (S 84) (p, n, v) = [opS (S 84 (24 + (p : Int)))] := by
    unfold hdS
    rw [if_neg (by dsimp only; omega), if_neg (by dsimp only; omega), if_neg (by dsimp only; omega)]
  have e3 : tlS (S 84) (p, n, v) = [clS (S 84 (24 + (p : Int)))] := by
    unfold tlS
    rw [if_pos ib]
  have eT : txt (S 84) (f + 1) (p, n, v) = [opS (S 84 (24 + (p : Int)))] ++ (cat ((sqI (S 84) p n v).map (fun y => (chM (S 84) p, y.1, y.2))) (txt (S 84) f) ++ [clS (S 84 (24 + (p : Int)))]) := by
    show hdS (S 84) (p, n, v) ++ (cat (itm (S 84) (p, n, v)) (txt (S 84) f) ++ tlS (S 84) (p, n, v)) = _
    rw [e1, e2, e3]
  have eR : trn (S 84) (f + 1) (p, n, v) = own (S 84) (p, n, v) * prd ((sqI (S 84) p n v).map (fun y => (chM (S 84) p, y.1, y.2))) (trn (S 84) f) := by
    show own (S 84) (p, n, v) * prd (itm (S 84) (p, n, v)) (trn (S 84) f) = _
    rw [e1]
  have eD : dpN (S 84) (f + 1) (p, n, v) = 1 + mxl ((sqI (S 84) p n v).map (fun y => (chM (S 84) p, y.1, y.2))) (dpN (S 84) f) := by
    show (if isQb (S 84) p then 1 else 0) + mxl (itm (S 84) (p, n, v)) (dpN (S 84) f) = _
    rw [e1, if_pos ib]
  rw [eT] at hl ⊢
  rw [eR, eD]
  rw [List.length_append, List.length_append, List.length_singleton, List.length_singleton] at hl
  -- found
  have hT0 : cnt (S 84) (-1) (up T 83 32 (v : Int)) := hP.1.of (up_n (by decide)) (up_n (by decide)) (up_n (by decide))
  obtain ⟨T1, t1, t2, t3, t4, t5⟩ := e_finds (base := base) h hT0 hp hs hn hv h2 (by rw [up_nk (by decide)]; exact hb) (by omega) up_eq
  generalize hL : sqI (S 84) p n v = L at *
  have k1 : kept [97, 98] [(83, 31), (83, 32)] T T1 := (kept.upF kept.rf (by simp)).trans t5
  -- own turns
  have ow : ∃ z : Nat, (gd (inI (S 84 (24 + (p : Int)))) <| if S 84 (24 + (p : Int)) = 4 then (bd1 (mX12_changes T1 (base : Int) ((base + L.length : Nat) : Int)) fun r_50 => some (r_50)) else (if S 84 (24 + (p : Int)) = 6 then (bd1 (mX12_turnsIn T1 (base : Int) ((base + L.length : Nat) : Int)) fun r_48 => some (r_48)) else (some 1))) = some (z : Int) ∧ z = own (S 84) (p, n, v) := by
    rw [gd_t (by omega)]
    unfold own
    dsimp only
    rw [hL]
    by_cases t4' : S 84 (24 + (p : Int)) = 4
    · rw [if_pos t4', if_pos t4', bd1_e (e_changes t2 s1 (by omega))]
      exact ⟨_, rfl, rfl⟩
    · rw [if_neg t4', if_neg t4']
      by_cases t6 : S 84 (24 + (p : Int)) = 6
      · rw [if_pos t6, if_pos t6, bd1_e (e_turnsIn t2 s1 (by omega))]
        exact ⟨_, rfl, rfl⟩
      · rw [if_neg t6, if_neg t6]
        exact ⟨1, rfl, rfl⟩
  obtain ⟨z, z1, z2⟩ := ow
  obtain ⟨T3, hT3⟩ : ∃ T3, T3 = up (up T1 83 26 (T1 83 26 * (z : Int))) 83 23 (max (T1 83 23) ((nest : Int) + 1)) := ⟨_, rfl⟩
  have c3 : ∀ i, i ≠ 83 → T3 i = T1 i := fun i hi => by rw [hT3, up_n hi, up_n hi]
  have f3 : ∀ k : Int, k ≠ 26 → k ≠ 23 → T3 83 k = T1 83 k := fun k x y => by rw [hT3, up_nk y, up_nk x]
  have T3d : T3 83 23 = max (T 83 23) ((nest : Int) + 1) := by rw [hT3, up_eq, k1 83 23 (by decide) (by decide)]
  have T3t : T3 83 26 = T 83 26 * (z : Int) := by rw [hT3, up_nk (by decide), up_eq, k1 83 26 (by decide) (by decide)]
  have g3 : ∀ k : Int, k ≠ 26 → k ≠ 23 → k ≠ 31 → k ≠ 32 → T3 83 k = T 83 k := fun k x y x2 y2 => by rw [f3 k x y]; exact k1 83 k (by decide) (by simp; omega)
  obtain ⟨p1, ⟨p2, p3⟩, p4, p5, p6, p7⟩ := hP
  have hP3 : PR (S 84) T3 (nest + 1) l := ⟨p1.of ((c3 84 (by decide)).trans (k1.cell 84 (by decide) (by decide))) ((c3 90 (by decide)).trans (k1.cell 90 (by decide) (by decide))) ((c3 91 (by decide)).trans (k1.cell 91 (by decide) (by decide))), ⟨by rw [T3d]; omega, by rw [T3d]; omega⟩, by rw [g3 20 (by decide) (by decide) (by decide) (by decide)]; exact p4, by rw [g3 21 (by decide) (by decide) (by decide) (by decide)]; exact p5, by rw [g3 24 (by decide) (by decide) (by decide) (by decide)]; exact p6, by rw [g3 27 (by decide) (by decide) (by decide) (by decide)]; exact p7⟩
  have hL3 : els T3 base L := t2.of (fun i _ => by rw [c3 97 (by decide), c3 98 (by decide)]; exact ⟨rfl, rfl⟩)
  have hb3 : T3 83 31 = ((base + L.length : Nat) : Int) := by rw [f3 31 (by decide) (by decide)]; exact t3
  have opn : (opS (S 84 (24 + (p : Int))) < 97 ∨ 122 < opS (S 84 (24 + (p : Int)))) ∧ opS (S 84 (24 + (p : Int))) ≠ 96 := by
    unfold opS
    split
    · exact ⟨by omega, by omega⟩
    · split
      · exact ⟨by omega, by omega⟩
      · split <;> exact ⟨by omega, by omega⟩
  have cln : (clS (S 84 (24 + (p : Int))) < 97 ∨ 122 < clS (S 84 (24 + (p : Int)))) ∧ clS (S 84 (24 + (p : Int))) ≠ 96 := by
    unfold clS
    split
    · exact ⟨by omega, by omega⟩
    · split
      · exact ⟨by omega, by omega⟩
      · split <;> exact ⟨by omega, by omega⟩
  obtain ⟨T4, o1, o2⟩ := EF.sign (c := opS (S 84 (24 + (p : Int)))) hP3.2.2.1 (by omega) hP3.2.2.2.1 hP3.2.1.1 (by have := hP3.2.2.2.2.1; omega)
  have hP4 := hP3.ef o2 (by omega)
  have hL4 : els T4 base L := hL3.of (fun j hj => o2.2.2.1.2 (base + j) (by rw [hb3]; omega))
  have hb4 : T4 83 31 = ((base + L.length : Nat) : Int) := o2.2.2.1.1.trans hb3
  have ch2 : ((chM (S 84) p : Nat) : Int) < S 84 2 := by omega
  have ly : ∀ y ∈ L, VN (S 84) (chM (S 84) p, y.1, y.2) ∧ ms rO (chM (S 84) p, y.1, y.2) < f ∧ base + L.length + ms rO (chM (S 84) p, y.1, y.2) + 2 * y.1 ≤ 446 ∧ nest + 1 + ms rO (chM (S 84) p, y.1, y.2) ≤ 440 := by
    intro y hy
    have hyi : (chM (S 84) p, y.1, y.2) ∈ itm (S 84) (p, n, v) := by
      rw [e1]
      exact List.mem_map.mpr ⟨y, hy, rfl⟩
    obtain ⟨i1, i2, i3⟩ := itm_ok h rk hx _ hyi
    have ox := ok_x a hy
    rw [b] at ox
    have r1 := r54 _ ch2
    have my : ms rO (chM (S 84) p, y.1, y.2) = 54 * y.1 + rO (chM (S 84) p) := rfl
    refine ⟨i1, by omega, ?_, by omega⟩
    rcases Nat.lt_or_ge L.length 2 with q | q
    · have : 1 ≤ L.length := List.length_pos_of_mem hy
      have : y.1 ≤ n := i3
      omega
    · omega
  obtain ⟨T5, q1, q2⟩ := e_202 (x1 := (base : Int)) (x3 := S 84 (24 + (p : Int))) (nest := nest + 1) h rk hr (by omega) s1 ly L 0 (l + 1) FU T4 (by omega) (fun j _ => by rw [Nat.zero_add]) (by unfold FU; omega) hP4 hL4 hb4 (by omega)
  have dl : mxl (L.map (fun y => (chM (S 84) p, y.1, y.2))) (dpN (S 84) f) ≤ ms rO (p, n, v) := mxl_le (fun y hy => by
    rw [← e1] at hy
    obtain ⟨i1, i2, i3⟩ := itm_ok h rk hx y hy
    have := dp_le h rk f y i1 (by omega)
    omega)
  have hP5 := hP4.ef q2 (by omega)
  obtain ⟨T6, c1, c2⟩ := EF.sign (c := clS (S 84 (24 + (p : Int)))) hP5.2.2.1 (by rw [List.length_singleton]; omega) hP5.2.2.2.1 hP5.2.1.1 (by have := hP5.2.2.2.2.1; omega)
  have ef := o2.app (q2.app c2)
  rw [Nat.one_mul, Nat.mul_one, Nat.max_zero, Nat.zero_max] at ef
  obtain ⟨⟨x1, x2, x3⟩, ⟨x4, x5, x6⟩, ⟨x7, x8⟩, x9⟩ := ef
  refine ⟨up T6 83 31 (base : Int), ?_, ⟨?_, ?_, ?_⟩, ⟨?_, ?_, ?_⟩, ⟨?_, fun j hj => ?_⟩, ?_⟩
  · show (if (1 : Nat) = 0 then _ else if (1 : Nat) = 1 then bX12_goesIn (RX12_goesExpr g) T (p : Int) (n : Int) (v : Int) ((nest : Int) + 1) else _) = _
    rw [if_neg (by decide), if_pos rfl]
    unfold bX12_goesIn
    have z8 : (gd (inI (S 84 (48 + (p : Int)))) <| if S 84 (48 + (p : Int)) = 0 then some (-1) else some (S 84 (48 + (p : Int)))) = some (nuM (S 84) p) := by
      rw [gd_t (by omega)]
      unfold nuM
      split <;> rfl
    have e84 : T 84 = S 84 := p1.1
    have e84' : (up T 83 32 (v : Int)) 84 = S 84 := by rw [up_n (by decide)]; exact e84
    have charO : mJ0_charAt_5068e tx20 (S 84 (24 + (p : Int)) - 3) = some (opS (S 84 (24 + (p : Int)))) := by
      unfold opS
      rcases (show S 84 (24 + (p : Int)) = 3 ∨ S 84 (24 + (p : Int)) = 4 ∨ S 84 (24 + (p : Int)) = 5 ∨ S 84 (24 + (p : Int)) = 6 by omega) with q | q | q | q <;> rw [q]
      · exact ch20.1
      · exact ch20.2.1
      · exact ch20.2.2.1
      · exact ch20.2.2.2
    have charC : mJ0_charAt_5068e tx21 (S 84 (24 + (p : Int)) - 3) = some (clS (S 84 (24 + (p : Int)))) := by
      unfold clS
      rcases (show S 84 (24 + (p : Int)) = 3 ∨ S 84 (24 + (p : Int)) = 4 ∨ S 84 (24 + (p : Int)) = 5 ∨ S 84 (24 + (p : Int)) = 6 by omega) with q | q | q | q <;> rw [q]
      · exact ch21.1
      · exact ch21.2.1
      · exact ch21.2.2.1
      · exact ch21.2.2.2
    have i23 : inI ((up T1 83 26 (T1 83 26 * (z : Int))) 83 23) ∧ inI ((nest : Int) + 1) := by
      rw [up_nk (by decide), k1 83 23 (by decide) (by decide)]
      exact ⟨by omega, by omega⟩
    have e202 : mX12_goesIn_202 (RX12_goesExpr g) ((base + L.length : Nat) : Int) (base : Int) ((chM (S 84) p : Nat) : Int) (S 84 (24 + (p : Int))) ((nest : Int) + 1) FU (base : Int) T4 = some T5 := by
      have := q1
      rw [show ((nest + 1 : Nat) : Int) = (nest : Int) + 1 by omega] at this
      exact this
    rw [gd_t (by omega), e84, nx_e, gd_t (by omega), nx_e, hb, nx_e, nx_e, gd_t (by omega), e84', bd1_e z8, bd1_e t1, t3, nx_e, bd1_e z1, nx_e, gd_t i23, nx_e, up_nk (k := 26) (q := 23) (by decide), ← hT3, bd1_e charO, bd1_e o1, ec, bd1_e e202, bd1_e charC, bd1_e c1, nx_e]
  · rw [up_nk (by decide), x1, g3 20 (by decide) (by decide) (by decide) (by decide)]
  · rw [up_nk (by decide), x2, g3 20 (by decide) (by decide) (by decide) (by decide), g3 21 (by decide) (by decide) (by decide) (by decide), g3 22 (by decide) (by decide) (by decide) (by decide)]
  · rw [up_n (by decide), x3, g3 20 (by decide) (by decide) (by decide) (by decide), c3 96 (by decide), k1.cell 96 (by decide) (by decide)]
  · rw [up_nk (by decide), x4, T3d]; omega
  · rw [up_nk (by decide), x5, g3 25 (by decide) (by decide) (by decide) (by decide), g3 24 (by decide) (by decide) (by decide) (by decide)]
  · rw [up_nk (by decide), x6, T3t, z2, Int.natCast_mul, Int.mul_assoc]
  · rw [up_eq, hb]
  · rw [hb] at hj
    have y := x8 j (by rw [hb3]; omega)
    have y2 := t4 j (by omega)
    rw [c3 97 (by decide), c3 98 (by decide)] at y
    rw [up_n (by decide)] at y2
    rw [up_n (by decide), up_n (by decide)]
    rw [up_n (by decide)] at y2
    exact ⟨y.1.trans y2.1, y.2.trans y2.2⟩
  · have k3 : kept [96, 97, 98] [(83, 20), (83, 22), (83, 23), (83, 25), (83, 26), (83, 31), (83, 32)] T T3 := by
      rw [hT3]
      exact kept.upF (kept.upF (k1.mono (by simp) (by simp)) (by simp)) (by simp)
    exact kept.upF (k3.trans x9) (by simp)
