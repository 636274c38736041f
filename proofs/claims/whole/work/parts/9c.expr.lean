/-! expressions read by both -/
theorem tlM_cgp {M M' : Int → Int} {e m : Nat} (h0 : M' (168 + (e : Int)) = M (168 + (e : Int))) (ht : ∀ t : Nat, t < m → M' (120 + tlM M e t) = M (120 + tlM M e t) ∧ M' (144 + tlM M e t) = M (144 + tlM M e t)) : (∀ t, t ≤ m → tlM M' e t = tlM M e t) ∧ (∀ t, t < m → fpM M' e t = fpM M e t) := by
  have a : ∀ t, t ≤ m → tlM M' e t = tlM M e t := by
    intro t
    induction t with
    | zero => intro _; exact h0
    | succ t ih =>
      intro h
      show M' (144 + tlM M' e t) = M (144 + tlM M e t)
      rw [ih (by omega)]
      exact (ht t (by omega)).2
  refine ⟨a, fun t h => ?_⟩
  show M' (120 + tlM M' e t) = M (120 + tlM M e t)
  rw [a t (by omega)]
  exact (ht t h).1
theorem EX.cgp {S : St} {M M' : Int → Int} {d : Nat → Nat} {lo b t0 t1 e L : Nat} (h : EX S M d lo b t0 t1 e L) (m1 : M' (168 + (e : Int)) = M (168 + (e : Int))) (m2 : M' (198 + (e : Int)) = M (198 + (e : Int))) (ht : ∀ t : Nat, (t : Int) < M (198 + (e : Int)) → M' (120 + tlM M e t) = M (120 + tlM M e t) ∧ M' (144 + tlM M e t) = M (144 + tlM M e t)) : EX S M' d lo b t0 t1 e L := by
  obtain ⟨⟨a1, a2, a3⟩, a4, a5⟩ := h
  obtain ⟨tl, fp⟩ := tlM_cgp (m := (M (198 + (e : Int))).toNat) m1 (fun t h => ht t (by omega))
  unfold EX
  rw [m2]
  refine ⟨⟨a1, a2, a3⟩, fun t ht => ?_, ?_⟩
  · obtain ⟨c1, c2, c3, c4⟩ := a4 t ht
    rw [fp t (by omega), tl t (by omega)]
    exact ⟨c1, c2, c3, c4⟩
  · rw [tl _ (Nat.le_refl _)]; exact a5
/-- a term more in the reference's rows -/
def FUP (M M' : Int → Int) (e x : Nat) (z : Int) : Prop := ∀ k : Int, k ≠ 5 → k ≠ 120 + (x : Int) → k ≠ z → k ≠ 198 + (e : Int) → M' k = M k
def zOK (M : Int → Int) (d : Nat → Nat) (e L t : Nat) (z : Int) : Prop := z = 168 + (e : Int) ∨ ∃ l : Nat, z = 144 + (l : Int) ∧ l < t ∧ d (M (120 + (l : Int))).toNat = L
theorem fup_tl {S : St} {M M' : Int → Int} {nk ln L : Nat} {d : Nat → Nat} {pa pb ta tb e x p b : Nat} {z : Int} (h : PG S M nk ln d b ta tb p) (hL : L ≤ d p) (hf : FUP M M' e x z) (hz : zOK M d e L x z) (he : e < 6 + pa) (hpa : pa ≤ p) (hp : p < 24) (hx : tb ≤ x) (h24 : x < 24) (s : M (24 + (p : Int)) = 7) : ∀ t : Nat, (t : Int) < M (198 + ((6 + p : Nat) : Int)) → M' (120 + tlM M (6 + p) t) = M (120 + tlM M (6 + p) t) ∧ M' (144 + tlM M (6 + p) t) = M (144 + tlM M (6 + p) t) := fun t ht => by
  have ex := (h.2.2.2.2.1 s).2.2.1
  obtain ⟨c1, c2, c3, c4⟩ := ex.2.1 t ht
  have nz : 144 + tlM M (6 + p) t ≠ z := fun w => by
    rcases hz with hz | ⟨l, z1, z2, z3⟩
    · omega
    · have e1 : tlM M (6 + p) t = (l : Int) := by omega
      have e2 : fpM M (6 + p) t = M (120 + (l : Int)) := by unfold fpM; rw [e1]
      rw [e2, z3] at c3
      omega
  have nz2 : 120 + tlM M (6 + p) t ≠ z := fun w => by
    rcases hz with hz | ⟨l, z1, z2, z3⟩ <;> omega
  exact ⟨hf _ (by omega) (by omega) nz2 (by omega), hf _ (by omega) (by omega) nz (by omega)⟩
theorem REG.fup {S : St} {M M' : Int → Int} {nk ln L : Nat} {d : Nat → Nat} {pa pb ta tb e x p0 : Nat} {z : Int} (h : REG S M nk ln d pa pb ta tb) (hL : ∀ p, pa ≤ p → p < pb → L ≤ d p) (hf : FUP M M' e x z) (hz : zOK M d e L x z) (he : e < 6 + p0) (hpa : p0 ≤ pa) (hp : pb ≤ 24) (hx : tb ≤ x) (h24 : x < 24) : REG S M' nk ln d pa pb ta tb := fun p a b => by
  have hp0 := h p a b
  have zz : ∀ k : Int, k < 120 ∨ (168 ≤ k ∧ k < 228 ∧ k ≠ 168 + (e : Int)) → k ≠ z := fun k hk w => by
    rcases hz with hz | ⟨l, z1, z2, z3⟩ <;> omega
  have m24 := hf (24 + (p : Int)) (by omega) (by omega) (zz _ (by omega)) (by omega)
  have m48 := hf (48 + (p : Int)) (by omega) (by omega) (zz _ (by omega)) (by omega)
  have m72 := hf (72 + (p : Int)) (by omega) (by omega) (zz _ (by omega)) (by omega)
  have m96 := hf (96 + (p : Int)) (by omega) (by omega) (zz _ (by omega)) (by omega)
  have m198 := hf (198 + ((6 + p : Nat) : Int)) (by omega) (by omega) (zz _ (by omega)) (by omega)
  have m168 := hf (168 + ((6 + p : Nat) : Int)) (by omega) (by omega) (zz _ (by omega)) (by omega)
  have tl := fup_tl (pa := p0) (pb := pb) hp0 (hL p a b) hf hz he (by omega) (by omega) hx h24
  obtain ⟨a1, b1, c, e1, f, g, i⟩ := hp0
  unfold PG isQ
  rw [m24, m48, m72, m96, m198]
  refine ⟨a1, b1, c, e1, fun s => ?_, fun s => ?_, i⟩
  · obtain ⟨f1, f2, f3, f4⟩ := f s
    exact ⟨f1, f2, f3.cgp m168 m198 (tl s), f4⟩
  · obtain ⟨g1, g2, g3, g4, g5, g6⟩ := g s
    exact ⟨g1, g2, g3, by rw [hf _ (by omega) (by omega) (zz _ (by omega)) (by omega)]; exact g4, g5, g6⟩
theorem stp_fup {S : St} {M M' : Int → Int} {nk ln L : Nat} {d : Nat → Nat} {ta tb e x p p0 b q : Nat} {z : Int} (h : PG S M nk ln d b ta tb p) (hL : L ≤ d p) (hf : FUP M M' e x z) (hz : zOK M d e L x z) (he : e < 6 + p0) (hpa : p0 ≤ p) (hp : p < 24) (hx : tb ≤ x) (h24 : x < 24) (hs : stp M p q) : stp M' p q := by
  have zz : ∀ k : Int, k < 120 ∨ (168 ≤ k ∧ k < 228 ∧ k ≠ 168 + (e : Int)) → k ≠ z := fun k hk w => by
    rcases hz with hz | ⟨l, z1, z2, z3⟩ <;> omega
  have m24 := hf (24 + (p : Int)) (by omega) (by omega) (zz _ (by omega)) (by omega)
  have m72 := hf (72 + (p : Int)) (by omega) (by omega) (zz _ (by omega)) (by omega)
  have m96 := hf (96 + (p : Int)) (by omega) (by omega) (zz _ (by omega)) (by omega)
  have m198 := hf (198 + ((6 + p : Nat) : Int)) (by omega) (by omega) (zz _ (by omega)) (by omega)
  have m168 := hf (168 + ((6 + p : Nat) : Int)) (by omega) (by omega) (zz _ (by omega)) (by omega)
  have tl := fup_tl (pa := p0) (pb := b) h hL hf hz he (by omega) (by omega) hx h24
  unfold stp
  rw [m24, m72, m96, m198]
  rcases hs with e | e | ⟨e, t, t2, t3⟩
  · exact Or.inl e
  · exact Or.inr (Or.inl e)
  · obtain ⟨-, fp⟩ := tlM_cgp (m := (M (198 + ((6 + p : Nat) : Int))).toNat) m168 (fun t h => tl e t (by omega))
    exact Or.inr (Or.inr ⟨e, t, t2, by rw [fp t (by omega)]; exact t3⟩)
def EXm (S : St) (M : Int → Int) (d : Nat → Nat) (lo b t0 t1 e L m : Nat) : Prop := (M (198 + (e : Int)) = (m : Int) ∧ S 19 (e : Int) = (m : Int)) ∧ (∀ t : Nat, t < m → ((t0 : Int) ≤ tlM M e t ∧ tlM M e t < (t1 : Int)) ∧ ((lo : Int) ≤ fpM M e t ∧ fpM M e t < (b : Int)) ∧ d (fpM M e t).toNat = L ∧ S 20 ((e : Int) * 10 + (t : Int)) = fpM M e t) ∧ (0 < m → tlM M e m = -1)
theorem EXm.low {S S' : St} {M M' : Int → Int} {d d' : Nat → Nat} {P T x lo b t0 t1 e L m : Nat} (h : EXm S M d lo b t0 t1 e L m) (k : LOW S S' M M' P T x) (hT : t1 ≤ T) (he : e < 6 + P) (hx : e ≠ x) (hd : ∀ q, lo ≤ q → q < b → d' q = d q) (hm : m ≤ 10) : EXm S' M' d' lo b t0 t1 e L m := by
  obtain ⟨⟨a1, a3⟩, a4, a5⟩ := h
  obtain ⟨k1, k2, k3, k4⟩ := k.2.1 e he hx
  have tl := tl_low (t1 := t1) (m := m) k hT he hx (fun t ht => by have := (a4 t ht).1; omega)
  have fp : ∀ t : Nat, t < m → fpM M' e t = fpM M e t := fun t ht => by
    have b := (a4 t ht).1
    show M' (120 + tlM M' e t) = M (120 + tlM M e t)
    rw [tl t (by omega)]
    have := (k.2.2 (tlM M e t).toNat (by omega)).1
    rw [show (((tlM M e t).toNat : Nat) : Int) = tlM M e t by omega] at this
    exact this
  refine ⟨⟨by rw [k4]; exact a1, by rw [k1]; exact a3⟩, fun t ht => ?_, fun w => by rw [tl _ (Nat.le_refl _)]; exact a5 w⟩
  obtain ⟨c1, c2, c3, c4⟩ := a4 t ht
  rw [fp t ht, tl t (by omega), k2 t (by omega)]
  exact ⟨c1, c2, by rw [hd _ (by omega) (by omega)]; exact c3, c4⟩
theorem LOW.adv {S S' : St} {M M' : Int → Int} {P T x : Nat} (s4 : kept [] [(12, 6), (12, 7), (12, 8), (12, 9)] S S') (hM : M' = M) : LOW S S' M M' P T x := by
  have cc : ∀ i, 14 ≤ i → i ≤ 20 → S' i = S i := fun i a b => s4.cell i (by simp) (by simp; omega)
  subst hM
  exact ⟨fun p _ => ⟨⟨by rw [cc 14 (by decide) (by decide)], by rw [cc 15 (by decide) (by decide)], by rw [cc 16 (by decide) (by decide)], by rw [cc 17 (by decide) (by decide)], by rw [cc 18 (by decide) (by decide)]⟩, rfl, rfl, rfl, rfl⟩, fun e _ _ => ⟨by rw [cc 19 (by decide) (by decide)], fun j _ => by rw [cc 20 (by decide) (by decide)], rfl, rfl⟩, fun _ _ => ⟨rfl, rfl⟩⟩
theorem levE {S : St} {M : Int → Int} {nk ln L e m : Nat} {d : Nat → Nat} {p0 p1 t0 t1 : Nat} (h : REG S M nk ln d p0 p1 t0 t1) (c : COVE M e p0 p1 m) (h0 : ∀ t, t < m → d (fpM M e t).toNat = L) : ∀ q, p0 ≤ q → q < p1 → L ≤ d q := by
  intro q
  induction q using Nat.strongRecOn with
  | ind q ih =>
    intro a b
    rcases c q a b with ⟨t, x1, x2⟩ | ⟨p, x1, x2, x3⟩
    · have := h0 t x1
      rw [← x2, show ((q : Int)).toNat = q from rfl] at this
      omega
    · have i := ih p x2 x1 (by omega)
      obtain ⟨-, -, g1, -, g2, g3, -⟩ := h p x1 (by omega)
      rcases x3 with x3 | ⟨x3, x4⟩ | ⟨x3, t, x4, x5⟩
      · rcases g1 with g1 | g1
        · omega
        · have := g1.2.2
          rw [← x3, show ((q : Int)).toNat = q from rfl] at this
          omega
      · have := (g3 x3).2.2.2.2.1
        rw [← x4, show ((q : Int)).toNat = q from rfl] at this
        omega
      · have := ((g2 x3).2.2.1.2.1 t x4).2.2.1
        rw [← x5, show ((q : Int)).toNat = q from rfl] at this
        omega
def okX (S T S' T' : St) (u : Int → Int) (n nk ln L e p0 p t0 t : Nat) (d : Nat → Nat) : Prop := ∃ (a' p1 t1 m' : Nat) (d' : Nat → Nat), RR S' T' u n a' ∧ FR S' (T' 84) p1 t1 ∧ (p < p1 ∧ t ≤ t1 ∧ t1 + p ≤ t + p1) ∧ LOW S S' (T 84) (T' 84) p0 t0 e ∧ (∀ q, q < p → d' q = d q) ∧ EXm S' (T' 84) d' p0 p1 t0 t1 e L m' ∧ (0 < m' ∧ m' ≤ 10) ∧ REG S' (T' 84) nk ln d' p0 p1 t0 t1 ∧ COVE (T' 84) e p0 p1 m'
/-- the rows behind one more term -/
theorem EXm.more {S S' : St} {M M' : Int → Int} {d d' : Nat → Nat} {p0 p p' t0 t t' e L m x : Nat} (h : EXm S M d p0 p t0 t e L m) (hm : m ≤ 9) (hx : t ≤ x ∧ x < t') (hp : p0 ≤ p ∧ p < p') (h0 : t0 ≤ t) (hd : ∀ q, q < p → d' q = d q) (dp : d' p = L) (m198 : M' (198 + (e : Int)) = (m : Int) + 1) (m168 : M' (168 + (e : Int)) = if m = 0 then (x : Int) else M (168 + (e : Int))) (m144 : 0 < m → M' (144 + tlM M e (m - 1)) = (x : Int)) (mo : ∀ s : Nat, s < t → M' (120 + (s : Int)) = M (120 + (s : Int)) ∧ ((s : Int) ≠ tlM M e (m - 1) → M' (144 + (s : Int)) = M (144 + (s : Int)))) (mx : M' (120 + (x : Int)) = (p : Int) ∧ M' (144 + (x : Int)) = -1) (s19 : S' 19 (e : Int) = (m : Int) + 1) (s20 : ∀ j : Nat, j < m → S' 20 ((e : Int) * 10 + (j : Int)) = S 20 ((e : Int) * 10 + (j : Int))) (s20' : S' 20 ((e : Int) * 10 + (m : Int)) = (p : Int)) : EXm S' M' d' p0 p' t0 t' e L (m + 1) ∧ (∀ j, j < m → fpM M' e j = fpM M e j) ∧ fpM M' e m = (p : Int) ∧ tlM M' e m = (x : Int) := by
  obtain ⟨⟨a1, a3⟩, a4, a5⟩ := h
  have tl : ∀ j, j < m → tlM M' e j = tlM M e j := by
    intro j
    induction j with
    | zero =>
      intro hj
      show M' (168 + (e : Int)) = M (168 + (e : Int))
      rw [m168, if_neg (by omega)]
    | succ j ih =>
      intro hj
      have b := (a4 j (by omega)).1
      show M' (144 + tlM M' e j) = M (144 + tlM M e j)
      rw [ih (by omega)]
      have := (mo (tlM M e j).toNat (by omega)).2 (fun w => by
        rw [show (((tlM M e j).toNat : Nat) : Int) = tlM M e j by omega] at w
        have a6 := a5 (by omega)
        have e1 : tlM M e m = M (144 + tlM M e (m - 1)) := by
          obtain ⟨m1, rfl⟩ : ∃ q, m = q + 1 := ⟨m - 1, by omega⟩
          rfl
        have b2 := (a4 (j + 1) hj).1
        have e2 : tlM M e (j + 1) = M (144 + tlM M e j) := rfl
        rw [e2, w, ← e1, a6] at b2
        omega)
      rw [show (((tlM M e j).toNat : Nat) : Int) = tlM M e j by omega] at this
      exact this
  have tm : tlM M' e m = (x : Int) := by
    by_cases c : m = 0
    · subst c
      show M' (168 + (e : Int)) = _
      rw [m168, if_pos rfl]
    · obtain ⟨m1, rfl⟩ : ∃ q, m = q + 1 := ⟨m - 1, by omega⟩
      show M' (144 + tlM M' e m1) = _
      rw [tl m1 (by omega)]
      exact m144 (by omega)
  have fp : ∀ j, j < m → fpM M' e j = fpM M e j := fun j hj => by
    have b := (a4 j hj).1
    show M' (120 + tlM M' e j) = M (120 + tlM M e j)
    rw [tl j hj]
    have := (mo (tlM M e j).toNat (by omega)).1
    rw [show (((tlM M e j).toNat : Nat) : Int) = tlM M e j by omega] at this
    exact this
  have fm : fpM M' e m = (p : Int) := by
    show M' (120 + tlM M' e m) = _
    rw [tm]; exact mx.1
  refine ⟨⟨⟨by rw [m198]; omega, by rw [s19]; omega⟩, fun j hj => ?_, fun _ => ?_⟩, fp, fm, tm⟩
  · by_cases c : j = m
    · subst c
      rw [fm, tm, s20', show ((p : Int)).toNat = p from rfl]
      exact ⟨by omega, by omega, dp, rfl⟩
    · obtain ⟨c1, c2, c3, c4⟩ := a4 j (by omega)
      rw [fp j (by omega), tl j (by omega), s20 j (by omega)]
      exact ⟨by omega, by omega, by rw [hd _ (by omega)]; exact c3, c4⟩
  · show M' (144 + tlM M' e m) = -1
    rw [tm]; exact mx.2
