/-! what has been read: regions of parts -/
def EX (S : St) (M : Int → Int) (d : Nat → Nat) (lo b t0 t1 e L : Nat) : Prop := (1 ≤ M (198 + (e : Int)) ∧ M (198 + (e : Int)) ≤ 10 ∧ S 19 (e : Int) = M (198 + (e : Int))) ∧ (∀ t : Nat, (t : Int) < M (198 + (e : Int)) → ((t0 : Int) ≤ tlM M e t ∧ tlM M e t < (t1 : Int)) ∧ ((lo : Int) ≤ fpM M e t ∧ fpM M e t < (b : Int)) ∧ d (fpM M e t).toNat = L ∧ S 20 ((e : Int) * 10 + (t : Int)) = fpM M e t) ∧ tlM M e (M (198 + (e : Int))).toNat = -1
def isQ (M : Int → Int) (p : Nat) : Prop := 3 ≤ M (24 + (p : Int)) ∧ M (24 + (p : Int)) ≤ 6
def PG (S : St) (M : Int → Int) (nk ln : Nat) (d : Nat → Nat) (b t0 t1 p : Nat) : Prop :=
  (S 14 (p : Int) = M (24 + (p : Int)) ∧ S 17 (p : Int) = M (96 + (p : Int)) ∧ S 18 (p : Int) = (ln : Int) ∧ S 19 ((6 + p : Nat) : Int) = M (198 + ((6 + p : Nat) : Int)) ∧ d p ≤ 6) ∧
  (0 ≤ M (24 + (p : Int)) ∧ M (24 + (p : Int)) ≤ 7) ∧
  (M (96 + (p : Int)) = -1 ∨ ((p : Int) < M (96 + (p : Int)) ∧ M (96 + (p : Int)) < (b : Int) ∧ d (M (96 + (p : Int))).toNat = d p)) ∧
  ((M (24 + (p : Int)) = 0 → 0 ≤ M (48 + (p : Int)) ∧ M (48 + (p : Int)) ≤ 25) ∧ (M (24 + (p : Int)) = 2 → 0 ≤ M (48 + (p : Int)) ∧ M (48 + (p : Int)) < (nk : Int)) ∧ (M (24 + (p : Int)) ≠ 7 → S 15 (p : Int) = M (48 + (p : Int)) ∧ M (198 + ((6 + p : Nat) : Int)) = 0)) ∧
  (M (24 + (p : Int)) = 7 → S 15 (p : Int) = 0 ∧ M (48 + (p : Int)) = 6 + (p : Int) ∧ EX S M d (p + 1) b t0 t1 (6 + p) (d p + 1) ∧ d p ≤ 5) ∧
  (isQ M p → (0 ≤ M (48 + (p : Int)) ∧ M (48 + (p : Int)) ≤ 7) ∧ ((p : Int) < M (72 + (p : Int)) ∧ M (72 + (p : Int)) < (b : Int)) ∧ S 16 (p : Int) = M (72 + (p : Int)) ∧ M (96 + M (72 + (p : Int))) = -1 ∧ d (M (72 + (p : Int))).toNat = d p + 1 ∧ d p ≤ 5) ∧
  (¬ isQ M p → S 16 (p : Int) = -1)
def REG (S : St) (M : Int → Int) (nk ln : Nat) (d : Nat → Nat) (p0 p1 t0 t1 : Nat) : Prop := ∀ p : Nat, p0 ≤ p → p < p1 → PG S M nk ln d p1 t0 t1 p
/-- what was there stays, but for the rows of one expression -/
def LOW (S S' : St) (M M' : Int → Int) (P T x : Nat) : Prop :=
  (∀ p : Nat, p < P → (S' 14 (p : Int) = S 14 (p : Int) ∧ S' 15 (p : Int) = S 15 (p : Int) ∧ S' 16 (p : Int) = S 16 (p : Int) ∧ S' 17 (p : Int) = S 17 (p : Int) ∧ S' 18 (p : Int) = S 18 (p : Int)) ∧ M' (24 + (p : Int)) = M (24 + (p : Int)) ∧ M' (48 + (p : Int)) = M (48 + (p : Int)) ∧ M' (72 + (p : Int)) = M (72 + (p : Int)) ∧ M' (96 + (p : Int)) = M (96 + (p : Int))) ∧
  (∀ e : Nat, e < 6 + P → e ≠ x → S' 19 (e : Int) = S 19 (e : Int) ∧ (∀ j : Nat, j < 10 → S' 20 ((e : Int) * 10 + (j : Int)) = S 20 ((e : Int) * 10 + (j : Int))) ∧ M' (168 + (e : Int)) = M (168 + (e : Int)) ∧ M' (198 + (e : Int)) = M (198 + (e : Int))) ∧
  (∀ t : Nat, t < T → M' (120 + (t : Int)) = M (120 + (t : Int)) ∧ M' (144 + (t : Int)) = M (144 + (t : Int)))
theorem LOW.rf {S : St} {M : Int → Int} {P T x : Nat} : LOW S S M M P T x := ⟨fun _ _ => ⟨⟨rfl, rfl, rfl, rfl, rfl⟩, rfl, rfl, rfl, rfl⟩, fun _ _ _ => ⟨rfl, fun _ _ => rfl, rfl, rfl⟩, fun _ _ => ⟨rfl, rfl⟩⟩
theorem LOW.trans {S S' S'' : St} {M M' M'' : Int → Int} {P T P' T' x y : Nat} (h : LOW S S' M M' P T x) (k : LOW S' S'' M' M'' P' T' y) (hP : P ≤ P') (hT : T ≤ T') (hy : y = x ∨ 6 + P ≤ y) : LOW S S'' M M'' P T x := by
  refine ⟨fun p hp => ?_, fun e he hx => ?_, fun t ht => ?_⟩
  · obtain ⟨⟨a1, a2, a3, a4, a5⟩, a6, a7, a8, a9⟩ := h.1 p hp
    obtain ⟨⟨b1, b2, b3, b4, b5⟩, b6, b7, b8, b9⟩ := k.1 p (by omega)
    exact ⟨⟨b1.trans a1, b2.trans a2, b3.trans a3, b4.trans a4, b5.trans a5⟩, b6.trans a6, b7.trans a7, b8.trans a8, b9.trans a9⟩
  · obtain ⟨a1, a2, a3, a4⟩ := h.2.1 e he hx
    obtain ⟨b1, b2, b3, b4⟩ := k.2.1 e (by omega) (by omega)
    exact ⟨b1.trans a1, fun j hj => (b2 j hj).trans (a2 j hj), b3.trans a3, b4.trans a4⟩
  · obtain ⟨a1, a2⟩ := h.2.2 t ht
    obtain ⟨b1, b2⟩ := k.2.2 t (by omega)
    exact ⟨b1.trans a1, b2.trans a2⟩
theorem LOW.mono {S S' : St} {M M' : Int → Int} {P T P' T' x y : Nat} (h : LOW S S' M M' P T x) (hP : P' ≤ P) (hT : T' ≤ T) (hy : x = y ∨ 6 + P' ≤ x) : LOW S S' M M' P' T' y :=
  ⟨fun p hp => h.1 p (by omega), fun e he hx => h.2.1 e (by omega) (by omega), fun t ht => h.2.2 t (by omega)⟩
theorem tl_low {S S' : St} {M M' : Int → Int} {P T x e t1 m : Nat} (h : LOW S S' M M' P T x) (hT : t1 ≤ T) (he : e < 6 + P) (hx : e ≠ x) (hb : ∀ t : Nat, t < m → 0 ≤ tlM M e t ∧ tlM M e t < (t1 : Int)) : ∀ t, t ≤ m → tlM M' e t = tlM M e t := by
  intro t
  induction t with
  | zero => intro _; exact (h.2.1 e he hx).2.2.1
  | succ t ih =>
    intro ht
    have b := hb t (by omega)
    show M' (144 + tlM M' e t) = M (144 + tlM M e t)
    rw [ih (by omega)]
    have := (h.2.2 (tlM M e t).toNat (by omega)).2
    rw [show (((tlM M e t).toNat : Nat) : Int) = tlM M e t by omega] at this
    exact this
theorem EX.low {S S' : St} {M M' : Int → Int} {d d' : Nat → Nat} {P T x lo b t0 t1 e L : Nat} (h : EX S M d lo b t0 t1 e L) (k : LOW S S' M M' P T x) (hT : t1 ≤ T) (he : e < 6 + P) (hx : e ≠ x) (hd : ∀ q, lo ≤ q → q < b → d' q = d q) : EX S' M' d' lo b t0 t1 e L := by
  obtain ⟨⟨a1, a2, a3⟩, a4, a5⟩ := h
  obtain ⟨k1, k2, k3, k4⟩ := k.2.1 e he hx
  have tl := tl_low (t1 := t1) (m := (M (198 + (e : Int))).toNat) k hT he hx (fun t ht => by have := (a4 t (by omega)).1; omega)
  have fp : ∀ t : Nat, (t : Int) < M (198 + (e : Int)) → fpM M' e t = fpM M e t := fun t ht => by
    have b := (a4 t ht).1
    show M' (120 + tlM M' e t) = M (120 + tlM M e t)
    rw [tl t (by omega)]
    have := (k.2.2 (tlM M e t).toNat (by omega)).1
    rw [show (((tlM M e t).toNat : Nat) : Int) = tlM M e t by omega] at this
    exact this
  unfold EX
  rw [k4, k1]
  refine ⟨⟨a1, a2, a3⟩, fun t ht => ?_, ?_⟩
  · obtain ⟨c1, c2, c3, c4⟩ := a4 t ht
    rw [fp t ht, tl t (by omega), k2 t (by omega)]
    exact ⟨c1, c2, by rw [hd _ (by omega) (by omega)]; exact c3, c4⟩
  · rw [tl _ (Nat.le_refl _)]; exact a5
theorem EX.mono {S : St} {M : Int → Int} {d : Nat → Nat} {lo b t0 t1 b' t0' t1' e L : Nat} (h : EX S M d lo b t0 t1 e L) (hb : b ≤ b') (h0 : t0' ≤ t0) (h1 : t1 ≤ t1') : EX S M d lo b' t0' t1' e L := by
  refine ⟨h.1, fun t ht => ?_, h.2.2⟩
  obtain ⟨c1, c2, c3, c4⟩ := h.2.1 t ht
  exact ⟨by omega, by omega, c3, c4⟩
theorem PG.mono {S : St} {M : Int → Int} {nk ln : Nat} {d : Nat → Nat} {b t0 t1 b' t0' t1' p : Nat} (h : PG S M nk ln d b t0 t1 p) (hb : b ≤ b') (h0 : t0' ≤ t0) (h1 : t1 ≤ t1') : PG S M nk ln d b' t0' t1' p := by
  obtain ⟨a, b1, c, e, f, g, i⟩ := h
  refine ⟨a, b1, ?_, e, fun s => ?_, fun s => ?_, i⟩
  · rcases c with c | c
    · exact Or.inl c
    · exact Or.inr ⟨c.1, by omega, c.2.2⟩
  · obtain ⟨f1, f2, f3, f4⟩ := f s
    exact ⟨f1, f2, f3.mono hb h0 h1, f4⟩
  · obtain ⟨g1, g2, g3⟩ := g s
    exact ⟨g1, by omega, g3⟩
theorem PG.low {S S' : St} {M M' : Int → Int} {nk ln : Nat} {d d' : Nat → Nat} {P T x b t0 t1 p : Nat} (h : PG S M nk ln d b t0 t1 p) (k : LOW S S' M M' P T x) (hT : t1 ≤ T) (hp : p < P) (hb : b ≤ P) (hx : 6 + p ≠ x) (hd : ∀ q, p ≤ q → q < P → d' q = d q) : PG S' M' nk ln d' b t0 t1 p := by
  obtain ⟨⟨a1, a2, a3, a4, a5⟩, b1, c, e, f, g, i⟩ := h
  obtain ⟨⟨k1, k2, k3, k4, k5⟩, k6, k7, k8, k9⟩ := k.1 p hp
  obtain ⟨m1, m2, m3, m4⟩ := k.2.1 (6 + p) (by omega) hx
  have dp := hd p (Nat.le_refl _) hp
  unfold PG isQ
  rw [k1, k2, k3, k4, k5, k6, k7, k8, k9, m1, m4, dp]
  refine ⟨⟨a1, a2, a3, a4, a5⟩, b1, ?_, e, fun s => ?_, fun s => ?_, i⟩
  · rcases c with c | c
    · exact Or.inl c
    · exact Or.inr ⟨c.1, c.2.1, by rw [hd _ (by omega) (by omega)]; exact c.2.2⟩
  · obtain ⟨f1, f2, f3, f4⟩ := f s
    exact ⟨f1, f2, f3.low k hT (by omega) hx (fun q x y => hd q (by omega) (by omega)), f4⟩
  · obtain ⟨g1, g2, g3, g4, g5, g6⟩ := g s
    refine ⟨g1, g2, g3, ?_, by rw [hd _ (by omega) (by omega)]; exact g5, g6⟩
    have := (k.1 (M (72 + (p : Int))).toNat (by omega)).2.2.2.2
    rw [show (((M (72 + (p : Int))).toNat : Nat) : Int) = M (72 + (p : Int)) by omega] at this
    rw [this]; exact g4
theorem REG.low {S S' : St} {M M' : Int → Int} {nk ln : Nat} {d d' : Nat → Nat} {P T x p0 p1 t0 t1 : Nat} (h : REG S M nk ln d p0 p1 t0 t1) (k : LOW S S' M M' P T x) (hT : t1 ≤ T) (hp : p1 ≤ P) (hx : x < 6 + p0 ∨ 6 + p1 ≤ x) (hd : ∀ q, p0 ≤ q → q < P → d' q = d q) : REG S' M' nk ln d' p0 p1 t0 t1 :=
  fun p a b => (h p a b).low k hT (by omega) hp (by omega) (fun q x y => hd q (by omega) y)
theorem REG.join {S : St} {M : Int → Int} {nk ln : Nat} {d : Nat → Nat} {p0 p1 p2 t0 t1 t2 t3 : Nat} (h : REG S M nk ln d p0 p1 t0 t1) (k : REG S M nk ln d p1 p2 t2 t3) (hp : p1 ≤ p2) (h1 : t0 ≤ t2) (h2 : t1 ≤ t3) : REG S M nk ln d p0 p2 t0 t3 := fun p a b => by
  by_cases c : p < p1
  · exact (h p a c).mono hp (Nat.le_refl _) h2
  · exact (k p (by omega) b).mono (Nat.le_refl _) h1 (Nat.le_refl _)
/-- each part but the first is met from one before it -/
def COV (M : Int → Int) (p0 p1 : Nat) : Prop := ∀ q : Nat, p0 < q → q < p1 → ∃ p : Nat, p0 ≤ p ∧ p < q ∧ stp M p q
def COVE (M : Int → Int) (e p0 p1 m : Nat) : Prop := ∀ q : Nat, p0 ≤ q → q < p1 → (∃ t : Nat, t < m ∧ (q : Int) = fpM M e t) ∨ ∃ p : Nat, p0 ≤ p ∧ p < q ∧ stp M p q
theorem stp_low {S S' : St} {M M' : Int → Int} {nk ln : Nat} {d : Nat → Nat} {P T x b t0 t1 p q : Nat} (h : PG S M nk ln d b t0 t1 p) (k : LOW S S' M M' P T x) (hT : t1 ≤ T) (hp : p < P) (hx : 6 + p ≠ x) (hs : stp M p q) : stp M' p q := by
  obtain ⟨⟨k1, k2, k3, k4, k5⟩, k6, k7, k8, k9⟩ := k.1 p hp
  unfold stp
  rw [k6, k8, k9]
  rcases hs with e | e | ⟨e, t, t2, t3⟩
  · exact Or.inl e
  · exact Or.inr (Or.inl e)
  · refine Or.inr (Or.inr ⟨e, t, ?_, ?_⟩)
    · rw [(k.2.1 (6 + p) (by omega) hx).2.2.2]; exact t2
    · have ex := (h.2.2.2.2.1 e).2.2.1
      have tl := tl_low (t1 := t1) (m := (M (198 + ((6 + p : Nat) : Int))).toNat) k hT (by omega) hx (fun t ht => by have := (ex.2.1 t (by omega)).1; omega)
      have c := (ex.2.1 t t2).1
      show (q : Int) = M' (120 + tlM M' (6 + p) t)
      rw [tl t (by omega)]
      have := (k.2.2 (tlM M (6 + p) t).toNat (by omega)).1
      rw [show (((tlM M (6 + p) t).toNat : Nat) : Int) = tlM M (6 + p) t by omega] at this
      rw [this]; exact t3
theorem COV.low {S S' : St} {M M' : Int → Int} {nk ln : Nat} {d : Nat → Nat} {P T x p0 p1 t0 t1 : Nat} (c : COV M p0 p1) (h : REG S M nk ln d p0 p1 t0 t1) (k : LOW S S' M M' P T x) (hT : t1 ≤ T) (hp : p1 ≤ P) (hx : x < 6 + p0 ∨ 6 + p1 ≤ x) : COV M' p0 p1 := fun q a b => by
  obtain ⟨p, x1, x2, x3⟩ := c q a b
  exact ⟨p, x1, x2, stp_low (h p x1 (by omega)) k hT (by omega) (by omega) x3⟩
/-- what is still to be read is blank -/
def FR (S : St) (M : Int → Int) (p t : Nat) : Prop := (S 13 3 = (p : Int) ∧ M 2 = (p : Int) ∧ M 5 = (t : Int) ∧ t ≤ p ∧ p ≤ 24) ∧ (∀ q : Nat, p ≤ q → q < 24 → M (48 + (q : Int)) = 0 ∧ M (96 + (q : Int)) = -1 ∧ S 19 ((6 + q : Nat) : Int) = 0 ∧ M (198 + ((6 + q : Nat) : Int)) = 0) ∧ (∀ t' : Nat, t ≤ t' → t' < 24 → M (144 + (t' : Int)) = -1)
def KS (S S' : St) : Prop := kept [14, 15, 16, 17, 18, 19, 20] [(12, 1), (12, 2), (12, 6), (12, 7), (12, 8), (12, 9), (13, 3)] S S'
def KT (T T' : St) : Prop := kept [84] [(83, 4), (83, 5), (83, 6), (83, 7), (83, 8), (83, 9), (83, 10)] T T' ∧ ∀ k : Int, (0 ≤ k ∨ k < 0) → (k < 24 ∨ 228 ≤ k) → k ≠ 2 → k ≠ 5 → T' 84 k = T 84 k
theorem KS.rf {S : St} : KS S S := kept.rf
theorem KT.rf {T : St} : KT T T := ⟨kept.rf, fun _ _ _ _ _ => rfl⟩
theorem KS.trans {S S' S'' : St} (a : KS S S') (b : KS S' S'') : KS S S'' := kept.trans a b
theorem KT.trans {T T' T'' : St} (a : KT T T') (b : KT T' T'') : KT T T'' := ⟨kept.trans a.1 b.1, fun k x y z w => (b.2 k x y z w).trans (a.2 k x y z w)⟩
theorem KS.adv {S S' : St} (k : kept [] [(12, 6), (12, 7), (12, 8), (12, 9)] S S') : KS S S' := k.mono (by simp) (by simp)
theorem KT.adv {T T' : St} (k : kept [] [(83, 6), (83, 7), (83, 8), (83, 9)] T T') : KT T T' := ⟨k.mono (by simp) (by simp), fun q _ _ _ _ => congrFun (k.cell 84 (by simp) (by simp)) q⟩
theorem NM.of {S T S' T' : St} {u : Int → Int} {n nk : Nat} (h : NM S T u n nk) (a : KS S S') (b : KT T T') : NM S' T' u n nk := by
  unfold NM at h ⊢
  rw [a 13 1 (by decide) (by decide), a.cell 24 (by decide) (by decide), a.cell 25 (by decide) (by decide), b.2 0 (by decide) (by decide) (by decide) (by decide), b.1.cell 87 (by decide) (by decide), b.1.cell 88 (by decide) (by decide)]
  exact h
