/-! parts that hold nothing; what stays above -/
theorem up_if {S : St} {i : Nat} {a v k : Int} : up S i a v i k = if k = a then v else S i k := by
  by_cases h : k = a
  · rw [h, up_eq, if_pos rfl]
  · rw [up_nk h, if_neg h]
/-- from a part on nothing changes -/
def HI (S S' : St) (M M' : Int → Int) (p0 t0 t1 : Nat) : Prop :=
  ((∀ k : Int, (p0 : Int) ≤ k → S' 14 k = S 14 k ∧ S' 15 k = S 15 k ∧ S' 16 k = S 16 k ∧ S' 17 k = S 17 k ∧ S' 18 k = S 18 k) ∧ (∀ e : Int, 6 + (p0 : Int) ≤ e → S' 19 e = S 19 e) ∧ (∀ k : Int, (6 + (p0 : Int)) * 10 ≤ k → S' 20 k = S 20 k)) ∧
  (∀ p : Nat, p0 ≤ p → p < 24 → M' (24 + (p : Int)) = M (24 + (p : Int)) ∧ M' (48 + (p : Int)) = M (48 + (p : Int)) ∧ M' (72 + (p : Int)) = M (72 + (p : Int)) ∧ M' (96 + (p : Int)) = M (96 + (p : Int))) ∧
  (∀ e : Nat, 6 + p0 ≤ e → e < 30 → M' (168 + (e : Int)) = M (168 + (e : Int)) ∧ M' (198 + (e : Int)) = M (198 + (e : Int))) ∧
  (∀ t : Nat, t0 ≤ t → t < t1 → M' (120 + (t : Int)) = M (120 + (t : Int)) ∧ M' (144 + (t : Int)) = M (144 + (t : Int)))
theorem tlM_cg {M M' : Int → Int} {e t0 t1 m : Nat} (h0 : M' (168 + (e : Int)) = M (168 + (e : Int))) (ht : ∀ t : Nat, t0 ≤ t → t < t1 → M' (120 + (t : Int)) = M (120 + (t : Int)) ∧ M' (144 + (t : Int)) = M (144 + (t : Int))) (hb : ∀ t : Nat, t < m → (t0 : Int) ≤ tlM M e t ∧ tlM M e t < (t1 : Int)) : (∀ t, t ≤ m → tlM M' e t = tlM M e t) ∧ (∀ t, t < m → fpM M' e t = fpM M e t) := by
  have a : ∀ t, t ≤ m → tlM M' e t = tlM M e t := by
    intro t
    induction t with
    | zero => intro _; exact h0
    | succ t ih =>
      intro h
      have b := hb t (by omega)
      show M' (144 + tlM M' e t) = M (144 + tlM M e t)
      rw [ih (by omega)]
      have := (ht (tlM M e t).toNat (by omega) (by omega)).2
      rw [show (((tlM M e t).toNat : Nat) : Int) = tlM M e t by omega] at this
      exact this
  refine ⟨a, fun t h => ?_⟩
  have b := hb t h
  show M' (120 + tlM M' e t) = M (120 + tlM M e t)
  rw [a t (by omega)]
  have := (ht (tlM M e t).toNat (by omega) (by omega)).1
  rw [show (((tlM M e t).toNat : Nat) : Int) = tlM M e t by omega] at this
  exact this
theorem EX.cg {S S' : St} {M M' : Int → Int} {d d' : Nat → Nat} {lo b t0 t1 e L : Nat} (h : EX S M d lo b t0 t1 e L) (h19 : S' 19 (e : Int) = S 19 (e : Int)) (h20 : ∀ j : Nat, j < 10 → S' 20 ((e : Int) * 10 + (j : Int)) = S 20 ((e : Int) * 10 + (j : Int))) (m1 : M' (168 + (e : Int)) = M (168 + (e : Int))) (m2 : M' (198 + (e : Int)) = M (198 + (e : Int))) (ht : ∀ t : Nat, t0 ≤ t → t < t1 → M' (120 + (t : Int)) = M (120 + (t : Int)) ∧ M' (144 + (t : Int)) = M (144 + (t : Int))) (hd : ∀ q, lo ≤ q → q < b → d' q = d q) : EX S' M' d' lo b t0 t1 e L := by
  obtain ⟨⟨a1, a2, a3⟩, a4, a5⟩ := h
  obtain ⟨tl, fp⟩ := tlM_cg (m := (M (198 + (e : Int))).toNat) m1 ht (fun t ht => (a4 t (by omega)).1)
  unfold EX
  rw [m2, h19]
  refine ⟨⟨a1, a2, a3⟩, fun t ht => ?_, ?_⟩
  · obtain ⟨c1, c2, c3, c4⟩ := a4 t ht
    rw [fp t (by omega), tl t (by omega), h20 t (by omega)]
    exact ⟨c1, c2, by rw [hd _ (by omega) (by omega)]; exact c3, c4⟩
  · rw [tl _ (Nat.le_refl _)]; exact a5
theorem PG.cg {S S' : St} {M M' : Int → Int} {nk ln : Nat} {d d' : Nat → Nat} {b t0 t1 p : Nat} (h : PG S M nk ln d b t0 t1 p) (k1 : S' 14 (p : Int) = S 14 (p : Int) ∧ S' 15 (p : Int) = S 15 (p : Int) ∧ S' 16 (p : Int) = S 16 (p : Int) ∧ S' 17 (p : Int) = S 17 (p : Int) ∧ S' 18 (p : Int) = S 18 (p : Int)) (k2 : M' (24 + (p : Int)) = M (24 + (p : Int)) ∧ M' (48 + (p : Int)) = M (48 + (p : Int)) ∧ M' (72 + (p : Int)) = M (72 + (p : Int)) ∧ M' (96 + (p : Int)) = M (96 + (p : Int))) (h19 : S' 19 ((6 + p : Nat) : Int) = S 19 ((6 + p : Nat) : Int)) (h20 : ∀ j : Nat, j < 10 → S' 20 (((6 + p : Nat) : Int) * 10 + (j : Int)) = S 20 (((6 + p : Nat) : Int) * 10 + (j : Int))) (m1 : M' (168 + ((6 + p : Nat) : Int)) = M (168 + ((6 + p : Nat) : Int))) (m2 : M' (198 + ((6 + p : Nat) : Int)) = M (198 + ((6 + p : Nat) : Int))) (ht : ∀ t : Nat, t0 ≤ t → t < t1 → M' (120 + (t : Int)) = M (120 + (t : Int)) ∧ M' (144 + (t : Int)) = M (144 + (t : Int))) (hc : isQ M p → M' (96 + M (72 + (p : Int))) = M (96 + M (72 + (p : Int)))) (hd : ∀ q, p ≤ q → (q < b ∨ q = p) → d' q = d q) : PG S' M' nk ln d' b t0 t1 p := by
  obtain ⟨⟨a1, a2, a3, a4, a5⟩, b1, c, e, f, g, i⟩ := h
  obtain ⟨k1, k2', k3, k4, k5⟩ := k1
  obtain ⟨k6, k7, k8, k9⟩ := k2
  have dp := hd p (Nat.le_refl _) (Or.inr rfl)
  unfold PG isQ
  rw [k1, k2', k3, k4, k5, k6, k7, k8, k9, h19, m2, dp]
  refine ⟨⟨a1, a2, a3, a4, a5⟩, b1, ?_, e, fun s => ?_, fun s => ?_, i⟩
  · rcases c with c | c
    · exact Or.inl c
    · exact Or.inr ⟨c.1, c.2.1, by rw [hd _ (by omega) (by omega)]; exact c.2.2⟩
  · obtain ⟨f1, f2, f3, f4⟩ := f s
    exact ⟨f1, f2, f3.cg h19 h20 m1 m2 ht (fun q x y => hd q (by omega) (Or.inl y)), f4⟩
  · obtain ⟨g1, g2, g3, g4, g5, g6⟩ := g s
    exact ⟨g1, g2, g3, by rw [hc s]; exact g4, by rw [hd _ (by omega) (by omega)]; exact g5, g6⟩
theorem stp_cg {M M' : Int → Int} {t0 t1 p q : Nat} (k2 : M' (24 + (p : Int)) = M (24 + (p : Int)) ∧ M' (48 + (p : Int)) = M (48 + (p : Int)) ∧ M' (72 + (p : Int)) = M (72 + (p : Int)) ∧ M' (96 + (p : Int)) = M (96 + (p : Int))) (m1 : M' (168 + ((6 + p : Nat) : Int)) = M (168 + ((6 + p : Nat) : Int))) (m2 : M' (198 + ((6 + p : Nat) : Int)) = M (198 + ((6 + p : Nat) : Int))) (ht : ∀ t : Nat, t0 ≤ t → t < t1 → M' (120 + (t : Int)) = M (120 + (t : Int)) ∧ M' (144 + (t : Int)) = M (144 + (t : Int))) (hb : M (24 + (p : Int)) = 7 → ∀ t : Nat, (t : Int) < M (198 + ((6 + p : Nat) : Int)) → (t0 : Int) ≤ tlM M (6 + p) t ∧ tlM M (6 + p) t < (t1 : Int)) (hs : stp M p q) : stp M' p q := by
  obtain ⟨k6, k7, k8, k9⟩ := k2
  unfold stp
  rw [k6, k8, k9, m2]
  rcases hs with e | e | ⟨e, t, t2, t3⟩
  · exact Or.inl e
  · exact Or.inr (Or.inl e)
  · obtain ⟨tl, fp⟩ := tlM_cg (m := (M (198 + ((6 + p : Nat) : Int))).toNat) m1 ht (fun t ht => hb e t (by omega))
    exact Or.inr (Or.inr ⟨e, t, t2, by rw [fp t (by omega)]; exact t3⟩)
theorem REG.hi {S S' : St} {M M' : Int → Int} {nk ln : Nat} {d d' : Nat → Nat} {p0 p1 t0 t1 : Nat} (h : REG S M nk ln d p0 p1 t0 t1) (k : HI S S' M M' p0 t0 t1) (hp : p1 ≤ 24) (hd : ∀ q, p0 ≤ q → d' q = d q) : REG S' M' nk ln d' p0 p1 t0 t1 := fun p a b => by
  obtain ⟨⟨k1, k2, k3⟩, k4, k5, k6⟩ := k
  refine (h p a b).cg (k1 p (by omega)) (k4 p a (by omega)) (k2 _ (by omega)) (fun j _ => k3 _ (by omega)) (k5 _ (by omega) (by omega)).1 (k5 _ (by omega) (by omega)).2 k6 (fun s => ?_) (fun q x _ => hd q (by omega))
  have g := ((h p a b).2.2.2.2.2.1 s).2.1
  have := (k4 (M (72 + (p : Int))).toNat (by omega) (by omega)).2.2.2
  rw [show (((M (72 + (p : Int))).toNat : Nat) : Int) = M (72 + (p : Int)) by omega] at this
  exact this
theorem COV.hi {S S' : St} {M M' : Int → Int} {nk ln : Nat} {d : Nat → Nat} {p0 p1 t0 t1 : Nat} (c : COV M p0 p1) (h : REG S M nk ln d p0 p1 t0 t1) (k : HI S S' M M' p0 t0 t1) (hp : p1 ≤ 24) : COV M' p0 p1 := fun q a b => by
  obtain ⟨p, x1, x2, x3⟩ := c q a b
  exact ⟨p, x1, x2, stp_cg (k.2.1 p x1 (by omega)) (k.2.2.1 _ (by omega) (by omega)).1 (k.2.2.1 _ (by omega) (by omega)).2 k.2.2.2 (fun s t ht => (((h p x1 (by omega)).2.2.2.2.1 s).2.2.1.2.1 t ht).1) x3⟩
/-- what comes out of a part -/
def outP (oC oF : Option (Int × St)) (S T : St) (u : Int → Int) (n nk ln L p0 t0 : Nat) (d : Nat → Nat) : Prop := ∃ (rC : Int) (S' : St) (rF : Int) (T' : St), oC = some (rC, S') ∧ oF = some (rF, T') ∧ KS S S' ∧ KT T T' ∧ (BB S' T' ∨ (rC = (p0 : Int) ∧ rF = (p0 : Int) ∧ okPart S T S' T' u n nk ln L p0 t0 d))
theorem leaf_ok {S T S3 T3 : St} {u : Int → Int} {n nk ln a' L p0 t0 : Nat} {d : Nat → Nat} {ty v : Int} (hR : RR S3 T3 u n a') (hF : FR S (T 84) p0 t0) (hp : p0 < 24) (hL : L ≤ 6) (s14 : S3 14 (p0 : Int) = ty) (s15 : S3 15 (p0 : Int) = v) (s16 : S3 16 (p0 : Int) = -1) (s17 : S3 17 (p0 : Int) = -1) (s18 : S3 18 (p0 : Int) = (ln : Int)) (sO : ∀ k : Int, k ≠ (p0 : Int) → S3 14 k = S 14 k ∧ S3 15 k = S 15 k ∧ S3 16 k = S 16 k ∧ S3 17 k = S 17 k ∧ S3 18 k = S 18 k) (s19 : S3 19 = S 19) (s20 : S3 20 = S 20) (s13 : S3 13 3 = (p0 : Int) + 1) (m2 : T3 84 2 = (p0 : Int) + 1) (m24 : T3 84 (24 + (p0 : Int)) = ty) (m48 : T3 84 (48 + (p0 : Int)) = v) (mO : ∀ k : Int, k ≠ 2 → k ≠ 24 + (p0 : Int) → k ≠ 48 + (p0 : Int) → T3 84 k = T 84 k) (hty : (ty = 0 ∧ 0 ≤ v ∧ v ≤ 25) ∨ ty = 1 ∨ (ty = 2 ∧ 0 ≤ v ∧ v < (nk : Int))) : okPart S T S3 T3 u n nk ln L p0 t0 d := by
  obtain ⟨⟨f1, f2, f3, f4, f5⟩, fb, ft⟩ := hF
  obtain ⟨b1, b2, b3, b4⟩ := fb p0 (Nat.le_refl _) hp
  have nq : ¬ isQ (T3 84) p0 := by unfold isQ; rw [m24]; omega
  refine ⟨a', p0 + 1, t0, fun q => if q = p0 then L else d q, hR, ⟨⟨by rw [s13]; omega, by rw [m2]; omega, by rw [mO 5 (by decide) (by omega) (by omega)]; exact f3, by omega, by omega⟩, fun q x y => ?_, fun t x y => ?_⟩, by omega, ⟨fun p hp' => ?_, fun e he _ => ?_, fun t ht => ?_⟩, fun q hq => if_neg (by omega), if_pos rfl, ?_, fun p x y => ?_, fun q x y => by omega⟩
  · obtain ⟨c1, c2, c3, c4⟩ := fb q (by omega) y
    rw [mO _ (by omega) (by omega) (by omega), mO _ (by omega) (by omega) (by omega), mO _ (by omega) (by omega) (by omega), s19]
    exact ⟨c1, c2, c3, c4⟩
  · rw [mO _ (by omega) (by omega) (by omega)]; exact ft t x y
  · refine ⟨sO p (by omega), ?_⟩
    rw [mO _ (by omega) (by omega) (by omega), mO _ (by omega) (by omega) (by omega), mO _ (by omega) (by omega) (by omega), mO _ (by omega) (by omega) (by omega)]
    exact ⟨rfl, rfl, rfl, rfl⟩
  · rw [s19, s20, mO _ (by omega) (by omega) (by omega), mO _ (by omega) (by omega) (by omega)]
    exact ⟨rfl, fun _ _ => rfl, rfl, rfl⟩
  · rw [mO _ (by omega) (by omega) (by omega), mO _ (by omega) (by omega) (by omega)]
    exact ⟨rfl, rfl⟩
  · rw [mO _ (by omega) (by omega) (by omega)]; exact b2
  · have e : p = p0 := by omega
    subst e
    have m96 : T3 84 (96 + (p : Int)) = -1 := by rw [mO _ (by omega) (by omega) (by omega)]; exact b2
    have m198 : T3 84 (198 + ((6 + p : Nat) : Int)) = 0 := by rw [mO _ (by omega) (by omega) (by omega)]; exact b4
    unfold PG
    rw [s14, s15, s16, s17, s18, s19, m24, m48, m96, m198]
    refine ⟨⟨rfl, rfl, rfl, b3, ?_⟩, by omega, Or.inl rfl, ⟨by omega, by omega, fun _ => ⟨rfl, rfl⟩⟩, fun s => by omega, fun s => absurd s nq, fun _ => rfl⟩
    show (if p = p then L else d p) ≤ 6
    rw [if_pos rfl]; exact hL
/-- a part is added, and both go on -/
theorem opened {S T S1 : St} {u : Int → Int} {n nk a p0 : Nat} (h : RR S T u n a) (hN : NM S T u n nk) (h12 : S1 12 = S 12) (h1 : S1 1 = S 1) : ∃ S2 T2 : St, mX5_advance S1 = some S2 ∧ mX12_next (up T 84 2 ((p0 : Int) + 1)) = some T2 ∧ RR S2 T2 u n (nxt u n a) ∧ kept [] [(12, 6), (12, 7), (12, 8), (12, 9)] S1 S2 ∧ kept [] [(83, 6), (83, 7), (83, 8), (83, 9)] (up T 84 2 ((p0 : Int) + 1)) T2 :=
  sim_adv (h.of h12 h1 rfl rfl)
theorem KS_add {S : St} {p ty ln : Int} : KS S (addS S p ty ln) := (((((KS.rf.upA (by decide)).upA (by decide)).upA (by decide)).upA (by decide)).upA (by decide)).upF (by decide)
theorem KT_84 {T : St} {k v : Int} (h : k = 2 ∨ k = 5 ∨ (24 ≤ k ∧ k < 228)) : KT T (up T 84 k v) := ⟨kept.rf.upA (by decide), fun q a b c e => by rw [up_nk (by omega)]⟩
theorem tail_name {S T : St} {u : Int → Int} {n nk ln a p0 t0 L : Nat} {d : Nat → Nat} {kd : Int} {recC : Nat → Int → Int → St → Option (Int × St)} {recF : Nat → Int → Int → Int → St → Option (Int × St)} (h : RR S T u n a) (hN : NM S T u n nk) (hF : FR S (T 84) p0 t0) (hp : p0 < 24) (hL : L ≤ 6) (hk : 0 ≤ kd ∧ kd < (nk : Int)) : outP (tlC recC (addS S (p0 : Int) 2 (ln : Int)) (L : Int) 2 kd (p0 : Int)) (tlF recF T (L : Int) (-1) kd 0) S T u n nk ln L p0 t0 d := by
  obtain ⟨S2, T2, a1, a2, a3, a4, a5⟩ := opened (p0 := p0) (S1 := up (addS S (p0 : Int) 2 (ln : Int)) 15 (p0 : Int) kd) h hN rfl rfl
  have m84 : T2 84 = up T 84 2 ((p0 : Int) + 1) 84 := a5.cell 84 (by decide) (by decide)
  have f2 := hF.1.2.1
  refine ⟨(p0 : Int), S2, (p0 : Int), up (up T2 84 (24 + (p0 : Int)) 2) 84 (48 + (p0 : Int)) kd, ?_, ?_, (KS_add.upA (by decide)).trans (KS.adv a4), ((KT_84 (Or.inl rfl)).trans (KT.adv a5)).trans ((KT_84 (by omega)).trans (KT_84 (by omega))), Or.inr ⟨rfl, rfl, ?_⟩⟩
  · unfold tlC
    rw [gd_t (by decide), if_pos rfl, gd_t (by omega), nx_e, bd1_s, bd1_e a1, gd_t (by decide), if_neg (by decide), if_neg (by decide), if_pos (by decide)]
  · unfold tlF
    rw [nx_e, f2, nx_e, bd1_e a2, gd_t (by decide), if_pos rfl, if_neg (by decide), gd_t (by omega), nx_e, gd_t (by omega), nx_e, bd1_s]
    rw [show (up (up T2 84 (24 + (p0 : Int)) 2) 84 (48 + (p0 : Int)) kd) 83 10 = T2 83 10 from rfl, a3.2.2.2, gd_t (by decide), if_pos rfl]
  · have c14 := a4.cell 14 (by decide) (by decide)
    have c15 := a4.cell 15 (by decide) (by decide)
    have c16 := a4.cell 16 (by decide) (by decide)
    have c17 := a4.cell 17 (by decide) (by decide)
    have c18 := a4.cell 18 (by decide) (by decide)
    refine leaf_ok (ty := 2) (v := kd) (a' := nxt u n a) (a3.of rfl rfl rfl rfl) hF hp hL ?_ ?_ ?_ ?_ ?_ (fun k hk' => ⟨?_, ?_, ?_, ?_, ?_⟩) (a4.cell 19 (by decide) (by decide)) (a4.cell 20 (by decide) (by decide)) ((a4 13 3 (by decide) (by decide)).trans rfl) ?_ ?_ ?_ (fun k x y z => ?_) (Or.inr (Or.inr ⟨rfl, hk⟩))
    · rw [c14]; show (up S 14 (p0 : Int) 2) 14 (p0 : Int) = 2; rw [up_eq]
    · rw [c15, up_eq]
    · rw [c16]; show (up _ 16 (p0 : Int) (-1)) 16 (p0 : Int) = -1; rw [up_eq]
    · rw [c17]; show (up _ 17 (p0 : Int) (-1)) 17 (p0 : Int) = -1; rw [up_eq]
    · rw [c18]; show (up _ 18 (p0 : Int) (ln : Int)) 18 (p0 : Int) = (ln : Int); rw [up_eq]
    · rw [c14]; show (up S 14 (p0 : Int) 2) 14 k = _; rw [up_nk hk']
    · rw [c15, up_nk hk']; show (up (up S 14 (p0 : Int) 2) 15 (p0 : Int) 0) 15 k = _; rw [up_nk hk']; rfl
    · rw [c16]; show (up _ 16 (p0 : Int) (-1)) 16 k = _; rw [up_nk hk']; rfl
    · rw [c17]; show (up _ 17 (p0 : Int) (-1)) 17 k = _; rw [up_nk hk']; rfl
    · rw [c18]; show (up _ 18 (p0 : Int) (ln : Int)) 18 k = _; rw [up_nk hk']; rfl
    · rw [up_nk (by omega), up_nk (by omega), m84, up_eq]
    · rw [up_nk (by omega), up_eq]
    · rw [up_eq]
    · rw [up_nk z, up_nk y, m84, up_nk x]
