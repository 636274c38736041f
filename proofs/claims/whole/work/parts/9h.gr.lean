/-! all lines read by both -/
theorem LOW.symm {S S' : St} {M M' : Int → Int} {P T x : Nat} (h : LOW S S' M M' P T x) : LOW S' S M' M P T x := by
  refine ⟨fun p hp => ?_, fun e he hx => ?_, fun t ht => ?_⟩
  · obtain ⟨⟨a1, a2, a3, a4, a5⟩, a6, a7, a8, a9⟩ := h.1 p hp
    exact ⟨⟨a1.symm, a2.symm, a3.symm, a4.symm, a5.symm⟩, a6.symm, a7.symm, a8.symm, a9.symm⟩
  · obtain ⟨a1, a2, a3, a4⟩ := h.2.1 e he hx
    exact ⟨a1.symm, fun j hj => (a2 j hj).symm, a3.symm, a4.symm⟩
  · obtain ⟨a1, a2⟩ := h.2.2 t ht
    exact ⟨a1.symm, a2.symm⟩
theorem PG.stp {S : St} {M : Int → Int} {nk ln : Nat} {d : Nat → Nat} {b t0 t1 p q : Nat} (h : PG S M nk ln d b t0 t1 p) (hs : stp M p q) : p < q ∧ q < b := by
  obtain ⟨-, -, c, -, f, g, -⟩ := h
  rcases hs with e | ⟨e, e2⟩ | ⟨e, t, t2, t3⟩
  · rcases c with c | c <;> omega
  · have := (g e).2.1; omega
  · have := ((f e).2.2.1.2.1 t t2).2.1; omega
theorem EX.lo0 {S : St} {M : Int → Int} {d : Nat → Nat} {lo b t0 t1 e L : Nat} (h : EX S M d lo b t0 t1 e L) : EX S M d 0 b 0 t1 e L :=
  ⟨h.1, fun t ht => ⟨by have := (h.2.1 t ht).1; omega, by have := (h.2.1 t ht).2.1; omega, (h.2.1 t ht).2.2⟩, h.2.2⟩
def GR (S : St) (M : Int → Int) (nk P T : Nat) (d hm : Nat → Nat) : Prop :=
  (∀ p : Nat, p < P → hm p < nk ∧ PG S M nk (hm p) d P 0 T p ∧ ∀ q : Nat, stp M p q → hm q = hm p) ∧
  (∀ q : Nat, q < P → (∃ t : Nat, (t : Int) < M (198 + ((hm q : Nat) : Int)) ∧ (q : Int) = fpM M (hm q) t) ∨ ∃ p : Nat, p < q ∧ stp M p q) ∧
  (∀ e : Nat, e < 6 → (S 19 (e : Int) = 0 ∧ M (198 + (e : Int)) = 0 ∧ M (168 + (e : Int)) = -1) ∨ (e < nk ∧ EX S M d 0 P 0 T e 0 ∧ ∀ t : Nat, (t : Int) < M (198 + (e : Int)) → hm (fpM M e t).toNat = e))
theorem GR.cnt {S : St} {M : Int → Int} {nk P T : Nat} {d hm : Nat → Nat} (h : GR S M nk P T d hm) : ∀ e : Nat, e < 6 → S 19 (e : Int) = M (198 + (e : Int)) ∧ 0 ≤ M (198 + (e : Int)) ∧ M (198 + (e : Int)) ≤ 10 := fun e he => by
  rcases h.2.2 e he with ⟨a, b, _⟩ | ⟨_, ex, _⟩
  · rw [a, b]; omega
  · obtain ⟨⟨a1, a2, a3⟩, _⟩ := ex
    rw [a3]; omega
theorem GR.step {S S' : St} {M M' : Int → Int} {nk p0 p1 t0 t1 e : Nat} {d d' hm : Nat → Nat} (h : GR S M nk p0 t0 d hm) (he : e < nk) (hk : nk ≤ 6) (h0 : M (198 + (e : Int)) = 0) (hp : p0 < p1) (ht : t0 ≤ t1) (lo : LOW S S' M M' p0 t0 e) (hd : ∀ q, q < p0 → d' q = d q) (ex : EX S' M' d' p0 p1 t0 t1 e 0) (reg : REG S' M' nk e d' p0 p1 t0 t1) (cov : COVE M' e p0 p1 (M' (198 + (e : Int))).toNat) : GR S' M' nk p1 t1 d' (fun q => if q < p0 then hm q else e) := by
  obtain ⟨h1, h2, h3⟩ := h
  have fpl : ∀ x : Nat, x < 6 → x ≠ e → EX S M d 0 p0 0 t0 x 0 → M' (198 + (x : Int)) = M (198 + (x : Int)) ∧ ∀ t : Nat, (t : Int) < M (198 + (x : Int)) → fpM M' x t = fpM M x t := fun x hx hne ex => by
    refine ⟨(lo.2.1 x (by omega) hne).2.2.2, fun t ht' => ?_⟩
    have b := (ex.2.1 t ht').1
    have tl := tl_low (t1 := t0) (m := (M (198 + (x : Int))).toNat) lo (Nat.le_refl _) (by omega) hne (fun t ht => by have := (ex.2.1 t (by omega)).1; omega) t (by omega)
    show M' (120 + tlM M' x t) = M (120 + tlM M x t)
    rw [tl]
    have := (lo.2.2 (tlM M x t).toNat (by omega)).1
    rw [show (((tlM M x t).toNat : Nat) : Int) = tlM M x t by omega] at this
    exact this
  have old : ∀ p, p < p0 → PG S' M' nk (hm p) d' p0 0 t0 p := fun p hp' => (h1 p hp').2.1.low lo (Nat.le_refl _) hp' (Nat.le_refl _) (by omega) (fun q _ y => hd q y)
  refine ⟨fun p hp' => ?_, fun q hq => ?_, fun x hx => ?_⟩
  · by_cases c : p < p0
    · obtain ⟨a1, a2, a3⟩ := h1 p c
      have o := old p c
      simp only [if_pos c]
      refine ⟨a1, o.mono (by omega) (Nat.le_refl _) ht, fun q hs => ?_⟩
      have b := o.stp hs
      rw [if_pos (by omega)]
      exact a3 q (stp_low o lo.symm (Nat.le_refl _) c (by omega) hs)
    · have r := reg p (by omega) hp'
      simp only [if_neg c]
      refine ⟨he, r.mono (Nat.le_refl _) (by omega) (Nat.le_refl _), fun q hs => ?_⟩
      have b := r.stp hs
      rw [if_neg (by omega)]
  · by_cases c : q < p0
    · simp only [if_pos c]
      rcases h2 q c with ⟨t, a1, a2⟩ | ⟨p, a1, a2⟩
      · left
        have hne : hm q ≠ e := fun w => by rw [w, h0] at a1; omega
        have h6 := (h1 q c).1
        rcases h3 (hm q) (by omega) with ⟨_, b, _⟩ | ⟨_, exq, _⟩
        · rw [b] at a1; omega
        · obtain ⟨y1, y2⟩ := fpl (hm q) (by omega) hne exq
          exact ⟨t, by rw [y1]; exact a1, by rw [y2 t a1]; exact a2⟩
      · right
        exact ⟨p, a1, stp_low (h1 p (by omega)).2.1 lo (Nat.le_refl _) (by omega) (by omega) a2⟩
    · simp only [if_neg c]
      rcases cov q (by omega) hq with ⟨t, a1, a2⟩ | ⟨p, a1, a2, a3⟩
      · have := ex.1.1
        exact Or.inl ⟨t, by omega, a2⟩
      · exact Or.inr ⟨p, a2, a3⟩
  · by_cases c : x = e
    · subst c
      refine Or.inr ⟨he, ex.lo0, fun t ht' => ?_⟩
      have := (ex.2.1 t ht').2.1
      show (if (fpM M' x t).toNat < p0 then _ else x) = x
      rw [if_neg (by omega)]
    · obtain ⟨k1, k2, k3, k4⟩ := lo.2.1 x (by omega) c
      rcases h3 x hx with ⟨a1, a2, a3⟩ | ⟨a1, a2, a3⟩
      · exact Or.inl ⟨by rw [k1]; exact a1, by rw [k4]; exact a2, by rw [k3]; exact a3⟩
      · refine Or.inr ⟨a1, (a2.low lo (Nat.le_refl _) (by omega) c (fun q _ y => hd q y)).mono (by omega) (Nat.le_refl _) ht, fun t ht' => ?_⟩
        obtain ⟨y1, y2⟩ := fpl x hx c a2
        rw [y1] at ht'
        have b := (a2.2.1 t ht').2.1
        show (if (fpM M' x t).toNat < p0 then _ else e) = x
        rw [y2 t ht', if_pos (by omega)]
        exact a3 t ht'
/-- what stays while lines are read -/
def KWS (S S' : St) : Prop := kept [14, 15, 16, 17, 18, 19, 20] [(12, 1), (12, 2), (12, 6), (12, 7), (12, 8), (12, 9), (12, 10), (13, 2), (13, 3)] S S'
def KWT (T T' : St) : Prop := kept [84] [(83, 4), (83, 5), (83, 6), (83, 7), (83, 8), (83, 9), (83, 10)] T T' ∧ ∀ k : Int, (0 ≤ k ∨ k < 0) → (k < 24 ∨ 228 ≤ k) → k ≠ 2 → k ≠ 3 → k ≠ 5 → T' 84 k = T 84 k
theorem KT.to {T T' : St} (h : KT T T') : KWT T T' := ⟨h.1, fun k a b c _ e => h.2 k a b c e⟩
theorem KWT.trans {T T' T'' : St} (a : KWT T T') (b : KWT T' T'') : KWT T T'' := ⟨kept.trans a.1 b.1, fun k x y z w v => (b.2 k x y z w v).trans (a.2 k x y z w v)⟩
theorem KWT.up3 {T : St} {v : Int} : KWT T (up T 84 3 v) := ⟨kept.rf.upA (by decide), fun k a b c e f => up_nk e⟩
def okAll (S' T' : St) (u : Int → Int) (n nk : Nat) : Prop := S' 12 1 = 0 ∧ T' 83 10 = 0 ∧ S' 12 2 = -1 ∧ ∃ (p t : Nat) (d hm : Nat → Nat), NM S' T' u n nk ∧ FR S' (T' 84) p t ∧ GR S' (T' 84) nk p t d hm ∧ (S' 13 2 = T' 84 3 ∧ 1 ≤ T' 84 3 ∧ T' 84 3 ≤ 25)
theorem linesL {u : Int → Int} {n nk : Nat} : ∀ (k i fC fF : Nat) (S T : St) (a p t : Nat) (d hm : Nat → Nat), 24 ≤ p + k → k + 2 < fC → k + 2 < fF → i ≤ p → RR S T u n a → NM S T u n nk → FR S (T 84) p t → GR S (T 84) nk p t d hm → (S 13 2 = T 84 3 ∧ 1 ≤ T 84 3 ∧ T 84 3 ≤ (p : Int) + 1) → ∃ S' T' : St, mX5_read_12_1_52 fC (i : Int) S = some S' ∧ mX12_grammar_45 fF T = some T' ∧ KWS S S' ∧ KWT T T' ∧ (BB S' T' ∨ okAll S' T' u n nk) := by
  intro k
  induction k with
  | zero =>
    intro i fC fF S T a p t d hm hk hfC hfF hi h hN hF hG hl
    obtain ⟨fC, rfl⟩ : ∃ g, fC = g + 2 := ⟨fC - 2, by omega⟩
    obtain ⟨fF, rfl⟩ : ∃ g, fF = g + 2 := ⟨fF - 2, by omega⟩
    have p24 := hF.1.2.2.2.2
    have tI : inI (tk u n a) ∧ inI (tkC u n a) := by rcases tk_cases u n a with q | q | q | q | q <;> omega
    by_cases te : tk u n a = 0
    · have tc : tkC u n a = 3 := by rcases tk_cases u n a with q | q | q | q | q <;> omega
      refine ⟨S, T, ?_, ?_, kept.rf, ⟨kept.rf, fun _ _ _ _ _ _ => rfl⟩, Or.inr ⟨h.2.2.1, h.2.2.2, h.1.1.1.2.2.2, p, t, d, hm, hN, hF, hG, by omega⟩⟩
      · rw [mX5_read_12_1_52, gd_t (by omega), if_neg (by omega), h.2.2.1, gd_t (by decide), if_pos rfl, h.2.1.1.2.2.2.1, gd_t tI.2, if_pos tc]
      · rw [mX12_grammar_45, h.2.2.2, gd_t (by decide), if_pos rfl, h.2.1.2.2.2.2.1, gd_t tI.1, if_pos te]
    · have tc : tkC u n a ≠ 3 := by rcases tk_cases u n a with q | q | q | q | q <;> omega
      obtain ⟨S', T1, T', s1, s2, s3, s4, s5, s6⟩ := sim_line (d := d) h hN hF hG.cnt
      have eC : mX5_read_12_1_52 (fC + 2) (i : Int) S = mX5_read_12_1_52 (fC + 1) ((i : Int) + 1) S' := by
        rw [mX5_read_12_1_52, gd_t (by omega), if_neg (by omega), h.2.2.1, gd_t (by decide), if_pos rfl, h.2.1.1.2.2.2.1, gd_t tI.2, if_neg tc, bd1_e s1]
      rcases s6 with s6 | ⟨a', p1, t1, e, d', r5, n5, f5, e5, c5, _⟩
      · have n1 := s6.2.1
        have eC2 : mX5_read_12_1_52 (fC + 2) (i : Int) S = some S' := by
          rw [eC, mX5_read_12_1_52, gd_t (by omega), if_neg (by omega), gd_t (by omega), if_neg (by omega)]
        have eF : mX12_grammar_45 (fF + 2) T = (gd (inI (T1 83 10)) <| if (T1 83 10) = 0 then (bd1 (mX12_needs T1 59) fun S_63 => nx (up S_63 84 3 ((S_63 84 3) + 1)) fun S_64 => mX12_grammar_45 (fF + 1) S_64) else (mX12_grammar_45 (fF + 1) T1)) := by
          rw [mX12_grammar_45, h.2.2.2, gd_t (by decide), if_pos rfl, h.2.1.2.2.2.2.1, gd_t tI.1, if_neg te, gd_t (by omega), if_neg (by omega), bd1_e s2, bd1_s]
        rcases s3 with ⟨x1, x2⟩ | ⟨x1, x2⟩
        · refine ⟨S', up T' 84 3 (T' 84 3 + 1), eC2, ?_, s4, s5.to.trans KWT.up3, Or.inl s6⟩
          rw [eF, x1, gd_t (by decide), if_pos rfl, bd1_e x2, nx_e, mX12_grammar_45, show (up T' 84 3 (T' 84 3 + 1)) 83 10 = T' 83 10 from rfl, s6.1, gd_t (by decide), if_neg (by decide)]
        · subst x2
          refine ⟨S', T', eC2, ?_, s4, s5.to, Or.inl s6⟩
          rw [eF, x1, gd_t (by decide), if_neg (by decide), mX12_grammar_45, x1, gd_t (by decide), if_neg (by decide)]
      · have := f5.1.2.2.2.2
        omega
  | succ k ih =>
    intro i fC fF S T a p t d hm hk hfC hfF hi h hN hF hG hl
    obtain ⟨fC, rfl⟩ : ∃ g, fC = g + 2 := ⟨fC - 2, by omega⟩
    obtain ⟨fF, rfl⟩ : ∃ g, fF = g + 2 := ⟨fF - 2, by omega⟩
    have p24 := hF.1.2.2.2.2
    have tI : inI (tk u n a) ∧ inI (tkC u n a) := by rcases tk_cases u n a with q | q | q | q | q <;> omega
    by_cases te : tk u n a = 0
    · have tc : tkC u n a = 3 := by rcases tk_cases u n a with q | q | q | q | q <;> omega
      refine ⟨S, T, ?_, ?_, kept.rf, ⟨kept.rf, fun _ _ _ _ _ _ => rfl⟩, Or.inr ⟨h.2.2.1, h.2.2.2, h.1.1.1.2.2.2, p, t, d, hm, hN, hF, hG, by omega⟩⟩
      · rw [mX5_read_12_1_52, gd_t (by omega), if_neg (by omega), h.2.2.1, gd_t (by decide), if_pos rfl, h.2.1.1.2.2.2.1, gd_t tI.2, if_pos tc]
      · rw [mX12_grammar_45, h.2.2.2, gd_t (by decide), if_pos rfl, h.2.1.2.2.2.2.1, gd_t tI.1, if_pos te]
    · have tc : tkC u n a ≠ 3 := by rcases tk_cases u n a with q | q | q | q | q <;> omega
      obtain ⟨S', T1, T', s1, s2, s3, s4, s5, s6⟩ := sim_line (d := d) h hN hF hG.cnt
      have eC : mX5_read_12_1_52 (fC + 2) (i : Int) S = mX5_read_12_1_52 (fC + 1) ((i : Int) + 1) S' := by
        rw [mX5_read_12_1_52, gd_t (by omega), if_neg (by omega), h.2.2.1, gd_t (by decide), if_pos rfl, h.2.1.1.2.2.2.1, gd_t tI.2, if_neg tc, bd1_e s1]
      have eF : mX12_grammar_45 (fF + 2) T = (gd (inI (T1 83 10)) <| if (T1 83 10) = 0 then (bd1 (mX12_needs T1 59) fun S_63 => nx (up S_63 84 3 ((S_63 84 3) + 1)) fun S_64 => mX12_grammar_45 (fF + 1) S_64) else (mX12_grammar_45 (fF + 1) T1)) := by
        rw [mX12_grammar_45, h.2.2.2, gd_t (by decide), if_pos rfl, h.2.1.2.2.2.2.1, gd_t tI.1, if_neg te, gd_t (by omega), if_neg (by omega), bd1_e s2, bd1_s]
      rcases s6 with s6 | ⟨a', p1, t1, e, d', r5, n5, f5, ⟨e5, e6⟩, c5, c6, lo5, dd, ex, reg, cov, s132⟩
      · have n1 := s6.2.1
        have eC2 : mX5_read_12_1_52 (fC + 2) (i : Int) S = some S' := by
          rw [eC, mX5_read_12_1_52, gd_t (by omega), if_neg (by omega), gd_t (by omega), if_neg (by omega)]
        rcases s3 with ⟨x1, x2⟩ | ⟨x1, x2⟩
        · refine ⟨S', up T' 84 3 (T' 84 3 + 1), eC2, ?_, s4, s5.to.trans KWT.up3, Or.inl s6⟩
          rw [eF, x1, gd_t (by decide), if_pos rfl, bd1_e x2, nx_e, mX12_grammar_45, show (up T' 84 3 (T' 84 3 + 1)) 83 10 = T' 83 10 from rfl, s6.1, gd_t (by decide), if_neg (by decide)]
        · subst x2
          refine ⟨S', T', eC2, ?_, s4, s5.to, Or.inl s6⟩
          rw [eF, x1, gd_t (by decide), if_neg (by decide), mX12_grammar_45, x1, gd_t (by decide), if_neg (by decide)]
      · have t83 : T' 83 10 = 0 := r5.2.2.2
        have p124 := f5.1.2.2.2.2
        rcases s3 with ⟨x1, x2⟩ | ⟨x1, x2⟩
        · have mK : ∀ k : Int, k ≠ 3 → (up T' 84 3 (T' 84 3 + 1)) 84 k = T' 84 k := fun k hk => up_nk hk
          have lo7 : ∀ P Tt x : Nat, LOW S' S' (T' 84) ((up T' 84 3 (T' 84 3 + 1)) 84) P Tt x := fun P Tt x => ⟨fun p _ => ⟨⟨rfl, rfl, rfl, rfl, rfl⟩, mK _ (by omega), mK _ (by omega), mK _ (by omega), mK _ (by omega)⟩, fun e _ _ => ⟨rfl, fun _ _ => rfl, mK _ (by omega), mK _ (by omega)⟩, fun t _ => ⟨mK _ (by omega), mK _ (by omega)⟩⟩
          have m3 : T' 84 3 = T 84 3 := s5.2 3 (by decide) (by decide) (by decide) (by decide)
          have g7 : GR S' ((up T' 84 3 (T' 84 3 + 1)) 84) nk p1 t1 d' (fun q => if q < p then hm q else e) := by
            refine hG.step e5 hN.1.2.2 e6 c5 c6 (lo5.trans (lo7 p t e) (Nat.le_refl _) (Nat.le_refl _) (Or.inl rfl)) dd (ex.low (lo7 p1 t1 30) (Nat.le_refl _) (by have := hN.1.2.2; omega) (by have := hN.1.2.2; omega) (fun _ _ _ => rfl)) (reg.low (lo7 p1 t1 30) (Nat.le_refl _) (Nat.le_refl _) (Or.inr (by omega)) (fun _ _ _ => rfl)) ?_
            rw [mK _ (by omega)]
            intro q x y
            have hk6 := hN.1.2.2
            rcases cov q x y with ⟨t, y1, y2⟩ | ⟨r, y1, y2, y3⟩
            · left
              refine ⟨t, y1, ?_⟩
              have tl := tl_low (e := e) (t1 := t1) (m := (T' 84 (198 + (e : Int))).toNat) (lo7 p1 t1 30) (Nat.le_refl _) (by omega) (by omega) (fun t ht => by have := (ex.2.1 t (by omega)).1; omega) t (by omega)
              show (q : Int) = (up T' 84 3 (T' 84 3 + 1)) 84 (120 + tlM ((up T' 84 3 (T' 84 3 + 1)) 84) e t)
              have b := (ex.2.1 t (by omega)).1
              rw [tl, mK _ (by omega)]
              exact y2
            · exact Or.inr ⟨r, y1, y2, stp_low (reg r y1 (by omega)) (lo7 p1 t1 30) (Nat.le_refl _) (by omega) (by omega) y3⟩
          have f7 : FR S' ((up T' 84 3 (T' 84 3 + 1)) 84) p1 t1 := by
            obtain ⟨⟨g1, g2, g3, g4, g5⟩, gb, gt⟩ := f5
            refine ⟨⟨g1, by rw [mK _ (by decide)]; exact g2, by rw [mK _ (by decide)]; exact g3, g4, g5⟩, fun q x y => ?_, fun t' x y => ?_⟩
            · rw [mK _ (by omega), mK _ (by omega), mK _ (by omega)]; exact gb q x y
            · rw [mK _ (by omega)]; exact gt t' x y
          obtain ⟨S'', T'', y1, y2, y3, y4, y5⟩ := ih (i + 1) (fC + 1) (fF + 1) S' (up T' 84 3 (T' 84 3 + 1)) a' p1 t1 d' _ (by omega) (by omega) (by omega) (by omega) (r5.of rfl rfl rfl rfl) (n5.of' rfl rfl rfl (mK 0 (by decide)) rfl rfl) f7 g7 (by rw [up_eq, m3, s132]; omega)
          rw [show ((i + 1 : Nat) : Int) = (i : Int) + 1 by omega] at y1
          refine ⟨S'', T'', by rw [eC]; exact y1, ?_, kept.trans s4 y3, (s5.to.trans KWT.up3).trans y4, y5⟩
          rw [eF, x1, gd_t (by decide), if_pos rfl, bd1_e x2, nx_e]
          exact y2
        · subst x2
          rw [t83] at x1; cases x1
