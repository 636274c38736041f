/-! the reference goes through a thing: all of it -/
def PR (M : Int → Int) (T : St) (nest l : Nat) : Prop := cnt M (-1) T ∧ ((nest : Int) ≤ T 83 23 ∧ T 83 23 ≤ 1000) ∧ T 83 20 = (l : Int) ∧ inI (T 83 21) ∧ (-1 ≤ T 83 24 ∧ T 83 24 ≤ 25) ∧ (0 ≤ T 83 27 ∧ T 83 27 ≤ 100)
theorem cnt.of {M : Int → Int} {T U : St} (h : cnt M (-1) T) (a : U 84 = T 84) (b : U 90 = T 90) (c : U 91 = T 91) : cnt M (-1) U := by
  obtain ⟨h1, ⟨h2, h3⟩, h4, h5⟩ := h
  refine ⟨a.trans h1, ⟨h2.eq b, h3.eq c⟩, ?_, ?_⟩
  · rw [b, c]; exact h4
  · rw [b]; exact h5
theorem PR.ef {M : Int → Int} {T U : St} {nest l : Nat} {w : List Int} {t d : Nat} (h : PR M T nest l) (k : EF T U nest w t d) (hd : nest + d ≤ 1000) : PR M U nest (l + w.length) := by
  obtain ⟨h1, ⟨h2, h3⟩, h4, h5, h6, h7⟩ := h
  obtain ⟨⟨a1, a2, a3⟩, ⟨a4, a5, a6⟩, a7, a9⟩ := k
  refine ⟨h1.of (a9.cell 84 (by decide) (by decide)) (a9.cell 90 (by decide) (by decide)) (a9.cell 91 (by decide) (by decide)), ⟨by rw [a4]; omega, by rw [a4]; omega⟩, by rw [a1, h4]; omega, by rw [a9 83 21 (by decide) (by decide)]; exact h5, by rw [a9 83 24 (by decide) (by decide)]; exact h6, by rw [a9 83 27 (by decide) (by decide)]; exact h7⟩
theorem mxl_le {l : List (Nat × Nat × Nat)} {g : Nat × Nat × Nat → Nat} {B : Nat} (h : ∀ y ∈ l, g y ≤ B) : mxl l g ≤ B := by
  induction l with
  | nil => exact Nat.zero_le _
  | cons a l ih =>
    show max (g a) (mxl l g) ≤ B
    have x := h a (List.mem_cons_self ..)
    have y := ih (fun y hy => h y (List.mem_cons_of_mem _ hy))
    omega
theorem dp_le {S : St} {E TE : Nat → Prop} {rO rT rK : Nat → Nat} (h : Cor S) (rk : RKs (S 84) E TE rO rT rK) : ∀ (f : Nat) (x : Nat × Nat × Nat), VN (S 84) x → ms rO x < f → dpN (S 84) f x ≤ ms rO x + 1 := by
  intro f
  induction f with
  | zero => intro x _ hm; omega
  | succ f ih =>
    intro x hx hm
    show (if isQb (S 84) x.1 then 1 else 0) + mxl (itm (S 84) x) (dpN (S 84) f) ≤ _
    have b : mxl (itm (S 84) x) (dpN (S 84) f) ≤ ms rO x := mxl_le (fun y hy => by
      obtain ⟨a, b, c⟩ := itm_ok h rk hx y hy
      have := ih y a (by omega)
      omega)
    split <;> omega
/-- what going through a part does, for those below f -/
def HR (M : Int → Int) (rO : Nat → Nat) (f g : Nat) : Prop := ∀ (x : Nat × Nat × Nat) (nest base l : Nat) (T : St), VN M x → ms rO x < f → PR M T nest l → T 83 31 = (base : Int) → base + ms rO x + 2 * x.2.1 ≤ 446 → nest + ms rO x ≤ 440 → l + (txt M f x).length ≤ 2000000000 → ∃ T', RX12_goesExpr g 2 (x.1 : Int) (x.2.1 : Int) (x.2.2 : Int) (nest : Int) T = some T' ∧ EF T T' nest (txt M f x) (trn M f x) (dpN M f x)
theorem e_170 {S : St} {E TE : Nat → Prop} {rO rT rK : Nat → Nat} {f g nest base : Nat} (h : Cor S) (rk : RKs (S 84) E TE rO rT rK) (hr : HR (S 84) rO f g) : ∀ (k : Nat) (q : Int) (n v l F : Nat) (T : St), (q < 0 ∨ (q < S 84 2 ∧ 24 - q ≤ k ∧ v < rM (S 84) q.toNat n ∧ rM (S 84) q.toNat n ≤ 200)) → -1 ≤ q → k < F → (n : Int) ≤ S 84 1 → (∀ y ∈ tmI (S 84) k q n v, ms rO y < f ∧ base + ms rO y + 2 * y.2.1 ≤ 446 ∧ nest + ms rO y ≤ 440) → PR (S 84) T nest l → T 83 31 = (base : Int) → l + (cat (tmI (S 84) k q n v) (txt (S 84) f)).length ≤ 2000000000 → ∃ T', mX12_goesExpr_170 (RX12_goesExpr g) (nest : Int) F q (n : Int) (v : Int) T = some T' ∧ EF T T' nest (cat (tmI (S 84) k q n v) (txt (S 84) f)) (prd (tmI (S 84) k q n v) (trn (S 84) f)) (mxl (tmI (S 84) k q n v) (dpN (S 84) f)) := by
  have w := h.wf
  have hM1 := w.2.1
  have hM2 := w.2.2.1
  intro k
  induction k with
  | zero =>
    intro q n v l F T hq q1 hF hn hy hP hb hl
    obtain ⟨F, rfl⟩ : ∃ f', F = f' + 1 := ⟨F - 1, by omega⟩
    refine ⟨T, ?_, EF.nil hP.2.1.1⟩
    rw [mX12_goesExpr_170, gd_t (by omega), if_pos (by omega)]
  | succ k ih =>
    intro q n v l F T hq q1 hF hn hy hP hb hl
    obtain ⟨F, rfl⟩ : ∃ f', F = f' + 1 := ⟨F - 1, by omega⟩
    by_cases qn : q < 0
    · rw [tmI_n qn]
      refine ⟨T, ?_, EF.nil hP.2.1.1⟩
      rw [mX12_goesExpr_170, gd_t (by omega), if_pos qn]
    · obtain ⟨p, rfl⟩ : ∃ p : Nat, q = (p : Int) := ⟨q.toNat, by omega⟩
      obtain ⟨hp, hk, hv, h2⟩ := hq.resolve_left qn
      rw [show ((p : Nat) : Int).toNat = p from rfl] at hv h2
      have ok := (w.2.2.2.1 p hp).2.1
      have hrp := r_parts h hp (n := n) (by omega)
      have hr' : rM (S 84) p n = sm (n + 1) (fun s => yM (S 84) p s * bhM (S 84) p (n - s)) := by
        rcases ev_to hrp with q | ⟨q, _⟩
        · exact q
        · rw [CC_eq] at q; omega
      have hv' : v < sm (n + 1) (fun i => (fun s => yM (S 84) p s * bhM (S 84) p (n - s)) (0 + i)) := by
        rw [hr'] at hv
        rw [sm_congr (g := fun s => yM (S 84) p s * bhM (S 84) p (n - s)) (fun i _ => by rw [Nat.zero_add])]
        exact hv
      have hvC : v < CC := by rw [CC_eq]; omega
      obtain ⟨s, u, p1, e178⟩ := e_ge178 (rec := RX12_goesExpr g) (a4 := (nest : Int)) h hP.1 hp (show n ≤ 7 by omega) (n + 1) 0 v FU (by omega) (by unfold FU; omega) hvC hv'
      obtain ⟨s', u', p1', p2, p3, p4, p5⟩ := pk_ok (g := fun s => yM (S 84) p s * bhM (S 84) p (n - s)) (n + 1) 0 v hv'
      rw [p1] at p1'
      cases p1'
      try dsimp only at p4
      obtain ⟨d1, d2, d3⟩ := dm_lt p4
      have bl := bh_le h hp (n := n - s) (by omega)
      rw [tmI_s p1] at hy hl ⊢
      have vok := tmI_ok h rk (k + 1) p n v hp hn hv h2
      rw [tmI_s p1] at vok
      obtain ⟨v1, -⟩ := vok _ (List.mem_cons_self ..)
      obtain ⟨y1, y2, y3⟩ := hy _ (List.mem_cons_self ..)
      rw [show (cat ((p, s, u / bhM (S 84) p (n - s)) :: tmI (S 84) k (S 84 (96 + (p : Int))) (n - s) (u % bhM (S 84) p (n - s))) (txt (S 84) f)) = txt (S 84) f (p, s, u / bhM (S 84) p (n - s)) ++ cat (tmI (S 84) k (S 84 (96 + (p : Int))) (n - s) (u % bhM (S 84) p (n - s))) (txt (S 84) f) from rfl] at hl ⊢
      rw [List.length_append] at hl
      obtain ⟨T1, t1, t2⟩ := hr (p, s, u / bhM (S 84) p (n - s)) nest base l T v1 y1 hP hb y2 y3 (by omega)
      have dl := dp_le h rk f _ v1 y1
      have hP1 := hP.ef t2 (by omega)
      have e84 : T1 84 = S 84 := hP1.1.1
      obtain ⟨T2, u1, u2⟩ := ih (S 84 (96 + (p : Int))) (n - s) (u % bhM (S 84) p (n - s)) (l + (txt (S 84) f (p, s, u / bhM (S 84) p (n - s))).length) F T1 (by
        rcases ok with q | q
        · exact Or.inl (by omega)
        · refine Or.inr ⟨q.2, by omega, ?_, ?_⟩
          · rw [← bh_n (by omega)]; exact d3
          · rw [← bh_n (n := n - s) (by omega)]
            have le1 : yM (S 84) p s * bhM (S 84) p (n - s) ≤ 200 := by
              refine Nat.le_trans (le_sm (n := n + 1) (f := fun s => yM (S 84) p s * bhM (S 84) p (n - s)) (i := s) (by omega)) ?_
              rw [← hr']; exact h2
            exact Nat.le_trans (Nat.le_mul_of_pos_left _ (Nat.lt_of_le_of_lt (Nat.zero_le _) d2)) le1) (by omega) (by omega) (by omega) (fun y hy' => hy y (List.mem_cons_of_mem _ hy')) hP1 (t2.2.2.1.1.trans hb) (by omega)
      refine ⟨T2, ?_, t2.app u2⟩
      rw [mX12_goesExpr_170, gd_t (by omega), if_neg (by omega), bd2_e (show mX12_goesExpr_178 (RX12_goesExpr g) T (p : Int) (n : Int) (nest : Int) FU 0 (v : Int) = _ from e178), show (n : Int) - (s : Int) = ((n - s : Nat) : Int) by omega, bd1_e (e_behind w hP.1 hp (by omega)), gd_t ⟨by omega, by omega⟩, show (u : Int) / ((bhM (S 84) p (n - s) : Nat) : Int) = ((u / bhM (S 84) p (n - s) : Nat) : Int) from rfl, bd1_e t1, nx_e, show (u : Int) % ((bhM (S 84) p (n - s) : Nat) : Int) = ((u % bhM (S 84) p (n - s) : Nat) : Int) from rfl, nx_e, gd_t (by omega), nx_e, e84]
      exact u1
theorem up_same {T : St} {i : Nat} {k : Int} : up T i k (T i k) = T := by
  funext j q
  by_cases z : j = i
  · subst z
    rw [up_if]
    by_cases y : q = k
    · rw [if_pos y, y]
    · rw [if_neg y]
  · rw [up_n z]
theorem e_expr {S : St} {E TE : Nat → Prop} {rO rT rK : Nat → Nat} {f g nest base e n v l : Nat} {lo : Int} {T : St} (h : Cor S) (rk : RKs (S 84) E TE rO rT rK) (hr : HR (S 84) rO f g) (he : e < 30) (hlo : 0 ≤ lo) (hE : okE (S 84) lo e) (hn : (n : Int) ≤ S 84 1) (hv : v < sm (cnE (S 84) e) (fun t => byM (S 84) e t n)) (h2 : sm (cnE (S 84) e) (fun t => byM (S 84) e t n) ≤ 200) (hy : ∀ y ∈ exI (S 84) e n v, ms rO y < f ∧ base + ms rO y + 2 * y.2.1 ≤ 446 ∧ nest + ms rO y ≤ 440) (h27 : inI (T 83 27)) (hP : PR (S 84) (up T 83 27 (if 0 ≤ T 83 27 then T 83 27 else (((tmP (S 84) e n v).1 : Nat) : Int))) nest l) (hb : T 83 31 = (base : Int)) (hl : l + (dgS (S 84) e n v ++ cat (exI (S 84) e n v) (txt (S 84) f)).length ≤ 2000000000) : ∃ T', RX12_goesExpr (g + 1) 0 (e : Int) (n : Int) (v : Int) (nest : Int) T = some T' ∧ EF (up T 83 27 (if 0 ≤ T 83 27 then T 83 27 else (((tmP (S 84) e n v).1 : Nat) : Int))) T' nest (dgS (S 84) e n v ++ cat (exI (S 84) e n v) (txt (S 84) f)) (prd (exI (S 84) e n v) (trn (S 84) f)) (mxl (exI (S 84) e n v) (dpN (S 84) f)) := by
  have w := h.wf
  have hM1 := w.2.1
  have oe := hE.1
  obtain ⟨t, u, a1, a2, a3, a4, a5, a6, a7⟩ := exI_ok h rk hlo hE hn hv h2
  have hvC : v < CC := by rw [CC_eq]; omega
  have hT : cnt (S 84) (-1) T := hP.1.of (up_n (by decide)).symm (up_n (by decide)).symm (up_n (by decide)).symm
  have hv' : v < sm (cnE (S 84) e) (fun i => (fun t => byM (S 84) e t n) (0 + i)) := by
    rw [sm_congr (g := fun t => byM (S 84) e t n) (fun i _ => by rw [Nat.zero_add])]
    exact hv
  obtain ⟨t', u', b1, b2⟩ := e_ge18 (rec := RX12_goesExpr g) (a4 := (nest : Int)) h hT he hlo hE (show n ≤ 7 by omega) (cnE (S 84) e) 0 v FU (by omega) (by unfold cnE FU; omega) hvC hv'
  have ett : (t', u') = (t, u) := b1.symm.trans a1
  cases ett
  rw [a1] at hP ⊢
  dsimp only at hP ⊢
  obtain ⟨T1, hT1⟩ : ∃ T1, T1 = up T 83 27 (if 0 ≤ T 83 27 then T 83 27 else ((t : Nat) : Int)) := ⟨_, rfl⟩
  rw [← hT1] at hP ⊢
  have c84 : T1 84 = S 84 := hP.1.1
  have hb1 : T1 83 31 = (base : Int) := by rw [hT1, up_nk (by decide)]; exact hb
  obtain ⟨q1, q2, q3⟩ := hE.2.1 t a2
  have fp : fpM (S 84) e t = (((fpM (S 84) e t).toNat : Nat) : Int) := by omega
  -- the digit
  have dg : ∃ T2, (gd (inI (T1 84 (198 + (e : Int)))) <| if (T1 84 (198 + (e : Int))) ≤ 1 then (some T1) else (bd1 (mX12_signs T1 (48 + (t : Int))) fun S_61 => some (S_61))) = some T2 ∧ EF T1 T2 nest (dgS (S 84) e n v) 1 0 := by
    rw [c84, gd_t (by omega)]
    unfold dgS
    rw [a1]
    by_cases z : S 84 (198 + (e : Int)) ≤ 1
    · rw [if_pos z, if_pos (by unfold cnE; omega)]
      exact ⟨T1, rfl, EF.nil hP.2.1.1⟩
    · rw [if_neg z, if_neg (by unfold cnE; omega)]
      rw [List.length_append] at hl
      obtain ⟨T2, d1, d2⟩ := EF.sign (c := 48 + (t : Int)) hP.2.2.1 (by omega) hP.2.2.2.1 hP.2.1.1 (by have := hP.2.2.2.2.1; omega)
      exact ⟨T2, by rw [bd1_e d1], d2⟩
  obtain ⟨T2, d1, d2⟩ := dg
  rw [List.length_append] at hl
  have hP2 := hP.ef d2 (by have := hP.2.1; omega)
  have e84 : T2 84 = S 84 := hP2.1.1
  rw [a6] at hy hl ⊢
  obtain ⟨T3, g1, g2⟩ := e_170 (base := base) h rk hr 24 (((fpM (S 84) e t).toNat : Nat) : Int) n u (l + (dgS (S 84) e n v).length) FU T2 (Or.inr ⟨by omega, by omega, a4, a5⟩) (by omega) (by unfold FU; omega) hn hy hP2 (d2.2.2.1.1.trans hb1) (by omega)
  refine ⟨T3, ?_, ?_⟩
  · show (if (0 : Nat) = 0 then bX12_goesExpr (RX12_goesExpr g) T (e : Int) (n : Int) (v : Int) (nest : Int) else _) = _
    rw [if_pos rfl]
    unfold bX12_goesExpr
    have z11 : (gd (inI (T 83 27)) <| if 0 ≤ T 83 27 then some (T 83 27) else some ((t : Nat) : Int)) = some (if 0 ≤ T 83 27 then T 83 27 else ((t : Nat) : Int)) := by
      rw [gd_t h27]; split <;> rfl
    rw [gd_t (by omega), nx_e, hT.1, bd3_e (show mX12_goesExpr_18 (RX12_goesExpr g) T (e : Int) (n : Int) (nest : Int) FU (v : Int) (S 84 (168 + (e : Int))) 0 = _ from b2), bd1_e z11, nx_e, ← hT1, gd_t (by omega), bd1_e d1, gd_t (by omega), nx_e, e84, show S 84 (120 + tlM (S 84) e t) = (((fpM (S 84) e t).toNat : Nat) : Int) from fp, bd1_e g1]
  · have := d2.app g2
    rw [Nat.one_mul, Nat.zero_max] at this
    exact this
