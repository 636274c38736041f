/-! things as trees: what stands in one is there, and below it -/
theorem ex_pk {M : Int → Int} {e n v : Nat} (hv : v < sm (cnE M e) (fun t => byM M e t n)) : ∃ t w, tmP M e n v = (t, w) ∧ t < cnE M e ∧ offM M e t = false ∧ w < rM M (fpM M e t).toNat n ∧ w ≤ v ∧ byM M e t n = rM M (fpM M e t).toNat n := by
  rw [sm_congr (g := fun i => (fun t => byM M e t n) (0 + i)) (fun i _ => by rw [Nat.zero_add])] at hv
  obtain ⟨t, w, p1, p2, p3, p4, p5⟩ := pk_ok (g := fun t => byM M e t n) (cnE M e) 0 v hv
  try dsimp only at p4
  have no : offM M e t = false := by
    cases hb : offM M e t with
    | false => rfl
    | true =>
      unfold byM at p4
      rw [hb, if_pos rfl] at p4
      omega
  have eb : byM M e t n = rM M (fpM M e t).toNat n := by
    unfold byM
    rw [no, if_neg Bool.false_ne_true]; rfl
  exact ⟨t, w, p1, by omega, no, by rw [← eb]; exact p4, by omega, eb⟩
theorem exI_ok {S : St} {E TE : Nat → Prop} {rO rT rK : Nat → Nat} {lo : Int} {e n v : Nat} (h : Cor S) (rk : RKs (S 84) E TE rO rT rK) (hlo : 0 ≤ lo) (hE : okE (S 84) lo e) (hn : (n : Int) ≤ S 84 1) (hv : v < sm (cnE (S 84) e) (fun t => byM (S 84) e t n)) (h2 : sm (cnE (S 84) e) (fun t => byM (S 84) e t n) ≤ 200) : ∃ t w, tmP (S 84) e n v = (t, w) ∧ (t : Int) < S 84 (198 + (e : Int)) ∧ offM (S 84) e t = false ∧ w < rM (S 84) (fpM (S 84) e t).toNat n ∧ rM (S 84) (fpM (S 84) e t).toNat n ≤ 200 ∧ exI (S 84) e n v = tmI (S 84) 24 (((fpM (S 84) e t).toNat : Nat) : Int) n w ∧ ∀ y ∈ exI (S 84) e n v, VN (S 84) y ∧ y.2.1 ≤ n ∧ (y.2.1 < n ∨ rO y.1 < rT (fpM (S 84) e t).toNat) := by
  obtain ⟨t, w, t1, t2, t3, t4, t5, t6⟩ := ex_pk hv
  have oe := hE.1
  have tt : (t : Int) < S 84 (198 + (e : Int)) := by unfold cnE at t2; omega
  have q := (hE.2.1 t tt).2
  have r2 : rM (S 84) (fpM (S 84) e t).toNat n ≤ 200 := by
    rw [← t6]
    exact Nat.le_trans (le_sm (f := fun t => byM (S 84) e t n) t2) h2
  have ee : exI (S 84) e n v = tmI (S 84) 24 (((fpM (S 84) e t).toNat : Nat) : Int) n w := by
    unfold exI
    rw [t1, Int.toNat_of_nonneg (by omega)]
  refine ⟨t, w, t1, tt, t3, t4, r2, ee, ?_⟩
  rw [ee]
  exact tmI_ok h rk 24 _ n w (by omega) hn t4 r2
theorem sqI_ok {S : St} (h : Cor S) {p n v : Nat} (hp : (p : Int) < S 84 2) (hs : isSq (S 84) p) (hn : (n : Int) ≤ S 84 1) (hv : v < yM (S 84) p n) (h2 : yM (S 84) p n ≤ 200) : okL (cM (S 84) p) (sqI (S 84) p n v) ∧ tot (sqI (S 84) p n v) = n ∧ (0 ≤ nuM (S 84) p → (((sqI (S 84) p n v).length : Nat) : Int) = nuM (S 84) p) ∧ ∀ x ∈ sqI (S 84) p n v, cM (S 84) p x.1 ≤ 200 := by
  have w := h.wf
  have hM1 := w.2.1
  have nu := nu_ge w hp hs
  unfold sqI
  by_cases t3 : S 84 (24 + (p : Int)) = 3
  · rw [if_pos t3]
    have e := y_seq h hp (n := n) (by omega) hs (by omega)
    unfold sqN at e
    rw [if_pos t3] at e
    have e' : yM (S 84) p n = rwW (cM (S 84) p) (nuM (S 84) p) n := by
      rcases ev_to e with q | ⟨q, _⟩
      · exact q
      · rw [CC_eq] at q; omega
    rw [e'] at hv h2
    exact rwI_ok 7 n v _ (by omega) (by omega) nu.1 hv h2
  · rw [if_neg t3]
    by_cases t6 : S 84 (24 + (p : Int)) = 6
    · rw [if_pos t6]
      have e := y_ring h hp (n := n) (by omega) t6
      have e' : yM (S 84) p n = (rgM (S 84) p n).length := by
        rcases ev_to e with q | ⟨q, _⟩
        · exact q
        · rw [CC_eq] at q; omega
      rw [e'] at hv h2
      have ex : (rgM (S 84) p n)[v]? = some (((rgM (S 84) p n)[v]?).getD []) := by
        rw [List.getElem?_eq_getElem hv]; rfl
      obtain ⟨a, b, d, g, l, k1, k2⟩ := rg_ok (by omega) nu h2 ex
      exact ⟨a, b, d, k2⟩
    · rw [if_neg t6]
      have e := y_seq h hp (n := n) (by omega) hs t6
      unfold sqN at e
      rw [if_neg t3] at e
      have e' : yM (S 84) p n = bgN (cM (S 84) p) (S 84 (24 + (p : Int)) == 5) n (nuM (S 84) p) n (cM (S 84) p n) := by
        rcases ev_to e with q | ⟨q, _⟩
        · exact q
        · rw [CC_eq] at q; omega
      rw [e', ← bg_f0 nu.1] at hv h2
      obtain ⟨a, b, d, g⟩ := bgL_ok (B := 200) (by decide) 7 n v (n + 1) 0 (nuM (S 84) p) (by omega) (by omega) (by omega) nu.1 (fun _ => nu.2.1) (Or.inr (by omega)) hv h2
      refine ⟨a, b, d, fun x hx => ?_⟩
      have k := (ok_sm a b).2 x hx
      exact (g x hx).2 (by omega)
/-- whole in one: then it stands alone -/
theorem ok_one {c : Nat → Nat} {L : List (Nat × Nat)} {n : Nat} {x : Nat × Nat} (h : okL c L) (ht : tot L = n) (hx : x ∈ L) (e : x.1 = n) : L = [x] := by
  obtain ⟨s1, s2, es⟩ := List.append_of_mem hx
  subst es
  have t : tot s1 + (x.1 + tot s2) = n := by rw [tot_app] at ht; exact ht
  have a := ok_tot0 (s := s1) (fun y hy => h y (List.mem_append.mpr (Or.inl hy))) (by omega)
  have b := ok_tot0 (s := s2) (fun y hy => h y (List.mem_append.mpr (Or.inr (List.mem_cons_of_mem _ hy)))) (by omega)
  rw [a, b]; rfl
theorem itm_ok {S : St} {E TE : Nat → Prop} {rO rT rK : Nat → Nat} (h : Cor S) (rk : RKs (S 84) E TE rO rT rK) {x : Nat × Nat × Nat} (hx : VN (S 84) x) : ∀ y ∈ itm (S 84) x, VN (S 84) y ∧ ms rO y < ms rO x ∧ y.2.1 ≤ x.2.1 := by
  obtain ⟨p, n, v⟩ := x
  obtain ⟨hp, hn, hv, h2⟩ := hx
  have w := h.wf
  have hM1 := w.2.1
  obtain ⟨ok1, ok2, ok3, ok4, ok5, ok6⟩ := w.2.2.2.1 p hp
  have rk' := rk
  obtain ⟨⟨KE, o⟩, r54, sup⟩ := rk
  obtain ⟨o1, o2, o3, o4, o5, o6⟩ := o.2.2.1 p hp
  dsimp only at hp hn hv h2
  intro y hy
  unfold itm at hy
  dsimp only at hy
  by_cases t1 : S 84 (24 + (p : Int)) ≤ 1
  · rw [if_pos t1] at hy; cases hy
  rw [if_neg t1] at hy
  have close : ∀ (lo : Int) (R : Nat), 0 ≤ lo → okE (S 84) lo (exN (S 84) p) → ev (yM (S 84) p n) (sm (cnE (S 84) (exN (S 84) p)) (fun t => byM (S 84) (exN (S 84) p) t n)) → (∀ t : Nat, (t : Int) < S 84 (198 + ((exN (S 84) p : Nat) : Int)) → rT (fpM (S 84) (exN (S 84) p) t).toNat < rO p) → y ∈ exI (S 84) (exN (S 84) p) n v → VN (S 84) y ∧ ms rO y < ms rO (p, n, v) ∧ y.2.1 ≤ n := by
    intro lo R hlo hE he hr hy
    have e' : yM (S 84) p n = sm (cnE (S 84) (exN (S 84) p)) (fun t => byM (S 84) (exN (S 84) p) t n) := by
      rcases ev_to he with q | ⟨q, _⟩
      · exact q
      · rw [CC_eq] at q; omega
    rw [e'] at hv h2
    obtain ⟨t, u, a1, a2, a3, a4, a5, a6, a7⟩ := exI_ok h rk' hlo hE hn hv h2
    obtain ⟨b1, b2, b3⟩ := a7 y hy
    refine ⟨b1, ?_, b2⟩
    show 54 * y.2.1 + rO y.1 < 54 * n + rO p
    have r1 := r54 y.1 b1.1
    have r2 := hr t a2
    rcases b3 with q | q <;> omega
  by_cases t2 : S 84 (24 + (p : Int)) = 2
  · rw [if_pos (Or.inl t2)] at hy
    have k := ok4 t2
    have ek : ((exN (S 84) p : Nat) : Int) = S 84 (48 + (p : Int)) := by unfold exN; omega
    refine close 0 0 (by omega) (w.2.2.2.2.1 _ (by omega)) ?_ (fun t ht => ?_) hy
    · rw [y_name h hp (by omega) t2]
      exact k_terms h (show (((S 84 (48 + (p : Int))).toNat : Nat) : Int) < S 84 0 by omega) (by omega)
    · have a := o1 t2
      have b := o.2.2.2 (exN (S 84) p) (by omega) t ht
      unfold exN at b ⊢
      omega
  by_cases t7 : S 84 (24 + (p : Int)) = 7
  · rw [if_pos (Or.inr t7)] at hy
    obtain ⟨k1, k2, k3⟩ := ok5 t7
    have ek : exN (S 84) p = 6 + p := by unfold exN; omega
    refine close ((p : Int) + 1) 0 (by omega) (by rw [ek]; exact k3) ?_ (fun t ht => ?_) hy
    · rw [ek]; exact y_group h hp (by omega) t7
    · rw [ek] at ht ⊢
      exact o2 t7 t ht
  · rw [if_neg (by omega)] at hy
    have hs : isSq (S 84) p := by unfold isSq; omega
    have k6 := ok6 hs
    obtain ⟨a, b, d, g⟩ := sqI_ok h hp hs hn hv h2
    obtain ⟨z, z1, z2⟩ := List.mem_map.mp hy
    subst z2
    have az := a z z1
    have bz := (ok_sm a b).2 z z1
    have ec : ((chM (S 84) p : Nat) : Int) < S 84 2 := by unfold chM; omega
    refine ⟨⟨ec, by show (z.1 : Int) ≤ _; omega, az.2, g z z1⟩, ?_, bz⟩
    show 54 * z.1 + rO (chM (S 84) p) < 54 * n + rO p
    have r1 := r54 _ ec
    by_cases q : z.1 < n
    · omega
    · have one := ok_one a b z1 (by omega)
      have nuW : nuM (S 84) p = if S 84 (48 + (p : Int)) = 0 then -1 else S 84 (48 + (p : Int)) := rfl
      have n1 : S 84 (48 + (p : Int)) ≤ 1 := by
        by_cases v0 : S 84 (48 + (p : Int)) = 0
        · omega
        · have := d (by rw [nuW, if_neg v0]; omega)
          rw [one, nuW, if_neg v0] at this
          have l1 : (([z] : List (Nat × Nat)).length : Int) = 1 := rfl
          omega
      have := o3 ⟨hs.1, hs.2, n1⟩
      unfold chM
      omega
theorem sq_small {S : St} (h : Cor S) {p n v : Nat} (hp : (p : Int) < S 84 2) (hs : isSq (S 84) p) (hn : (n : Int) ≤ S 84 1) (hv : v < yM (S 84) p n) (h2 : yM (S 84) p n ≤ 200) : smL' (sqI (S 84) p n v) ∧ (sqI (S 84) p n v).length ≤ 7 := by
  have hM1 := h.wf.2.1
  obtain ⟨a, b, d, g⟩ := sqI_ok h hp hs hn hv h2
  have k := ok_sm a b
  refine ⟨fun x hx => ⟨by have := k.2 x hx; omega, ?_⟩, by omega⟩
  have := (a x hx).2
  have := g x hx
  omega
