/-! the term on which most hangs -/
def hgS (M : Int → Int) (k n c : Nat) (x : Int × Nat) : Int × Nat := if ((c % 10 : Nat) : Int) < M (198 + ((c / 10 : Nat) : Int)) ∧ kM (offS M (c / 10) (c % 10)) k n < x.2 then ((c : Int), kM (offS M (c / 10) (c % 10)) k n) else x
def hgI (M : Int → Int) (k n : Nat) : Nat → Nat → Int × Nat → Int × Nat
  | 0, _, x => x
  | j + 1, c, x => hgI M k n j (c + 1) (hgS M k n c x)
theorem hgI_s {M : Int → Int} {k n j c : Nat} {x : Int × Nat} : hgI M k n (j + 1) c x = hgI M k n j (c + 1) (hgS M k n c x) := rfl
theorem hgI_add {M : Int → Int} {k n j : Nat} : ∀ (i c : Nat) (x : Int × Nat), hgI M k n (i + j) c x = hgI M k n j (c + i) (hgI M k n i c x) := by
  intro i
  induction i with
  | zero => intro c x; rw [Nat.zero_add]; rfl
  | succ i ih =>
    intro c x
    rw [show i + 1 + j = (i + j) + 1 by omega, hgI_s, ih, hgI_s, show c + 1 + i = c + (i + 1) by omega]
theorem hgS_le {M : Int → Int} {k n c : Nat} {x : Int × Nat} : (hgS M k n c x).2 ≤ x.2 := by
  unfold hgS
  by_cases q : ((c % 10 : Nat) : Int) < M (198 + ((c / 10 : Nat) : Int)) ∧ kM (offS M (c / 10) (c % 10)) k n < x.2
  · rw [if_pos q]
    have q2 := q.2
    generalize kM (offS M (c / 10) (c % 10)) k n = z at q2 ⊢
    exact Nat.le_of_lt q2
  · rw [if_neg q]; exact Nat.le_refl _
theorem hgI_le {M : Int → Int} {k n : Nat} : ∀ (j c : Nat) (x : Int × Nat), (hgI M k n j c x).2 ≤ x.2 := by
  intro j
  induction j with
  | zero => intro c x; exact Nat.le_refl _
  | succ j ih => intro c x; exact Nat.le_trans (ih _ _) hgS_le
theorem hgS_I {M : Int → Int} {k n c : Nat} {x : Int × Nat} (hx : inI x.1) (hc : c < 100) : inI (hgS M k n c x).1 := by
  unfold hgS
  split
  · show inI (c : Int); omega
  · exact hx
theorem hgI_I {M : Int → Int} {k n : Nat} : ∀ (j c : Nat) (x : Int × Nat), inI x.1 → c + j < 100 → inI (hgI M k n j c x).1 := by
  intro j
  induction j with
  | zero => intro c x hx _; exact hx
  | succ j ih => intro c x hx hc; exact ih _ _ (hgS_I hx (by omega)) (by omega)
theorem hgI_id {M : Int → Int} {k n : Nat} {x : Int × Nat} : ∀ (j c : Nat), (∀ i, i < j → hgS M k n (c + i) x = x) → hgI M k n j c x = x := by
  intro j
  induction j with
  | zero => intro c _; rfl
  | succ j ih =>
    intro c h
    rw [hgI_s, show hgS M k n c x = x from h 0 (by omega)]
    exact ih _ (fun i hi => by rw [show c + 1 + i = c + (i + 1) by omega]; exact h (i + 1) (by omega))
theorem e_hg37 {S : St} (h : Cor S) {k n : Nat} (hk : (k : Int) < S 84 0) (hn : n ≤ 7) : ∀ (j c f : Nat) (w : Int) (b : Nat) (T : St), T 84 = S 84 → ((c + j : Nat) : Int) = S 84 0 * 10 → j < f → inI w → b ≤ 1000000000000 → ∃ T' : St, mX12_hangs_37 (k : Int) (n : Int) f (c : Int) w (b : Int) T = some ((hgI (S 84) k n j c (w, b)).1, T') ∧ kept [90, 91, 92] [] T T' := by
  have w := h.wf
  have hM0 := w.1
  have h0 := h
  obtain ⟨E, TE, KE, rO, rT, rK, st, w', o, ti⟩ := h
  intro j
  induction j with
  | zero =>
    intro c f v b T h84 hc hf hv hb
    obtain ⟨g, rfl⟩ : ∃ g, f = g + 1 := ⟨f - 1, by omega⟩
    refine ⟨T, ?_, kept.rf⟩
    rw [mX12_hangs_37, h84, gd_t (by omega), if_pos (by omega)]
    rfl
  | succ j ih =>
    intro c f v b T h84 hc hf hv hb
    obtain ⟨g, rfl⟩ : ∃ g, f = g + 1 := ⟨f - 1, by omega⟩
    have d1 : (c : Int) / 10 = ((c / 10 : Nat) : Int) := by omega
    have d2 : (c : Int) % 10 = ((c % 10 : Nat) : Int) := by omega
    have it := e_isTerm h0 h84 (a := ((c / 10 : Nat) : Int)) (b := ((c % 10 : Nat) : Int)) (by omega) (by omega)
    have hE : ((c / 10 : Nat) : Int) < S 84 0 := by omega
    have s1 : (c : Int) + 1 = ((c + 1 : Nat) : Int) := by omega
    rw [mX12_hangs_37, h84, gd_t (by omega), if_neg (by omega), gd_t (by omega), d1, d2, hgI_s]
    by_cases x : ((c % 10 : Nat) : Int) < S 84 (198 + ((c / 10 : Nat) : Int))
    · rw [if_pos ⟨⟨by omega, hE⟩, by omega, x⟩] at it
      obtain ⟨T1, f1, f2⟩ := f_without (T := T) w o h84 (e := c / 10) (t := c % 10) (x := k) (n := n) hE x hk hn
      have e84 : T1 84 = S 84 := by rw [f2.cell 84 (by decide) (by decide)]; exact h84
      have oe := (w.2.2.2.2.1 (c / 10) hE).1
      have e6 : c / 10 < 6 := by omega
      have s6 := offS_same (M := S 84) (t := c % 10) e6
      have kl := kM_le (offS_wf w e6 (show c % 10 < 10 by omega)) (Ord6 s6 w o) (e := k) (n := n) (by rw [s6 0 (by omega)]; exact hk) hn
      rw [bd1_e it, gd_t (by decide), if_neg (by decide), bd2_e f1, gd_t (by omega)]
      by_cases y : kM (offS (S 84) (c / 10) (c % 10)) k n < b
      · obtain ⟨T', a1, a2⟩ := ih (c + 1) g (c : Int) (kM (offS (S 84) (c / 10) (c % 10)) k n) T1 e84 (by omega) (by omega) (by omega) kl
        refine ⟨T', ?_, kept.trans f2 a2⟩
        rw [if_neg (by omega), s1, a1]
        unfold hgS
        rw [if_pos ⟨x, y⟩]
      · obtain ⟨T', a1, a2⟩ := ih (c + 1) g v b T1 e84 (by omega) (by omega) hv hb
        refine ⟨T', ?_, kept.trans f2 a2⟩
        rw [if_pos (by omega), s1, a1]
        unfold hgS
        rw [if_neg (fun z => y z.2)]
    · rw [if_neg (fun z => x z.2.2)] at it
      obtain ⟨T', a1, a2⟩ := ih (c + 1) g v b T h84 (by omega) (by omega) hv hb
      refine ⟨T', ?_, a2⟩
      rw [bd1_e it, gd_t (by decide), if_pos rfl, s1, a1]
      unfold hgS
      rw [if_neg (fun z => x z.1)]
/-- what stays as the class asks -/
def HV (S S' : St) : Prop := Cor S' ∧ nbK S' ∧ LG3 S' ∧ kept [49, 50, 51, 52, 53, 59] [(48, 1), (47, 4)] S S'
theorem HV.e84 {S S' : St} (h : HV S S') : S' 84 = S 84 := h.2.2.2.cell 84 (by decide) (by decide)
theorem e_hc60 {S : St} (h : Cor S) (ce : CE (S 84)) {k n e C : Nat} (hk : (k : Int) < S 84 0) (hn : (n : Int) ≤ S 84 1) (he : (e : Int) < S 84 0) (hC : C < 64) (cb : C.testBit e = true) : ∀ (j t f : Nat) (v : Int) (b : Nat) (T : St), HV S T → ((t + j : Nat) : Int) = S 84 (198 + (e : Int)) → j < f → inI v → b ≤ kM (S 84) k n → ∃ T' : St, mX11_hangs_60 (e : Int) (C : Int) (k : Int) (n : Int) f (t : Int) v (b : Int) T = some (((hgI (S 84) k n j (e * 10 + t) (v, b)).2 : Int), (hgI (S 84) k n j (e * 10 + t) (v, b)).1, T') ∧ HV S T' := by
  have w := h.wf
  have hM0 := w.1
  have hM1 := w.2.1
  have oe := (w.2.2.2.2.1 e he).1
  have kb := h.kle hk (n := n) (by omega)
  have nr : an (shr (C : Int) (e : Int)) 1 = 1 := by
    rw [has_bt (by omega) (by omega) (by omega) (by omega), if_pos]
    show C.testBit e = true
    exact cb
  intro j
  induction j with
  | zero =>
    intro t f v b T hT hc hf hv hb
    obtain ⟨g, rfl⟩ : ∃ g, f = g + 1 := ⟨f - 1, by omega⟩
    refine ⟨T, ?_, hT⟩
    have c8 : T 8 (e : Int) = S 84 (198 + (e : Int)) := by rw [← hT.e84]; exact hT.1.gm.2.2.1 e (by omega)
    rw [mX11_hangs_60, nr, gd_t (by decide), if_neg (by decide), gd_t (by omega), c8, gd_t (by omega), if_pos (by omega)]
    rfl
  | succ j ih =>
    intro t f v b T hT hc hf hv hb
    obtain ⟨g, rfl⟩ : ∃ g, f = g + 1 := ⟨f - 1, by omega⟩
    have e84 := hT.e84
    have c8 : T 8 (e : Int) = S 84 (198 + (e : Int)) := by rw [← e84]; exact hT.1.gm.2.2.1 e (by omega)
    have io := e_isOff2 hT.1.wf hT.1.gm (e := e) (t := t) (by omega) (by omega)
    have s1 : (t : Int) + 1 = ((t + 1 : Nat) : Int) := by omega
    have dv1 : (e * 10 + t) / 10 = e := by omega
    have dv2 : (e * 10 + t) % 10 = t := by omega
    have c1 : e * 10 + t + 1 = e * 10 + (t + 1) := by omega
    rw [mX11_hangs_60, nr, gd_t (by decide), if_neg (by decide), gd_t (by omega), c8, gd_t (by omega), if_neg (by omega), hgI_s, bd1_e io, e84]
    cases ho : offM (S 84) e t with
    | true =>
      obtain ⟨T', a1, a2⟩ := ih (t + 1) g v b T hT (by omega) (by omega) hv hb
      refine ⟨T', ?_, a2⟩
      have same : hgS (S 84) k n (e * 10 + t) (v, b) = (v, b) := by
        unfold hgS
        rw [dv1, dv2, offS_eq w (by omega) ho, if_neg (fun z => by have := z.2; dsimp only at this; omega)]
      rw [same, c1, if_pos (show true = true from rfl), gd_t (by decide), if_neg (by decide), bd2_s, gd_t (by omega), if_pos (by omega), s1, a1]
    | false =>
      obtain ⟨T1, l1, l0, l2, l3, l4⟩ := w_without hT.1 (by rw [e84]; exact ce) hT.2.1 hT.2.2.1 (e := e) (t := t) (x := k) (n := n) (by rw [e84]; exact he) (by rw [e84]; omega) (by rw [e84]; exact hk) (by rw [e84]; exact hn)
      rw [e84] at l1 l0
      have e84' : T1 84 = T 84 := l2.cell 84 (by decide) (by decide)
      have h1 : HV S T1 := ⟨hT.1.of e84' (fun i _ _ => l2.cell i (by simp; omega) (by simp; omega)) (fun i _ _ => l2.cell i (by simp; omega) (by simp; omega)), l3, l4, kept.trans hT.2.2.2 l2⟩
      rw [if_neg (show ¬ (false = true) by decide), gd_t (by decide), if_pos rfl, bd2_e l1, bd2_s, gd_t (by omega)]
      by_cases y : kM (offS (S 84) e t) k n < b
      · obtain ⟨T', a1, a2⟩ := ih (t + 1) g ((e * 10 + t : Nat) : Int) (kM (offS (S 84) e t) k n) T1 h1 (by omega) (by omega) (by omega) (by omega)
        refine ⟨T', ?_, a2⟩
        have step : hgS (S 84) k n (e * 10 + t) (v, b) = (((e * 10 + t : Nat) : Int), kM (offS (S 84) e t) k n) := by
          unfold hgS
          rw [dv1, dv2, if_pos ⟨by omega, y⟩]
        rw [step, c1, if_neg (by omega), nx_e, show 10 * (e : Int) + (t : Int) = ((e * 10 + t : Nat) : Int) by omega, s1, a1]
      · obtain ⟨T', a1, a2⟩ := ih (t + 1) g v b T1 h1 (by omega) (by omega) hv hb
        refine ⟨T', ?_, a2⟩
        have step : hgS (S 84) k n (e * 10 + t) (v, b) = (v, b) := by
          unfold hgS
          rw [dv1, dv2, if_neg (fun z => y z.2)]
        rw [step, c1, if_pos (by omega), s1, a1]
