/-! the class: a term's parts laid on the stack -/
def cdP (x : Nat × Nat × Nat) : Int := (((x.1 * 8 + x.2.1) * 1024 + x.2.2 : Nat) : Int)
/-- what waits, the next one first -/
def stk (S : St) (l : List Int) : Prop := S 60 12 = ((l.length : Nat) : Int) ∧ ∀ (j : Nat) (x : Int), l[j]? = some x → S 66 ((l.length - 1 - j : Nat) : Int) = x
def chn (M : Int → Int) : Nat → Int → Nat
  | 0, _ => 0
  | f + 1, q => if q < 0 then 0 else 1 + chn M f (M (96 + ((q.toNat : Nat) : Int)))
theorem chn_n {M : Int → Int} {f : Nat} {q : Int} (h : q < 0) : chn M f q = 0 := by
  cases f with
  | zero => rfl
  | succ f => exact if_pos h
theorem chn_s {M : Int → Int} {f p : Nat} : chn M (f + 1) (p : Int) = 1 + chn M f (M (96 + (p : Int))) := if_neg (by omega)
theorem tmI_len {M : Int → Int} : ∀ (f : Nat) (q : Int) (n v : Nat), (tmI M f q n v).length = chn M f q := by
  intro f
  induction f with
  | zero => intro q n v; rfl
  | succ f ih =>
    intro q n v
    by_cases z : q < 0
    · rw [tmI_n z, chn_n z]; rfl
    · obtain ⟨p, rfl⟩ : ∃ p : Nat, q = (p : Int) := ⟨q.toNat, by omega⟩
      rw [chn_s, tmI_s (s := (pkS (fun s => yM M p s * bhM M p (n - s)) (n + 1) 0 v).1) (w := (pkS (fun s => yM M p s * bhM M p (n - s)) (n + 1) 0 v).2) rfl, List.length_cons, ih]
      omega
theorem e_pt6 {S : St} {a b c : Int} (h : Cor S) : ∀ (d f p k : Nat), 24 ≤ p + d → (p : Int) < S 84 2 → k ≤ p → d < f → mX9_pushTerm_6 S a b c f (p : Int) (k : Int) = some ((k + chn (S 84) d (p : Int) : Nat) : Int) ∧ k + chn (S 84) d (p : Int) ≤ 24 := by
  have w := h.wf
  have hM2 := w.2.2.1
  intro d
  induction d with
  | zero => intro f p k hd hp hk hf; omega
  | succ d ih =>
    intro f p k hd hp hk hf
    obtain ⟨f, rfl⟩ : ∃ f', f = f' + 1 := ⟨f - 1, by omega⟩
    have ok := (w.2.2.2.1 p hp).2.1
    have g6 := (h.gm.2.1 p hp).2.1
    rw [chn_s, mX9_pushTerm_6, gd_t (by omega), if_neg (by omega), gd_t (by omega), if_neg (by omega), gd_t (by omega), nx_e, g6]
    rcases ok with q | q
    · rw [q, chn_n (by decide)]
      obtain ⟨f, rfl⟩ : ∃ f', f = f' + 1 := ⟨f - 1, by omega⟩
      refine ⟨?_, by omega⟩
      rw [mX9_pushTerm_6, gd_t (by decide), if_pos rfl]
      exact congrArg some (by omega)
    · obtain ⟨p', hp'⟩ : ∃ p' : Nat, S 84 (96 + (p : Int)) = (p' : Int) := ⟨(S 84 (96 + (p : Int))).toNat, by omega⟩
      rw [hp'] at q ⊢
      obtain ⟨i1, i2⟩ := ih f p' (k + 1) (by omega) (by omega) (by omega) (by omega)
      rw [show ((k + 1 : Nat) : Int) = (k : Int) + 1 by omega] at i1
      refine ⟨?_, by omega⟩
      rw [i1]
      exact congrArg some (by omega)
/-- in how many ways what is behind has a size -/
theorem e_behind40 {S : St} (h : Cor S) {p n : Nat} (hp : (p : Int) < S 84 2) (hn : (n : Int) ≤ S 84 1) : ∃ x : Nat, mX0_from_40 S (S 84 (96 + (p : Int))) (n : Int) = some (x : Int) ∧ ev x (bhM (S 84) p n) ∧ x ≤ HH := by
  have w := h.wf
  have hM1 := w.2.1
  rcases (w.2.2.2.1 p hp).2.1 with q | q
  · refine ⟨if n = 0 then 1 else 0, ?_, ?_, ?_⟩
    · unfold mX0_from_40
      rw [q, gd_t (by decide), if_pos rfl, gd_t (by omega)]
      by_cases z : n = 0
      · rw [if_pos (by omega), if_pos z]; rfl
      · rw [if_neg (by omega), if_neg z]; rfl
    · rw [bh_l (by omega)]; exact ev.rf
    · refine Nat.le_trans (m := 1) ?_ (by decide)
      split <;> omega
  · obtain ⟨p', hp'⟩ : ∃ p' : Nat, S 84 (96 + (p : Int)) = (p' : Int) := ⟨(S 84 (96 + (p : Int))).toNat, by omega⟩
    rw [hp'] at q
    obtain ⟨x, x1, x2, x3⟩ := e_from40 h (p := p') (n := n) (by omega) hn
    refine ⟨x, by rw [hp']; exact x1, ?_, x3⟩
    rw [bh_n (by omega), hp']
    exact x2
theorem e_pt105 {S : St} {a b : Int} (h : Cor S) {p n : Nat} (hp : (p : Int) < S 84 2) (hn : (n : Int) ≤ S 84 1) : ∀ (d s v f k : Nat), s + d = n → d < f → v ≤ 1000 → v < sm (d + 1) (fun i => (fun s => yM (S 84) p s * bhM (S 84) p (n - s)) (s + i)) → ev k (bhM (S 84) p (n - s)) → k ≤ HH → ∃ t u k', pkS (fun s => yM (S 84) p s * bhM (S 84) p (n - s)) (d + 1) s v = (t, u) ∧ mX9_pushTerm_105 S (S 84 (96 + (p : Int))) a (p : Int) (n : Int) b f (k : Int) (s : Int) (v : Int) = some ((u : Int), (t : Int), ((k' : Nat) : Int)) ∧ ev k' (bhM (S 84) p (n - t)) ∧ k' ≤ HH := by
  have w := h.wf
  have hM1 := w.2.1
  intro d
  induction d with
  | zero =>
    intro s v f k hd hf hv hsm hk hkH
    obtain ⟨f, rfl⟩ : ∃ f', f = f' + 1 := ⟨f - 1, by omega⟩
    rw [sm_s, sm_0, Nat.zero_add, Nat.add_zero] at hsm
    refine ⟨s, v, k, pq_lt (g := fun s => yM (S 84) p s * bhM (S 84) p (n - s)) hsm, ?_, hk, hkH⟩
    rw [mX9_pushTerm_105, gd_t (by omega), if_pos (by omega)]
  | succ d ih =>
    intro s v f k hd hf hv hsm hk hkH
    obtain ⟨f, rfl⟩ : ∃ f', f = f' + 1 := ⟨f - 1, by omega⟩
    obtain ⟨x, x1, x2, x3⟩ := e_of40 h hp (n := s) (by omega)
    have evp : ev (min HH (x * k)) (yM (S 84) p s * bhM (S 84) p (n - s)) := ev_HHs (ev_mul x2 hk)
    have hle : min HH (x * k) ≤ HH := min_le'
    have hl2 := HH_in hle
    obtain ⟨c1, c3⟩ := ev_lt evp (v := v) (by rw [CC_eq]; omega)
    by_cases z : v < min HH (x * k)
    · refine ⟨s, v, k, pq_lt (g := fun s => yM (S 84) p s * bhM (S 84) p (n - s)) (c1.mp z), ?_, hk, hkH⟩
      rw [mX9_pushTerm_105, gd_t (by omega), if_neg (by omega), bd1_e x1, bd1_e (e_timesH x3 hkH), gd_t (by omega), if_pos (by omega)]
    · have e := c3 z
      have hsm := Nat.lt_of_lt_of_eq hsm (sm_sh (g := fun s => yM (S 84) p s * bhM (S 84) p (n - s)) (s := s) (d + 1))
      try dsimp only at hsm
      obtain ⟨y, y1, y2, y3⟩ := e_behind40 h hp (n := n - (s + 1)) (by omega)
      obtain ⟨t, u, b', a1, a2, a3, a4⟩ := ih (s + 1) (v - yM (S 84) p s * bhM (S 84) p (n - s)) f y (by omega) (by omega) (by omega) (by show _ < sm (d + 1) (fun i => yM (S 84) p (s + 1 + i) * bhM (S 84) p (n - (s + 1 + i))); omega) y2 y3
      refine ⟨t, u, b', (pq_ge (g := fun s => yM (S 84) p s * bhM (S 84) p (n - s)) (by omega)).trans a1, ?_, a3, a4⟩
      rw [mX9_pushTerm_105, gd_t (by omega), if_neg (by omega), bd1_e x1, bd1_e (e_timesH x3 hkH), gd_t (by omega), if_neg (by omega), bd1_e x1, bd1_e (e_timesH x3 hkH), nx_e, show (n : Int) - ((s : Int) + 1) = ((n - (s + 1) : Nat) : Int) by omega, bd1_e y1]
      rw [show ((s + 1 : Nat) : Int) = (s : Int) + 1 by omega, ← e] at a2
      rw [show (v : Int) - ((min HH (x * k) : Nat) : Int) = ((v - min HH (x * k) : Nat) : Int) by omega]
      exact a2
theorem e_pt66 {M : Int → Int} {y : Int} : ∀ (d p n v f tp : Nat) (S : St), Cor S → S 84 = M → 24 ≤ p + d → (p : Int) < M 2 → (n : Int) ≤ M 1 → v < rM M p n → rM M p n ≤ 200 → S 60 12 = (tp : Int) → tp + chn M d (p : Int) ≤ 1100 → d < f → ∃ S', mX9_pushTerm_66 y f (((chn M d (p : Int) : Nat) : Int) - 1) (p : Int) (v : Int) (n : Int) S = some S' ∧ (∀ (j : Nat) x, (tmI M d (p : Int) n v)[j]? = some x → S' 66 ((tp + (chn M d (p : Int) - 1 - j) : Nat) : Int) = cdP x) ∧ (∀ k : Int, k < (tp : Int) ∨ ((tp + chn M d (p : Int) : Nat) : Int) ≤ k → S' 66 k = S 66 k) ∧ kept [66] [] S S' := by
  intro d
  induction d with
  | zero =>
    intro p n v f tp S h e84 hd hp
    have := h.wf.2.2.1
    rw [e84] at this
    omega
  | succ d ih =>
    intro p n v f tp S h e84 hd hp hn hv h2 ht hl hf
    obtain ⟨f, rfl⟩ : ∃ f', f = f' + 1 := ⟨f - 1, by omega⟩
    subst e84
    have w := h.wf
    have hM1 := w.2.1
    have hM2 := w.2.2.1
    have ok := (w.2.2.2.1 p hp).2.1
    have g6 := (h.gm.2.1 p hp).2.1
    have hr := r_parts h hp (n := n) (by omega)
    have hr' : rM (S 84) p n = sm (n + 1) (fun s => yM (S 84) p s * bhM (S 84) p (n - s)) := by
      rcases ev_to hr with q | ⟨q, _⟩
      · exact q
      · rw [CC_eq] at q; omega
    rw [hr', sm_congr (g := fun i => (fun s => yM (S 84) p s * bhM (S 84) p (n - s)) (0 + i)) (fun i _ => by rw [Nat.zero_add])] at hv
    obtain ⟨s, u, p1, p2, p3, p4, p5⟩ := pk_ok (g := fun s => yM (S 84) p s * bhM (S 84) p (n - s)) (n + 1) 0 v hv
    try dsimp only at p4
    obtain ⟨d1, d2, d3⟩ := dm_lt p4
    have le1 : yM (S 84) p s * bhM (S 84) p (n - s) ≤ 200 := by
      refine Nat.le_trans (le_sm (n := n + 1) (f := fun s => yM (S 84) p s * bhM (S 84) p (n - s)) (i := s) (by omega)) ?_
      rw [← hr']; exact h2
    have yp : 0 < yM (S 84) p s := Nat.lt_of_le_of_lt (Nat.zero_le _) d2
    have le2 : yM (S 84) p s ≤ 200 := Nat.le_trans (Nat.le_mul_of_pos_right _ d1) le1
    have le3 : bhM (S 84) p (n - s) ≤ 200 := Nat.le_trans (Nat.le_mul_of_pos_left _ yp) le1
    obtain ⟨b0, b1, b2, b3⟩ := e_behind40 h hp (n := n) hn
    have hv200 : v < 200 := by rw [← sm_congr (f := fun s => yM (S 84) p s * bhM (S 84) p (n - s)) (fun i _ => by rw [Nat.zero_add]), ← hr'] at hv; omega
    obtain ⟨t', u', k', q1, q2, q3, q4⟩ := e_pt105 (a := ((chn (S 84) (d + 1) (p : Int) : Nat) : Int) - 1) (b := y) h hp hn n 0 v FU b0 (by omega) (by unfold FU; omega) (by omega) hv (by rw [Nat.sub_zero]; exact b2) b3
    rw [p1] at q1
    cases q1
    have k'e : k' = bhM (S 84) p (n - s) := by
      rcases ev_to q3 with q | ⟨_, q⟩
      · exact q
      · rw [CC_eq] at q; omega
    subst k'e
    obtain ⟨W, hW⟩ : ∃ W, u / bhM (S 84) p (n - s) = W := ⟨_, rfl⟩
    have ul : W < 200 := by rw [← hW]; omega
    obtain ⟨c, hc⟩ : ∃ c, c = chn (S 84) (d + 1) (p : Int) := ⟨_, rfl⟩
    have cS : c = 1 + chn (S 84) d (S 84 (96 + (p : Int))) := by rw [hc]; exact chn_s
    rw [← hc] at hl q2 ⊢
    obtain ⟨U, hU⟩ : ∃ U, U = up S 66 ((tp + (c - 1) : Nat) : Int) (cdP (p, s, u / bhM (S 84) p (n - s))) := ⟨_, rfl⟩
    have kU : kept [66] [] S U := by rw [hU]; exact kept.upA kept.rf (by simp)
    have U84 : U 84 = S 84 := kU.cell 84 (by decide) (by decide)
    have step : mX9_pushTerm_66 y (f + 1) ((c : Int) - 1) (p : Int) (v : Int) (n : Int) S = mX9_pushTerm_66 y f ((c : Int) - 1 - 1) (S 84 (96 + (p : Int))) (((u % bhM (S 84) p (n - s) : Nat)) : Int) (((n - s : Nat)) : Int) U := by
      rw [mX9_pushTerm_66, gd_t (by omega), if_neg (by omega), gd_t (by omega), if_neg (by omega), gd_t (by omega), nx_e, g6, bd1_e b1, bd3_e (show mX9_pushTerm_105 S (S 84 (96 + (p : Int))) ((c : Int) - 1) (p : Int) (n : Int) y FU ((b0 : Nat) : Int) 0 (v : Int) = some ((u : Int), (s : Int), ((bhM (S 84) p (n - s) : Nat) : Int)) from q2)]
      rw [gd_t (by omega), if_pos (by omega), gd_t (by omega), ← Int.natCast_ediv, hW, bd1_e rfl, gd_t (by omega), ht, gd_t (by omega), nx_e, gd_t (by omega), if_pos (by omega), gd_t (by omega), ← Int.natCast_emod, bd1_e rfl, nx_e, show (n : Int) - (s : Int) = ((n - s : Nat) : Int) by omega, hU, hW]
      rw [show (tp : Int) + ((c : Int) - 1) = ((tp + (c - 1) : Nat) : Int) by omega, show (((p : Int) * 8 + (s : Int)) * 1024 + min ((W : Nat) : Int) 1023) = cdP (p, s, W) by unfold cdP; dsimp only; omega]
    rw [tmI_s p1, step]
    rcases ok with q | q
    · have c1 : c = 1 := by rw [cS, q, chn_n (by decide)]
      obtain ⟨f, rfl⟩ : ∃ f', f = f' + 1 := ⟨f - 1, by omega⟩
      refine ⟨U, ?_, fun j x hx => ?_, fun k hk => ?_, kU⟩
      · rw [mX9_pushTerm_66, gd_t (by omega), if_pos (by omega)]
      · rw [q, tmI_n (by decide)] at hx
        cases j with
        | zero =>
          have : (p, s, u / bhM (S 84) p (n - s)) = x := Option.some.inj hx
          rw [← this, hU, c1, up_eq]
        | succ j => cases hx
      · rw [hU, up_nk (by omega)]
    · obtain ⟨p', hp'⟩ : ∃ p' : Nat, S 84 (96 + (p : Int)) = (p' : Int) := ⟨(S 84 (96 + (p : Int))).toNat, by omega⟩
      rw [hp'] at q cS ⊢
      rw [bh_n (by omega), hp', show ((p' : Nat) : Int).toNat = p' from rfl] at d3 le3
      have eb : bhM (S 84) p (n - s) = rM (S 84) p' (n - s) := by rw [bh_n (by omega), hp']; rfl
      obtain ⟨S', i1, i2, i3, i4⟩ := ih p' (n - s) (u % bhM (S 84) p (n - s)) f tp U (h.of U84 (fun i a b => kU.cell i (by simp; omega) (by simp)) (fun i a b => kU.cell i (by simp; omega) (by simp))) U84 (by omega) (by omega) (by omega) (by rw [eb]; exact d3) le3 ((kU 60 12 (by decide) (by decide)).trans ht) (by omega) (by omega)
      rw [show (c : Int) - 1 - 1 = ((chn (S 84) d (p' : Int) : Nat) : Int) - 1 by omega]
      refine ⟨S', i1, fun j x hx => ?_, fun k hk => ?_, kU.trans i4⟩
      · cases j with
        | zero =>
          have : (p, s, u / bhM (S 84) p (n - s)) = x := Option.some.inj hx
          rw [← this, i3 _ (Or.inr (by omega)), hU, Nat.sub_zero, up_eq]
        | succ j =>
          rw [List.getElem?_cons_succ] at hx
          rw [show c - 1 - (j + 1) = chn (S 84) d (p' : Int) - 1 - j by omega]
          exact i2 j x hx
      · rw [i3 k (by omega), hU, up_nk (by omega)]
/-- laid on top -/
theorem stk_put {S T : St} {l t : List Int} (h : stk S l) (a : T 60 12 = (((t ++ l).length : Nat) : Int)) (b : ∀ (j : Nat) x, t[j]? = some x → T 66 ((l.length + (t.length - 1 - j) : Nat) : Int) = x) (c : ∀ k : Int, k < ((l.length : Nat) : Int) → T 66 k = S 66 k) : stk T (t ++ l) := by
  refine ⟨a, fun j x hx => ?_⟩
  by_cases z : j < t.length
  · rw [List.getElem?_append_left z] at hx
    have := b j x hx
    rw [List.length_append, show t.length + l.length - 1 - j = l.length + (t.length - 1 - j) by omega]
    exact this
  · rw [List.getElem?_append_right (by omega)] at hx
    have jl : j - t.length < l.length := by
      rcases Nat.lt_or_ge (j - t.length) l.length with y | y
      · exact y
      · rw [List.getElem?_eq_none y] at hx; cases hx
    have := h.2 (j - t.length) x hx
    rw [List.length_append, show t.length + l.length - 1 - j = l.length - 1 - (j - t.length) by omega, c _ (by omega)]
    exact this
theorem e_pushTerm {S : St} (h : Cor S) {p n v : Nat} {l : List Int} (hp : (p : Int) < S 84 2) (hn : (n : Int) ≤ S 84 1) (hv : v < rM (S 84) p n) (h2 : rM (S 84) p n ≤ 200) (hk : stk S l) (hl : l.length + (tmI (S 84) 24 (p : Int) n v).length ≤ 1100) : ∃ T, mX9_pushTerm S (p : Int) (n : Int) (v : Int) = some T ∧ stk T ((tmI (S 84) 24 (p : Int) n v).map cdP ++ l) ∧ kept [66] [(60, 12)] S T := by
  have hM2 := h.wf.2.2.1
  obtain ⟨a1, a2⟩ := e_pt6 (a := (p : Int)) (b := (n : Int)) (c := (v : Int)) h 24 FU p 0 (by omega) hp (by omega) (by unfold FU; omega)
  rw [Nat.zero_add] at a1 a2
  rw [tmI_len] at hl
  obtain ⟨U, b1, b2, b3, b4⟩ := e_pt66 (M := S 84) (y := ((chn (S 84) 24 (p : Int) : Nat) : Int)) 24 p n v FU l.length S h rfl (by omega) hp hn hv h2 hk.1 hl (by unfold FU; omega)
  have u12 : U 60 12 = ((l.length : Nat) : Int) := (b4 60 12 (by decide) (by decide)).trans hk.1
  refine ⟨up U 60 12 (((l.length : Nat) : Int) + ((chn (S 84) 24 (p : Int) : Nat) : Int)), ?_, ?_, (b4.mono (by simp) (by simp)).upF (by simp)⟩
  · unfold mX9_pushTerm
    rw [bd1_e (show mX9_pushTerm_6 S (p : Int) (n : Int) (v : Int) FU (p : Int) 0 = _ from a1), hk.1, gd_t (by omega), if_pos (by omega), nx_e, bd1_e b1, nx_e, u12]
  · refine stk_put hk ?_ (fun j x hx => ?_) (fun k hk' => ?_)
    · rw [up_eq, List.length_append, List.length_map, tmI_len]; omega
    · rw [up_n (by decide), List.length_map, tmI_len]
      rw [List.getElem?_map] at hx
      cases hg : (tmI (S 84) 24 (p : Int) n v)[j]? with
      | none => rw [hg] at hx; cases hx
      | some z => rw [hg] at hx; cases hx; exact b2 j z hg
    · rw [up_n (by decide)]
      exact b3 k (Or.inl hk')
