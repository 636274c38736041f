/-! the reference: the thing told, rank by rank -/
def RFr (S T : St) : Prop := (∀ i : Nat, i < 83 ∨ (83 < i ∧ i < 90) ∨ 104 < i → T i = S i) ∧ ∀ k : Int, (k < 20 ∨ 32 < k) → k ≠ 38 → k ≠ 40 → k ≠ 41 → T 83 k = S 83 k
def RFw (S T : St) : Prop := (∀ i : Nat, i < 83 ∨ (83 < i ∧ i < 90) ∨ 104 < i → T i = S i) ∧ ∀ k : Int, (k < 3 ∨ (3 < k ∧ k < 20) ∨ 43 < k) → T 83 k = S 83 k
theorem RFr.rf {S : St} : RFr S S := ⟨fun _ _ => rfl, fun _ _ _ _ _ => rfl⟩
theorem RFr.trans {S T U : St} (h : RFr S T) (k : RFr T U) : RFr S U := ⟨fun i a => (k.1 i a).trans (h.1 i a), fun q a b c d => (k.2 q a b c d).trans (h.2 q a b c d)⟩
theorem RFw.rf {S : St} : RFw S S := ⟨fun _ _ => rfl, fun _ _ => rfl⟩
theorem RFw.trans {S T U : St} (h : RFw S T) (k : RFw T U) : RFw S U := ⟨fun i a => (k.1 i a).trans (h.1 i a), fun q a => (k.2 q a).trans (h.2 q a)⟩
theorem RFr.w {S T : St} (h : RFr S T) : RFw S T := ⟨h.1, fun k a => h.2 k (by omega) (by omega) (by omega) (by omega)⟩
theorem NFx.r {S T : St} (h : NFx S T) : RFr S T := ⟨fun i a => funext fun k => h.1 i k (by omega) (by omega), fun k _ a _ b => h.2 k a b⟩
theorem kG.r {S T : St} (h : kG S T) : RFr S T := ⟨fun i a => h.cell i (by simp <;> omega) (by simp <;> omega), fun q a b c d => h 83 q (by decide) (by simp <;> omega)⟩
theorem TRM.fr {M : Int → Int} {S T : St} {k k' e t : Nat} {s : List (List Int × Nat)} (hk : k < k') (fr : ∀ a j : Nat, 99 ≤ a → a ≤ 103 → k ≤ j → j < k' → T a (j : Int) = S a (j : Int)) (h : TRM M S k k' e t s) : TRM M T k k' e t s := by
  obtain ⟨h1, h2, h3, h4, f, l, h5, h6, h7, h8⟩ := h
  refine ⟨by rw [fr 99 k (by decide) (by decide) (Nat.le_refl _) hk]; exact h1, by rw [fr 100 k (by decide) (by decide) (Nat.le_refl _) hk]; exact h2, by rw [fr 101 k (by decide) (by decide) (Nat.le_refl _) hk]; exact h3, by rw [fr 103 k (by decide) (by decide) (Nat.le_refl _) hk]; exact h4, f, l, ?_, ?_, h7, h8⟩
  · rw [fr 102 k (by decide) (by decide) (Nat.le_refl _) hk]
    refine lnk_fr h5 (fun j hj => ?_)
    obtain ⟨z, z1, z2⟩ := List.mem_map.mp hj
    obtain ⟨p, hp⟩ := ch_all h6 z z1
    have b := hp.c.1
    rw [← z2]
    exact fr 103 z.1 (by decide) (by decide) (by omega) (by omega)
  · exact ch_mo h6 (fun p x hx hd => ND.fr (Nat.le_refl _) f f (k + 1) (k + 1) p x (Nat.le_refl _) (Nat.le_refl _) (fun a j a1 a2 a3 a4 => fr a j a1 (by omega) (by omega) a4) (fun j a3 a4 _ => fr 103 j (by decide) (by decide) (by omega) a4) hd)
theorem RDW.fix {M : Int → Int} {e n : Nat} {w c : List Int} (h : RDW M e w c n) : ∃ f, rdE M (rdP M f) e c = some (c, n, []) := by
  obtain ⟨⟨f, hf⟩, -⟩ := h
  have := rdE_fx (rdP_fx f) hf []
  dsimp only at this
  rw [List.append_nil] at this
  exact ⟨f, this⟩
theorem RDW.size {M : Int → Int} {e n n' : Nat} {w w' c : List Int} (h : RDW M e w c n) (k : RDW M e w' c n') : n = n' := by
  obtain ⟨f, hf⟩ := h.fix
  obtain ⟨g, hg⟩ := k.fix
  exact (Prod.mk.inj (Prod.mk.inj (rdE_det hf hg)).2).1
/-- what was spelled is taken to be read -/
theorem spF_lo : ∀ (w : List Int) (l : Int) (g : Int → Int) (j : Int), j < l → spF w l g j = g j := by
  intro w
  induction w with
  | nil => intro l g j _; rfl
  | cons c w ih =>
    intro l g j hj
    show spF w (l + 1) (if 40 ≤ l then g else fun j => if j = l then c else g j) j = g j
    rw [ih (l + 1) _ j (by omega)]
    split
    · rfl
    · exact if_neg (by omega)
theorem spF_at : ∀ (w : List Int) (l : Int) (g : Int → Int) (i : Nat) (x : Int), w[i]? = some x → l + (i : Int) < 40 → spF w l g (l + (i : Int)) = x := by
  intro w
  induction w with
  | nil => intro l g i x h _; cases h
  | cons c w ih =>
    intro l g i x h hl
    show spF w (l + 1) (if 40 ≤ l then g else fun j => if j = l then c else g j) (l + (i : Int)) = x
    cases i with
    | zero =>
      rw [spF_lo w (l + 1) _ _ (by omega), if_neg (by omega)]
      rw [if_pos (by omega)]
      exact Option.some.inj h
    | succ i =>
      have := ih (l + 1) (if 40 ≤ l then g else fun j => if j = l then c else g j) i x h (by omega)
      rw [show l + ((i + 1 : Nat) : Int) = l + 1 + (i : Int) by omega]
      exact this
theorem e_ts10 {L : Nat} (hL : L ≤ 40) : ∀ (d i f : Nat) (S : St), i + d = L → d < f → S 83 20 = (L : Int) → (∀ j : Nat, j < i → S 104 (j : Int) = S 96 (j : Int)) → ∃ T, mX12_takesSpelled_10 f (i : Int) S = some T ∧ kept [104] [] S T ∧ ∀ j : Nat, j < L → T 104 (j : Int) = S 96 (j : Int) := by
  intro d
  induction d with
  | zero =>
    intro i f S hi hf h20 hj
    obtain ⟨f, rfl⟩ : ∃ f', f = f' + 1 := ⟨f - 1, by omega⟩
    refine ⟨S, ?_, kept.rf, fun j a => hj j (by omega)⟩
    rw [mX12_takesSpelled_10, h20, gd_t (by omega), if_pos (by omega)]
  | succ d ih =>
    intro i f S hi hf h20 hj
    obtain ⟨f, rfl⟩ : ∃ f', f = f' + 1 := ⟨f - 1, by omega⟩
    obtain ⟨S1, hS1⟩ : ∃ S1 : St, S1 = up S 104 (i : Int) (S 96 (i : Int)) := ⟨_, rfl⟩
    have k1 : kept [104] [] S S1 := by rw [hS1]; exact kept.rf.upA (by decide)
    have e96 := k1.cell 96 (by decide) (by decide)
    obtain ⟨T, g1, g2, g3⟩ := ih (i + 1) f S1 (by omega) (by omega) (by rw [k1 83 20 (by decide) (by decide)]; exact h20) (fun j a => by
      rw [e96]
      by_cases q : j = i
      · subst q; rw [hS1, up_eq]
      · rw [hS1, up_nk (by omega)]; exact hj j (by omega))
    refine ⟨T, ?_, k1.trans g2, fun j a => by rw [g3 j a, e96]⟩
    rw [show ((i + 1 : Nat) : Int) = (i : Int) + 1 by omega] at g1
    rw [mX12_takesSpelled_10, h20, gd_t (by omega), if_neg (by omega), gd_t (by omega), nx_e, ← hS1]
    exact g1
theorem e_takesS {S : St} {w : List Int} {g : Int → Int} (hL : w.length ≤ 40) (h20 : S 83 20 = ((w.length : Nat) : Int)) (h96 : S 96 = spF w 0 g) : ∃ T, mX12_takesSpelled S = some T ∧ kept [104] [(83, 40)] S T ∧ T 83 40 = ((w.length : Nat) : Int) ∧ ∀ (i : Nat) (x : Int), w[i]? = some x → T 104 (i : Int) = x := by
  obtain ⟨S1, hS1⟩ : ∃ S1 : St, S1 = up S 83 40 ((w.length : Nat) : Int) := ⟨_, rfl⟩
  have k1 : kept [104] [(83, 40)] S S1 := by rw [hS1]; exact kept.rf.upF (by decide)
  obtain ⟨T, g1, g2, g3⟩ := e_ts10 hL w.length 0 FU S1 (by omega) (by unfold FU; omega) (by rw [k1 83 20 (by decide) (by decide)]; exact h20) (fun j a => by omega)
  refine ⟨T, ?_, k1.trans (g2.mono (by decide) (by decide)), ?_, fun i x hx => ?_⟩
  · unfold mX12_takesSpelled
    rw [h20, nx_e, ← hS1, bd1_e (show mX12_takesSpelled_10 FU 0 S1 = some T from g1)]
  · rw [g2 83 40 (by decide) (by decide), hS1, up_eq]
  · have li := (List.getElem?_eq_some_iff.mp hx).1
    rw [g3 i li, k1.cell 96 (by decide) (by decide), h96]
    have := spF_at w 0 g i x hx (by omega)
    rw [Int.zero_add] at this
    exact this
/-- a thing gone through, taken, read by a kind -/
theorem e_read {S0 T : St} (hS : SpO S0) (u : UQ (S0 84)) (vu : VU (S0 84)) {a n r e k : Nat} (x : isTh (S0 84) a n r) (he : (e : Int) < S0 84 0) (hT : cnt (S0 84) (-1) T) (hI : hIn T) (hk : k ≤ 100) : ∃ T1, mX12_goes T (a : Int) (n : Int) (r : Int) (-1) (-1) = some T1 ∧ T1 83 20 = (((tX (S0 84) a n r).length : Nat) : Int) ∧ RFr T T1 ∧ cnt (S0 84) (-1) T1 ∧ hIn T1 ∧ (∀ b j : Nat, 99 ≤ b → b ≤ 103 → T1 b (j : Int) = T b (j : Int)) ∧ ((tX (S0 84) a n r).length ≤ 40 → ∃ (T2 : St) (z : Int) (T4 : St), mX12_takesSpelled T1 = some T2 ∧ mX12_readsWhole (up T2 83 38 (k : Int)) (e : Int) = some (z, T4) ∧ (∀ b j : Nat, 99 ≤ b → b ≤ 103 → j < k → T4 b (j : Int) = T b (j : Int)) ∧ RFr T T4 ∧ cnt (S0 84) (-1) T4 ∧ hIn T4 ∧ ∃ k' : Nat, k' ≤ 1024 ∧ ((z = (k : Int) ∧ k < k' ∧ ∃ (t : Nat) (s : List (List Int × Nat)), t < cnE (S0 84) e ∧ TRM (S0 84) T4 k k' e t s ∧ RDW (S0 84) e (tX (S0 84) a n r) (dgT (S0 84) e t ++ fl1 s) (szs s)) ∨ (z = -1 ∧ ∀ c m, ¬ RDW (S0 84) e (tX (S0 84) a n r) c m))) := by
  have h := hS.1.1
  have wf := h.wf
  obtain ⟨E, TE, rO, rT, rK, rk⟩ := h.rks
  obtain ⟨T1, g1, g2⟩ := w_goes (S := S0) (T := T) (e := a) (n := n) (v := r) (i := -1) (a := -1) h hT x.1 x.2.1 x.2.2.1 x.2.2.2 (by decide) (by decide) (by have := (thing_le hS x).2.2; omega)
  obtain ⟨⟨p1, p2, p3⟩, p4, p5⟩ := g2
  have r1 : RFr T T1 := ⟨fun i a => p5.cell i (by simp <;> omega) (by simp <;> omega), fun q a b c d => p5 83 q (by decide) (by simp <;> omega)⟩
  have c1 : cnt (S0 84) (-1) T1 := hT.of (p5.cell 84 (by decide) (by decide)) (p5.cell 90 (by decide) (by decide)) (p5.cell 91 (by decide) (by decide))
  have n1 : ∀ b j : Nat, 99 ≤ b → b ≤ 103 → T1 b (j : Int) = T b (j : Int) := fun b j x y => by rw [p5.cell b (by simp <;> omega) (by simp <;> omega)]
  have i1 : hIn T1 := fun b j x y z => by rw [n1 b j x y]; exact hI b j x y z
  refine ⟨T1, g1, p1, r1, c1, i1, n1, fun l40 => ?_⟩
  obtain ⟨T2, s1, s2, s3, s4⟩ := e_takesS l40 p1 p3
  obtain ⟨T3, hT3⟩ : ∃ T3 : St, T3 = up T2 83 38 (k : Int) := ⟨_, rfl⟩
  have o3 : ∀ i, i ≠ 83 → i ≠ 104 → T3 i = T1 i := fun i a b => by rw [hT3, up_n a]; exact s2.cell i (by simp <;> omega) (by simp <;> omega)
  have c3 : cnt (S0 84) (-1) T3 := c1.of (o3 84 (by decide) (by decide)) (o3 90 (by decide) (by decide)) (o3 91 (by decide) (by decide))
  have i3 : hIn T3 := fun b j x y z => by rw [o3 b (by omega) (by omega)]; exact i1 b j x y z
  have r3 : RFr T1 T3 := ⟨fun i a => o3 i (by omega) (by omega), fun q a b c d => by rw [hT3, up_nk (by omega)]; exact s2 83 q (by decide) (by simp <;> omega)⟩
  obtain ⟨z, T4, w1, w2⟩ := w_whole (T := T3) (k := k) (w := tX (S0 84) a n r) h hS.1.2.1 (rkx_of wf rk) (mux_of h rk u) (hv_of wf vu) c3 i3 he l40 (by rw [hT3, up_nk (by decide)]; exact s3) (fun i y hy => ⟨y, by rw [hT3, up_n (by decide)]; exact s4 i y hy, by have := tX_b h x y (List.mem_of_getElem? hy); omega, by have := tX_b h x y (List.mem_of_getElem? hy); unfold sb; rw [if_pos (by omega)]⟩) (by rw [hT3, up_eq]) hk
  have c4 := w2.1.cn c3
  obtain ⟨v1, v2, v3, k', v4, v5, v6, v7⟩ := w2
  refine ⟨T2, z, T4, s1, by rw [← hT3]; exact w1, fun b j x y q => ?_, (r1.trans r3).trans v1.r, c4, v3, k', v6, ?_⟩
  · rw [v2 b j x y q, o3 b (by omega) (by omega)]
    exact n1 b j x y
  · rcases v7 with ⟨y1, y2, y3, y4⟩ | y
    · exact Or.inl ⟨y1, y2, y4⟩
    · exact Or.inr y
theorem e_t117 {S0 : St} (hS : SpO S0) (u : UQ (S0 84)) (vu : VU (S0 84)) {e n v k0 t : Nat} {s : List (List Int × Nat)} {c : List Int} (x : isTh (S0 84) e n v) (kc : CNE (S0 84) e n v c) (ec : c = dgT (S0 84) e t ++ fl1 s) (ht : t < cnE (S0 84) e) (hk0 : 0 < k0 ∧ k0 ≤ 81) (es : szs s = n) (hL : c.length ≤ 40) : ∀ (d r f : Nat) (T : St), r + d = v → d < f → cnt (S0 84) (-1) T → hIn T → TRM (S0 84) T 0 k0 e t s → ∃ T', mX12_tells_117 (k0 : Int) (n : Int) 0 ((c.length : Nat) : Int) (e : Int) f (r : Int) T = some (0, (v : Int), T') ∧ RFr T T' ∧ hIn T' := by
  have h := hS.1.1
  have wf := h.wf
  have hM1 := wf.2.1
  have x0 := x
  obtain ⟨he, hn, hv, h2⟩ := x
  have lc : c.length = (dgT (S0 84) e t).length + (fl1 s).length := by rw [ec, List.length_append]
  have lx : (tX (S0 84) e n v).length = c.length := (kc.rdw hn).len.1
  -- one look
  have look : ∀ (r : Nat) (T : St), r ≤ v → cnt (S0 84) (-1) T → hIn T → TRM (S0 84) T 0 k0 e t s → ∃ T1, mX12_goes T (e : Int) (n : Int) (r : Int) (-1) (-1) = some T1 ∧ T1 83 20 = (((tX (S0 84) e n r).length : Nat) : Int) ∧ RFr T T1 ∧ cnt (S0 84) (-1) T1 ∧ hIn T1 ∧ TRM (S0 84) T1 0 k0 e t s ∧ ((tX (S0 84) e n r).length ≤ 40 → ∃ (T2 : St) (z : Int) (T4 : St) (q : Int), mX12_takesSpelled T1 = some T2 ∧ mX12_readsWhole (up T2 83 38 (k0 : Int)) (e : Int) = some (z, T4) ∧ mX12_areSame T4 0 z = some q ∧ ((q = 1 ∧ r = v) ∨ (q = 0 ∧ r ≠ v)) ∧ RFr T T4 ∧ cnt (S0 84) (-1) T4 ∧ hIn T4 ∧ TRM (S0 84) T4 0 k0 e t s) := by
    intro r T hr hT hI tr
    have xr : isTh (S0 84) e n r := ⟨he, hn, by omega, h2⟩
    obtain ⟨T1, g1, g2, g3, g4, g5, g6, g7⟩ := e_read (k := k0) hS u vu xr he hT hI (by omega)
    refine ⟨T1, g1, g2, g3, g4, g5, tr.fr hk0.1 (fun a j a1 a2 _ _ => g6 a j a1 a2), fun l40 => ?_⟩
    obtain ⟨T2, z, T4, y1, y2, y3, y4, y5, y6, k', y7, y8⟩ := g7 l40
    have t4 : TRM (S0 84) T4 0 k0 e t s := tr.fr hk0.1 (fun a j a1 a2 _ a3 => y3 a j a1 a2 a3)
    obtain ⟨c2, k2⟩ := cn_ex h xr
    have rd2 := k2.rdw hn
    rcases y8 with ⟨z1, z2, t', s', z3, z4, z5⟩ | ⟨_, z2⟩
    · have eq2 := rd2.det z5
      have eq2b := eq2.2
      obtain ⟨q, q1, q2⟩ := e_trm (a := 0) (b := k0) (by decide) (by omega) (by omega) y7 y6 t4 z4 ht z3 (by omega) (fun _ => by omega)
      refine ⟨T2, z, T4, q, y1, y2, by rw [z1]; exact q1, ?_, y4, y5, y6, t4⟩
      rcases q2 with ⟨a, b⟩ | ⟨a, b⟩
      · refine Or.inl ⟨a, ?_⟩
        refine cn_inj h xr x0 k2 ?_
        rw [eq2.1, ← b, ← ec]
        exact kc
      · refine Or.inr ⟨a, fun q => b ?_⟩
        subst q
        rw [← ec, ← eq2.1]
        exact kc.det k2
    · exact absurd rd2 (z2 c2 n)
  intro d
  induction d with
  | zero =>
    intro r f T hr hf hT hI tr
    obtain ⟨f, rfl⟩ : ∃ f', f = f' + 1 := ⟨f - 1, by omega⟩
    have er : r = v := by omega
    subst er
    obtain ⟨T1, g1, g2, g3, g4, g5, g6, g7⟩ := look r T (Nat.le_refl _) hT hI tr
    obtain ⟨T2, z, T4, q, y1, y2, y3, y4, y5, y6, y7, y8⟩ := g7 (by omega)
    refine ⟨T4, ?_, y5, y7⟩
    have q1 : q = 1 := by omega
    rw [mX12_tells_117, gd_t (by omega), bd1_e (e_kindMany wf hT he (by omega)), gd_t ⟨by omega, by omega⟩, if_neg (by omega), bd1_e g1, g2, gd_t (by omega), if_pos (by omega), bd1_e y1, nx_e, bd2_e y2, bd1_e y3, gd_t (by omega), if_neg (by omega)]
  | succ d ih =>
    intro r f T hr hf hT hI tr
    obtain ⟨f, rfl⟩ : ∃ f', f = f' + 1 := ⟨f - 1, by omega⟩
    obtain ⟨T1, g1, g2, g3, g4, g5, g6, g7⟩ := look r T (by omega) hT hI tr
    have lx := (thing_le hS (e := e) (n := n) (u := r) ⟨he, hn, by omega, h2⟩).2.2
    by_cases ql : (tX (S0 84) e n r).length = c.length
    · obtain ⟨T2, z, T4, q, y1, y2, y3, y4, y5, y6, y7, y8⟩ := g7 (by omega)
      obtain ⟨T', u1, u2, u3⟩ := ih (r + 1) f T4 (by omega) (by omega) y6 y7 y8
      rw [show ((r + 1 : Nat) : Int) = (r : Int) + 1 by omega] at u1
      refine ⟨T', ?_, y5.trans u2, u3⟩
      have q0 : q = 0 := by omega
      rw [mX12_tells_117, gd_t (by omega), bd1_e (e_kindMany wf hT he (by omega)), gd_t ⟨by omega, by omega⟩, if_neg (by omega), bd1_e g1, g2, gd_t (by omega), if_pos (by omega), bd1_e y1, nx_e, bd2_e y2, bd1_e y3, gd_t (by omega), if_pos q0]
      exact u1
    · obtain ⟨T', u1, u2, u3⟩ := ih (r + 1) f T1 (by omega) (by omega) g4 g5 g6
      rw [show ((r + 1 : Nat) : Int) = (r : Int) + 1 by omega] at u1
      refine ⟨T', ?_, g3.trans u2, u3⟩
      rw [mX12_tells_117, gd_t (by omega), bd1_e (e_kindMany wf hT he (by omega)), gd_t ⟨by omega, by omega⟩, if_neg (by omega), bd1_e g1, g2, gd_t (by omega), if_neg (by omega)]
      exact u1
theorem e_t32 {n : Nat} {e : Int} (hn : n ≤ 40) : ∀ (d i f : Nat) (S : St), i + d = n → d < f → (∀ j : Nat, j < i → S 104 (j : Int) = S 86 (j : Int)) → ∃ T, mX12_tells_32 (n : Int) e f (i : Int) S = some T ∧ kept [104] [] S T ∧ ∀ j : Nat, j < n → T 104 (j : Int) = S 86 (j : Int) := by
  intro d
  induction d with
  | zero =>
    intro i f S hi hf hj
    obtain ⟨f, rfl⟩ : ∃ f', f = f' + 1 := ⟨f - 1, by omega⟩
    refine ⟨S, ?_, kept.rf, fun j a => hj j (by omega)⟩
    rw [mX12_tells_32, gd_t (by omega), if_pos (by omega)]
  | succ d ih =>
    intro i f S hi hf hj
    obtain ⟨f, rfl⟩ : ∃ f', f = f' + 1 := ⟨f - 1, by omega⟩
    obtain ⟨S1, hS1⟩ : ∃ S1 : St, S1 = up S 104 (i : Int) (S 86 (i : Int)) := ⟨_, rfl⟩
    have k1 : kept [104] [] S S1 := by rw [hS1]; exact kept.rf.upA (by decide)
    have e86 := k1.cell 86 (by decide) (by decide)
    obtain ⟨T, g1, g2, g3⟩ := ih (i + 1) f S1 (by omega) (by omega) (fun j a => by
      rw [e86]
      by_cases q : j = i
      · subst q; rw [hS1, up_eq]
      · rw [hS1, up_nk (by omega)]; exact hj j (by omega))
    refine ⟨T, ?_, k1.trans g2, fun j a => by rw [g3 j a, e86]⟩
    rw [show ((i + 1 : Nat) : Int) = (i : Int) + 1 by omega] at g1
    rw [mX12_tells_32, gd_t (by omega), if_neg (by omega), gd_t (by omega), gd_t (by omega), nx_e, ← hS1]
    exact g1
