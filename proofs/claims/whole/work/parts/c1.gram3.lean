/-! grammar(): the whole call on both sides -/
theorem NBs.of {S T : St} (h : NBs S) (k : ∀ i, 34 ≤ i → i ≤ 46 → T i = S i) : NBs T := by
  unfold NBs nbG nb rz tb at h ⊢
  rw [k 34 (by omega) (by omega), k 35 (by omega) (by omega), k 36 (by omega) (by omega), k 37 (by omega) (by omega), k 38 (by omega) (by omega), k 39 (by omega) (by omega), k 41 (by omega) (by omega), k 42 (by omega) (by omega), k 43 (by omega) (by omega), k 44 (by omega) (by omega), k 45 (by omega) (by omega), k 46 (by omega) (by omega)]
  exact h
theorem GI.nbs {S : St} (g : GI S) : NBs S := by
  obtain ⟨cor, st, -⟩ := g
  obtain ⟨E, TE, KE, rO, rT, rK, stp, w', o, ti⟩ := cor
  exact CorM.nbs ⟨E, TE, KE, rO, rT, rK, stp, w', o, ti⟩ st
/-- an order of counting in which nothing in a sequence is empty -/
def NEX (M : Int → Int) : Prop := ∃ (E TE KE : Nat → Prop) (rO rT rK : Nat → Nat), Ord M E TE KE rO rT rK ∧ okN M E
theorem s_grammar {S : St} (g : GI S) (tp : TP S) (nl : nbL S) : ∃ (r : Int) (S1 S2 : St), mX11_grammar S = some (r, S1) ∧ mX12_grammar S1 = some (r, S2) ∧ inI r ∧ KG S S1 ∧ KG S S2 ∧ GI S2 ∧ TP S2 ∧ nbL S2 ∧ ((S2 84 = S 84 ∧ S2 0 16 = S 0 16 ∧ ∀ i, (2 ≤ i ∧ i ≤ 11) ∨ (33 ≤ i ∧ i ≤ 82) → S2 i = S i) ∨ (S2 0 16 = S 0 16 + 1 ∧ S2 73 1 = 0 ∧ NEX (S2 84) ∧ 0 ≤ r)) := by
  have tp' := tp
  obtain ⟨⟨n, n1, n2, n3, n4⟩, ⟨q1, q2, q3, q4⟩, ⟨p1, p2, p3, p4⟩, ⟨a1, a2, a3⟩⟩ := tp
  obtain ⟨r, rF, S', T', x1, -, x3, -, x5, -, x7⟩ := sim_gram (S := S) (T := S) (u := S 86) n1 n4 n3 (fun i hi => rfl) nl
  have again : ∀ T : St, T 83 = S 83 → T 86 = S 86 → ∃ (rF : Int) (T' : St), mX12_grammar T = some (rF, T') ∧ KRT T T' ∧ T' 83 3 = 0 ∧ ((1 ≤ S' 12 1 ∧ S' 12 1 ≤ 4 ∧ T' 83 4 = S' 12 1 ∧ T' 83 5 = S' 12 2 ∧ rF = -4 ∧ T' 84 = T 84 ∧ T' 83 45 = T 83 45) ∨ (S' 12 1 = 0 ∧ S' 12 2 = -1 ∧ T' 83 4 = 0 ∧ T' 83 5 = -1 ∧ T' 83 45 = 0 ∧ rF = r ∧ r = T' 84 3 ∧ okG S' (T' 84))) := fun T h83 h86 => by
    obtain ⟨r2, rF2, S2, T2, y1, y2, y3, y4, y5, y6, y7⟩ := sim_gram (S := S) (T := T) (u := S 86) n1 n4 (by rw [h83]; exact n3) (fun i hi => by rw [h86]) nl
    have e := Option.some.inj (x1.symm.trans y1)
    obtain ⟨e1, e2⟩ := Prod.mk.inj e
    subst e1 e2
    exact ⟨rF2, T2, y2, y4, y6, y7⟩
  obtain ⟨S6, h6⟩ : ∃ S6 : St, S6 = up (up (up S' 0 1 0) 0 4 (S' 12 1)) 0 5 (S' 12 2) := ⟨_, rfl⟩
  have o6 : ∀ i, i ≠ 0 → S6 i = S' i := fun i h => by rw [h6, up_n h, up_n h, up_n h]
  have k6 : KG S S6 := by rw [h6]; exact ((kept.upF (x3.toG) (by decide)).upF (by decide)).upF (by decide)
  have eC : mX11_grammar S = (gd (inI (S' 12 1)) <| if (S' 12 1) = 0 then (bd1 (mX2_copy_2_13 S6) fun S_10 => nx (up S_10 0 15 0) fun S_11 => bd1 (mX11_settle S_11) fun S_13 => some (r, S_13)) else (some ((-4), S6))) := by
    unfold mX11_grammar
    rw [n2, bd2_e x1, nx_e, show (up S' 0 1 0) 12 1 = S' 12 1 from rfl, nx_e, show (up (up S' 0 1 0) 0 4 (S' 12 1)) 12 2 = S' 12 2 from rfl, nx_e, ← h6]
    rw [show S6 0 4 = S' 12 1 by rw [h6]; rfl]
  have z17 : S6 0 17 = S 0 17 := by rw [h6]; exact x3 0 17 (by decide) (by decide)
  have z18 : S6 0 18 = S 0 18 := by rw [h6]; exact x3 0 18 (by decide) (by decide)
  have z15 : S6 0 15 = S 0 15 := by rw [h6]; exact x3 0 15 (by decide) (by decide)
  have z16 : S6 0 16 = S 0 16 := by rw [h6]; exact x3 0 16 (by decide) (by decide)
  have z1 : S6 0 1 = 0 := by rw [h6]; rfl
  have z4 : S6 0 4 = S' 12 1 := by rw [h6]; rfl
  have z5 : S6 0 5 = S' 12 2 := by rw [h6]; rfl
  have s' : ∀ i, (1 ≤ i ∧ i ≤ 11) ∨ 33 ≤ i → S' i = S i := fun i h => x3.cell i (by simp; omega) (by simp; omega)
  rcases x7 with ⟨v1, v2, v3, v4, v5, v6, v7⟩ | ⟨v1, v2, v3, v4, v5, v6, v7, v8⟩
  · -- a fault
    obtain ⟨rF2, T2, y2, y4, y6, y7⟩ := again S6 ((o6 83 (by decide)).trans (s' 83 (by omega))) ((o6 86 (by decide)).trans (s' 86 (by omega)))
    rcases y7 with ⟨w1, w2, w3, w4, w5, w6, w7⟩ | ⟨w1, _⟩
    · have e84 : T2 84 = S 84 := w6.trans ((o6 84 (by decide)).trans (s' 84 (by omega)))
      have kk : ∀ i, i ≠ 0 → (i ≤ 11 ∨ 33 ≤ i) → i ≠ 83 → i ≠ 84 → i ≠ 85 → i ≠ 87 → i ≠ 88 → i ≠ 89 → T2 i = S i := fun i a b c d e f g h => (y4.cell i (by simp; omega) (by simp; omega)).trans ((o6 i a).trans (s' i (by omega)))
      have c0 : T2 0 = S6 0 := y4.cell 0 (by decide) (by decide)
      have c83 : ∀ q : Int, 11 ≤ q → q ≠ 45 → T2 83 q = S 83 q := fun q a b => by
        rw [y4 83 q (by decide) (by simp; omega), o6 83 (by decide), s' 83 (by omega)]
      refine ⟨-4, S6, T2, ?_, ?_, by omega, k6, kept.trans k6 y4.toG, ?_, ⟨⟨0, by omega, ?_, y6, fun i hi => by omega⟩, ⟨?_, ?_, ?_, ?_⟩, ⟨?_, ?_, ?_, ?_⟩, ⟨?_, ?_⟩⟩, ?_, Or.inl ⟨e84, ?_, fun i hi => kk i (by omega) (by omega) (by omega) (by omega) (by omega) (by omega) (by omega) (by omega)⟩⟩
      · rw [eC, gd_t (by omega), if_neg (by omega)]
      · rw [y2, w5]
      · refine g.of e84 (fun i hi => kk i (by omega) (by omega) (by omega) (by omega) (by omega) (by omega) (by omega) (by omega)) (by rw [c0, z15]) (fun q a b => ?_)
        by_cases c : q = 45
        · rw [c, w7, o6 83 (by decide), s' 83 (by omega)]
        · exact c83 q (by omega) c
      · rw [c0, z1]; rfl
      · rw [c0, z4, w3]
      · rw [c0, z5, w4]
      · rw [c0, z4]; omega
      · rw [c0, z5]; exact x5.2
      · rw [c0, z17, c83 42 (by omega) (by omega)]; exact p1
      · rw [c0, z18, c83 43 (by omega) (by omega)]; exact p2
      · rw [c0, z17]; exact p3
      · rw [c0, z18]; exact p4
      · rw [c0, z15, e84]; exact a1
      · rw [e84]; exact ⟨a2, a3⟩
      · exact x5.1.of (fun i a b => (y4.cell i (by simp; omega) (by simp; omega)).trans (o6 i (by omega)))
      · rw [c0, z16]
    · omega
  · -- a new grammar
    obtain ⟨S10, c1, c2, c3, c4, c5, c6, c7⟩ := e_copy (S := S6)
    obtain ⟨S11, h11⟩ : ∃ S11 : St, S11 = up S10 0 15 0 := ⟨_, rfl⟩
    have o11 : ∀ i, i ≠ 0 → S11 i = S10 i := fun i h => by rw [h11, up_n h]
    have k11 : KG S S11 := by rw [h11]; exact kept.upF (kept.trans k6 (kept.mono c2 (by decide) (by decide))) (by decide)
    have nb11 : NBs S11 := g.nbs.of (fun i a b => (o11 i (by omega)).trans ((c2.cell i (by simp; omega) (by simp; omega)).trans ((o6 i (by omega)).trans (s' i (by omega)))))
    -- settle, for any row that is what was read
    have go : ∀ M : Int → Int, okG S' M → ∃ S1 : St, mX11_settle S11 = some S1 ∧ kept [34, 35, 36, 37, 38, 39, 41, 42, 43, 44, 45, 46] [(0, 16), (80, 1), (33, 1), (33, 2), (40, 1), (47, 2), (47, 3), (47, 4), (73, 1)] S11 S1 ∧ (S1 0 16 = S11 0 16 + 1 ∧ S1 80 1 = 0 ∧ S1 47 2 = 0) ∧ stuOK33 M S1 ∧ CorM S1 M ∧ S1 47 3 = 0 ∧ S1 47 4 = 0 ∧ S1 73 1 = 0 := fun M ok => by
      obtain ⟨w, gm, -, -, -, ⟨-, ce⟩, E, TE, KE, rO, rT, rK, st, oa, o, -⟩ := ok
      have gm6 : GM (sh11 S6) M := GM_st gm (fun i a b => o6 i (by omega))
      have oa6 : OA (sh11 S6) M rO rT rK st := by
        unfold OA sh11 at oa ⊢
        rw [o6 13 (by decide), o6 22 (by decide)]; exact oa
      have gm10 := GM_copy w ce gm6 c3 c4 c5 c6
      have oa10 := OA_copy oa6 c3.2.2.2.2 c7
      refine w_settle (st := st) w o (gm10.of (fun i a b => o11 i (by omega))) ?_ nb11
      unfold OA at oa10 ⊢
      rw [o11 2 (by decide), o11 11 (by decide)]; exact oa10
    obtain ⟨S1, s1, -⟩ := go (T' 84) v8
    have keptS1 : kept [34, 35, 36, 37, 38, 39, 41, 42, 43, 44, 45, 46] [(0, 16), (80, 1), (33, 1), (33, 2), (40, 1), (47, 2), (47, 3), (47, 4), (73, 1)] S11 S1 := by
      obtain ⟨X, t1, t2, -⟩ := go (T' 84) v8
      rw [Option.some.inj (s1.symm.trans t1)]; exact t2
    have far : ∀ i, i = 83 ∨ i = 86 ∨ i = 84 → S1 i = S i := fun i hi => (keptS1.cell i (by simp; omega) (by simp; omega)).trans ((o11 i (by omega)).trans ((c2.cell i (by simp; omega) (by simp; omega)).trans ((o6 i (by omega)).trans (s' i (by omega)))))
    obtain ⟨rF2, T2, y2, y4, y6, y7⟩ := again S1 (far 83 (by omega)) (far 86 (by omega))
    rcases y7 with ⟨w1, _⟩ | ⟨w1, w2, w3, w4, w5, w6, w7, w8⟩
    · omega
    · obtain ⟨X, t1, t2, ⟨t3, t4, t5⟩, t6, t7, t8, t9, t10⟩ := go (T2 84) w8
      have eX : X = S1 := Option.some.inj (t1.symm.trans s1)
      subst eX
      obtain ⟨wf, gm, ⟨d, dp⟩, ⟨hm, hh⟩, ⟨m4, moff⟩, ⟨m3, ce⟩, oE, oT, oK, qO, qT, qK, qs, -, oo, on⟩ := w8
      have am : AM (T2 84) := ⟨by omega, fun i hi => by omega, fun i j hi => by omega⟩
      have z11 : ∀ q : Int, q ≠ 15 → S11 0 q = S6 0 q := fun q hq => by
        rw [h11, up_nk hq, c2.cell 0 (by decide) (by decide)]
      have x0 : ∀ q : Int, q ≠ 16 → X 0 q = S11 0 q := fun q hq => t2 0 q (by decide) (by simp; omega)
      have x15 : X 0 15 = 0 := by rw [x0 15 (by decide), h11]; rfl
      have as : AS X (T2 84) := ⟨by rw [x15, m4], fun i hi => by omega⟩
      have nk : nbK X := by
        obtain ⟨_, _, _, _, _, _, nk, _⟩ := g
        exact nk.of (fun i a b => (t2.cell i (by simp; omega) (by simp; omega)).trans ((o11 i (by omega)).trans ((c2.cell i (by simp; omega) (by simp; omega)).trans ((o6 i (by omega)).trans (s' i (by omega))))))
      have gi : GI (fun i => if i = 84 then T2 84 else if i = 83 then T2 83 else X i) := settled t6 t7 ⟨t4, t5⟩ t8 t9 ce dp hh am as m3 nk rfl (fun i a b => by show (if i = 84 then _ else if i = 83 then _ else _) = _; rw [if_neg b, if_neg a]) w5
      have c0 : T2 0 = X 0 := y4.cell 0 (by decide) (by decide)
      have kx : KG S X := kept.trans k11 (kept.mono t2 (by decide) (by decide))
      have kk : ∀ i, i ≠ 83 → i ≠ 84 → i ≠ 85 → i ≠ 87 → i ≠ 88 → i ≠ 89 → T2 i = X i := fun i a b c d e f => y4.cell i (by simp; omega) (by simp; omega)
      have c83 : ∀ q : Int, 11 ≤ q → q ≠ 45 → T2 83 q = S 83 q := fun q a b => by
        rw [y4 83 q (by decide) (by simp; omega), far 83 (by omega)]
      refine ⟨r, X, T2, ?_, ?_, by omega, kx, kept.trans kx y4.toG, ?_, ⟨⟨0, by omega, ?_, y6, fun i hi => by omega⟩, ⟨?_, ?_, ?_, ?_⟩, ⟨?_, ?_, ?_, ?_⟩, ⟨?_, ?_⟩⟩, ?_, Or.inr ⟨?_, ?_, ⟨oE, oT, oK, qO, qT, qK, oo, on⟩, by omega⟩⟩
      · rw [eC, v1, gd_t (by decide), if_pos rfl, bd1_e c1, nx_e, ← h11, bd1_e s1]
      · rw [y2, w6]
      · refine gi.of rfl (fun i hi => ?_) ?_ (fun q _ _ => rfl)
        · show T2 i = (if i = 84 then _ else if i = 83 then _ else _)
          rw [if_neg (by omega), if_neg (by omega)]
          exact kk i (by omega) (by omega) (by omega) (by omega) (by omega) (by omega)
        · show T2 0 15 = X 0 15
          rw [c0]
      · rw [c0, x0 1 (by decide), z11 1 (by decide), z1]; rfl
      · rw [c0, x0 4 (by decide), z11 4 (by decide), z4, v1, w3]
      · rw [c0, x0 5 (by decide), z11 5 (by decide), z5, v2, w4]
      · rw [c0, x0 4 (by decide), z11 4 (by decide), z4, v1]; omega
      · rw [c0, x0 5 (by decide), z11 5 (by decide), z5, v2]; omega
      · rw [c0, x0 17 (by decide), z11 17 (by decide), z17, c83 42 (by omega) (by omega)]; exact p1
      · rw [c0, x0 18 (by decide), z11 18 (by decide), z18, c83 43 (by omega) (by omega)]; exact p2
      · rw [c0, x0 17 (by decide), z11 17 (by decide), z17]; exact p3
      · rw [c0, x0 18 (by decide), z11 18 (by decide), z18]; exact p4
      · rw [c0, x15, m4]
      · rw [m4]; omega
      · exact x5.1.of (fun i a b => (kk i (by omega) (by omega) (by omega) (by omega) (by omega) (by omega)).trans ((t2.cell i (by simp; omega) (by simp; omega)).trans ((o11 i (by omega)).trans ((c2.cell i (by simp; omega) (by simp; omega)).trans (o6 i (by omega))))))
      · rw [c0, t3, z11 16 (by decide), z16]
      · rw [kk 73 (by decide) (by decide) (by decide) (by decide) (by decide) (by decide)]; exact t10
