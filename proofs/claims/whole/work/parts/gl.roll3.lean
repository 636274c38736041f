/-! the class: a whole roll -/
def QFr (S T : St) : Prop := (∀ (i : Nat) (k : Int), i < 105 → (i < 60 ∨ 66 < i) → (i < 73 ∨ 79 < i) → (i ≠ 0 ∨ 0 ≤ k) → T i k = S i k) ∧ gle S T ∧ 256 * nn T + dl S + 512 * Rn S ≤ 256 * nn S + dl T + 512 * Rn T ∧ zz T + 2 * dl S + 1603 * Rn S = zz S + 2 * dl T + 1603 * Rn T
theorem GFr.q {S T : St} (h : GFr S T) : QFr S T := ⟨fun i k a b _ c => h.1 i k a b c, h.2⟩
theorem QFr.trans {S T U : St} (h : QFr S T) (k : QFr T U) : QFr S U := by
  obtain ⟨h1, h4, h5, h6⟩ := h
  obtain ⟨k1, k4, k5, k6⟩ := k
  exact ⟨fun i q a b c d => (k1 i q a b c d).trans (h1 i q a b c d), ⟨Nat.le_trans h4.1 k4.1, Nat.le_trans h4.2 k4.2⟩, by omega, by omega⟩
theorem SpO.of7 {S T : St} (h : SpO S) (c : ∀ i, i < 73 ∨ 79 < i → T i = S i) : SpO T ∧ QFr S T := by
  obtain ⟨⟨h1, h2, h3⟩, ⟨h4, ⟨⟨w, hw⟩, h13, h14⟩, h6, h7⟩, h8, h9, h10⟩ := h
  have c84 := c 84 (by omega)
  have c0 := c 0 (by omega)
  have c60 := c 60 (by omega)
  have c65 := c 65 (by omega)
  have wr : ∀ {u : List Int}, WR S u → WR T u := fun {u} hu => by
    obtain ⟨E, e1, e2, -⟩ := hu.e
    exact hu.of (by rw [c60]) (by rw [c60]) (by rw [c60]) (by rw [c0]; exact Int.le_refl _) (by rw [e1]; exact c E (by omega))
  have d : dl T = dl S := by
    obtain ⟨E, e1, e2, -⟩ := hw.e
    unfold dl
    rw [dl_of (S := S) (T := T) (by rw [c60]) (fun _ => by rw [e1]; rw [show T (Int.toNat (E : Int)) = S (Int.toNat (E : Int)) from c E (by omega)])]
  refine ⟨⟨⟨h1.of c84 (fun i a b => c i (by omega)) (fun i a b => c i (by omega)), by rw [c84]; exact h2, by rw [c84]; exact h3⟩, ⟨h4.of h8 (c 63 (by omega)) c84 (by rw [c0]) (Nat.le_of_eq (nn_of (S := S) (T := T) (by rw [c0])).symm) (fun i a _ _ => c i (by omega)), ⟨⟨w, wr hw⟩, by rw [c60]; exact h13, by rw [c60]; exact h14⟩, by rw [c60, c0]; exact h6, fun y => ?_⟩, by rw [nn_of (S := S) (T := T) (by rw [c0])]; exact h8, by rw [c0]; exact h9, by rw [c0]; exact h10⟩, fun i k a b e f => by rw [c i e], gle_rf c0, by rw [d, nn_of (S := S) (T := T) (by rw [c0]), Rn_of (c 63 (by omega))]; exact Nat.le_refl _, by rw [d, zz_of (S := S) (T := T) (by rw [c0]), Rn_of (c 63 (by omega))]⟩
  rw [c60, c0] at y
  obtain ⟨e, n, v, y1, y2, y3, y4, y5⟩ := h7 y
  exact ⟨e, n, v, by rw [c84]; exact y1, by rw [c60]; exact y2, by rw [c84]; exact wr y3, by rw [c84, c60]; exact y4, by rw [c84, c65]; exact y5⟩
theorem RLv.of {M : Int → Int} {S T : St} {e n v : Nat} (h : RLv M S e n v) (c : ∀ i, 73 ≤ i → i ≤ 79 → T i = S i) : RLv M T e n v := by
  unfold RLv at h ⊢
  rw [c 73 (by decide) (by decide), c 75 (by decide) (by decide), c 76 (by decide) (by decide), c 77 (by decide) (by decide), c 78 (by decide) (by decide), c 79 (by decide) (by decide)]
  exact h
theorem thing_le {S : St} (h : SpO S) {e n u : Nat} (x : isTh (S 84) e n u) : tD (S 84) e n u ≤ 1000000 ∧ tR (S 84) e n u ≤ 1000000 ∧ (tX (S 84) e n u).length ≤ 1000000 := by
  have a := (tD_le h x).1
  have b := (h.1.2.2.2 e n u x.1 x.2.1 x.2.2.1 x.2.2.2).2.2
  have c := len_tX h.1.2.2 x.1 x.2.1 x.2.2.1 x.2.2.2
  exact ⟨by omega, by omega, c⟩
theorem c_roll65 {M : Int → Int} {e n : Nat} (he : (e : Int) < M 0) (hn : (n : Int) ≤ M 1) (h2 : kM M e n ≤ 200) : ∀ (d v f : Nat) (S : St), v + d = kM M e n → d < f → SpO S → S 84 = M → RLv M S e n v → ∃ T, mX11_rolling_64 ((e * 8 + n : Nat) : Int) ((kM M e n : Nat) : Int) (e : Int) (n : Int) f (v : Int) S = some T ∧ RLv M T e n (kM M e n) ∧ SpO T ∧ QFr S T ∧ RSt (e * 8 + n) S T ∧ T 73 1 = S 73 1 ∧ T 84 = S 84 := by
  intro d
  induction d with
  | zero =>
    intro v f S hv hf hS e84 hR
    obtain ⟨f, rfl⟩ : ∃ f', f = f' + 1 := ⟨f - 1, by omega⟩
    have hvk : v = kM M e n := by omega
    refine ⟨S, ?_, by rw [← hvk]; exact hR, hS, GFr.rf.q, RSt.rf, rfl, rfl⟩
    rw [mX11_rolling_64, gd_t (by omega), if_pos (by omega)]
  | succ d ih =>
    intro v f S hv hf hS e84 hR
    obtain ⟨f, rfl⟩ : ∃ f', f = f' + 1 := ⟨f - 1, by omega⟩
    subst e84
    have hM0 := hS.1.1.wf.1
    have hM1 := hS.1.1.wf.2.1
    have th : ∀ u, u ≤ v → isTh (S 84) e n u := fun u hu => ⟨he, hn, by omega, h2⟩
    obtain ⟨S1, s1, s2, s3, s4, s5⟩ := c_spell hS.1.1 hS.1.2.1 hS.1.2.2 hS.2.1.1 hS.2.2.1 hS.2.2.2 hS.2.1.2 (th v (Nat.le_refl _))
    have c84 := s5.cell (i := 84) (by decide) (Or.inr (by decide)) (by decide)
    have e16 := s5.1 0 16 (by decide) (Or.inl (by decide)) (Or.inr (by decide))
    have o1 : SpO S1 := ⟨⟨hS.1.1.of c84 (fun i a b => s5.cell (by omega) (by omega) (by omega)) (fun i a b => s5.cell (by omega) (by omega) (by omega)), by rw [c84]; exact hS.1.2.1, by rw [c84]; exact hS.1.2.2⟩, ⟨s4, s3⟩, Nat.le_trans hS.2.2.1 s5.2.1.1, by rw [e16]; exact hS.2.2.2.1, by rw [e16]; exact hS.2.2.2.2⟩
    have r1 : RLv (S 84) S1 e n v := hR.of (fun i a b => s5.cell (by omega) (by omega) (by omega))
    obtain ⟨S2, t1, t2, t3, t4, t5⟩ := c_note (M := S 84) (S := S1) (e := e) (n := n) (v := v) (by omega) (by omega) (by omega) r1 s2 (fun u hu => thing_le hS (th u hu))
    obtain ⟨o2, q2⟩ := o1.of7 t5
    have mk : msk S2 S1 = S2 := msk_e (fun i a => t5 i (by omega)) (t5 0 (by omega))
    obtain ⟨T, u1, u2, u3, u4, u5, u6, u7⟩ := ih (v + 1) f S2 (by omega) (by omega) o2 ((t5 84 (by omega)).trans c84) t2
    have rs1 : RSt (e * 8 + n) S S1 := ⟨fun q _ => ⟨by rw [s5.cell (i := 75) (by decide) (Or.inr (by decide)) (by decide)], by rw [s5.cell (i := 76) (by decide) (Or.inr (by decide)) (by decide)]⟩, fun q _ => ⟨by rw [s5.cell (i := 77) (by decide) (Or.inr (by decide)) (by decide)], by rw [s5.cell (i := 78) (by decide) (Or.inr (by decide)) (by decide)]⟩⟩
    refine ⟨T, ?_, u2, u3, (s5.q.trans q2).trans u4, (rs1.tr t4).tr u5, u6.trans (t3.trans (congrFun (s5.cell (i := 73) (by decide) (Or.inr (by decide)) (by decide)) 1)), u7.trans ((t5 84 (by omega)).trans c84)⟩
    rw [mX11_rolling_64, gd_t (by omega), if_neg (by omega)]
    refine bdG1_e s1 s5.2.1 ?_ (q2.trans u4).2.1
    rw [bd1_e t1, nx_e, mk]
    rw [show ((v + 1 : Nat) : Int) = (v : Int) + 1 by omega] at u1
    exact u1
/-- what a roll that has been called holds -/
def RLd (M : Int → Int) (S : St) (e n : Nat) : Prop := (S 75 ((e * 8 + n : Nat) : Int) = (((mst (tD M e n) (kM M e n)).2 : Nat) : Int) ∧ S 76 ((e * 8 + n : Nat) : Int) = (((mst (tR M e n) (kM M e n)).2 : Nat) : Int)) ∧ ∀ a : Nat, a < 26 → S 77 (((e * 8 + n) * 26 + a : Nat) : Int) = (((mst (fun u => cnI (97 + (a : Int)) (tX M e n u)) (kM M e n)).2 : Nat) : Int) ∧ S 78 (((e * 8 + n) * 26 + a : Nat) : Int) = ((sgM (fun u => cnI (97 + (a : Int)) (tX M e n u)) (kM M e n) : Nat) : Int)
def RLI (S : St) : Prop := fgs (S 73 1) 60 ∧ ∀ e n : Nat, (e : Int) < S 84 0 → (n : Int) ≤ S 84 1 → (S 73 1).toNat.testBit (e * 8 + n) = true → RLd (S 84) S e n
theorem c_rolling {S : St} (h : SpO S) (rl : RLI S) {a b : Int} (ha : inI a) (hb : inI b) : (∃ (e n : Nat) (S1 : St), (a = (e : Int) ∧ b = (n : Int)) ∧ ((e : Int) < S 84 0 ∧ (n : Int) ≤ S 84 1 ∧ 1 ≤ kM (S 84) e n ∧ kM (S 84) e n ≤ 200) ∧ mX11_rolling S a b = some (0, S1) ∧ RLd (S 84) S1 e n ∧ SpO S1 ∧ QFr S S1 ∧ RLI S1 ∧ S1 84 = S 84 ∧ ∀ T : St, T 84 = S 84 → ∃ T', mX12_whyNone T a b = some (0, T') ∧ cnt (S 84) (-1) T' ∧ kept [90, 91, 92] [] T T') ∨ (∃ r : Int, (r = -1 ∨ r = -2 ∨ r = -3) ∧ mX11_rolling S a b = some (r, S) ∧ ∀ T : St, T 84 = S 84 → ∃ T', mX12_whyNone T a b = some (r, T') ∧ kept [90, 91, 92] [] T T') := by
  have wf := h.1.1.wf
  have hM0 := wf.1
  have hM1 := wf.2.1
  rcases e_listing h.1.1 ha hb with ⟨e, n, rfl, rfl, k1, k2, l1, l2⟩ | ⟨l1, l2⟩
  · have ta := e_thingsAt h.1.1 k1 k2
    by_cases q : kM (S 84) e n ≤ 200
    · rw [if_pos q] at l1
      by_cases z : kM (S 84) e n = 0
      · refine Or.inr ⟨-1, Or.inl rfl, ?_, fun T hT => ?_⟩
        · unfold mX11_rolling
          refine entG_e ?_ gle_rfl
          rw [bd1_e l1, gd_t (by decide), if_pos rfl, bd1_e ta, gd_t (by omega), if_pos (by omega)]
        · obtain ⟨T', t1, t2, t3⟩ := l2 T hT
          rw [if_pos q, if_pos z] at t1
          exact ⟨T', t1, t3⟩
      · left
        have ref : ∀ T : St, T 84 = S 84 → ∃ T', mX12_whyNone T (e : Int) (n : Int) = some (0, T') ∧ cnt (S 84) (-1) T' ∧ kept [90, 91, 92] [] T T' := fun T hT => by
          obtain ⟨T', t1, t2, t3⟩ := l2 T hT
          rw [if_pos q, if_neg z] at t1
          exact ⟨T', t1, t2, t3⟩
        obtain ⟨m, hm, hm60⟩ := fgs_m rl.1
        have jb := jbit (m := m) (k := e * 8 + n) hm60 (by omega)
        have ew : (e : Int) * 8 + (n : Int) = ((e * 8 + n : Nat) : Int) := by omega
        cases hit : m.testBit (e * 8 + n) with
        | false =>
          have hs : mX7_has S ((e * 8 + n : Nat) : Int) = some 0 := by
            unfold mX7_has
            rw [hm, jb, hit, if_neg (show ¬ (false = true) by decide), gd_t (by decide), if_pos rfl]
          obtain ⟨P, p1, p2, p3, p4, p5⟩ := c_begin (M := S 84) (S := S) (e := e) (n := n) (by omega) (by omega) rl.1
          obtain ⟨oP, qP⟩ := h.of7 p5
          have mk : msk P S = P := msk_e (fun i a => p5 i (by omega)) (p5 0 (by omega))
          have P84 : P 84 = S 84 := p5 84 (by omega)
          obtain ⟨T, t1, t2, t3, t4, t5, t6, t7⟩ := c_roll65 (M := S 84) k1 k2 q (kM (S 84) e n) 0 FU P (by omega) (by unfold FU; omega) oP P84 p2
          have T84 : T 84 = S 84 := t7.trans P84
          have rs := p4.tr t5
          obtain ⟨⟨g1, g2⟩, ⟨g3, g4⟩, g5⟩ := t2
          have rd : RLd (S 84) T e n := ⟨⟨g2 (by omega), g4 (by omega)⟩, fun a a26 => ⟨(g5 a a26).2.1 (by omega), (g5 a a26).2.2⟩⟩
          refine ⟨e, n, T, ⟨rfl, rfl⟩, ⟨k1, k2, by omega, q⟩, ?_, rd, t3, qP.trans t4, ⟨by rw [t6]; exact p3.1, fun e' n' h1 h2 h3 => ?_⟩, T84, ref⟩
          · unfold mX11_rolling
            refine entG_e ?_ (qP.trans t4).2.1
            rw [bd1_e l1, gd_t (by decide), if_pos rfl, bd1_e ta, gd_t (by omega), if_neg (by omega), nx_e, ew, bd1_e hs, gd_t (by decide), if_pos rfl, bd1_e p1, nx_e, mk]
            exact bdG1_e t1 t4.2.1 rfl gle_rfl
          · rw [T84] at h1 h2 ⊢
            by_cases y : e' * 8 + n' = e * 8 + n
            · have : e' = e ∧ n' = n := by omega
              obtain ⟨rfl, rfl⟩ := this
              exact rd
            · obtain ⟨r2, r3⟩ := rs.1 ((e' * 8 + n' : Nat) : Int) (by omega)
              rw [t6, p3.2.2 _ y] at h3
              obtain ⟨⟨d1, d2⟩, d3⟩ := rl.2 e' n' h1 h2 h3
              refine ⟨⟨by rw [r2]; exact d1, by rw [r3]; exact d2⟩, fun a a26 => ?_⟩
              obtain ⟨r4, r5⟩ := rs.2 (((e' * 8 + n') * 26 + a : Nat) : Int) (by omega)
              rw [r4, r5]
              exact d3 a a26
        | true =>
          have hs : mX7_has S ((e * 8 + n : Nat) : Int) = some 1 := by
            unfold mX7_has
            rw [hm, jb, hit, if_pos (show true = true from rfl), gd_t (by decide), if_neg (by decide)]
          have hit' : (S 73 1).toNat.testBit (e * 8 + n) = true := by rw [hm, Int.toNat_natCast]; exact hit
          refine ⟨e, n, S, ⟨rfl, rfl⟩, ⟨k1, k2, by omega, q⟩, ?_, rl.2 e n k1 k2 hit', h, GFr.rf.q, rl, rfl, ref⟩
          unfold mX11_rolling
          refine entG_e ?_ gle_rfl
          rw [bd1_e l1, gd_t (by decide), if_pos rfl, bd1_e ta, gd_t (by omega), if_neg (by omega), nx_e, ew, bd1_e hs, gd_t (by decide), if_neg (by decide)]
    · rw [if_neg q] at l1
      refine Or.inr ⟨-3, Or.inr (Or.inr rfl), ?_, fun T hT => ?_⟩
      · unfold mX11_rolling
        refine entG_e ?_ gle_rfl
        rw [bd1_e l1, gd_t (by decide), if_neg (by decide)]
      · obtain ⟨T', t1, t2, t3⟩ := l2 T hT
        rw [if_neg q] at t1
        exact ⟨T', t1, t3⟩
  · refine Or.inr ⟨-2, Or.inr (Or.inl rfl), ?_, fun T hT => ⟨T, l2 T hT, kept.rf⟩⟩
    unfold mX11_rolling
    refine entG_e ?_ gle_rfl
    rw [bd1_e l1, gd_t (by decide), if_neg (by decide)]
