/-! dealt() -/
theorem e_next11 {b k : Nat} (hb : b < 11) (hk : k ≤ 1000) : ∀ (s i f x : Nat) (S : St), S 80 6 = (x : Int) → x < 2 ^ b → S 80 4 = (k : Int) → S 80 5 = ((2 ^ b : Nat) : Int) - 1 → itS (2 ^ b) s x < k → (∀ j, j < s → k ≤ itS (2 ^ b) j x) → i + s ≤ 2 ^ b - 1 → s < f → ∃ S' : St, mX1_next_11 f (i : Int) S = some S' ∧ S' 80 6 = ((itS (2 ^ b) s x : Nat) : Int) ∧ kept [] [(80, 6)] S S' := by
  have p0 : 0 < (2 : Nat) ^ b := Nat.two_pow_pos b
  have p : (2 : Nat) ^ b ≤ 2 ^ 10 := Nat.pow_le_pow_right (by omega) (by omega)
  have p' : (2 : Nat) ^ b ≤ 1024 := p
  intro s
  induction s with
  | zero =>
    intro i f x S h6 hx h4 h5 hlt hge hi hf
    obtain ⟨g, rfl⟩ : ∃ g, f = g + 1 := ⟨f - 1, by omega⟩
    have hlt' : x < k := hlt
    refine ⟨S, ?_, h6, kept.rf⟩
    rw [mX1_next_11, h5, gd_t (by omega)]
    by_cases c : ((2 ^ b : Nat) : Int) - 1 ≤ (i : Int)
    · rw [if_pos c]
    · rw [if_neg c, h6, h4, gd_t (by omega), if_pos (by omega)]
  | succ s ih =>
    intro i f x S h6 hx h4 h5 hlt hge hi hf
    obtain ⟨g, rfl⟩ : ∃ g, f = g + 1 := ⟨f - 1, by omega⟩
    have h0 : k ≤ x := hge 0 (by omega)
    obtain ⟨g1, g2⟩ := gS_an hb hx
    have ad : mX1_advance S = some (up S 80 6 ((gS (2 ^ b) x : Nat) : Int)) := by
      unfold mX1_advance
      rw [h6, h5, nx_e, g1]
    obtain ⟨S', r1, r2, r3⟩ := ih (i + 1) g (gS (2 ^ b) x) (up S 80 6 ((gS (2 ^ b) x : Nat) : Int)) up_eq g2 h4 h5 hlt (fun j hj => hge (j + 1) (by omega)) (by omega) (by omega)
    rw [show ((i + 1 : Nat) : Int) = (i : Int) + 1 by omega] at r1
    refine ⟨S', ?_, r2, kept.trans (kept.rf.upF (by decide)) r3⟩
    rw [mX1_next_11, h5, gd_t (by omega), if_neg (by omega), h6, h4, gd_t (by omega), if_neg (by omega), bd1_e ad]
    exact r1
theorem e_dealt16 {b k : Nat} (hb : b < 11) (hk : k ≤ 1000) : ∀ (s f x : Nat) (S : St), S 83 51 = (x : Int) → x < 2 ^ b → S 83 48 = (k : Int) → S 83 50 = ((2 ^ b : Nat) : Int) → itS (2 ^ b) s x < k → (∀ j, j < s → k ≤ itS (2 ^ b) j x) → s < f → ∃ S' : St, mX12_dealt_16 f S = some S' ∧ S' 83 51 = ((itS (2 ^ b) s x : Nat) : Int) ∧ kept [] [(83, 51)] S S' := by
  have p0 : 0 < (2 : Nat) ^ b := Nat.two_pow_pos b
  have p : (2 : Nat) ^ b ≤ 2 ^ 10 := Nat.pow_le_pow_right (by omega) (by omega)
  have p' : (2 : Nat) ^ b ≤ 1024 := p
  intro s
  induction s with
  | zero =>
    intro f x S h6 hx h4 h5 hlt hge hf
    obtain ⟨g, rfl⟩ : ∃ g, f = g + 1 := ⟨f - 1, by omega⟩
    have hlt' : x < k := hlt
    refine ⟨S, ?_, h6, kept.rf⟩
    rw [mX12_dealt_16, h6, h4, gd_t (by omega), if_pos (by omega)]
  | succ s ih =>
    intro f x S h6 hx h4 h5 hlt hge hf
    obtain ⟨g, rfl⟩ : ∃ g, f = g + 1 := ⟨f - 1, by omega⟩
    have h0 : k ≤ x := hge 0 (by omega)
    obtain ⟨-, g2⟩ := gS_an hb hx
    have g1 : (5 * (x : Int) + 3) % ((2 ^ b : Nat) : Int) = ((gS (2 ^ b) x : Nat) : Int) := by
      rw [show 5 * (x : Int) + 3 = ((5 * x + 3 : Nat) : Int) by omega, ← Int.natCast_emod]; rfl
    obtain ⟨S', r1, r2, r3⟩ := ih g (gS (2 ^ b) x) (up S 83 51 ((gS (2 ^ b) x : Nat) : Int)) up_eq g2 h4 h5 hlt (fun j hj => hge (j + 1) (by omega)) (by omega)
    refine ⟨S', ?_, r2, kept.trans (kept.rf.upF (by decide)) r3⟩
    rw [mX12_dealt_16, h6, h4, gd_t (by omega), if_neg (by omega), h5, gd_t (by omega), g1, nx_e]
    exact r1
theorem s_dealt {S : St} (h : Cor S) (hD : DL S) : ∃ (r : Int) (S1 S2 : St), mX11_dealt S = some (r, S1) ∧ mX12_dealt S1 = some (r, S2) ∧ inI r ∧ kept [80] [] S S1 ∧ kept [80, 90, 91, 92] [(83, 44), (83, 49), (83, 51)] S S2 ∧ DL S2 := by
  have hM1 := h.wf.2.1
  have eC : ∀ (r : Int) (S1 : St), mX1_next S = some (r, S1) → mX11_dealt S = some (r, S1) := fun r S1 x => by
    unfold mX11_dealt; rw [bd2_e x]
  have hD' := hD
  rcases hD with ⟨a, b⟩ | ⟨a, e, lo, hi, k, b, x, l, ⟨c1, c2, c3, c4, c5, c6, c7, c8⟩, ⟨d1, d2, d3, d4, d5, d6⟩, f1, f2, f3, f4, f5, f6⟩
  · refine ⟨-1, S, S, eC _ _ ?_, ?_, by omega, kept.rf, kept.rf, hD'⟩
    · unfold mX1_next
      rw [b, gd_t (by decide), if_pos rfl]
    · unfold mX12_dealt
      rw [a, gd_t (by decide), if_pos rfl]
  · by_cases l0 : l = 0
    · subst l0
      refine ⟨-1, S, S, eC _ _ ?_, ?_, by omega, kept.rf, kept.rf, hD'⟩
      · unfold mX1_next
        rw [d1, gd_t (by decide), if_pos (by decide)]
      · unfold mX12_dealt
        rw [a, gd_t (by decide), if_neg (by decide), f1, gd_t (by decide), if_pos (by decide)]
    · have p0 : 0 < (2 : Nat) ^ b := Nat.two_pow_pos b
      have p : (2 : Nat) ^ b ≤ 2 ^ 10 := Nat.pow_le_pow_right (by omega) (by omega)
      have p' : (2 : Nat) ^ b ≤ 1024 := p
      obtain ⟨s, s1, s2, s3⟩ := first_lt (k := k) c6 c7 (by omega)
      obtain ⟨S5, n1, n2, n3⟩ := e_next11 c6 c5 s 0 FU x S d6 c7 d4 d5 s2 s3 (by omega) (by unfold FU; omega)
      have yl : itS (2 ^ b) s x < 2 ^ b := by
        cases s with
        | zero => exact c7
        | succ s =>
          rw [show s + 1 = s + 1 from rfl, itS_add]
          exact Nat.mod_lt _ p0
      obtain ⟨y, hy⟩ : ∃ y, y = itS (2 ^ b) s x := ⟨_, rfl⟩
      rw [← hy] at n2 yl
      have yk : y < k := by rw [hy]; exact s2
      obtain ⟨g1, g2⟩ := gS_an c6 yl
      obtain ⟨S11, hS11⟩ : ∃ S11 : St, S11 = up (up S5 80 6 ((gS (2 ^ b) y : Nat) : Int)) 80 1 ((l : Int) - 1) := ⟨_, rfl⟩
      have o5 : ∀ i, i ≠ 80 → S5 i = S i := fun i hi => n3.cell i (by simp) (by simp; omega)
      have o11 : ∀ i, i ≠ 80 → S11 i = S i := fun i hi => by rw [hS11]; simp only [up, if_neg hi]; exact o5 i hi
      have h11 : Cor S11 := h.of (o11 84 (by decide)) (fun i _ _ => o11 i (by omega)) (fun i _ _ => o11 i (by omega))
      have e84 : S11 84 = S 84 := o11 84 (by decide)
      have k11 : kept [80] [] S S11 := fun i j x _ => by rw [o11 i (fun w => x (by simp [w]))]
      have e82 : S11 80 2 = (e : Int) := by rw [hS11]; show S5 80 2 = _; rw [n3 80 2 (by decide) (by decide)]; exact d2
      have e83 : S11 80 3 = (lo : Int) := by rw [hS11]; show S5 80 3 = _; rw [n3 80 3 (by decide) (by decide)]; exact d3
      obtain ⟨v1, v2⟩ := c_sizeAt h11 (e := e) (d := hi + 1 - lo) (n := lo) (k := y) (by rw [e84]; exact c1) (by rw [e84]; omega) (by rw [e84]; omega) (by omega)
      rw [e84] at v1 v2
      obtain ⟨p1, p2, p3⟩ := psn_ok (M := S 84) (e := e) (hi + 1 - lo) lo y (by omega)
      have ad : mX1_advance S5 = some (up S5 80 6 ((gS (2 ^ b) y : Nat) : Int)) := by
        unfold mX1_advance
        rw [n2, n3 80 5 (by decide) (by decide), d5, nx_e, g1]
      have cC : mX1_next S = some (10000 * (((psn (S 84) e (hi + 1 - lo) lo y).1 : Nat) : Int) + (((psn (S 84) e (hi + 1 - lo) lo y).2 : Nat) : Int), S11) := by
        unfold mX1_next
        rw [d1, gd_t (by omega), if_neg (by omega), bd1_e (show mX1_next_11 FU 0 S = some S5 from n1), n2, nx_e, bd1_e ad]
        rw [show (up S5 80 6 ((gS (2 ^ b) y : Nat) : Int)) 80 1 = S5 80 1 from rfl, n3 80 1 (by decide) (by decide), d1, nx_e, ← hS11, e82, e83, bd1_e v1, bd1_e v2]
      -- the reference, behind the class
      have t83 : S11 83 = S 83 := o11 83 (by decide)
      obtain ⟨T6, m1, m2, m3⟩ := e_dealt16 c6 c5 s FU x S11 (by rw [t83]; exact f6) c7 (by rw [t83]; exact f4) (by rw [t83]; exact f5) s2 s3 (by unfold FU; omega)
      rw [← hy] at m2
      have t6 : ∀ i, i ≠ 83 → T6 i = S11 i := fun i hi => m3.cell i (by simp) (by simp; omega)
      have t6f : ∀ k : Int, k ≠ 51 → T6 83 k = S 83 k := fun k hk => by
        rw [m3 83 k (by simp) (by simp; omega), t83]
      have g1' : (5 * (y : Int) + 3) % ((2 ^ b : Nat) : Int) = ((gS (2 ^ b) y : Nat) : Int) := by
        rw [show 5 * (y : Int) + 3 = ((5 * y + 3 : Nat) : Int) by omega, ← Int.natCast_emod]; rfl
      obtain ⟨T12, hT12⟩ : ∃ T12 : St, T12 = up (up T6 83 51 ((gS (2 ^ b) y : Nat) : Int)) 83 49 ((l : Int) - 1) := ⟨_, rfl⟩
      have t12 : ∀ i, i ≠ 83 → T12 i = S11 i := fun i hi => by rw [hT12]; simp only [up, if_neg hi]; exact t6 i hi
      obtain ⟨T14, w1, w2, w3⟩ := h11.cnt (T := T12) (l := -1) (by decide) (t12 84 (by decide))
      rw [e84] at w2
      have v3 := f_rankIn h.wf h.kall w2 (e := e) c1 (hi + 1 - lo) lo y FU (by omega) (by unfold FU; omega) (by omega) (by omega)
      have u83 : T14 83 = T12 83 := w3.cell 83 (by decide) (by decide)
      have u46 : T14 83 46 = (e : Int) := by rw [u83, hT12]; show T6 83 46 = _; rw [t6f 46 (by decide)]; exact f2
      have u47 : T14 83 47 = (lo : Int) := by rw [u83, hT12]; show T6 83 47 = _; rw [t6f 47 (by decide)]; exact f3
      have rI : mX12_rankIn T14 (e : Int) (lo : Int) (y : Int) = some ((((psn (S 84) e (hi + 1 - lo) lo y).2 : Nat) : Int), up T14 83 44 (((psn (S 84) e (hi + 1 - lo) lo y).1 : Nat) : Int)) := by
        unfold mX12_rankIn
        rw [gd_t (by omega), bd2_e v3, nx_e]
      have kl := h.kle c1 (n := (psn (S 84) e (hi + 1 - lo) lo y).1) (by omega)
      have y2 : (psn (S 84) e (hi + 1 - lo) lo y).2 ≤ y := by omega
      refine ⟨_, S11, up T14 83 44 (((psn (S 84) e (hi + 1 - lo) lo y).1 : Nat) : Int), eC _ _ cC, ?_, by omega, k11, ?_, Or.inr ⟨?_, e, lo, hi, k, b, gS (2 ^ b) y, l - 1, ⟨?_, c2, ?_, ?_, c5, c6, g2, by omega⟩, ⟨?_, ?_, ?_, ?_, ?_, ?_⟩, ?_, ?_, ?_, ?_, ?_, ?_⟩⟩
      · unfold mX12_dealt
        rw [t83, a, gd_t (by decide), if_neg (by decide), f1, gd_t (by omega), if_neg (by omega), bd1_e m1, m2, nx_e, t6f 50 (by decide), f5, gd_t (by omega), g1', nx_e]
        rw [show (up T6 83 51 ((gS (2 ^ b) y : Nat) : Int)) 83 49 = T6 83 49 from rfl, t6f 49 (by decide), f1, nx_e, ← hT12, bd1_e w1, u46, u47, bd2_e rI]
        rw [show (up T14 83 44 (((psn (S 84) e (hi + 1 - lo) lo y).1 : Nat) : Int)) 83 44 = _ from up_eq]
      · have q1 : kept [80, 90, 91, 92] [(83, 44), (83, 49), (83, 51)] S T6 := kept.trans (k11.mono (by simp) (by simp)) (m3.mono (by simp) (by simp))
        have q2 : kept [80, 90, 91, 92] [(83, 44), (83, 49), (83, 51)] S T12 := by
          rw [hT12]; exact (q1.upF (by decide)).upF (by decide)
        exact (kept.trans q2 (w3.mono (by simp) (by simp))).upF (by decide)
      · show T14 83 45 = 1
        rw [u83, hT12]; show T6 83 45 = _; rw [t6f 45 (by decide)]; exact a
      · show (e : Int) < T14 84 0
        rw [w2.1]; exact c1
      · show (hi : Int) ≤ T14 84 1
        rw [w2.1]; exact c3
      · show k = sN (T14 84) e (hi + 1 - lo) lo
        rw [w2.1]; exact c4
      · show T14 80 1 = _
        rw [w3.cell 80 (by decide) (by decide), t12 80 (by decide), hS11, up_eq]; omega
      · show T14 80 2 = _
        rw [w3.cell 80 (by decide) (by decide), t12 80 (by decide)]; exact e82
      · show T14 80 3 = _
        rw [w3.cell 80 (by decide) (by decide), t12 80 (by decide)]; exact e83
      · show T14 80 4 = _
        rw [w3.cell 80 (by decide) (by decide), t12 80 (by decide), hS11]
        show S5 80 4 = _
        rw [n3 80 4 (by decide) (by decide)]; exact d4
      · show T14 80 5 = _
        rw [w3.cell 80 (by decide) (by decide), t12 80 (by decide), hS11]
        show S5 80 5 = _
        rw [n3 80 5 (by decide) (by decide)]; exact d5
      · show T14 80 6 = _
        rw [w3.cell 80 (by decide) (by decide), t12 80 (by decide), hS11]; rfl
      · show T14 83 49 = _
        rw [u83, hT12, up_eq]; omega
      · exact u46
      · exact u47
      · show T14 83 48 = _
        rw [u83, hT12]; show T6 83 48 = _; rw [t6f 48 (by decide)]; exact f4
      · show T14 83 50 = _
        rw [u83, hT12]; show T6 83 50 = _; rw [t6f 50 (by decide)]; exact f5
      · show T14 83 51 = _
        rw [u83, hT12]; rfl
