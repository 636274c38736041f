/-! hangs: the whole call -/
theorem e_hc45 {S : St} (h : Cor S) (ce : CE (S 84)) {k n C : Nat} {X : Nat → Nat} (hk : (k : Int) < S 84 0) (hn : (n : Int) ≤ S 84 1) (hC : C < 64) (hq : hasEq (S 84) 2 X) (cl : ∀ e : Nat, (e : Int) < S 84 0 → C.testBit e = true → sub (eO (S 84) X gdT e) C) (ck : C.testBit k = true) : ∀ (j e f : Nat) (v : Int) (b : Nat) (T : St), HV S T → ((e + j : Nat) : Int) = S 84 0 → j < f → inI v → b ≤ kM (S 84) k n → ∃ T' : St, mX11_hangs_45 (C : Int) (k : Int) (n : Int) f (e : Int) v (b : Int) T = some ((hgI (S 84) k n (10 * j) (e * 10) (v, b)).1, T') ∧ HV S T' := by
  have w := h.wf
  have hM0 := w.1
  have hM1 := w.2.1
  have kb := h.kle hk (n := n) (by omega)
  have h0 := h
  obtain ⟨E, TE, KE, rO, rT, rK, st, w', o, ti⟩ := h
  intro j
  induction j with
  | zero =>
    intro e f v b T hT hc hf hv hb
    obtain ⟨g, rfl⟩ : ∃ g, f = g + 1 := ⟨f - 1, by omega⟩
    refine ⟨T, ?_, hT⟩
    have c2 : T 2 1 = S 84 0 := by rw [← hT.e84]; exact hT.1.gm.1.2.1
    rw [mX11_hangs_45, c2, gd_t (by omega), if_pos (by omega)]
    rfl
  | succ j ih =>
    intro e f v b T hT hc hf hv hb
    obtain ⟨g, rfl⟩ : ∃ g, f = g + 1 := ⟨f - 1, by omega⟩
    have c2 : T 2 1 = S 84 0 := by rw [← hT.e84]; exact hT.1.gm.1.2.1
    have s1 : (e : Int) + 1 = ((e + 1 : Nat) : Int) := by omega
    have he : (e : Int) < S 84 0 := by omega
    have oe := (w.2.2.2.2.1 e he).1
    rw [mX11_hangs_45, c2, gd_t (by omega), if_neg (by omega), show 10 * (j + 1) = 10 + 10 * j by omega, hgI_add, show e * 10 + 10 = (e + 1) * 10 by omega]
    have inner : ∃ T1 : St, mX11_hangs_60 (e : Int) (C : Int) (k : Int) (n : Int) FU 0 v (b : Int) T = some (((hgI (S 84) k n 10 (e * 10) (v, b)).2 : Int), (hgI (S 84) k n 10 (e * 10) (v, b)).1, T1) ∧ HV S T1 := by
      cases cb : C.testBit e with
      | true =>
        obtain ⟨cn, hcn⟩ : ∃ cn : Nat, S 84 (198 + (e : Int)) = (cn : Int) := ⟨(S 84 (198 + (e : Int))).toNat, by omega⟩
        obtain ⟨T1, a1, a2⟩ := e_hc60 h0 ce hk hn he hC cb cn 0 FU v b T hT (by omega) (by unfold FU; omega) hv hb
        refine ⟨T1, ?_, a2⟩
        have eq : hgI (S 84) k n 10 (e * 10) (v, b) = hgI (S 84) k n cn (e * 10) (v, b) := by
          rw [show (10 : Nat) = cn + (10 - cn) by omega, hgI_add]
          rw [show e * (cn + (10 - cn)) = e * 10 by rw [show cn + (10 - cn) = 10 by omega]]
          refine hgI_id _ _ (fun i hi => ?_)
          unfold hgS
          rw [if_neg]
          intro z
          have z1 := z.1
          rw [show (e * 10 + cn + i) / 10 = e by omega, show (e * 10 + cn + i) % 10 = cn + i by omega, hcn] at z1
          omega
        rw [eq]
        exact a1
      | false =>
        refine ⟨T, ?_, hT⟩
        have nr : an (shr (C : Int) (e : Int)) 1 = 0 := by
          rw [has_bt (by omega) (by omega) (by omega) (by omega), if_neg]
          show ¬ (C.testBit e = true)
          rw [cb]; decide
        have eq : hgI (S 84) k n 10 (e * 10) (v, b) = (v, b) := by
          refine hgI_id _ _ (fun i hi => ?_)
          unfold hgS
          rw [show (e * 10 + i) / 10 = e by omega, show (e * 10 + i) % 10 = i by omega, kM_near w o hq cl he hi cb hk ck (by omega), if_neg]
          intro z
          have z2 := z.2
          dsimp only at z2
          omega
        rw [eq]
        rw [show FU = (FU - 1) + 1 by unfold FU; omega, mX11_hangs_60, nr, gd_t (by decide), if_pos rfl]
    obtain ⟨T1, a1, a2⟩ := inner
    have lb := hgI_le (M := S 84) (k := k) (n := n) 10 (e * 10) (v, b)
    have li := hgI_I (M := S 84) (k := k) (n := n) 10 (e * 10) (v, b) hv (by omega)
    obtain ⟨T2, b1, b2⟩ := ih (e + 1) g (hgI (S 84) k n 10 (e * 10) (v, b)).1 (hgI (S 84) k n 10 (e * 10) (v, b)).2 T1 a2 (by omega) (by omega) li (Nat.le_trans lb hb)
    exact ⟨T2, by rw [bd3_e a1, s1, b1], b2⟩
theorem s_hangs {S : St} (h : Cor S) (ce : CE (S 84)) (hK : nbK S) (hL : LG3 S) (st : stuOK33 (S 84) S) {a b : Int} (ha : inI a) (hb : inI b) : ∃ (r : Int) (S1 S2 : St), mX11_hangs S a b = some (r, S1) ∧ mX12_hangs S1 a b = some (r, S2) ∧ inI r ∧ kept [49, 50, 51, 52, 53, 59] [(48, 1), (47, 4)] S S1 ∧ kept [90, 91, 92] [] S1 S2 ∧ nbK S1 ∧ LG3 S1 := by
  have w := h.wf
  have hM0 := w.1
  have hM1 := w.2.1
  have hM2 := w.2.2.1
  have sz := e_sized h ha hb
  have is := e_isSize h rfl hb
  rcases e_known h ha with ⟨k1, k2, e, k3, k4⟩ | ⟨k1, k2, k3⟩
  · subst k3
    by_cases c : 0 ≤ b ∧ b ≤ S 84 1
    · obtain ⟨n, rfl⟩ : ∃ n : Nat, b = (n : Int) := ⟨b.toNat, by omega⟩
      rw [if_pos ⟨⟨by omega, k4⟩, c⟩] at sz
      obtain ⟨⟨cc, lf⟩, ⟨na, nb', nc⟩, ⟨nd, ne, nf⟩, ⟨q1, q2, q3⟩, q4⟩ := st
      have hD : ∀ j, j < (S 84 0).toNat → eO (S 84) (tb S 35) gdT j < 2 ^ (S 84 0).toNat := fun j hj => hasD w q2 (by omega)
      have cq : clo (tb S 38) 6 e = clo (fun e => eO (S 84) (tb S 35) gdT e) (S 84 0).toNat e := clo_six (by omega) (fun j hj => (q4 j (by omega)).2.1) hD (by omega)
      have cl := e_closure38 ne (show e < 6 by omega)
      rw [cq] at cl
      have lt : clo (fun e => eO (S 84) (tb S 35) gdT e) (S 84 0).toNat e < 2 ^ (S 84 0).toNat := clR_lt hD 6 _ (hD e (by omega))
      have le : (2 : Nat) ^ (S 84 0).toNat ≤ 2 ^ 6 := Nat.pow_le_pow_right (by decide) (by omega)
      have pe : (2 : Nat) ^ e < 2 ^ 6 := Nat.pow_lt_pow_right (by decide) (by omega)
      have C64 : clo (fun e => eO (S 84) (tb S 35) gdT e) (S 84 0).toNat e ||| 2 ^ e < 64 := Nat.or_lt_two_pow (n := 6) (by omega) pe
      have cls := near_closed (D := fun e => eO (S 84) (tb S 35) gdT e) (m := (S 84 0).toNat) (u := e) (by omega) hD (by omega)
      have le6 : (2 : Nat) ^ 6 = 64 := rfl
      have ck : (clo (fun e => eO (S 84) (tb S 35) gdT e) (S 84 0).toNat e ||| 2 ^ e).testBit e = true := by
        rw [Nat.testBit_or, Nat.testBit_two_pow]; simp
      have ox : orr ((clo (fun e => eO (S 84) (tb S 35) gdT e) (S 84 0).toNat e : Nat) : Int) (shl 1 (e : Int)) = ((clo (fun e => eO (S 84) (tb S 35) gdT e) (S 84 0).toNat e ||| 2 ^ e : Nat) : Int) := by
        rw [shl1 (by omega), orr_nat (by omega) (by omega)]
      obtain ⟨m0, hm0⟩ : ∃ m0 : Nat, S 84 0 = (m0 : Int) := ⟨(S 84 0).toNat, by omega⟩
      generalize clo (fun e => eO (S 84) (tb S 35) gdT e) (S 84 0).toNat e ||| 2 ^ e = C at C64 cls ck ox
      have kb := h.kle k4 (n := n) (by omega)
      obtain ⟨S1, a1, a2⟩ := e_hc45 h ce k4 c.2 C64 q2 (fun e' _ he' => cls e' he') ck m0 0 FU (-1) (kM (S 84) e n) S ⟨h, hK, hL, kept.rf⟩ (by omega) (by unfold FU; omega) (by omega) (Nat.le_refl _)
      have e84 := a2.e84
      obtain ⟨S2, b1, b2, b3⟩ := h.cnt (T := S1) (l := -1) (by decide) e84
      have e84' : S2 84 = S 84 := by rw [b3.cell 84 (by decide) (by decide)]; exact e84
      obtain ⟨S3, d1, d2⟩ := e_hg37 h k4 (show n ≤ 7 by omega) (10 * m0) 0 FU (-1) (kM (S 84) e n) S2 e84' (by omega) (by unfold FU; omega) (by omega) kb
      have li := hgI_I (M := S 84) (k := e) (n := n) (10 * m0) 0 (-1, kM (S 84) e n) (show inI (-1) by decide) (by omega)
      have ik' := e_ik h e84 ha
      have is' := e_isSize h e84 hb
      rw [if_pos ⟨by omega, k4⟩] at ik'
      rw [if_pos c] at is'
      refine ⟨(hgI (S 84) e n (10 * m0) 0 (-1, kM (S 84) e n)).1, S1, S3, ?_, ?_, li, a2.2.2.2, kept.trans b3 d2, a2.2.1, a2.2.2.1⟩
      · unfold mX11_hangs
        rw [bd1_e sz, gd_t (by decide), if_neg (by decide), bd1_e cl, ox, nx_e, bd1_e (e_thingsAt h k4 c.2)]
        rw [show (0 : Nat) * 10 = 0 from rfl, show ((0 : Nat) : Int) = 0 from rfl] at a1
        rw [bd2_e a1]
      · unfold mX12_hangs
        rw [bd1_e ik', gd_t (by decide), if_neg (by decide), bd1_e is', gd_t (by decide), if_neg (by decide), bd1_e b1, bd1_e (e_kindMany w b2 k4 (by omega))]
        rw [show ((0 : Nat) : Int) = 0 from rfl] at d1
        rw [bd2_e d1]
    · rw [if_neg (fun w => c w.2)] at sz
      rw [if_neg c] at is
      refine ⟨-2, S, S, ?_, ?_, by omega, kept.rf, kept.rf, hK, hL⟩
      · unfold mX11_hangs
        rw [bd1_e sz, gd_t (by decide), if_pos rfl]
      · unfold mX12_hangs
        rw [bd1_e k2, gd_t (by decide), if_neg (by decide), bd1_e is, gd_t (by decide), if_pos rfl]
  · rw [if_neg (fun w => k3 w.1)] at sz
    refine ⟨-2, S, S, ?_, ?_, by omega, kept.rf, kept.rf, hK, hL⟩
    · unfold mX11_hangs
      rw [bd1_e sz, gd_t (by decide), if_pos rfl]
    · unfold mX12_hangs
      rw [bd1_e k2, gd_t (by decide), if_pos rfl]
