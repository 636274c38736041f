/-! plain questions -/
theorem s_terms {S : St} (h : Cor S) {a : Int} (ha : inI a) : ∃ r : Int, mX11_terms S a = some r ∧ mX12_terms S a = some r ∧ inI r := by
  have w := h.wf
  have hM0 := w.1
  unfold mX11_terms mX12_terms
  rcases e_known h ha with ⟨k1, k2, e, k3, k4⟩ | ⟨k1, k2, k3⟩
  · subst k3
    have oc := (w.2.2.2.2.1 e k4).1
    refine ⟨S 84 (198 + (e : Int)), ?_, ?_, by omega⟩
    · rw [bd1_e k1, gd_t (by decide), if_neg (by decide), gd_t (by omega), h.gm.2.2.1 e (by omega)]
    · rw [bd1_e k2, gd_t (by decide), if_neg (by decide), gd_t (by omega)]
  · exact ⟨-2, by rw [bd1_e k1, gd_t (by decide), if_pos rfl], by rw [bd1_e k2, gd_t (by decide), if_pos rfl], by omega⟩
theorem s_off {S : St} (h : Cor S) {a : Int} (ha : inI a) : ∃ r : Int, mX11_off S a = some r ∧ mX12_off S a = some r ∧ inI r := by
  have w := h.wf
  have hM0 := w.1
  unfold mX11_off mX12_off
  rcases e_known h ha with ⟨k1, k2, e, k3, k4⟩ | ⟨k1, k2, k3⟩
  · subst k3
    have oc := w.2.2.2.2.2 e (by omega)
    refine ⟨S 84 (6 + (e : Int)), ?_, ?_, by omega⟩
    · rw [bd1_e k1, gd_t (by decide), if_neg (by decide), gd_t (by omega), h.gm.2.2.2.2.1 e (by omega)]
    · rw [bd1_e k2, gd_t (by decide), if_neg (by decide), gd_t (by omega)]
  · exact ⟨-2, by rw [bd1_e k1, gd_t (by decide), if_pos rfl], by rw [bd1_e k2, gd_t (by decide), if_pos rfl], by omega⟩
theorem s_letters {S : St} {d : Nat → Nat} (h : Cor S) (st : stuOK33 (S 84) S) (hd : DP (S 84) d) {a : Int} (ha : inI a) : ∃ r : Int, mX11_letters S a = some r ∧ mX12_letters S a = some r ∧ inI r := by
  have w := h.wf
  have hM0 := w.1
  have hM2 := w.2.2.1
  obtain ⟨⟨cc, lf⟩, ⟨na, nb', nc⟩, ⟨nd, ne, nf⟩, ⟨q1, q2, q3⟩, q4⟩ := st
  unfold mX11_letters mX12_letters
  rcases e_known h ha with ⟨k1, k2, e, k3, k4⟩ | ⟨k1, k2, k3⟩
  · subst k3
    have v := nf.at (show e < 6 by omega)
    have b : tb S 39 e ≤ 1073741823 := v.2
    have s := e_stands (S := S) (X := tb S 36) (sort := 0) (e := e) w (Or.inl rfl) (fun p hp => nb30 nc (by omega)) q3 hd k4
    refine ⟨((tb S 39 e : Nat) : Int), ?_, ?_, by omega⟩
    · rw [bd1_e k1, gd_t (by decide), if_neg (by decide), gd_t (by omega), v.1]
    · rw [bd1_e k2, gd_t (by decide), if_neg (by decide), bd1_e s, (q4 e k4).2.2]
  · exact ⟨-2, by rw [bd1_e k1, gd_t (by decide), if_pos rfl], by rw [bd1_e k2, gd_t (by decide), if_pos rfl], by omega⟩
theorem s_uses {S : St} {d : Nat → Nat} (h : Cor S) (st : stuOK33 (S 84) S) (hd : DP (S 84) d) {a : Int} (ha : inI a) : ∃ r : Int, mX11_uses S a = some r ∧ mX12_uses S a = some r ∧ inI r := by
  have w := h.wf
  have hM0 := w.1
  have hM2 := w.2.2.1
  obtain ⟨⟨cc, lf⟩, ⟨na, nb', nc⟩, ⟨nd, ne, nf⟩, ⟨q1, q2, q3⟩, q4⟩ := st
  unfold mX11_uses mX12_uses
  rcases e_known h ha with ⟨k1, k2, e, k3, k4⟩ | ⟨k1, k2, k3⟩
  · subst k3
    have v := ne.at (show e < 6 by omega)
    have b : tb S 38 e ≤ 1073741823 := v.2
    have s := e_stands (S := S) (X := tb S 35) (sort := 2) (e := e) w (Or.inr rfl) (fun p hp => nb30 nb' (by omega)) q2 hd k4
    refine ⟨((tb S 38 e : Nat) : Int), ?_, ?_, by omega⟩
    · rw [bd1_e k1, gd_t (by decide), if_neg (by decide), gd_t (by omega), v.1]
    · rw [bd1_e k2, gd_t (by decide), if_neg (by decide), bd1_e s, (q4 e k4).2.1]
  · exact ⟨-2, by rw [bd1_e k1, gd_t (by decide), if_pos rfl], by rw [bd1_e k2, gd_t (by decide), if_pos rfl], by omega⟩
theorem s_empty {S : St} (h : Cor S) (st : stuOK33 (S 84) S) {a : Int} (ha : inI a) : ∃ (r : Int) (S' : St), mX11_empty S a = some r ∧ mX12_empty S a = some (r, S') ∧ inI r ∧ kept [89] [] S S' := by
  have w := h.wf
  have hM0 := w.1
  obtain ⟨⟨cc, lf⟩, -⟩ := st
  unfold mX11_empty mX12_empty
  rcases e_known h ha with ⟨k1, k2, e, k3, k4⟩ | ⟨k1, k2, k3⟩
  · subst k3
    obtain ⟨S6, s1, s2, s3, s4⟩ := w_empties (S := S) w
    have u := lfE_uniq lf s3 (x := 24 + e) (Or.inr ⟨by omega, by rw [show 24 + e - 24 = e by omega]; exact k4⟩)
    have c2 := cc.2
    have b2 : S 33 2 < 1073741824 := c2.2
    have cf : cf33 S (24 + e) = bt (S 33 2) (e : Int) := by
      unfold cf33
      rw [if_neg (by omega), show 24 + e - 24 = e by omega]
    refine ⟨if cf33 S (24 + e) then 1 else 0, S6, ?_, ?_, by split <;> omega, s4⟩
    · rw [bd1_e k1, gd_t (by decide), if_neg (by decide), has_bt (by omega) (by omega) (by omega) (by omega), cf]
    · have ev := eb_val s2 (show 24 + e < 30 by omega)
      rw [show ((24 + e : Nat) : Int) = 24 + (e : Int) by omega] at ev
      rw [bd1_e k2, gd_t (by decide), if_neg (by decide), bd1_e s1, gd_t (by omega), ev, ← u]
      cases cf33 S (24 + e)
      · rw [if_neg (by decide), gd_t (by decide), if_pos rfl]
      · rw [if_pos rfl, gd_t (by decide), if_neg (by decide)]
  · exact ⟨-2, S, by rw [bd1_e k1, gd_t (by decide), if_pos rfl], by rw [bd1_e k2, gd_t (by decide), if_pos rfl], by omega, kept.rf⟩
theorem s_reaches {S : St} {d : Nat → Nat} (h : Cor S) (st : stuOK33 (S 84) S) (hd : DP (S 84) d) {a : Int} (ha : inI a) : ∃ r : Int, mX11_reaches S a = some r ∧ mX12_reaches S a = some r ∧ inI r := by
  have w := h.wf
  have hM0 := w.1
  have hM2 := w.2.2.1
  obtain ⟨⟨cc, lf⟩, ⟨na, nb', nc⟩, ⟨nd, ne, nf⟩, ⟨q1, q2, q3⟩, q4⟩ := st
  rcases e_known h ha with ⟨k1, k2, e, k3, k4⟩ | ⟨k1, k2, k3⟩
  · subst k3
    have s := e_reaches (S := S) (X := tb S 35) (k := e) w (fun p hp => nb30 nb' (by omega)) q2 hd k4
    have hD : ∀ j, j < (S 84 0).toNat → eO (S 84) (tb S 35) gdT j < 2 ^ (S 84 0).toNat := fun j hj => hasD w q2 (by omega)
    have c : clo (tb S 38) 6 e = clo (fun e => eO (S 84) (tb S 35) gdT e) (S 84 0).toNat e := clo_six (by omega) (fun j hj => (q4 j (by omega)).2.1) hD (by omega)
    have cl := e_closure38 ne (show e < 6 by omega)
    have lt : clo (fun e => eO (S 84) (tb S 35) gdT e) (S 84 0).toNat e < 2 ^ (S 84 0).toNat := clR_lt hD 6 _ (hD e (by omega))
    have le : (2 : Nat) ^ (S 84 0).toNat ≤ 2 ^ 6 := Nat.pow_le_pow_right (by decide) (by omega)
    have le' : (2 : Nat) ^ (S 84 0).toNat ≤ 64 := le
    refine ⟨((clo (tb S 38) 6 e : Nat) : Int), ?_, by rw [c]; exact s, by rw [c]; omega⟩
    unfold mX11_reaches
    rw [bd1_e k1, gd_t (by decide), if_neg (by decide), bd1_e cl]
  · refine ⟨-2, ?_, ?_, by omega⟩
    · unfold mX11_reaches
      rw [bd1_e k1, gd_t (by decide), if_pos rfl]
    · unfold mX12_reaches
      rw [bd1_e k2, gd_t (by decide), if_pos rfl]
theorem s_leans {S : St} {d : Nat → Nat} (h : Cor S) (st : stuOK33 (S 84) S) (hd : DP (S 84) d) {a : Int} (ha : inI a) : ∃ (r : Int) (S' : St), mX11_leans S a = some r ∧ mX12_leans S a = some (r, S') ∧ inI r ∧ kept [89] [] S S' := by
  have w := h.wf
  have hM0 := w.1
  have hM2 := w.2.2.1
  obtain ⟨⟨cc, lf⟩, ⟨na, nb', nc⟩, ⟨nd, ne, nf⟩, ⟨q1, q2, q3⟩, q4⟩ := st
  rcases e_known h ha with ⟨k1, k2, e, k3, k4⟩ | ⟨k1, k2, k3⟩
  · subst k3
    have v := nd.at (show e < 6 by omega)
    have b : tb S 37 e ≤ 1073741823 := v.2
    obtain ⟨S6, s1, s2, s3, s4⟩ := w_empties (S := S) w
    have e84 : S6 84 = S 84 := s4.cell 84 (by decide) (by decide)
    have u : ∀ x, vx (S 84) x → cf33 S x = eb S6 x := fun x hx => lfE_uniq lf s3 hx
    have l := e_leansOf (S := S6) (X := tb S 34) (d := d) (e := e) (by rw [e84]; exact w) s2 (by rw [e84]; exact fun p hp => nb30 na (by omega)) (by rw [e84]; exact leaEq_cg w u q1) (by rw [e84]; exact hd) (by rw [e84]; exact k4)
    rw [e84] at l
    refine ⟨((tb S 37 e : Nat) : Int), S6, ?_, ?_, by omega, s4⟩
    · unfold mX11_leans
      rw [bd1_e k1, gd_t (by decide), if_neg (by decide), gd_t (by omega), v.1]
    · unfold mX12_leans
      rw [bd1_e k2, gd_t (by decide), if_neg (by decide), bd1_e s1, bd1_e l, (q4 e k4).1, leO_cg w u (Int.le_refl 0) (w.2.2.2.2.1 e k4)]
  · refine ⟨-2, S, ?_, ?_, by omega, kept.rf⟩
    · unfold mX11_leans
      rw [bd1_e k1, gd_t (by decide), if_pos rfl]
    · unfold mX12_leans
      rw [bd1_e k2, gd_t (by decide), if_pos rfl]
/-- the tapes, the faults, what was told -/
def TP (S : St) : Prop := (∃ n : Nat, n ≤ 400 ∧ S 0 1 = (n : Int) ∧ S 83 3 = (n : Int) ∧ ∀ i : Nat, i < n → S 1 (i : Int) = sb (S 86 (i : Int)) ∧ 0 ≤ S 86 (i : Int) ∧ S 86 (i : Int) ≤ 255) ∧ (S 0 4 = S 83 4 ∧ S 0 5 = S 83 5 ∧ inI (S 0 4) ∧ inI (S 0 5)) ∧ (S 0 17 = S 83 42 ∧ S 0 18 = S 83 43 ∧ inI (S 0 17) ∧ inI (S 0 18)) ∧ (S 0 15 = S 84 4 ∧ 0 ≤ S 84 4 ∧ S 84 4 ≤ 10)
theorem s_fault {S : St} (h : TP S) {a : Int} (ha : inI a) : ∃ r : Int, mX11_fault S a = some r ∧ mX12_fault S a = some r ∧ inI r := by
  obtain ⟨-, ⟨f1, f2, f3, f4⟩, -⟩ := h
  refine ⟨if a = 0 then S 0 4 else if a = 1 then S 0 5 else -1, ?_, ?_, by split <;> (try split) <;> omega⟩
  · unfold mX11_fault
    rw [gd_t ha]
    split <;> (try split) <;> rfl
  · unfold mX12_fault
    rw [gd_t ha, f1, f2]
    split <;> (try split) <;> rfl
theorem s_told {S : St} (h : TP S) {a : Int} (ha : inI a) : ∃ r : Int, mX11_told S a = some r ∧ mX12_told S a = some r ∧ inI r := by
  obtain ⟨-, -, ⟨f1, f2, f3, f4⟩, -⟩ := h
  refine ⟨if a = 0 then S 0 17 else if a = 1 then S 0 18 else -1, ?_, ?_, by split <;> (try split) <;> omega⟩
  · unfold mX11_told
    rw [gd_t ha]
    split <;> (try split) <;> rfl
  · unfold mX12_told
    rw [gd_t ha, f1, f2]
    split <;> (try split) <;> rfl
theorem s_count {S : St} (hc : Cor S) (h : TP S) (h3 : 0 ≤ S 84 3 ∧ S 84 3 ≤ 25) {a : Int} (ha : inI a) : ∃ r : Int, mX11_count S a = some r ∧ mX12_count S a = some r ∧ inI r := by
  have w := hc.wf
  have h0 := w.1
  have h1 := w.2.1
  have h2 := w.2.2.1
  obtain ⟨⟨n, n1, n2, n3, -⟩, -, -, ⟨a1, a2, a3⟩⟩ := h
  obtain ⟨g1, g2, g3, g4⟩ := hc.gm.1
  refine ⟨if a = 0 then S 84 0 else if a = 1 then S 84 1 else if a = 2 then S 84 2 else if a = 3 then S 84 3 else if a = 4 then S 84 4 else if a = 5 then (n : Int) else -1, ?_, ?_, ?_⟩
  · unfold mX11_count
    rw [gd_t ha, g1, g2, g3, g4, a1, n2]
    repeat' split
    all_goals rfl
  · unfold mX12_count
    rw [gd_t ha, n3]
    repeat' split
    all_goals rfl
  · repeat' split
    all_goals omega
theorem s_end {S : St} (h : TP S) {a : Int} (ha : inI a) : ∃ (r : Int) (S1 S2 : St), mX11_end S a = some (r, S1) ∧ mX12_end S1 a = some (r, S2) ∧ inI r ∧ kept [] [(0, 1)] S S1 ∧ kept [] [(0, 1), (83, 3)] S S2 ∧ TP S2 := by
  have hh := h
  obtain ⟨⟨n, n1, n2, n3, n4⟩, t2, t3, t4⟩ := h
  have ii := e_in (v := a) (lo := 0) (hi := (n : Int)) (by omega) (by omega) (by omega)
  by_cases c : 0 ≤ a ∧ a ≤ (n : Int)
  · rw [if_pos c] at ii
    refine ⟨a, up S 0 1 a, up (up S 0 1 a) 83 3 a, ?_, ?_, ha, kept.rf.upF (by decide), (kept.rf.upF (by decide)).upF (by decide), ⟨a.toNat, by omega, by show a = _; omega, by show a = _; omega, fun i hi => n4 i (by omega)⟩, t2, t3, t4⟩
    · unfold mX11_end
      rw [gd_t ha, if_neg (by omega), n2, gd_t (by omega), if_pos (by omega), nx_e]
    · unfold mX12_end
      rw [gd_t ha, show (up S 0 1 a) 83 3 = S 83 3 from rfl, n3, gd_t (by omega), bd1_e ii, gd_t (by decide), if_neg (by decide), nx_e]
  · rw [if_neg c] at ii
    refine ⟨-1, S, S, ?_, ?_, by omega, kept.rf, kept.rf, hh⟩
    · unfold mX11_end
      rw [gd_t ha]
      by_cases d : a < 0
      · rw [if_pos d]
      · rw [if_neg d, n2, gd_t (by omega), if_neg (by omega)]
    · unfold mX12_end
      rw [gd_t ha, n3, gd_t (by omega), bd1_e ii, gd_t (by decide), if_pos rfl]
