/-! both readers side by side: going on, faults, signs, words -/
def nxt (u : Int → Int) (n a : Nat) : Nat := skA u n (en u n a)
def RR (S T : St) (u : Int → Int) (n a : Nat) : Prop := (TC S u n ∧ TF T u n) ∧ (CL S u n a ∧ FL T u n a) ∧ S 12 1 = 0 ∧ T 83 10 = 0
def BB (S T : St) : Prop := T 83 10 = 1 ∧ (S 12 1 = 1 ∨ S 12 1 = 2 ∨ S 12 1 = 3) ∧ T 83 4 = S 12 1 ∧ T 83 5 = S 12 2 ∧ inI (S 12 2)
theorem RR.of {S T S' T' : St} {u : Int → Int} {n a : Nat} (h : RR S T u n a) (h12 : S' 12 = S 12) (h1 : S' 1 = S 1) (h83 : T' 83 = T 83) (h86 : T' 86 = T 86) : RR S' T' u n a := by
  unfold RR TC TF CL FL at h ⊢
  rw [h12, h1, h83, h86]; exact h
theorem nxt_le {u : Int → Int} {n a : Nat} (h : a ≤ n) : nxt u n a ≤ n := (skA_b (en_b h).2).2
theorem sim_adv {S T : St} {u : Int → Int} {n a : Nat} (h : RR S T u n a) : ∃ S' T' : St, mX5_advance S = some S' ∧ mX12_next T = some T' ∧ RR S' T' u n (nxt u n a) ∧ kept [] [(12, 6), (12, 7), (12, 8), (12, 9)] S S' ∧ kept [] [(83, 6), (83, 7), (83, 8), (83, 9)] T T' := by
  obtain ⟨⟨hC, hF⟩, ⟨cC, cF⟩, z1, z2⟩ := h
  have eb := en_b (u := u) cC.1
  obtain ⟨S', s1, s2, s3⟩ := w_advance hC cC.2.2.1 eb.2
  obtain ⟨T', t1, t2, t3⟩ := w_next hF cF.2.2.1 eb.2
  refine ⟨S', T', s1, t1, ⟨⟨hC.of (s3 12 4 (by simp) (by simp)) (s3 12 5 (by simp) (by simp)) (s3.cell 1 (by simp) (by simp)) (s3 12 2 (by simp) (by simp)), hF.of (t3 83 3 (by simp) (by simp)) (t3.cell 86 (by simp) (by simp))⟩, ⟨s2, t2⟩, ?_, ?_⟩, s3, t3⟩
  · rw [s3 12 1 (by simp) (by simp)]; exact z1
  · rw [t3 83 10 (by simp) (by simp)]; exact z2
theorem sim_fault {S T : St} {u : Int → Int} {n a : Nat} {k : Int} (h : RR S T u n a) (hk : k = 1 ∨ k = 2 ∨ k = 3) : ∃ S' T' : St, mX5_refuse S k = some S' ∧ mX12_faults T k = some (-1, T') ∧ BB S' T' := by
  obtain ⟨⟨hC, -⟩, ⟨cC, cF⟩, z1, z2⟩ := h
  refine ⟨up (up S 12 1 k) 12 2 (S 12 8), up (up (up T 83 10 1) 83 4 k) 83 5 (T 83 7), ?_, ?_, rfl, hk, rfl, ?_, ?_⟩
  · unfold mX5_refuse
    rw [z1, gd_t (by decide), if_pos rfl]; rfl
  · unfold mX12_faults
    rw [z2, gd_t (by decide), if_pos rfl]; rfl
  · show T 83 7 = S 12 8
    rw [cC.2.1, cF.2.1]
  · show inI (S 12 8)
    have h4 := hC.1.2.2
    have h5 := cC.1
    rw [cC.2.1]; omega
/-- a fault stays -/
theorem bad_refuse {S : St} {k : Int} (h : S 12 1 = 1 ∨ S 12 1 = 2 ∨ S 12 1 = 3) : mX5_refuse S k = some S := by
  unfold mX5_refuse
  rw [gd_t (by omega), if_neg (by omega)]
theorem bad_expectSign {S : St} {k : Int} (h : S 12 1 = 1 ∨ S 12 1 = 2 ∨ S 12 1 = 3) : mX5_expectSign S k = some S := by
  unfold mX5_expectSign
  rw [gd_t (by omega), if_neg (by omega), bd1_e (bad_refuse h)]
theorem bad_expectWord {S : St} {bs : List Int32} (h : S 12 1 = 1 ∨ S 12 1 = 2 ∨ S 12 1 = 3) : mX5_expectWord_12_s bs S = some S := by
  unfold mX5_expectWord_12_s
  rw [gd_t (by omega), if_neg (by omega), bd1_e (bad_refuse h)]
theorem e_isSign {T : St} {u : Int → Int} {n a : Nat} {c : Int} (h : TF T u n) (hc : FL T u n a) (hs : c = 61 ∨ c = 59 ∨ c = 40 ∨ c = 41) : mX12_isSign T c = some (if tkC u n a = c then 1 else 0) := by
  obtain ⟨hn, f7, f6, f8, _⟩ := hc
  have h4 := h.1.2
  unfold mX12_isSign
  rw [f8]
  rcases tk_cases u n a with q | q | q | q | q
  · rw [q.1, gd_t (by decide), if_neg (by decide), if_neg (by omega)]
  · rw [q.1, gd_t (by decide), if_neg (by decide), if_neg (by omega)]
  · rw [q.1, gd_t (by decide), if_neg (by decide), if_neg (by omega)]
  · obtain ⟨v, v0, v1⟩ := h.2 a (by omega)
    rw [q.1, gd_t (by decide), if_pos rfl, f7, gd_t (by omega), v, gd_t (by omega), q.2.1]
    split <;> rfl
  · rw [q.1, gd_t (by decide), if_neg (by decide), if_neg (by omega)]
/-- what both come to: still side by side, or both at the same fault -/
def both (S T S' T' : St) (u : Int → Int) (n : Nat) : Prop := (∃ a' : Nat, RR S' T' u n a' ∧ kept [] [(12, 6), (12, 7), (12, 8), (12, 9)] S S' ∧ kept [] [(83, 6), (83, 7), (83, 8), (83, 9)] T T') ∨ BB S' T'
theorem sim_sign {S T : St} {u : Int → Int} {n a : Nat} {c : Int} (h : RR S T u n a) (hs : c = 61 ∨ c = 59 ∨ c = 40 ∨ c = 41) : ∃ S' T' : St, mX5_expectSign S c = some S' ∧ mX12_needs T c = some T' ∧ both S T S' T' u n := by
  have hh := h
  obtain ⟨⟨hC, hF⟩, ⟨cC, cF⟩, z1, z2⟩ := h
  have si := e_isSign hF cF hs
  have tI : inI (tkC u n a) := by rcases tk_cases u n a with q | q | q | q | q <;> omega
  unfold mX5_expectSign mX12_needs
  rw [z1, gd_t (by decide), if_pos rfl, cC.2.2.2.1, bd1_e si]
  by_cases e : tkC u n a = c
  · obtain ⟨S', T', s1, s2, s3, s4, s5⟩ := sim_adv hh
    refine ⟨S', T', ?_, ?_, Or.inl ⟨_, s3, s4, s5⟩⟩
    · rw [gd_t (by omega), if_pos e, bd1_e s1]
    · rw [if_pos e, gd_t (by decide), if_neg (by decide), z2, gd_t (by decide), if_pos rfl, bd1_e s2]
  · obtain ⟨S', T', s1, s2, s3⟩ := sim_fault (k := 1) hh (Or.inl rfl)
    refine ⟨S', T', ?_, ?_, Or.inr s3⟩
    · rw [gd_t (by omega), if_neg e, bd1_e s1]
    · rw [if_neg e, gd_t (by decide), if_pos rfl, bd2_e s2, s3.1, gd_t (by decide), if_neg (by decide)]
theorem sim_word {S T : St} {u : Int → Int} {n a k : Nat} (h : RR S T u n a) (hk : k < 10) : ∃ S' T' : St, mX5_expectWord_12_s (wdL k) S = some S' ∧ mX12_needsWord T (k : Int) = some T' ∧ both S T S' T' u n := by
  have hh := h
  obtain ⟨⟨hC, hF⟩, ⟨cC, cF⟩, z1, z2⟩ := h
  obtain ⟨r, r1, r2, r3⟩ := e_isWordC hC cC (gWd_all k hk)
  obtain ⟨q, q1, q2, q3⟩ := e_isWordF (k := k) hF cF hk
  have rq : r = q := by
    rcases r2 with x | x <;> rcases q2 with y | y
    · omega
    · exfalso; have := r3.mpr (q3.mp y); omega
    · exfalso; have := q3.mpr (r3.mp x); omega
    · omega
  unfold mX5_expectWord_12_s mX12_needsWord
  rw [z1, gd_t (by decide), if_pos rfl, bd1_e r1, bd1_e q1, ← rq]
  rcases r2 with e | e
  · obtain ⟨S', T', s1, s2, s3⟩ := sim_fault (k := 1) hh (Or.inl rfl)
    refine ⟨S', T', ?_, ?_, Or.inr s3⟩
    · rw [e, gd_t (by decide), if_pos rfl, bd1_e s1]
    · rw [e, gd_t (by decide), if_pos rfl, bd2_e s2, s3.1, gd_t (by decide), if_neg (by decide)]
  · obtain ⟨S', T', s1, s2, s3, s4, s5⟩ := sim_adv hh
    refine ⟨S', T', ?_, ?_, Or.inl ⟨_, s3, s4, s5⟩⟩
    · rw [e, gd_t (by decide), if_neg (by decide), bd1_e s1]
    · rw [e, gd_t (by decide), if_neg (by decide), z2, gd_t (by decide), if_pos rfl, bd1_e s2]
/-- whether the token is a word: both alike -/
theorem sim_isWord {S T : St} {u : Int → Int} {n a k : Nat} (h : RR S T u n a) (hk : k < 10) : ∃ r : Int, (r = 0 ∨ r = 1) ∧ mX5_isWord_12_s (wdL k) S = some r ∧ mX12_isWord T (k : Int) = some r := by
  obtain ⟨⟨hC, hF⟩, ⟨cC, cF⟩, z1, z2⟩ := h
  obtain ⟨r, r1, r2, r3⟩ := e_isWordC hC cC (gWd_all k hk)
  obtain ⟨q, q1, q2, q3⟩ := e_isWordF (k := k) hF cF hk
  have rq : r = q := by
    rcases r2 with x | x <;> rcases q2 with y | y
    · omega
    · exfalso; have := r3.mpr (q3.mp y); omega
    · exfalso; have := q3.mpr (r3.mp x); omega
    · omega
  exact ⟨r, r2, r1, by rw [rq]; exact q1⟩
