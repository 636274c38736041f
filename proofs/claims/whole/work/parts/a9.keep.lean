/-! labelled counts of a grammar; keeping counts -/
def cNm (M : Int → Int) : St := (mX12_names (T0 M)).getD (T0 M)
def NP (M : Int → Int) (e n : Nat) : Nat := tb (cNm M) 93 ((24 + e) * 8 + n)
theorem cNm_hd {M : Int → Int} {E TE KE : Nat → Prop} {rO rT rK : Nat → Nat} (h : WF M) (hO : Ord M E TE KE rO rT rK) : hdN M E TE 8 (cNm M) := by
  obtain ⟨S', a, b, -⟩ := w_names (S := T0 M) h hO T0_84
  unfold cNm
  rw [a]; exact b
theorem NP_le {M : Int → Int} {E TE KE : Nat → Prop} {rO rT rK : Nat → Nat} (h : WF M) (hO : Ord M E TE KE rO rT rK) {e n : Nat} (he : e < 6) (hn : n ≤ 7) : NP M e n ≤ 1000000000000 := ((cNm_hd h hO).2.1.at (show (24 + e) * 8 + n < 240 by omega)).2
theorem up3_at {Y : Nat → Nat} {e n : Nat} : up3 Y (pl (24 + e) n 0) = Y ((24 + e) * 8 + n) := by
  unfold up3 pl
  rw [if_pos (by omega)]
  congr 1
  omega
theorem names_at {S : St} {M : Int → Int} {E TE KE : Nat → Prop} {rO rT rK : Nat → Nat} (h : WF M) (hO : Ord M E TE KE rO rT rK) (h84 : S 84 = M) : wp (mX12_names S) (fun S' => (∀ e n : Nat, (e : Int) < M 0 → n ≤ 7 → S' 93 ((((24 + e) * 8 + n : Nat)) : Int) = ((NP M e n : Nat) : Int)) ∧ kept [93, 94, 95] [] S S') := by
  have hM0 := h.1
  refine wp_mono (w_names (S := S) h hO h84) (fun S' q => ⟨fun e n he hn => ?_, q.2⟩)
  have u := (sol_uniq h hO (sol_N h q.1) (sol_N h (cNm_hd h hO)) n hn).2 e 0 he (by unfold topf; omega)
  rw [up3_at, up3_at] at u
  have a := q.1.2.1.at (show (24 + e) * 8 + n < 240 by omega)
  have b := (cNm_hd h hO).2.1.at (show (24 + e) * 8 + n < 240 by omega)
  rw [a.1]
  exact congrArg Nat.cast (ev_le u a.2 b.2)
theorem e_th48 {S T : St} {M : Int → Int} {m : Int} {E TE : Nat → Prop} {rO rT rK : Nat → Nat} {st : Nat} {Y R : Nat → Nat} {V : Nat → Nat → Nat} (h : WF M) (t : TI48 m M E TE rO rT rK st Y R ((M 1).toNat + 1) 0 S) (hT : T 51 = S 51) {e n : Nat} (he : (e : Int) < M 0) (hn : (n : Int) ≤ M 1) (hv : Y (pl (24 + e) n 0) = V e n) (hl : V e n ≤ 1000000000000) : mX0_thingsAt_48 T (e : Int) (n : Int) = some ((V e n : Nat) : Int) := by
  have hM0 := h.1
  have hM1 := h.2.1
  obtain ⟨-, ⟨-, -, n51, -⟩, -, -, t5, -⟩ := t
  have b : pl e n 0 < 384 := pl_lt2 (show e < 6 by omega) (by omega) (by omega) (by decide)
  have v := n51.at b
  have x := t5 e n 0 he hn (by omega) (Or.inl (by omega))
  have pe : (e : Int) * 64 + (n : Int) * 8 = ((pl e n 0 : Nat) : Int) := by unfold pl; omega
  have := HHn v.2
  have e1 : kY Y (pl e n 0) = V e n := by
    rw [← hv]; unfold kY
    congr 1
    unfold pl; omega
  rw [e1] at x
  unfold mX0_thingsAt_48
  rw [hT, pe, gd_t (by omega), v.1, gd_t (by omega), min_ev x hl]
theorem e_tot48 {S T : St} {M : Int → Int} {m : Int} {E TE : Nat → Prop} {rO rT rK : Nat → Nat} {st : Nat} {Y R : Nat → Nat} (h : WF M) (hm : 0 ≤ m) (t : TI48 m M E TE rO rT rK st Y R ((M 1).toNat + 1) 0 S) (hT : T 51 = S 51) {e n k : Nat} (he : (e : Int) < M 0) (hn : (n : Int) ≤ M 1) (hk : k ≤ n) (hl : Y (pl (24 + e) n k) ≤ 1000000000000) : mX0_totalAt_48 T (e : Int) (n : Int) (k : Int) = some ((Y (pl (24 + e) n k) : Nat) : Int) := by
  have hM0 := h.1
  have hM1 := h.2.1
  obtain ⟨-, ⟨-, -, n51, -⟩, -, -, t5, -⟩ := t
  have b : pl e n k < 384 := pl_lt2 (show e < 6 by omega) (by omega) (by omega) (by decide)
  have v := n51.at b
  have x := t5 e n k he hn (by rw [decide_eq_true hm]; exact hk) (Or.inl (by omega))
  have pe : (e : Int) * 64 + (n : Int) * 8 + (k : Int) = ((pl e n k : Nat) : Int) := by unfold pl; omega
  have := HHn v.2
  have e1 : kY Y (pl e n k) = Y (pl (24 + e) n k) := by
    unfold kY
    congr 1
    unfold pl; omega
  rw [e1] at x
  unfold mX0_totalAt_48
  rw [hT, pe, gd_t (by omega), v.1, gd_t (by omega), min_ev x hl]
theorem kp57_16 {V : Nat → Nat → Nat} {m0 m1 e base : Nat} (he : e < m0) (h0 : m0 ≤ 6) (h1 : m1 ≤ 7) (hb : base + 48 ≤ 48) : ∀ (d n f : Nat) (S : St), n + d = m1 + 1 → d < f → S 2 0 = (m1 : Int) → (∀ (T : St) (e n : Nat), T 51 = S 51 → e < m0 → n ≤ m1 → mX0_thingsAt_48 T (e : Int) (n : Int) = some ((V e n : Nat) : Int)) → ∃ S' : St, mX4_keep_47_57_16 (e : Int) (base : Int) f (n : Int) S = some S' ∧ kept [57] [] S S' ∧ (∀ i : Nat, n ≤ i → i ≤ m1 → S' 57 (((base + e * 8 + i : Nat)) : Int) = ((V e i : Nat) : Int)) ∧ (∀ j : Int, j < ((base + e * 8 + n : Nat) : Int) ∨ ((base + e * 8 + 8 : Nat) : Int) ≤ j → S' 57 j = S 57 j) := by
  intro d
  induction d with
  | zero =>
    intro n f S hn hf h2 hV
    obtain ⟨g, rfl⟩ : ∃ g, f = g + 1 := ⟨f - 1, by omega⟩
    refine ⟨S, ?_, kept.rf, fun i a b => by omega, fun _ _ => rfl⟩
    rw [mX4_keep_47_57_16, h2, gd_t (by omega), if_pos (by omega)]
  | succ d ih =>
    intro n f S hn hf h2 hV
    obtain ⟨g, rfl⟩ : ∃ g, f = g + 1 := ⟨f - 1, by omega⟩
    have e1 : (base : Int) + (e : Int) * 8 + (n : Int) = ((base + e * 8 + n : Nat) : Int) := by omega
    obtain ⟨S', r1, r2, r3, r4⟩ := ih (n + 1) g (up S 57 ((base + e * 8 + n : Nat) : Int) ((V e n : Nat) : Int)) (by omega) (by omega) h2 (fun T e n a b c => hV T e n a b c)
    rw [show ((n + 1 : Nat) : Int) = (n : Int) + 1 by omega] at r1
    refine ⟨S', ?_, kept.trans (kept.rf.upA (by decide)) r2, fun i a b => ?_, fun j hj => ?_⟩
    · rw [mX4_keep_47_57_16, h2, gd_t (by omega), if_neg (by omega), bd1_e (hV S e n rfl he (by omega)), e1, gd_t (by omega), nx_e]
      exact r1
    · by_cases c : i = n
      · subst c
        rw [r4 _ (by omega), up_eq]
      · exact r3 i (by omega) b
    · rw [r4 j (by omega), up_nk (by omega)]
theorem kp57_2 {V : Nat → Nat → Nat} {m0 m1 base : Nat} (h0 : m0 ≤ 6) (h1 : m1 ≤ 7) (hb : base + 48 ≤ 48) : ∀ (d e f : Nat) (S : St), e + d = m0 → d < f → S 2 1 = (m0 : Int) → S 2 0 = (m1 : Int) → (∀ (T : St) (e n : Nat), T 51 = S 51 → e < m0 → n ≤ m1 → mX0_thingsAt_48 T (e : Int) (n : Int) = some ((V e n : Nat) : Int)) → ∃ S' : St, mX4_keep_47_57_2 (base : Int) f (e : Int) S = some S' ∧ kept [57] [] S S' ∧ (∀ x i : Nat, e ≤ x → x < m0 → i ≤ m1 → S' 57 (((base + x * 8 + i : Nat)) : Int) = ((V x i : Nat) : Int)) ∧ (∀ j : Int, j < ((base + e * 8 : Nat) : Int) ∨ ((base + 48 : Nat) : Int) ≤ j → S' 57 j = S 57 j) := by
  intro d
  induction d with
  | zero =>
    intro e f S hn hf h2 h3 hV
    obtain ⟨g, rfl⟩ : ∃ g, f = g + 1 := ⟨f - 1, by omega⟩
    refine ⟨S, ?_, kept.rf, fun x i a b => by omega, fun _ _ => rfl⟩
    rw [mX4_keep_47_57_2, h2, gd_t (by omega), if_pos (by omega)]
  | succ d ih =>
    intro e f S hn hf h2 h3 hV
    obtain ⟨g, rfl⟩ : ∃ g, f = g + 1 := ⟨f - 1, by omega⟩
    obtain ⟨S1, q1, q2, q3, q4⟩ := kp57_16 (V := V) (m0 := m0) (m1 := m1) (e := e) (base := base) (by omega) h0 h1 hb (m1 + 1) 0 FU S (by omega) (by unfold FU; omega) h3 hV
    obtain ⟨S', r1, r2, r3, r4⟩ := ih (e + 1) g S1 (by omega) (by omega) (by rw [q2.cell 2 (by decide) (by decide)]; exact h2) (by rw [q2.cell 2 (by decide) (by decide)]; exact h3) (fun T e n a b c => hV T e n (by rw [a, q2.cell 51 (by decide) (by decide)]) b c)
    rw [show ((e + 1 : Nat) : Int) = (e : Int) + 1 by omega] at r1
    refine ⟨S', ?_, kept.trans q2 r2, fun x i a b c => ?_, fun j hj => ?_⟩
    · rw [mX4_keep_47_57_2, h2, gd_t (by omega), if_neg (by omega), bd1_e (show mX4_keep_47_57_16 (e : Int) (base : Int) FU 0 S = some S1 from q1)]
      exact r1
    · by_cases z : x = e
      · subst z
        rw [r4 _ (by omega)]
        exact q3 i (by omega) c
      · exact r3 x i (by omega) b c
    · rw [r4 j (by omega), q4 j (by omega)]
theorem e_keep57 {V : Nat → Nat → Nat} {m0 m1 base : Nat} {S : St} (h0 : m0 ≤ 6) (h1 : m1 ≤ 7) (hb : base + 48 ≤ 48) (h2 : S 2 1 = (m0 : Int)) (h3 : S 2 0 = (m1 : Int)) (hV : ∀ (T : St) (e n : Nat), T 51 = S 51 → e < m0 → n ≤ m1 → mX0_thingsAt_48 T (e : Int) (n : Int) = some ((V e n : Nat) : Int)) : ∃ S' : St, mX4_keep_47_57 S (base : Int) = some S' ∧ kept [57] [] S S' ∧ (∀ x i : Nat, x < m0 → i ≤ m1 → S' 57 (((base + x * 8 + i : Nat)) : Int) = ((V x i : Nat) : Int)) ∧ (∀ j : Int, j < (base : Int) ∨ ((base + 48 : Nat) : Int) ≤ j → S' 57 j = S 57 j) := by
  obtain ⟨S', r1, r2, r3, r4⟩ := kp57_2 (V := V) (m0 := m0) (m1 := m1) (base := base) h0 h1 hb m0 0 FU S (by omega) (by unfold FU; omega) h2 h3 hV
  refine ⟨S', ?_, r2, fun x i a b => r3 x i (Nat.zero_le _) a b, fun j hj => r4 j (by omega)⟩
  unfold mX4_keep_47_57
  rw [bd1_e (show mX4_keep_47_57_2 (base : Int) FU 0 S = some S' from r1)]
theorem kp59_16 {V : Nat → Nat → Nat} {m0 m1 e base : Nat} (he : e < m0) (h0 : m0 ≤ 6) (h1 : m1 ≤ 7) (hb : base + 48 ≤ 2880) : ∀ (d n f : Nat) (S : St), n + d = m1 + 1 → d < f → S 2 0 = (m1 : Int) → (∀ (T : St) (e n : Nat), T 51 = S 51 → e < m0 → n ≤ m1 → mX0_thingsAt_48 T (e : Int) (n : Int) = some ((V e n : Nat) : Int)) → ∃ S' : St, mX4_keep_47_59_16 (e : Int) (base : Int) f (n : Int) S = some S' ∧ kept [59] [] S S' ∧ (∀ i : Nat, n ≤ i → i ≤ m1 → S' 59 (((base + e * 8 + i : Nat)) : Int) = ((V e i : Nat) : Int)) ∧ (∀ j : Int, j < ((base + e * 8 + n : Nat) : Int) ∨ ((base + e * 8 + 8 : Nat) : Int) ≤ j → S' 59 j = S 59 j) := by
  intro d
  induction d with
  | zero =>
    intro n f S hn hf h2 hV
    obtain ⟨g, rfl⟩ : ∃ g, f = g + 1 := ⟨f - 1, by omega⟩
    refine ⟨S, ?_, kept.rf, fun i a b => by omega, fun _ _ => rfl⟩
    rw [mX4_keep_47_59_16, h2, gd_t (by omega), if_pos (by omega)]
  | succ d ih =>
    intro n f S hn hf h2 hV
    obtain ⟨g, rfl⟩ : ∃ g, f = g + 1 := ⟨f - 1, by omega⟩
    have e1 : (base : Int) + (e : Int) * 8 + (n : Int) = ((base + e * 8 + n : Nat) : Int) := by omega
    obtain ⟨S', r1, r2, r3, r4⟩ := ih (n + 1) g (up S 59 ((base + e * 8 + n : Nat) : Int) ((V e n : Nat) : Int)) (by omega) (by omega) h2 (fun T e n a b c => hV T e n a b c)
    rw [show ((n + 1 : Nat) : Int) = (n : Int) + 1 by omega] at r1
    refine ⟨S', ?_, kept.trans (kept.rf.upA (by decide)) r2, fun i a b => ?_, fun j hj => ?_⟩
    · rw [mX4_keep_47_59_16, h2, gd_t (by omega), if_neg (by omega), bd1_e (hV S e n rfl he (by omega)), e1, gd_t (by omega), nx_e]
      exact r1
    · by_cases c : i = n
      · subst c
        rw [r4 _ (by omega), up_eq]
      · exact r3 i (by omega) b
    · rw [r4 j (by omega), up_nk (by omega)]
theorem kp59_2 {V : Nat → Nat → Nat} {m0 m1 base : Nat} (h0 : m0 ≤ 6) (h1 : m1 ≤ 7) (hb : base + 48 ≤ 2880) : ∀ (d e f : Nat) (S : St), e + d = m0 → d < f → S 2 1 = (m0 : Int) → S 2 0 = (m1 : Int) → (∀ (T : St) (e n : Nat), T 51 = S 51 → e < m0 → n ≤ m1 → mX0_thingsAt_48 T (e : Int) (n : Int) = some ((V e n : Nat) : Int)) → ∃ S' : St, mX4_keep_47_59_2 (base : Int) f (e : Int) S = some S' ∧ kept [59] [] S S' ∧ (∀ x i : Nat, e ≤ x → x < m0 → i ≤ m1 → S' 59 (((base + x * 8 + i : Nat)) : Int) = ((V x i : Nat) : Int)) ∧ (∀ j : Int, j < ((base + e * 8 : Nat) : Int) ∨ ((base + 48 : Nat) : Int) ≤ j → S' 59 j = S 59 j) := by
  intro d
  induction d with
  | zero =>
    intro e f S hn hf h2 h3 hV
    obtain ⟨g, rfl⟩ : ∃ g, f = g + 1 := ⟨f - 1, by omega⟩
    refine ⟨S, ?_, kept.rf, fun x i a b => by omega, fun _ _ => rfl⟩
    rw [mX4_keep_47_59_2, h2, gd_t (by omega), if_pos (by omega)]
  | succ d ih =>
    intro e f S hn hf h2 h3 hV
    obtain ⟨g, rfl⟩ : ∃ g, f = g + 1 := ⟨f - 1, by omega⟩
    obtain ⟨S1, q1, q2, q3, q4⟩ := kp59_16 (V := V) (m0 := m0) (m1 := m1) (e := e) (base := base) (by omega) h0 h1 hb (m1 + 1) 0 FU S (by omega) (by unfold FU; omega) h3 hV
    obtain ⟨S', r1, r2, r3, r4⟩ := ih (e + 1) g S1 (by omega) (by omega) (by rw [q2.cell 2 (by decide) (by decide)]; exact h2) (by rw [q2.cell 2 (by decide) (by decide)]; exact h3) (fun T e n a b c => hV T e n (by rw [a, q2.cell 51 (by decide) (by decide)]) b c)
    rw [show ((e + 1 : Nat) : Int) = (e : Int) + 1 by omega] at r1
    refine ⟨S', ?_, kept.trans q2 r2, fun x i a b c => ?_, fun j hj => ?_⟩
    · rw [mX4_keep_47_59_2, h2, gd_t (by omega), if_neg (by omega), bd1_e (show mX4_keep_47_59_16 (e : Int) (base : Int) FU 0 S = some S1 from q1)]
      exact r1
    · by_cases z : x = e
      · subst z
        rw [r4 _ (by omega)]
        exact q3 i (by omega) c
      · exact r3 x i (by omega) b c
    · rw [r4 j (by omega), q4 j (by omega)]
theorem e_keep59 {V : Nat → Nat → Nat} {m0 m1 base : Nat} {S : St} (h0 : m0 ≤ 6) (h1 : m1 ≤ 7) (hb : base + 48 ≤ 2880) (h2 : S 2 1 = (m0 : Int)) (h3 : S 2 0 = (m1 : Int)) (hV : ∀ (T : St) (e n : Nat), T 51 = S 51 → e < m0 → n ≤ m1 → mX0_thingsAt_48 T (e : Int) (n : Int) = some ((V e n : Nat) : Int)) : ∃ S' : St, mX4_keep_47_59 S (base : Int) = some S' ∧ kept [59] [] S S' ∧ (∀ x i : Nat, x < m0 → i ≤ m1 → S' 59 (((base + x * 8 + i : Nat)) : Int) = ((V x i : Nat) : Int)) ∧ (∀ j : Int, j < (base : Int) ∨ ((base + 48 : Nat) : Int) ≤ j → S' 59 j = S 59 j) := by
  obtain ⟨S', r1, r2, r3, r4⟩ := kp59_2 (V := V) (m0 := m0) (m1 := m1) (base := base) h0 h1 hb m0 0 FU S (by omega) (by unfold FU; omega) h2 h3 hV
  refine ⟨S', ?_, r2, fun x i a b => r3 x i (Nat.zero_le _) a b, fun j hj => r4 j (by omega)⟩
  unfold mX4_keep_47_59
  rw [bd1_e (show mX4_keep_47_59_2 (base : Int) FU 0 S = some S' from r1)]
