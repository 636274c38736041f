/-! the ledger: counts by a letter -/
theorem km29 {V : Nat → Nat → Nat → Nat} {m0 m1 e n base : Nat} (he : e < m0) (hn : n ≤ m1) (h0 : m0 ≤ 6) (h1 : m1 ≤ 7) (hb : base + 384 ≤ 9984) : ∀ (d k f : Nat) (S : St), k + d = n + 1 → d < f → (∀ (T : St) (e n k : Nat), T 51 = S 51 → e < m0 → n ≤ m1 → k ≤ n → mX0_totalAt_48 T (e : Int) (n : Int) (k : Int) = some ((V e n k : Nat) : Int)) → ∃ S' : St, mX4_keepMarks_29 (n : Int) (e : Int) (base : Int) f (k : Int) S = some S' ∧ kept [58] [] S S' ∧ (∀ i : Nat, k ≤ i → i ≤ n → S' 58 (((base + pl e n i : Nat)) : Int) = ((V e n i : Nat) : Int)) ∧ (∀ j : Int, j < ((base + pl e n k : Nat) : Int) ∨ ((base + pl e n 8 : Nat) : Int) ≤ j → S' 58 j = S 58 j) := by
  intro d
  induction d with
  | zero =>
    intro k f S hk hf hV
    obtain ⟨g, rfl⟩ : ∃ g, f = g + 1 := ⟨f - 1, by omega⟩
    refine ⟨S, ?_, kept.rf, fun i a b => by omega, fun _ _ => rfl⟩
    rw [mX4_keepMarks_29, gd_t (by omega), if_pos (by omega)]
  | succ d ih =>
    intro k f S hk hf hV
    obtain ⟨g, rfl⟩ : ∃ g, f = g + 1 := ⟨f - 1, by omega⟩
    have e1 : (base : Int) + (e : Int) * 64 + (n : Int) * 8 + (k : Int) = ((base + pl e n k : Nat) : Int) := by unfold pl; omega
    obtain ⟨S', r1, r2, r3, r4⟩ := ih (k + 1) g (up S 58 ((base + pl e n k : Nat) : Int) ((V e n k : Nat) : Int)) (by omega) (by omega) (fun T e n k a b c d => hV T e n k a b c d)
    rw [show ((k + 1 : Nat) : Int) = (k : Int) + 1 by omega] at r1
    refine ⟨S', ?_, kept.trans (kept.rf.upA (by decide)) r2, fun i a b => ?_, fun j hj => ?_⟩
    · rw [mX4_keepMarks_29, gd_t (by omega), if_neg (by omega), bd1_e (hV S e n k rfl he hn (by omega)), e1, gd_t (by unfold pl; omega), nx_e]
      exact r1
    · by_cases c : i = k
      · subst c
        rw [r4 _ (by unfold pl; omega), up_eq]
      · exact r3 i (by omega) b
    · rw [r4 j (by unfold pl at hj ⊢; omega), up_nk (by unfold pl at hj ⊢; omega)]
theorem km15 {V : Nat → Nat → Nat → Nat} {m0 m1 e base : Nat} (he : e < m0) (h0 : m0 ≤ 6) (h1 : m1 ≤ 7) (hb : base + 384 ≤ 9984) : ∀ (d n f : Nat) (S : St), n + d = m1 + 1 → d < f → S 2 0 = (m1 : Int) → (∀ (T : St) (e n k : Nat), T 51 = S 51 → e < m0 → n ≤ m1 → k ≤ n → mX0_totalAt_48 T (e : Int) (n : Int) (k : Int) = some ((V e n k : Nat) : Int)) → ∃ S' : St, mX4_keepMarks_15 (e : Int) (base : Int) f (n : Int) S = some S' ∧ kept [58] [] S S' ∧ (∀ x i : Nat, n ≤ x → x ≤ m1 → i ≤ x → S' 58 (((base + pl e x i : Nat)) : Int) = ((V e x i : Nat) : Int)) ∧ (∀ j : Int, j < ((base + pl e n 0 : Nat) : Int) ∨ ((base + pl e 8 0 : Nat) : Int) ≤ j → S' 58 j = S 58 j) := by
  intro d
  induction d with
  | zero =>
    intro n f S hk hf h2 hV
    obtain ⟨g, rfl⟩ : ∃ g, f = g + 1 := ⟨f - 1, by omega⟩
    refine ⟨S, ?_, kept.rf, fun x i a b => by omega, fun _ _ => rfl⟩
    rw [mX4_keepMarks_15, h2, gd_t (by omega), if_pos (by omega)]
  | succ d ih =>
    intro n f S hk hf h2 hV
    obtain ⟨g, rfl⟩ : ∃ g, f = g + 1 := ⟨f - 1, by omega⟩
    obtain ⟨S1, q1, q2, q3, q4⟩ := km29 (V := V) (m0 := m0) (m1 := m1) (e := e) (n := n) (base := base) he (by omega) h0 h1 hb (n + 1) 0 FU S (by omega) (by unfold FU; omega) hV
    obtain ⟨S', r1, r2, r3, r4⟩ := ih (n + 1) g S1 (by omega) (by omega) (by rw [q2.cell 2 (by decide) (by decide)]; exact h2) (fun T e n k a b c d => hV T e n k (by rw [a, q2.cell 51 (by decide) (by decide)]) b c d)
    rw [show ((n + 1 : Nat) : Int) = (n : Int) + 1 by omega] at r1
    refine ⟨S', ?_, kept.trans q2 r2, fun x i a b c => ?_, fun j hj => ?_⟩
    · rw [mX4_keepMarks_15, h2, gd_t (by omega), if_neg (by omega), bd1_e (show mX4_keepMarks_29 (n : Int) (e : Int) (base : Int) FU 0 S = some S1 from q1)]
      exact r1
    · by_cases z : x = n
      · subst z
        rw [r4 _ (by unfold pl; omega)]
        exact q3 i (by omega) c
      · exact r3 x i (by omega) b c
    · rw [r4 j (by unfold pl at hj ⊢; omega), q4 j (by unfold pl at hj ⊢; omega)]
theorem km2 {V : Nat → Nat → Nat → Nat} {m0 m1 base : Nat} (h0 : m0 ≤ 6) (h1 : m1 ≤ 7) (hb : base + 384 ≤ 9984) : ∀ (d e f : Nat) (S : St), e + d = m0 → d < f → S 2 1 = (m0 : Int) → S 2 0 = (m1 : Int) → (∀ (T : St) (e n k : Nat), T 51 = S 51 → e < m0 → n ≤ m1 → k ≤ n → mX0_totalAt_48 T (e : Int) (n : Int) (k : Int) = some ((V e n k : Nat) : Int)) → ∃ S' : St, mX4_keepMarks_2 (base : Int) f (e : Int) S = some S' ∧ kept [58] [] S S' ∧ (∀ y x i : Nat, e ≤ y → y < m0 → x ≤ m1 → i ≤ x → S' 58 (((base + pl y x i : Nat)) : Int) = ((V y x i : Nat) : Int)) ∧ (∀ j : Int, j < ((base + pl e 0 0 : Nat) : Int) ∨ ((base + 384 : Nat) : Int) ≤ j → S' 58 j = S 58 j) := by
  intro d
  induction d with
  | zero =>
    intro e f S hk hf h2 h3 hV
    obtain ⟨g, rfl⟩ : ∃ g, f = g + 1 := ⟨f - 1, by omega⟩
    refine ⟨S, ?_, kept.rf, fun y x i a b => by omega, fun _ _ => rfl⟩
    rw [mX4_keepMarks_2, h2, gd_t (by omega), if_pos (by omega)]
  | succ d ih =>
    intro e f S hk hf h2 h3 hV
    obtain ⟨g, rfl⟩ : ∃ g, f = g + 1 := ⟨f - 1, by omega⟩
    obtain ⟨S1, q1, q2, q3, q4⟩ := km15 (V := V) (m0 := m0) (m1 := m1) (e := e) (base := base) (by omega) h0 h1 hb (m1 + 1) 0 FU S (by omega) (by unfold FU; omega) h3 hV
    obtain ⟨S', r1, r2, r3, r4⟩ := ih (e + 1) g S1 (by omega) (by omega) (by rw [q2.cell 2 (by decide) (by decide)]; exact h2) (by rw [q2.cell 2 (by decide) (by decide)]; exact h3) (fun T e n k a b c d => hV T e n k (by rw [a, q2.cell 51 (by decide) (by decide)]) b c d)
    rw [show ((e + 1 : Nat) : Int) = (e : Int) + 1 by omega] at r1
    refine ⟨S', ?_, kept.trans q2 r2, fun y x i a b c z => ?_, fun j hj => ?_⟩
    · rw [mX4_keepMarks_2, h2, gd_t (by omega), if_neg (by omega), bd1_e (show mX4_keepMarks_15 (e : Int) (base : Int) FU 0 S = some S1 from q1)]
      exact r1
    · by_cases w : y = e
      · subst w
        rw [r4 _ (by unfold pl; omega)]
        exact q3 x i (by omega) c z
      · exact r3 y x i (by omega) b c z
    · rw [r4 j (by unfold pl at hj ⊢; omega), q4 j (by unfold pl at hj ⊢; omega)]
def LG2 (S : St) : Prop := fgs (S 47 3) 26 ∧ ∀ a : Nat, a < 26 → (S 47 3).toNat.testBit a = true → ∀ e n k : Nat, (e : Int) < S 84 0 → (n : Int) ≤ S 84 1 → k ≤ n → S 58 (((a * 384 + pl e n k : Nat)) : Int) = ((YP (S 84) (a : Int) (pl (24 + e) n k) : Nat) : Int)
theorem s_marked {S : St} (h : Cor S) (hk : nbK S) (hL : LG2 S) {a b c d : Int} (ha : inI a) (hb : inI b) (hc : inI c) (hd : inI d) : ∃ (r : Int) (S1 S2 : St), mX11_marked S a b c d = some (r, S1) ∧ mX12_marked S1 a b c d = some (r, S2) ∧ inL r ∧ kept [49, 50, 51, 52, 53, 58] [(48, 1), (47, 3)] S S1 ∧ kept [90, 91, 92] [] S1 S2 ∧ nbK S1 ∧ LG2 S1 := by
  have w := h.wf
  have hM0 := w.1
  have hM1 := w.2.1
  have sz := e_sized h ha hb
  have lt : mX11_lettered c = some (if 0 ≤ c ∧ c ≤ 25 then 1 else 0) := by
    unfold mX11_lettered
    rw [gd_t hc]
    by_cases x : c < 0
    · rw [if_pos x, if_neg (by omega)]
    · rw [if_neg x]
      by_cases y : 26 ≤ c
      · rw [if_pos y, if_neg (by omega)]
      · rw [if_neg y, if_pos (by omega)]
  have il := e_in (v := c) (lo := 0) (hi := 25) (by omega) (by decide) (by decide)
  have ik8 := e_in (v := d) (lo := 0) (hi := 7) (by omega) (by decide) (by decide)
  have unk : mX11_marked S a b c d = some (-2, S) → mX12_marked S a b c d = some (-2, S) → ∃ (r : Int) (S1 S2 : St), mX11_marked S a b c d = some (r, S1) ∧ mX12_marked S1 a b c d = some (r, S2) ∧ inL r ∧ kept [49, 50, 51, 52, 53, 58] [(48, 1), (47, 3)] S S1 ∧ kept [90, 91, 92] [] S1 S2 ∧ nbK S1 ∧ LG2 S1 := fun x y => ⟨-2, S, S, x, y, by omega, kept.rf, kept.rf, hk, hL⟩
  have ik := e_ik h rfl ha
  have is := e_isSize h rfl hb
  by_cases x : isK (S 84) a ∧ isN (S 84) b
  · rw [if_pos x] at sz
    rw [if_pos x.1] at ik
    rw [if_pos x.2] at is
    by_cases xl : 0 ≤ c ∧ c ≤ 25
    · rw [if_pos xl] at lt il
      by_cases xk : 0 ≤ d ∧ d ≤ 7
      · rw [if_pos xk] at ik8
        clear unk ik is
        obtain ⟨e, rfl⟩ : ∃ e : Nat, a = (e : Int) := ⟨a.toNat, by omega⟩
        obtain ⟨n, rfl⟩ : ∃ e : Nat, b = (e : Int) := ⟨b.toNat, by omega⟩
        obtain ⟨l, rfl⟩ : ∃ e : Nat, c = (e : Int) := ⟨c.toNat, by omega⟩
        obtain ⟨k, rfl⟩ : ∃ e : Nat, d = (e : Int) := ⟨d.toNat, by omega⟩
        have hh := h
        obtain ⟨E, TE, KE, rO, rT, rK, st, w', o, t⟩ := h
        have yl : ∀ e n k : Nat, (e : Int) < S 84 0 → n ≤ 7 → k ≤ 7 → YP (S 84) (l : Int) (pl (24 + e) n k) ≤ 1000000000000 := fun e n k he hn hk => YP_le w o (by omega) (pl_lt2 (show 24 + e < 30 by omega) hn hk (by decide))
        have b0 : (l : Int) * 48 * 8 = ((l * 384 : Nat) : Int) := by omega
        have laid : ∃ S1 : St, (gd (inI (an (shr (S 47 3) (l : Int)) 1)) <| if (an (shr (S 47 3) (l : Int)) 1) = 0 then (bd1 (mX0_take_48 S (l : Int)) fun S_11 => bd1 (mX4_keepMarks S_11 ((l * 384 : Nat) : Int)) fun S_13 => nx (up S_13 47 3 (orr (S_13 47 3) (shl 1 (l : Int)))) fun S_14 => some (S_14)) else (some (S))) = some S1 ∧ kept [49, 50, 51, 52, 53, 58] [(48, 1), (47, 3)] S S1 ∧ nbK S1 ∧ (fgs (S1 47 3) 26 ∧ (S1 47 3).toNat.testBit l = true) ∧ (∀ j : Nat, j ≠ l → (S1 47 3).toNat.testBit j = (S 47 3).toNat.testBit j) ∧ (∀ j : Int, j < ((l * 384 : Nat) : Int) ∨ ((l * 384 + 384 : Nat) : Int) ≤ j → S1 58 j = S 58 j) ∧ (∀ e n k : Nat, (e : Int) < S 84 0 → (n : Int) ≤ S 84 1 → k ≤ n → S1 58 (((l * 384 + pl e n k : Nat)) : Int) = ((YP (S 84) (l : Int) (pl (24 + e) n k) : Nat) : Int)) := by
          obtain ⟨m, hm, hm26⟩ := fgs_m hL.1
          have ib := ibit (m := m) (k := l) (Nat.lt_trans hm26 (by decide)) (by omega)
          cases z : m.testBit l with
          | false =>
            obtain ⟨S8, s1, s2, s3⟩ := take48 (m := (l : Int)) (Y := YP (S 84) (l : Int)) (R := RP (S 84) (l : Int)) w o (by omega) (by omega) (by rw [decide_eq_false (show ¬ (l : Int) = -2 by omega)]; exact YP_sol w o (by omega)) t.1.2.1 t.1.2.2 hk
            have gm8 := s2.1.2.1
            obtain ⟨S10, r1, r2, r3, r4⟩ := km2 (V := fun e n k => YP (S 84) (l : Int) (pl (24 + e) n k)) (m0 := (S 84 0).toNat) (m1 := (S 84 1).toNat) (base := l * 384) (by omega) (by omega) (by omega) (S 84 0).toNat 0 FU S8 (by omega) (by unfold FU; omega) (by rw [gm8.1.2.1]; omega) (by rw [gm8.1.1]; omega) (fun T e n k hT he hn hk => e_tot48 w (by omega) s2 hT (by omega) (by omega) hk (yl e n k (by omega) (by omega) (by omega)))
            have km : mX4_keepMarks S8 ((l * 384 : Nat) : Int) = some S10 := by
              unfold mX4_keepMarks
              rw [bd1_e (show mX4_keepMarks_2 ((l * 384 : Nat) : Int) FU 0 S8 = some S10 from r1)]
            have c47 : S10 47 3 = (m : Int) := by rw [r2.cell 47 (by decide) (by decide), s3.cell 47 (by decide) (by decide)]; exact hm
            have is := iset hm26 (k := l) (by omega)
            refine ⟨up S10 47 3 ((m ||| 2 ^ l : Nat) : Int), ?_, ?_, ?_, ⟨by rw [up_eq]; exact fgs_of is.2, by rw [up_eq, Int.toNat_natCast]; exact tb_on⟩, fun j hj => by rw [up_eq, Int.toNat_natCast, tb_ne hj, hm, Int.toNat_natCast], fun j hj => ?_, fun e n k he hn hk => ?_⟩
            · rw [hm, ib, z, if_neg (show ¬ (false = true) by decide), gd_t (by decide), if_pos rfl, bd1_e s1, bd1_e km, c47, is.1, nx_e]
            · exact kept.upF (kept.trans (s3.mono (by simp) (by simp)) (r2.mono (by simp) (by simp))) (by decide)
            · refine s2.nbK.of (fun i x y => ?_)
              show (if i = 47 then _ else S10 i) = _
              rw [if_neg (by omega)]
              exact r2.cell i (by simp; omega) (by simp)
            · show S10 58 j = _
              rw [r4 j (by rw [show pl 0 0 0 = 0 by decide, Nat.add_zero]; exact hj), s3.cell 58 (by decide) (by decide)]
            · rw [up_n (show 58 ≠ 47 by decide)]
              exact r3 e n k (Nat.zero_le _) (by omega) (by omega) hk
          | true =>
            have zz : (S 47 3).toNat.testBit l = true := by rw [hm, Int.toNat_natCast]; exact z
            refine ⟨S, ?_, kept.rf, hk, ⟨hL.1, zz⟩, fun _ _ => rfl, fun _ _ => rfl, hL.2 l (by omega) zz⟩
            rw [hm, ib, z, if_pos (show true = true from rfl), gd_t (by decide), if_neg (by decide)]
        obtain ⟨S1, l1, l2, l3, l4, l5, l6, l7⟩ := laid
        have e84 : S1 84 = S 84 := l2.cell 84 (by decide) (by decide)
        have h1 : Cor S1 := hh.of e84 (fun i _ _ => l2.cell i (by simp; omega) (by simp; omega)) (fun i _ _ => l2.cell i (by simp; omega) (by simp; omega))
        obtain ⟨S2, v1, v2, v3⟩ := counts_at (S := S1) (l := (l : Int)) w o (by omega) e84
        have ik := e_ik h1 rfl (a := (e : Int)) (by omega)
        have is := e_isSize h1 rfl (a := (n : Int)) (by omega)
        rw [e84, if_pos x.1] at ik
        rw [e84, if_pos x.2] at is
        have bk := yl e n k x.1.2 (by omega) (by omega)
        have LG' : LG2 S1 := ⟨l4.1, fun a ha q e n k he hn hk => by
          by_cases z : a = l
          · subst z
            rw [e84] at he hn ⊢
            exact l7 e n k he hn hk
          · rw [l5 a z] at q
            rw [e84] at he hn ⊢
            rw [l6 _ (by unfold pl; omega)]
            exact hL.2 a ha q e n k he hn hk⟩
        have pe : mX12_place (24 + (e : Int)) (n : Int) (k : Int) = some ((pl (24 + e) n k : Nat) : Int) := by
          have := e_pl (a := 24 + e) (n := n) (k := k)
          rw [show ((24 + e : Nat) : Int) = 24 + (e : Int) by omega] at this
          exact this
        have pb : pl (24 + e) n k < 1920 := pl_lt2 (show 24 + e < 30 by omega) (by omega) (by omega) (by decide)
        refine ⟨((YP (S 84) (l : Int) (pl (24 + e) n k) : Nat) : Int), S1, S2, ?_, ?_, by omega, l2, v3, l3, LG'⟩
        · have mt : mX4_markedThings S (e : Int) (n : Int) (l : Int) (k : Int) = some (((YP (S 84) (l : Int) (pl (24 + e) n k) : Nat) : Int), S1) := by
            unfold mX4_markedThings
            rw [nx_e, b0, bd1_e l1, gd_t (by omega)]
            by_cases z : k ≤ n
            · rw [if_pos (by omega), show ((l * 384 : Nat) : Int) + (e : Int) * 64 + (n : Int) * 8 + (k : Int) = ((l * 384 + pl e n k : Nat) : Int) by unfold pl; omega, gd_t (by unfold pl; omega), l7 e n k x.1.2 x.2.2 z]
            · rw [if_neg (by omega)]
              have : YP (S 84) (l : Int) (pl (24 + e) n k) = 0 := by
                unfold YP
                exact (cR_hd w o (by omega)).2.2.2.1 (24 + e) n k (by omega) (by omega) (by rw [decide_eq_true (show (0 : Int) ≤ (l : Int) by omega)]; show n < k; omega) (by omega)
              rw [this]; rfl
          unfold mX11_marked
          rw [bd1_e sz, gd_t (by decide), if_neg (by decide), bd1_e lt, gd_t (by decide), if_neg (by decide), gd_t (by omega), if_neg (by omega), if_pos (by omega), bd2_e mt]
        · unfold mX12_marked
          rw [bd1_e ik, gd_t (by decide), if_neg (by decide), bd1_e is, gd_t (by decide), if_neg (by decide), gd_t (by omega), bd1_e il, gd_t (by decide), if_neg (by decide), gd_t (by omega), bd1_e ik8, gd_t (by decide), if_neg (by decide), bd1_e v1, bd1_e pe, gd_t (by omega), v2.2.2.2 e n k x.1.2 (by omega) (by omega)]
      · rw [if_neg xk] at ik8
        refine unk ?_ ?_
        · unfold mX11_marked
          rw [bd1_e sz, gd_t (by decide), if_neg (by decide), bd1_e lt, gd_t (by decide), if_neg (by decide), gd_t hd]
          by_cases z : d < 0
          · rw [if_pos z]
          · rw [if_neg z, if_neg (by omega)]
        · unfold mX12_marked
          rw [bd1_e ik, gd_t (by decide), if_neg (by decide), bd1_e is, gd_t (by decide), if_neg (by decide), gd_t hc, bd1_e il, gd_t (by decide), if_neg (by decide), gd_t hd, bd1_e ik8, gd_t (by decide), if_pos rfl]
    · rw [if_neg xl] at lt il
      refine unk ?_ ?_
      · unfold mX11_marked
        rw [bd1_e sz, gd_t (by decide), if_neg (by decide), bd1_e lt, gd_t (by decide), if_pos rfl]
      · unfold mX12_marked
        rw [bd1_e ik, gd_t (by decide), if_neg (by decide), bd1_e is, gd_t (by decide), if_neg (by decide), gd_t hc, bd1_e il, gd_t (by decide), if_pos rfl]
  · rw [if_neg x] at sz
    refine unk ?_ ?_
    · unfold mX11_marked
      rw [bd1_e sz, gd_t (by decide), if_pos rfl]
    · unfold mX12_marked
      by_cases y : 0 ≤ a ∧ a < S 84 0
      · rw [if_pos y] at ik
        rw [if_neg (fun w => x ⟨y, w⟩)] at is
        rw [bd1_e ik, gd_t (by decide), if_neg (by decide), bd1_e is, gd_t (by decide), if_pos rfl]
      · rw [if_neg y] at ik
        rw [bd1_e ik, gd_t (by decide), if_pos rfl]
