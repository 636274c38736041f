/-! the two grammar() calls -/
def KRS (S S' : St) : Prop := kept [14, 15, 16, 17, 18, 19, 20, 21, 22, 24, 25, 27, 28, 29, 30, 31, 32] [(12, 1), (12, 2), (12, 4), (12, 5), (12, 6), (12, 7), (12, 8), (12, 9), (12, 10), (13, 0), (13, 1), (13, 2), (13, 3), (13, 4), (26, 1), (26, 2)] S S'
def KRT (T T' : St) : Prop := kept [84, 85, 87, 88, 89] [(83, 3), (83, 4), (83, 5), (83, 6), (83, 7), (83, 8), (83, 9), (83, 10), (83, 45)] T T'
theorem KHT.toR {T T' : St} (h : KHT T T') : KRT T T' := fun i k a b => by
  simp only [List.mem_cons, Prod.mk.injEq, List.not_mem_nil, or_false] at a b
  refine h i k ?_ ?_
  · simp only [List.mem_cons, List.not_mem_nil, or_false]; omega
  · simp only [List.mem_cons, Prod.mk.injEq, List.not_mem_nil, or_false]; omega
def nbL (S : St) : Prop := (nb S 27 24 B30 ∧ nb S 28 24 B30 ∧ nb S 29 24 B30) ∧ (nb S 30 6 B30 ∧ nb S 31 6 B30 ∧ nb S 32 6 B30)
theorem nb.eq {S T : St} {i N B : Nat} (h : nb S i N B) (e : T i = S i) : nb T i N B := fun j hj => by rw [e]; exact h j hj
theorem nbL.of {S T : St} (h : nbL S) (k : ∀ i, 27 ≤ i → i ≤ 32 → T i = S i) : nbL T :=
  ⟨⟨h.1.1.eq (k 27 (by omega) (by omega)), h.1.2.1.eq (k 28 (by omega) (by omega)), h.1.2.2.eq (k 29 (by omega) (by omega))⟩, ⟨h.2.1.eq (k 30 (by omega) (by omega)), h.2.2.1.eq (k 31 (by omega) (by omega)), h.2.2.2.eq (k 32 (by omega) (by omega))⟩⟩
/-- what stands in a row, a bag, a set, a ring is not empty -/
def okN (M : Int → Int) (E : Nat → Prop) : Prop := ∀ p : Nat, (p : Int) < M 2 → (3 ≤ M (24 + (p : Int)) ∧ M (24 + (p : Int)) ≤ 6) → ¬ E (M (72 + (p : Int))).toNat
theorem hm_lt {M : Int → Int} {hm : Nat → Nat} (h : HM M hm) : ∀ n p : Nat, p ≤ n → (p : Int) < M 2 → ((hm p : Nat) : Int) < M 0 := by
  intro n
  induction n with
  | zero =>
    intro p hn hp
    rcases h.2.2.2 p hp with ⟨a, _⟩ | ⟨q, a, _⟩
    · exact a
    · omega
  | succ n ih =>
    intro p hn hp
    rcases h.2.2.2 p hp with ⟨a, _⟩ | ⟨q, a, b⟩
    · exact a
    · rw [h.2.2.1 q p (by omega) b]
      exact ih q (by omega) (by omega)
def okG (S : St) (M : Int → Int) : Prop := WF M ∧ GM (sh11 S) M ∧ (∃ d, DP M d) ∧ (∃ hm, HM M hm) ∧ (M 4 = 0 ∧ ∀ e : Nat, e < 6 → M (6 + (e : Int)) = 0) ∧ ((0 ≤ M 3 ∧ M 3 ≤ 25) ∧ CE M) ∧ ∃ (E TE KE : Nat → Prop) (rO rT rK : Nat → Nat) (st : Nat), OA (sh11 S) M rO rT rK st ∧ Ord M E TE KE rO rT rK ∧ okN M E
/-- the class's reading behind its lines -/
def edC (S_16 : St) : Option (Int × St) := bd1 (gd (inI (S_16 12 1)) <| if (S_16 12 1) = 0 then (bd1 (mX3_study_26 S_16) fun S_29 => bd1 (mX5_refuseMeaningless S_29) fun S_31 => some (S_31)) else (some (S_16))) fun S_19 => gd (inI (S_19 12 1)) <| if (S_19 12 1) = 0 then (bd1 (mX3_layOrder_26 S_19) fun S_25 => some ((S_25 13 2), S_25)) else (some ((S_19 13 2), S_19))
/-- the reference's -/
def edF (S_13 : St) : Option (Int × St) := bd1 (gd (inI (S_13 83 10)) <| if (S_13 83 10) = 0 then (bd2 (mX12_wrongKind S_13) fun r_40 S_41 => gd (inI r_40) <| if r_40 < 0 then (some (S_41)) else (nx (up S_41 83 10 1) fun S_44 => nx (up S_44 83 4 4) fun S_45 => bd2 (mX12_wrongKind S_45) fun r_47 S_48 => nx (up S_48 83 5 r_47) fun S_49 => some (S_49))) else (some (S_13))) fun S_16 => nx (up S_16 83 3 0) fun S_19 => gd (inI (S_19 83 10)) <| if (S_19 83 10) = 0 then (nx (up S_19 83 4 0) fun S_22 => nx (up S_22 83 5 (-1)) fun S_23 => nx (up S_23 83 45 0) fun S_24 => some ((S_24 84 3), S_24)) else (bd1 (mX12_grammar_151 FU 0 S_19) fun S_27 => some ((-4), S_27))
/-- how both end: S0, T0 before the call, T 85 what was -/
def outG (S T0 S' T' : St) (r rF : Int) : Prop := (nbL S' ∧ inI (S' 12 2)) ∧ T' 83 3 = 0 ∧ ((1 ≤ S' 12 1 ∧ S' 12 1 ≤ 4 ∧ T' 83 4 = S' 12 1 ∧ T' 83 5 = S' 12 2 ∧ rF = -4 ∧ (∀ k : Int, 0 ≤ k → k < 228 → T' 84 k = T0 85 k) ∧ (∀ k : Int, k < 0 ∨ 228 ≤ k → T' 84 k = T0 84 k) ∧ T' 83 45 = T0 83 45) ∨ (S' 12 1 = 0 ∧ S' 12 2 = S 12 2 ∧ T' 83 4 = 0 ∧ T' 83 5 = -1 ∧ T' 83 45 = 0 ∧ rF = r ∧ r = T' 84 3 ∧ okG S' (T' 84)))
theorem edC_bad {S : St} (h : S 12 1 = 1 ∨ S 12 1 = 2 ∨ S 12 1 = 3 ∨ S 12 1 = 4) : edC S = some (S 13 2, S) := by
  unfold edC
  rw [gd_t (by omega), if_neg (by omega), bd1_s, gd_t (by omega), if_neg (by omega)]
theorem edF_bad {T : St} (h : T 83 10 = 1) : edF T = some (-4, flS (up T 83 3 0) 84 228 (T 85)) := by
  unfold edF
  rw [h, gd_t (by decide), if_neg (by decide), bd1_s, nx_e, show (up T 83 3 0) 83 10 = T 83 10 from rfl, h, gd_t (by decide), if_neg (by decide), bd1_e e_gram151]
  rfl
theorem out_bad {S T : St} (hb : BB S T) (hn : nbL S) : ∃ (r rF : Int) (T' : St), edC S = some (r, S) ∧ edF T = some (rF, T') ∧ KRT T T' ∧ outG S T S T' r rF := by
  obtain ⟨b1, b2, b3, b4⟩ := hb
  refine ⟨_, _, _, edC_bad (by omega), edF_bad b1, ?_, ⟨hn, b4.2⟩, ?_, Or.inl ⟨by omega, by omega, ?_, ?_, rfl, fun k h0 h1 => flS_at h0 h1, fun k hk => flS_out hk, ?_⟩⟩
  · exact kept.trans (kept.rf.upF (by decide)) (flS_kept (by decide))
  · rw [flS_n (by decide)]; rfl
  · rw [flS_n (by decide)]; exact b3
  · rw [flS_n (by decide)]; exact b4.1
  · rw [flS_n (by decide)]; rfl
theorem GM_st {S T : St} {M : Int → Int} (hG : GM (sh11 S) M) (hk : ∀ i, 13 ≤ i → i ≤ 21 → T i = S i) : GM (sh11 T) M := hG.of (fun i a b => hk (i + 11) (by omega) (by omega))
theorem edF_ok {T : St} {y : Int} {W : Nat → Prop} (hy : fstW (T 84) W y) (hw : ∀ T', T' 84 = T 84 → wp (mX12_wrongKind T') (fun r => fstW (T 84) W r.1 ∧ kept [89] [] T' r.2)) (h0 : T 83 10 = 0) (hM : (T 84) 0 ≤ 6) : (y = -1 → ∃ T', edF T = some (T 84 3, T') ∧ KRT T T' ∧ T' 84 = T 84 ∧ T' 83 3 = 0 ∧ T' 83 4 = 0 ∧ T' 83 5 = -1 ∧ T' 83 45 = 0) ∧ (y ≠ -1 → ∃ T', edF T = some (-4, T') ∧ KRT T T' ∧ T' 83 3 = 0 ∧ T' 83 4 = 4 ∧ T' 83 5 = y ∧ T' 83 45 = T 83 45 ∧ (∀ k : Int, 0 ≤ k → k < 228 → T' 84 k = T 85 k) ∧ (∀ k : Int, k < 0 ∨ 228 ≤ k → T' 84 k = T 84 k)) := by
  obtain ⟨⟨r, T1⟩, w1, w2, w3⟩ := hw T rfl
  have e := fstW_uniq w2 hy
  dsimp only at e w3
  subst e
  have rI : inI r ∧ (r < 0 ↔ r = -1) := by
    rcases hy with ⟨a, _⟩ | ⟨j, a, b, _⟩ <;> omega
  have c84 : T1 84 = T 84 := w3.cell 84 (by decide) (by decide)
  have c83 : T1 83 = T 83 := w3.cell 83 (by decide) (by decide)
  have c85 : T1 85 = T 85 := w3.cell 85 (by decide) (by decide)
  refine ⟨fun c => ⟨up (up (up (up T1 83 3 0) 83 4 0) 83 5 (-1)) 83 45 0, ?_, ?_, ?_, rfl, rfl, rfl, rfl⟩, fun c => ?_⟩
  · unfold edF
    rw [h0, gd_t (by decide), if_pos rfl, bd2_e w1, gd_t rI.1, if_pos (rI.2.mpr c), bd1_s, nx_e, show (up T1 83 3 0) 83 10 = T1 83 10 from rfl, c83, h0, gd_t (by decide), if_pos rfl, nx_e, nx_e, nx_e]
    rw [show (up (up (up (up T1 83 3 0) 83 4 0) 83 5 (-1)) 83 45 0) 84 3 = T1 84 3 from rfl, c84]
  · exact (((kept.upF (w3.mono (by simp) (by simp)) (by decide)).upF (by decide)).upF (by decide)).upF (by decide)
  · exact c84
  · obtain ⟨⟨r2, T2⟩, v1, v2, v3⟩ := hw (up (up T1 83 10 1) 83 4 4) c84
    have e := fstW_uniq v2 hy
    dsimp only at e v3
    subst e
    have d84 : T2 84 = T1 84 := (v3.cell 84 (by decide) (by decide)).trans rfl
    have d83 : T2 83 = (up (up T1 83 10 1) 83 4 4) 83 := v3.cell 83 (by decide) (by decide)
    have d85 : T2 85 = T1 85 := (v3.cell 85 (by decide) (by decide)).trans rfl
    refine ⟨flS (up (up T2 83 5 r2) 83 3 0) 84 228 (T2 85), ?_, ?_, ?_, ?_, ?_, ?_, fun k a b => ?_, fun k a => ?_⟩
    · unfold edF
      rw [h0, gd_t (by decide), if_pos rfl, bd2_e w1, gd_t rI.1, if_neg (fun w => c (rI.2.mp w)), nx_e, nx_e, bd2_e v1, nx_e, bd1_s, nx_e]
      rw [show (up (up T2 83 5 r2) 83 3 0) 83 10 = T2 83 10 from rfl, d83, show (up (up T1 83 10 1) 83 4 4) 83 10 = 1 from rfl, gd_t (by decide), if_neg (by decide), bd1_e e_gram151]
      rfl
    · refine kept.trans ?_ (flS_kept (by decide))
      refine (kept.upF (kept.upF (kept.trans ?_ (v3.mono (by simp) (by simp))) (by decide)) (by decide))
      exact (kept.upF (w3.mono (by simp) (by simp)) (by decide)).upF (by decide)
    · rw [flS_n (by decide)]; rfl
    · rw [flS_n (by decide)]
      show T2 83 4 = 4
      rw [d83]; rfl
    · rw [flS_n (by decide)]; rfl
    · rw [flS_n (by decide)]
      show T2 83 45 = _
      rw [d83]
      show T1 83 45 = _
      rw [c83]
    · rw [flS_at a b, d85, c85]
    · rw [flS_out a]
      show T2 84 k = _
      rw [d84, c84]
theorem out_ok {S T : St} {nk P t : Nat} {d hm : Nat → Nat} (z1 : S 12 1 = 0) (z2 : T 83 10 = 0) (hF : FR S (T 84) P t) (hG : GR S (T 84) nk P t d hm) (hl : S 13 2 = T 84 3 ∧ 1 ≤ T 84 3 ∧ T 84 3 ≤ 25) (h0 : T 84 0 = (nk : Int)) (hk : nk ≤ 6) (h1 : 0 ≤ T 84 1 ∧ T 84 1 ≤ 7) (s0 : S 13 0 = T 84 1) (s1 : S 13 1 = T 84 0) (m4 : T 84 4 = 0) (hoff : ∀ e : Nat, e < 6 → T 84 (6 + (e : Int)) = 0) (h21 : ∀ e : Nat, e < 30 → S 21 (e : Int) = 0) (z12 : S 12 2 = -1) (hn : nbL S) : ∃ (r rF : Int) (S' T' : St), edC S = some (r, S') ∧ edF T = some (rF, T') ∧ KRS S S' ∧ KRT T T' ∧ outG S T S' T' r rF := by
  obtain ⟨wf, dp, hh⟩ := GR_wf hG hF h0 hk h1 hoff
  have gm := GR_gm hG hF h0 hk s0 s1 hl.1 hoff h21
  have home := GR_home hG hF hk
  obtain ⟨S2, a1, a2, a3⟩ := w_study26 wf gm hn.1.1 hn.1.2.1 hn.1.2.2 hn.2.1 hn.2.2.1 hn.2.2.2
  have c2 : ∀ i, 12 ≤ i → i ≤ 25 → S2 i = S i := fun i a b => a3.cell i (by simp; omega) (by simp; omega)
  have gm2 : GM (sh11 S2) (T 84) := GM_st gm (fun i a b => c2 i (by omega) (by omega))
  have st2 := a2
  obtain ⟨⟨cc, lf⟩, nA, nB, ⟨le, hu, hle⟩, kk⟩ := a2
  obtain ⟨y, y1, y2⟩ := w_refuse (hm := hm) wf gm2 st2 (fun p hp => by rw [c2 18 (by omega) (by omega)]; exact (home p hp).1) (fun p hp => (home p hp).2) (by rw [c2 12 (by omega) (by omega)]; exact z1)
  have bx : bX (T 84) (tb S2 27) := fun p hp => nb30 nA.1 (by have := wf.2.2.1; omega)
  have ef := edF_ok (T := T) y1 (fun T' e => by
    have := w_wrongKind (S := T') (F := cf26 S2) (X := tb S2 27) (d := d) (hm := hm) (by rw [e]; exact wf) (by rw [e]; exact bx) (by rw [e]; exact lf) (by rw [e]; exact le) (by rw [e]; exact dp) (by rw [e]; exact hh)
    rw [e] at this
    exact this) z2 (by rw [h0]; omega)
  by_cases c : y = -1
  · rw [if_pos c] at y2
    obtain ⟨T', e1, e2, e3, e4, e5, e6, e7⟩ := ef.1 c
    have nw : ∀ k : Nat, (k : Int) < T 84 0 → ¬ wrg (T 84) (cf26 S2) (tb S2 27) hm k := by
      rcases y1 with ⟨_, w⟩ | ⟨j, w, _⟩
      · exact w
      · omega
    have off0 : ∀ e t, offM (T 84) e t = false := fun e t => by
      unfold offM
      by_cases w : e < 6
      · rw [hoff e w, bt_0, Bool.and_false]
      · rw [decide_eq_false w, Bool.false_and]
    obtain ⟨S3, rO, rT, rK, st, l1, l2, l3, l4⟩ := w_layOrder (X := tb S2 27) wf gm2 cc lf off0 le (fun k hk' => by
      cases hb : (clo (fun e => eO (T 84) (tb S2 27) (gdL (T 84) (cf26 S2) e) e) (T 84 0).toNat k).testBit k
      · rfl
      · exact absurd (Or.inl hb) (nw k hk'))
    have c3 : ∀ i, i ≠ 22 → i ≠ 13 → S3 i = S2 i := fun i a b => l2.cell i (by simp; omega) (by simp; omega)
    refine ⟨S3 13 2, T 84 3, S3, T', ?_, e1, ?_, e2, ?_, e4, Or.inr ⟨?_, ?_, e5, e6, e7, ?_, ?_, ?_⟩⟩
    · unfold edC
      rw [z1, gd_t (by decide), if_pos rfl, bd1_e a1, bd1_e y2, bd1_s, c2 12 (by omega) (by omega), z1, gd_t (by decide), if_pos rfl, bd1_e l1]
    · exact kept.trans (kept.mono a3 (by decide) (by decide)) (kept.mono l2 (by decide) (by decide))
    · refine ⟨nbL.of ⟨nA, nB⟩ (fun i a b => c3 i (by omega) (by omega)), ?_⟩
      rw [c3 12 (by decide) (by decide), c2 12 (by omega) (by omega), z12]; decide
    · rw [c3 12 (by decide) (by decide), c2 12 (by omega) (by omega)]; exact z1
    · rw [c3 12 (by decide) (by decide), c2 12 (by omega) (by omega)]
    · rw [l2 13 2 (by decide) (by decide), c2 13 (by omega) (by omega)]; exact hl.1.symm
    · rw [e3, l2 13 2 (by decide) (by decide), c2 13 (by omega) (by omega)]; exact hl.1
    · rw [e3]
      exact ⟨wf, GM_lay gm2 l2, ⟨d, dp⟩, ⟨hm, hh⟩, ⟨m4, hoff⟩, ⟨by omega, GR_ce hG hF⟩, _, _, _, rO, rT, rK, st, l3, l4, fun p hp hs he => nw (hm p) (hm_lt hh p p (Nat.le_refl _) hp) (Or.inr ⟨p, hp, rfl, hs, he⟩)⟩
  · rw [if_neg c] at y2
    obtain ⟨T', e1, e2, e3, e4, e5, e6, e7, e8⟩ := ef.2 c
    refine ⟨S2 13 2, -4, up (up S2 12 1 4) 12 2 y, T', ?_, e1, ?_, e2, ?_, e3, Or.inl ⟨?_, ?_, ?_, ?_, rfl, e7, e8, e6⟩⟩
    · unfold edC
      rw [z1, gd_t (by decide), if_pos rfl, bd1_e a1, bd1_e y2, bd1_s, show (up (up S2 12 1 4) 12 2 y) 12 1 = 4 from rfl, gd_t (by decide), if_neg (by decide)]
      rfl
    · exact (kept.upF (kept.mono a3 (by decide) (by decide)) (by decide)).upF (by decide)
    · refine ⟨nbL.of ⟨nA, nB⟩ (fun i a b => by unfold up; rw [if_neg (by omega), if_neg (by omega)]), ?_⟩
      show inI y
      rcases y1 with ⟨q, _⟩ | ⟨j, q, q', _⟩
      · omega
      · have := wf.1; omega
    · exact (by decide : (1 : Int) ≤ 4)
    · exact (by decide : (4 : Int) ≤ 4)
    · rw [e4]; rfl
    · rw [e5]; rfl
theorem edF_none {T : St} (h : noG (T 84)) (z : T 83 10 = 0) : ∃ T', edF T = some (T 84 3, T') ∧ KRT T T' ∧ T' 84 = T 84 ∧ T' 83 3 = 0 ∧ T' 83 4 = 0 ∧ T' 83 5 = -1 ∧ T' 83 45 = 0 := by
  obtain ⟨wf, dp, hh⟩ := noG_wf h
  obtain ⟨S1, w1, w2, w3, w4⟩ := w_empties (S := T) wf
  have m0 := h.1
  have m2 := h.2.2.1
  refine (edF_ok (T := T) (y := -1) (W := wrg (T 84) (eb S1) (fun _ => 0) (fun _ => 0)) (Or.inl ⟨rfl, fun k hk => by omega⟩) (fun T' e => ?_) z (by omega)).1 rfl
  have := w_wrongKind (S := T') (F := eb S1) (X := fun _ => 0) (d := fun _ => 0) (hm := fun _ => 0) (by rw [e]; exact wf) (fun p hp => by rw [e] at hp; omega) (by rw [e]; exact w3) (fun p hp => by rw [e] at hp; omega) (by rw [e]; exact dp) (by rw [e]; exact hh)
  rw [e] at this
  exact this
theorem sim_gram {S T : St} {u : Int → Int} {n : Nat} (hn : n ≤ 400) (hS : ∀ i : Nat, i < n → S 1 (i : Int) = sb (u (i : Int)) ∧ 0 ≤ u (i : Int) ∧ u (i : Int) ≤ 255) (hT : T 83 3 = (n : Int)) (hT2 : ∀ i : Nat, i < n → T 86 (i : Int) = u (i : Int)) (hb : nbL S) : ∃ (r rF : Int) (S' T' : St), mX5_read_12_1 S (n : Int) = some (r, S') ∧ mX12_grammar T = some (rF, T') ∧ KRS S S' ∧ KRT T T' ∧ (nbL S' ∧ inI (S' 12 2)) ∧ T' 83 3 = 0 ∧ ((1 ≤ S' 12 1 ∧ S' 12 1 ≤ 4 ∧ T' 83 4 = S' 12 1 ∧ T' 83 5 = S' 12 2 ∧ rF = -4 ∧ T' 84 = T 84 ∧ T' 83 45 = T 83 45) ∨ (S' 12 1 = 0 ∧ S' 12 2 = -1 ∧ T' 83 4 = 0 ∧ T' 83 5 = -1 ∧ T' 83 45 = 0 ∧ rF = r ∧ r = T' 84 3 ∧ okG S' (T' 84))) := by
  -- the starts
  obtain ⟨S7, c1, c2, c3, c4⟩ := e_clear13 (S := up (up (up (up (up S 12 4 1) 12 5 (n : Int)) 12 6 0) 12 1 0) 12 2 (-1))
  have c12 : S7 12 = (up (up (up (up (up S 12 4 1) 12 5 (n : Int)) 12 6 0) 12 1 0) 12 2 (-1)) 12 := c2.cell 12 (by decide) (by decide)
  have kS7 : KRS S S7 := kept.trans (((((kept.rf.upF (by decide)).upF (by decide)).upF (by decide)).upF (by decide)).upF (by decide)) (kept.mono c2 (by decide) (by decide))
  have tc : TC S7 u n := ⟨⟨by rw [c12]; rfl, by rw [c12]; rfl, hn, by rw [c12]; rfl⟩, fun i hi => by rw [c2.cell 1 (by decide) (by decide)]; exact hS i hi⟩
  obtain ⟨S9, a1, a2, a3⟩ := w_advance (i := 0) tc (by rw [c12]; rfl) (Nat.zero_le _)
  obtain ⟨T7, hT7⟩ : ∃ T7 : St, T7 = flS (flS T 85 228 (T 84)) 84 228 M0 := ⟨_, rfl⟩
  obtain ⟨T9, hT9⟩ : ∃ T9 : St, T9 = up (up T7 83 6 0) 83 10 0 := ⟨_, rfl⟩
  have o83 : T7 83 = T 83 := by rw [hT7, flS_n (by decide), flS_n (by decide)]
  have o86 : T7 86 = T 86 := by rw [hT7, flS_n (by decide), flS_n (by decide)]
  have kT9 : KRT T T9 := by
    rw [hT9, hT7]
    exact (kept.upF (kept.trans (flS_kept (by decide)) (flS_kept (by decide))) (by decide)).upF (by decide)
  have tf : TF T9 u n := ⟨⟨by rw [hT9]; show T7 83 3 = _; rw [o83]; exact hT, hn⟩, fun i hi => ⟨by rw [hT9]; show T7 86 _ = _; rw [o86]; exact hT2 i hi, (hS i hi).2⟩⟩
  obtain ⟨T11, b1, b2, b3⟩ := w_next (i := 0) tf (by rw [hT9]; rfl) (Nat.zero_le _)
  have k11 : KRT T T11 := kept.trans kT9 (kept.mono b3 (by decide) (by decide))
  have k9 : KRS S S9 := kept.trans kS7 (kept.mono a3 (by decide) (by decide))
  have m84 : T11 84 = T7 84 := (b3.cell 84 (by decide) (by decide)).trans (by rw [hT9]; rfl)
  have m85 : T11 85 = flS T 85 228 (T 84) 85 := (b3.cell 85 (by decide) (by decide)).trans (by rw [hT9]; show T7 85 = _; rw [hT7, flS_n (by decide)])
  have m84i : ∀ k : Int, 0 ≤ k → k < 228 → T11 84 k = M0 k := fun k x y => by rw [m84, hT7, flS_at x y]
  have m84o : ∀ k : Int, k < 0 ∨ 228 ≤ k → T11 84 k = T 84 k := fun k x => by rw [m84, hT7, flS_out x, flS_n (by decide)]
  have m85i : ∀ k : Int, 0 ≤ k → k < 228 → T11 85 k = T 84 k := fun k x y => by rw [m85, flS_at x y]
  have mz : ∀ k : Int, 0 ≤ k → k < 96 ∨ (198 ≤ k ∧ k < 228) → T11 84 k = 0 := fun k x y => by
    rw [m84i k x (by omega)]; unfold M0; rw [if_neg (by omega)]
  have s9 : ∀ i, 13 ≤ i → S9 i = S7 i := fun i a => a3.cell i (by simp) (by simp; omega)
  have R : RR S9 T11 u n (skA u n 0) := ⟨⟨tc.of (a3 12 4 (by decide) (by decide)) (a3 12 5 (by decide) (by decide)) (a3.cell 1 (by decide) (by decide)) (a3 12 2 (by decide) (by decide)), tf.of (b3 83 3 (by decide) (by decide)) (b3.cell 86 (by decide) (by decide))⟩, ⟨a2, b2⟩, by rw [a3 12 1 (by decide) (by decide), c12]; rfl, by rw [b3 83 10 (by decide) (by decide), hT9]; rfl⟩
  have z122 : S9 12 2 = -1 := by rw [a3 12 2 (by decide) (by decide), c12]; rfl
  have z45 : T11 83 45 = T 83 45 := by
    rw [b3 83 45 (by decide) (by decide), hT9]
    show T7 83 45 = _
    rw [o83]
  have cU : ∀ i, i ≠ 12 → (up (up (up (up (up S 12 4 1) 12 5 (n : Int)) 12 6 0) 12 1 0) 12 2 (-1)) i = S i := fun i h => by simp only [up, if_neg h]
  have nb9 : nbL S9 := hb.of (fun i a b => by rw [s9 i (by omega), c2.cell i (by simp; omega) (by simp; omega), cU i (by omega)])
  have eC : mX5_read_12_1 S (n : Int) = (gd (inI (S9 12 7)) <| if (S9 12 7) = 3 then (some (0, S9)) else (bd1 (mX5_readHead S9) fun S_13 => bd1 (mX5_read_12_1_52 FU 0 S_13) fun S_16 => edC S_16)) := by
    unfold mX5_read_12_1
    rw [nx_e, nx_e, nx_e, nx_e, nx_e, bd1_e c1, bd1_e a1]
    rfl
  have eF : mX12_grammar T = bd1 (mX12_grammar_45 FU T11) fun S_13 => edF S_13 := by
    unfold mX12_grammar
    rw [bd1_e e_gram2, bd1_e e_clears, ← hT7, nx_e, nx_e, ← hT9, bd1_e b1]
    rfl
  have tI : inI (tk u n (skA u n 0)) ∧ inI (tkC u n (skA u n 0)) := by rcases tk_cases u n (skA u n 0) with q | q | q | q | q <;> omega
  have t7 := R.2.1.1.2.2.2.1
  have f8 := R.2.1.2.2.2.2.1
  by_cases te : tk u n (skA u n 0) = 0
  · have tc3 : tkC u n (skA u n 0) = 3 := by rcases tk_cases u n (skA u n 0) with q | q | q | q | q <;> omega
    have ng : noG (T11 84) := ⟨mz 0 (by decide) (by decide), mz 1 (by decide) (by decide), mz 2 (by decide) (by decide), mz 3 (by decide) (by decide), m84i⟩
    obtain ⟨T', e1, e2, e3, e4, e5, e6, e7⟩ := edF_none ng R.2.2.2
    obtain ⟨wf, dp, hh⟩ := noG_wf ng
    have g45 : mX12_grammar_45 (1999999 + 1) T11 = some T11 := by
      rw [mX12_grammar_45, R.2.2.2, gd_t (by decide), if_pos rfl, f8, gd_t tI.1, if_pos te]
    have s13 : S9 13 0 = 0 ∧ S9 13 1 = 0 ∧ S9 13 2 = 0 ∧ S9 13 3 = 0 := by
      rw [s9 13 (by decide)]; exact ⟨c3.1, c3.2.1, c3.2.2.1, c3.2.2.2.1⟩
    refine ⟨0, T11 84 3, S9, T', ?_, ?_, k9, kept.trans k11 e2, ⟨nb9, by rw [z122]; decide⟩, e4, Or.inr ⟨R.2.2.1, z122, e5, e6, e7, mz 3 (by decide) (by decide), ?_, ?_⟩⟩
    · rw [eC, t7, gd_t tI.2, if_pos tc3]
    · rw [eF, bd1_e (show mX12_grammar_45 FU T11 = some T11 from g45)]
      exact e1
    · rw [e3, mz 3 (by decide) (by decide)]
    · rw [e3]
      refine ⟨wf, noG_gm ng s13 (fun k x y => by rw [s9 19 (by decide), s9 21 (by decide)]; exact c4 k x y), ⟨_, dp⟩, ⟨_, hh⟩, ⟨mz 4 (by decide) (by decide), fun e he => mz _ (by omega) (by omega)⟩, ⟨by rw [mz 3 (by decide) (by decide)]; omega, noG_ce ng⟩, _, _, _, _, _, _, 0, ⟨?_, by omega, fun i hi => by omega, fun p hp => ?_, fun e he => ?_⟩, noG_ord ng, fun p hp => by have := ng.2.2.1; omega⟩
      · show S9 13 4 = _
        rw [s9 13 (by decide)]; exact c3.2.2.2.2
      · have := ng.2.2.1; omega
      · have := ng.1; omega
  · have tc3 : tkC u n (skA u n 0) ≠ 3 := by rcases tk_cases u n (skA u n 0) with q | q | q | q | q <;> omega
    have fin : ∀ (S13 S16 T13 : St), mX5_readHead S9 = some S13 → mX5_read_12_1_52 FU 0 S13 = some S16 → mX12_grammar_45 FU T11 = some T13 → KRS S S16 → KRT T T13 → T13 85 = T11 85 → (∀ k : Int, k < 0 ∨ 228 ≤ k → T13 84 k = T11 84 k) → T13 83 45 = T11 83 45 → (S16 12 1 = 0 → S16 12 2 = -1) → (∃ (r rF : Int) (S' T' : St), edC S16 = some (r, S') ∧ edF T13 = some (rF, T') ∧ KRS S16 S' ∧ KRT T13 T' ∧ outG S16 T13 S' T' r rF) → ∃ (r rF : Int) (S' T' : St), mX5_read_12_1 S (n : Int) = some (r, S') ∧ mX12_grammar T = some (rF, T') ∧ KRS S S' ∧ KRT T T' ∧ (nbL S' ∧ inI (S' 12 2)) ∧ T' 83 3 = 0 ∧ ((1 ≤ S' 12 1 ∧ S' 12 1 ≤ 4 ∧ T' 83 4 = S' 12 1 ∧ T' 83 5 = S' 12 2 ∧ rF = -4 ∧ T' 84 = T 84 ∧ T' 83 45 = T 83 45) ∨ (S' 12 1 = 0 ∧ S' 12 2 = -1 ∧ T' 83 4 = 0 ∧ T' 83 5 = -1 ∧ T' 83 45 = 0 ∧ rF = r ∧ r = T' 84 3 ∧ okG S' (T' 84))) := fun S13 S16 T13 x1 x2 x3 x4 x5 x6 x7 x8 x9 ⟨r, rF, S', T', y1, y2, y3, y4, y5, y6, y7⟩ => by
      refine ⟨r, rF, S', T', ?_, ?_, kept.trans x4 y3, kept.trans x5 y4, y5, y6, ?_⟩
      · rw [eC, t7, gd_t tI.2, if_neg tc3, bd1_e x1, bd1_e x2]; exact y1
      · rw [eF, bd1_e x3]; exact y2
      · rcases y7 with ⟨v1, v2, v3, v4, v5, v6, v7, v8⟩ | ⟨v1, v2, v3⟩
        · refine Or.inl ⟨v1, v2, v3, v4, v5, ?_, by rw [v8, x8, z45]⟩
          funext k
          by_cases c : 0 ≤ k ∧ k < 228
          · rw [v6 k c.1 c.2, x6, m85i k c.1 c.2]
          · rw [v7 k (by omega), x7 k (by omega), m84o k (by omega)]
        · refine Or.inr ⟨v1, ?_, v3⟩
          by_cases c : S16 12 1 = 0
          · rw [v2]; exact x9 c
          · exfalso
            -- a fault stays
            have w := c
            unfold edC at y1
            obtain ⟨_, q1, q2⟩ := bd1_some y1
            by_cases gi : inI (S16 12 1)
            · rw [gd_t gi, if_neg w] at q1
              have q3 := Option.some.inj q1
              subst q3
              rw [gd_t gi, if_neg w] at q2
              have q4 := (Prod.mk.inj (Option.some.inj q2)).2
              rw [q4] at w
              exact w v1
            · unfold gd at q1
              rw [if_neg gi] at q1
              cases q1
    have nm0 : NM S9 T11 u n 0 := ⟨⟨by rw [s9 13 (by decide)]; exact c3.2.1, mz 0 (by decide) (by decide), by omega⟩, fun k hk => by omega⟩
    obtain ⟨S13, T1, T2, h1, h2, h3, h4, h5, h6⟩ := sim_head R nm0
    have k13 : KRS S S13 := kept.trans k9 (kept.mono h4 (by decide) (by decide))
    have k2 : KRT T T2 := kept.trans k11 h5.toR
    have nb13 : nbL S13 := nb9.of (fun i a b => h4.cell i (by simp; omega) (by simp; omega))
    have t85 : T2 85 = T11 85 := h5.cell 85 (by decide) (by decide)
    have t84 : ∀ k : Int, k ≠ 0 → k ≠ 1 → k ≠ 3 → T2 84 k = T11 84 k := fun k x y z => h5 84 k (by decide) (by simp; omega)
    have t45 : T2 83 45 = T11 83 45 := h5 83 45 (by decide) (by decide)
    have eF1 : mX12_grammar_45 FU T11 = (gd (inI (T1 83 10)) <| if (T1 83 10) = 0 then (bd1 (mX12_needs T1 59) fun S_63 => nx (up S_63 84 3 ((S_63 84 3) + 1)) fun S_64 => mX12_grammar_45 1999999 S_64) else (mX12_grammar_45 1999999 T1)) := by
      show mX12_grammar_45 (1999999 + 1) T11 = _
      rw [mX12_grammar_45, R.2.2.2, gd_t (by decide), if_pos rfl, f8, gd_t tI.1, if_neg te, mz 3 (by decide) (by decide), gd_t (by decide), if_pos rfl, bd1_e h2, bd1_s]
    rcases h6 with h6 | ⟨a', nk, v, r6, n6, l6, v1, v2, v3, v4, v5⟩
    · have n1 := h6.2.1
      have l52 : mX5_read_12_1_52 FU 0 S13 = some S13 := by
        show mX5_read_12_1_52 (1999999 + 1) 0 S13 = _
        rw [mX5_read_12_1_52, gd_t (by decide), if_neg (by decide), gd_t (by omega), if_neg (by omega)]
      have go : ∀ T13 : St, BB S13 T13 → ∃ (r rF : Int) (S' T' : St), edC S13 = some (r, S') ∧ edF T13 = some (rF, T') ∧ KRS S13 S' ∧ KRT T13 T' ∧ outG S13 T13 S' T' r rF := fun T13 hB => by
        obtain ⟨r, rF, T', q1, q2, q3, q4⟩ := out_bad hB nb13
        exact ⟨r, rF, S13, T', q1, q2, kept.rf, q3, q4⟩
      rcases h3 with ⟨x1, x2⟩ | ⟨x1, x2⟩
      · refine fin S13 S13 (up T2 84 3 (T2 84 3 + 1)) h1 l52 ?_ k13 (kept.upA k2 (by decide)) t85 (fun k hk => by rw [up_nk (by omega)]; exact t84 k (by omega) (by omega) (by omega)) t45 (fun w => by omega) (go _ h6)
        rw [eF1, x1, gd_t (by decide), if_pos rfl, bd1_e x2, nx_e]
        show mX12_grammar_45 (1999998 + 1) _ = _
        rw [mX12_grammar_45, show (up T2 84 3 (T2 84 3 + 1)) 83 10 = T2 83 10 from rfl, h6.1, gd_t (by decide), if_neg (by decide)]
      · subst x2
        refine fin S13 S13 T2 h1 l52 ?_ k13 k2 t85 (fun k hk => t84 k (by omega) (by omega) (by omega)) t45 (fun w => by omega) (go _ h6)
        rw [eF1, x1, gd_t (by decide), if_neg (by decide)]
        show mX12_grammar_45 (1999998 + 1) _ = _
        rw [mX12_grammar_45, x1, gd_t (by decide), if_neg (by decide)]
    · rcases h3 with ⟨x1, x2⟩ | ⟨x1, x2⟩
      · obtain ⟨T3, hT3⟩ : ∃ T3 : St, T3 = up T2 84 3 (T2 84 3 + 1) := ⟨_, rfl⟩
        have m3 : ∀ k : Int, k ≠ 3 → T3 84 k = T2 84 k := fun k hk => by rw [hT3, up_nk hk]
        have m3' : T3 84 3 = 1 := by rw [hT3, up_eq, v5, mz 3 (by decide) (by decide)]; rfl
        have mm : ∀ k : Int, 2 ≤ k → k ≠ 3 → k < 228 → T3 84 k = M0 k := fun k x y z => by
          rw [m3 k y, t84 k (by omega) (by omega) y, m84i k (by omega) z]
        have z0 : ∀ k : Int, 2 ≤ k → k ≠ 3 → k < 96 ∨ (198 ≤ k ∧ k < 228) → T3 84 k = 0 := fun k x y z => by
          rw [mm k x y (by omega)]; unfold M0; rw [if_neg (by omega)]
        have z1 : ∀ k : Int, 96 ≤ k → k < 198 → T3 84 k = -1 := fun k x y => by
          rw [mm k (by omega) (by omega) (by omega)]; unfold M0; rw [if_pos (by omega)]
        have s19 : ∀ k : Int, 0 ≤ k → k < 30 → S13 19 k = 0 ∧ S13 21 k = 0 := fun k x y => by
          rw [h4.cell 19 (by decide) (by decide), h4.cell 21 (by decide) (by decide), s9 19 (by decide), s9 21 (by decide)]
          exact c4 k x y
        have fr : FR S13 (T3 84) 0 0 := by
          refine ⟨⟨?_, z0 2 (by decide) (by decide) (by decide), z0 5 (by decide) (by decide) (by decide), by omega, by omega⟩, fun q x y => ⟨z0 _ (by omega) (by omega) (by omega), z1 _ (by omega) (by omega), (s19 _ (by omega) (by omega)).1, z0 _ (by omega) (by omega) (by omega)⟩, fun t x y => z1 _ (by omega) (by omega)⟩
          rw [h4 13 3 (by decide) (by decide), s9 13 (by decide)]; exact c3.2.2.2.1
        have gr : GR S13 (T3 84) nk 0 0 (fun _ => 0) (fun _ => 0) := ⟨fun p hp => by omega, fun q hq => by omega, fun e he => Or.inl ⟨(s19 _ (by omega) (by omega)).1, z0 _ (by omega) (by omega) (by omega), z1 _ (by omega) (by omega)⟩⟩
        obtain ⟨S16, T13, y1, y2, y3, y4, y5⟩ := linesL (nk := nk) 24 0 FU 1999999 S13 T3 a' 0 0 (fun _ => 0) (fun _ => 0) (by omega) (by unfold FU; omega) (by omega) (by omega) (r6.of rfl rfl (by rw [hT3]; rfl) (by rw [hT3]; rfl)) (n6.of' rfl rfl rfl (m3 0 (by decide)) (by rw [hT3]; rfl) (by rw [hT3]; rfl)) fr gr (by rw [m3', v4]; omega)
        have k3 : KRT T T3 := by rw [hT3]; exact kept.upA k2 (by decide)
        have k16 : KRS S S16 := kept.trans k13 (kept.mono y3 (by decide) (by decide))
        have kT13 : KRT T T13 := kept.trans k3 (kept.mono y4.1 (by decide) (by decide))
        have u85 : T13 85 = T11 85 := by
          rw [y4.1.cell 85 (by decide) (by decide), hT3]; exact t85
        have u45 : T13 83 45 = T11 83 45 := by
          rw [y4.1 83 45 (by decide) (by decide), hT3]; exact t45
        have u84 : ∀ k : Int, k < 0 ∨ 228 ≤ k → T13 84 k = T11 84 k := fun k hk => by
          rw [y4.2 k (by omega) (by omega) (by omega) (by omega) (by omega), m3 k (by omega), t84 k (by omega) (by omega) (by omega)]
        have eF2 : mX12_grammar_45 FU T11 = some T13 := by
          rw [eF1, x1, gd_t (by decide), if_pos rfl, bd1_e x2, nx_e, ← hT3]; exact y2
        have nb16 : nbL S16 := nb13.of (fun i a b => y3.cell i (by simp; omega) (by simp; omega))
        rcases y5 with y5 | ⟨w1, w2, w3, p, t, d, hm, w4, w5, w6, w7⟩
        · have n1 := y5.2.1
          refine fin S13 S16 T13 h1 y1 eF2 k16 kT13 u85 u84 u45 (fun w => by omega) ?_
          obtain ⟨r, rF, T', q1, q2, q3, q4⟩ := out_bad y5 nb16
          exact ⟨r, rF, S16, T', q1, q2, kept.rf, q3, q4⟩
        · refine fin S13 S16 T13 h1 y1 eF2 k16 kT13 u85 u84 u45 (fun _ => w3) ?_
          have e1 : T13 84 1 = (v : Int) := by rw [y4.2 1 (by decide) (by decide) (by decide) (by decide) (by decide), m3 1 (by decide)]; exact v2
          refine out_ok w1 w2 w5 w6 w7 w4.1.2.1 w4.1.2.2 (by rw [e1]; omega) ?_ ?_ ?_ (fun e he => ?_) (fun e he => ?_) w3 nb16
          · rw [y3 13 0 (by decide) (by decide), v1, e1]
          · rw [w4.1.1, w4.1.2.1]
          · rw [y4.2 4 (by decide) (by decide) (by decide) (by decide) (by decide)]; exact z0 4 (by decide) (by decide) (by decide)
          · rw [y4.2 _ (by omega) (by omega) (by omega) (by omega) (by omega)]; exact z0 _ (by omega) (by omega) (by omega)
          · rw [y3.cell 21 (by decide) (by decide)]; exact (s19 _ (by omega) (by omega)).2
      · subst x2
        have := r6.2.2.2
        rw [x1] at this; cases this
