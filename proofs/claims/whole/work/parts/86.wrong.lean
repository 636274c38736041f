/-! kinds that have no meaning: both sides find the same first one -/
def wrg (M : Int → Int) (F : Nat → Bool) (X : Nat → Nat) (hm : Nat → Nat) (k : Nat) : Prop := (clo (fun e => eO M X (gdL M F e) e) (M 0).toNat k).testBit k = true ∨ ∃ q : Nat, (q : Int) < M 2 ∧ hm q = k ∧ badQ M F q
def fstW (M : Int → Int) (W : Nat → Prop) (y : Int) : Prop := (y = -1 ∧ ∀ k : Nat, (k : Int) < M 0 → ¬ W k) ∨ ∃ j : Nat, y = (j : Int) ∧ (j : Int) < M 0 ∧ W j ∧ ∀ k, k < j → ¬ W k
theorem fstW_uniq {M : Int → Int} {W : Nat → Prop} {y z : Int} (a : fstW M W y) (b : fstW M W z) : y = z := by
  rcases a with ⟨a1, a2⟩ | ⟨j, a1, a2, a3, a4⟩ <;> rcases b with ⟨b1, b2⟩ | ⟨k, b1, b2, b3, b4⟩
  · rw [a1, b1]
  · exact absurd b3 (a2 k b2)
  · exact absurd a3 (b2 j a2)
  · have : ¬ j < k := fun w => b4 j w a3
    have : ¬ k < j := fun w => a4 k w b3
    omega
theorem wrg_cg {M : Int → Int} {F G : Nat → Bool} {X : Nat → Nat} {hm : Nat → Nat} {k : Nat} (h : WF M) (hl : ∀ x, vx M x → F x = G x) (hk : (k : Int) < M 0) : wrg M F X hm k ↔ wrg M G X hm k := by
  have hM0 := h.1
  have hM2 := h.2.2.1
  have e1 : clo (fun e => eO M X (gdL M F e) e) (M 0).toNat k = clo (fun e => eO M X (gdL M G e) e) (M 0).toNat k := clo_cg (fun j hj => leO_cg h hl (Int.le_refl 0) (h.2.2.2.2.1 j (by omega))) (by omega)
  have e2 : ∀ q : Nat, (q : Int) < M 2 → (badQ M F q ↔ badQ M G q) := fun q hq => by
    unfold badQ
    constructor
    · rintro ⟨s, b⟩
      have := (h.2.2.2.1 q hq).2.2.2.2.2 s
      exact ⟨s, by rw [← hl _ (Or.inl ⟨by omega, by omega⟩)]; exact b⟩
    · rintro ⟨s, b⟩
      have := (h.2.2.2.1 q hq).2.2.2.2.2 s
      exact ⟨s, by rw [hl _ (Or.inl ⟨by omega, by omega⟩)]; exact b⟩
  unfold wrg
  rw [e1]
  constructor
  · rintro (a | ⟨q, q1, q2, q3⟩)
    · exact Or.inl a
    · exact Or.inr ⟨q, q1, q2, (e2 q q1).mp q3⟩
  · rintro (a | ⟨q, q1, q2, q3⟩)
    · exact Or.inl a
    · exact Or.inr ⟨q, q1, q2, (e2 q q1).mpr q3⟩
theorem fstW_cg {M : Int → Int} {V W : Nat → Prop} {y : Int} (h : ∀ k : Nat, (k : Int) < M 0 → (V k ↔ W k)) (a : fstW M V y) : fstW M W y := by
  rcases a with ⟨a1, a2⟩ | ⟨j, a1, a2, a3, a4⟩
  · exact Or.inl ⟨a1, fun k hk w => a2 k hk ((h k hk).mpr w)⟩
  · exact Or.inr ⟨j, a1, a2, (h j a2).mp a3, fun k hk w => a4 k hk ((h k (by omega)).mpr w)⟩
theorem wr6 {S : St} {X : Nat → Nat} {d hm : Nat → Nat} (h : WF (S 84)) (h01 : e01 S) (hX : bX (S 84) X) (hq : leaEq (S 84) (eb S) X) (hd : DP (S 84) d) (hh : HM (S 84) hm) : ∀ n i f : Nat, (i : Int) + n = S 84 0 → n < f → (∀ k, k < i → ¬ wrg (S 84) (eb S) X hm k) → (∃ j : Nat, mX12_wrongKind_6 S f (i : Int) = some (0, (j : Int)) ∧ fstW (S 84) (wrg (S 84) (eb S) X hm) (j : Int)) ∨ (∃ y : Int, mX12_wrongKind_6 S f (i : Int) = some (1, y) ∧ fstW (S 84) (wrg (S 84) (eb S) X hm) (-1)) := by
  have hM0 := h.1
  intro n
  induction n with
  | zero =>
    intro i f hi hf hn
    obtain ⟨g, rfl⟩ : ∃ g, f = g + 1 := ⟨f - 1, by omega⟩
    refine Or.inr ⟨(i : Int), ?_, Or.inl ⟨rfl, fun k hk => hn k (by omega)⟩⟩
    rw [mX12_wrongKind_6, gd_t (by omega), if_pos (by omega)]
  | succ n ih =>
    intro i f hi hf hn
    obtain ⟨g, rfl⟩ : ∃ g, f = g + 1 := ⟨f - 1, by omega⟩
    have c24 := e_wrong24 (v3 := (i : Int)) (k := i) h h01 hX hq hd (by omega)
    have lt : clo (fun e => eO (S 84) X (gdL (S 84) (eb S) e) e) (S 84 0).toNat i < 2 ^ 30 := clR_lt (fun j hj => eO_lt h hX (Int.le_refl 0) (h.2.2.2.2.1 j (by omega))) 6 _ (eO_lt h hX (Int.le_refl 0) (h.2.2.2.2.1 i (by omega)))
    rw [mX12_wrongKind_6, gd_t (by omega), if_neg (by omega), bd1_e (e_leansOf h h01 hX hq hd (e := i) (by omega)), bd1_e c24, bd1_e (e_has (by omega) (by omega) (by omega) (by omega)), bt_nat]
    cases hb : (clo (fun e => eO (S 84) X (gdL (S 84) (eb S) e) e) (S 84 0).toNat i).testBit i with
    | true =>
      refine Or.inl ⟨i, by rw [if_pos rfl, gd_t (by decide), if_neg (by decide)], Or.inr ⟨i, rfl, by omega, Or.inl hb, hn⟩⟩
    | false =>
      rw [if_neg (by decide), gd_t (by decide), if_pos rfl]
      obtain ⟨r, r1, r2, r3⟩ := e_isOfEmpty (e := i) h h01 hh.1 hd (by omega)
      rw [bd1_e r1]
      have r3' := r3.trans (fnd_home h hh (e := i) (by omega))
      rcases r2 with r2 | r2
      · subst r2
        rw [gd_t (by decide), if_pos rfl]
        have := ih (i + 1) g (by omega) (by omega) (fun k hk => by
          by_cases w : k = i
          · subst w
            rintro (a | a)
            · rw [hb] at a; cases a
            · exact absurd (r3'.mpr a) (by decide)
          · exact hn k (by omega))
        rw [show ((i + 1 : Nat) : Int) = (i : Int) + 1 by omega] at this
        exact this
      · subst r2
        refine Or.inl ⟨i, by rw [gd_t (by decide), if_neg (by decide)], Or.inr ⟨i, rfl, by omega, Or.inr (r3'.mp rfl), hn⟩⟩
theorem w_wrongKind {S : St} {F : Nat → Bool} {X : Nat → Nat} {d hm : Nat → Nat} (h : WF (S 84)) (hX : bX (S 84) X) (hF : lfE (S 84) F) (hq : leaEq (S 84) F X) (hd : DP (S 84) d) (hh : HM (S 84) hm) : wp (mX12_wrongKind S) (fun r => fstW (S 84) (wrg (S 84) F X hm) r.1 ∧ kept [89] [] S r.2) := by
  have hM0 := h.1
  unfold mX12_wrongKind
  rw [wp_bd1]
  refine wp_mono (w_empties h) (fun S2 q2 => ?_)
  obtain ⟨h01, lf, k⟩ := q2
  have e84 : S2 84 = S 84 := k.cell 84 (by decide) (by decide)
  have hl : ∀ x, vx (S 84) x → F x = eb S2 x := fun x hx => lfE_uniq hF lf hx
  have hq2 : leaEq (S2 84) (eb S2) X := by rw [e84]; exact leaEq_cg h hl hq
  have cg : ∀ y, fstW (S2 84) (wrg (S2 84) (eb S2) X hm) y → fstW (S 84) (wrg (S 84) F X hm) y := fun y a => by
    rw [e84] at a
    exact fstW_cg (fun j hj => (wrg_cg h hl hj).symm) a
  rcases wr6 (S := S2) (X := X) (d := d) (hm := hm) (by rw [e84]; exact h) h01 (by rw [e84]; exact hX) hq2 (by rw [e84]; exact hd) (by rw [e84]; exact hh) (S 84 0).toNat 0 FU (by rw [e84]; omega) (by unfold FU; omega) (fun k hk => by omega) with ⟨j, j1, j2⟩ | ⟨y, j1, j2⟩
  · rw [bd2_e (show mX12_wrongKind_6 S2 FU 0 = _ from j1), if_pos rfl]
    exact wp_some.mpr ⟨cg _ j2, k⟩
  · rw [bd2_e (show mX12_wrongKind_6 S2 FU 0 = _ from j1), if_neg (by decide)]
    exact wp_some.mpr ⟨cg _ j2, k⟩
theorem e_holdsEmpty26 {S : St} {M : Int → Int} {hm : Nat → Nat} {k : Nat} (h : WF M) (hG : GM (sh11 S) M) (hc : c0126 S) (hh : ∀ p : Nat, (p : Int) < M 2 → S 18 (p : Int) = ((hm p : Nat) : Int)) (hk : k < 6) (hb : ∀ p : Nat, (p : Int) < M 2 → hm p < 6) : tells (mX3_holdsEmpty_26 S (k : Int)) (∃ q : Nat, (q : Int) < M 2 ∧ hm q = k ∧ badQ M (cf26 S) q) := by
  have hM2 := h.2.2.1
  have g3 : S 13 3 = M 2 := hG.1.2.2.2
  have key : ∀ n i f : Nat, (i : Int) + n = M 2 → n < f → ∃ r : Int, mX3_holdsEmpty_26_2 S (k : Int) f (i : Int) = some r ∧ (r = 0 ∨ r = 1) ∧ (r = 0 ↔ ∃ q : Nat, i ≤ q ∧ (q : Int) < M 2 ∧ hm q = k ∧ badQ M (cf26 S) q) := by
    intro n
    induction n with
    | zero =>
      intro i f hi hf
      obtain ⟨g, rfl⟩ : ∃ g, f = g + 1 := ⟨f - 1, by omega⟩
      refine ⟨1, ?_, by omega, ⟨fun x => by omega, fun ⟨q, a, b, _⟩ => by omega⟩⟩
      rw [mX3_holdsEmpty_26_2, g3, gd_t (by omega), if_pos (by omega)]
    | succ n ih =>
      intro i f hi hf
      obtain ⟨g, rfl⟩ : ∃ g, f = g + 1 := ⟨f - 1, by omega⟩
      have hi' : (i : Int) < M 2 := by omega
      obtain ⟨r, r1, r2, r3⟩ := ih (i + 1) g (by omega) (by omega)
      rw [show ((i + 1 : Nat) : Int) = (i : Int) + 1 by omega] at r1
      have hb' := hb i hi'
      have go : ¬ (hm i = k ∧ badQ M (cf26 S) i) → ∃ r : Int, mX3_holdsEmpty_26_2 S (k : Int) g ((i : Int) + 1) = some r ∧ (r = 0 ∨ r = 1) ∧ (r = 0 ↔ ∃ q : Nat, i ≤ q ∧ (q : Int) < M 2 ∧ hm q = k ∧ badQ M (cf26 S) q) := fun nf => by
        refine ⟨r, r1, r2, r3.trans ⟨fun ⟨q, a, b⟩ => ⟨q, by omega, b⟩, fun ⟨q, a, b⟩ => ⟨q, ?_, b⟩⟩⟩
        by_cases w : q = i
        · subst w; exact absurd b.2 nf
        · omega
      rw [mX3_holdsEmpty_26_2, g3, gd_t (by omega), if_neg (by omega), gd_t (by omega), hh i hi', gd_t (by omega)]
      by_cases c : hm i = k
      · rw [if_pos (by omega)]
        have gp := hG.2.1 i hi'
        by_cases sq : 3 ≤ M (24 + (i : Int)) ∧ M (24 + (i : Int)) ≤ 6
        · have q6 := (h.2.2.2.1 i hi').2.2.2.2.2 sq
          obtain ⟨c', hc'⟩ : ∃ c' : Nat, M (72 + (i : Int)) = (c' : Int) := ⟨(M (72 + (i : Int))).toNat, by omega⟩
          have v : S 16 (i : Int) = (c' : Int) := by rw [← hc']; exact gp.2.2.2.2.1 sq
          rw [v, bd1_e (e_isEmpty26 hc (show c' < 24 by omega))]
          cases hb2 : cf26 S c' with
          | true =>
            refine ⟨0, by rw [if_pos rfl, gd_t (by decide), if_neg (by decide)], by omega, ⟨fun _ => ⟨i, Nat.le_refl _, hi', c, sq, ?_⟩, fun _ => rfl⟩⟩
            rw [hc']; exact hb2
          | false =>
            rw [if_neg (show ¬ (false = true) by decide), gd_t (by decide), if_pos rfl]
            refine go (fun x => ?_)
            have := x.2.2
            rw [hc', show ((c' : Int)).toNat = c' from rfl, hb2] at this
            cases this
        · have v : S 16 (i : Int) = -1 := gp.2.2.2.2.2 sq
          have em : mX3_isEmpty_26 S (-1) = some 0 := by
            unfold mX3_isEmpty_26
            rw [gd_t (by decide), if_pos (by decide)]
          rw [v, bd1_e em, gd_t (by decide), if_pos rfl]
          exact go (fun x => sq x.2.1)
      · rw [if_neg (by omega)]
        exact go (fun x => c x.1)
  obtain ⟨r, r1, r2, r3⟩ := key (M 2).toNat 0 FU (by omega) (by unfold FU; omega)
  have r3' : r = 0 ↔ ∃ q : Nat, (q : Int) < M 2 ∧ hm q = k ∧ badQ M (cf26 S) q := r3.trans ⟨fun ⟨q, _, b⟩ => ⟨q, b⟩, fun ⟨q, b⟩ => ⟨q, Nat.zero_le _, b⟩⟩
  refine ⟨if r = 0 then 1 else 0, ?_, by split <;> omega, ?_⟩
  · unfold mX3_holdsEmpty_26
    rw [bd1_e (show mX3_holdsEmpty_26_2 S (k : Int) FU 0 = _ from r1)]
    split <;> rfl
  · rw [← r3']
    by_cases c : r = 0
    · rw [if_pos c]; exact ⟨fun _ => c, fun _ => rfl⟩
    · rw [if_neg c]; exact ⟨fun x => by omega, fun x => absurd x c⟩
theorem w_refuse {S : St} {M : Int → Int} {hm : Nat → Nat} (h : WF M) (hG : GM (sh11 S) M) (hs : stuOK26 M S) (hh : ∀ p : Nat, (p : Int) < M 2 → S 18 (p : Int) = ((hm p : Nat) : Int)) (hb : ∀ p : Nat, (p : Int) < M 2 → hm p < 6) (h0 : S 12 1 = 0) : ∃ y : Int, fstW M (wrg M (cf26 S) (tb S 27) hm) y ∧ mX5_refuseMeaningless S = some (if y = -1 then S else up (up S 12 1 4) 12 2 y) := by
  have hM0 := h.1
  obtain ⟨⟨hc, lf⟩, ⟨n27, n28, n29⟩, ⟨n30, n31, n32⟩, ⟨le, hu, hl⟩, kt⟩ := hs
  have g1 : S 13 1 = M 0 := hG.1.2.1
  have key : ∀ n i f : Nat, (i : Int) + n = M 0 → n < f → (∀ k, k < i → ¬ wrg M (cf26 S) (tb S 27) hm k) → ∃ y : Int, fstW M (wrg M (cf26 S) (tb S 27) hm) y ∧ mX5_refuseMeaningless_2 f (i : Int) S = some (if y = -1 then S else up (up S 12 1 4) 12 2 y) := by
    intro n
    induction n with
    | zero =>
      intro i f hi hf hn
      obtain ⟨g, rfl⟩ : ∃ g, f = g + 1 := ⟨f - 1, by omega⟩
      refine ⟨-1, Or.inl ⟨rfl, fun k hk => hn k (by omega)⟩, ?_⟩
      rw [mX5_refuseMeaningless_2, g1, gd_t (by omega), if_pos (by omega), if_pos rfl]
    | succ n ih =>
      intro i f hi hf hn
      obtain ⟨g, rfl⟩ : ∃ g, f = g + 1 := ⟨f - 1, by omega⟩
      have ce : clo (tb S 30) 6 i = clo (fun e => eO M (tb S 27) (gdL M (cf26 S) e) e) (M 0).toNat i := clo_six (by omega) (fun j hj => (kt j (by omega)).1) (fun j hj => leaD h le (by omega)) (by omega)
      have lt : clo (tb S 30) 6 i < 2 ^ 30 := clR_lt (fun j hj => nb30 n30 hj) 6 _ (nb30 n30 (by omega))
      have stop : ∀ (f : Nat) (y : Int), n < f → mX5_refuseMeaningless_2 f ((i : Int) + 1) (up (up S 12 1 4) 12 2 y) = some (up (up S 12 1 4) 12 2 y) := fun f y hf' => by
        obtain ⟨f', rfl⟩ : ∃ f', f = f' + 1 := ⟨f - 1, by omega⟩
        have v : (up (up S 12 1 4) 12 2 y) 13 1 = M 0 := g1
        have w : (up (up S 12 1 4) 12 2 y) 12 1 = 4 := rfl
        rw [mX5_refuseMeaningless_2, v, gd_t (by omega), w]
        split
        · rfl
        · rw [gd_t (by decide), if_neg (by decide)]
      rw [mX5_refuseMeaningless_2, g1, gd_t (by omega), if_neg (by omega), h0, gd_t (by decide), if_pos rfl, bd1_e (e_closure30 n30 (show i < 6 by omega)), has_bt (by omega) (by omega) (by omega) (by omega), bt_nat]
      cases hbt : (clo (tb S 30) 6 i).testBit i with
      | true =>
        rw [if_pos rfl, gd_t (by decide), if_neg (by decide), nx_e, nx_e, stop g _ (by omega)]
        refine ⟨(i : Int), Or.inr ⟨i, rfl, by omega, Or.inl (by rw [← ce]; exact hbt), hn⟩, ?_⟩
        rw [if_neg (by omega)]
      | false =>
        rw [if_neg (show ¬ (false = true) by decide), gd_t (by decide), if_pos rfl]
        obtain ⟨r, r1, r2, r3⟩ := e_holdsEmpty26 (k := i) h hG hc hh (by omega) hb
        rw [bd1_e r1]
        rcases r2 with r2 | r2
        · subst r2
          rw [gd_t (by decide), if_pos rfl]
          have := ih (i + 1) g (by omega) (by omega) (fun k hk => by
            by_cases w : k = i
            · subst w
              rintro (a | a)
              · rw [← ce, hbt] at a; cases a
              · exact absurd (r3.mpr a) (by decide)
            · exact hn k (by omega))
          rw [show ((i + 1 : Nat) : Int) = (i : Int) + 1 by omega] at this
          exact this
        · subst r2
          rw [gd_t (by decide), if_neg (by decide), nx_e, nx_e, stop g _ (by omega)]
          refine ⟨(i : Int), Or.inr ⟨i, rfl, by omega, Or.inr (r3.mp rfl), hn⟩, ?_⟩
          rw [if_neg (by omega)]
  obtain ⟨y, y1, y2⟩ := key (M 0).toNat 0 FU (by omega) (by unfold FU; omega) (fun k hk => by omega)
  refine ⟨y, y1, ?_⟩
  unfold mX5_refuseMeaningless
  rw [bd1_e (show mX5_refuseMeaningless_2 FU 0 S = _ from y2)]
