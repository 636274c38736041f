/-! the class: rows, stages of a sequence as they are counted; a row found by its number -/
theorem rwW_ev {c c' : Nat → Nat} : ∀ (k n : Nat) (m : Int), n ≤ k → n ≤ 7 → (∀ s, 1 ≤ s → s ≤ n → ev (c s) (c' s)) → ev (rwW c m n) (rwW c' m n) := by
  intro k
  induction k with
  | zero =>
    intro n m hk _ _
    have : n = 0 := by omega
    subst this
    rw [rwW_0, rwW_0]; exact ev.rf
  | succ k ih =>
    intro n m hk hn h
    by_cases z : n = 0
    · subst z; rw [rwW_0, rwW_0]; exact ev.rf
    · by_cases m0 : m = 0
      · subst m0; rw [rwW_z (by omega), rwW_z (by omega)]; exact ev.rf
      · rw [rwW_s ⟨by omega, hn⟩ m0, rwW_s ⟨by omega, hn⟩ m0]
        exact sm_ev fun i hi => ev_mul (h (i + 1) (by omega) (by omega)) (ih _ _ (by omega) (by omega) (fun s a b => h s a (by omega)))
theorem Cor.tabs {S : St} (h : Cor S) : nb S 41 1536 HH ∧ nb S 44 12288 HH ∧ nb S 46 12288 HH ∧ ∀ q s : Nat, (q : Int) < S 84 2 → (s : Int) ≤ S 84 1 → ev (tb S 41 (pl q s 0)) (yM (S 84) q s) := by
  obtain ⟨E, TE, KE, rO, rT, rK, st, w, o, t⟩ := h
  have hM1 := w.2.1
  obtain ⟨-, ⟨n41, -, -, n44, -, -, n46⟩, t3, -⟩ := t
  exact ⟨n41, n44, n46 rfl, fun q s a b => t3 q s 0 a b (Nat.zero_le _) (Or.inl (by omega))⟩
theorem ev_HHs {x y : Nat} (h : ev x y) : ev (min HH x) y := ev_HH.tr h
/-- rows by number of things, one or many; the stages -/
theorem Cor.seq {S : St} (h : Cor S) {p : Nat} (hp : (p : Int) < S 84 2) (hs : isSq (S 84) p) : (∀ s : Nat, (s : Int) ≤ S 84 1 → tab (tb S 44) p 0 s 0 = if s = 0 then 1 else 0) ∧ (S 84 (48 + (p : Int)) ≠ 1 → S 84 (24 + (p : Int)) = 3 ∨ S 84 (24 + (p : Int)) = 6 → ∀ j s : Nat, 2 ≤ j → j ≤ lgM (S 84) p → (s : Int) ≤ S 84 1 → ev (tab (tb S 44) p j s 0) (rwW (cM (S 84) p) (j : Int) s)) ∧ (S 84 (48 + (p : Int)) ≠ 1 → S 84 (24 + (p : Int)) = 4 ∨ S 84 (24 + (p : Int)) = 5 → ∀ s j t : Nat, (s : Int) ≤ S 84 1 → (S 84 (48 + (p : Int)) ≠ 0 → (s : Int) < S 84 1 ∨ s = 0) → j ≤ lgM (S 84) p → (t : Int) ≤ S 84 1 → ev (tb S 46 (p * 512 + pl s j t)) (bgN (cM (S 84) p) (S 84 (24 + (p : Int)) == 5) s (if S 84 (48 + (p : Int)) = 0 ∧ j = 0 then -1 else (j : Int)) t (cM (S 84) p s))) := by
  have hy := h.tabs.2.2.2
  obtain ⟨E, TE, KE, rO, rT, rK, st, w, o, t⟩ := h
  have hM1 := w.2.1
  have h6 := (w.2.2.2.1 p hp).2.2.2.2.2 hs
  have lg := lgM_le w hp hs
  have hs' := hs
  unfold isSq at hs'
  have q := (t.2.2.2.2.2.2 p hp hs).1 (by omega) (Nat.zero_le _)
  rw [Nat.add_sub_cancel] at q
  obtain ⟨⟨q1, q2, q3⟩, q4⟩ := q
  have hc : ∀ s : Nat, 1 ≤ s → (s : Int) ≤ S 84 1 → ev (tb S 41 (pl (chM (S 84) p) s 0)) (cM (S 84) p s) := fun s _ a => hy (chM (S 84) p) s (by unfold chM; omega) a
  refine ⟨fun s hs1 => ?_, fun n1 ty j s j2 jl hs1 => ?_, fun n1 ty s j t a b c d => ?_⟩
  · rw [q1 s 0 (by omega) (Nat.zero_le _)]
    by_cases z : s = 0
    · rw [if_pos ⟨z, rfl⟩, if_pos z]
    · rw [if_neg (fun w => z w.1), if_neg z]
  · have r := (q3 n1 (by unfold cls; omega)).1 j s 0 j2 jl (by omega) (Nat.zero_le _)
    have r' : tab (tb S 44) p j s 0 = min HH (rwW (fun s => cut false (fun s i => tb S 41 (pl (chM (S 84) p) s i)) s 0) (j : Int) s) := by
      rw [rw_tr j s (by omega), ← trw_f]; exact r
    rw [r']
    refine ev_HHs (rwW_ev s s _ (Nat.le_refl _) (by omega) (fun u u1 u2 => ?_))
    show ev (cut false _ u 0) _
    rw [cut_f]
    exact hc u u1 (by omega)
  · have r := q4 rfl rfl ty n1 s j t (by unfold szM; split <;> omega) c (by omega)
    have e : ∀ j : Nat, j ≤ 7 → ev (bgS (S 84 (24 + (p : Int)) == 5) (fun s i => tb S 41 (pl (chM (S 84) p) s i)) (topf (decide ((0 : Int) ≤ -1))) s j t 0) (bgN (cM (S 84) p) (S 84 (24 + (p : Int)) == 5) s (j : Int) t (cM (S 84) p s)) := fun j hj => by
      have e1 : bgN (cM (S 84) p) (S 84 (24 + (p : Int)) == 5) s (j : Int) t (cM (S 84) p s) = bgS (S 84 (24 + (p : Int)) == 5) (fun s i => YP (S 84) (-1) (pl (chM (S 84) p) s i)) (topf false) s j t 0 := by
        have e2 : cM (S 84) p = fun s => YP (S 84) (-1) (pl (chM (S 84) p) s 0) := rfl
        rw [e2]
        exact bg_bgS (C := fun s i => YP (S 84) (-1) (pl (chM (S 84) p) s i)) topf_f s j t
      rw [e1]
      refine bgS_ev s (fun u i u1 u2 u3 => ?_) j t 0 hj
      have i0 : i = 0 := by
        have : i ≤ topf false u := u3
        rw [topf_f] at this; omega
      subst i0
      exact hc u u1 (by omega)
    refine ev.tr r ?_
    by_cases z : S 84 (48 + (p : Int)) = 0 ∧ j = 0
    · rw [if_pos z, if_pos z, bg_any]
      have lgt : lgM (S 84) p = (S 84 1).toNat := by unfold lgM; rw [if_pos z.1]
      have x : sm (t + 1) (fun j => bgN (cM (S 84) p) (S 84 (24 + (p : Int)) == 5) s (j : Int) t (cM (S 84) p s)) = sm (lgM (S 84) p + 1) (fun j => bgN (cM (S 84) p) (S 84 (24 + (p : Int)) == 5) s (j : Int) t (cM (S 84) p s)) := (sm_cut (by omega) (fun j a b => bgN_small _ _ _ _ (by omega))).symm
      rw [x]
      exact sm_ev fun j hj => e j (by omega)
    · rw [if_neg z, if_neg z]
      exact e j (by omega)
/-- the class's value, inside of a sequence -/
theorem gm_sq {S : St} (h : Cor S) {p : Nat} (hp : (p : Int) < S 84 2) (hs : isSq (S 84) p) : S 3 (p : Int) = S 84 (24 + (p : Int)) ∧ S 4 (p : Int) = S 84 (48 + (p : Int)) ∧ S 5 (p : Int) = ((chM (S 84) p : Nat) : Int) ∧ chM (S 84) p < 24 ∧ (p < 24 ∧ ((chM (S 84) p : Nat) : Int) < S 84 2) := by
  have w := h.wf
  have hM2 := w.2.2.1
  have h6 := (w.2.2.2.1 p hp).2.2.2.2.2 hs
  obtain ⟨g1, g2, g3, g4, g5, g6⟩ := h.gm.2.1 p hp
  have hs' := hs
  unfold isSq at hs'
  unfold chM
  exact ⟨g1, g3 (by omega), by rw [g5 hs]; omega, by omega, by omega, by omega⟩
/-- one more number: what is left, of so many things -/
theorem e_rowsLeft {S : St} (h : Cor S) (nx : NEX (S 84)) {p n : Nat} {a : Int} (hp : (p : Int) < S 84 2) (hs : isSq (S 84) p) (ty : S 84 (24 + (p : Int)) = 3 ∨ S 84 (24 + (p : Int)) = 6) (hn : (n : Int) ≤ S 84 1) (ha : S 84 (48 + (p : Int)) ≠ 0 → a < S 84 (48 + (p : Int))) (ha2 : -8 ≤ a ∧ a ≤ 7) : ∃ x : Nat, mX0_rowsLeft_40 S (p : Int) a (n : Int) = some (x : Int) ∧ ev x (if S 84 (48 + (p : Int)) = 0 then rwW (cM (S 84) p) (-1) n else if a < 0 then 0 else rwW (cM (S 84) p) a n) ∧ x ≤ HH := by
  have w := h.wf
  have hM1 := w.2.1
  obtain ⟨g3, g4, g5, c24, p24, c2⟩ := gm_sq h hp hs
  have h6 := (w.2.2.2.1 p hp).2.2.2.2.2 hs
  have lg := lgM_le w hp hs
  obtain ⟨n41, n44, -, hy⟩ := h.tabs
  obtain ⟨q0, q2, -⟩ := h.seq hp hs
  have row : ∀ j : Nat, j ≤ 7 → (j ≤ 1 ∨ (S 84 (48 + (p : Int)) ≠ 1 ∧ j ≤ lgM (S 84) p)) → ∃ x : Nat, mX0_rowsOf_40 S (p : Int) (j : Int) (n : Int) 0 = some (x : Int) ∧ ev x (rwW (cM (S 84) p) (j : Int) n) ∧ x ≤ HH := by
    intro j j7 jj
    obtain ⟨r1, r2⟩ := e_rowsOf40 (S := S) (p := p) (c := chM (S 84) p) (j := j) (n := n) (k := 0) p24 (fun _ => ⟨g5, c24⟩) j7 (by omega) (by omega) n41 n44
    refine ⟨_, r1, ?_, r2⟩
    unfold rwv
    by_cases j1 : j = 1
    · subst j1
      rw [if_pos rfl]
      by_cases n0 : n = 0
      · subst n0
        have a := hy (chM (S 84) p) 0 c2 hn
        have e0 : yM (S 84) (chM (S 84) p) 0 = 0 := y_child0 h nx hp hs
        rw [e0] at a
        rw [rwW_0, if_neg (by omega)]
        exact a
      · have e : rwW (cM (S 84) p) ((1 : Nat) : Int) n = cM (S 84) p n := by
          have := rw_tr (C := fun s _ => cM (S 84) p s) 1 n (by omega)
          rw [tr_1 (by omega)] at this
          exact this
        rw [e]
        exact hy _ n c2 hn
    · rw [if_neg j1]
      by_cases j0 : j = 0
      · subst j0
        have := q0 n hn
        unfold tab at this
        rw [this]
        by_cases n0 : n = 0
        · subst n0; rw [if_pos rfl, rwW_0, if_pos (by omega)]; exact ev.rf
        · rw [if_neg n0, show ((0 : Nat) : Int) = 0 from rfl, rwW_z (by omega)]; exact ev.rf
      · exact q2 (by omega) ty j n (by omega) (by omega) hn
  unfold mX0_rowsLeft_40
  rw [gd_t (by omega), g4, gd_t (by omega)]
  by_cases v0 : S 84 (48 + (p : Int)) = 0
  · rw [if_pos v0, if_pos v0]
    have lgt : lgM (S 84) p = (S 84 1).toNat := by unfold lgM; rw [if_pos v0]
    have z4 : (gd (inI (n : Int)) <| if (n : Int) = 0 then some (1 : Int) else some 0) = some ((if n = 0 then 1 else 0 : Nat) : Int) := by
      rw [gd_t (by omega)]
      by_cases n0 : n = 0
      · rw [if_pos (by omega), if_pos n0]; rfl
      · rw [if_neg (by omega), if_neg n0]; rfl
    have L : ∀ d j f v : Nat, j + d = n + 1 → 1 ≤ j → d < f → v ≤ HH → ev v (sm j (fun j => rwW (cM (S 84) p) (j : Int) n)) → ∃ x : Nat, mX0_rowsLeft_40_43 S (p : Int) (n : Int) f (j : Int) (v : Int) = some (x : Int) ∧ ev x (sm (n + 1) (fun j => rwW (cM (S 84) p) (j : Int) n)) ∧ x ≤ HH := by
      intro d
      induction d with
      | zero =>
        intro j f v hj j1 hf hv he
        obtain ⟨f, rfl⟩ : ∃ f', f = f' + 1 := ⟨f - 1, by omega⟩
        refine ⟨v, ?_, by rw [← show j = n + 1 by omega]; exact he, hv⟩
        rw [mX0_rowsLeft_40_43, gd_t (by omega), if_pos (by omega)]
      | succ d ih =>
        intro j f v hj j1 hf hv he
        obtain ⟨f, rfl⟩ : ∃ f', f = f' + 1 := ⟨f - 1, by omega⟩
        obtain ⟨x, x1, x2, x3⟩ := row j (by omega) (by omega)
        obtain ⟨y, y1, y2, y3⟩ := ih (j + 1) f (min HH (v + x)) (by omega) (by omega) (by omega) min_le' (by rw [sm_s]; exact ev_HHs (ev_add he x2))
        refine ⟨y, ?_, y2, y3⟩
        rw [mX0_rowsLeft_40_43, gd_t (by omega), if_neg (by omega), bd1_e x1, bd1_e (e_plusH hv x3)]
        rw [show ((j + 1 : Nat) : Int) = (j : Int) + 1 by omega] at y1
        exact y1
    have r0 : (if n = 0 then 1 else 0 : Nat) = sm 1 (fun j => rwW (cM (S 84) p) (j : Int) n) := by
      rw [sm_s, sm_0, Nat.zero_add]
      by_cases n0 : n = 0
      · subst n0; rw [if_pos rfl, rwW_0, if_pos (by omega)]
      · rw [if_neg n0, show ((0 : Nat) : Int) = 0 from rfl, rwW_z (by omega)]
    obtain ⟨x, x1, x2, x3⟩ := L n 1 FU (if n = 0 then 1 else 0) (by omega) (by omega) (by unfold FU; omega) (by have := CC_HH; have := CC_pos; split <;> omega) (by rw [← r0]; exact ev.rf)
    refine ⟨x, ?_, ?_, x3⟩
    · rw [bd1_e z4, bd1_e (show mX0_rowsLeft_40_43 S (p : Int) (n : Int) FU 1 _ = _ from x1)]
    · have e : rwW (cM (S 84) p) (-1) n = sm (n + 1) (fun j => rwW (cM (S 84) p) (j : Int) n) := by
        have := rw_any (C := fun s _ => cM (S 84) p s) n n (Nat.le_refl _) (by omega)
        rw [sm_congr (fun j _ => (rw_tr (C := fun s _ => cM (S 84) p s) j n (by omega)).symm)] at this
        exact this
      rw [e]; exact x2
  · rw [if_neg v0, if_neg v0, gd_t (by omega)]
    by_cases a0 : a < 0
    · refine ⟨0, ?_, by rw [if_pos a0]; exact ev.rf, Nat.zero_le _⟩
      rw [if_neg (by omega)]; rfl
    · have aj := ha v0
      obtain ⟨j, rfl⟩ : ∃ j : Nat, a = (j : Int) := ⟨a.toNat, by omega⟩
      have lgv : lgM (S 84) p = (S 84 (48 + (p : Int))).toNat := by unfold lgM; rw [if_neg v0]
      obtain ⟨x, x1, x2, x3⟩ := row j (by omega) (by omega)
      exact ⟨x, by rw [if_pos (by omega), bd1_e x1], by rw [if_neg a0]; exact x2, x3⟩
/-- the numbers' names: with i of them taken -/
def nuI (M : Int → Int) (p i : Nat) : Int := if M (48 + (p : Int)) = 0 then -1 else M (48 + (p : Int)) - (i : Int)
theorem nuI_0 {M : Int → Int} {p : Nat} : nuI M p 0 = nuM M p := by unfold nuI nuM; split <;> simp
theorem lss_nuI {M : Int → Int} {p i : Nat} (h : 0 ≤ nuI M p i ∨ M (48 + (p : Int)) = 0) : lss (nuI M p i) = nuI M p (i + 1) := by
  unfold lss nuI at *
  by_cases z : M (48 + (p : Int)) = 0
  · rw [if_pos z, if_pos z]; rfl
  · rw [if_neg z] at h ⊢
    rw [if_neg z, if_neg (by omega)]; omega
/-- the codes of things in a sequence -/
def cdN (x : Nat × Nat) : Nat := x.1 * 1024 + x.2
def cds (S : St) (L : List (Nat × Nat)) : Prop := S 61 2 = ((L.length : Nat) : Int) ∧ ∀ i x, L[i]? = some x → S 62 ((i : Nat) : Int) = ((cdN x : Nat) : Int)
theorem cds.of {S T : St} {L : List (Nat × Nat)} (h : cds S L) (a : T 61 2 = S 61 2) (b : T 62 = S 62) : cds T L := ⟨a.trans h.1, fun i x e => by rw [b]; exact h.2 i x e⟩
theorem e_cadd {S : St} {L : List (Nat × Nat)} {s r : Nat} (h : cds S L) (hl : L.length < 8) (hr : r ≤ 1023) : ∃ S1, mX8_add S (s : Int) (r : Int) = some S1 ∧ cds S1 (L ++ [(s, r)]) ∧ kept [62] [(61, 2)] S S1 := by
  refine ⟨up (up S 62 ((L.length : Nat) : Int) ((s : Int) * 1024 + (r : Int))) 61 2 (((L.length : Nat) : Int) + 1), ?_, ⟨?_, fun i x e => ?_⟩, kept.upF (kept.upA kept.rf (by simp)) (by simp)⟩
  · unfold mX8_add
    rw [h.1, gd_t (by omega), if_neg (by omega), gd_t (by omega), gd_t (by omega), show min (r : Int) 1023 = (r : Int) by omega, nx_e, up_n (by decide), h.1, nx_e]
  · rw [up_eq, List.length_append, List.length_singleton]; omega
  · rw [up_n (by decide)]
    by_cases z : i < L.length
    · rw [List.getElem?_append_left z] at e
      rw [up_nk (by omega)]
      exact h.2 i x e
    · rw [List.getElem?_append_right (by omega)] at e
      have i0 : i - L.length = 0 := by
        rcases Nat.eq_zero_or_pos (i - L.length) with y | y
        · exact y
        · rw [List.getElem?_eq_none (by simp; omega)] at e
          cases e
      rw [i0] at e
      have ex : (s, r) = x := Option.some.inj e
      subst ex
      rw [show i = L.length by omega, up_eq]
      unfold cdN
      omega
/-- a row found: sizes -/
theorem ev_lt {x y v : Nat} (h : ev x y) (hv : v < CC) : (v < x ↔ v < y) ∧ (¬ v < x → x = y) := by
  rcases ev_to h with e | ⟨a, b⟩
  · subst e; exact ⟨Iff.rfl, fun _ => rfl⟩
  · exact ⟨⟨fun _ => by omega, fun _ => by omega⟩, fun z => by omega⟩
theorem c_fr70 {S : St} (h : Cor S) (nx : NEX (S 84)) {p n i : Nat} (hp : (p : Int) < S 84 2) (hs : isSq (S 84) p) (ty : S 84 (24 + (p : Int)) = 3 ∨ S 84 (24 + (p : Int)) = 6) (hn : (n : Int) ≤ S 84 1) (hi : 1 ≤ i) (hi2 : i ≤ 8) (hI : S 61 5 = ((chM (S 84) p : Nat) : Int)) (hnu : S 84 (48 + (p : Int)) ≠ 0 → (i : Int) ≤ S 84 (48 + (p : Int))) : ∀ (d s v f b : Nat), 1 ≤ s → s + d = n → d < f → v < CC → v < sm (d + 1) (fun i' => (fun s => cM (S 84) p s * rwW (cM (S 84) p) (nuI (S 84) p i) (n - s)) (s + i')) → ev b (rwW (cM (S 84) p) (nuI (S 84) p i) (n - s)) → b ≤ HH → ∃ t w b', pkS (fun s => cM (S 84) p s * rwW (cM (S 84) p) (nuI (S 84) p i) (n - s)) (d + 1) s v = (t, w) ∧ mX8_findRow_70 S (i : Int) (n : Int) (p : Int) f (b : Int) (s : Int) (v : Int) = some ((w : Int), (t : Int), ((b' : Nat) : Int)) ∧ ev b' (rwW (cM (S 84) p) (nuI (S 84) p i) (n - t)) ∧ b' ≤ HH := by
  have w := h.wf
  have hM1 := w.2.1
  obtain ⟨g3, g4, g5, c24, p24, c2⟩ := gm_sq h hp hs
  have h6 := (w.2.2.2.1 p hp).2.2.2.2.2 hs
  intro d
  induction d with
  | zero =>
    intro s v f b s1 hd hf hv hsm hb hbH
    obtain ⟨f, rfl⟩ : ∃ f', f = f' + 1 := ⟨f - 1, by omega⟩
    rw [sm_s, sm_0, Nat.zero_add, Nat.add_zero] at hsm
    refine ⟨s, v, b, pq_lt (g := fun s => cM (S 84) p s * rwW (cM (S 84) p) (nuI (S 84) p i) (n - s)) hsm, ?_, hb, hbH⟩
    rw [mX8_findRow_70, gd_t (by omega), if_pos (by omega)]
  | succ d ih =>
    intro s v f b s1 hd hf hv hsm hb hbH
    obtain ⟨f, rfl⟩ : ∃ f', f = f' + 1 := ⟨f - 1, by omega⟩
    obtain ⟨x, x1, x2, x3⟩ := e_of40 h c2 (n := s) (by omega)
    have evp : ev (min HH (x * b)) (cM (S 84) p s * rwW (cM (S 84) p) (nuI (S 84) p i) (n - s)) := ev_HHs (ev_mul x2 hb)
    have hle : min HH (x * b) ≤ HH := min_le'
    have hl2 := HH_in hle
    have vC : v < 1000000000000 := hv
    obtain ⟨c1, c3⟩ := ev_lt evp hv
    by_cases z : v < min HH (x * b)
    · refine ⟨s, v, b, pq_lt (g := fun s => cM (S 84) p s * rwW (cM (S 84) p) (nuI (S 84) p i) (n - s)) (c1.mp z), ?_, hb, hbH⟩
      rw [mX8_findRow_70, gd_t (by omega), if_neg (by omega), hI, bd1_e x1, bd1_e (e_timesH x3 hbH), gd_t (by omega), if_pos (by omega)]
    · have e := c3 z
      have hsm := Nat.lt_of_lt_of_eq hsm (sm_sh (g := fun s => cM (S 84) p s * rwW (cM (S 84) p) (nuI (S 84) p i) (n - s)) (s := s) (d + 1))
      try dsimp only at hsm
      have la : S 84 (48 + (p : Int)) ≠ 0 → S 84 (48 + (p : Int)) - (i : Int) < S 84 (48 + (p : Int)) := fun _ => by omega
      obtain ⟨y, y1, y2, y3⟩ := e_rowsLeft h nx (n := n - (s + 1)) (a := S 84 (48 + (p : Int)) - (i : Int)) hp hs ty (by omega) la (by omega)
      have y2' : ev y (rwW (cM (S 84) p) (nuI (S 84) p i) (n - (s + 1))) := by
        unfold nuI
        by_cases v0 : S 84 (48 + (p : Int)) = 0
        · rw [if_pos v0] at y2 ⊢; exact y2
        · have := hnu v0
          rw [if_neg v0, if_neg (by omega)] at y2
          rw [if_neg v0]; exact y2
      obtain ⟨t, u, b', a1, a2, a3, a4⟩ := ih (s + 1) (v - cM (S 84) p s * rwW (cM (S 84) p) (nuI (S 84) p i) (n - s)) f y (by omega) (by omega) (by omega) (by omega) (by show _ < sm (d + 1) (fun i' => cM (S 84) p (s + 1 + i') * rwW (cM (S 84) p) (nuI (S 84) p i) (n - (s + 1 + i'))); omega) y2' y3
      refine ⟨t, u, b', (pq_ge (g := fun s => cM (S 84) p s * rwW (cM (S 84) p) (nuI (S 84) p i) (n - s)) (by omega)).trans a1, ?_, a3, a4⟩
      rw [mX8_findRow_70, gd_t (by omega), if_neg (by omega), hI, bd1_e x1, bd1_e (e_timesH x3 hbH), gd_t (by omega), if_neg (by omega), bd1_e x1, bd1_e (e_timesH x3 hbH), nx_e, g4, show (n : Int) - ((s : Int) + 1) = ((n - (s + 1) : Nat) : Int) by omega, bd1_e y1]
      rw [show ((s + 1 : Nat) : Int) = (s : Int) + 1 by omega, ← e] at a2
      rw [show (v : Int) - ((min HH (x * b) : Nat) : Int) = ((v - min HH (x * b) : Nat) : Int) by omega]
      exact a2
theorem Cor.seqs {S T : St} (h : Cor S) (k : kept [62] [(61, 2), (61, 5)] S T) : Cor T := h.of (k.cell 84 (by decide) (by decide)) (fun i a b => k.cell i (by simp; omega) (by simp; omega)) (fun i a b => k.cell i (by simp; omega) (by simp; omega))
theorem c_fr28 {p : Nat} {M : Int → Int} (hp : (p : Int) < M 2) (hs : isSq M p) (ty : M (24 + (p : Int)) = 3 ∨ M (24 + (p : Int)) = 6) (nx : NEX M) : ∀ (k n v i f : Nat) (S : St) (L : List (Nat × Nat)), Cor S → S 84 = M → S 61 5 = ((chM M p : Nat) : Int) → cds S L → L.length + 1 = i → n ≤ k → n + i ≤ 8 → (n : Int) ≤ M 1 → k < f → v ≤ 1000 → v < rwW (cM M p) (nuI M p (i - 1)) n → (M (48 + (p : Int)) ≠ 0 → (i : Int) ≤ M (48 + (p : Int)) + 1) → ∃ (g : Int) (S' : St), mX8_findRow_28 (p : Int) f (i : Int) (v : Int) (n : Int) S = some (g, S') ∧ cds S' (L ++ rwI (cM M p) k (nuI M p (i - 1)) n v) ∧ kept [62] [(61, 2), (61, 5)] S S' := by
  intro k
  induction k with
  | zero =>
    intro n v i f S L h e84 hI hL hl hk hn8 hn hf hv hsm hnu
    obtain ⟨f, rfl⟩ : ∃ f', f = f' + 1 := ⟨f - 1, by omega⟩
    have : n = 0 := by omega
    subst this
    refine ⟨1, S, ?_, by rw [rwI_0, List.append_nil]; exact hL, kept.rf⟩
    rw [mX8_findRow_28, gd_t (by omega)]
    by_cases i8 : i = 8
    · rw [if_pos (by omega)]
    · rw [if_neg (by omega), gd_t (by omega), if_pos (by omega)]
  | succ k ih =>
    intro n v i f S L h e84 hI hL hl hk hn8 hn hf hv hsm hnu
    obtain ⟨f, rfl⟩ : ∃ f', f = f' + 1 := ⟨f - 1, by omega⟩
    by_cases n0 : n = 0
    · subst n0
      refine ⟨1, S, ?_, by rw [rwI_0, List.append_nil]; exact hL, kept.rf⟩
      rw [mX8_findRow_28, gd_t (by omega)]
      by_cases i8 : i = 8
      · rw [if_pos (by omega)]
      · rw [if_neg (by omega), gd_t (by omega), if_pos (by omega)]
    subst e84
    have w := h.wf
    have hM1 := w.2.1
    obtain ⟨g3, g4, g5, c24, p24, c2⟩ := gm_sq h hp hs
    have h6 := (w.2.2.2.1 p hp).2.2.2.2.2 hs
    have m0 : nuI (S 84) p (i - 1) ≠ 0 := by
      intro z
      rw [z, rwW_z (by omega)] at hsm
      omega
    have hnu' : S 84 (48 + (p : Int)) ≠ 0 → (i : Int) ≤ S 84 (48 + (p : Int)) := by
      intro z
      have a := hnu z
      unfold nuI at m0
      rw [if_neg z] at m0
      omega
    have el : lss (nuI (S 84) p (i - 1)) = nuI (S 84) p i := by
      have := lss_nuI (M := S 84) (p := p) (i := i - 1) (by
        unfold nuI
        by_cases z : S 84 (48 + (p : Int)) = 0
        · exact Or.inr z
        · have := hnu' z
          rw [if_neg z]; omega)
      rw [show i - 1 + 1 = i by omega] at this
      exact this
    obtain ⟨t, u, p1, p2, p3, p4, p5⟩ := rw_pk (c := cM (S 84) p) ⟨by omega, by omega⟩ m0 hsm
    obtain ⟨d1, d2, d3⟩ := dm_lt p4
    rw [el] at p1 p4 d1 d2 d3
    have hvC : v < CC := by rw [CC_eq]; omega
    rw [rwW_s ⟨by omega, by omega⟩ m0, sm_congr (g := fun i' => (fun s => cM (S 84) p s * rwW (cM (S 84) p) (nuI (S 84) p i) (n - s)) (1 + i')) (fun i' _ => by rw [Nat.add_comm 1 i', el])] at hsm
    obtain ⟨y, y1, y2, y3⟩ := e_rowsLeft h nx (n := n - 1) (a := S 84 (48 + (p : Int)) - (i : Int)) hp hs ty (by omega) (fun _ => by omega) (by omega)
    have y2' : ev y (rwW (cM (S 84) p) (nuI (S 84) p i) (n - 1)) := by
      unfold nuI
      by_cases v0 : S 84 (48 + (p : Int)) = 0
      · rw [if_pos v0] at y2 ⊢; exact y2
      · have := hnu' v0
        rw [if_neg v0, if_neg (by omega)] at y2
        rw [if_neg v0]; exact y2
    obtain ⟨t', u', b', a1, a2, a3, a4⟩ := c_fr70 h nx hp hs ty hn (by omega) (by omega) hI hnu' (n - 1) 1 v FU y (by omega) (by omega) (by unfold FU; omega) hvC (by rw [show n - 1 + 1 = n by omega]; exact hsm) y2' y3
    rw [show n - 1 + 1 = n by omega, p1] at a1
    cases a1
    have b1 : 1 ≤ b' := by
      rcases Nat.eq_zero_or_pos b' with z | z
      · have := (ev_zero a3).mp z
        omega
      · exact z
    have b2 := HH_in a4
    obtain ⟨q1, q2⟩ := ev_div a3 (show u < CC by omega)
    have ur : u / b' ≤ u := Nat.div_le_self _ _
    obtain ⟨S1, s1, s2, s3⟩ := e_cadd (s := t) (r := u / b') hL (by omega) (by omega)
    have s3' : kept [62] [(61, 2), (61, 5)] S S1 := s3.mono (by simp) (by simp)
    have um : u % b' ≤ u := Nat.mod_le _ _
    obtain ⟨g, S', r1, r2, r3⟩ := ih (n - t) (u % b') (i + 1) f S1 (L ++ [(t, u / b')]) (h.seqs s3') (s3.cell 84 (by decide) (by decide)) ((s3 61 5 (by simp) (by simp)).trans hI) s2 (by rw [List.length_append, List.length_singleton]; omega) (by omega) (by omega) (by omega) (by omega) (by omega) (by rw [Nat.add_sub_cancel, q2]; exact d3) (fun z => by have := hnu' z; omega)
    refine ⟨g, S', ?_, ?_, s3'.trans r3⟩
    · rw [mX8_findRow_28, gd_t (by omega), if_neg (by omega), gd_t (by omega), if_neg (by omega), g4, show (n : Int) - 1 = ((n - 1 : Nat) : Int) by omega, bd1_e y1, bd3_e (show mX8_findRow_70 S (i : Int) (n : Int) (p : Int) FU (y : Int) 1 (v : Int) = _ from a2), gd_t (by omega), if_pos (by omega), gd_t ⟨by omega, by omega⟩, show (u : Int) / (b' : Int) = ((u / b' : Nat) : Int) from rfl, bd1_e s1, show (u : Int) % (b' : Int) = ((u % b' : Nat) : Int) from rfl, nx_e, nx_e, show (n : Int) - (t : Int) = ((n - t : Nat) : Int) by omega]
      rw [show ((i + 1 : Nat) : Int) = (i : Int) + 1 by omega] at r1
      exact r1
    · rw [rwI_s (t := t) (w := u) (by omega) (by rw [el]; exact p1), el]
      rw [List.append_assoc, Nat.add_sub_cancel, q1, q2] at r2
      exact r2
theorem c_findRow {S : St} (h : Cor S) (nx : NEX (S 84)) {p n v : Nat} (hp : (p : Int) < S 84 2) (hs : isSq (S 84) p) (ty : S 84 (24 + (p : Int)) = 3 ∨ S 84 (24 + (p : Int)) = 6) (hn : (n : Int) ≤ S 84 1) (hv : v ≤ 1000) (hsm : v < rwW (cM (S 84) p) (nuM (S 84) p) n) : ∃ S', mX8_findRow S (p : Int) (n : Int) (v : Int) = some S' ∧ cds S' (rwI (cM (S 84) p) 7 (nuM (S 84) p) n v) ∧ kept [62] [(61, 2), (61, 5)] S S' := by
  have w := h.wf
  have hM1 := w.2.1
  obtain ⟨g3, g4, g5, c24, p24, c2⟩ := gm_sq h hp hs
  have h6 := (w.2.2.2.1 p hp).2.2.2.2.2 hs
  have k1 : kept [62] [(61, 2), (61, 5)] S (up (up S 61 2 0) 61 5 ((chM (S 84) p : Nat) : Int)) := kept.upF (kept.upF kept.rf (by simp)) (by simp)
  obtain ⟨g, S', r1, r2, r3⟩ := c_fr28 (M := S 84) hp hs ty nx 7 n v 1 FU (up (up S 61 2 0) 61 5 ((chM (S 84) p : Nat) : Int)) [] (h.seqs k1) (k1.cell 84 (by decide) (by decide)) up_eq ⟨by rw [up_nk (by decide), up_eq]; rfl, fun i x e => by simp at e⟩ rfl (by omega) (by omega) hn (by unfold FU; omega) hv (by rw [show 1 - 1 = 0 from rfl, nuI_0]; exact hsm) (fun z => by omega)
  rw [show 1 - 1 = 0 from rfl, nuI_0, List.nil_append] at r2
  refine ⟨S', ?_, r2, k1.trans r3⟩
  unfold mX8_findRow
  rw [nx_e, gd_t (by omega), show (up S 61 2 0) 5 (p : Int) = S 5 (p : Int) from rfl, g5, nx_e, gd_t (by omega), bd2_e (show mX8_findRow_28 (p : Int) FU 1 (v : Int) (n : Int) _ = _ from r1), ite_self]
