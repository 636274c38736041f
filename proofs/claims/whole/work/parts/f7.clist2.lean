/-! the class: all rings of a size listed in order -/
theorem flF_skip {α : Type} {g : Nat → List α} : ∀ (a d s : Nat), (∀ i, s ≤ i → i < s + a → g i = []) → flF (a + d) s g = flF d (s + a) g := by
  intro a
  induction a with
  | zero => intro d s _; rw [Nat.zero_add, Nat.add_zero]
  | succ a ih =>
    intro d s h
    rw [show a + 1 + d = (a + d) + 1 by omega]
    show g s ++ flF (a + d) (s + 1) g = _
    rw [h s (Nat.le_refl _) (by omega), List.nil_append, ih d (s + 1) (fun i x y => h i (by omega) (by omega)), show s + 1 + a = s + (a + 1) by omega]
theorem flF_nil {α : Type} {g : Nat → List α} (d s : Nat) (h : ∀ i, s ≤ i → i < s + d → g i = []) : flF d s g = [] := by
  have := flF_skip (g := g) d 0 s h
  rw [Nat.add_zero] at this
  exact this
theorem cds_pre {S : St} {L : List (Nat × Nat)} {x : Nat × Nat} (h : cds S (L ++ [x])) : cds (up S 61 2 ((L.length : Nat) : Int)) L := ⟨up_eq, fun i y e => by
  rw [up_n (by decide)]
  have il : i < L.length := by
    rcases Nat.lt_or_ge i L.length with z | z
    · exact z
    · rw [List.getElem?_eq_none (by omega)] at e; cases e
  exact h.2 i y (by rw [List.getElem?_append_left il]; exact e)⟩
theorem cds_add {S : St} {L : List (Nat × Nat)} {s r : Nat} (h : cds S L) : cds (up (up S 62 ((L.length : Nat) : Int) ((s : Int) * 1024 + (r : Int))) 61 2 (((L.length : Nat) : Int) + 1)) (L ++ [(s, r)]) := by
  refine ⟨by rw [up_eq, List.length_append, List.length_singleton]; omega, fun i x e => ?_⟩
  rw [up_n (by decide)]
  by_cases z : i < L.length
  · rw [List.getElem?_append_left z] at e
    rw [up_nk (by omega)]
    exact h.2 i x e
  · rw [List.getElem?_append_right (by omega)] at e
    have i0 : i - L.length = 0 := by
      rcases Nat.eq_zero_or_pos (i - L.length) with y | y
      · exact y
      · rw [List.getElem?_eq_none (by simp; omega)] at e
        cases e
    rw [i0] at e
    have ex : (s, r) = x := Option.some.inj e
    subst ex
    rw [show i = L.length by omega, up_eq]
    unfold cdN
    omega
theorem c_list {M : Int → Int} {p O Q n0 : Nat} (hp : (p : Int) < M 2) (z6 : M (24 + (p : Int)) = 6) (nx : NEX M) (hn0 : (n0 : Int) ≤ M 1) (hfew : fewC (cM M p) (nuM M p) n0) : ∀ (f n : Nat) (m : Int) (pre : List (Nat × Nat)) (E0 : List (List (Nat × Nat))) (g : Nat) (S : St), n ≤ f → 2 * f < g → okL (cM M p) pre → smL' pre → tot pre + n = n0 → (n = 0 → pre ≠ []) → (0 ≤ nuM M p → m = nuM M p - ((pre.length : Nat) : Int) ∧ 0 ≤ m) → (nuM M p < 0 → m = -1) → -1 ≤ m → Cor S → S 84 = M → S 61 5 = ((chM M p : Nat) : Int) → cds S pre → LR S O Q E0 → E0.length + (rgE (cM M p) f m n pre).length ≤ 200 → (n = 0 → m ≤ 0) → ∃ S', RX8_listRings g 0 (p : Int) (n : Int) (O : Int) 0 0 S = some S' ∧ cds S' pre ∧ LR S' O Q (E0 ++ rgE (cM M p) f m n pre) ∧ kR O Q S S' := by
  -- the end of a row
  have base0 : ∀ (f : Nat) (m : Int) (pre : List (Nat × Nat)) (E0 : List (List (Nat × Nat))) (g : Nat) (S : St), okL (cM M p) pre → smL' pre → tot pre ≤ 7 → pre ≠ [] → cds S pre → LR S O Q E0 → E0.length + (rgE (cM M p) f m 0 pre).length ≤ 200 → m ≤ 0 → ∃ S', RX8_listRings (g + 1) 0 (p : Int) 0 (O : Int) 0 0 S = some S' ∧ cds S' pre ∧ LR S' O Q (E0 ++ rgE (cM M p) f m 0 pre) ∧ kR O Q S S' := by
    intro f m pre E0 g S ok sm tp ne hc hL hE hm
    have hpl := (ok_sm ok rfl).1
    have st : RX8_listRings (g + 1) 0 (p : Int) 0 (O : Int) 0 0 S = bX8_listRings_61_dO (RX8_listRings g) S (p : Int) 0 (O : Int) := by rw [RX8_listRings, if_pos rfl]
    rw [rgE_0] at hE ⊢
    rw [st]
    by_cases x : lst pre = true
    · rw [if_pos (show m ≤ 0 ∧ pre ≠ [] ∧ lst pre = true from ⟨hm, ne, x⟩)] at hE ⊢
      rw [List.length_singleton] at hE
      obtain ⟨S', s1, s2, s3, s4⟩ := e_enlist hL hc (by omega) (by omega)
      refine ⟨S', entG_e ?_ s4.gle, s3, s2, s4⟩
      have e1 := e_first hc sm (by omega)
      rw [if_pos x] at e1
      try unfold bX8_listRings_61_dO
      rw [gd_t (by decide), if_pos rfl, bd1_e e1, gd_t (by decide), if_neg (by decide)]
      exact bdG1_e s1 s4.gle rfl gle_rfl
    · have e0 : (if m ≤ 0 ∧ pre ≠ [] ∧ lst pre = true then [pre] else []) = [] := if_neg (fun w => x w.2.2)
      rw [e0, List.append_nil]
      refine ⟨S, entG_e ?_ gle_rfl, hc, hL, kR.rf⟩
      have e1 := e_first hc sm (by omega)
      rw [if_neg x] at e1
      rw [gd_t (by decide), if_pos rfl, bd1_e e1, gd_t (by decide), if_pos rfl]
  intro f
  induction f with
  | zero =>
    intro n m pre E0 g S hn hg ok sm hp' hne hm hm' m1 hC e84 hI hc hL hE hm0
    obtain ⟨g, rfl⟩ : ∃ g', g = g' + 1 := ⟨g - 1, by omega⟩
    have : n = 0 := by omega
    subst this
    have := hC.wf.2.1
    rw [e84] at this
    exact base0 0 m pre E0 g S ok sm (by omega) (hne rfl) hc hL hE (hm0 rfl)
  | succ f ih =>
    intro n m pre E0 g S hn hg ok sm hp' hne hm hm' m1 hC e84 hI hc hL hE hm0
    obtain ⟨g, rfl⟩ : ∃ g', g = g' + 1 + 1 := ⟨g - 2, by omega⟩
    have hM1 := hC.wf.2.1
    rw [e84] at hM1
    have hpl := (ok_sm ok (rfl : tot pre = tot pre)).1
    by_cases n0' : n = 0
    · subst n0'
      exact base0 (f + 1) m pre E0 (g + 1) S ok sm (by omega) (hne rfl) hc hL hE (hm0 rfl)
    have hs : isSq M p := by unfold isSq; omega
    obtain ⟨nO, hO, hQ⟩ := hL.ne
    have gmS : ∀ T : St, Cor T → T 84 = M → T 4 (p : Int) = M (48 + (p : Int)) ∧ p < 24 ∧ ((chM M p : Nat) : Int) < M 2 := by
      intro T hT e
      subst e
      obtain ⟨g3, g4, g5, c24, p24, c2⟩ := gm_sq hT hp hs
      exact ⟨g4, p24, c2⟩
    have nuW : nuM M p = if M (48 + (p : Int)) = 0 then -1 else M (48 + (p : Int)) := rfl
    have nu := nu_ge (show WF M by have := hC.wf; rw [e84] at this; exact this) hp hs
    -- how many rows stand behind a size
    have rl : ∀ (T : St) (s : Nat), Cor T → T 84 = M → cds T pre → 1 ≤ s → s ≤ n → ∃ x : Nat, mX0_rowsLeft_40 T (p : Int) ((T 4 (p : Int) - T 61 2) - 1) ((n : Int) - (s : Int)) = some (x : Int) ∧ (x = 0 ↔ m = 0 ∨ rwW (cM M p) (lss m) (n - s) = 0) ∧ x ≤ HH := by
      intro T s hT e hcT s1 s2
      obtain ⟨g4, p24, c2⟩ := gmS T hT e
      subst e
      obtain ⟨x, x1, x2, x3⟩ := e_rowsLeft hT nx (p := p) (n := n - s) (a := T 84 (48 + (p : Int)) - ((pre.length : Nat) : Int) - 1) hp hs (Or.inr z6) (by omega) (fun _ => by omega) (by
        by_cases v0 : T 84 (48 + (p : Int)) = 0
        · omega
        · have h6 := (hT.wf.2.2.2.1 p hp).2.2.2.2.2 hs
          omega)
      refine ⟨x, ?_, ?_, x3⟩
      · rw [g4, hcT.1, show (n : Int) - (s : Int) = ((n - s : Nat) : Int) by omega]
        exact x1
      · rw [ev_zero x2]
        by_cases v0 : T 84 (48 + (p : Int)) = 0
        · have mm : m = -1 := hm' (by rw [nuW, if_pos v0]; decide)
          rw [if_pos v0, mm]
          constructor
          · intro h; exact Or.inr h
          · rintro (h | h)
            · cases h
            · exact h
        · have h6 := (hT.wf.2.2.2.1 p hp).2.2.2.2.2 hs
          obtain ⟨mm, mp⟩ := hm (by rw [nuW, if_neg v0]; omega)
          rw [nuW, if_neg v0] at mm
          rw [if_neg v0]
          by_cases m0 : m = 0
          · rw [if_pos (by omega)]
            exact ⟨fun _ => Or.inl m0, fun _ => rfl⟩
          · rw [if_neg (by omega), show T 84 (48 + (p : Int)) - ((pre.length : Nat) : Int) - 1 = lss m by unfold lss; rw [if_neg (by omega)]; omega]
            exact ⟨fun h => Or.inr h, fun h => h.resolve_left m0⟩
    -- the ranks of a size
    have L147 : ∀ s : Nat, 1 ≤ s → s ≤ n → m ≠ 0 → cM M p s ≤ 1000 → rwW (cM M p) (lss m) (n - s) ≠ 0 → ∀ (d r F : Nat) (E : List (List (Nat × Nat))) (T : St), r + d = cM M p s → d < F → Cor T → T 84 = M → T 61 5 = ((chM M p : Nat) : Int) → cds T pre → LR T O Q E → (∀ x, bel pre (s, x) = true → x < r) → E.length + (flF d r (fun r => if bel pre (s, r) = true then [] else rgE (cM M p) f (lss m) (n - s) (pre ++ [(s, r)]))).length ≤ 200 → ∃ T', mX8_listRingsBy_61_dO_37 (RX8_listRings g) ((cM M p s : Nat) : Int) ((pre.length : Nat) : Int) (p : Int) (s : Int) (n : Int) (O : Int) F (r : Int) T = some T' ∧ cds T' pre ∧ LR T' O Q (E ++ flF d r (fun r => if bel pre (s, r) = true then [] else rgE (cM M p) f (lss m) (n - s) (pre ++ [(s, r)]))) ∧ kR O Q T T' := by
      intro s s1 s2 m0 cs cw d
      induction d with
      | zero =>
        intro r F E T hr hF hT e84 hI hc hL hb hE
        obtain ⟨F, rfl⟩ : ∃ f', F = f' + 1 := ⟨F - 1, by omega⟩
        refine ⟨T, ?_, hc, by show LR T O Q (E ++ []); rw [List.append_nil]; exact hL, kR.rf⟩
        rw [mX8_listRingsBy_61_dO_37, gd_t (by omega), gd_t ⟨by omega, by omega⟩, if_pos (by omega)]
      | succ d ihd =>
        intro r F E T hr hF hT e84 hI hc hL hb hE
        obtain ⟨F, rfl⟩ : ∃ f', F = f' + 1 := ⟨F - 1, by omega⟩
        have hb0 : bel pre (s, r) = false := by
          cases hbb : bel pre (s, r) with
          | false => rfl
          | true => have := hb r hbb; omega
        have fe : flF (d + 1) r (fun r => if bel pre (s, r) = true then [] else rgE (cM M p) f (lss m) (n - s) (pre ++ [(s, r)])) = rgE (cM M p) f (lss m) (n - s) (pre ++ [(s, r)]) ++ flF d (r + 1) (fun r => if bel pre (s, r) = true then [] else rgE (cM M p) f (lss m) (n - s) (pre ++ [(s, r)])) := by
          show (if bel pre (s, r) = true then [] else rgE (cM M p) f (lss m) (n - s) (pre ++ [(s, r)])) ++ _ = _
          rw [if_neg (by rw [hb0]; exact Bool.false_ne_true)]
        rw [fe, List.length_append] at hE
        rw [fe]
        obtain ⟨T1, hT1⟩ : ∃ T1 : St, T1 = up (up T 62 ((pre.length : Nat) : Int) ((s : Int) * 1024 + (r : Int))) 61 2 (((pre.length : Nat) : Int) + 1) := ⟨_, rfl⟩
        have k1 : kR O Q T T1 := by rw [hT1]; exact (kR.rf.up62 hO hQ).up61 hO hQ
        have c1 : cds T1 (pre ++ [(s, r)]) := by rw [hT1]; exact cds_add hc
        have L1 : LR T1 O Q E := by
          rw [hT1]
          exact hL.of (by rw [up_n (by omega), up_n (by omega)]) (by rw [up_n (by omega), up_n (by omega)]) rfl
        have ln : (pre ++ [(s, r)]).length = pre.length + 1 := by rw [List.length_append, List.length_singleton]
        have sm' : smL' (pre ++ [(s, r)]) := fun x hx => by
          rcases List.mem_append.mp hx with e | e
          · exact sm x e
          · rw [List.mem_singleton] at e; subst e; exact ⟨by show s ≤ 7; omega, by show r ≤ 1023; omega⟩
        obtain ⟨l1, l2⟩ := lss_b m1 (show m ≤ 7 by
          rcases Int.lt_or_le (nuM M p) 0 with z | z
          · have := hm' z; omega
          · have := hm z; omega) m0
        obtain ⟨T2, t1, t2, t3, t4⟩ := ih (n - s) (lss m) (pre ++ [(s, r)]) E g T1 (by omega) (by omega) (ok.app s1 (by omega)) sm' (by rw [tot_1]; omega) (fun _ e => by have := congrArg List.length e; rw [ln, List.length_nil] at this; omega) (fun z => by have := hm z; rw [ln]; unfold lss; rw [if_neg (by omega)]; omega) (fun z => by rw [hm' z]; rfl) l1 (k1.cor hT) ((k1.cell (by decide) (by decide) (by decide)).trans e84) ((k1.1 61 5 (by decide) (by decide) (by decide)).trans hI) c1 L1 (by omega) (fun z => by
          rw [z, rwW_0] at cw
          by_cases y : lss m ≤ 0
          · exact y
          · rw [if_neg y] at cw; exact absurd rfl cw)
        have k2 : kR O Q T (up T2 61 2 ((pre.length : Nat) : Int)) := (k1.trans t4).up61 hO hQ
        have L2 : LR (up T2 61 2 ((pre.length : Nat) : Int)) O Q (E ++ rgE (cM M p) f (lss m) (n - s) (pre ++ [(s, r)])) := t3.of (up_n (by omega)) (up_n (by omega)) rfl
        obtain ⟨T3, u1, u2, u3, u4⟩ := ihd (r + 1) F (E ++ rgE (cM M p) f (lss m) (n - s) (pre ++ [(s, r)])) (up T2 61 2 ((pre.length : Nat) : Int)) (by omega) (by omega) (k2.cor hT) ((k2.cell (by decide) (by decide) (by decide)).trans e84) ((k2.1 61 5 (by decide) (by decide) (by decide)).trans hI) (cds_pre t2) L2 (fun x hx => by have := hb x hx; omega) (by rw [List.length_append]; omega)
        refine ⟨T3, ?_, u2, by rw [← List.append_assoc]; exact u3, k2.trans u4⟩
        rw [mX8_listRingsBy_61_dO_37, gd_t (by omega), gd_t ⟨by omega, by omega⟩, if_neg (by omega), gd_t (by omega), nx_e, nx_e, ← hT1, show (n : Int) - (s : Int) = ((n - s : Nat) : Int) by omega]
        refine bdG1_e t1 t4.gle ?_ (((kR.rf (S := T2)).up61 hO hQ (v := ((pre.length : Nat) : Int))).trans u4).gle
        rw [nx_e]
        rw [show ((r + 1 : Nat) : Int) = (r : Int) + 1 by omega] at u1
        exact u1
    -- the things of one size, from a rank on
    have LBy : ∀ s r0 : Nat, 1 ≤ s → s ≤ n → m ≠ 0 → cM M p s ≤ 1000 → rwW (cM M p) (lss m) (n - s) ≠ 0 → ∀ (E : List (List (Nat × Nat))) (T : St), r0 ≤ 1023 → Cor T → T 84 = M → T 61 5 = ((chM M p : Nat) : Int) → cds T pre → LR T O Q E → (∀ x, bel pre (s, x) = true → x < r0) → E.length + (flF (cM M p s - r0) r0 (fun r => if bel pre (s, r) = true then [] else rgE (cM M p) f (lss m) (n - s) (pre ++ [(s, r)]))).length ≤ 200 → ∃ T', RX8_listRings (g + 1) 1 (p : Int) (s : Int) (r0 : Int) (n : Int) (O : Int) T = some T' ∧ cds T' pre ∧ LR T' O Q (E ++ flF (cM M p s - r0) r0 (fun r => if bel pre (s, r) = true then [] else rgE (cM M p) f (lss m) (n - s) (pre ++ [(s, r)]))) ∧ kR O Q T T' := by
      intro s r0 s1 s2 m0 cs cw E T r1 hT e84 hI hc hL hb hE
      obtain ⟨g4, p24, c2⟩ := gmS T hT e84
      obtain ⟨y, y1, y2, y3⟩ : ∃ y : Nat, mX0_of_40 T ((chM M p : Nat) : Int) (s : Int) = some (y : Int) ∧ y = cM M p s ∧ y ≤ HH := by
        have e84' := e84
        subst e84'
        obtain ⟨y, y1, y2, y3⟩ := e_of40 hT c2 (n := s) (by omega)
        refine ⟨y, y1, ?_, y3⟩
        rcases ev_to y2 with e | ⟨e1, e2⟩
        · exact e
        · have : CC ≤ cM (T 84) p s := e2
          rw [CC_eq] at this; omega
      have st : RX8_listRings (g + 1) 1 (p : Int) (s : Int) (r0 : Int) (n : Int) (O : Int) T = bX8_listRingsBy_61_dO (RX8_listRings g) T (p : Int) (s : Int) (r0 : Int) (n : Int) (O : Int) := by rw [RX8_listRings, if_neg (by decide), if_pos rfl]
      have fin : ∃ T', mX8_listRingsBy_61_dO_37 (RX8_listRings g) ((cM M p s : Nat) : Int) ((pre.length : Nat) : Int) (p : Int) (s : Int) (n : Int) (O : Int) FU (r0 : Int) T = some T' ∧ cds T' pre ∧ LR T' O Q (E ++ flF (cM M p s - r0) r0 (fun r => if bel pre (s, r) = true then [] else rgE (cM M p) f (lss m) (n - s) (pre ++ [(s, r)]))) ∧ kR O Q T T' := by
        by_cases v : r0 ≤ cM M p s
        · exact L147 s s1 s2 m0 cs cw (cM M p s - r0) r0 FU E T (by omega) (by unfold FU; omega) hT e84 hI hc hL hb hE
        · rw [show cM M p s - r0 = 0 by omega]
          refine ⟨T, ?_, hc, by show LR T O Q (E ++ []); rw [List.append_nil]; exact hL, kR.rf⟩
          rw [show FU = 1999999 + 1 from rfl, mX8_listRingsBy_61_dO_37, gd_t (by omega), gd_t ⟨by omega, by omega⟩, if_pos (by omega)]
      obtain ⟨T', t1, t2, t3, t4⟩ := fin
      refine ⟨T', ?_, t2, t3, t4⟩
      rw [st]
      unfold bX8_listRingsBy_61_dO
      refine entG_e ?_ t4.gle
      rw [nx_e, hc.1, gd_t (by omega), if_pos (by omega), hI, bd1_e y1, gd_t (by omega), nx_e, show min (1024 : Int) (y : Int) = ((cM M p s : Nat) : Int) by rw [← y2]; omega]
      exact bdG1_e t1 t4.gle rfl gle_rfl
    -- where the sizes begin
    obtain ⟨h1, h2, hh⟩ : ∃ h1 h2 : Nat, (h1 ≤ 7 ∧ h2 ≤ 1023) ∧ (if T61 : S 61 2 = 0 then (0 : Int) else S 62 0) = ((h1 * 1024 + h2 : Nat) : Int) ∧ ∀ x, bel pre x = true ↔ (x.1 < h1 ∨ (x.1 = h1 ∧ x.2 < h2)) := by
      cases pre with
      | nil =>
        refine ⟨0, 0, ⟨by omega, by omega⟩, ?_, fun x => ?_⟩
        · rw [dif_pos (by rw [hc.1]; rfl)]; rfl
        · exact ⟨fun h => (by cases h), fun h => (by omega)⟩
      | cons a pre =>
        have sa := sm a (List.mem_cons_self ..)
        refine ⟨a.1, a.2, ⟨sa.1, sa.2⟩, ?_, fun x => plt_i⟩
        rw [dif_neg (by rw [hc.1, List.length_cons]; omega)]
        exact hc.at (i := 0) (by rw [List.length_cons]; omega)
    obtain ⟨⟨hh1, hh2⟩, hz5, hbel⟩ := hh
    have z5e : (gd (inI (S 61 2)) <| if S 61 2 = 0 then some (0 : Int) else some (S 62 0)) = some ((h1 * 1024 + h2 : Nat) : Int) := by
      rw [gd_t (by rw [hc.1]; omega)]
      by_cases y : S 61 2 = 0
      · rw [dif_pos y] at hz5; rw [if_pos y, hz5]
      · rw [dif_neg y] at hz5; rw [if_neg y, hz5]
    have L64 : ∀ (d i F : Nat) (E : List (List (Nat × Nat))) (T : St), i + d = n → d < F → h1 ≤ i + 1 → Cor T → T 84 = M → T 61 5 = ((chM M p : Nat) : Int) → cds T pre → LR T O Q E → E.length + (flF d i (fun i => if m = 0 then [] else rgT (cM M p) f m n pre (i + 1))).length ≤ 200 → ∃ T', mX8_listRings_61_dO_48 (RX8_listRings (g + 1)) ((h1 * 1024 + h2 : Nat) : Int) (p : Int) (n : Int) (O : Int) F ((i : Int) + 1) T = some T' ∧ cds T' pre ∧ LR T' O Q (E ++ flF d i (fun i => if m = 0 then [] else rgT (cM M p) f m n pre (i + 1))) ∧ kR O Q T T' := by
      intro d
      induction d with
      | zero =>
        intro i F E T hi hF hh hT e84 hI hc hL hE
        obtain ⟨F, rfl⟩ : ∃ f', F = f' + 1 := ⟨F - 1, by omega⟩
        refine ⟨T, ?_, hc, by show LR T O Q (E ++ []); rw [List.append_nil]; exact hL, kR.rf⟩
        rw [mX8_listRings_61_dO_48, gd_t (by omega), if_pos (by omega)]
      | succ d ihd =>
        intro i F E T hi hF hh hT e84 hI hc hL hE
        obtain ⟨F, rfl⟩ : ∃ f', F = f' + 1 := ⟨F - 1, by omega⟩
        have fe : flF (d + 1) i (fun i => if m = 0 then [] else rgT (cM M p) f m n pre (i + 1)) = (if m = 0 then [] else rgT (cM M p) f m n pre (i + 1)) ++ flF d (i + 1) (fun i => if m = 0 then [] else rgT (cM M p) f m n pre (i + 1)) := rfl
        rw [fe, List.length_append] at hE
        obtain ⟨x, x1, x2, x3⟩ := rl T (i + 1) hT e84 hc (by omega) (by omega)
        have x4 := HH_in x3
        obtain ⟨g4, p24, c2⟩ := gmS T hT e84
        rw [show ((i + 1 : Nat) : Int) = (i : Int) + 1 by omega] at x1
        by_cases z : x = 0
        · have e0 : (if m = 0 then [] else rgT (cM M p) f m n pre (i + 1)) = [] := by
            by_cases m0 : m = 0
            · rw [if_pos m0]
            · rw [if_neg m0]
              exact if_pos (Or.inr ((x2.mp z).resolve_left m0))
          rw [e0, List.length_nil] at hE
          obtain ⟨T', t1, t2, t3, t4⟩ := ihd (i + 1) F E T (by omega) (by omega) (by omega) hT e84 hI hc hL (by omega)
          refine ⟨T', ?_, t2, by rw [fe, e0, List.nil_append]; exact t3, t4⟩
          rw [mX8_listRings_61_dO_48, gd_t (by omega), if_neg (by omega), gd_t (by omega), bd1_e x1, gd_t (by omega), if_pos (by omega)]
          rw [show ((i + 1 : Nat) : Int) = (i : Int) + 1 by omega] at t1
          exact t1
        · have m0 : m ≠ 0 := fun w => z (x2.mpr (Or.inl w))
          have cw : rwW (cM M p) (lss m) (n - (i + 1)) ≠ 0 := fun w => z (x2.mpr (Or.inr w))
          have cs := hfew pre m n (i + 1) ok hp' hm hm' (by omega) (by omega) m0 cw
          have eT : (if m = 0 then [] else rgT (cM M p) f m n pre (i + 1)) = flF (cM M p (i + 1) - (if i + 1 = h1 then h2 else 0)) (if i + 1 = h1 then h2 else 0) (fun r => if bel pre (i + 1, r) = true then [] else rgE (cM M p) f (lss m) (n - (i + 1)) (pre ++ [(i + 1, r)])) := by
            rw [if_neg m0]
            by_cases c0 : cM M p (i + 1) = 0
            · rw [c0, Nat.zero_sub]
              exact if_pos (Or.inl c0)
            · rw [show rgT (cM M p) f m n pre (i + 1) = flat (cM M p (i + 1)) (fun r => if bel pre (i + 1, r) = true then [] else rgE (cM M p) f (lss m) (n - (i + 1)) (pre ++ [(i + 1, r)])) from if_neg (by omega), flat_F]
              by_cases w : i + 1 = h1
              · rw [if_pos w]
                by_cases v : h2 ≤ cM M p (i + 1)
                · have := flF_skip (g := fun r => if bel pre (i + 1, r) = true then [] else rgE (cM M p) f (lss m) (n - (i + 1)) (pre ++ [(i + 1, r)])) h2 (cM M p (i + 1) - h2) 0 (fun j _ hj => if_pos ((hbel _).mpr (Or.inr ⟨w, by show j < h2; omega⟩)))
                  rw [show h2 + (cM M p (i + 1) - h2) = cM M p (i + 1) by omega, Nat.zero_add] at this
                  exact this
                · rw [show cM M p (i + 1) - h2 = 0 by omega]
                  exact flF_nil _ _ (fun j _ hj => if_pos ((hbel _).mpr (Or.inr ⟨w, by show j < h2; omega⟩)))
              · rw [if_neg w, Nat.sub_zero]
          rw [eT] at hE
          obtain ⟨T1, t1, t2, t3, t4⟩ := LBy (i + 1) (if i + 1 = h1 then h2 else 0) (by omega) (by omega) m0 (by omega) cw E T (by split <;> omega) hT e84 hI hc hL (fun x hx => by
            rcases (hbel _).mp hx with w | ⟨w1, w2⟩
            · have : i + 1 < h1 := w
              omega
            · have e1 : i + 1 = h1 := w1
              rw [if_pos e1]; exact w2) (by omega)
          obtain ⟨T2, u1, u2, u3, u4⟩ := ihd (i + 1) F _ T1 (by omega) (by omega) (by omega) (t4.cor hT) ((t4.cell (by decide) (by decide) (by decide)).trans e84) ((t4.1 61 5 (by decide) (by decide) (by decide)).trans hI) t2 t3 (by rw [List.length_append]; omega)
          refine ⟨T2, ?_, u2, by rw [fe, eT, ← List.append_assoc]; exact u3, t4.trans u4⟩
          rw [mX8_listRings_61_dO_48, gd_t (by omega), if_neg (by omega), gd_t (by omega), bd1_e x1, gd_t (by omega), if_neg (by omega)]
          rw [show ((i + 1 : Nat) : Int) = (i : Int) + 1 by omega] at t1 u1
          by_cases w : i + 1 = h1
          · rw [if_pos w] at t1
            rw [if_pos (by omega), show ((h1 * 1024 + h2 : Nat) : Int) % 1024 = (h2 : Int) by omega]
            exact bdG1_e t1 t4.gle u1 u4.gle
          · rw [if_neg w] at t1
            rw [if_neg (by omega)]
            exact bdG1_e t1 t4.gle u1 u4.gle
    have st : RX8_listRings (g + 1 + 1) 0 (p : Int) (n : Int) (O : Int) 0 0 S = bX8_listRings_61_dO (RX8_listRings (g + 1)) S (p : Int) (n : Int) (O : Int) := by rw [RX8_listRings, if_pos rfl]
    have eE : rgE (cM M p) (f + 1) m n pre = flF n 0 (fun i => if m = 0 then [] else rgT (cM M p) f m n pre (i + 1)) := by
      by_cases m0 : m = 0
      · rw [m0, rgE_z (by omega)]
        exact (flF_nil _ _ (fun _ _ _ => if_pos rfl)).symm
      · rw [rgE_s (by omega) m0, flat_F]
        exact congrArg (flF n 0) (funext fun i => (if_neg m0).symm)
    -- below the first size nothing stands
    have eS : ∀ a, a ≤ n → a + 1 ≤ h1 ∨ a = 0 → flF n 0 (fun i => if m = 0 then [] else rgT (cM M p) f m n pre (i + 1)) = flF (n - a) a (fun i => if m = 0 then [] else rgT (cM M p) f m n pre (i + 1)) := by
      intro a an ha
      have := flF_skip (g := fun i => if m = 0 then [] else rgT (cM M p) f m n pre (i + 1)) a (n - a) 0 (fun i _ hi => by
        by_cases m0 : m = 0
        · exact if_pos m0
        · show (if m = 0 then [] else rgT (cM M p) f m n pre (i + 1)) = []
          rw [if_neg m0]
          unfold rgT
          by_cases y : cM M p (i + 1) = 0 ∨ rwW (cM M p) (lss m) (n - (i + 1)) = 0
          · rw [if_pos y]
          · rw [if_neg y, flat_F]
            exact flF_nil _ _ (fun j _ _ => if_pos ((hbel _).mpr (Or.inl (by show i + 1 < h1; omega)))))
      rw [show a + (n - a) = n by omega, Nat.zero_add] at this
      exact this
    have fin : ∀ a, a ≤ n → a + 1 ≤ h1 ∨ a = 0 → h1 ≤ a + 1 ∨ a = n → ((max 1 (((h1 * 1024 + h2 : Nat) : Int) / 1024) = (a : Int) + 1) ∨ (a = n ∧ (n : Int) < max 1 (((h1 * 1024 + h2 : Nat) : Int) / 1024))) → ∃ S', RX8_listRings (g + 1 + 1) 0 (p : Int) (n : Int) (O : Int) 0 0 S = some S' ∧ cds S' pre ∧ LR S' O Q (E0 ++ rgE (cM M p) (f + 1) m n pre) ∧ kR O Q S S' := by
      intro a an ha hb hx
      rw [eE, eS a an ha] at hE ⊢
      rw [st]
      unfold bX8_listRings_61_dO
      by_cases w : max 1 (((h1 * 1024 + h2 : Nat) : Int) / 1024) = (a : Int) + 1
      · obtain ⟨S', t1, t2, t3, t4⟩ := L64 (n - a) a FU E0 S (by omega) (by unfold FU; omega) (by omega) hC e84 hI hc hL hE
        refine ⟨S', entG_e ?_ t4.gle, t2, t3, t4⟩
        rw [gd_t (by omega), if_neg (by omega), bd1_e z5e, gd_t (by omega), gd_t (by omega), w, nx_e]
        exact bdG1_e t1 t4.gle rfl gle_rfl
      · have an' : a = n := by omega
        refine ⟨S, entG_e ?_ gle_rfl, hc, ?_, kR.rf⟩
        · rw [gd_t (by omega), if_neg (by omega), bd1_e z5e, gd_t (by omega), gd_t (by omega), nx_e]
          refine bdG1_e (a := S) ?_ gle_rfl rfl gle_rfl
          rw [show FU = 1999999 + 1 from rfl, mX8_listRings_61_dO_48, gd_t (by omega), if_pos (by omega)]
        · rw [an', Nat.sub_self]
          show LR S O Q (E0 ++ [])
          rw [List.append_nil]; exact hL
    rcases Nat.lt_or_ge h1 2 with y | y
    · exact fin 0 (by omega) (Or.inr rfl) (Or.inl (by omega)) (Or.inl (by omega))
    · by_cases w : h1 - 1 ≤ n
      · exact fin (h1 - 1) w (Or.inl (by omega)) (Or.inl (by omega)) (Or.inl (by omega))
      · exact fin n (Nat.le_refl _) (Or.inl (by omega)) (Or.inr rfl) (Or.inr ⟨rfl, by omega⟩)
