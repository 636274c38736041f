/-! the reference goes through a thing -/
theorem e_behind {T : St} {M : Int → Int} {p n : Nat} (w : WF M) (hT : cnt M (-1) T) (hp : (p : Int) < M 2) (hn : n ≤ 7) : mX12_behind T (p : Int) (n : Int) = some ((bhM M p n : Nat) : Int) := by
  obtain ⟨e84, -, hY, -⟩ := hT
  have hM2 := w.2.2.1
  have ok := (w.2.2.2.1 p hp).2.1
  unfold mX12_behind
  rw [e84, gd_t (by omega), gd_t (by omega)]
  rcases ok with q | q
  · rw [if_neg (by omega), gd_t (by omega), bh_l (by omega)]
    by_cases z : n = 0
    · rw [if_pos (by omega), if_pos z]; rfl
    · rw [if_neg (by omega), if_neg z]; rfl
  · obtain ⟨q', hq'⟩ : ∃ q' : Nat, M (96 + (p : Int)) = (q' : Int) := ⟨(M (96 + (p : Int))).toNat, by omega⟩
    have b := pl_lt2 (q := q') (s := n) (i := 0) (N := 24) (B := 1536) (by omega) hn (by omega) (by decide)
    rw [if_pos (by omega), hq', bd1_e e_place, show ((q' : Int) * 8 + (n : Int)) * 8 + 0 = ((pl q' n 0 : Nat) : Int) by unfold pl; omega, gd_t (by omega), (hY q' n 0 (by omega) hn (by omega)).2, bh_n (by omega), hq']
    rfl
theorem bh_le {S : St} (h : Cor S) {p n : Nat} (hp : (p : Int) < S 84 2) (hn : n ≤ 7) : bhM (S 84) p n ≤ 1000000000000 := by
  have ok := (h.wf.2.2.2.1 p hp).2.1
  rcases ok with q | q
  · rw [bh_l (by omega)]; split <;> omega
  · rw [bh_n (by omega)]
    exact h.rle' (by omega) hn
theorem e_pairs {S T : St} {p s n : Nat} (h : Cor S) (hT : cnt (S 84) (-1) T) (hp : (p : Int) < S 84 2) (hs : s ≤ n) (hn : n ≤ 7) : mX12_pairs T (p : Int) (s : Int) (n : Int) = some ((min CC (yM (S 84) p s * bhM (S 84) p (n - s)) : Nat) : Int) := by
  have w := h.wf
  have hM2 := w.2.2.1
  have hY := (hT.2.2.1 p s 0 hp (by omega) (by omega)).1
  have b := pl_lt2 (q := p) (s := s) (i := 0) (N := 30) (B := 1920) (by omega) (by omega) (by omega) (by decide)
  have y1 := h.yle hp (n := s) (by omega)
  have y2 := bh_le h hp (n := n - s) (by omega)
  unfold mX12_pairs
  rw [bd1_e e_place, show ((p : Int) * 8 + (s : Int)) * 8 + 0 = ((pl p s 0 : Nat) : Int) by unfold pl; omega, gd_t (by omega), show (n : Int) - (s : Int) = ((n - s : Nat) : Int) by omega, bd1_e (e_behind w hT hp (by omega)), hY, show YP (S 84) (-1) (pl p s 0) = yM (S 84) p s from rfl, bd1_e (e_mulK (by omega) (by omega))]
theorem e_ge178 {S T : St} {rec : Nat → Int → Int → Int → Int → St → Option St} {p n : Nat} {a4 : Int} (h : Cor S) (hT : cnt (S 84) (-1) T) (hp : (p : Int) < S 84 2) (hn : n ≤ 7) : ∀ (d s v f : Nat), s + d = n + 1 → d < f → v < CC → v < sm d (fun i => (fun s => yM (S 84) p s * bhM (S 84) p (n - s)) (s + i)) → ∃ t w, pkS (fun s => yM (S 84) p s * bhM (S 84) p (n - s)) d s v = (t, w) ∧ mX12_goesExpr_178 rec T (p : Int) (n : Int) a4 f (s : Int) (v : Int) = some ((w : Int), (t : Int)) := by
  intro d
  induction d with
  | zero => intro s v f _ _ _ h; exact absurd h (Nat.not_lt_zero _)
  | succ d ih =>
    intro s v f hs hf hv hsm
    obtain ⟨f, rfl⟩ : ∃ f', f = f' + 1 := ⟨f - 1, by omega⟩
    have vC : v < 1000000000000 := hv
    have cm := mCC_le (x := yM (S 84) p s * bhM (S 84) p (n - s))
    have ep := e_pairs h hT hp (s := s) (n := n) (by omega) hn
    by_cases z : v < yM (S 84) p s * bhM (S 84) p (n - s)
    · refine ⟨s, v, pq_lt (g := fun s => yM (S 84) p s * bhM (S 84) p (n - s)) z, ?_⟩
      rw [mX12_goesExpr_178, bd1_e ep, gd_t ⟨by omega, by omega⟩, if_pos (by have := (lt_min (x := yM (S 84) p s * bhM (S 84) p (n - s)) hv).mpr z; omega)]
    · have hsm := Nat.lt_of_lt_of_eq hsm (sm_sh (g := fun s => yM (S 84) p s * bhM (S 84) p (n - s)) (s := s) d)
      try dsimp only at hsm
      have mz : min CC (yM (S 84) p s * bhM (S 84) p (n - s)) = yM (S 84) p s * bhM (S 84) p (n - s) := by omega
      obtain ⟨t, w, a1, a2⟩ := ih (s + 1) (v - yM (S 84) p s * bhM (S 84) p (n - s)) f (by omega) (by omega) (by omega) (by show _ < sm d (fun i => yM (S 84) p (s + 1 + i) * bhM (S 84) p (n - (s + 1 + i))); omega)
      refine ⟨t, w, (pq_ge (g := fun s => yM (S 84) p s * bhM (S 84) p (n - s)) z).trans a1, ?_⟩
      rw [mX12_goesExpr_178, bd1_e ep, gd_t ⟨by omega, by omega⟩, if_neg (by have := (lt_min (x := yM (S 84) p s * bhM (S 84) p (n - s)) hv); omega), bd1_e ep, nx_e, mz, show (v : Int) - ((yM (S 84) p s * bhM (S 84) p (n - s) : Nat) : Int) = ((v - yM (S 84) p s * bhM (S 84) p (n - s) : Nat) : Int) by omega]
      rw [show ((s + 1 : Nat) : Int) = (s : Int) + 1 by omega] at a2
      exact a2
/-- which term -/
theorem e_ge18 {S T : St} {rec : Nat → Int → Int → Int → Int → St → Option St} {e n : Nat} {a4 lo : Int} (h : Cor S) (hT : cnt (S 84) (-1) T) (he : e < 30) (hlo : 0 ≤ lo) (hE : okE (S 84) lo e) (hn : n ≤ 7) : ∀ (d t v f : Nat), t + d = cnE (S 84) e → d < f → v < CC → v < sm d (fun i => (fun t => byM (S 84) e t n) (t + i)) → ∃ t' w, pkS (fun t => byM (S 84) e t n) d t v = (t', w) ∧ mX12_goesExpr_18 rec T (e : Int) (n : Int) a4 f (v : Int) (tlM (S 84) e t) (t : Int) = some ((t' : Int), tlM (S 84) e t', (w : Int)) := by
  have w := h.wf
  have hM2 := w.2.2.1
  have oe := hE.1
  intro d
  induction d with
  | zero => intro t v f _ _ _ h; exact absurd h (Nat.not_lt_zero _)
  | succ d ih =>
    intro t v f ht hf hv hsm
    obtain ⟨f, rfl⟩ : ∃ f', f = f' + 1 := ⟨f - 1, by omega⟩
    have vC : v < 1000000000000 := hv
    have tl : (t : Int) < S 84 (198 + (e : Int)) := by unfold cnE at ht; omega
    obtain ⟨q1, q2, q3⟩ := hE.2.1 t tl
    obtain ⟨p, hp⟩ : ∃ p : Nat, fpM (S 84) e t = (p : Int) := ⟨(fpM (S 84) e t).toNat, by omega⟩
    have hp' : T 84 (120 + tlM (S 84) e t) = (p : Int) := by rw [hT.1]; exact hp
    have b := pl_lt2 (q := p) (s := n) (i := 0) (N := 24) (B := 1536) (by omega) hn (by omega) (by decide)
    have hR : T 91 ((pl p n 0 : Nat) : Int) = ((rM (S 84) p n : Nat) : Int) := (hT.2.2.1 p n 0 (by omega) hn (by omega)).2
    have hRl := h.rle' (p := p) (n := n) (by omega) hn
    have io := e_isOff (S := T) (e := e) (t := t) (by rw [hT.1]; exact w) he (by omega)
    rw [hT.1] at io
    have eb : byM (S 84) e t n = if offM (S 84) e t then 0 else rM (S 84) p n := by
      unfold byM
      rw [hp]; rfl
    have st : mX12_goesExpr_18 rec T (e : Int) (n : Int) a4 (f + 1) (v : Int) (tlM (S 84) e t) (t : Int) = if v < byM (S 84) e t n then some ((t : Int), tlM (S 84) e t, (v : Int)) else mX12_goesExpr_18 rec T (e : Int) (n : Int) a4 f ((v : Int) - ((byM (S 84) e t n : Nat) : Int)) (tlM (S 84) e (t + 1)) ((t : Int) + 1) := by
      rw [mX12_goesExpr_18, bd1_e io]
      cases ho : offM (S 84) e t with
      | true =>
        rw [ho, if_pos rfl] at eb
        rw [if_pos rfl, eb]
        rw [bd1_e (show (gd (inI (1 : Int)) <| if (1 : Int) = 0 then (gd (0 ≤ (120 + tlM (S 84) e t) ∧ (120 + tlM (S 84) e t) < 228) <| bd1 (mX12_place (T 84 (120 + tlM (S 84) e t)) (n : Int) 0) fun r_91 => gd (0 ≤ r_91 ∧ r_91 < 1536) <| gd ((inL (v : Int)) ∧ (inL (T 91 r_91))) <| if (v : Int) < (T 91 r_91) then (some (1 : Nat)) else (some 0)) else (some 0)) = some 0 by rw [gd_t (by decide), if_neg (by decide)]), if_pos rfl]
        rw [bd1_e io, ho, if_pos rfl, bd1_e (show (gd (inI (1 : Int)) <| if (1 : Int) = 0 then (gd (0 ≤ (120 + tlM (S 84) e t) ∧ (120 + tlM (S 84) e t) < 228) <| bd1 (mX12_place (T 84 (120 + tlM (S 84) e t)) (n : Int) 0) fun r_84 => gd (0 ≤ r_84 ∧ r_84 < 1536) <| some ((T 91 r_84))) else (some (0))) = some 0 by rw [gd_t (by decide), if_neg (by decide)]), nx_e, gd_t (by omega), nx_e, hT.1, if_neg (show ¬ v < 0 from Nat.not_lt_zero v)]
        rfl
      | false =>
        rw [ho, if_neg Bool.false_ne_true] at eb
        rw [if_neg Bool.false_ne_true, eb]
        rw [bd1_e (show (gd (inI (0 : Int)) <| if (0 : Int) = 0 then (gd (0 ≤ (120 + tlM (S 84) e t) ∧ (120 + tlM (S 84) e t) < 228) <| bd1 (mX12_place (T 84 (120 + tlM (S 84) e t)) (n : Int) 0) fun r_91 => gd (0 ≤ r_91 ∧ r_91 < 1536) <| gd ((inL (v : Int)) ∧ (inL (T 91 r_91))) <| if (v : Int) < (T 91 r_91) then (some (1 : Nat)) else (some 0)) else (some 0)) = some (if v < rM (S 84) p n then 1 else 0) by
          rw [gd_t (by decide), if_pos rfl, gd_t (by omega), hp', bd1_e e_place, show ((p : Int) * 8 + (n : Int)) * 8 + 0 = ((pl p n 0 : Nat) : Int) by unfold pl; omega, gd_t (by omega), hR, gd_t ⟨by omega, by omega⟩]
          by_cases z : v < rM (S 84) p n
          · rw [if_pos (by omega), if_pos z]
          · rw [if_neg (by omega), if_neg z])]
        by_cases z : v < rM (S 84) p n
        · rw [if_pos z, if_neg (by decide), if_pos z]
        · rw [if_neg z, if_pos rfl, if_neg z, bd1_e io, ho, if_neg Bool.false_ne_true, bd1_e (show (gd (inI (0 : Int)) <| if (0 : Int) = 0 then (gd (0 ≤ (120 + tlM (S 84) e t) ∧ (120 + tlM (S 84) e t) < 228) <| bd1 (mX12_place (T 84 (120 + tlM (S 84) e t)) (n : Int) 0) fun r_84 => gd (0 ≤ r_84 ∧ r_84 < 1536) <| some ((T 91 r_84))) else (some (0))) = some ((rM (S 84) p n : Nat) : Int) by
            rw [gd_t (by decide), if_pos rfl, gd_t (by omega), hp', bd1_e e_place, show ((p : Int) * 8 + (n : Int)) * 8 + 0 = ((pl p n 0 : Nat) : Int) by unfold pl; omega, gd_t (by omega), hR]), nx_e, gd_t (by omega), nx_e, hT.1]
          rfl
    by_cases z : v < byM (S 84) e t n
    · exact ⟨t, v, pq_lt (g := fun t => byM (S 84) e t n) z, by rw [st, if_pos z]⟩
    · have hsm := Nat.lt_of_lt_of_eq hsm (sm_sh (g := fun t => byM (S 84) e t n) (s := t) d)
      try dsimp only at hsm
      obtain ⟨t', u, a1, a2⟩ := ih (t + 1) (v - byM (S 84) e t n) f (by omega) (by omega) (by omega) (by show _ < sm d (fun i => byM (S 84) e (t + 1 + i) n); omega)
      refine ⟨t', u, (pq_ge (g := fun t => byM (S 84) e t n) z).trans a1, ?_⟩
      rw [st, if_neg z, show (v : Int) - ((byM (S 84) e t n : Nat) : Int) = ((v - byM (S 84) e t n : Nat) : Int) by omega]
      rw [show ((t + 1 : Nat) : Int) = (t : Int) + 1 by omega] at a2
      exact a2
/-- what finding the things of a sequence does -/
theorem e_finds {S T : St} {p n v base : Nat} (h : Cor S) (hT : cnt (S 84) (-1) T) (hp : (p : Int) < S 84 2) (hs : isSq (S 84) p) (hn : (n : Int) ≤ S 84 1) (hv : v < yM (S 84) p n) (h2 : yM (S 84) p n ≤ 200) (hb : T 83 31 = (base : Int)) (hb2 : base ≤ 500) (h32 : T 83 32 = (v : Int)) : ∃ T', (gd (inI (S 84 (24 + (p : Int)))) <| if S 84 (24 + (p : Int)) = 3 then (bd1 (mX12_findsRow T (S 84 (72 + (p : Int))) (n : Int) (nuM (S 84) p)) fun S_63 => some (S_63)) else (if S 84 (24 + (p : Int)) = 6 then (bd2 (mX12_seeks T (S 84 (72 + (p : Int))) (base : Int) (n : Int) (nuM (S 84) p)) fun r_60 S_61 => some (S_61)) else (if S 84 (24 + (p : Int)) = 5 then (bd1 (mX12_findsBag T (S 84 (72 + (p : Int))) (n : Int) (nuM (S 84) p) 1) fun S_58 => some (S_58)) else (bd1 (mX12_findsBag T (S 84 (72 + (p : Int))) (n : Int) (nuM (S 84) p) 0) fun S_56 => some (S_56))))) = some T' ∧ els T' base (sqI (S 84) p n v) ∧ T' 83 31 = ((base + (sqI (S 84) p n v).length : Nat) : Int) ∧ (∀ j : Nat, j < base → T' 97 (j : Int) = T 97 (j : Int) ∧ T' 98 (j : Int) = T 98 (j : Int)) ∧ kept [97, 98] [(83, 31), (83, 32)] T T' := by
  have w := h.wf
  have hM1 := w.2.1
  have hM2 := w.2.2.1
  have nu := nu_ge w hp hs
  have h6 := (w.2.2.2.1 p hp).2.2.2.2.2 hs
  have hs' := hs
  unfold isSq at hs'
  have ec : S 84 (72 + (p : Int)) = ((chM (S 84) p : Nat) : Int) := by unfold chM; omega
  have c30 : chM (S 84) p < 30 := by unfold chM; omega
  have hY : hasC T (chM (S 84) p) (cM (S 84) p) := fun s hs => ⟨(hT.2.2.1 _ s 0 (by omega) hs (by omega)).1, h.yle (by omega) hs⟩
  have hvC : v < CC := by rw [CC_eq]; omega
  rw [gd_t (by omega), ec]
  unfold sqI
  by_cases t3 : S 84 (24 + (p : Int)) = 3
  · rw [if_pos t3, if_pos t3]
    have e := y_seq h hp (n := n) (by omega) hs (by omega)
    unfold sqN at e
    rw [if_pos t3] at e
    have e' : yM (S 84) p n = rwW (cM (S 84) p) (nuM (S 84) p) n := by
      rcases ev_to e with q | ⟨q, _⟩
      · exact q
      · rw [CC_eq] at q; omega
    obtain ⟨T', t1, t2, t4, t5, t6⟩ := e_findsRow c30 7 n v base FU (nuM (S 84) p) T hY (by omega) (by omega) nu.1 nu.2.2 (by unfold FU; omega) h32 hvC hb (by omega) (by rw [← e']; exact hv)
    refine ⟨T', ?_, t2, t4, t5, t6⟩
    unfold mX12_findsRow
    rw [bd1_e (show (bd1 (mX12_findsRow_6 ((chM (S 84) p : Nat) : Int) FU (nuM (S 84) p) (n : Int) T) fun S_4 => some S_4) = some T' by rw [bd1_e t1])]
  · rw [if_neg t3, if_neg t3]
    by_cases t6 : S 84 (24 + (p : Int)) = 6
    · rw [if_pos t6, if_pos t6]
      have e := y_ring h hp (n := n) (by omega) t6
      have e' : yM (S 84) p n = (rgM (S 84) p n).length := by
        rcases ev_to e with q | ⟨q, _⟩
        · exact q
        · rw [CC_eq] at q; omega
      rw [e'] at hv h2
      have ex : (rgM (S 84) p n)[v]? = some (((rgM (S 84) p n)[v]?).getD []) := by
        rw [List.getElem?_eq_getElem hv]; rfl
      have sk := e_seeks (base := base) (n0 := n) (m0 := nuM (S 84) p) c30 (by omega) ⟨nu.1, nu.2.2⟩ (by omega) (ring_few (by omega) nu h2) 7 n (nuM (S 84) p) [] v 12 T (by omega) (by omega) (fun x hx => (by cases hx)) (fun x hx => (by cases hx)) (by show 0 + n = n; omega) (fun z => ⟨by rw [List.length_nil]; omega, z⟩) (fun z => by omega) nu.1 hY trivial (by rw [hb]; rfl) h32 (by omega)
      obtain ⟨T', t1, t2, t4, t5, t7⟩ := sk.1 _ ex
      refine ⟨T', ?_, t2, t4, t5, t7⟩
      rw [bd2_e (show mX12_seeks T ((chM (S 84) p : Nat) : Int) (base : Int) (n : Int) (nuM (S 84) p) = some (1, T') from t1)]
    · rw [if_neg t6, if_neg t6]
      have e := y_seq h hp (n := n) (by omega) hs t6
      unfold sqN at e
      rw [if_neg t3] at e
      have e' : yM (S 84) p n = bgN (cM (S 84) p) (S 84 (24 + (p : Int)) == 5) n (nuM (S 84) p) n (cM (S 84) p n) := by
        rcases ev_to e with q | ⟨q, _⟩
        · exact q
        · rw [CC_eq] at q; omega
      have bag : ∀ o : Int, (o = 0 ∨ o = 1) → (o == 1) = (S 84 (24 + (p : Int)) == 5) → ∃ T', mX12_findsBag T ((chM (S 84) p : Nat) : Int) (n : Int) (nuM (S 84) p) o = some T' ∧ fdn T T' base (bgL (cM (S 84) p) (S 84 (24 + (p : Int)) == 5) 7 (nuM (S 84) p) n v) := by
        intro o ho hob
        obtain ⟨T', t1, t2⟩ := e_findsBag (c := cM (S 84) p) (o := o) c30 ho 7 n v base FU 8 0 (nuM (S 84) p) T hY (by omega) (by omega) nu.1 nu.2.2 (by unfold FU; omega) h32 hb (by omega) ⟨by omega, by omega, by omega, fun z => by omega⟩ (fun z => by
          rw [hob, rs_top ⟨z, by omega⟩ nu.1 nu.2.1, ← e']
          exact ⟨nu.2.1, hv, by omega⟩)
        rw [hob] at t2
        refine ⟨T', ?_, t2⟩
        unfold mX12_findsBag
        rw [bd1_e (show mX12_findsBag_13 ((chM (S 84) p : Nat) : Int) o FU 0 8 (nuM (S 84) p) (n : Int) T = _ from t1)]
      by_cases t5 : S 84 (24 + (p : Int)) = 5
      · obtain ⟨T', t1, t2⟩ := bag 1 (Or.inr rfl) (by rw [t5]; rfl)
        refine ⟨T', ?_, t2⟩
        rw [if_pos t5, bd1_e t1]
      · obtain ⟨T', t1, t2⟩ := bag 0 (Or.inl rfl) (by rw [show S 84 (24 + (p : Int)) = 4 by omega]; rfl)
        refine ⟨T', ?_, t2⟩
        rw [if_neg t5, bd1_e t1]
