/-! the class: a bag found by its number -/
theorem sm_pre {f : Nat → Nat} {a b : Nat} (h : a ≤ b) : sm a f ≤ sm b f := by
  obtain ⟨d, rfl⟩ : ∃ d, b = a + d := ⟨b - a, by omega⟩
  rw [sm_add]; exact Nat.le_add_right _ _
/-- where the number leads: the greatest thing's size and rank, and what lies ahead of it -/
theorem bg_pk {c : Nat → Nat} {once : Bool} {m : Int} {n v : Nat} (hn : 1 ≤ n) (m1 : -1 ≤ m) (m0 : m ≠ 0) (hv : v < bgN c once n m n (c n)) : ∃ t w r u, pkS (fun s => sm (c s) (bgG c once m n s)) n 1 v = (t, w) ∧ pkS (bgG c once m n t) (c t) 0 w = (r, u) ∧ (1 ≤ t ∧ t ≤ n ∧ r < c t ∧ u < bgG c once m n t r) ∧ (∀ s, 1 ≤ s → s < t → bgN c once s m n (c s) ≤ v) ∧ v < bgN c once t m n (c t) ∧ bgN c once t m n r + u = v ∧ v < bgN c once t m n (r + 1) := by
  rw [bg_tot hn m1 m0 n (Nat.le_refl _)] at hv
  obtain ⟨t, w, a1, a2, a3, a4, a5⟩ := pk_ok (g := fun s => sm (c s) (bgG c once m n s)) n 1 v hv
  have e0 : sm (c t) (fun i => bgG c once m n t (0 + i)) = sm (c t) (bgG c once m n t) := sm_congr fun i _ => by rw [Nat.zero_add]
  obtain ⟨r, u, b1, b2, b3, b4, b5⟩ := pk_ok (g := bgG c once m n t) (c t) 0 w (by rw [e0]; exact a4)
  obtain ⟨s, rfl⟩ : ∃ s, t = s + 1 := ⟨t - 1, by omega⟩
  rw [Nat.add_sub_cancel] at a5
  have e1 : sm (r - 0) (fun i => bgG c once m n (s + 1) (0 + i)) = sm r (bgG c once m n (s + 1)) := by rw [Nat.sub_zero]; exact sm_congr fun i _ => by rw [Nat.zero_add]
  rw [e1] at b5
  have hs : s + 1 ≤ n := by omega
  refine ⟨s + 1, w, r, u, a1, b1, ⟨by omega, by omega, by omega, b4⟩, fun x x1 x2 => ?_, ?_, ?_, ?_⟩
  · rw [bg_tot hn m1 m0 x (by omega)]
    exact Nat.le_trans (sm_pre (show x ≤ s by omega)) (by omega)
  · rw [bg_tot hn m1 m0 (s + 1) hs, sm_s, Nat.add_comm 1 s]
    try dsimp only at a4
    omega
  · rw [bg_sum hs m1 m0, bg_tot hn m1 m0 s (by omega)]
    omega
  · rw [bg_sum hs m1 m0, bg_tot hn m1 m0 s (by omega), sm_s]
    omega
theorem mB_lss {M : Int → Int} {p q : Nat} (h0 : mB M p q ≠ 0) (hq0 : M (48 + (p : Int)) = 0 → q = 0) : lss (mB M p q) = mB M p (q - 1) ∧ max 0 ((q : Int) - 1) = ((q - 1 : Nat) : Int) := by
  unfold mB lss at *
  by_cases z : M (48 + (p : Int)) = 0
  · have := hq0 z
    subst this
    rw [if_pos z]
    exact ⟨rfl, rfl⟩
  · rw [if_neg z] at h0
    rw [if_neg z, if_neg z, if_neg (by omega)]
    exact ⟨by omega, by omega⟩
theorem c_fb53 {p : Nat} {M : Int → Int} (hp : (p : Int) < M 2) (hs : isSq M p) (ty : M (24 + (p : Int)) = 4 ∨ M (24 + (p : Int)) = 5) (n1 : M (48 + (p : Int)) ≠ 1) : ∀ (k n v i f q : Nat) (S : St) (L : List (Nat × Nat)), Cor S → S 84 = M → S 61 5 = ((chM M p : Nat) : Int) → cds S L → L.length = i → n ≤ k → n + i ≤ 7 → (n : Int) ≤ M 1 → k < f → v ≤ 1000 → q ≤ lgM M p → (M (48 + (p : Int)) = 0 → q = 0) → (1 ≤ n → mB M p q ≠ 0 ∧ v < bgN (cM M p) (M (24 + (p : Int)) == 5) n (mB M p q) n (cM M p n)) → ∃ S' : St, mX8_findBag_53 (p : Int) f (i : Int) (v : Int) (n : Int) (q : Int) S = some S' ∧ cds S' (L ++ bgL (cM M p) (M (24 + (p : Int)) == 5) k (mB M p q) n v) ∧ kept [62] [(61, 2), (61, 5)] S S' := by
  intro k
  induction k with
  | zero =>
    intro n v i f q S L h e84 hI hL hl hk hn8 hn hf hv hq hq0 hsm
    obtain ⟨f, rfl⟩ : ∃ f', f = f' + 1 := ⟨f - 1, by omega⟩
    have : n = 0 := by omega
    subst this
    refine ⟨S, ?_, by rw [bgL_0, List.append_nil]; exact hL, kept.rf⟩
    rw [mX8_findBag_53, gd_t (by omega), if_neg (by omega), gd_t (by omega), if_pos (by omega)]
  | succ k ih =>
    intro n v i f q S L h e84 hI hL hl hk hn8 hn hf hv hq hq0 hsm
    obtain ⟨f, rfl⟩ : ∃ f', f = f' + 1 := ⟨f - 1, by omega⟩
    by_cases n0 : n = 0
    · subst n0
      refine ⟨S, ?_, by rw [bgL_0, List.append_nil]; exact hL, kept.rf⟩
      rw [mX8_findBag_53, gd_t (by omega), if_neg (by omega), gd_t (by omega), if_pos (by omega)]
    subst e84
    have w := h.wf
    have hM1 := w.2.1
    have lg := lgM_le w hp hs
    obtain ⟨g3, g4, g5, c24, p24, c2⟩ := gm_sq h hp hs
    obtain ⟨m0, hsm⟩ := hsm (by omega)
    have m1 : -1 ≤ mB (S 84) p q := by unfold mB; split <;> omega
    have hvC : v < CC := by rw [CC_eq]; omega
    obtain ⟨t, w', r, u, p1, p2, ⟨t1, t2, t3, t4⟩, p3, p4, p5, p6⟩ := bg_pk (by omega) m1 m0 hsm
    obtain ⟨em, em2⟩ := mB_lss m0 hq0
    have rv : r ≤ v + 7 := by
      have a := bgG_few (c := cM (S 84) p) (once := S 84 (24 + (p : Int)) == 5) (m := mB (S 84) p q) (n := n) (s := t) (may := r) (show 0 < bgN _ _ t _ (n - t) _ from Nat.lt_of_le_of_lt (Nat.zero_le _) t4) (by omega)
      obtain ⟨s, hs'⟩ : ∃ s, t = s + 1 := ⟨t - 1, by omega⟩
      have b := bg_sum (c := cM (S 84) p) (once := S 84 (24 + (p : Int)) == 5) (n := n) (m := mB (S 84) p q) (s := s) (by omega) m1 m0 r
      rw [← hs'] at b
      omega
    have s68 := c_fb68 h (q := q) (x1 := (i : Int)) (x2 := 0) hp hs ty n1 hq hq0 hn hvC t2 p3 p4 (t - 1) 1 FU (by omega) (by omega) (by unfold FU; omega)
    obtain ⟨x, x1, x2, x3⟩ := e_of40 h c2 (n := t) (by omega)
    have x4 := HH_in x3
    have xr : r < x := by
      rcases ev_to x2 with e | ⟨e1, e2⟩
      · rw [e]; exact t3
      · have : v < 1000000000000 := hvC
        have : CC = 1000000000000 := CC_eq
        omega
    have s127 := c_fb127 h (q := q) (x1 := (i : Int)) hp hs ty n1 hq hq0 hn hvC t1 t2 (by omega) p6 3000 0 (min 1024 x - 1) FU (Nat.zero_le _) (by omega) (by omega) (by omega) (by unfold FU; omega)
    obtain ⟨y, y1, y2, y3⟩ := e_within h (s := t) (q := q) (n := n) (few := r) hp hs ty n1 t1 (by omega) hq hq0 hn (by omega)
    have ye : y = bgN (cM (S 84) p) (S 84 (24 + (p : Int)) == 5) t (mB (S 84) p q) n r := by
      have a := (ev_lt y2 hvC)
      exact a.2 (fun z => by have := a.1.mp z; omega)
    obtain ⟨S1, s1, s2, s3⟩ := e_cadd (s := t) (r := r) hL (by omega) (by omega)
    have s3' : kept [62] [(61, 2), (61, 5)] S S1 := s3.mono (by simp) (by simp)
    obtain ⟨S', r1, r2, r3⟩ := ih (n - t) u (i + 1) f (q - 1) S1 (L ++ [(t, r)]) (h.seqs s3') (s3.cell 84 (by decide) (by decide)) ((s3 61 5 (by simp) (by simp)).trans hI) s2 (by rw [List.length_append, List.length_singleton]; omega) (by omega) (by omega) (by omega) (by omega) (by omega) (by omega) (fun z => by have := hq0 z; omega) (fun z => by
      have e0 : mB (S 84) p (q - 1) ≠ 0 := by
        intro e
        unfold bgG at t4
        rw [em, e, bgN_m0 _ _ _ z] at t4
        omega
      refine ⟨e0, ?_⟩
      have t4' := t4
      unfold bgG at t4'
      rw [em] at t4'
      have m1' : -1 ≤ mB (S 84) p (q - 1) := by unfold mB; split <;> omega
      refine Nat.lt_of_lt_of_le t4' ?_
      by_cases z2 : t ≤ n - t
      · refine Nat.le_trans (bgN_mo (g := cM (S 84) p t) (by split <;> omega)) ?_
        rw [bg_tot z m1' e0 t z2, bg_tot z m1' e0 (n - t) (Nat.le_refl _)]
        exact sm_pre z2
      · obtain ⟨d, hd⟩ : ∃ d, t = n - t + d := ⟨t - (n - t), by omega⟩
        have b := bgN_big (c := cM (S 84) p) (once := S 84 (24 + (p : Int)) == 5) (n := n - t) (m := mB (S 84) p (q - 1)) m1' d (if (S 84 (24 + (p : Int)) == 5) then r else r + 1) (by omega)
        rw [← hd] at b
        rw [b]
        exact Nat.le_refl _)
    refine ⟨S', ?_, ?_, s3'.trans r3⟩
    · rw [mX8_findBag_53, gd_t (by omega), if_neg (by omega), gd_t (by omega), if_neg (by omega)]
      rw [bd1_e (show mX8_findBag_68 S (i : Int) (v : Int) (n : Int) (q : Int) (p : Int) FU 1 = some (t : Int) from s68), hI, bd1_e x1, gd_t (by omega), nx_e, show min (1024 : Int) (x : Int) - 1 = ((min 1024 x - 1 : Nat) : Int) by omega, bd1_e (show mX8_findBag_127 S (i : Int) (v : Int) (n : Int) (q : Int) (p : Int) (t : Int) FU ((min 1024 x - 1 : Nat) : Int) 0 = some (r : Int) from s127), bd1_e y1, ye, nx_e, bd1_e s1, nx_e, gd_t (by omega), em2, nx_e, show (v : Int) - ((bgN (cM (S 84) p) (S 84 (24 + (p : Int)) == 5) t (mB (S 84) p q) n r : Nat) : Int) = (u : Int) by omega, show (n : Int) - (t : Int) = ((n - t : Nat) : Int) by omega]
      rw [show ((i + 1 : Nat) : Int) = (i : Int) + 1 by omega] at r1
      exact r1
    · rw [bgL_s (by omega) p1 p2, em]
      rw [List.append_assoc] at r2
      exact r2
/-- of one thing: that thing -/
theorem bgL_1 {c : Nat → Nat} {once : Bool} {k n v : Nat} (hn : 1 ≤ n) (hv : v < bgN c once n 1 n (c n)) : bgL c once (k + 1) 1 n v = [(n, v)] := by
  obtain ⟨t, w, r, u, p1, p2, ⟨t1, t2, t3, t4⟩, p3, p4, p5, p6⟩ := bg_pk hn (by omega) (by omega) hv
  have tn : t = n := by
    rcases Nat.lt_or_ge t n with z | z
    · unfold bgG at t4
      rw [show lss 1 = 0 from rfl, bgN_m0 _ _ _ (by omega)] at t4
      omega
    · omega
  subst tn
  rw [bgL_s hn p1 p2, Nat.sub_self, bgL_0]
  have g1 : ∀ r, bgG c once 1 t t r = 1 := fun r => by
    unfold bgG
    rw [Nat.sub_self, bgN_n0]; rfl
  rw [g1] at t4
  obtain ⟨s, hs⟩ : ∃ s, t = s + 1 := ⟨t - 1, by omega⟩
  have b := bg_sum (c := c) (once := once) (n := t) (m := 1) (s := s) (by omega) (by omega) (by omega) r
  have b0 : bgN c once s 1 t (c s) = 0 := by
    rw [bg_tot hn (by omega) (by omega) s (by omega)]
    refine sm_zero fun i hi => sm_zero fun j hj => ?_
    unfold bgG
    rw [show lss 1 = 0 from rfl]
    exact bgN_m0 _ _ _ (by omega)
  rw [← hs, b0, sm_congr (fun i _ => g1 i)] at b
  have sm1 : ∀ r, sm r (fun _ => 1) = r := fun r => by
    induction r with
    | zero => rfl
    | succ r ih => rw [sm_s, ih]
  rw [sm1] at b
  rw [show r = v by omega]
theorem c_findBag {S : St} (h : Cor S) {p n v : Nat} (hp : (p : Int) < S 84 2) (hs : isSq (S 84) p) (ty : S 84 (24 + (p : Int)) = 4 ∨ S 84 (24 + (p : Int)) = 5) (hn : (n : Int) ≤ S 84 1) (hv : v ≤ 1000) (hsm : v < bgN (cM (S 84) p) (S 84 (24 + (p : Int)) == 5) n (nuM (S 84) p) n (cM (S 84) p n)) : ∃ S', mX8_findBag S (p : Int) (n : Int) (v : Int) = some S' ∧ cds S' (bgL (cM (S 84) p) (S 84 (24 + (p : Int)) == 5) 7 (nuM (S 84) p) n v) ∧ kept [62] [(61, 2), (61, 5)] S S' := by
  have w := h.wf
  have hM1 := w.2.1
  obtain ⟨g3, g4, g5, c24, p24, c2⟩ := gm_sq h hp hs
  have h6 := (w.2.2.2.1 p hp).2.2.2.2.2 hs
  have k1 : kept [62] [(61, 2), (61, 5)] S (up (up S 61 2 0) 61 5 ((chM (S 84) p : Nat) : Int)) := kept.upF (kept.upF kept.rf (by simp)) (by simp)
  have c0 : cds (up (up S 61 2 0) 61 5 ((chM (S 84) p : Nat) : Int)) [] := ⟨by rw [up_nk (by decide), up_eq]; rfl, fun i x e => by simp at e⟩
  have st : mX8_findBag S (p : Int) (n : Int) (v : Int) = if S 84 (48 + (p : Int)) = 1 then (bd1 (mX8_add (up (up S 61 2 0) 61 5 ((chM (S 84) p : Nat) : Int)) (n : Int) (v : Int)) fun S_67 => some S_67) else (bd1 (mX8_findBag_53 (p : Int) FU 0 (v : Int) (n : Int) (S 84 (48 + (p : Int))) (up (up S 61 2 0) 61 5 ((chM (S 84) p : Nat) : Int))) fun S_13 => some S_13) := by
    unfold mX8_findBag
    rw [nx_e, gd_t (by omega), show (up S 61 2 0) 5 (p : Int) = S 5 (p : Int) from rfl, g5, nx_e, show (up (up S 61 2 0) 61 5 ((chM (S 84) p : Nat) : Int)) 4 (p : Int) = S 4 (p : Int) from rfl, g4, nx_e, gd_t (by omega), gd_t (by omega), gd_t (by omega)]
  by_cases n1 : S 84 (48 + (p : Int)) = 1
  · have e1 : nuM (S 84) p = 1 := by unfold nuM; rw [if_neg (by omega)]; exact n1
    rw [e1] at hsm ⊢
    have n0 : 1 ≤ n := by
      rcases Nat.eq_zero_or_pos n with z | z
      · rw [z, bgN_n0, if_neg (by decide)] at hsm; omega
      · exact z
    obtain ⟨S1, s1, s2, s3⟩ := e_cadd (s := n) (r := v) c0 (by decide) (by omega)
    refine ⟨S1, by rw [st, if_pos n1, bd1_e s1], ?_, k1.trans (s3.mono (by simp) (by simp))⟩
    rw [bgL_1 n0 hsm]
    exact s2
  · obtain ⟨q, hq⟩ : ∃ q : Nat, S 84 (48 + (p : Int)) = (q : Int) := ⟨(S 84 (48 + (p : Int))).toNat, by omega⟩
    have em : mB (S 84) p q = nuM (S 84) p := by
      unfold mB nuM
      rw [hq]
    obtain ⟨S', r1, r2, r3⟩ := c_fb53 (M := S 84) hp hs ty n1 7 n v 0 FU q (up (up S 61 2 0) 61 5 ((chM (S 84) p : Nat) : Int)) [] (h.seqs k1) (k1.cell 84 (by decide) (by decide)) up_eq c0 rfl (by omega) (by omega) hn (by unfold FU; omega) hv (by unfold lgM; split <;> omega) (fun z => by omega) (fun z => by
      rw [em]
      exact ⟨(nu_ge w hp hs).2.1, hsm⟩)
    rw [em] at r2
    refine ⟨S', ?_, r2, k1.trans r3⟩
    rw [st, if_neg n1, hq, bd1_e (show mX8_findBag_53 (p : Int) FU 0 (v : Int) (n : Int) (q : Int) _ = _ from r1)]
