/-! what is spelled is read: a thing out of what stands in it -/
theorem ex_ok {M : Int → Int} {p : Nat} (wf : WF M) (hp : (p : Int) < M 2) (ty : M (24 + (p : Int)) = 2 ∨ M (24 + (p : Int)) = 7) : exN M p < 30 ∧ ∃ lo : Int, 0 ≤ lo ∧ okE M lo (exN M p) := by
  have hM0 := wf.1
  have hM2 := wf.2.2.1
  obtain ⟨ok1, ok2, ok3, ok4, ok5, ok6⟩ := wf.2.2.2.1 p hp
  by_cases t2 : M (24 + (p : Int)) = 2
  · have k := ok4 t2
    have ek : ((exN M p : Nat) : Int) = M (48 + (p : Int)) := by unfold exN; omega
    exact ⟨by omega, 0, by omega, wf.2.2.2.2.1 _ (by omega)⟩
  · have t7 : M (24 + (p : Int)) = 7 := by omega
    obtain ⟨k1, k2, k3⟩ := ok5 t7
    have ek : exN M p = 6 + p := by unfold exN; omega
    rw [ek]
    exact ⟨by omega, _, by omega, k3⟩
def ncl (a : Int) : Prop := a ≠ 93 ∧ a ≠ 125 ∧ a ≠ 62 ∧ a ≠ 41
theorem ncl_c {a t : Int} (h : ncl a) : a ≠ clS t := by
  unfold ncl at h
  unfold clS
  (repeat' split) <;> omega
theorem rdP_hd {M : Int → Int} (wf : WF M) : ∀ (f p : Nat) (a : Int) (w : List Int) (x : List Int × Nat × List Int), (p : Int) < M 2 → rdP M f p (a :: w) = some x → ncl a := by
  intro f
  induction f with
  | zero => intro p a w x _ h; cases h
  | succ f ih =>
    intro p a w x hp h
    obtain ⟨ok1, ok2, ok3, ok4, ok5, ok6⟩ := wf.2.2.2.1 p hp
    by_cases t1 : M (24 + (p : Int)) ≤ 1
    · rw [rdP_leaf t1] at h
      dsimp only at h
      split at h
      · next e =>
        unfold lfS at e
        by_cases t0 : M (24 + (p : Int)) = 0
        · have := ok3 t0
          rw [if_pos t0] at e
          unfold ncl; omega
        · rw [if_neg t0] at e
          unfold ncl; omega
      · cases h
    · by_cases ty : M (24 + (p : Int)) = 2 ∨ M (24 + (p : Int)) = 7
      · rw [rdP_nm ty] at h
        obtain ⟨e30, lo, l0, eE⟩ := ex_ok wf hp ty
        have e1 := eE.1
        unfold rdE at h
        split at h
        · next c =>
          split at h
          · next d =>
            obtain ⟨s, o1, _⟩ := Option.bind_eq_some_iff.mp h
            have b := (eE.2.1 0 (by unfold cnE at c d; omega)).2
            obtain ⟨F, hF⟩ : ∃ F : Nat, fpM M (exN M p) 0 = (F : Int) := ⟨(fpM M (exN M p) 0).toNat, by omega⟩
            rw [hF, rdC, if_neg (by omega)] at o1
            obtain ⟨o, p1, _⟩ := Option.bind_eq_some_iff.mp o1
            exact ih F a w o (by omega) p1
          · cases h
        · next c =>
          dsimp only at h
          split at h
          · next d =>
            have : cnE M (exN M p) ≤ 10 := by unfold cnE; omega
            unfold ncl; omega
          · cases h
      · obtain ⟨c, n, r⟩ := x
        obtain ⟨w', s, y1, _⟩ := (rdP_sq (by omega)).mp h
        rw [(List.cons.inj y1).1]
        unfold ncl opS
        (repeat' split) <;> decide
/-- a thing's text put in order -/
def CNx (M : Int → Int) (x : Nat × Nat × Nat) (c : List Int) : Prop := ∃ f, ∀ r, rdP M f x.1 (txt M 432 x ++ r) = some (c, x.2.1, r)
theorem CNx.det {M : Int → Int} {x : Nat × Nat × Nat} {c c' : List Int} (h : CNx M x c) (k : CNx M x c') : c = c' := by
  obtain ⟨f, h1⟩ := h
  obtain ⟨g, k1⟩ := k
  have := rdP_det (h1 []) (k1 [])
  cases this
  rfl
noncomputable def cnl (M : Int → Int) (x : Nat × Nat × Nat) : List Int := Classical.epsilon (fun c => CNx M x c)
theorem CNx.eq {M : Int → Int} {x : Nat × Nat × Nat} {c : List Int} (h : CNx M x c) : cnl M x = c := (Classical.epsilon_spec (p := fun c => CNx M x c) ⟨c, h⟩).det h
theorem cn_fuel {M : Int → Int} : ∀ l : List (Nat × Nat × Nat), (∀ y ∈ l, ∃ c, CNx M y c) → ∃ f, ∀ y ∈ l, ∀ r, rdP M f y.1 (txt M 432 y ++ r) = some (cnl M y, y.2.1, r) := by
  intro l
  induction l with
  | nil => intro _; exact ⟨0, fun y hy => by cases hy⟩
  | cons x l ih =>
    intro h
    obtain ⟨f, hf⟩ := ih (fun y hy => h y (List.mem_cons_of_mem _ hy))
    obtain ⟨c, hc⟩ := h x (List.mem_cons_self ..)
    have e := hc.eq
    obtain ⟨g, hg⟩ := hc
    refine ⟨max f g, fun y hy r => ?_⟩
    rcases List.mem_cons.mp hy with q | q
    · subst q
      rw [e]
      exact rdP_le (Nat.le_max_right f g) (hg r)
    · exact rdP_le (Nat.le_max_left f g) (hf y q r)
noncomputable def prs (M : Int → Int) (l : List (Nat × Nat × Nat)) : List (List Int × Nat) := l.map (fun y => (cnl M y, y.2.1))
theorem prs_c {M : Int → Int} {y : Nat × Nat × Nat} {l : List (Nat × Nat × Nat)} : prs M (y :: l) = (cnl M y, y.2.1) :: prs M l := rfl
theorem prs_sz {M : Int → Int} : ∀ l : List (Nat × Nat × Nat), szs (prs M l) = szL l := by
  intro l
  induction l with
  | nil => rfl
  | cons x l ih => rw [prs_c]; show x.2.1 + szs (prs M l) = x.2.1 + szL l; rw [ih]
theorem prs_1 {M : Int → Int} (l : List (Nat × Nat × Nat)) : (prs M l).map Prod.fst = l.map (cnl M) := by
  unfold prs
  rw [List.map_map]; rfl
theorem rdC_it {M : Int → Int} (wf : WF M) {f : Nat} : ∀ (j p n v K : Nat), (p : Int) < M 2 → 24 ≤ p + j → j < K → (∀ y ∈ tmI M j (p : Int) n v, ∀ r, rdP M f y.1 (txt M 432 y ++ r) = some (cnl M y, y.2.1, r)) → ∀ r, rdC M (rdP M f) K (p : Int) (cat (tmI M j (p : Int) n v) (txt M 432) ++ r) = some (prs M (tmI M j (p : Int) n v), r) := by
  have hM2 := wf.2.2.1
  intro j
  induction j with
  | zero => intro p n v K hp hj; omega
  | succ j ih =>
    intro p n v K hp hj hK hy r
    obtain ⟨K, rfl⟩ : ∃ K', K = K' + 1 := ⟨K - 1, by omega⟩
    rw [tmI_s (s := (pkS (fun s => yM M p s * bhM M p (n - s)) (n + 1) 0 v).1) (w := (pkS (fun s => yM M p s * bhM M p (n - s)) (n + 1) 0 v).2) rfl] at hy ⊢
    obtain ⟨x, hx⟩ : ∃ x : Nat × Nat × Nat, x = (p, (pkS (fun s => yM M p s * bhM M p (n - s)) (n + 1) 0 v).1, (pkS (fun s => yM M p s * bhM M p (n - s)) (n + 1) 0 v).2 / bhM M p (n - (pkS (fun s => yM M p s * bhM M p (n - s)) (n + 1) 0 v).1)) := ⟨_, rfl⟩
    have x1 : x.1 = p := by rw [hx]
    rw [← hx] at hy ⊢
    have h0 := hy x (List.mem_cons_self ..)
    rw [x1] at h0
    rw [rdC, if_neg (by omega), show ((p : Nat) : Int).toNat = p from rfl, prs_c]
    show ((rdP M f p ((txt M 432 x ++ cat _ (txt M 432)) ++ r)).bind _) = _
    rw [List.append_assoc]
    refine Option.bind_eq_some_iff.mpr ⟨_, h0 _, ?_⟩
    rcases (wf.2.2.2.1 p hp).2.1 with q | q
    · rw [q, tmI_n (by decide)]
      refine Option.bind_eq_some_iff.mpr ⟨([], r), ?_, rfl⟩
      obtain ⟨K, rfl⟩ : ∃ K', K = K' + 1 := ⟨K - 1, by omega⟩
      rw [rdC, if_pos (by decide)]; rfl
    · obtain ⟨p', hp'⟩ : ∃ p' : Nat, M (96 + (p : Int)) = (p' : Int) := ⟨(M (96 + (p : Int))).toNat, by omega⟩
      rw [hp'] at hy q ⊢
      refine Option.bind_eq_some_iff.mpr ⟨_, ih p' _ _ K (by omega) (by omega) (by omega) (fun y hy' => hy y (List.mem_cons_of_mem _ hy')) r, rfl⟩
theorem rdL_it {M : Int → Int} {rec : List Int → Option (List Int × Nat × List Int)} {cl : Int} : ∀ (l : List (Nat × Nat × Nat)) (K : Nat), (∀ y ∈ l, (∀ r, rec (txt M 432 y ++ r) = some (cnl M y, y.2.1, r)) ∧ ∃ (a : Int) (v : List Int), txt M 432 y = a :: v ∧ a ≠ cl) → l.length < K → ∀ r, rdL rec cl K (cat l (txt M 432) ++ cl :: r) = some (prs M l, r) := by
  intro l
  induction l with
  | nil =>
    intro K _ hK r
    obtain ⟨K, rfl⟩ : ∃ K', K = K' + 1 := ⟨K - 1, by have : 0 < K := hK; omega⟩
    show rdL rec cl (K + 1) (cl :: r) = _
    rw [rdL, if_pos rfl]; rfl
  | cons y l ih =>
    intro K h hK r
    rw [List.length_cons] at hK
    obtain ⟨K, rfl⟩ : ∃ K', K = K' + 1 := ⟨K - 1, by omega⟩
    obtain ⟨h1, a, v, e1, e2⟩ := h y (List.mem_cons_self ..)
    have q := h1 (cat l (txt M 432) ++ cl :: r)
    rw [e1, List.cons_append] at q
    show rdL rec cl (K + 1) ((txt M 432 y ++ cat l (txt M 432)) ++ cl :: r) = _
    rw [List.append_assoc, e1, List.cons_append, rdL, if_neg e2, prs_c]
    exact Option.bind_eq_some_iff.mpr ⟨_, q, Option.bind_eq_some_iff.mpr ⟨_, ih K (fun z hz => h z (List.mem_cons_of_mem _ hz)) (by omega) r, rfl⟩⟩
/-- the parts of a term have all its size -/
theorem tmI_sz {S : St} (h : Cor S) : ∀ (f p n v : Nat), (p : Int) < S 84 2 → (n : Int) ≤ S 84 1 → 24 ≤ p + f → v < rM (S 84) p n → rM (S 84) p n ≤ 200 → szL (tmI (S 84) f (p : Int) n v) = n := by
  have w := h.wf
  have hM1 := w.2.1
  have hM2 := w.2.2.1
  intro f
  induction f with
  | zero => intro p n v a _ b _ _; omega
  | succ f ih =>
    intro p n v hp hn hf hv h2
    have hr := r_parts h hp (n := n) (by omega)
    have hr' : rM (S 84) p n = sm (n + 1) (fun s => yM (S 84) p s * bhM (S 84) p (n - s)) := by
      rcases ev_to hr with q | ⟨q, _⟩
      · exact q
      · rw [CC_eq] at q; omega
    have ok := (w.2.2.2.1 p hp).2.1
    rw [hr'] at hv
    rw [sm_congr (g := fun i => (fun s => yM (S 84) p s * bhM (S 84) p (n - s)) (0 + i)) (fun i _ => by rw [Nat.zero_add])] at hv
    obtain ⟨s, u, p1, p2, p3, p4, p5⟩ := pk_ok (g := fun s => yM (S 84) p s * bhM (S 84) p (n - s)) (n + 1) 0 v hv
    try dsimp only at p4
    obtain ⟨d1, d2, d3⟩ := dm_lt p4
    have le1 : yM (S 84) p s * bhM (S 84) p (n - s) ≤ 200 := by
      refine Nat.le_trans (le_sm (n := n + 1) (f := fun s => yM (S 84) p s * bhM (S 84) p (n - s)) (i := s) (by omega)) ?_
      rw [← hr']; exact h2
    have yp : 0 < yM (S 84) p s := Nat.lt_of_le_of_lt (Nat.zero_le _) d2
    have le3 : bhM (S 84) p (n - s) ≤ 200 := Nat.le_trans (Nat.le_mul_of_pos_left _ yp) le1
    rw [tmI_s p1]
    show s + szL _ = n
    rcases ok with q | q
    · rw [tmI_n (by omega)]
      rw [bh_l (by omega)] at d1
      show s + 0 = n
      by_cases z : n - s = 0
      · omega
      · rw [if_neg z] at d1; omega
    · obtain ⟨q', hq'⟩ : ∃ q' : Nat, S 84 (96 + (p : Int)) = (q' : Int) := ⟨(S 84 (96 + (p : Int))).toNat, by omega⟩
      rw [bh_n (by omega), hq'] at d3 le3
      rw [show ((q' : Nat) : Int).toNat = q' from rfl] at d3 le3
      rw [hq', bh_n (by omega), hq', show ((q' : Nat) : Int).toNat = q' from rfl]
      have := ih q' (n - s) (u % rM (S 84) q' (n - s)) (by omega) (by omega) (by omega) d3 le3
      omega
theorem K_leaf {S : St} (h : Cor S) {x : Nat × Nat × Nat} (hx : VN (S 84) x) (ty : S 84 (24 + (x.1 : Int)) ≤ 1) : CNx (S 84) x [lfS (S 84) x.1] := by
  have w := h.wf
  have hM1 := w.2.1
  obtain ⟨p, n, v⟩ := x
  have un := (tree_unf h hx).1
  obtain ⟨hp, hn, hv, h2⟩ := hx
  dsimp only at hp hn hv h2 ty un
  have ok := (w.2.2.2.1 p hp).1
  have yl := y_leaf h hp (n := n) (by omega)
  have ei : itm (S 84) (p, n, v) = [] := by unfold itm; rw [if_pos ty]
  have et : tlS (S 84) (p, n, v) = [] := by
    unfold tlS
    rw [if_neg (by rw [qb_f (show ¬ isSq (S 84) p by unfold isSq; omega)]; decide)]
  have eh : hdS (S 84) (p, n, v) = [lfS (S 84) p] := by
    unfold hdS lfS
    dsimp only
    by_cases t0 : S 84 (24 + (p : Int)) = 0
    · rw [if_pos t0, if_pos t0]
    · rw [if_neg t0, if_pos (by omega), if_neg t0]
  have en : n = lfN (S 84) p := by
    unfold lfN
    by_cases t0 : S 84 (24 + (p : Int)) = 0
    · rw [if_pos t0]
      have := yl.1 t0
      by_cases z : n = 1
      · exact z
      · rw [if_neg z] at this; omega
    · rw [if_neg t0]
      have := yl.2 (by omega)
      by_cases z : n = 0
      · exact z
      · rw [if_neg z] at this; omega
  rw [ei, et, eh] at un
  refine ⟨1, fun r => ?_⟩
  dsimp only
  rw [un, rdP_leaf ty]
  show (if lfS (S 84) p = lfS (S 84) p then some ([lfS (S 84) p], lfN (S 84) p, r) else none) = _
  rw [if_pos rfl, ← en]
theorem K_nm {S : St} (h : Cor S) {x : Nat × Nat × Nat} (hx : VN (S 84) x) (ty : S 84 (24 + (x.1 : Int)) = 2 ∨ S 84 (24 + (x.1 : Int)) = 7) (hy : ∀ y ∈ itm (S 84) x, ∃ c, CNx (S 84) y c) : CNx (S 84) x (dgS (S 84) (exN (S 84) x.1) x.2.1 x.2.2 ++ fl1 (prs (S 84) (itm (S 84) x))) := by
  have w := h.wf
  have hM1 := w.2.1
  obtain ⟨E, TE, rO, rT, rK, rk⟩ := h.rks
  obtain ⟨p, n, v⟩ := x
  have un := (tree_unf h hx).1
  obtain ⟨lo, l0, e30, eE, ev', e200, ex, p24⟩ := nm_ok h hx ty
  have hx' := hx
  obtain ⟨hp, hn, hv, h2⟩ := hx
  dsimp only at hp hn hv h2 ty un e30 eE ev' e200 hy ⊢
  obtain ⟨t, u, a1, a2, a3, a4, a5, a6, a7⟩ := exI_ok h rk l0 eE hn ev' e200
  have q := (eE.2.1 t a2).2
  have cE := eE.1
  have ei : itm (S 84) (p, n, v) = exI (S 84) (exN (S 84) p) n v := by unfold itm; rw [if_neg (by dsimp only; omega), if_pos ty]
  have et : tlS (S 84) (p, n, v) = [] := by
    unfold tlS
    rw [if_neg (by rw [qb_f (show ¬ isSq (S 84) p by unfold isSq; omega)]; decide)]
  have eh : hdS (S 84) (p, n, v) = dgS (S 84) (exN (S 84) p) n v := by
    unfold hdS
    dsimp only
    rw [if_neg (by omega), if_neg (by omega), if_pos ty]
  obtain ⟨F, hF⟩ : ∃ F : Nat, fpM (S 84) (exN (S 84) p) t = (F : Int) := ⟨(fpM (S 84) (exN (S 84) p) t).toNat, by omega⟩
  rw [hF, show ((F : Nat) : Int).toNat = F from rfl] at a4 a5 a6
  rw [ei, a6] at hy un
  rw [ei, a6]
  obtain ⟨f, hf⟩ := cn_fuel _ hy
  have sz := tmI_sz h 24 F n u (by omega) hn (by omega) a4 a5
  refine ⟨f + 1, fun r => ?_⟩
  have rc := rdC_it w 24 F n u 25 (by omega) (by omega) (by omega) hf r
  dsimp only
  rw [un, et, List.append_nil, eh, rdP_nm ty]
  have cc : ((cnE (S 84) (exN (S 84) p) : Nat) : Int) = S 84 (198 + ((exN (S 84) p : Nat) : Int)) := by unfold cnE; omega
  unfold rdE dgS
  by_cases c : cnE (S 84) (exN (S 84) p) ≤ 1
  · have t0 : t = 0 := by omega
    subst t0
    rw [if_pos c, if_pos c, if_pos ⟨⟨by omega, a3⟩, by omega⟩, hF, List.nil_append, List.nil_append]
    refine Option.bind_eq_some_iff.mpr ⟨_, rc, ?_⟩
    rw [prs_sz, sz]
  · rw [if_neg c, if_neg c, a1]
    show (if _ then _ else none) = _
    have tt : (48 + ((t : Nat) : Int) - 48).toNat = t := by omega
    rw [tt, if_pos ⟨⟨⟨by omega, by omega⟩, a3⟩, by omega⟩, hF]
    refine Option.bind_eq_some_iff.mpr ⟨_, rc, ?_⟩
    rw [prs_sz, sz]
    rfl
