/-! kinds' things: their texts are read, unlike things as unlike, and what is read is one -/
def CNE (M : Int → Int) (e n v : Nat) (c : List Int) : Prop := ∃ f, ∀ r, rdE M (rdP M f) e (tX M e n v ++ r) = some (c, n, r)
theorem CNE.det {M : Int → Int} {e n v : Nat} {c c' : List Int} (h : CNE M e n v c) (k : CNE M e n v c') : c = c' := by
  obtain ⟨f, h1⟩ := h
  obtain ⟨g, k1⟩ := k
  exact (Prod.mk.inj (rdE_det (h1 []) (k1 []))).1
theorem CNE.rdw {M : Int → Int} {e n v : Nat} {c : List Int} (h : CNE M e n v c) (hn : (n : Int) ≤ M 1) : RDW M e (tX M e n v) c n := by
  obtain ⟨f, h1⟩ := h
  have := h1 []
  rw [List.append_nil] at this
  exact ⟨⟨f, this⟩, hn⟩
/-- a kind's thing: its term, what stands in it -/
def TOK (S : St) (e n v t u F : Nat) : Prop := tmP (S 84) e n v = (t, u) ∧ t < cnE (S 84) e ∧ offM (S 84) e t = false ∧ fpM (S 84) e t = (F : Int) ∧ (F : Int) < S 84 2 ∧ u < rM (S 84) F n ∧ rM (S 84) F n ≤ 200 ∧ exI (S 84) e n v = tmI (S 84) 24 (F : Int) n u ∧ v < sm (cnE (S 84) e) (fun t => byM (S 84) e t n) ∧ ∀ y ∈ tmI (S 84) 24 (F : Int) n u, VN (S 84) y ∧ (∃ c, CNx (S 84) y c) ∧ ∀ r', VN (S 84) (y.1, y.2.1, r') → cnl (S 84) y = cnl (S 84) (y.1, y.2.1, r') → y.2.2 = r'
theorem th_ok {S : St} (h : Cor S) {e n v : Nat} (x : isTh (S 84) e n v) : ∃ t u F, TOK S e n v t u F := by
  obtain ⟨E, TE, rO, rT, rK, rk⟩ := h.rks
  obtain ⟨k1, k2, k3, k4⟩ := x
  have wf := h.wf
  have hM1 := wf.2.1
  have e' := ev_200 (k_terms h k1 (n := n) (by omega)) k4
  have oE := wf.2.2.2.2.1 e k1
  have v1 : v < sm (cnE (S 84) e) (fun t => byM (S 84) e t n) := by rw [← e']; exact k3
  obtain ⟨t, u, a1, a2, a3, a4, a5, a6, a7⟩ := exI_ok h rk (show (0 : Int) ≤ 0 by omega) oE k2 v1 (by rw [← e']; exact k4)
  obtain ⟨q1, q2, q3⟩ := oE.2.1 t a2
  obtain ⟨F, hF⟩ : ∃ F : Nat, fpM (S 84) e t = (F : Int) := ⟨(fpM (S 84) e t).toNat, by omega⟩
  rw [hF, show ((F : Nat) : Int).toNat = F from rfl] at a4 a5 a6
  refine ⟨t, u, F, a1, by unfold cnE; omega, a3, hF, by omega, a4, a5, a6, v1, fun y hy => ?_⟩
  have vy := (a7 y (by rw [a6]; exact hy)).1
  obtain ⟨b1, b2⟩ := TH h rk (54 * y.2.1 + rO y.1 + 1) y.1 y.2.1 (Nat.lt_succ_self _)
  exact ⟨vy, b1 y.2.2 vy, fun r' hr e => b2 y.2.2 r' vy hr e⟩
theorem cn_of {S : St} (h : Cor S) {e n v t u F : Nat} (hn : (n : Int) ≤ S 84 1) (x : TOK S e n v t u F) : CNE (S 84) e n v (dgT (S 84) e t ++ fl1 (prs (S 84) (tmI (S 84) 24 (F : Int) n u))) := by
  obtain ⟨a1, a2, a3, a4, a5, a6, a7, a8, a9, a10⟩ := x
  have wf := h.wf
  have hM1 := wf.2.1
  obtain ⟨f, hf⟩ := cn_fuel _ (fun y hy => (a10 y hy).2.1)
  have sz := tmI_sz h 24 F n u a5 hn (by omega) a6 a7
  refine ⟨f, fun r => ?_⟩
  have rc := rdC_it wf 24 F n u 25 a5 (by omega) (by omega) hf r
  unfold tX
  rw [a8]
  unfold dgS dgT
  by_cases c : cnE (S 84) e ≤ 1
  · have t0 : t = 0 := by omega
    subst t0
    rw [if_pos c, if_pos c, List.nil_append, List.nil_append]
    refine (rdE_1 c).mpr ⟨⟨⟨by omega, a3⟩, by omega⟩, prs (S 84) (tmI (S 84) 24 (F : Int) n u), r, by rw [a4]; exact rc, ?_⟩
    rw [prs_sz, sz]
    all_goals rfl
  · rw [if_neg c, if_neg c, a1]
    have tt : (48 + ((t : Nat) : Int) - 48).toNat = t := by omega
    show rdE (S 84) (rdP (S 84) f) e ((48 + ((t : Nat) : Int)) :: (cat (tmI (S 84) 24 (F : Int) n u) (txt (S 84) 432) ++ r)) = some ((48 + ((t : Nat) : Int)) :: fl1 (prs (S 84) (tmI (S 84) 24 (F : Int) n u)), n, r)
    refine (rdE_n c).mpr ?_
    rw [tt]
    refine ⟨⟨⟨by omega, a3⟩, by omega⟩, prs (S 84) (tmI (S 84) 24 (F : Int) n u), r, by rw [a4]; exact rc, ?_⟩
    rw [prs_sz, sz]
    all_goals rfl
theorem cn_ex {S : St} (h : Cor S) {e n v : Nat} (x : isTh (S 84) e n v) : ∃ c, CNE (S 84) e n v c := by
  obtain ⟨t, u, F, y⟩ := th_ok h x
  exact ⟨_, cn_of h x.2.1 y⟩
theorem cn_inj {S : St} (h : Cor S) {e n v v' : Nat} (x : isTh (S 84) e n v) (x' : isTh (S 84) e n v') {c : List Int} (k : CNE (S 84) e n v c) (k' : CNE (S 84) e n v' c) : v = v' := by
  obtain ⟨t, u, F, y⟩ := th_ok h x
  obtain ⟨t', u', F', y'⟩ := th_ok h x'
  have hn := x.2.1
  have e1 := k.det (cn_of h hn y)
  have e2 := k'.det (cn_of h hn y')
  have eq' := e1.symm.trans e2
  have wf := h.wf
  have hM1 := wf.2.1
  obtain ⟨a1, a2, a3, a4, a5, a6, a7, a8, a9, a10⟩ := y
  obtain ⟨b1, b2, b3, b4, b5, b6, b7, b8, b9, b10⟩ := y'
  have tt : t = t' ∧ fl1 (prs (S 84) (tmI (S 84) 24 (F : Int) n u)) = fl1 (prs (S 84) (tmI (S 84) 24 (F' : Int) n u')) := by
    unfold dgT at eq'
    by_cases c : cnE (S 84) e ≤ 1
    · rw [if_pos c, if_pos c, List.nil_append, List.nil_append] at eq'
      exact ⟨by omega, eq'⟩
    · rw [if_neg c, if_neg c] at eq'
      obtain ⟨q1, q2⟩ := List.cons.inj eq'
      exact ⟨by omega, q2⟩
  obtain ⟨et, ef⟩ := tt
  subst et
  have eF : F = F' := by omega
  subst eF
  obtain ⟨f1, hf1⟩ := cn_fuel _ (fun y hy => (a10 y hy).2.1)
  obtain ⟨f2, hf2⟩ := cn_fuel _ (fun y hy => (b10 y hy).2.1)
  have r1 := rdC_fx (rdP_fx f1) 25 _ _ _ _ (rdC_it wf 24 F n u 25 (by omega) (by omega) (by omega) hf1 []) []
  have r2 := rdC_fx (rdP_fx f2) 25 _ _ _ _ (rdC_it wf 24 F n u' 25 (by omega) (by omega) (by omega) hf2 []) []
  rw [← ef] at r2
  have r1' := rdC_mo (fun p w x q => rdP_le (Nat.le_max_left f1 f2) q) _ _ _ _ r1
  have r2' := rdC_mo (fun p w x q => rdP_le (Nat.le_max_right f1 f2) q) _ _ _ _ r2
  have ep := (Prod.mk.inj (Option.some.inj (r1'.symm.trans r2'))).1
  have eu := tm_inj h 24 F n u u' a5 hn (by omega) a6 b6 a7 (fun y hy y' hy' x1 x2 x3 => by
    obtain ⟨va, _, ia⟩ := a10 y hy
    obtain ⟨vb, _, ib⟩ := b10 y' hy'
    have e3 : (y.1, y.2.1, y'.2.2) = y' := by rw [x1, x2]
    exact ia y'.2.2 (by rw [e3]; exact vb) (by rw [e3]; exact x3)) ep
  have sh : sm (cnE (S 84) e) (fun t => byM (S 84) e t n) = sm (cnE (S 84) e) (fun i => (fun t => byM (S 84) e t n) (0 + i)) := sm_congr fun i _ => by rw [Nat.zero_add]
  rw [sh] at a9 b9
  unfold tmP at a1 b1
  exact pk_inj (g := fun t => byM (S 84) e t n) (f := cnE (S 84) e) (s := 0) (t := t) (t' := t) (w := u) (w' := u') (v := v) (v' := v') a9 b9 a1 b1 rfl eu
theorem cn_sur {S : St} (h : Cor S) (nex : NEX (S 84)) {e n : Nat} {w c : List Int} (he : (e : Int) < S 84 0) (k : RDW (S 84) e w c n) : 1 ≤ kM (S 84) e n ∧ (kM (S 84) e n ≤ 200 → ∃ v, v < kM (S 84) e n ∧ CNE (S 84) e n v c) := by
  obtain ⟨⟨f, hf⟩, hn⟩ := k
  have wf := h.wf
  have hM1 := wf.2.1
  have oE := wf.2.2.2.2.1 e he
  have cE := oE.1
  refine ⟨sur_kind h nex he hf hn, fun h2 => ?_⟩
  have e' := ev_200 (k_terms h he (n := n) (by omega)) h2
  have cc : ((cnE (S 84) e : Nat) : Int) = S 84 (198 + (e : Int)) := by unfold cnE; omega
  obtain ⟨t, w', s, t1', t2, t3, t4, t5⟩ : ∃ (t : Nat) (w' : List Int) (s : List (List Int × Nat)), t < cnE (S 84) e ∧ offM (S 84) e t = false ∧ rdC (S 84) (rdP (S 84) f) 25 (fpM (S 84) e t) w' = some (s, []) ∧ n = szs s ∧ c = dgT (S 84) e t ++ fl1 s := by
    by_cases c1 : cnE (S 84) e ≤ 1
    · obtain ⟨⟨⟨q1, q2⟩, _⟩, s, w2, q3, q4⟩ := (rdE_1 c1).mp hf
      cases q4
      exact ⟨0, w, s, by omega, q2, q3, rfl, by unfold dgT; rw [if_pos c1]; rfl⟩
    · cases w with
      | nil => rw [rdE_nil c1] at hf; cases hf
      | cons a w =>
        obtain ⟨⟨⟨q1, q2⟩, _⟩, s, w2, q3, q4⟩ := (rdE_n c1).mp hf
        cases q4
        refine ⟨(a - 48).toNat, w, s, by omega, q2, q3, rfl, ?_⟩
        unfold dgT
        rw [if_neg c1, show 48 + (((a - 48).toNat : Nat) : Int) = a by omega]; rfl
  obtain ⟨b1, b2, b3⟩ := oE.2.1 t (by omega)
  obtain ⟨F, hF⟩ : ∃ F : Nat, fpM (S 84) e t = (F : Int) := ⟨(fpM (S 84) e t).toNat, by omega⟩
  rw [hF] at t3
  rw [t4] at hn
  obtain ⟨c1, c2⟩ := sur_ch h (sur_all h nex f) 25 F w' s [] (by omega) t3 hn
  rw [← t4] at c1 c2 hn
  have by1 : byM (S 84) e t n = rM (S 84) F n := by rw [byM_on t2, hF]; rfl
  have le := le_sm (f := fun t => byM (S 84) e t n) t1'
  try dsimp only at le
  rw [by1] at le
  obtain ⟨u, u1, u2⟩ := c2 (by omega)
  obtain ⟨p1, p2⟩ := pk_mk (g := fun t => byM (S 84) e t n) (cnE (S 84) e) 0 t u (Nat.zero_le _) (by omega) (by rw [by1]; exact u1)
  have sh : sm (cnE (S 84) e) (fun t => byM (S 84) e t n) = sm (cnE (S 84) e) (fun i => (fun t => byM (S 84) e t n) (0 + i)) := sm_congr fun i _ => by rw [Nat.zero_add]
  rw [← sh, ← e'] at p2
  obtain ⟨v, hv⟩ : ∃ v, v = sm (t - 0) (fun i => (fun t => byM (S 84) e t n) (0 + i)) + u := ⟨_, rfl⟩
  rw [← hv] at p1 p2
  have x : isTh (S 84) e n v := ⟨he, hn, p2, h2⟩
  obtain ⟨t', u', F', y⟩ := th_ok h x
  have k := cn_of h hn y
  obtain ⟨z1, z2, z3, z4, z5⟩ := y
  have tp : tmP (S 84) e n v = (t, u) := p1
  rw [tp] at z1
  obtain ⟨i1, i2⟩ := Prod.mk.inj z1
  subst i1 i2
  have eF : F' = F := by omega
  subst eF
  rw [(u2 24 (by omega)).1, ← t5] at k
  exact ⟨v, p2, k⟩
/-- what is read, put in order: so many signs, so heavy, the first sign the same -/
theorem wgt_pm {l m : List Int} (h : l.Perm m) : wgt l = wgt m := by
  induction h with
  | nil => rfl
  | cons a _ ih => show a * a * a + wgt _ = a * a * a + wgt _; rw [ih]
  | swap a b l => show b * b * b + (a * a * a + wgt l) = a * a * a + (b * b * b + wgt l); omega
  | trans _ _ i j => exact i.trans j
theorem RDW.eat {M : Int → Int} {e n : Nat} {w c : List Int} (h : RDW M e w c n) : ∃ (a : Int) (u v : List Int), w = a :: u ∧ c = a :: v ∧ u.Perm v := by
  obtain ⟨⟨f, hf⟩, -⟩ := h
  obtain ⟨a, u, v, h1, h2, h3⟩ := rdE_ate (fun p w c n r => rdP_ate f p w c n r) hf
  exact ⟨a, u, v, by rw [h1, List.append_nil], h2, h3⟩
theorem RDW.len {M : Int → Int} {e n : Nat} {w c : List Int} (h : RDW M e w c n) : w.length = c.length ∧ 1 ≤ c.length ∧ wgt c = wgt w := by
  obtain ⟨a, u, v, h1, h2, h3⟩ := h.eat
  rw [h1, h2]
  refine ⟨by rw [List.length_cons, List.length_cons, h3.length_eq], by rw [List.length_cons]; omega, ?_⟩
  show a * a * a + wgt v = a * a * a + wgt u
  rw [wgt_pm h3]
/-- a thing's signs are bytes -/
theorem cat_mem {f : Nat × Nat × Nat → List Int} {c : Int} : ∀ L : List (Nat × Nat × Nat), c ∈ cat L f → ∃ y ∈ L, c ∈ f y := by
  intro L
  induction L with
  | nil => intro h; cases h
  | cons x L ih =>
    intro h
    rcases List.mem_append.mp (show c ∈ f x ++ cat L f from h) with q | q
    · exact ⟨x, List.mem_cons_self .., q⟩
    · obtain ⟨y, y1, y2⟩ := ih q
      exact ⟨y, List.mem_cons_of_mem _ y1, y2⟩
theorem dg_b {M : Int → Int} {e n v : Nat} (h : (((tmP M e n v).1 : Nat) : Int) ≤ 10) : ∀ c ∈ dgS M e n v, 0 ≤ c ∧ c ≤ 127 := by
  intro c hc
  unfold dgS at hc
  by_cases z : cnE M e ≤ 1
  · rw [if_pos z] at hc; cases hc
  · rw [if_neg z] at hc
    rw [List.mem_singleton.mp hc]
    omega
theorem txt_b {S : St} (h : Cor S) {E TE : Nat → Prop} {rO rT rK : Nat → Nat} (rk : RKs (S 84) E TE rO rT rK) : ∀ (N : Nat) (x : Nat × Nat × Nat), VN (S 84) x → ms rO x < N → ∀ c ∈ txt (S 84) 432 x, 0 ≤ c ∧ c ≤ 127 := by
  have wf := h.wf
  intro N
  induction N with
  | zero => intro x _ a; omega
  | succ N ih =>
    intro x hx hN c hc
    rw [(tree_unf h hx).1] at hc
    have ok := wf.2.2.2.1 x.1 hx.1
    rcases List.mem_append.mp hc with q | q
    · unfold hdS at q
      by_cases t0 : S 84 (24 + (x.1 : Int)) = 0
      · rw [if_pos t0] at q
        rw [List.mem_singleton.mp q]
        have := ok.2.2.1 t0
        omega
      · rw [if_neg t0] at q
        by_cases t1 : S 84 (24 + (x.1 : Int)) = 1
        · rw [if_pos t1] at q
          rw [List.mem_singleton.mp q]
          omega
        · rw [if_neg t1] at q
          by_cases ty : S 84 (24 + (x.1 : Int)) = 2 ∨ S 84 (24 + (x.1 : Int)) = 7
          · rw [if_pos ty] at q
            obtain ⟨lo, l0, e30, eE, ev', e200, ex, p24⟩ := nm_ok h hx ty
            obtain ⟨t, u, a1, a2, a3, a4, a5, a6, a7⟩ := exI_ok h rk l0 eE hx.2.1 ev' e200
            have cE := eE.1
            exact dg_b (by rw [a1]; show (t : Int) ≤ 10; omega) c q
          · rw [if_neg ty] at q
            rw [List.mem_singleton.mp q]
            have := opS_b (t := S 84 (24 + (x.1 : Int)))
            omega
    · rcases List.mem_append.mp q with q | q
      · obtain ⟨y, y1, y2⟩ := cat_mem _ q
        obtain ⟨b1, b2, b3⟩ := itm_ok h rk hx y y1
        exact ih y b1 (by omega) c y2
      · unfold tlS at q
        by_cases z : isQb (S 84) x.1 = true
        · rw [if_pos z] at q
          rw [List.mem_singleton.mp q]
          have := clS_b2 (t := S 84 (24 + (x.1 : Int)))
          omega
        · rw [if_neg z] at q; cases q
theorem tX_b {S : St} (h : Cor S) {e n v : Nat} (x : isTh (S 84) e n v) : ∀ c ∈ tX (S 84) e n v, 0 ≤ c ∧ c ≤ 127 := by
  obtain ⟨E, TE, rO, rT, rK, rk⟩ := h.rks
  obtain ⟨t, u, F, a1, a2, a3, a4, a5, a6, a7, a8, a9, a10⟩ := th_ok h x
  have oE := (h.wf.2.2.2.2.1 e x.1).1
  intro c hc
  rcases List.mem_append.mp (show c ∈ dgS (S 84) e n v ++ cat (exI (S 84) e n v) (txt (S 84) 432) from hc) with q | q
  · refine dg_b ?_ c q
    rw [a1]
    show (t : Int) ≤ 10
    unfold cnE at a2
    omega
  · rw [a8] at q
    obtain ⟨y, y1, y2⟩ := cat_mem _ q
    exact txt_b h rk (ms rO y + 1) y (a10 y y1).1 (Nat.lt_succ_self _) c y2
