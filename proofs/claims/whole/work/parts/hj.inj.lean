/-! what is spelled is read: any thing; unlike things are read as unlike -/
theorem K_sq {S : St} (h : Cor S) {x : Nat × Nat × Nat} (hx : VN (S 84) x) (hs : isSq (S 84) x.1) (hy : ∀ y ∈ itm (S 84) x, ∃ c, CNx (S 84) y c) (nd : S 84 (24 + (x.1 : Int)) = 5 → ndp ((itm (S 84) x).map (cnl (S 84))) = true) : CNx (S 84) x (opS (S 84 (24 + (x.1 : Int))) :: ((sqL (S 84 (24 + (x.1 : Int))) ((itm (S 84) x).map (cnl (S 84)))).flatten ++ [clS (S 84 (24 + (x.1 : Int)))])) := by
  have w := h.wf
  have hM1 := w.2.1
  obtain ⟨p, n, v⟩ := x
  have un := (tree_unf h hx).1
  have hx' := hx
  obtain ⟨hp, hn, hv, h2⟩ := hx
  dsimp only at hp hn hv h2 hs un hy nd ⊢
  have hs' := hs
  unfold isSq at hs'
  obtain ⟨x1, x2, x3, x4⟩ := sqI_ok h hp hs hn hv h2
  have sp := sqI_p h hp hs hn hv h2
  have nu := nu_ge w hp hs
  have lens := (ok_sm x1 x2).1
  have k6 := (w.2.2.2.1 p hp).2.2.2.2.2 hs
  have ei : itm (S 84) (p, n, v) = (sqI (S 84) p n v).map (fun y => (chM (S 84) p, y.1, y.2)) := by
    unfold itm
    rw [if_neg (by dsimp only; omega), if_neg (by dsimp only; omega)]
  have et : tlS (S 84) (p, n, v) = [clS (S 84 (24 + (p : Int)))] := by
    unfold tlS
    rw [if_pos (qb_t hs)]
  have eh : hdS (S 84) (p, n, v) = [opS (S 84 (24 + (p : Int)))] := by
    unfold hdS
    dsimp only
    rw [if_neg (by omega), if_neg (by omega), if_neg (by omega)]
  have ll : (itm (S 84) (p, n, v)).length = (sqI (S 84) p n v).length := by rw [ei, List.length_map]
  obtain ⟨f, hf⟩ := cn_fuel _ hy
  have heads : ∀ y ∈ itm (S 84) (p, n, v), (∀ r, rdP (S 84) f (chM (S 84) p) (txt (S 84) 432 y ++ r) = some (cnl (S 84) y, y.2.1, r)) ∧ ∃ (a : Int) (u : List Int), txt (S 84) 432 y = a :: u ∧ a ≠ clS (S 84 (24 + (p : Int))) := fun y hy' => by
    have y1 : y.1 = chM (S 84) p := by
      rw [ei] at hy'
      obtain ⟨z, _, z2⟩ := List.mem_map.mp hy'
      rw [← z2]
    have q := hf y hy'
    rw [y1] at q
    refine ⟨q, ?_⟩
    have q0 := q []
    rw [List.append_nil] at q0
    obtain ⟨a, u, vv, e1, e2, e3⟩ := rdP_ate f _ _ _ _ _ q0
    rw [List.append_nil] at e1
    refine ⟨a, u, e1, ?_⟩
    rw [e1] at q0
    exact ncl_c (rdP_hd w f (chM (S 84) p) a u _ (by unfold chM; omega) q0)
  refine ⟨f + 1, fun r => ?_⟩
  have rl := rdL_it (M := S 84) (rec := rdP (S 84) f (chM (S 84) p)) (cl := clS (S 84 (24 + (p : Int)))) (itm (S 84) (p, n, v)) 64 heads (by omega) r
  dsimp only
  rw [un, et, eh]
  refine (rdP_sq hs').mpr ⟨cat (itm (S 84) (p, n, v)) (txt (S 84) 432) ++ clS (S 84 (24 + (p : Int))) :: r, prs (S 84) (itm (S 84) (p, n, v)), ?_, rl, ?_, ?_, ?_⟩
  · rw [List.append_assoc, List.append_assoc]; rfl
  · rw [prs_1]
    refine ⟨?_, fun t6 => ?_, nd⟩
    · rw [List.length_map, ll]
      unfold nuM at x3
      by_cases z : S 84 (48 + (p : Int)) = 0
      · exact Or.inl z
      · rw [if_neg z] at x3
        exact Or.inr (x3 (by omega))
    · rw [List.length_map, ll]
      have := (sp.1 t6).1
      cases hL : sqI (S 84) p n v with
      | nil => exact absurd hL this
      | cons a l => rw [List.length_cons]; omega
  · rw [prs_1]
  · rw [prs_sz, ei, szL_map, x2]
theorem cn_size {M : Int → Int} {x y : Nat × Nat × Nat} {c : List Int} (h : CNx M x c) (k : CNx M y c) (e : x.1 = y.1) : x.2.1 = y.2.1 := by
  obtain ⟨f, h1⟩ := h
  obtain ⟨g, k1⟩ := k
  have a := rdP_fx f _ _ _ _ _ (h1 []) []
  have b := rdP_fx g _ _ _ _ _ (k1 []) []
  dsimp only at a b
  rw [← e] at b
  have := rdP_det a b
  exact (Prod.mk.inj (Prod.mk.inj this).2).1
theorem tm_inj {S : St} (h : Cor S) : ∀ (f p n u u' : Nat), (p : Int) < S 84 2 → (n : Int) ≤ S 84 1 → 24 ≤ p + f → u < rM (S 84) p n → u' < rM (S 84) p n → rM (S 84) p n ≤ 200 → (∀ y ∈ tmI (S 84) f (p : Int) n u, ∀ y' ∈ tmI (S 84) f (p : Int) n u', y.1 = y'.1 → y.2.1 = y'.2.1 → cnl (S 84) y = cnl (S 84) y' → y.2.2 = y'.2.2) → prs (S 84) (tmI (S 84) f (p : Int) n u) = prs (S 84) (tmI (S 84) f (p : Int) n u') → u = u' := by
  have w := h.wf
  have hM1 := w.2.1
  have hM2 := w.2.2.1
  intro f
  induction f with
  | zero => intro p n u u' a _ b; omega
  | succ f ih =>
    intro p n u u' hp hn hf hu hu' h2 hI e
    have hr := r_parts h hp (n := n) (by omega)
    have hr' : rM (S 84) p n = sm (n + 1) (fun s => yM (S 84) p s * bhM (S 84) p (n - s)) := ev_200 hr h2
    have h0 : sm (n + 1) (fun s => yM (S 84) p s * bhM (S 84) p (n - s)) = sm (n + 1) (fun i => (fun s => yM (S 84) p s * bhM (S 84) p (n - s)) (0 + i)) := sm_congr fun i _ => by rw [Nat.zero_add]
    have hv := hu
    have hv' := hu'
    rw [hr', h0] at hv hv'
    obtain ⟨s, x, p1, p2, p3, p4, p5⟩ := pk_ok (g := fun s => yM (S 84) p s * bhM (S 84) p (n - s)) (n + 1) 0 u hv
    obtain ⟨s', x', q1, q2, q3, q4, q5⟩ := pk_ok (g := fun s => yM (S 84) p s * bhM (S 84) p (n - s)) (n + 1) 0 u' hv'
    try dsimp only at p4 q4
    obtain ⟨d1, d2, d3⟩ := dm_lt p4
    obtain ⟨d1', d2', d3'⟩ := dm_lt q4
    rw [tmI_s p1, tmI_s q1] at hI
    rw [tmI_s p1, tmI_s q1, prs_c, prs_c] at e
    obtain ⟨e1, e2⟩ := List.cons.inj e
    obtain ⟨e3, e4⟩ := Prod.mk.inj e1
    dsimp only at e4
    subst e4
    have er := hI _ (List.mem_cons_self ..) _ (List.mem_cons_self ..) rfl rfl e3
    dsimp only at er
    have ew : x = x' := by
      rcases (w.2.2.2.1 p hp).2.1 with q | q
      · rw [bh_l (by omega)] at d1 er
        by_cases z : n - s = 0
        · rw [if_pos z, Nat.div_one, Nat.div_one] at er; exact er
        · rw [if_neg z] at d1; omega
      · obtain ⟨p', hp'⟩ : ∃ p' : Nat, S 84 (96 + (p : Int)) = (p' : Int) := ⟨(S 84 (96 + (p : Int))).toNat, by omega⟩
        have le1 : yM (S 84) p s * bhM (S 84) p (n - s) ≤ 200 := by
          refine Nat.le_trans (le_sm (n := n + 1) (f := fun s => yM (S 84) p s * bhM (S 84) p (n - s)) (i := s) (by omega)) ?_
          rw [← hr']; exact h2
        have yp : 0 < yM (S 84) p s := Nat.lt_of_le_of_lt (Nat.zero_le _) d2
        have le3 : bhM (S 84) p (n - s) ≤ 200 := Nat.le_trans (Nat.le_mul_of_pos_left _ yp) le1
        have eb : bhM (S 84) p (n - s) = rM (S 84) p' (n - s) := by
          rw [bh_n (by omega), hp', show ((p' : Nat) : Int).toNat = p' from rfl]
        rw [hp'] at e2 hI q
        rw [eb] at d3 d3' e2 hI er le3
        have := ih p' (n - s) _ _ (by omega) (by omega) (by omega) d3 d3' le3 (fun y hy y' hy' => hI y (List.mem_cons_of_mem _ hy) y' (List.mem_cons_of_mem _ hy')) e2
        exact dm_inj er this
    exact pk_inj hv hv' p1 q1 rfl ew
theorem prs_fx {M : Int → Int} (w : WF M) {f q : Nat} {ty : Int} {I : List (Nat × Nat × Nat)} (hq : (q : Int) < M 2) (h1 : ∀ y ∈ I, y.1 = q) (hf : ∀ y ∈ I, ∀ r, rdP M f y.1 (txt M 432 y ++ r) = some (cnl M y, y.2.1, r)) : ∀ z ∈ prs M I, (∃ (a : Int) (v : List Int), z.1 = a :: v ∧ a ≠ clS ty) ∧ fxd (rdP M f q) z := by
  intro z hz
  unfold prs at hz
  obtain ⟨y, y1, y2⟩ := List.mem_map.mp hz
  have q0 := hf y y1 []
  rw [List.append_nil, h1 y y1] at q0
  obtain ⟨a, u, v, e1, e2, e3⟩ := rdP_ate f _ _ _ _ _ q0
  rw [List.append_nil] at e1
  have q1 := q0
  rw [e1] at q1
  have hd := rdP_hd w f q a u _ hq q1
  rw [← y2]
  exact ⟨⟨a, v, e2, ncl_c hd⟩, rdP_fx f _ _ _ _ _ q0⟩
/-- two sequences alike as texts have like things -/
theorem sq_cq {M : Int → Int} (w : WF M) {f f' q : Nat} {ty : Int} {I I' : List (Nat × Nat × Nat)} (hq : (q : Int) < M 2) (h1 : ∀ y ∈ I, y.1 = q) (h1' : ∀ y ∈ I', y.1 = q) (l1 : I.length < 64) (l1' : I'.length < 64) (hf : ∀ y ∈ I, ∀ r, rdP M f y.1 (txt M 432 y ++ r) = some (cnl M y, y.2.1, r)) (hf' : ∀ y ∈ I', ∀ r, rdP M f' y.1 (txt M 432 y ++ r) = some (cnl M y, y.2.1, r)) (e : (sqL ty (I.map (cnl M))).flatten = (sqL ty (I'.map (cnl M))).flatten) : CQg ty (prs M I) (prs M I') := by
  obtain ⟨ds, d1, d2⟩ := cq_lift (ty := ty) (f := Prod.fst) (s := prs M I) (m := sqL ty (I.map (cnl M))) (by rw [prs_1]; exact sqL_cq ty _)
  obtain ⟨ds', d1', d2'⟩ := cq_lift (ty := ty) (f := Prod.fst) (s := prs M I') (m := sqL ty (I'.map (cnl M))) (by rw [prs_1]; exact sqL_cq ty _)
  have pl : (prs M I).length = I.length := by unfold prs; rw [List.length_map]
  have pl' : (prs M I').length = I'.length := by unfold prs; rw [List.length_map]
  have r1 := rdL_fx (rec := rdP M f q) (cl := clS ty) ds 64 (fun y hy => prs_fx w hq h1 hf y (d1.pm.mem_iff.mpr hy)) (by rw [← d1.pm.length_eq, pl]; exact l1) []
  have r2 := rdL_fx (rec := rdP M f' q) (cl := clS ty) ds' 64 (fun y hy => prs_fx w hq h1' hf' y (d1'.pm.mem_iff.mpr hy)) (by rw [← d1'.pm.length_eq, pl']; exact l1') []
  have ef : fl1 ds = fl1 ds' := by unfold fl1; rw [d2, d2', e]
  rw [← ef] at r2
  have r1' := rdL_mo (fun w x q => rdP_le (Nat.le_max_left f f') q) _ _ _ r1
  have r2' := rdL_mo (fun w x q => rdP_le (Nat.le_max_right f f') q) _ _ _ r2
  have ed := (Prod.mk.inj (Option.some.inj (r1'.symm.trans r2'))).1
  rw [← ed] at d1'
  exact d1.tr d1'.sy
theorem lists_eq {ty : Int} {n : Nat} {L L' : List (Nat × Nat)} (h : CQg ty L L') (p : seqP ty n L) (p' : seqP ty n L') : L = L' := by
  unfold CQg at h
  split at h
  · exact h
  · next c =>
    split at h
    · next d => exact lst_eq h (p.1 d).2 (p'.1 d).2
    · next d => exact dsl_eq (p.2 c d) (p'.2 c d) h
theorem TH {S : St} (h : Cor S) {E TE : Nat → Prop} {rO rT rK : Nat → Nat} (rk : RKs (S 84) E TE rO rT rK) : ∀ N p n : Nat, 54 * n + rO p < N → (∀ v, VN (S 84) (p, n, v) → ∃ c, CNx (S 84) (p, n, v) c) ∧ ∀ v v', VN (S 84) (p, n, v) → VN (S 84) (p, n, v') → cnl (S 84) (p, n, v) = cnl (S 84) (p, n, v') → v = v' := by
  have w := h.wf
  have hM1 := w.2.1
  have hM2 := w.2.2.1
  intro N
  induction N with
  | zero => intro p n a; omega
  | succ N ih =>
    intro p n hN
    -- what stands in it
    have its : ∀ v, VN (S 84) (p, n, v) → ∀ y ∈ itm (S 84) (p, n, v), VN (S 84) y ∧ (∃ c, CNx (S 84) y c) ∧ ∀ r', VN (S 84) (y.1, y.2.1, r') → cnl (S 84) y = cnl (S 84) (y.1, y.2.1, r') → y.2.2 = r' := fun v hv y hy => by
      obtain ⟨a1, a2, a3⟩ := itm_ok h rk hv y hy
      unfold ms at a2
      dsimp only at a2
      obtain ⟨b1, b2⟩ := ih y.1 y.2.1 (by omega)
      exact ⟨a1, b1 y.2.2 a1, fun r' hr e => b2 y.2.2 r' a1 hr e⟩
    have ndv : ∀ v, VN (S 84) (p, n, v) → isSq (S 84) p → S 84 (24 + (p : Int)) = 5 → ndp ((itm (S 84) (p, n, v)).map (cnl (S 84))) = true := fun v hv hs t5 => by
      have hv0 := hv
      obtain ⟨hp, hn, hv1, hv2⟩ : (p : Int) < S 84 2 ∧ (n : Int) ≤ S 84 1 ∧ v < yM (S 84) p n ∧ yM (S 84) p n ≤ 200 := hv
      have sp := sqI_p h hp hs hn hv1 hv2
      have ds := sp.2 (by omega) (by omega)
      rw [show (S 84 (24 + (p : Int)) == 5) = true by rw [t5]; rfl] at ds
      have ei : itm (S 84) (p, n, v) = (sqI (S 84) p n v).map (fun y => (chM (S 84) p, y.1, y.2)) := by
        unfold itm
        rw [if_neg (by dsimp only; omega), if_neg (by dsimp only; omega)]
      have I1 := its v hv0
      rw [ei] at I1
      rw [ndp_iff, ei, List.map_map]
      show List.Pairwise _ _
      rw [List.pairwise_map]
      refine List.Pairwise.imp_of_mem (fun {a b} ha hb hab e => hab ?_) (dsl_nd _ _ _ ds)
      obtain ⟨va, ⟨ca, hca⟩, ia⟩ := I1 _ (List.mem_map.mpr ⟨a, ha, rfl⟩)
      obtain ⟨vb, ⟨cb, hcb⟩, ib⟩ := I1 _ (List.mem_map.mpr ⟨b, hb, rfl⟩)
      have e' : cnl (S 84) (chM (S 84) p, a.1, a.2) = cnl (S 84) (chM (S 84) p, b.1, b.2) := e
      have ec : ca = cb := by rw [← hca.eq, ← hcb.eq]; exact e'
      subst ec
      have sz : a.1 = b.1 := cn_size hca hcb rfl
      have r2 : a.2 = b.2 := ia b.2 (by rw [show (chM (S 84) p, a.1, b.2) = (chM (S 84) p, b.1, b.2) by rw [sz]]; exact vb) (by rw [show (chM (S 84) p, a.1, b.2) = (chM (S 84) p, b.1, b.2) by rw [sz]]; exact e')
      exact Prod.ext sz r2
    have exi : ∀ v, VN (S 84) (p, n, v) → ∃ c, CNx (S 84) (p, n, v) c := fun v hv => by
      by_cases t1 : S 84 (24 + (p : Int)) ≤ 1
      · exact ⟨_, K_leaf h hv t1⟩
      · have ok : 0 ≤ S 84 (24 + (p : Int)) ∧ S 84 (24 + (p : Int)) ≤ 7 := (w.2.2.2.1 p hv.1).1
        by_cases ty : S 84 (24 + (p : Int)) = 2 ∨ S 84 (24 + (p : Int)) = 7
        · exact ⟨_, K_nm h hv ty (fun y hy => (its v hv y hy).2.1)⟩
        · have hs : isSq (S 84) p := by unfold isSq; omega
          exact ⟨_, K_sq h hv hs (fun y hy => (its v hv y hy).2.1) (fun t5 => ndv v hv hs t5)⟩
    refine ⟨exi, fun v v' hv hv' e => ?_⟩
    by_cases t1 : S 84 (24 + (p : Int)) ≤ 1
    · obtain ⟨hp, hn, v1, hv2⟩ : (p : Int) < S 84 2 ∧ (n : Int) ≤ S 84 1 ∧ v < yM (S 84) p n ∧ yM (S 84) p n ≤ 200 := hv
      have v2 : v' < yM (S 84) p n := hv'.2.2.1
      have yl := y_leaf h hp (n := n) (by omega)
      have ok : 0 ≤ S 84 (24 + (p : Int)) ∧ S 84 (24 + (p : Int)) ≤ 7 := (w.2.2.2.1 p hp).1
      have y1 : yM (S 84) p n ≤ 1 := by
        by_cases t0 : S 84 (24 + (p : Int)) = 0
        · rw [yl.1 t0]; split <;> omega
        · rw [yl.2 (by omega)]; split <;> omega
      omega
    · have ok : 0 ≤ S 84 (24 + (p : Int)) ∧ S 84 (24 + (p : Int)) ≤ 7 := (w.2.2.2.1 p hv.1).1
      by_cases ty : S 84 (24 + (p : Int)) = 2 ∨ S 84 (24 + (p : Int)) = 7
      · have k1 := (K_nm h hv ty (fun y hy => (its v hv y hy).2.1)).eq
        have k2 := (K_nm h hv' ty (fun y hy => (its v' hv' y hy).2.1)).eq
        rw [k1, k2] at e
        obtain ⟨lo, l0, e30, eE, ev1, e200, ex, p24⟩ := nm_ok h hv ty
        obtain ⟨lo', l0', e30', eE', ev2, e200', ex', p24'⟩ := nm_ok h hv' ty
        have hn := hv.2.1
        dsimp only at e30 eE ev1 e200 ev2 hn e k1 k2
        obtain ⟨t, u, a1, a2, a3, a4, a5, a6, a7⟩ := exI_ok h rk l0 eE hn ev1 e200
        obtain ⟨t', u', b1, b2, b3, b4, b5, b6, b7⟩ := exI_ok h rk l0 eE hn ev2 e200
        have cE := eE.1
        have cc : ((cnE (S 84) (exN (S 84) p) : Nat) : Int) = S 84 (198 + ((exN (S 84) p : Nat) : Int)) := by unfold cnE; omega
        have ei : ∀ v, itm (S 84) (p, n, v) = exI (S 84) (exN (S 84) p) n v := fun v => by unfold itm; rw [if_neg (by dsimp only; omega), if_pos ty]
        have I1 := its v hv
        have I2 := its v' hv'
        rw [ei] at e I1 I2
        rw [ei] at e
        -- the same term
        have tt : t = t' ∧ fl1 (prs (S 84) (exI (S 84) (exN (S 84) p) n v)) = fl1 (prs (S 84) (exI (S 84) (exN (S 84) p) n v')) := by
          unfold dgS at e
          by_cases c : cnE (S 84) (exN (S 84) p) ≤ 1
          · rw [if_pos c, if_pos c, List.nil_append, List.nil_append] at e
            exact ⟨by omega, e⟩
          · rw [if_neg c, if_neg c, a1, b1] at e
            obtain ⟨e1, e2⟩ := List.cons.inj e
            dsimp only at e1
            exact ⟨by omega, e2⟩
        obtain ⟨et, ef⟩ := tt
        subst et
        have q := (eE.2.1 t a2).2
        obtain ⟨F, hF⟩ : ∃ F : Nat, fpM (S 84) (exN (S 84) p) t = (F : Int) := ⟨(fpM (S 84) (exN (S 84) p) t).toNat, by omega⟩
        rw [hF, show ((F : Nat) : Int).toNat = F from rfl] at a4 a5 a6 b6 b4
        rw [a6] at ef I1
        rw [b6] at ef I2
        obtain ⟨f1, hf1⟩ := cn_fuel _ (fun y hy => (I1 y hy).2.1)
        obtain ⟨f2, hf2⟩ := cn_fuel _ (fun y hy => (I2 y hy).2.1)
        have r1 := rdC_fx (rdP_fx f1) 25 _ _ _ _ (rdC_it w 24 F n u 25 (by omega) (by omega) (by omega) hf1 []) []
        have r2 := rdC_fx (rdP_fx f2) 25 _ _ _ _ (rdC_it w 24 F n u' 25 (by omega) (by omega) (by omega) hf2 []) []
        rw [← ef] at r2
        have r1' := rdC_mo (fun p w x q => rdP_le (Nat.le_max_left f1 f2) q) _ _ _ _ r1
        have r2' := rdC_mo (fun p w x q => rdP_le (Nat.le_max_right f1 f2) q) _ _ _ _ r2
        have ep := (Prod.mk.inj (Option.some.inj (r1'.symm.trans r2'))).1
        have eu := tm_inj h 24 F n u u' (by omega) hn (by omega) a4 b4 a5 (fun y hy y' hy' x1 x2 x3 => by
          obtain ⟨va, _, ia⟩ := I1 y hy
          obtain ⟨vb, _, ib⟩ := I2 y' hy'
          have e3 : (y.1, y.2.1, y'.2.2) = y' := by rw [x1, x2]
          exact ia y'.2.2 (by rw [e3]; exact vb) (by rw [e3]; exact x3)) ep
        have sh : sm (cnE (S 84) (exN (S 84) p)) (fun t => byM (S 84) (exN (S 84) p) t n) = sm (cnE (S 84) (exN (S 84) p)) (fun i => (fun t => byM (S 84) (exN (S 84) p) t n) (0 + i)) := sm_congr fun i _ => by rw [Nat.zero_add]
        rw [sh] at ev1 ev2
        unfold tmP at a1 b1
        exact pk_inj (g := fun t => byM (S 84) (exN (S 84) p) t n) (f := cnE (S 84) (exN (S 84) p)) (s := 0) (t := t) (t' := t) (w := u) (w' := u') (v := v) (v' := v') ev1 ev2 a1 b1 rfl eu
      · have hs : isSq (S 84) p := by unfold isSq; omega
        have hs' := hs
        unfold isSq at hs'
        have k1 := (K_sq h hv hs (fun y hy => (its v hv y hy).2.1) (fun t5 => ndv v hv hs t5)).eq
        have k2 := (K_sq h hv' hs (fun y hy => (its v' hv' y hy).2.1) (fun t5 => ndv v' hv' hs t5)).eq
        rw [k1, k2] at e
        have e2 := List.append_cancel_right (List.cons.inj e).2
        have I1 := its v hv
        have I2 := its v' hv'
        obtain ⟨hp, hn, hv1, hv2⟩ : (p : Int) < S 84 2 ∧ (n : Int) ≤ S 84 1 ∧ v < yM (S 84) p n ∧ yM (S 84) p n ≤ 200 := hv
        have hv1' : v' < yM (S 84) p n := hv'.2.2.1
        have k6 := (w.2.2.2.1 p hp).2.2.2.2.2 hs
        have ei : ∀ v, itm (S 84) (p, n, v) = (sqI (S 84) p n v).map (fun y => (chM (S 84) p, y.1, y.2)) := fun v => by
          unfold itm
          rw [if_neg (by dsimp only; omega), if_neg (by dsimp only; omega)]
        obtain ⟨x1, x2, x3, x4⟩ := sqI_ok h hp hs hn hv1 hv2
        obtain ⟨y1, y2, y3, y4⟩ := sqI_ok h hp hs hn hv1' hv2
        have lx := (ok_sm x1 x2).1
        have ly := (ok_sm y1 y2).1
        dsimp only at e2
        rw [ei] at e2 I1 I2
        rw [ei] at e2
        have c1 : ∀ (L : List (Nat × Nat)), ∀ y ∈ L.map (fun y => (chM (S 84) p, y.1, y.2)), y.1 = chM (S 84) p := fun L y hy => by
          obtain ⟨z, _, z2⟩ := List.mem_map.mp hy
          rw [← z2]
        obtain ⟨f1, hf1⟩ := cn_fuel _ (fun y hy => (I1 y hy).2.1)
        obtain ⟨f2, hf2⟩ := cn_fuel _ (fun y hy => (I2 y hy).2.1)
        have cq := sq_cq w (q := chM (S 84) p) (ty := S 84 (24 + (p : Int))) (by unfold chM; omega) (c1 _) (c1 _) (by rw [List.length_map]; omega) (by rw [List.length_map]; omega) hf1 hf2 e2
        unfold prs at cq
        rw [List.map_map, List.map_map] at cq
        have cqL := cq_on (fun a ha b hb q => by
          obtain ⟨q1, q2⟩ := Prod.mk.inj q
          obtain ⟨va, _, ia⟩ := I1 _ (List.mem_map.mpr ⟨a, ha, rfl⟩)
          obtain ⟨vb, _, ib⟩ := I2 _ (List.mem_map.mpr ⟨b, hb, rfl⟩)
          have sz : a.1 = b.1 := q2
          have e' : cnl (S 84) (chM (S 84) p, a.1, a.2) = cnl (S 84) (chM (S 84) p, b.1, b.2) := q1
          have r2 : a.2 = b.2 := ia b.2 (by rw [show (chM (S 84) p, a.1, b.2) = (chM (S 84) p, b.1, b.2) by rw [sz]]; exact vb) (by rw [show (chM (S 84) p, a.1, b.2) = (chM (S 84) p, b.1, b.2) by rw [sz]]; exact e')
          exact Prod.ext sz r2) cq
        have eL := lists_eq cqL (sqI_p h hp hs hn hv1 hv2) (sqI_p h hp hs hn hv1' hv2)
        exact sqI_inj h hp hs hn hv1 hv1' hv2 eL
