/-! bounds of moves: all things -/
theorem mv_step {S : St} {E TE KE : Nat → Prop} {rO rT rK ent : Nat → Nat} {U : Nat → Bool} (c : Ctx S E TE KE rO rT rK ent U) {f : Nat} (i1 : H1 S rO ent U f) (i2 : H2 S E rO ent U f) : H1 S rO ent U (f + 1) ∧ H2 S E rO ent U (f + 1) := by
  have c' := c
  obtain ⟨⟨h, o, rk⟩, ok, u, en, hU⟩ := c
  have w := h.wf
  have hM0 := w.1
  have hM1 := w.2.1
  have hM2 := w.2.2.1
  have O3 : ∀ b, 3 ≤ om (cXe U ent b) := fun b => om_3 (Nat.le_trans cx_tot cx_24)
  have all : ∀ x, VN (S 84) x → mvN (S 84) (f + 1) x + 1 ≤ om (cXe U ent (rO x.1)) + exA (cTt U) x.2.1 ∧ (1 ≤ x.2.1 → ¬ E x.1 → mvN (S 84) (f + 1) x ≤ (2 * x.2.1 - 2) * omK (cTt U) + (cXe (fun q => !U q) ent (rO x.1) + 2) * (om (cTt U) + 2)) := by
    intro x hx
    have vn := itm_vn h hx
    obtain ⟨p, n, v⟩ := x
    have hx' := hx
    obtain ⟨hp, hn, hv, h2⟩ := hx
    dsimp only at hp hn hv h2
    obtain ⟨o1, o2, o3, o4, o5, o6⟩ := o.2.2.1 p hp
    obtain ⟨ok1, ok2, ok3, ok4, ok5, ok6⟩ := w.2.2.2.1 p hp
    have o3' := O3 (rO p)
    show (1 + (if isQb (S 84) p then 1 else 0) + mvL (itm (S 84) (p, n, v)) (mvN (S 84) f)) + 1 ≤ om (cXe U ent (rO p)) + exA (cTt U) n ∧ (1 ≤ n → ¬ E p → 1 + (if isQb (S 84) p then 1 else 0) + mvL (itm (S 84) (p, n, v)) (mvN (S 84) f) ≤ (2 * n - 2) * omK (cTt U) + (cXe (fun q => !U q) ent (rO p) + 2) * (om (cTt U) + 2))
    have vle := cV_le (U := U) (ent := ent) (b := rO p)
    have v2 : om (cTt U) + 2 ≤ (cXe (fun q => !U q) ent (rO p) + 2) * (om (cTt U) + 2) := Nat.le_mul_of_pos_left _ (by omega)
    have oc : 3 ≤ om (cTt U) := om_3 cx_24
    have exn : 1 ≤ n → exA (cTt U) n = (2 * n - 2) * omK (cTt U) + omP (cTt U) := fun z => if_neg (by omega)
    by_cases hs : isSq (S 84) p
    · rw [if_pos (qb_t hs)]
      obtain ⟨x1, x2, x3, x4⟩ := sqI_ok h hp hs hn hv h2
      have hs' := hs
      unfold isSq at hs'
      have k6 := ok6 hs
      have ei : itm (S 84) (p, n, v) = (sqI (S 84) p n v).map (fun y => (chM (S 84) p, y.1, y.2)) := by
        unfold itm
        rw [if_neg (by dsimp only; omega), if_neg (by dsimp only; omega)]
      have ec : ((chM (S 84) p : Nat) : Int) = S 84 (72 + (p : Int)) := by unfold chM; omega
      have nE : ¬ E (chM (S 84) p) := ok p hp hs
      rw [ei] at vn ⊢
      rcases Nat.eq_zero_or_pos n with n0 | n1
      · subst n0
        have e0 : sqI (S 84) p 0 v = [] := by
          cases hL : sqI (S 84) p 0 v with
          | nil => rfl
          | cons y l =>
            rw [hL] at x1 x2
            have := (x1 y (List.mem_cons_self ..)).1
            have t : y.1 + tot l = 0 := x2
            omega
        rw [e0]
        refine ⟨?_, fun z => absurd z (by decide)⟩
        show 1 + 1 + 0 + 1 ≤ _
        omega
      · by_cases z : ∃ y ∈ sqI (S 84) p n v, y.1 = n
        · obtain ⟨y, y1, y2⟩ := z
          have one := ok_one x1 x2 y1 y2
          have nuW : nuM (S 84) p = if S 84 (48 + (p : Int)) = 0 then -1 else S 84 (48 + (p : Int)) := rfl
          have v1 : S 84 (48 + (p : Int)) ≤ 1 := by
            by_cases v0 : S 84 (48 + (p : Int)) = 0
            · omega
            · have := x3 (by rw [nuW, if_neg v0]; omega)
              rw [one, nuW, if_neg v0] at this
              have l1 : (([y] : List (Nat × Nat)).length : Int) = 1 := rfl
              omega
          have rr : rO (chM (S 84) p) < rO p := by
            have := o3 ⟨hs.1, hs.2, v1⟩
            unfold chM
            exact this
          have hy := i2 (chM (S 84) p, y.1, y.2) (vn _ (List.mem_map.mpr ⟨y, y1, rfl⟩)) (by dsimp only; omega) nE
          dsimp only at hy
          have eo : ent (chM (S 84) p) = rO p := en _ _ (by omega) (Or.inr ⟨p, by omega, hs, by rw [ec], rfl⟩)
          have uf : (fun q => !U q) (chM (S 84) p) = true := by
            cases hb : U (chM (S 84) p) with
            | false => simp [hb]
            | true =>
              obtain ⟨e', t', k', b1, b2, b3, b4, b5⟩ := (hU _).mp hb
              exact (ch_child w u b1 b2 b3 (show p < 24 by omega) hs ec.symm b5).elim
          have st := cx_step (X := fun q => !U q) (ent := ent) (b' := rO (chM (S 84) p)) (b := rO p) (E0 := rO p) (m := 1) rr (Nat.le_refl _) (by
            have := le_sm (n := 24) (f := fun q => if (fun q => !U q) q = true ∧ ent q = rO p then 1 else 0) (i := chM (S 84) p) (by omega)
            try dsimp only at this
            rw [if_pos ⟨uf, eo⟩] at this
            exact this)
          have m1 : (cXe (fun q => !U q) ent (rO (chM (S 84) p)) + 2) * (om (cTt U) + 2) + (om (cTt U) + 2) ≤ (cXe (fun q => !U q) ent (rO p) + 2) * (om (cTt U) + 2) := by
            have := Nat.mul_le_mul_right (om (cTt U) + 2) (show cXe (fun q => !U q) ent (rO (chM (S 84) p)) + 2 + 1 ≤ cXe (fun q => !U q) ent (rO p) + 2 by omega)
            rw [Nat.add_mul _ 1, Nat.one_mul] at this
            exact this
          rw [y2] at hy
          rw [one]
          show (1 + 1 + (mvN (S 84) f (chM (S 84) p, y.1, y.2) + 0)) + 1 ≤ _ ∧ (_ → _ → 1 + 1 + (mvN (S 84) f (chM (S 84) p, y.1, y.2) + 0) ≤ _)
          rw [y2, exn n1]
          exact ⟨by omega, fun _ _ => by omega⟩
        · have sz : szL ((sqI (S 84) p n v).map (fun y => (chM (S 84) p, y.1, y.2))) = n := by rw [szL_map, x2]
          have prop : ∀ y ∈ (sqI (S 84) p n v).map (fun y => (chM (S 84) p, y.1, y.2)), 1 ≤ y.2.1 ∧ y.2.1 < n := fun y hy => by
            obtain ⟨q, q1, q2⟩ := List.mem_map.mp hy
            subst q2
            have a := (x1 q q1).1
            have b := (ok_sm x1 x2).2 q q1
            have c : q.1 ≠ n := fun e => z ⟨q, q1, e⟩
            exact ⟨a, by show q.1 < n; omega⟩
          have r := mvL_few (g := mvN (S 84) f) (O := 0) (K := omK (cTt U)) (l := (sqI (S 84) p n v).map (fun y => (chM (S 84) p, y.1, y.2))) (fun y hy => by
            refine Or.inr ⟨(prop y hy).1, ?_⟩
            have a := i1 y (vn y hy)
            have b := om_mo (a := cXe U ent (rO y.1)) (b := cTt U) cx_tot cx_24
            unfold exA at a
            rw [if_neg (by have := (prop y hy).1; omega)] at a
            rw [show 2 * y.2.1 - 1 = (2 * y.2.1 - 2) + 1 by have := (prop y hy).1; omega, Nat.add_mul, Nat.one_mul]
            have : omK (cTt U) = om (cTt U) + omP (cTt U) := rfl
            omega)
          have q := Nat.mul_le_mul_right (omK (cTt U)) (hsS_le n1 (fun y hy => (prop y hy).2) (by rw [sz]; exact Nat.le_refl _))
          rw [Nat.mul_zero, Nat.zero_add] at r
          rw [exn n1]
          exact ⟨by omega, fun _ _ => by omega⟩
    · rw [qb_f hs, if_neg (by decide), Nat.add_zero]
      by_cases t1 : S 84 (24 + (p : Int)) ≤ 1
      · have ei : itm (S 84) (p, n, v) = [] := by unfold itm; rw [if_pos (by dsimp only; omega)]
        rw [ei]
        show 1 + 0 + 1 ≤ _ ∧ (_ → _ → 1 + 0 ≤ _)
        exact ⟨by omega, fun _ _ => by omega⟩
      · have ty : S 84 (24 + (p : Int)) = 2 ∨ S 84 (24 + (p : Int)) = 7 := by unfold isSq at hs; omega
        obtain ⟨lo, l0, e30, eE, ev', e200, ex, p24⟩ := nm_ok h (x := (p, n, v)) hx' ty
        dsimp only at e30 eE ev' e200
        obtain ⟨t, u', a1, a2, a3, a4, a5, a6, a7⟩ := exI_ok h rk l0 eE hn ev' e200
        have q := (eE.2.1 t a2).2
        have ei : itm (S 84) (p, n, v) = exI (S 84) (exN (S 84) p) n v := by unfold itm; rw [if_neg (by dsimp only; omega), if_pos ty]
        have hF : 0 ≤ fpM (S 84) (exN (S 84) p) t ∧ fpM (S 84) (exN (S 84) p) t < S 84 2 := by omega
        rw [Int.toNat_of_nonneg hF.1] at a6
        have sz := tmI_size h 24 (fpM (S 84) (exN (S 84) p) t).toNat n u' (by omega) hn a4 a5
        rw [Int.toNat_of_nonneg hF.1] at sz
        rw [a6] at a7
        -- its rank, whether it may be empty
        have own : oRk rO rK (exN (S 84) p) ≤ rO p ∧ rT (fpM (S 84) (exN (S 84) p) t).toNat < oRk rO rK (exN (S 84) p) ∧ (TE (fpM (S 84) (exN (S 84) p) t).toNat → E p) := by
          unfold oRk
          rcases ty with t2 | t7
          · have k4 := ok4 t2
            have ek : exN (S 84) p = (S 84 (48 + (p : Int))).toNat := rfl
            have he : ((exN (S 84) p : Nat) : Int) < S 84 0 := by rw [ek]; omega
            have r1 : rK (exN (S 84) p) < rO p := o1 t2
            have r2 := o.2.2.2 _ he t a2
            rw [if_pos (by omega)]
            exact ⟨by omega, r2, fun hT => (o.1 p hp).2.1 t2 (o.2.1 _ he t a2 hT)⟩
          · obtain ⟨k1, k2, k3⟩ := ok5 t7
            have ek : exN (S 84) p = 6 + p := by unfold exN; omega
            rw [ek] at a2 ⊢
            have r1 := o2 t7 t a2
            rw [if_neg (by omega), show 6 + p - 6 = p by omega]
            exact ⟨Nat.le_refl _, r1, fun hT => (o.1 p hp).2.2.1 t7 t a2 hT⟩
        rw [ei, a6]
        by_cases ae : allE (S 84) E (fpM (S 84) (exN (S 84) p) t)
        · have A := chA c' i1 (f := f) (n := n) (v := u') e30 a2 hF own.1 own.2.1 (fun y hy => (a7 y hy).1) sz ae
          refine ⟨by omega, fun _ ne => absurd (own.2.2 ?_) ne⟩
          refine (allE_rk w o 24 (fpM (S 84) (exN (S 84) p) t).toNat (by omega) (by omega) ?_).1
          rw [Int.toNat_of_nonneg hF.1]
          exact ae
        · obtain ⟨n1, B⟩ := chB c' i1 i2 (f := f) (n := n) (v := u') e30 a2 hF own.1 own.2.1 a7 sz ae
          rw [exn n1]
          exact ⟨by omega, fun _ _ => by omega⟩
  exact ⟨fun x hx => (all x hx).1, fun x hx a b => (all x hx).2 a b⟩
theorem mv_all {S : St} {E TE KE : Nat → Prop} {rO rT rK ent : Nat → Nat} {U : Nat → Bool} (c : Ctx S E TE KE rO rT rK ent U) : ∀ f : Nat, H1 S rO ent U f ∧ H2 S E rO ent U f := by
  intro f
  induction f with
  | zero =>
    refine ⟨fun x _ => ?_, fun x _ _ _ => Nat.zero_le _⟩
    show 0 + 1 ≤ _
    have := om_3 (a := cXe U ent (rO x.1)) (Nat.le_trans cx_tot cx_24)
    omega
  | succ f ih => exact mv_step c ih.1 ih.2
/-- one order for both -/
theorem rks_nex {S : St} (h : Cor S) (nx' : NEX (S 84)) : ∃ (E TE KE : Nat → Prop) (rO rT rK : Nat → Nat), Ord (S 84) E TE KE rO rT rK ∧ RKs (S 84) E TE rO rT rK ∧ okN (S 84) E := by
  obtain ⟨E, TE, rO, rT, rK, ⟨KE, o⟩, r54, sup⟩ := h.rks
  obtain ⟨E', TE', KE', rO', rT', rK', o', n'⟩ := nx'
  have k : Ord (S 84) (fun p => E p ∧ E' p) (fun p => TE p ∧ TE' p) (fun p => KE p ∧ KE' p) rO rT rK := by
    refine ⟨fun p hp => ?_, fun e he t ht x => ⟨o.2.1 e he t ht x.1, o'.2.1 e he t ht x.2⟩, fun p hp => ?_, o.2.2.2⟩
    · obtain ⟨c1, c2, c3, c4, c5, c6⟩ := o.1 p hp
      obtain ⟨d1, d2, d3, d4, d5, d6⟩ := o'.1 p hp
      exact ⟨fun a => ⟨c1 a, d1 a⟩, fun a b => ⟨c2 a b.1, d2 a b.2⟩, fun a t ht b => ⟨c3 a t ht b.1, d3 a t ht b.2⟩, fun a => ⟨c4 a, d4 a⟩, fun a b => ⟨c5 a.1 b, d5 a.2 b⟩, fun a b x => ⟨c6 a.1 b x.1, d6 a.2 b x.2⟩⟩
    · obtain ⟨c1, c2, c3, c4, c5, c6⟩ := o.2.2.1 p hp
      exact ⟨c1, c2, c3, c4, fun a b => c5 a b.1, fun a b => c6 a b.1⟩
  have s := (YP_sol (l := -1) h.wf k (by decide)).2.2
  exact ⟨_, _, _, rO, rT, rK, k, ⟨⟨_, k⟩, r54, s⟩, fun p hp hs x => n' p hp hs x.2⟩
theorem mv_999 {S : St} (h : Cor S) (nx' : NEX (S 84)) (hh : ∃ hm, HM (S 84) hm) (lk : LK (S 84)) {e n v : Nat} (x : isTh (S 84) e n v) : mvL (exI (S 84) e n v) (mvN (S 84) 432) ≤ 999990 := by
  obtain ⟨hm, hh⟩ := hh
  obtain ⟨E, TE, KE, rO, rT, rK, o, rk, ok⟩ := rks_nex h nx'
  have w := h.wf
  have hM0 := w.1
  have hM1 := w.2.1
  have u := uq_of w hh lk
  obtain ⟨ent, en⟩ := own_ent (rO := rO) (rK := rK) w u
  obtain ⟨U, hU⟩ : ∃ U : Nat → Bool, ∀ q, U q = true ↔ Usb (S 84) E q := ⟨fun q => @decide (Usb (S 84) E q) (Classical.propDecidable _), fun q => @decide_eq_true_iff (Usb (S 84) E q) (Classical.propDecidable _)⟩
  have c : Ctx S E TE KE rO rT rK ent U := ⟨⟨h, o, rk⟩, ok, u, en, hU⟩
  obtain ⟨i1, i2⟩ := mv_all c 432
  obtain ⟨k1, k2, k3, k4⟩ := x
  have e' : kM (S 84) e n = sm (cnE (S 84) e) (fun t => byM (S 84) e t n) := by
    rcases ev_to (k_terms h k1 (n := n) (by omega)) with q | ⟨q, _⟩
    · exact q
    · rw [CC_eq] at q; omega
  have oE := w.2.2.2.2.1 e k1
  obtain ⟨tt, u', a1, a2, a3, a4, a5, a6, a7⟩ := exI_ok h rk (show (0 : Int) ≤ 0 by omega) oE k2 (by rw [← e']; exact k3) (by rw [← e']; exact k4)
  have q := (oE.2.1 tt a2).2
  have hF : 0 ≤ fpM (S 84) e tt ∧ fpM (S 84) e tt < S 84 2 := by omega
  rw [Int.toNat_of_nonneg hF.1] at a6
  have sz := tmI_size h 24 (fpM (S 84) e tt).toNat n u' (by omega) k2 a4 a5
  rw [Int.toNat_of_nonneg hF.1] at sz
  rw [a6] at a7 ⊢
  have r2 := o.2.2.2 _ k1 tt a2
  have eo : oRk rO rK e = rK e := if_pos (by omega)
  have K := omK_all (a := cTt U) cx_24
  have ek : omK (cTt U) = om (cTt U) + omP (cTt U) := rfl
  have m12 : (2 * n - 2) * omK (cTt U) ≤ 12 * omK (cTt U) := Nat.mul_le_mul_right _ (by omega)
  by_cases ae : allE (S 84) E (fpM (S 84) e tt)
  · have A := chA c i1 (f := 432) (n := n) (v := u') (b := rK e) (show e < 30 by omega) a2 hF (by omega) (by omega) (fun y hy => (a7 y hy).1) sz ae
    have b := om_mo (a := cXe U ent (rK e)) (b := cTt U) cx_tot cx_24
    have ex : exA (cTt U) n ≤ 12 * omK (cTt U) + omP (cTt U) := by
      unfold exA
      split <;> omega
    omega
  · obtain ⟨n1, B⟩ := chB c i1 i2 (f := 432) (n := n) (v := u') (b := rK e) (show e < 30 by omega) a2 hF (by omega) (by omega) a7 sz ae
    have vle := cV_le (U := U) (ent := ent) (b := rK e)
    omega
/-- all that spelling needs -/
theorem spb_all {S : St} (h : Cor S) (nx' : NEX (S 84)) (dp : ∃ d, DP (S 84) d) (hh : ∃ hm, HM (S 84) hm) (lk : LK (S 84)) : SPB (S 84) := spb_of h dp hh (fun _ _ _ x => mv_999 h nx' hh lk x)
