/-! bounds: the stack's height -/
theorem hg_le {S : St} {E TE : Nat → Prop} {rO rT rK d hm : Nat → Nat} (h : Cor S) (rk : RKs (S 84) E TE rO rT rK) (dp : DP (S 84) d) (hh : HM (S 84) hm) : ∀ (f : Nat) (x : Nat × Nat × Nat), VN (S 84) x → hgN (S 84) f x ≤ 100 * x.2.1 + Dp d hm rK rO x.1 := by
  intro f
  induction f with
  | zero => intro x _; exact Nat.zero_le _
  | succ f ih =>
    intro x hx
    have vn := itm_vn h hx
    obtain ⟨p, n, v⟩ := x
    have hx' := hx
    obtain ⟨hp, hn, hv, h2⟩ := hx
    dsimp only at hp hn hv h2
    have w := h.wf
    have hM1 := w.2.1
    have hM2 := w.2.2.1
    have rk' := rk
    obtain ⟨⟨KE, o⟩, r54, sup⟩ := rk
    obtain ⟨o1, o2, o3, o4, o5, o6⟩ := o.2.2.1 p hp
    obtain ⟨ok1, ok2, ok3, ok4, ok5, ok6⟩ := w.2.2.2.1 p hp
    show (if isQb (S 84) p then 1 else 0) + max (itm (S 84) (p, n, v)).length (hgL (itm (S 84) (p, n, v)) (hgN (S 84) f)) ≤ 100 * n + Dp d hm rK rO p
    by_cases hs : isSq (S 84) p
    · rw [if_pos (qb_t hs)]
      obtain ⟨x1, x2, x3, x4⟩ := sqI_ok h hp hs hn hv h2
      have len := (ok_sm x1 x2).1
      have hs' := hs
      unfold isSq at hs'
      have k6 := ok6 hs
      have ei : itm (S 84) (p, n, v) = (sqI (S 84) p n v).map (fun y => (chM (S 84) p, y.1, y.2)) := by
        unfold itm
        rw [if_neg (by dsimp only; omega), if_neg (by dsimp only; omega)]
      have ec : ((chM (S 84) p : Nat) : Int) = S 84 (72 + (p : Int)) := by unfold chM; omega
      have e1 : hm (chM (S 84) p) = hm p := hh.2.2.1 p _ hp (Or.inr (Or.inl ⟨hs, ec⟩))
      have e2 : d (chM (S 84) p) = d p + 1 := ((dp.2 p hp).2.2.1 hs).2
      have cl1 : 1 ≤ cLv d hm (hm p) (d p + 1) := by
        have := le_sm (n := 24) (f := fun q => if hm q = hm p ∧ d q = d p + 1 then 1 else 0) (i := chM (S 84) p) (by omega)
        try dsimp only at this
        rw [if_pos ⟨e1, e2⟩] at this
        exact this
      have D1 : 1 ≤ Dp d hm rK rO p := by
        have := le_sm (n := 24) (f := fun q => if hm q = hm p ∧ d p < d q then 1 else 0) (i := chM (S 84) p) (by omega)
        try dsimp only at this
        rw [if_pos ⟨e1, by omega⟩] at this
        unfold Dp
        omega
      rw [ei] at vn ⊢
      rw [List.length_map]
      by_cases z : ∃ y ∈ sqI (S 84) p n v, y.1 = n
      · obtain ⟨y, y1, y2⟩ := z
        have one := ok_one x1 x2 y1 y2
        have n1 := (x1 y y1).1
        have nuW : nuM (S 84) p = if S 84 (48 + (p : Int)) = 0 then -1 else S 84 (48 + (p : Int)) := rfl
        have v1 : S 84 (48 + (p : Int)) ≤ 1 := by
          by_cases v0 : S 84 (48 + (p : Int)) = 0
          · omega
          · have := x3 (by rw [nuW, if_neg v0]; omega)
            rw [one, nuW, if_neg v0] at this
            have l1 : (([y] : List (Nat × Nat)).length : Int) = 1 := rfl
            omega
        have rr : rO (chM (S 84) p) < rO p := by
          have := o3 ⟨hs.1, hs.2, v1⟩
          unfold chM
          exact this
        have di := Dp_in (d := d) (hm := hm) (rK := rK) (rO := rO) e1 e2 rr
        have hy := ih (chM (S 84) p, y.1, y.2) (vn _ (List.mem_map.mpr ⟨y, y1, rfl⟩))
        dsimp only at hy
        rw [one]
        show 1 + max 1 (max (0 + hgN (S 84) f (chM (S 84) p, y.1, y.2)) 0) ≤ _
        rw [y2] at hy n1
        rw [y2]
        omega
      · have hB : hgL ((sqI (S 84) p n v).map (fun y => (chM (S 84) p, y.1, y.2))) (hgN (S 84) f) ≤ ((sqI (S 84) p n v).map (fun y => (chM (S 84) p, y.1, y.2))).length + (100 * (n - 1) + 48) := hgL_le (fun y hy => by
          have a := ih y (vn y hy)
          obtain ⟨u, u1, u2⟩ := List.mem_map.mp hy
          have b := (ok_sm x1 x2).2 u u1
          have c : u.1 ≠ n := fun q => z ⟨u, u1, q⟩
          have e := Dp_48 (d := d) (hm := hm) (rK := rK) (rO := rO) (p := y.1)
          have g : y.2.1 = u.1 := by rw [← u2]
          omega)
        rw [List.length_map] at hB
        rcases Nat.eq_zero_or_pos (sqI (S 84) p n v).length with l0 | l0
        · have e0 : (sqI (S 84) p n v) = [] := List.eq_nil_of_length_eq_zero l0
          rw [e0]
          show 1 + max 0 0 ≤ _
          omega
        · omega
    · rw [qb_f hs, if_neg (by decide), Nat.zero_add]
      by_cases t1 : S 84 (24 + (p : Int)) ≤ 1
      · have ei : itm (S 84) (p, n, v) = [] := by unfold itm; rw [if_pos (by dsimp only; omega)]
        rw [ei]
        exact Nat.zero_le _
      · have ty : S 84 (24 + (p : Int)) = 2 ∨ S 84 (24 + (p : Int)) = 7 := by unfold isSq at hs; omega
        obtain ⟨lo, l0, e30, eE, ev', e200, ex, p24⟩ := nm_ok h (x := (p, n, v)) hx' ty
        dsimp only at e30 eE ev' e200
        obtain ⟨t, u, a1, a2, a3, a4, a5, a6, a7⟩ := exI_ok h rk' l0 eE hn ev' e200
        have q := (eE.2.1 t a2).2
        have ei : itm (S 84) (p, n, v) = exI (S 84) (exN (S 84) p) n v := by unfold itm; rw [if_neg (by dsimp only; omega), if_pos ty]
        obtain ⟨F, hF⟩ : ∃ F, F = (fpM (S 84) (exN (S 84) p) t).toNat := ⟨_, rfl⟩
        have F2 : (F : Int) < S 84 2 := by omega
        rw [← hF] at a4 a5 a6 a7
        have lv := tmI_lv w dp hh 24 F n u F2
        have cl := chn_cL w dp hh (f := 24) (p := F) F2
        rw [← tmI_len 24 (F : Int) n u] at cl
        -- what is of this size below has less, by as many as stand in the term
        have key : cLv d hm (hm F) (d F) ≤ Dp d hm rK rO p ∧ ∀ y : Nat, hm y = hm F → d y = d F → rO y < rT F → Dp d hm rK rO y + cLv d hm (hm F) (d F) ≤ Dp d hm rK rO p := by
          rcases ty with t2 | t7
          · have k4 := ok4 t2
            have ek : exN (S 84) p = (S 84 (48 + (p : Int))).toNat := rfl
            have he : ((exN (S 84) p : Nat) : Int) < S 84 0 := by rw [ek]; omega
            have f1 : hm F = exN (S 84) p := by rw [hF]; exact hh.2.1 _ t he a2
            have f2 : d F = 0 := by rw [hF]; exact dp.1 _ t he a2
            have r1 : rK (exN (S 84) p) < rO p := o1 t2
            have r2 : rT F < rK (exN (S 84) p) := by rw [hF]; exact o.2.2.2 _ he t a2
            rw [f1, f2]
            refine ⟨?_, fun y y1 y2 y3 => Dp_nm y1 y2 r1 (by omega)⟩
            unfold Dp cLv
            have := sm_mono (n := 24) (f := fun q => if hm q = exN (S 84) p ∧ d q = 0 then 1 else 0) (g := fun q => if rK (hm q) < rO p then 1 else 0) (fun i _ => by
              try dsimp only
              split
              · next hc => rw [if_pos (by rw [hc.1]; exact r1)]; exact Nat.le_refl _
              · exact Nat.zero_le _)
            omega
          · obtain ⟨k1, k2, k3⟩ := ok5 t7
            have ek : exN (S 84) p = 6 + p := by unfold exN; omega
            rw [ek] at a2 hF
            have f1 : hm F = hm p := hh.2.2.1 p F hp (Or.inr (Or.inr ⟨t7, t, a2, by rw [ek] at q; omega⟩))
            have f2 : d F = d p + 1 := by rw [hF]; exact ((dp.2 p hp).2.1 t7).2 t a2
            have r1 : rT F < rO p := by rw [hF]; exact o2 t7 t a2
            rw [f1, f2]
            refine ⟨?_, fun y y1 y2 y3 => Dp_in y1 y2 (by omega)⟩
            unfold Dp cLv
            have := sm_mono (n := 24) (f := fun q => if hm q = hm p ∧ d q = d p + 1 then 1 else 0) (g := fun q => if hm q = hm p ∧ d p < d q then 1 else 0) (fun i _ => by
              try dsimp only
              split
              · next hc => rw [if_pos ⟨hc.1, by omega⟩]; exact Nat.le_refl _
              · exact Nat.zero_le _)
            omega
        have c24 := cLv_24 (d := d) (hm := hm) (k := hm F) (l := d F)
        rw [ei] at vn ⊢
        have hB : hgL (exI (S 84) (exN (S 84) p) n v) (hgN (S 84) f) ≤ (exI (S 84) (exN (S 84) p) n v).length + (100 * n + Dp d hm rK rO p - cLv d hm (hm F) (d F)) := hgL_le (fun y hy => by
          have a := ih y (vn y hy)
          obtain ⟨-, b2, b3⟩ := a7 y hy
          rw [a6] at hy
          obtain ⟨c1, c2⟩ := lv y hy
          rcases b3 with z | z
          · have := Dp_48 (d := d) (hm := hm) (rK := rK) (rO := rO) (p := y.1)
            have := key.1
            omega
          · have := key.2 y.1 c1 c2 z
            omega)
        have := key.1
        rw [a6] at hB ⊢
        omega
theorem hg_1000 {S : St} (h : Cor S) (dp : ∃ d, DP (S 84) d) (hh : ∃ hm, HM (S 84) hm) {x : Nat × Nat × Nat} (hx : VN (S 84) x) : hgN (S 84) 432 x ≤ 1000 := by
  obtain ⟨d, dp⟩ := dp
  obtain ⟨hm, hh⟩ := hh
  obtain ⟨E, TE, rO, rT, rK, rk⟩ := h.rks
  have hM1 := h.wf.2.1
  have a := hg_le h rk dp hh 432 x hx
  have b := Dp_48 (d := d) (hm := hm) (rK := rK) (rO := rO) (p := x.1)
  have := hx.2.1
  omega
theorem exI_24 {S : St} (h : Cor S) (dp : ∃ d, DP (S 84) d) (hh : ∃ hm, HM (S 84) hm) {e n v : Nat} (x : isTh (S 84) e n v) : (exI (S 84) e n v).length ≤ 24 := by
  obtain ⟨d, dp⟩ := dp
  obtain ⟨hm, hh⟩ := hh
  obtain ⟨E, TE, rO, rT, rK, rk⟩ := h.rks
  obtain ⟨k1, k2, k3, k4⟩ := x
  have wf := h.wf
  have hM1 := wf.2.1
  have e' : kM (S 84) e n = sm (cnE (S 84) e) (fun t => byM (S 84) e t n) := by
    rcases ev_to (k_terms h k1 (n := n) (by omega)) with q | ⟨q, _⟩
    · exact q
    · rw [CC_eq] at q; omega
  have oE := wf.2.2.2.2.1 e k1
  obtain ⟨tt, u, a1, a2, a3, a4, a5, a6, a7⟩ := exI_ok h rk (show (0 : Int) ≤ 0 by omega) oE k2 (by rw [← e']; exact k3) (by rw [← e']; exact k4)
  have q := (oE.2.1 tt a2).2
  rw [a6, tmI_len]
  have c := chn_cL wf dp hh (f := 24) (p := (fpM (S 84) e tt).toNat) (by omega)
  exact Nat.le_trans c cLv_24
