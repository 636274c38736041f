/-! the reference: labelled, the kinds, the passes, all sizes -/
def kvL (M : Int → Int) (R : Nat → Nat) (n e : Nat) : Nat := min CC (xs M (fun q => R (q * 8 + n)) e)
theorem kvL_le {M : Int → Int} {R : Nat → Nat} {n e : Nat} : kvL M R n e ≤ 1000000000000 := Nat.min_le_left _ _
theorem nm108 {M : Int → Int} {n : Nat} {Y R : Nat → Nat} (h : WF M) (hn : n ≤ 7) (hY : ∀ j, j < 240 → Y j ≤ 1000000000000) : ∀ (d e f : Nat) (S : St) (m : Int), (e : Int) + d = M 0 → d < f → S 84 = M → nb S 94 192 1000000000000 → tb S 94 = R → (m = 0 ∨ m = 1) → (∀ j : Nat, j < 240 → S 93 (j : Int) = ((if ∃ e', e' < e ∧ j = (24 + e') * 8 + n then kvL M R n (j / 8 - 24) else Y j : Nat) : Int)) → wp (mX12_names_108 (n : Int) f (e : Int) m S) (fun o => (o.1 = 0 ∨ o.1 = 1) ∧ (o.1 = 0 ↔ m = 0 ∧ ∀ e' : Nat, e ≤ e' → (e' : Int) < M 0 → kvL M R n e' = Y ((24 + e') * 8 + n)) ∧ (∀ j : Nat, j < 240 → o.2 93 (j : Int) = ((if ∃ e' : Nat, e' < (M 0).toNat ∧ j = (24 + e') * 8 + n then kvL M R n (j / 8 - 24) else Y j : Nat) : Int)) ∧ kept [93] [] S o.2) := by
  have hM0 := h.1
  intro d
  induction d with
  | zero =>
    intro e f S m he hf h84 n94 hR hm h93
    obtain ⟨g, rfl⟩ : ∃ g, f = g + 1 := ⟨f - 1, by omega⟩
    rw [mX12_names_108, h84, gd_t (by omega), if_pos (by omega), wp_some]
    refine ⟨hm, ⟨fun q => ⟨q, fun e' a b => by omega⟩, fun q => q.1⟩, fun j hj => ?_, kept.rf⟩
    show S 93 (j : Int) = _
    rw [h93 j hj]
    by_cases w : ∃ e', e' < e ∧ j = (24 + e') * 8 + n
    · rw [if_pos w, if_pos (by obtain ⟨e', a, b⟩ := w; exact ⟨e', by omega, b⟩)]
    · rw [if_neg w, if_neg (by rintro ⟨e', a, b⟩; exact w ⟨e', by omega, b⟩)]
  | succ d ih =>
    intro e f S m he hf h84 n94 hR hm h93
    obtain ⟨g, rfl⟩ : ∃ g, f = g + 1 := ⟨f - 1, by omega⟩
    have hE := h.2.2.2.2.1 e (by omega)
    have v : mX12_namedExpr S (e : Int) (n : Int) = some ((kvL M R n e : Nat) : Int) := by
      have := e_namedExpr (S := S) (e := e) (n := n) (lo := 0) (by rw [h84]; exact h) (by omega) (by omega) (by rw [h84]; exact hE) hn n94
      rw [this, h84, hR]
      rfl
    have cur : S 93 (((24 + e) * 8 + n : Nat) : Int) = ((Y ((24 + e) * 8 + n) : Nat) : Int) := by
      rw [h93 _ (by omega), if_neg]
      rintro ⟨e', q1, q2⟩
      omega
    have hy := hY ((24 + e) * 8 + n) (by omega)
    have hv := kvL_le (M := M) (R := R) (n := n) (e := e)
    obtain ⟨z, hz1, hz2, hz3⟩ : ∃ z : Int, (gd (inI m) <| if m = 0 then (gd (0 ≤ (((24 + (e : Int)) * 8) + (n : Int)) ∧ (((24 + (e : Int)) * 8) + (n : Int)) < 240) <| gd ((inL ((kvL M R n e : Nat) : Int)) ∧ (inL (S 93 (((24 + (e : Int)) * 8) + (n : Int))))) <| if ((kvL M R n e : Nat) : Int) = (S 93 (((24 + (e : Int)) * 8) + (n : Int))) then (some (0 : Int)) else (some 1)) else (some 1)) = some z ∧ (z = 0 ∨ z = 1) ∧ (z = 0 ↔ m = 0 ∧ kvL M R n e = Y ((24 + e) * 8 + n)) := by
      rw [show (24 + (e : Int)) * 8 + (n : Int) = (((24 + e) * 8 + n : Nat) : Int) by omega, cur]
      rcases hm with rfl | rfl
      · by_cases q : kvL M R n e = Y ((24 + e) * 8 + n)
        · exact ⟨0, by rw [gd_t (by decide), if_pos rfl, gd_t (by omega), gd_t (by omega), if_pos (by omega)], Or.inl rfl, ⟨fun _ => ⟨rfl, q⟩, fun _ => rfl⟩⟩
        · exact ⟨1, by rw [gd_t (by decide), if_pos rfl, gd_t (by omega), gd_t (by omega), if_neg (by omega)], Or.inr rfl, ⟨fun x => by omega, fun x => absurd x.2 q⟩⟩
      · exact ⟨1, by rw [gd_t (by decide), if_neg (by decide)], Or.inr rfl, ⟨fun x => by omega, fun x => by omega⟩⟩
    rw [mX12_names_108, h84, gd_t (by omega), if_neg (by omega), bd1_e v, bd1_e hz1, gd_t (by omega), nx_e, show (24 + (e : Int)) * 8 + (n : Int) = (((24 + e) * 8 + n : Nat) : Int) by omega]
    have st := ih (e + 1) g (up S 93 (((24 + e) * 8 + n : Nat) : Int) ((kvL M R n e : Nat) : Int)) z (by omega) (by omega) (by rw [up_n (by decide)]; exact h84) (by intro j hj; rw [up_n (by decide)]; exact n94 j hj) (by rw [← hR]; funext j; unfold tb; rw [up_n (by decide)]) hz2 (fun j hj => by
      by_cases q : j = (24 + e) * 8 + n
      · subst q
        rw [up_eq, if_pos ⟨e, by omega, rfl⟩, show ((24 + e) * 8 + n) / 8 - 24 = e by omega]
      · rw [up_nk (by omega), h93 j hj]
        by_cases w : ∃ e', e' < e ∧ j = (24 + e') * 8 + n
        · rw [if_pos w, if_pos (by obtain ⟨k', w1, w2⟩ := w; exact ⟨k', by omega, w2⟩)]
        · rw [if_neg w, if_neg]
          rintro ⟨k', w1, w2⟩
          by_cases kk : k' = e
          · exact q (by rw [w2, kk])
          · exact w ⟨k', by omega, w2⟩)
    rw [show ((e + 1 : Nat) : Int) = (e : Int) + 1 by omega] at st
    refine wp_mono st (fun o q => ⟨q.1, ?_, q.2.2.1, kept.trans (kept.upA kept.rf (by decide)) q.2.2.2⟩)
    rw [q.2.1, hz3]
    constructor
    · rintro ⟨⟨a, c⟩, r⟩
      refine ⟨a, fun k' k1 k2 => ?_⟩
      by_cases e' : k' = e
      · rw [e']; exact c
      · exact r k' (by omega) k2
    · rintro ⟨a, r⟩
      exact ⟨⟨a, r e (Nat.le_refl _) (by omega)⟩, fun k' k1 k2 => r k' (by omega) k2⟩
def supL (M : Int → Int) (E TE : Nat → Prop) (Y R : Nat → Nat) : Prop := ∀ p : Nat, (p : Int) < M 2 → (Y (p * 8) ≠ 0 → E p) ∧ (R (p * 8) ≠ 0 → TE p)
theorem xs_ev {M : Int → Int} {e : Nat} {lo : Int} {R R' : Nat → Nat} (hlo : 0 ≤ lo) (hE : okE M lo e) (h : ∀ t : Nat, (t : Int) < M (198 + (e : Int)) → ev (R (fpM M e t).toNat) (R' (fpM M e t).toNat)) : ev (xs M R e) (xs M R' e) := by
  unfold xs
  refine sm_ev fun t ht => ?_
  cases offM M e t with
  | true => exact ev.rf
  | false =>
    simp only [Bool.false_eq_true, if_false]
    exact h t (by have := hE.1; omega)
theorem depL {M : Int → Int} {n : Nat} {E TE KE : Nat → Prop} {rO rT rK : Nat → Nat} {Y R Y' R' : Nat → Nat} (h : WF M) (hn : n ≤ 7) (hO : Ord M E TE KE rO rT rK) (s1 : supL M E TE Y R) (s2' : supL M E TE Y' R') (e1 : ∀ p : Nat, (p : Int) < M 2 → eqL M n Y R p) (e2 : ∀ p : Nat, (p : Int) < M 2 → eqL M n Y' R' p) (bs : ∀ p s : Nat, (p : Int) < M 2 → s < n → ev (Y (p * 8 + s)) (Y' (p * 8 + s)) ∧ ev (R (p * 8 + s)) (R' (p * 8 + s))) : ∀ N p : Nat, (p : Int) < M 2 → (rO p < N → (∀ e : Nat, (e : Int) < M 0 → rK e < rO p → ev (Y ((24 + e) * 8 + n)) (Y' ((24 + e) * 8 + n))) → ev (Y (p * 8 + n)) (Y' (p * 8 + n))) ∧ (rT p < N → (∀ e : Nat, (e : Int) < M 0 → rK e < rT p → ev (Y ((24 + e) * 8 + n)) (Y' ((24 + e) * 8 + n))) → ev (R (p * 8 + n)) (R' (p * 8 + n))) := by
  have hM2 := h.2.2.1
  obtain ⟨-, -, hO, -⟩ := hO
  intro N
  induction N with
  | zero => intro p hp; exact ⟨fun hr => by omega, fun hr => by omega⟩
  | succ N ih =>
    intro p hp
    obtain ⟨h1, h2, h3, h4, h5, h6⟩ := h.2.2.2.1 p hp
    obtain ⟨o1, o2, o3, o4, o5, o6⟩ := hO p hp
    refine ⟨fun hr hA => ?_, fun hr hA => ?_⟩
    · refine ((e1 p hp).1.tr ?_).tr (e2 p hp).1.sm
      unfold pvL
      by_cases s0 : M (24 + (p : Int)) = 0
      · rw [if_pos s0, if_pos s0]; exact ev.rf
      rw [if_neg s0, if_neg s0]
      by_cases s1' : M (24 + (p : Int)) = 1
      · rw [if_pos s1', if_pos s1']; exact ev.rf
      rw [if_neg s1', if_neg s1']
      by_cases s2 : M (24 + (p : Int)) = 2
      · have := h4 s2
        rw [if_pos s2, if_pos s2]
        exact hA _ (by omega) (o1 s2)
      rw [if_neg s2, if_neg s2]
      by_cases s7 : M (24 + (p : Int)) = 7
      · obtain ⟨q1, q2, q3⟩ := h5 s7
        rw [if_pos s7, if_pos s7]
        refine xs_ev (by omega) q3 (fun t ht => ?_)
        have q4 := q3.2.1 t ht
        have r := o2 s7 t ht
        exact (ih (fpM M (6 + p) t).toNat (by omega)).2 (by omega) (fun e a b => hA e a (by omega))
      rw [if_neg s7, if_neg s7]
      have h6' := h6 (by omega)
      obtain ⟨c, hc⟩ : ∃ c : Nat, M (72 + (p : Int)) = (c : Int) := ⟨(M (72 + (p : Int))).toNat, by omega⟩
      rw [hc, show ((c : Int)).toNat = c from rfl]
      have lo : ∀ s, s < n → ev (Y (c * 8 + s)) (Y' (c * 8 + s)) := fun s a => (bs c s (by omega) a).1
      by_cases n1 : M (48 + (p : Int)) ≤ 1
      · have r := o3 ⟨by omega, by omega, n1⟩
        rw [hc, show ((c : Int)).toNat = c from rfl] at r
        have hi : ev (Y (c * 8 + n)) (Y' (c * 8 + n)) := (ih c (by omega)).1 (by omega) (fun e a b => hA e a (by omega))
        refine nin_ev (fun s a b => ?_)
        by_cases e : s = n
        · rw [e]; exact hi
        · exact lo s (by omega)
      · exact nin_evC (by omega) (fun s a b => lo s b)
    · refine ((e1 p hp).2.tr ?_).tr (e2 p hp).2.sm
      unfold nr
      by_cases z : M (96 + (p : Int)) < 0
      · have z1 : M (96 + (p : Int)) = -1 := by omega
        have r := o4 z1
        rw [if_pos z, if_pos z]
        exact ((ih p hp).1 (by omega) (fun e a b => hA e a (by omega)))
      · rw [if_neg z, if_neg z]
        obtain ⟨q, hq⟩ : ∃ q : Nat, M (96 + (p : Int)) = (q : Int) := ⟨(M (96 + (p : Int))).toNat, by omega⟩
        rw [hq] at h2 o5 o6 ⊢
        rw [show ((q : Int)).toNat = q from rfl] at o5 o6 ⊢
        have hqM : (q : Int) < M 2 := by omega
        have own : TE q → ev (Y (p * 8 + n)) (Y' (p * 8 + n)) := fun a => by
          have r := o5 (by omega) a
          exact ((ih p hp).1 (by omega) (fun e a b => hA e a (by omega)))
        have tail : E p → ev (R (q * 8 + n)) (R' (q * 8 + n)) := fun a => by
          have r := o6 (by omega) a
          exact ((ih q hqM).2 (by omega) (fun e a b => hA e a (by omega)))
        refine sm_ev fun s hs => ev_mul ev.rf ?_
        have cE : ¬ E p → Y (p * 8) = 0 ∧ Y' (p * 8) = 0 := fun hne => ⟨Classical.byContradiction fun w => hne ((s1 p hp).1 w), Classical.byContradiction fun w => hne ((s2' p hp).1 w)⟩
        have cT : ¬ TE q → R (q * 8) = 0 ∧ R' (q * 8) = 0 := fun hne => ⟨Classical.byContradiction fun w => hne ((s1 q hqM).2 w), Classical.byContradiction fun w => hne ((s2' q hqM).2 w)⟩
        by_cases sn : s = n
        · subst sn
          rw [Nat.sub_self]
          by_cases tq : TE q
          · rcases Nat.eq_zero_or_pos s with z0 | z0
            · subst z0
              by_cases ep : E p
              · exact ev_mul (own tq) (tail ep)
              · rw [Nat.add_zero, (cE ep).1, (cE ep).2, Nat.zero_mul, Nat.zero_mul]; exact ev.rf
            · exact ev_mul (own tq) (bs q 0 hqM z0).2
          · rw [Nat.add_zero, (cT tq).1, (cT tq).2, Nat.mul_zero, Nat.mul_zero]; exact ev.rf
        · rcases Nat.eq_zero_or_pos s with z0 | z0
          · subst z0
            rw [Nat.sub_zero]
            by_cases ep : E p
            · exact ev_mul (bs p 0 hp (by omega)).1 (tail ep)
            · rw [Nat.add_zero, (cE ep).1, (cE ep).2, Nat.zero_mul, Nat.zero_mul]; exact ev.rf
          · exact ev_mul (bs p s hp (by omega)).1 (bs q (n - s) hqM (by omega)).2
