/-! the class: rings listed -/
theorem gle_rf {S T : St} (h : T 0 = S 0) : gle S T := by
  unfold gle nn zz
  rw [h]
  exact ⟨Nat.le_refl _, Nat.le_refl _⟩
theorem entG_e {β : Type} {S : St} {pj : β → St} {x : Option β} {o : β} (h : x = some o) (k : gle S (pj o)) : entG S pj x = some o := by
  rw [h]
  show (if gle S (pj o) then some o else none) = _
  rw [if_pos k]
theorem bdG1_e {β : Type} {S : St} {pj : β → St} {x : Option St} {f : St → Option β} {a : St} {o : β} (h : x = some a) (k : gle S a) (h2 : f a = some o) (k2 : gle a (pj o)) : bdG1 S pj x f = some o := by
  rw [h]
  show (if gle S a then entG a pj (f a) else none) = _
  rw [if_pos k]
  exact entG_e h2 k2
theorem bdG2_e {α1 β : Type} {S : St} {pj : β → St} {x : Option (α1 × St)} {f : α1 → St → Option β} {a1 : α1} {a : St} {o : β} (h : x = some (a1, a)) (k : gle S a) (h2 : f a1 a = some o) (k2 : gle a (pj o)) : bdG2 S pj x f = some o := by
  rw [h]
  show (if gle S a then entG a pj (f a1 a) else none) = _
  rw [if_pos k]
  exact entG_e h2 k2
/-- the codes of a ring in a list -/
def cdO (x : List (Nat × Nat)) (i : Nat) : Nat := if i < x.length then cdN (gx x i) else 0
/-- a list O with its codes Q holds E -/
def LR (S : St) (O Q : Nat) (E : List (List (Nat × Nat))) : Prop := (dT S (O : Int) 1 ∧ S O 2 = (Q : Int) ∧ dT S (Q : Int) 2) ∧ S O 1 = ((E.length : Nat) : Int) ∧ ∀ r x, E[r]? = some x → ∀ i : Nat, i < 8 → S Q ((r * 8 + i : Nat) : Int) = ((cdO x i : Nat) : Int)
theorem LR.ne {S : St} {O Q : Nat} {E : List (List (Nat × Nat))} (h : LR S O Q E) : O ≠ Q ∧ 105 ≤ O ∧ 105 ≤ Q := by
  obtain ⟨⟨a, b, c⟩, -⟩ := h
  have a1 : S O (-1) = 1 := a.2.2
  have c1 : S Q (-1) = 2 := c.2.2
  refine ⟨fun e => ?_, by have := a.1; omega, by have := c.1; omega⟩
  rw [e, c1] at a1
  cases a1
/-- what listing leaves as it is -/
def kR (O Q : Nat) (S T : St) : Prop := (∀ (i : Nat) (k : Int), i < 105 → i ≠ 62 → (i, k) ≠ (61, 2) → T i k = S i k) ∧ (∀ i, 105 ≤ i → i ≠ O → i ≠ Q → T i = S i) ∧ (∀ k : Int, k ≠ 1 → T O k = S O k) ∧ (∀ k : Int, k < 0 → T Q k = S Q k)
theorem kR.rf {O Q : Nat} {S : St} : kR O Q S S := ⟨fun _ _ _ _ _ => rfl, fun _ _ _ _ => rfl, fun _ _ => rfl, fun _ _ => rfl⟩
theorem kR.trans {O Q : Nat} {S T U : St} (h : kR O Q S T) (k : kR O Q T U) : kR O Q S U := ⟨fun i q a b c => (k.1 i q a b c).trans (h.1 i q a b c), fun i a b c => (k.2.1 i a b c).trans (h.2.1 i a b c), fun q a => (k.2.2.1 q a).trans (h.2.2.1 q a), fun q a => (k.2.2.2 q a).trans (h.2.2.2 q a)⟩
theorem kR.cell {O Q : Nat} {S T : St} (h : kR O Q S T) {i : Nat} (a : i < 105) (b : i ≠ 62) (c : i ≠ 61) : T i = S i := funext fun k => h.1 i k a b (fun e => c (Prod.mk.inj e).1)
theorem kR.gle {O Q : Nat} {S T : St} (h : kR O Q S T) : gle S T := gle_rf (h.cell (by decide) (by decide) (by decide))
theorem kR.cor {O Q : Nat} {S T : St} (h : kR O Q S T) (c : Cor S) : Cor T := c.of (h.cell (by decide) (by decide) (by decide)) (fun i a b => h.cell (by omega) (by omega) (by omega)) (fun i a b => h.cell (by omega) (by omega) (by omega))
/-- a code put into the row -/
theorem kR.up62 {O Q : Nat} {S T : St} {k v : Int} (h : kR O Q S T) (hO : 105 ≤ O) (hQ : 105 ≤ Q) : kR O Q S (up T 62 k v) := ⟨fun i q a b c => (congrFun (up_n b) q).trans (h.1 i q a b c), fun i a b c => (up_n (by omega)).trans (h.2.1 i a b c), fun q a => (congrFun (up_n (by omega)) q).trans (h.2.2.1 q a), fun q a => (congrFun (up_n (by omega)) q).trans (h.2.2.2 q a)⟩
theorem kR.up61 {O Q : Nat} {S T : St} {v : Int} (h : kR O Q S T) (hO : 105 ≤ O) (hQ : 105 ≤ Q) : kR O Q S (up T 61 2 v) := ⟨fun i q a b c => by
    by_cases e : i = 61
    · subst e
      rw [up_nk (fun w => c (by rw [w]))]
      exact h.1 _ q a b c
    · rw [up_n e]; exact h.1 i q a b c, fun i a b c => (up_n (by omega)).trans (h.2.1 i a b c), fun q a => (congrFun (up_n (by omega)) q).trans (h.2.2.1 q a), fun q a => (congrFun (up_n (by omega)) q).trans (h.2.2.2 q a)⟩
theorem LR.of {O Q : Nat} {S T : St} {E : List (List (Nat × Nat))} (h : LR S O Q E) (a : T O = S O) (b : T Q = S Q) (c : T 0 = S 0) : LR T O Q E := by
  obtain ⟨⟨h1, h2, h3⟩, h4, h5⟩ := h
  refine ⟨⟨⟨h1.1, by rw [c]; exact h1.2.1, ?_⟩, by rw [a]; exact h2, ⟨h3.1, by rw [c]; exact h3.2.1, ?_⟩⟩, by rw [a]; exact h4, fun r x e i hi => by rw [b]; exact h5 r x e i hi⟩
  · show T O (-1) = 1
    rw [a]; exact h1.2.2
  · show T Q (-1) = 2
    rw [b]; exact h3.2.2
theorem e_enlist {S : St} {O Q : Nat} {E : List (List (Nat × Nat))} {L : List (Nat × Nat)} (h : LR S O Q E) (hc : cds S L) (hl : L.length ≤ 8) (hE : E.length < 200) : ∃ S', mX8_enlist_61_dO S (O : Int) = some S' ∧ LR S' O Q (E ++ [L]) ∧ cds S' L ∧ kR O Q S S' := by
  obtain ⟨ne, hO, hQ⟩ := h.ne
  obtain ⟨⟨h1, h2, h3⟩, h4, h5⟩ := h
  have key : ∀ (d i f : Nat) (T : St), i + d = 8 → d < f → kR O Q S T → T O = S O → T 61 = S 61 → T 62 = S 62 → (∀ k : Int, k < ((E.length * 8 : Nat) : Int) → T Q k = S Q k) → (∀ j : Nat, j < i → T Q ((E.length * 8 + j : Nat) : Int) = ((cdO L j : Nat) : Int)) → ∃ T', mX8_enlist_61_dO_21 ((E.length * 8 : Nat) : Int) (O : Int) f (i : Int) T = some T' ∧ kR O Q S T' ∧ T' O = S O ∧ T' 61 = S 61 ∧ T' 62 = S 62 ∧ (∀ k : Int, k < ((E.length * 8 : Nat) : Int) → T' Q k = S Q k) ∧ (∀ j : Nat, j < 8 → T' Q ((E.length * 8 + j : Nat) : Int) = ((cdO L j : Nat) : Int)) := by
    intro d
    induction d with
    | zero =>
      intro i f T hi hf k1 k2 k3 k4 k5 k6
      obtain ⟨f, rfl⟩ : ∃ f', f = f' + 1 := ⟨f - 1, by omega⟩
      refine ⟨T, ?_, k1, k2, k3, k4, k5, fun j hj => k6 j (by omega)⟩
      rw [mX8_enlist_61_dO_21, gd_t (by omega), if_pos (by omega)]
    | succ d ih =>
      intro i f T hi hf k1 k2 k3 k4 k5 k6
      obtain ⟨f, rfl⟩ : ∃ f', f = f' + 1 := ⟨f - 1, by omega⟩
      have t0 : T 0 = S 0 := k1.cell (by decide) (by decide) (by decide)
      have g1 : dT T (O : Int) 1 := ⟨h1.1, by rw [t0]; exact h1.2.1, by show T O (-1) = 1; rw [k2]; exact h1.2.2⟩
      have g2 : dT T (T (Int.toNat (O : Int)) 2) 2 := by
        rw [show T (Int.toNat (O : Int)) 2 = (Q : Int) by show T O 2 = _; rw [k2]; exact h2]
        exact ⟨h3.1, by rw [t0]; exact h3.2.1, by show T Q (-1) = 2; rw [k5 (-1) (by omega)]; exact h3.2.2⟩
      have e2 : Int.toNat (T (Int.toNat (O : Int)) 2) = Q := by
        rw [show T (Int.toNat (O : Int)) 2 = (Q : Int) by show T O 2 = _; rw [k2]; exact h2]; rfl
      have ex : ((E.length * 8 : Nat) : Int) + (i : Int) = ((E.length * 8 + i : Nat) : Int) := by omega
      have go : ∀ v : Int, v = ((cdO L i : Nat) : Int) → ∃ T', mX8_enlist_61_dO_21 ((E.length * 8 : Nat) : Int) (O : Int) f ((i : Int) + 1) (up T Q ((E.length * 8 + i : Nat) : Int) v) = some T' ∧ kR O Q S T' ∧ T' O = S O ∧ T' 61 = S 61 ∧ T' 62 = S 62 ∧ (∀ k : Int, k < ((E.length * 8 : Nat) : Int) → T' Q k = S Q k) ∧ (∀ j : Nat, j < 8 → T' Q ((E.length * 8 + j : Nat) : Int) = ((cdO L j : Nat) : Int)) := by
        intro v hv
        have kk : kR O Q S (up T Q ((E.length * 8 + i : Nat) : Int) v) := ⟨fun x q a b c => (congrFun (up_n (by omega)) q).trans (k1.1 x q a b c), fun x a b c => (up_n c).trans (k1.2.1 x a b c), fun q a => (congrFun (up_n ne) q).trans (k1.2.2.1 q a), fun q a => (up_nk (by omega)).trans (k1.2.2.2 q a)⟩
        have := ih (i + 1) f (up T Q ((E.length * 8 + i : Nat) : Int) v) (by omega) (by omega) kk ((up_n ne).trans k2) ((up_n (by omega)).trans k3) ((up_n (by omega)).trans k4) (fun k hk => (up_nk (by omega)).trans (k5 k hk)) (fun j hj => by
          by_cases e : j = i
          · rw [e, up_eq]; exact hv
          · rw [up_nk (by omega)]; exact k6 j (by omega))
        rw [show ((i + 1 : Nat) : Int) = (i : Int) + 1 by omega] at this
        exact this
      rw [mX8_enlist_61_dO_21, gd_t (by omega), if_neg (by omega), gd_t g1, k3, hc.1, gd_t (by omega)]
      by_cases z : i < L.length
      · rw [if_neg (by omega), gd_t (by omega), gd_t ⟨g2, by omega⟩, nx_e, e2, ex]
        refine go _ ?_
        rw [k4, hc.at z]
        unfold cdO
        rw [if_pos z]
      · rw [if_pos (by omega), gd_t ⟨g2, by omega⟩, nx_e, e2, ex]
        refine go _ ?_
        unfold cdO
        rw [if_neg z]; rfl
  obtain ⟨T, t1, t2, t3, t4, t5, t6, t7⟩ := key 8 0 FU S (by omega) (by unfold FU; omega) kR.rf rfl rfl rfl (fun _ _ => rfl) (fun j hj => by omega)
  have t0 : T 0 = S 0 := t2.cell (by decide) (by decide) (by decide)
  have kk : kR O Q S (up T O 1 (((E.length : Nat) : Int) + 1)) := ⟨fun x q a b c => (congrFun (up_n (by omega)) q).trans (t2.1 x q a b c), fun x a b c => (up_n b).trans (t2.2.1 x a b c), fun q a => (up_nk a).trans (t2.2.2.1 q a), fun q a => (congrFun (up_n (Ne.symm ne)) q).trans (t2.2.2.2 q a)⟩
  have g1 : dT T (O : Int) 1 := ⟨h1.1, by rw [t0]; exact h1.2.1, by show T O (-1) = 1; rw [t3]; exact h1.2.2⟩
  refine ⟨up T O 1 (((E.length : Nat) : Int) + 1), ?_, ⟨⟨?_, ?_, ?_⟩, ?_, fun r x e i hi => ?_⟩, hc.of ?_ ?_, kk⟩
  · unfold mX8_enlist_61_dO
    refine entG_e ?_ kk.gle
    have e1 : S (Int.toNat (O : Int)) 1 = ((E.length : Nat) : Int) := h4
    rw [gd_t h1, e1, gd_t (by omega), if_pos (by omega), show ((E.length : Nat) : Int) * 8 = ((E.length * 8 : Nat) : Int) by omega, nx_e, bd1_e (show mX8_enlist_61_dO_21 ((E.length * 8 : Nat) : Int) (O : Int) FU 0 S = _ from t1), gd_t g1, show T (Int.toNat (O : Int)) 1 = ((E.length : Nat) : Int) by show T O 1 = _; rw [t3]; exact h4, nx_e]
    rfl
  · exact ⟨h1.1, by rw [up_n (by omega), t0]; exact h1.2.1, by show (up T O 1 _) O (-1) = 1; rw [up_nk (by decide), t3]; exact h1.2.2⟩
  · rw [up_nk (by decide), t3]; exact h2
  · exact ⟨h3.1, by rw [up_n (by omega), t0]; exact h3.2.1, by show (up T O 1 _) Q (-1) = 2; rw [up_n (Ne.symm ne), t6 (-1) (by omega)]; exact h3.2.2⟩
  · rw [up_eq, List.length_append, List.length_singleton]; omega
  · rw [up_n (Ne.symm ne)]
    by_cases z : r < E.length
    · rw [List.getElem?_append_left z] at e
      rw [t6 _ (by omega)]
      exact h5 r x e i hi
    · rw [List.getElem?_append_right (by omega)] at e
      have r0 : r - E.length = 0 := by
        rcases Nat.eq_zero_or_pos (r - E.length) with y | y
        · exact y
        · rw [List.getElem?_eq_none (by simp; omega)] at e
          cases e
      rw [r0] at e
      have ex : L = x := Option.some.inj e
      subst ex
      rw [show r = E.length by omega]
      exact t7 i hi
  · rw [up_n (by omega), t4]
  · rw [up_n (by omega), t5]
