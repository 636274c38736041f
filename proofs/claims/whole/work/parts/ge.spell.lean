/-! the class's speller: a thing from first to last -/
def NodeP (M : Int → Int) (x : Nat × Nat × Nat) : Prop := ∀ (S : St) (w l : List Int) (o d t : Nat), SpS M S w (cdP x :: l) o d t → o ≤ d → d ≤ 1100 → o + dpN M 432 x ≤ 1100 → l.length + hgN M 432 x ≤ 1100 → l.length + 1 ≤ 1100 → w.length + mvN M 432 x ≤ 1048576 → ∃ T, SpS M T (w ++ txt M 432 x) l o (max d (o + dpN M 432 x)) (t * trn M 432 x) ∧ Mvs S T (mvN M 432 x)
theorem c_nodes {M : Int → Int} : ∀ (L : List (Nat × Nat × Nat)), (∀ y ∈ L, NodeP M y) → ∀ (S : St) (w l : List Int) (o d t : Nat), SpS M S w (L.map cdP ++ l) o d t → o ≤ d → d ≤ 1100 → o + mxl L (dpN M 432) ≤ 1100 → l.length + hgL L (hgN M 432) ≤ 1100 → l.length + L.length ≤ 1100 → w.length + mvL L (mvN M 432) ≤ 1048576 → ∃ T, SpS M T (w ++ cat L (txt M 432)) l o (max d (o + mxl L (dpN M 432))) (t * prd L (trn M 432)) ∧ Mvs S T (mvL L (mvN M 432)) := by
  intro L
  induction L with
  | nil =>
    intro _ S w l o d t hS ho _ _ _ _ _
    refine ⟨S, ?_, Mvs.rf⟩
    show SpS M S (w ++ []) l o (max d (o + 0)) (t * 1)
    rw [List.append_nil, Nat.add_zero, Nat.max_eq_left ho, Nat.mul_one]
    exact hS
  | cons x L ih =>
    intro h S w l o d t hS ho hd hm hh hl hw
    have em : mxl (x :: L) (dpN M 432) = max (dpN M 432 x) (mxl L (dpN M 432)) := rfl
    have eh : hgL (x :: L) (hgN M 432) = max (L.length + hgN M 432 x) (hgL L (hgN M 432)) := rfl
    have ev' : mvL (x :: L) (mvN M 432) = mvN M 432 x + mvL L (mvN M 432) := rfl
    rw [em] at hm
    rw [eh] at hh
    rw [ev'] at hw
    rw [List.length_cons] at hl
    obtain ⟨T, t1, t2⟩ := h x (List.mem_cons_self ..) S w (L.map cdP ++ l) o d t hS ho hd (by omega) (by rw [List.length_append, List.length_map]; omega) (by rw [List.length_append, List.length_map]; omega) (by omega)
    have lx := len_mv (M := M) 432 x
    obtain ⟨U, u1, u2⟩ := ih (fun y hy => h y (List.mem_cons_of_mem _ hy)) T _ l o _ _ t1 (by omega) (by omega) (by omega) (by omega) (by omega) (by rw [List.length_append]; omega)
    refine ⟨U, ?_, t2.tr u2⟩
    rw [em]
    show SpS M U (w ++ (txt M 432 x ++ cat L (txt M 432))) l o (max d (o + max (dpN M 432 x) (mxl L (dpN M 432)))) (t * (trn M 432 x * prd L (trn M 432)))
    rw [← List.append_assoc, ← Nat.mul_assoc, show max d (o + max (dpN M 432 x) (mxl L (dpN M 432))) = max (max d (o + dpN M 432 x)) (o + mxl L (dpN M 432)) by omega]
    exact u1
theorem c_node {M : Int → Int} {S0 : St} {x : Nat × Nat × Nat} (h0 : Cor S0) (e0 : S0 84 = M) (nex : NEX M) (hx : VN M x) (hi : ∀ y ∈ itm M x, NodeP M y) : NodeP M x := by
  intro S w l o d t hS ho hd hm hh hl hw
  have un : VN (S0 84) x := by rw [e0]; exact hx
  obtain ⟨n1, n2, n3, n4, n5⟩ := tree_unf h0 un
  rw [e0] at n1 n2 n3 n4 n5
  have wf : WF M := by have := h0.wf; rw [e0] at this; exact this
  have hM1 := wf.2.1
  have hM2 := wf.2.2.1
  have x1 := hx.1
  have x2 := hx.2.1
  have x3 := Nat.lt_of_lt_of_le hx.2.2.1 hx.2.2.2
  have qe : (if isQb M x.1 then 1 else 0) = qbN M x := rfl
  rw [qe] at n3 n4 n5
  obtain ⟨hX, hk, ⟨h10, h5, h6⟩, ha⟩ := hS
  obtain ⟨k1, k2, k3⟩ := stk_pop hk
  obtain ⟨U, hU⟩ : ∃ U, U = up S 60 12 ((l.length : Nat) : Int) := ⟨_, rfl⟩
  have kU : kept [] [(60, 12)] S U := by rw [hU]; exact kept.rf.upF (by simp)
  obtain ⟨xU, fU⟩ := hX.kp (kU.wide (by simp) (by simp))
  have cU : ∀ i, i ≠ 60 → U i = S i := fun i a => kU.cell i (by simp) (by simp; omega)
  have sU : SpS M U w l o d t := ⟨xU, ⟨by rw [hU, up_eq], fun j y hy => by rw [cU 66 (by decide)]; exact k3 j y hy⟩, ⟨(kU 60 10 (by decide) (by decide)).trans h10, (kU 60 5 (by decide) (by decide)).trans h5, (kU 60 6 (by decide) (by decide)).trans h6⟩, fun a a26 => by rw [cU 65 (by decide)]; exact ha a a26⟩
  obtain ⟨T, t1, t2, t3⟩ := c_spellPart nex sU hx (by omega) ho hd (by omega)
  have m1 : Mvs S T 1 := by
    refine ⟨fU.trans t3, fun g i R a b e => ?_⟩
    have cv : 0 ≤ cdP x ∧ cdP x ≤ 2147483647 ∧ cdP x / 1024 / 8 = (x.1 : Int) ∧ cdP x / 1024 % 8 = (x.2.1 : Int) ∧ cdP x % 1024 = (x.2.2 : Int) := by unfold cdP; omega
    rw [mX9_spell_97, gd_t (by omega), if_neg (by omega), k1, gd_t (by omega), if_neg (by omega), nx_e, up_eq, gd_t (by omega), nx_e, up_n (by decide), show (l.length : Int) + 1 - 1 = ((l.length : Nat) : Int) by omega, k2, gd_t (by omega), if_pos cv.1, gd_t (by omega), gd_t (by omega), ← hU, cv.2.2.1, cv.2.2.2.1, cv.2.2.2.2]
    refine bdG1_e t1 t3.2.2.1 ?_ b
    rw [show (i : Int) + 1 = ((i + 1 : Nat) : Int) by omega]
    exact a
  have lh := len_hd (M := M) (x := x)
  have lc : (clE M x).length = qbN M x := by unfold clE qbN; split <;> rfl
  obtain ⟨V, v1, v2⟩ := c_nodes (itm M x) hi T _ (clE M x ++ l) _ _ _ t2 (by omega) (by omega) (by omega) (by rw [List.length_append, lc]; omega) (by rw [List.length_append, lc]; omega) (by rw [List.length_append]; omega)
  have lcat := len_cat (g := txt M 432) (m := mvN M 432) (l := itm M x) (fun y _ => len_mv 432 y)
  rw [n1, n2, n3, n4]
  have ed : max (max d (o + qbN M x)) (o + qbN M x + mxl (itm M x) (dpN M 432)) = max d (o + (qbN M x + mxl (itm M x) (dpN M 432))) := by omega
  rw [ed, Nat.mul_assoc] at v1
  by_cases q : isQb M x.1 = true
  · have q1 : qbN M x = 1 := if_pos q
    have ec : clE M x = [-clS (M (24 + (x.1 : Int)))] := if_pos q
    have et : tlS M x = [clS (M (24 + (x.1 : Int)))] := if_pos q
    rw [q1] at v1
    rw [ec] at v1
    obtain ⟨X, y1, y2⟩ := c_close (S := V) (o := o) (l := l) v1 (op_ne (a := 0) (by decide)).2.2.2 (fun a a26 => (op_ne a26).2.1) (by rw [List.length_append, List.length_append]; omega) (by omega)
    refine ⟨X, ?_, ?_⟩
    · rw [q1, et, ← List.append_assoc, ← List.append_assoc]; exact y1
    · rw [q1, show 1 + 1 + mvL (itm M x) (mvN M 432) = 1 + mvL (itm M x) (mvN M 432) + 1 by omega]
      exact (m1.tr v2).tr y2
  · have q' : isQb M x.1 = false := by cases hb : isQb M x.1 with | true => exact absurd hb q | false => rfl
    have q0 : qbN M x = 0 := by unfold qbN; rw [q']; rfl
    have ec : clE M x = [] := by unfold clE; rw [q']; rfl
    have et : tlS M x = [] := by unfold tlS; rw [q']; rfl
    rw [q0, Nat.add_zero] at v1
    rw [ec] at v1
    refine ⟨V, ?_, ?_⟩
    · rw [q0, et, List.append_nil, ← List.append_assoc]; exact v1
    · rw [q0, Nat.add_zero]; exact m1.tr v2
theorem c_node_all {M : Int → Int} {S0 : St} (h0 : Cor S0) (e0 : S0 84 = M) (nex : NEX M) : ∀ x, VN M x → NodeP M x := by
  subst e0
  obtain ⟨E, TE, rO, rT, rK, rk⟩ := h0.rks
  have key : ∀ (f : Nat) (x : Nat × Nat × Nat), VN (S0 84) x → ms rO x < f → NodeP (S0 84) x := by
    intro f
    induction f with
    | zero => intro x _ h; omega
    | succ f ih =>
      intro x hx hf
      refine c_node h0 rfl nex hx (fun y hy => ?_)
      have k := itm_ok h0 rk hx y hy
      exact ih y k.1 (by have := k.2.1; omega)
  exact fun x hx => key (ms rO x + 1) x hx (by omega)
theorem mxl_hgL {g g' : Nat × Nat × Nat → Nat} : ∀ {l : List (Nat × Nat × Nat)}, (∀ y ∈ l, g y ≤ g' y) → mxl l g ≤ hgL l g' := by
  intro l
  induction l with
  | nil => intro _; exact Nat.le_refl _
  | cons a l ih =>
    intro h
    show max (g a) (mxl l g) ≤ max (l.length + g' a) (hgL l g')
    have := h a (List.mem_cons_self ..)
    have := ih (fun y hy => h y (List.mem_cons_of_mem _ hy))
    omega
theorem dp_hg {M : Int → Int} : ∀ (f : Nat) (x : Nat × Nat × Nat), dpN M f x ≤ hgN M f x := by
  intro f
  induction f with
  | zero => intro x; exact Nat.le_refl _
  | succ f ih =>
    intro x
    show (if isQb M x.1 then 1 else 0) + mxl (itm M x) (dpN M f) ≤ (if isQb M x.1 then 1 else 0) + max (itm M x).length (hgL (itm M x) (hgN M f))
    have := mxl_hgL (l := itm M x) (fun y _ => ih y)
    omega
theorem hgL_le {g : Nat × Nat × Nat → Nat} {B : Nat} : ∀ {l : List (Nat × Nat × Nat)}, (∀ y ∈ l, g y ≤ B) → hgL l g ≤ l.length + B := by
  intro l
  induction l with
  | nil => intro _; exact Nat.zero_le _
  | cons a l ih =>
    intro h
    show max (l.length + g a) (hgL l g) ≤ (l.length + 1) + B
    have := h a (List.mem_cons_self ..)
    have := ih (fun y hy => h y (List.mem_cons_of_mem _ hy))
    omega
