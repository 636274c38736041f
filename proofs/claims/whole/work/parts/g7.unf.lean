/-! a thing as a tree: at any depth of going, moves, heights -/
def mvL : List (Nat × Nat × Nat) → (Nat × Nat × Nat → Nat) → Nat
  | [], _ => 0
  | x :: l, g => g x + mvL l g
def mvN (M : Int → Int) : Nat → Nat × Nat × Nat → Nat
  | 0, _ => 0
  | f + 1, x => 1 + (if isQb M x.1 then 1 else 0) + mvL (itm M x) (mvN M f)
def hgL : List (Nat × Nat × Nat) → (Nat × Nat × Nat → Nat) → Nat
  | [], _ => 0
  | x :: l, g => max (l.length + g x) (hgL l g)
def hgN (M : Int → Int) : Nat → Nat × Nat × Nat → Nat
  | 0, _ => 0
  | f + 1, x => (if isQb M x.1 then 1 else 0) + max (itm M x).length (hgL (itm M x) (hgN M f))
theorem cat_cg {g g' : Nat × Nat × Nat → List Int} : ∀ {l : List (Nat × Nat × Nat)}, (∀ y ∈ l, g y = g' y) → cat l g = cat l g' := by
  intro l
  induction l with
  | nil => intro _; rfl
  | cons a l ih => intro h; show g a ++ cat l g = g' a ++ cat l g'; rw [h a (List.mem_cons_self ..), ih (fun y hy => h y (List.mem_cons_of_mem _ hy))]
theorem prd_cg {g g' : Nat × Nat × Nat → Nat} : ∀ {l : List (Nat × Nat × Nat)}, (∀ y ∈ l, g y = g' y) → prd l g = prd l g' := by
  intro l
  induction l with
  | nil => intro _; rfl
  | cons a l ih => intro h; show g a * prd l g = g' a * prd l g'; rw [h a (List.mem_cons_self ..), ih (fun y hy => h y (List.mem_cons_of_mem _ hy))]
theorem mxl_cg {g g' : Nat × Nat × Nat → Nat} : ∀ {l : List (Nat × Nat × Nat)}, (∀ y ∈ l, g y = g' y) → mxl l g = mxl l g' := by
  intro l
  induction l with
  | nil => intro _; rfl
  | cons a l ih => intro h; show max (g a) (mxl l g) = max (g' a) (mxl l g'); rw [h a (List.mem_cons_self ..), ih (fun y hy => h y (List.mem_cons_of_mem _ hy))]
theorem mvL_cg {g g' : Nat × Nat × Nat → Nat} : ∀ {l : List (Nat × Nat × Nat)}, (∀ y ∈ l, g y = g' y) → mvL l g = mvL l g' := by
  intro l
  induction l with
  | nil => intro _; rfl
  | cons a l ih => intro h; show g a + mvL l g = g' a + mvL l g'; rw [h a (List.mem_cons_self ..), ih (fun y hy => h y (List.mem_cons_of_mem _ hy))]
theorem hgL_cg {g g' : Nat × Nat × Nat → Nat} : ∀ {l : List (Nat × Nat × Nat)}, (∀ y ∈ l, g y = g' y) → hgL l g = hgL l g' := by
  intro l
  induction l with
  | nil => intro _; rfl
  | cons a l ih => intro h; show max (l.length + g a) (hgL l g) = max (l.length + g' a) (hgL l g'); rw [h a (List.mem_cons_self ..), ih (fun y hy => h y (List.mem_cons_of_mem _ hy))]
/-- how deep one goes does not matter -/
theorem tree_st {S : St} {E TE : Nat → Prop} {rO rT rK : Nat → Nat} (h : Cor S) (rk : RKs (S 84) E TE rO rT rK) : ∀ (f g : Nat) (x : Nat × Nat × Nat), VN (S 84) x → ms rO x < f → ms rO x < g → txt (S 84) f x = txt (S 84) g x ∧ trn (S 84) f x = trn (S 84) g x ∧ dpN (S 84) f x = dpN (S 84) g x ∧ mvN (S 84) f x = mvN (S 84) g x ∧ hgN (S 84) f x = hgN (S 84) g x := by
  intro f
  induction f with
  | zero => intro g x _ hm; omega
  | succ f ih =>
    intro g x hx hf hg
    obtain ⟨g, rfl⟩ : ∃ g', g = g' + 1 := ⟨g - 1, by omega⟩
    have io := itm_ok h rk hx
    have k := fun y hy => ih g y (io y hy).1 (by have := (io y hy).2.1; omega) (by have := (io y hy).2.1; omega)
    refine ⟨?_, ?_, ?_, ?_, ?_⟩
    · show hdS (S 84) x ++ (cat (itm (S 84) x) (txt (S 84) f) ++ tlS (S 84) x) = hdS (S 84) x ++ (cat (itm (S 84) x) (txt (S 84) g) ++ tlS (S 84) x)
      rw [cat_cg (fun y hy => (k y hy).1)]
    · show own (S 84) x * prd (itm (S 84) x) (trn (S 84) f) = own (S 84) x * prd (itm (S 84) x) (trn (S 84) g)
      rw [prd_cg (fun y hy => (k y hy).2.1)]
    · show _ + mxl (itm (S 84) x) (dpN (S 84) f) = _ + mxl (itm (S 84) x) (dpN (S 84) g)
      rw [mxl_cg (fun y hy => (k y hy).2.2.1)]
    · show _ + mvL (itm (S 84) x) (mvN (S 84) f) = _ + mvL (itm (S 84) x) (mvN (S 84) g)
      rw [mvL_cg (fun y hy => (k y hy).2.2.2.1)]
    · show _ + max (itm (S 84) x).length (hgL (itm (S 84) x) (hgN (S 84) f)) = _ + max (itm (S 84) x).length (hgL (itm (S 84) x) (hgN (S 84) g))
      rw [hgL_cg (fun y hy => (k y hy).2.2.2.2)]
theorem ms_432 {M : Int → Int} {E TE : Nat → Prop} {rO rT rK : Nat → Nat} {x : Nat × Nat × Nat} (w : WF M) (rk : RKs M E TE rO rT rK) (hx : VN M x) : ms rO x < 432 := by
  have r := rk.2.1 x.1 hx.1
  have := hx.2.1
  have := w.2.1
  unfold ms
  omega
/-- a thing out of what stands in it -/
theorem tree_unf {S : St} (h : Cor S) {x : Nat × Nat × Nat} (hx : VN (S 84) x) : txt (S 84) 432 x = hdS (S 84) x ++ (cat (itm (S 84) x) (txt (S 84) 432) ++ tlS (S 84) x) ∧ trn (S 84) 432 x = own (S 84) x * prd (itm (S 84) x) (trn (S 84) 432) ∧ dpN (S 84) 432 x = (if isQb (S 84) x.1 then 1 else 0) + mxl (itm (S 84) x) (dpN (S 84) 432) ∧ mvN (S 84) 432 x = 1 + (if isQb (S 84) x.1 then 1 else 0) + mvL (itm (S 84) x) (mvN (S 84) 432) ∧ hgN (S 84) 432 x = (if isQb (S 84) x.1 then 1 else 0) + max (itm (S 84) x).length (hgL (itm (S 84) x) (hgN (S 84) 432)) := by
  obtain ⟨E, TE, rO, rT, rK, rk⟩ := h.rks
  have m := ms_432 h.wf rk hx
  obtain ⟨a, b, c, d, e⟩ := tree_st h rk 432 433 x hx m (by omega)
  exact ⟨a, b, c, d, e⟩
theorem itm_vn {S : St} (h : Cor S) {x : Nat × Nat × Nat} (hx : VN (S 84) x) : ∀ y ∈ itm (S 84) x, VN (S 84) y := by
  obtain ⟨E, TE, rO, rT, rK, rk⟩ := h.rks
  exact fun y hy => (itm_ok h rk hx y hy).1
/-- what a kind's thing needs: moves, heights, turns, a number each -/
def SPB (M : Int → Int) : Prop := (∀ x, VN M x → hgN M 432 x ≤ 1000 ∧ trn M 432 x ≤ 100000) ∧ ∀ e n v : Nat, (e : Int) < M 0 → (n : Int) ≤ M 1 → v < kM M e n → kM M e n ≤ 200 → mvL (exI M e n v) (mvN M 432) ≤ 999990 ∧ (exI M e n v).length ≤ 24 ∧ tR M e n v ≤ 100000
theorem len_hd {M : Int → Int} {x : Nat × Nat × Nat} : (hdS M x).length ≤ 1 := by
  unfold hdS dgS
  split
  · exact Nat.le_refl _
  · split
    · exact Nat.le_refl _
    · split
      · split
        · exact Nat.zero_le _
        · exact Nat.le_refl _
      · exact Nat.le_refl _
theorem len_tl {M : Int → Int} {x : Nat × Nat × Nat} : (tlS M x).length = if isQb M x.1 then 1 else 0 := by
  unfold tlS
  split <;> rfl
theorem len_cat {g : Nat × Nat × Nat → List Int} {m : Nat × Nat × Nat → Nat} : ∀ {l : List (Nat × Nat × Nat)}, (∀ y ∈ l, (g y).length ≤ m y) → (cat l g).length ≤ mvL l m := by
  intro l
  induction l with
  | nil => intro _; exact Nat.le_refl _
  | cons a l ih =>
    intro h
    show (g a ++ cat l g).length ≤ m a + mvL l m
    rw [List.length_append]
    have := h a (List.mem_cons_self ..)
    have := ih (fun y hy => h y (List.mem_cons_of_mem _ hy))
    omega
/-- no more signs than moves -/
theorem len_mv {M : Int → Int} : ∀ (f : Nat) (x : Nat × Nat × Nat), (txt M f x).length ≤ mvN M f x := by
  intro f
  induction f with
  | zero => intro x; exact Nat.le_refl _
  | succ f ih =>
    intro x
    show (hdS M x ++ (cat (itm M x) (txt M f) ++ tlS M x)).length ≤ 1 + (if isQb M x.1 then 1 else 0) + mvL (itm M x) (mvN M f)
    rw [List.length_append, List.length_append, len_tl]
    have := len_hd (M := M) (x := x)
    have := len_cat (g := txt M f) (m := mvN M f) (l := itm M x) (fun y _ => ih y)
    omega
theorem len_tX {M : Int → Int} (sb : SPB M) {e n v : Nat} (he : (e : Int) < M 0) (hn : (n : Int) ≤ M 1) (hv : v < kM M e n) (h2 : kM M e n ≤ 200) : (tX M e n v).length ≤ 1000000 := by
  have a := (sb.2 e n v he hn hv h2).1
  have b := len_cat (g := txt M 432) (m := mvN M 432) (l := exI M e n v) (fun y _ => len_mv 432 y)
  have c : (dgS M e n v).length ≤ 1 := by
    unfold dgS
    split
    · exact Nat.zero_le _
    · exact Nat.le_refl _
  unfold tX
  rw [List.length_append]
  omega
