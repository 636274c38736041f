/-! both sides: the labelled forms of a thing -/
theorem chG_pos : ∀ (l : List (Nat × Nat)) (a : Nat × Nat) (r w : Nat), 1 ≤ w → 1 ≤ chG a r w l := by
  intro l
  induction l with
  | nil => intro a r w h; exact h
  | cons x l ih =>
    intro a r w h
    show 1 ≤ chG x (if a = x then r + 1 else 1) (w * (if a = x then r + 1 else 1)) l
    refine ih x _ _ (Nat.le_trans h (Nat.le_mul_of_pos_right _ ?_))
    split <;> omega
theorem chg_pos (L : List (Nat × Nat)) : 1 ≤ chg L := by
  cases L with
  | nil => exact Nat.le_refl _
  | cons a l => exact chG_pos l a 1 1 (Nat.le_refl _)
theorem stb_pos {L : List (Nat × Nat)} (h : L ≠ []) : 1 ≤ stb L := by
  have hl : 0 < L.length := by
    rcases Nat.eq_zero_or_pos L.length with z | z
    · exact absurd (List.eq_nil_of_length_eq_zero z) h
    · exact z
  have := le_sm (n := L.length) (f := fun t => if rot t L = L then 1 else 0) (i := 0) hl
  try dsimp only at this
  rw [if_pos ((rot_id hl).mpr (fun k hk => by rw [Nat.add_zero, Nat.mod_eq_of_lt hk]))] at this
  exact this
theorem own_pos {S : St} (h : Cor S) {x : Nat × Nat × Nat} (hx : VN (S 84) x) : 1 ≤ own (S 84) x := by
  obtain ⟨p, n, v⟩ := x
  obtain ⟨hp, hn, hv, h2⟩ := hx
  dsimp only at hp hn hv h2
  have w := h.wf
  have hM1 := w.2.1
  unfold own
  dsimp only
  split
  · exact chg_pos _
  · split
    · next t4 t6 =>
      have hs : isSq (S 84) p := by unfold isSq; omega
      have nu := nu_ge w hp hs
      have e : sqI (S 84) p n v = ((rgM (S 84) p n)[v]?).getD [] := by unfold sqI; rw [if_neg (by omega), if_pos t6]
      have e1 := y_ring h hp (n := n) (by omega) t6
      have e' : yM (S 84) p n = (rgM (S 84) p n).length := by
        rcases ev_to e1 with q | ⟨q, _⟩
        · exact q
        · rw [CC_eq] at q; omega
      have hv' : v < (rgM (S 84) p n).length := by rw [← e']; exact hv
      have ex : (rgM (S 84) p n)[v]? = some (sqI (S 84) p n v) := by
        rw [e, List.getElem?_eq_getElem hv']; rfl
      obtain ⟨r1, r2, r3, r4, -⟩ := rg_ok (by omega) nu (by omega) ex
      exact stb_pos r4
    · exact Nat.le_refl _
theorem prd_pos {g : Nat × Nat × Nat → Nat} : ∀ {l : List (Nat × Nat × Nat)}, (∀ y ∈ l, 1 ≤ g y) → 1 ≤ prd l g := by
  intro l
  induction l with
  | nil => intro _; exact Nat.le_refl _
  | cons a l ih =>
    intro h
    show 1 ≤ g a * prd l g
    exact Nat.mul_pos (h a (List.mem_cons_self ..)) (ih (fun y hy => h y (List.mem_cons_of_mem _ hy)))
theorem trn_pos {S : St} (h : Cor S) {x : Nat × Nat × Nat} (hx : VN (S 84) x) : 1 ≤ trn (S 84) 432 x := by
  have key : ∀ (f : Nat) (x : Nat × Nat × Nat), VN (S 84) x → 1 ≤ trn (S 84) f x := by
    intro f
    induction f with
    | zero => intro x _; exact Nat.le_refl _
    | succ f ih =>
      intro x hx
      show 1 ≤ own (S 84) x * prd (itm (S 84) x) (trn (S 84) f)
      exact Nat.mul_pos (own_pos h hx) (prd_pos (fun y hy => ih y (itm_vn h hx y hy)))
  exact key 432 x hx
theorem s_labels {S : St} (h : SpO S) {a b c : Int} (ha : inI a) (hb : inI b) (hc : inI c) : ∃ (r : Int) (S1 S2 : St), mX11_labels S a b c = some (r, S1) ∧ mX12_labels S1 a b c = some (r, S2) ∧ inI r ∧ SpR S S1 S2 := by
  rcases e_asks (i := -1) (l := -1) h ha hb hc (by decide) (by decide) with ⟨e, n, v, S1, S3, S2, x1, x2, x3, x4, x5, x6, x7, x8⟩ | ⟨r, S2, r1, r2, r3, r4⟩
  · have ln := (h.1.2.2.2 e n v x1.1 x1.2.1 x1.2.2.1 x1.2.2.2).2.2
    have hM1 := h.1.1.wf.2.1
    have n7 : n ≤ 7 := by have := x1.2.1; omega
    have pos : 1 ≤ tR (S 84) e n v := prd_pos (fun y hy => trn_pos h.1.1 ((tD_le h x1).2.1 y hy))
    have ft := fac_tab n n7
    have fb : fac n ≤ 5040 := by
      have k : ∀ n : Fin 8, fac n.val ≤ 5040 := by decide +kernel
      exact k ⟨n, by omega⟩
    obtain ⟨F, hF⟩ : ∃ F, F = fac n := ⟨_, rfl⟩
    rw [← hF] at ft fb
    obtain ⟨R, hR⟩ : ∃ R, R = tR (S 84) e n v := ⟨_, rfl⟩
    have c6 : S1 60 6 = (R : Int) := by rw [x4.2.1.2.1, hR]
    have d6 : S2 83 26 = (R : Int) := by rw [x7.2.1.2.2.1, hR]
    rw [← hR] at ln pos
    have dl' := Nat.div_le_self F R
    have zI : inI ((F / R : Nat) : Int) := by
      generalize F / R = Z at dl'
      omega
    have de : (F : Int) / (R : Int) = ((F / R : Nat) : Int) := rfl
    obtain ⟨rfl, rfl, rfl⟩ := x2
    refine ⟨((F / R : Nat) : Int), S1, S2, ?_, ?_, zI, x8⟩
    · unfold mX11_labels
      refine entG_e ?_ x8.1.2.1
      refine bdG2_e x3 x8.1.2.1 ?_ gle_rfl
      rw [gd_t (by decide), if_pos rfl, c6, gd_t (by omega), if_pos (by omega), gd_t (by omega), ft, gd_t ⟨by omega, by omega⟩, de]
    · have sy : mX12_symmetries S1 (e : Int) (n : Int) (v : Int) = some ((R : Int), S2) := by
        unfold mX12_symmetries
        rw [bd2_e x5, gd_t (by decide), if_pos (by decide), bd1_e x6, d6]
      unfold mX12_labels
      rw [bd2_e sy, gd_t (by omega), if_pos (by omega), bd1_e (e_factorial n7), ← hF, gd_t ⟨by omega, by omega⟩, de]
  · refine ⟨r, S, S2, ?_, ?_, by omega, r4⟩
    · unfold mX11_labels
      refine entG_e ?_ gle_rfl
      refine bdG2_e r2 gle_rfl ?_ gle_rfl
      rw [gd_t (by omega), if_neg (by omega)]
    · have sy : mX12_symmetries S a b c = some (r, S2) := by
        unfold mX12_symmetries
        rw [bd2_e r3, gd_t (by omega), if_neg (by omega)]
      unfold mX12_labels
      rw [bd2_e sy, gd_t (by omega), if_neg (by omega)]
