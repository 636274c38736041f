/-! bounds: turns by size -/
def t5 (s : Nat) : Nat := 5 ^ (s - 1)
theorem t5_pos (s : Nat) : 1 ≤ t5 s := Nat.one_le_pow _ _ (by decide)
theorem t5_mul {a b : Nat} : t5 a * t5 b ≤ t5 (a + b) := by
  unfold t5
  rw [← Nat.pow_add]
  exact Nat.pow_le_pow_right (by decide) (by omega)
theorem t5_mo {a b : Nat} (h : a ≤ b) : t5 a ≤ t5 b := Nat.pow_le_pow_right (by decide) (by omega)
theorem prd_tE {g : Nat × Nat × Nat → Nat} : ∀ {l : List (Nat × Nat × Nat)}, (∀ y ∈ l, g y ≤ t5 y.2.1) → prd l g ≤ t5 (szL l) := by
  intro l
  induction l with
  | nil => intro _; exact t5_pos _
  | cons a l ih =>
    intro h
    show g a * prd l g ≤ t5 (a.2.1 + szL l)
    exact Nat.le_trans (Nat.mul_le_mul (h a (List.mem_cons_self ..)) (ih (fun y hy => h y (List.mem_cons_of_mem _ hy)))) t5_mul
/-- things none of which is of size 0 -/
theorem prd_pw {g : Nat × Nat × Nat → Nat} : ∀ {l : List (Nat × Nat × Nat)}, (∀ y ∈ l, g y ≤ t5 y.2.1 ∧ 1 ≤ y.2.1) → prd l g * 5 ^ l.length ≤ 5 ^ szL l := by
  intro l
  induction l with
  | nil => intro _; exact Nat.le_refl _
  | cons a l ih =>
    intro h
    have h1 := h a (List.mem_cons_self ..)
    have h2 := ih (fun y hy => h y (List.mem_cons_of_mem _ hy))
    show g a * prd l g * 5 ^ (l.length + 1) ≤ 5 ^ (a.2.1 + szL l)
    have e1 : g a * prd l g * 5 ^ (l.length + 1) = (g a * 5) * (prd l g * 5 ^ l.length) := by
      rw [Nat.pow_succ, Nat.mul_comm (5 ^ l.length) 5, Nat.mul_mul_mul_comm]
    have e2 : g a * 5 ≤ 5 ^ a.2.1 := by
      have : t5 a.2.1 * 5 = 5 ^ a.2.1 := by
        unfold t5
        rw [← Nat.pow_succ, show (a.2.1 - 1).succ = a.2.1 by omega]
      rw [← this]
      exact Nat.mul_le_mul_right _ h1.1
    rw [e1, Nat.pow_add]
    exact Nat.mul_le_mul e2 h2
theorem fac5 {m : Nat} (h : m ≤ 7) : fac m * 5 ≤ 5 ^ m * 5 ∧ (1 ≤ m → fac m * 5 ≤ 5 ^ m) := by
  have k : ∀ m : Fin 8, fac m.val * 5 ≤ 5 ^ m.val * 5 ∧ (1 ≤ m.val → fac m.val * 5 ≤ 5 ^ m.val) := by decide +kernel
  exact k ⟨m, by omega⟩
theorem szL_map {q : Nat} : ∀ L : List (Nat × Nat), szL (L.map (fun y => (q, y.1, y.2))) = tot L := by
  intro L
  induction L with
  | nil => rfl
  | cons a l ih => show a.1 + szL (l.map _) = a.1 + tot l; rw [ih]
theorem trn_le {S : St} (h : Cor S) : ∀ (f : Nat) (x : Nat × Nat × Nat), VN (S 84) x → trn (S 84) f x ≤ t5 x.2.1 := by
  obtain ⟨E, TE, rO, rT, rK, rk⟩ := h.rks
  intro f
  induction f with
  | zero => intro x _; exact t5_pos _
  | succ f ih =>
    intro x hx
    have vn := itm_vn h hx
    obtain ⟨p, n, v⟩ := x
    have hx' := hx
    obtain ⟨hp, hn, hv, h2⟩ := hx
    dsimp only at hp hn hv h2
    have w := h.wf
    have hM1 := w.2.1
    show own (S 84) (p, n, v) * prd (itm (S 84) (p, n, v)) (trn (S 84) f) ≤ t5 n
    by_cases hs : isSq (S 84) p
    · obtain ⟨x1, x2, x3, x4⟩ := sqI_ok h hp hs hn hv h2
      have len := (ok_sm x1 x2).1
      have hs' := hs
      unfold isSq at hs'
      have ei : itm (S 84) (p, n, v) = (sqI (S 84) p n v).map (fun y => (chM (S 84) p, y.1, y.2)) := by
        unfold itm
        rw [if_neg (by dsimp only; omega), if_neg (by dsimp only; omega)]
      have ow : own (S 84) (p, n, v) ≤ fac (sqI (S 84) p n v).length := by
        unfold own
        dsimp only
        split
        · exact chg_le _
        · split
          · exact stb_le _
          · exact fac_ps _
      rw [ei] at vn ⊢
      have pw := prd_pw (g := trn (S 84) f) (l := (sqI (S 84) p n v).map (fun y => (chM (S 84) p, y.1, y.2))) (fun y hy => ⟨ih y (vn y hy), by
        obtain ⟨z, z1, z2⟩ := List.mem_map.mp hy
        subst z2
        exact (x1 z z1).1⟩)
      rw [List.length_map, szL_map, x2] at pw
      obtain ⟨L, hL⟩ : ∃ L, L = (sqI (S 84) p n v).length := ⟨_, rfl⟩
      obtain ⟨P, hP⟩ : ∃ P, P = prd ((sqI (S 84) p n v).map (fun y => (chM (S 84) p, y.1, y.2))) (trn (S 84) f) := ⟨_, rfl⟩
      rw [← hL] at pw ow len
      rw [← hP] at pw ⊢
      by_cases z : L = 0
      · subst z
        have e0 : (sqI (S 84) p n v) = [] := List.eq_nil_of_length_eq_zero hL.symm
        have p1 : P = 1 := by rw [hP, e0]; rfl
        rw [p1, Nat.mul_one]
        exact Nat.le_trans ow (t5_pos _)
      · have l7 : L ≤ 7 := by omega
        have f5 := (fac5 l7).2 (by omega)
        have n1 : 1 ≤ n := by
          rcases Nat.eq_zero_or_pos n with y | y
          · subst y; omega
          · exact y
        have e5 : t5 n * 5 = 5 ^ n := by
          unfold t5
          rw [← Nat.pow_succ, show (n - 1).succ = n by omega]
        have a1 : own (S 84) (p, n, v) * P * 5 ≤ t5 n * 5 := by
          rw [e5]
          calc own (S 84) (p, n, v) * P * 5 ≤ fac L * P * 5 := Nat.mul_le_mul_right _ (Nat.mul_le_mul_right _ ow)
            _ = P * (fac L * 5) := by rw [Nat.mul_comm (fac L) P, Nat.mul_assoc]
            _ ≤ P * 5 ^ L := Nat.mul_le_mul_left _ f5
            _ ≤ 5 ^ n := pw
        exact Nat.le_of_mul_le_mul_right a1 (by decide)
    · have eo : own (S 84) (p, n, v) = 1 := by
        unfold isSq at hs
        unfold own
        rw [if_neg (by dsimp only; omega), if_neg (by dsimp only; omega)]
      rw [eo, Nat.one_mul]
      have sz : szL (itm (S 84) (p, n, v)) ≤ n := by
        by_cases t1 : S 84 (24 + (p : Int)) ≤ 1
        · unfold itm
          rw [if_pos (by dsimp only; omega)]
          exact Nat.zero_le _
        · have ok := (w.2.2.2.1 p hp).1
          have ty : S 84 (24 + (p : Int)) = 2 ∨ S 84 (24 + (p : Int)) = 7 := by unfold isSq at hs; omega
          obtain ⟨lo, l0, e30, eE, ev', e200, ex, p24⟩ := nm_ok h (x := (p, n, v)) hx' ty
          dsimp only at e30 eE ev' e200
          obtain ⟨t, u, a1, a2, a3, a4, a5, a6, a7⟩ := exI_ok h rk l0 eE hn ev' e200
          have q := (eE.2.1 t a2).2
          have ei : itm (S 84) (p, n, v) = exI (S 84) (exN (S 84) p) n v := by unfold itm; rw [if_neg (by dsimp only; omega), if_pos ty]
          rw [ei, a6]
          exact tmI_size h 24 _ n u (by omega) hn a4 a5
      exact Nat.le_trans (prd_tE (fun y hy => ih y (vn y hy))) (t5_mo sz)
theorem tR_le {S : St} (h : Cor S) {e n v : Nat} (x : isTh (S 84) e n v) : tR (S 84) e n v ≤ 100000 := by
  obtain ⟨k1, k2, k3, k4⟩ := x
  have wf := h.wf
  have hM1 := wf.2.1
  obtain ⟨E', TE, rO, rT, rK, rk⟩ := h.rks
  have e' : kM (S 84) e n = sm (cnE (S 84) e) (fun t => byM (S 84) e t n) := by
    rcases ev_to (k_terms h k1 (n := n) (by omega)) with q | ⟨q, _⟩
    · exact q
    · rw [CC_eq] at q; omega
  have oE := wf.2.2.2.2.1 e k1
  obtain ⟨tt, u, a1, a2, a3, a4, a5, a6, a7⟩ := exI_ok h rk (show (0 : Int) ≤ 0 by omega) oE k2 (by rw [← e']; exact k3) (by rw [← e']; exact k4)
  have q := (oE.2.1 tt a2).2
  have sz := tmI_size h 24 _ n u (by omega) k2 a4 a5
  rw [← a6] at sz
  have b := prd_tE (g := trn (S 84) 432) (l := exI (S 84) e n v) (fun y hy => trn_le h 432 y (a7 y hy).1)
  have c := t5_mo (show szL (exI (S 84) e n v) ≤ 7 by omega)
  have d : t5 7 = 15625 := by decide
  unfold tR
  omega
theorem trn_100 {S : St} (h : Cor S) {x : Nat × Nat × Nat} (hx : VN (S 84) x) : trn (S 84) 432 x ≤ 100000 := by
  have hM1 := h.wf.2.1
  have b := trn_le h 432 x hx
  have c := t5_mo (show x.2.1 ≤ 7 by have := hx.2.1; omega)
  have d : t5 7 = 15625 := by decide
  omega
