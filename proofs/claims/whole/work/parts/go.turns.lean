/-! bounds: in how many ways a thing may be turned -/
def szL : List (Nat × Nat × Nat) → Nat
  | [] => 0
  | x :: l => x.2.1 + szL l
theorem tmI_size {S : St} (h : Cor S) : ∀ (f p n v : Nat), (p : Int) < S 84 2 → (n : Int) ≤ S 84 1 → v < rM (S 84) p n → rM (S 84) p n ≤ 200 → szL (tmI (S 84) f (p : Int) n v) ≤ n := by
  have w := h.wf
  have hM1 := w.2.1
  intro f
  induction f with
  | zero => intro p n v _ _ _ _; exact Nat.zero_le _
  | succ f ih =>
    intro p n v hp hn hv h2
    have hr := r_parts h hp (n := n) (by omega)
    have hr' : rM (S 84) p n = sm (n + 1) (fun s => yM (S 84) p s * bhM (S 84) p (n - s)) := by
      rcases ev_to hr with q | ⟨q, _⟩
      · exact q
      · rw [CC_eq] at q; omega
    have ok := (w.2.2.2.1 p hp).2.1
    have hv0 := hv
    rw [hr'] at hv
    rw [sm_congr (g := fun i => (fun s => yM (S 84) p s * bhM (S 84) p (n - s)) (0 + i)) (fun i _ => by rw [Nat.zero_add])] at hv
    obtain ⟨s, u, p1, p2, p3, p4, p5⟩ := pk_ok (g := fun s => yM (S 84) p s * bhM (S 84) p (n - s)) (n + 1) 0 v hv
    try dsimp only at p4
    obtain ⟨d1, d2, d3⟩ := dm_lt p4
    have le1 : yM (S 84) p s * bhM (S 84) p (n - s) ≤ 200 := by
      refine Nat.le_trans (le_sm (n := n + 1) (f := fun s => yM (S 84) p s * bhM (S 84) p (n - s)) (i := s) (by omega)) ?_
      rw [← hr']; exact h2
    have yp : 0 < yM (S 84) p s := Nat.lt_of_le_of_lt (Nat.zero_le _) d2
    have le3 : bhM (S 84) p (n - s) ≤ 200 := Nat.le_trans (Nat.le_mul_of_pos_left _ yp) le1
    rw [tmI_s p1]
    show s + szL _ ≤ n
    rcases ok with q | q
    · rw [tmI_n (by omega)]
      show s + 0 ≤ n
      omega
    · obtain ⟨q', hq'⟩ : ∃ q' : Nat, S 84 (96 + (p : Int)) = (q' : Int) := ⟨(S 84 (96 + (p : Int))).toNat, by omega⟩
      rw [bh_n (by omega), hq'] at d3 le3
      rw [show ((q' : Nat) : Int).toNat = q' from rfl] at d3 le3
      rw [hq', bh_n (by omega), hq', show ((q' : Nat) : Int).toNat = q' from rfl]
      have := ih q' (n - s) (u % rM (S 84) q' (n - s)) (by omega) (by omega) d3 le3
      omega
theorem fac_s {n : Nat} : fac (n + 1) = (n + 1) * fac n := rfl
theorem fac_ps (n : Nat) : 1 ≤ fac n := by
  induction n with
  | zero => exact Nat.le_refl _
  | succ n ih => rw [fac_s]; exact Nat.mul_pos (by omega) ih
theorem fac_mul {a : Nat} : ∀ b : Nat, fac a * fac b ≤ fac (a + b) := by
  intro b
  induction b with
  | zero => show fac a * 1 ≤ fac a; omega
  | succ b ih =>
    rw [show a + (b + 1) = (a + b) + 1 by omega, fac_s, fac_s]
    calc fac a * ((b + 1) * fac b) = (b + 1) * (fac a * fac b) := by rw [Nat.mul_left_comm]
      _ ≤ (b + 1) * fac (a + b) := Nat.mul_le_mul_left _ ih
      _ ≤ (a + b + 1) * fac (a + b) := Nat.mul_le_mul_right _ (by omega)
theorem chG_le : ∀ (l : List (Nat × Nat)) (a : Nat × Nat) (r w : Nat), chG a r w l * fac r ≤ w * fac (r + l.length) := by
  intro l
  induction l with
  | nil => intro a r w; exact Nat.le_refl _
  | cons x l ih =>
    intro a r w
    show chG x (if a = x then r + 1 else 1) (w * (if a = x then r + 1 else 1)) l * fac r ≤ w * fac (r + (l.length + 1))
    by_cases z : a = x
    · rw [if_pos z]
      have k := ih x (r + 1) (w * (r + 1))
      rw [fac_s] at k
      have k2 : (r + 1) * (chG x (r + 1) (w * (r + 1)) l * fac r) ≤ (r + 1) * (w * fac (r + 1 + l.length)) := by
        calc (r + 1) * (chG x (r + 1) (w * (r + 1)) l * fac r) = chG x (r + 1) (w * (r + 1)) l * ((r + 1) * fac r) := by rw [Nat.mul_left_comm]
          _ ≤ w * (r + 1) * fac (r + 1 + l.length) := k
          _ = (r + 1) * (w * fac (r + 1 + l.length)) := by rw [Nat.mul_comm w (r + 1), Nat.mul_assoc]
      have k3 := Nat.le_of_mul_le_mul_left k2 (by omega)
      rw [show r + (l.length + 1) = r + 1 + l.length by omega]
      exact k3
    · rw [if_neg z, Nat.mul_one]
      have k := ih x 1 w
      rw [show fac 1 = 1 from rfl, Nat.mul_one] at k
      calc chG x 1 w l * fac r ≤ w * fac (1 + l.length) * fac r := Nat.mul_le_mul_right _ k
        _ = w * (fac r * fac (1 + l.length)) := by rw [Nat.mul_assoc, Nat.mul_comm (fac (1 + l.length))]
        _ ≤ w * fac (r + (1 + l.length)) := Nat.mul_le_mul_left _ (fac_mul _)
        _ = w * fac (r + (l.length + 1)) := by rw [Nat.add_comm 1 l.length]
theorem chg_le (L : List (Nat × Nat)) : chg L ≤ fac L.length := by
  cases L with
  | nil => exact Nat.le_refl _
  | cons a l =>
    have := chG_le l a 1 1
    rw [show fac 1 = 1 from rfl, Nat.mul_one, Nat.one_mul, Nat.add_comm] at this
    exact this
theorem le_facN (n : Nat) : n ≤ fac n := by
  cases n with
  | zero => exact Nat.zero_le _
  | succ n => rw [fac_s]; exact Nat.le_mul_of_pos_right _ (fac_ps n)
theorem stb_le (L : List (Nat × Nat)) : stb L ≤ fac L.length := by
  refine Nat.le_trans ?_ (le_facN _)
  have : ∀ n : Nat, sm n (fun t => if rot t L = L then 1 else 0) ≤ n := by
    intro n
    induction n with
    | zero => exact Nat.le_refl _
    | succ n ih =>
      rw [sm_s]
      have : (if rot n L = L then 1 else 0) ≤ 1 := by split <;> omega
      omega
  exact this _
