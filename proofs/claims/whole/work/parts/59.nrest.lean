-- the reference's names: a part and what comes after it
def nr (Y R : Nat → Nat) (q : Int) (p n : Nat) : Nat := if q < 0 then Y (p * 8 + n) else sm (n + 1) (fun s => cho n s * (Y (p * 8 + s) * R (q.toNat * 8 + (n - s))))
theorem min_mul {L c x : Nat} : min L (c * min L x) = min L (c * x) := by
  by_cases h : x ≤ L
  · rw [Nat.min_eq_right h]
  · rw [show min L x = L from Nat.min_eq_left (by omega)]
    cases c with
    | zero => rw [Nat.zero_mul, Nat.zero_mul]
    | succ c =>
      have a : L ≤ (c + 1) * L := Nat.le_mul_of_pos_left _ (by omega)
      have b : L ≤ (c + 1) * x := Nat.le_trans (by omega) (Nat.le_mul_of_pos_left x (show 0 < c + 1 by omega))
      rw [Nat.min_eq_left a, Nat.min_eq_left b]
theorem nr34 {S : St} {p q n : Nat} (hp : p < 30) (hq : q < 24) (hn : n ≤ 7) (h93 : nb S 93 240 1000000000000) (h94 : nb S 94 192 1000000000000) : ∀ d s f : Nat, s + d = n + 1 → d < f → mX12_namesRest_34 S (q : Int) (p : Int) (n : Int) f (s : Int) ((min CC (sm s (fun s => cho n s * (tb S 93 (p * 8 + s) * tb S 94 (q * 8 + (n - s))))) : Nat) : Int) = some ((min CC (sm (n + 1) (fun s => cho n s * (tb S 93 (p * 8 + s) * tb S 94 (q * 8 + (n - s))))) : Nat) : Int) := by
  intro d
  induction d with
  | zero =>
    intro s f hi hf
    obtain ⟨g, rfl⟩ : ∃ g, f = g + 1 := ⟨f - 1, by omega⟩
    rw [mX12_namesRest_34, gd_t (by omega), if_pos (by omega), show s = n + 1 by omega]
  | succ d ih =>
    intro s f hi hf
    obtain ⟨g, rfl⟩ : ∃ g, f = g + 1 := ⟨f - 1, by omega⟩
    have l := ih (s + 1) g (by omega) (by omega)
    rw [sm_s, ← min_add] at l
    have v1 := h93.at (show p * 8 + s < 240 by omega)
    have v2 := h94.at (show q * 8 + (n - s) < 192 by omega)
    rw [show ((p * 8 + s : Nat) : Int) = (p : Int) * 8 + (s : Int) by omega] at v1
    rw [show ((q * 8 + (n - s) : Nat) : Int) = (q : Int) * 8 + (n : Int) - (s : Int) by omega] at v2
    have cl : ∀ x : Nat, min CC x ≤ 1000000000000 := fun x => Nat.min_le_left _ _
    have c1 := cl (sm s (fun s => cho n s * (tb S 93 (p * 8 + s) * tb S 94 (q * 8 + (n - s)))))
    have c2 := cl (tb S 93 (p * 8 + s) * tb S 94 (q * 8 + (n - s)))
    have c3 := cl (cho n s * min CC (tb S 93 (p * 8 + s) * tb S 94 (q * 8 + (n - s))))
    have c4 : cho n s ≤ 128 := cho_128 hn
    rw [mX12_namesRest_34, gd_t (by omega), if_neg (by omega), gd_t (by omega), if_neg (by omega), gd_t (by omega), gd_t (by omega), v1.1, v2.1, bd1_e (e_mulC (by omega) (by omega)), bd1_e (e_ofAll hn (by omega)), ← CC_eq]
    rw [← CC_eq] at c1 c2 c3
    rw [bd1_e (show mX12_mul ((cho n s : Nat) : Int) ((min CC (tb S 93 (p * 8 + s) * tb S 94 (q * 8 + (n - s))) : Nat) : Int) 1000000000000 = _ from e_mulC (by omega) (by rw [CC_eq] at c2 ⊢; omega)), ← CC_eq, min_mul, bd1_e (e_addC (by have := cl (cho n s * (tb S 93 (p * 8 + s) * tb S 94 (q * 8 + (n - s)))); rw [CC_eq] at c1 this ⊢; omega)), ← CC_eq]
    rw [show ((s + 1 : Nat) : Int) = (s : Int) + 1 by omega] at l
    exact l
theorem e_namesRest {S : St} {p n : Nat} {q : Int} (hp : p < 24) (hq : q = -1 ∨ (0 ≤ q ∧ q < 24)) (hS : S 84 (96 + (p : Int)) = q) (hn : n ≤ 7) (h93 : nb S 93 240 1000000000000) (h94 : nb S 94 192 1000000000000) : mX12_namesRest S (p : Int) (n : Int) = some (up S 94 ((p * 8 + n : Nat) : Int) ((min CC (nr (tb S 93) (tb S 94) q p n) : Nat) : Int)) := by
  have v1 := h93.at (show p * 8 + n < 240 by omega)
  have hc : ((p * 8 + n : Nat) : Int) = (p : Int) * 8 + (n : Int) := by omega
  rw [hc] at v1
  unfold mX12_namesRest nr
  rw [gd_t (by omega), hS, nx_e]
  by_cases z : q < 0
  · rw [if_pos z, bd1_e (show (gd (inI q) <| if 0 ≤ q then (some (0 : Int)) else (gd (0 ≤ (((p : Int) * 8) + (n : Int)) ∧ (((p : Int) * 8) + (n : Int)) < 240) <| some ((S 93 (((p : Int) * 8) + (n : Int)))))) = some ((tb S 93 (p * 8 + n) : Nat) : Int) by rw [gd_t (by omega), if_neg (by omega), gd_t (by omega), v1.1])]
    rw [bd1_e (show mX12_namesRest_34 S q (p : Int) (n : Int) FU 0 ((tb S 93 (p * 8 + n) : Nat) : Int) = some ((tb S 93 (p * 8 + n) : Nat) : Int) by unfold FU; rw [show 2000000 = 1999999 + 1 from rfl, mX12_namesRest_34, gd_t (by omega), if_neg (by omega), gd_t (by omega), if_pos z]), gd_t (by omega), nx_e, hc]
    rw [show min CC (tb S 93 (p * 8 + n)) = tb S 93 (p * 8 + n) by have := v1.2; rw [CC_eq]; omega]
  · obtain ⟨r, rfl⟩ : ∃ r : Nat, q = (r : Int) := ⟨q.toNat, by omega⟩
    have l := nr34 (S := S) (p := p) (q := r) (n := n) (by omega) (by omega) hn h93 h94 (n + 1) 0 FU (by omega) (by unfold FU; omega)
    rw [if_neg z, bd1_e (show (gd (inI (r : Int)) <| if 0 ≤ (r : Int) then (some (0 : Int)) else _) = some (0 : Int) by rw [gd_t (by omega), if_pos (by omega)])]
    rw [bd1_e (show mX12_namesRest_34 S (r : Int) (p : Int) (n : Int) FU 0 0 = _ from l), gd_t (by omega), nx_e, hc]
    rfl
