-- the reference's names: the tables set to zero; an expression's sum
theorem z93 : ∀ (d i f : Nat) (S : St), i + d = 240 → d < f → (∀ j : Nat, j < i → S 93 (j : Int) = 0) → wp (mX12_names_2 f (i : Int) S) (fun S' => (∀ j : Nat, j < 240 → S' 93 (j : Int) = 0) ∧ kept [93] [] S S') := by
  intro d
  induction d with
  | zero =>
    intro i f S hi hf h
    obtain ⟨g, rfl⟩ : ∃ g, f = g + 1 := ⟨f - 1, by omega⟩
    rw [mX12_names_2, gd_t (by omega), if_pos (by omega), wp_some]
    exact ⟨fun j hj => h j (by omega), fun _ _ _ _ => rfl⟩
  | succ d ih =>
    intro i f S hi hf h
    obtain ⟨g, rfl⟩ : ∃ g, f = g + 1 := ⟨f - 1, by omega⟩
    rw [mX12_names_2, gd_t (by omega), if_neg (by omega), gd_t (by omega), nx_e]
    have := ih (i + 1) g (up S 93 (i : Int) 0) (by omega) (by omega) (fun j hj => by
      by_cases e : j = i
      · subst e; exact up_eq
      · rw [up_nk (by omega)]; exact h j (by omega))
    rw [show ((i + 1 : Nat) : Int) = (i : Int) + 1 by omega] at this
    refine wp_mono this (fun S' q => ⟨q.1, fun r k a b => ?_⟩)
    rw [q.2 r k a b, up_n (by intro e; exact a (by simp [e]))]
theorem z94 : ∀ (d i f : Nat) (S : St), i + d = 192 → d < f → (∀ j : Nat, j < i → S 94 (j : Int) = 0) → wp (mX12_names_26 f (i : Int) S) (fun S' => (∀ j : Nat, j < 192 → S' 94 (j : Int) = 0) ∧ kept [94] [] S S') := by
  intro d
  induction d with
  | zero =>
    intro i f S hi hf h
    obtain ⟨g, rfl⟩ : ∃ g, f = g + 1 := ⟨f - 1, by omega⟩
    rw [mX12_names_26, gd_t (by omega), if_pos (by omega), wp_some]
    exact ⟨fun j hj => h j (by omega), fun _ _ _ _ => rfl⟩
  | succ d ih =>
    intro i f S hi hf h
    obtain ⟨g, rfl⟩ : ∃ g, f = g + 1 := ⟨f - 1, by omega⟩
    rw [mX12_names_26, gd_t (by omega), if_neg (by omega), gd_t (by omega), nx_e]
    have := ih (i + 1) g (up S 94 (i : Int) 0) (by omega) (by omega) (fun j hj => by
      by_cases e : j = i
      · subst e; exact up_eq
      · rw [up_nk (by omega)]; exact h j (by omega))
    rw [show ((i + 1 : Nat) : Int) = (i : Int) + 1 by omega] at this
    refine wp_mono this (fun S' q => ⟨q.1, fun r k a b => ?_⟩)
    rw [q.2 r k a b, up_n (by intro e; exact a (by simp [e]))]
theorem ne17 {S : St} {e n : Nat} {lo : Int} (h : WF (S 84)) (he : e < 30) (hlo : 0 ≤ lo) (hE : okE (S 84) lo e) (hn : n ≤ 7) (hR : nb S 94 192 1000000000000) : ∀ d t f : Nat, (t : Int) + d = S 84 (198 + (e : Int)) → d < f → mX12_namedExpr_17 S (e : Int) (n : Int) f (tlM (S 84) e t) (t : Int) ((min CC (sm t (fun t => if offM (S 84) e t then 0 else tb S 94 ((fpM (S 84) e t).toNat * 8 + n))) : Nat) : Int) = some ((min CC (xs (S 84) (fun p => tb S 94 (p * 8 + n)) e) : Nat) : Int) := by
  have hM2 := h.2.2.1
  intro d
  induction d with
  | zero =>
    intro t f ht hf
    obtain ⟨g, rfl⟩ : ∃ g, f = g + 1 := ⟨f - 1, by omega⟩
    have e1 : t = (S 84 (198 + (e : Int))).toNat := by omega
    have e2 := hE.2.2
    rw [← e1] at e2
    rw [mX12_namedExpr_17, e2, gd_t (by decide), if_pos (by decide)]
    unfold xs
    rw [← e1]
  | succ d ih =>
    intro t f ht hf
    obtain ⟨g, rfl⟩ : ∃ g, f = g + 1 := ⟨f - 1, by omega⟩
    obtain ⟨q1, q2, q3⟩ := hE.2.1 t (by omega)
    have hm := hE.1
    obtain ⟨p, hp⟩ : ∃ p : Nat, fpM (S 84) e t = (p : Int) := ⟨(fpM (S 84) e t).toNat, by omega⟩
    have hp' : S 84 (120 + tlM (S 84) e t) = (p : Int) := hp
    have b : p * 8 + n < 192 := by omega
    have hv := hR.at b
    have hc : ((p * 8 + n : Nat) : Int) = (p : Int) * 8 + (n : Int) := by omega
    rw [hc] at hv
    have ih' := ih (t + 1) g (by omega) (by omega)
    rw [sm_s, ← min_add] at ih'
    have cl : ∀ x : Nat, min CC x ≤ 1000000000000 := fun x => Nat.min_le_left _ _
    have a1 := cl (sm t (fun t => if offM (S 84) e t then 0 else tb S 94 ((fpM (S 84) e t).toNat * 8 + n)))
    rw [mX12_namedExpr_17, gd_t (by omega), if_neg (by omega), bd1_e (e_isOff h he (by omega))]
    cases ho : offM (S 84) e t with
    | true =>
      rw [ho, if_pos rfl, Nat.min_zero, Nat.add_zero] at ih'
      rw [bd1_e (show (gd (inI (if true = true then (1 : Int) else 0)) <| if (if true = true then (1 : Int) else 0) = 0 then _ else (some (0 : Int))) = some ((0 : Nat) : Int) by rw [gd_t (by decide), if_neg (by decide)]; rfl)]
      rw [bd1_e (e_addC (by omega)), gd_t (by omega), nx_e, Nat.add_zero]
      exact ih'
    | false =>
      rw [ho, if_neg (by decide), hp, show ((p : Int)).toNat = p from rfl] at ih'
      rw [bd1_e (show (gd (inI (if false = true then (1 : Int) else 0)) <| if (if false = true then (1 : Int) else 0) = 0 then (gd (0 ≤ (120 + tlM (S 84) e t) ∧ (120 + tlM (S 84) e t) < 228) <| gd (0 ≤ (((S 84 (120 + tlM (S 84) e t)) * 8) + (n : Int)) ∧ (((S 84 (120 + tlM (S 84) e t)) * 8) + (n : Int)) < 192) <| some ((S 94 (((S 84 (120 + tlM (S 84) e t)) * 8) + (n : Int))))) else (some (0 : Int))) = some ((tb S 94 (p * 8 + n) : Nat) : Int) by rw [gd_t (by decide), if_pos (by decide), gd_t (by omega), hp', gd_t (by omega), hv.1])]
      rw [bd1_e (e_addC (by omega)), gd_t (by omega), nx_e]
      rw [show min CC (tb S 94 (p * 8 + n)) = tb S 94 (p * 8 + n) by have := hv.2; rw [CC_eq]; omega] at ih'
      exact ih'
theorem e_namedExpr {S : St} {e n : Nat} {lo : Int} (h : WF (S 84)) (he : e < 30) (hlo : 0 ≤ lo) (hE : okE (S 84) lo e) (hn : n ≤ 7) (hR : nb S 94 192 1000000000000) : mX12_namedExpr S (e : Int) (n : Int) = some ((min CC (xs (S 84) (fun p => tb S 94 (p * 8 + n)) e) : Nat) : Int) := by
  have hm := hE.1
  have l := ne17 h he hlo hE hn hR (S 84 (198 + (e : Int))).toNat 0 FU (by omega) (by unfold FU; omega)
  unfold mX12_namedExpr
  rw [gd_t (by omega), nx_e, bd1_e (show mX12_namedExpr_17 S (e : Int) (n : Int) FU (S 84 (168 + (e : Int))) 0 0 = _ from l)]
theorem cho_le2 : ∀ n k : Nat, cho n k ≤ 2 ^ n := by
  intro n
  induction n with
  | zero => intro k; cases k <;> simp [cho]
  | succ n ih =>
    intro k
    cases k with
    | zero => rw [cho_0]; exact Nat.one_le_two_pow
    | succ k => rw [cho_s, Nat.pow_succ]; have := ih k; have := ih (k + 1); omega
theorem cho_128 {n k : Nat} (h : n ≤ 7) : cho n k ≤ 128 := Nat.le_trans (cho_le2 n k) (Nat.pow_le_pow_right (by decide) h)
theorem of5 {n s : Nat} (hn : n ≤ 7) (hs : s ≤ n) : ∀ d i f : Nat, i + d = s → d < f → mX12_ofAll_5 (n : Int) (s : Int) f ((i : Int) + 1) ((cho (n - s + i) i : Nat) : Int) = some ((cho n s : Nat) : Int) := by
  intro d
  induction d with
  | zero =>
    intro i f hi hf
    obtain ⟨g, rfl⟩ : ∃ g, f = g + 1 := ⟨f - 1, by omega⟩
    rw [mX12_ofAll_5, gd_t (by omega), if_pos (by omega), show i = s by omega, show n - s + s = n by omega]
  | succ d ih =>
    intro i f hi hf
    obtain ⟨g, rfl⟩ : ∃ g, f = g + 1 := ⟨f - 1, by omega⟩
    have hab := cho_ab (n - s + i) i
    have hz : cho (n - s + i + 1) (i + 1) ≤ 128 := cho_128 (by omega)
    have l := ih (i + 1) g (by omega) (by omega)
    rw [← Nat.add_assoc] at l
    have hp : ((cho (n - s + i) i : Nat) : Int) * (((n : Int) - (s : Int)) + ((i : Int) + 1)) = ((i : Int) + 1) * ((cho (n - s + i + 1) (i + 1) : Nat) : Int) := by
      have e : ((n : Int) - (s : Int)) + ((i : Int) + 1) = ((n - s + i + 1 : Nat) : Int) := by omega
      rw [e, show (i : Int) + 1 = ((i + 1 : Nat) : Int) by omega, ← Int.natCast_mul, ← Int.natCast_mul, hab, Nat.mul_comm]
    have hb : (i + 1) * cho (n - s + i + 1) (i + 1) ≤ 8 * 128 := Nat.mul_le_mul (by omega) hz
    have hb' : ((i : Int) + 1) * ((cho (n - s + i + 1) (i + 1) : Nat) : Int) = (((i + 1) * cho (n - s + i + 1) (i + 1) : Nat) : Int) := by
      rw [Int.natCast_mul]; rfl
    rw [mX12_ofAll_5, gd_t (by omega), if_neg (by omega), gd_t (by omega), hp, gd_t (by rw [hb']; omega), nx_e, Int.mul_ediv_cancel_left _ (by omega)]
    rw [show ((i + 1 : Nat) : Int) = (i : Int) + 1 by omega] at l
    exact l
theorem e_ofAll {n s : Nat} (hn : n ≤ 7) (hs : s ≤ n) : mX12_ofAll (n : Int) (s : Int) = some ((cho n s : Nat) : Int) := by
  have l := of5 hn hs s 0 FU (by omega) (by unfold FU; omega)
  rw [Nat.add_zero, cho_0] at l
  unfold mX12_ofAll
  rw [bd1_e (show mX12_ofAll_5 (n : Int) (s : Int) FU 1 1 = _ from l)]
theorem fa4 {n : Nat} (hn : n ≤ 7) : ∀ d i f : Nat, i + d = n → d < f → mX12_factorial_4 (n : Int) f ((i : Int) + 1) ((fac i : Nat) : Int) = some ((fac n : Nat) : Int) := by
  intro d
  induction d with
  | zero =>
    intro i f hi hf
    obtain ⟨g, rfl⟩ : ∃ g, f = g + 1 := ⟨f - 1, by omega⟩
    rw [mX12_factorial_4, gd_t (by omega), if_pos (by omega), show i = n by omega]
  | succ d ih =>
    intro i f hi hf
    obtain ⟨g, rfl⟩ : ∃ g, f = g + 1 := ⟨f - 1, by omega⟩
    have l := ih (i + 1) g (by omega) (by omega)
    rw [show fac (i + 1) = (i + 1) * fac i from rfl, Nat.mul_comm, Int.natCast_mul, show ((i + 1 : Nat) : Int) = (i : Int) + 1 by omega] at l
    rw [mX12_factorial_4, gd_t (by omega), if_neg (by omega), nx_e]
    exact l
theorem e_factorial {n : Nat} (hn : n ≤ 7) : mX12_factorial (n : Int) = some ((fac n : Nat) : Int) := by
  unfold mX12_factorial
  cases n with
  | zero => rw [bd1_e (show mX12_factorial_4 ((0 : Nat) : Int) FU 2 1 = some 1 by unfold FU; rw [show 2000000 = 1999999 + 1 from rfl, mX12_factorial_4, gd_t (by omega), if_pos (by omega)])]; rfl
  | succ m =>
    have l := fa4 hn m 1 FU (by omega) (by unfold FU; omega)
    rw [bd1_e (show mX12_factorial_4 ((m + 1 : Nat) : Int) FU 2 1 = _ from l)]
