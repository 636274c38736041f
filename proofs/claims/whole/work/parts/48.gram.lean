/-! a grammar as the reference holds it: one row of numbers M -/
def tlM (M : Int → Int) (e : Nat) : Nat → Int
  | 0 => M (168 + (e : Int))
  | t + 1 => M (144 + tlM M e t)
def fpM (M : Int → Int) (e t : Nat) : Int := M (120 + tlM M e t)
def okE (M : Int → Int) (lo : Int) (e : Nat) : Prop := (0 ≤ M (198 + (e : Int)) ∧ M (198 + (e : Int)) ≤ 10) ∧ (∀ t : Nat, (t : Int) < M (198 + (e : Int)) → (0 ≤ tlM M e t ∧ tlM M e t < 24) ∧ lo ≤ fpM M e t ∧ fpM M e t < M 2) ∧ tlM M e (M (198 + (e : Int))).toNat = -1
def okP (M : Int → Int) (p : Nat) : Prop := (0 ≤ M (24 + (p : Int)) ∧ M (24 + (p : Int)) ≤ 7) ∧ (M (96 + (p : Int)) = -1 ∨ ((p : Int) < M (96 + (p : Int)) ∧ M (96 + (p : Int)) < M 2)) ∧ (M (24 + (p : Int)) = 0 → 0 ≤ M (48 + (p : Int)) ∧ M (48 + (p : Int)) ≤ 25) ∧ (M (24 + (p : Int)) = 2 → 0 ≤ M (48 + (p : Int)) ∧ M (48 + (p : Int)) < M 0) ∧ (M (24 + (p : Int)) = 7 → M (48 + (p : Int)) = 6 + (p : Int) ∧ 1 ≤ M (198 + ((6 + p : Nat) : Int)) ∧ okE M ((p : Int) + 1) (6 + p)) ∧ (3 ≤ M (24 + (p : Int)) ∧ M (24 + (p : Int)) ≤ 6 → (0 ≤ M (48 + (p : Int)) ∧ M (48 + (p : Int)) ≤ 7) ∧ (p : Int) < M (72 + (p : Int)) ∧ M (72 + (p : Int)) < M 2)
/-- a grammar that means something to read by: bounds, and parts that stand behind those that hold them -/
def WF (M : Int → Int) : Prop := (0 ≤ M 0 ∧ M 0 ≤ 6) ∧ (0 ≤ M 1 ∧ M 1 ≤ 7) ∧ (0 ≤ M 2 ∧ M 2 ≤ 24) ∧ (∀ p : Nat, (p : Int) < M 2 → okP M p) ∧ (∀ e : Nat, (e : Int) < M 0 → okE M 0 e) ∧ (∀ e : Nat, e < 6 → 0 ≤ M (6 + (e : Int)) ∧ M (6 + (e : Int)) < 1024)
def offM (M : Int → Int) (e t : Nat) : Bool := decide (e < 6) && bt (M (6 + (e : Int))) (t : Int)
theorem e_isOff {S : St} {e t : Nat} (h : WF (S 84)) (he : e < 30) (ht : t < 31) : mX12_isOff S (e : Int) (t : Int) = some (if offM (S 84) e t then 1 else 0) := by
  unfold mX12_isOff offM
  rw [gd_t (by omega)]
  by_cases c : e < 6
  · have := h.2.2.2.2.2 e c
    rw [if_neg (by omega), gd_t (by omega), bd1_e (e_has (by omega) (by omega) (by omega) (by omega))]
    cases hb : bt (S 84 (6 + (e : Int))) (t : Int) with
    | true => rw [if_pos rfl, gd_t (by decide), if_neg (by decide)]; simp [c]
    | false => rw [if_neg (by decide), gd_t (by decide), if_pos rfl]; simp
  · rw [if_pos (by omega)]; simp [c]
/-- the sum over an expression's terms that are not off -/
def xs (M : Int → Int) (R : Nat → Nat) (e : Nat) : Nat := sm (M (198 + (e : Int))).toNat (fun t => if offM M e t then 0 else R (fpM M e t).toNat)
theorem em18 {S : St} {e n k : Nat} {lo : Int} (h : WF (S 84)) (he : e < 30) (hlo : 0 ≤ lo) (hE : okE (S 84) lo e) (hn : n ≤ 7) (hk : k ≤ 7) (hR : nb S 91 1536 1000000000000) : ∀ d t f : Nat, (t : Int) + d = S 84 (198 + (e : Int)) → d < f → mX12_exprMany_18 S (e : Int) (n : Int) (k : Int) f (tlM (S 84) e t) (t : Int) ((min CC (sm t (fun t => if offM (S 84) e t then 0 else tb S 91 (pl (fpM (S 84) e t).toNat n k))) : Nat) : Int) = some ((min CC (xs (S 84) (fun p => tb S 91 (pl p n k)) e) : Nat) : Int) := by
  have hM2 := h.2.2.1
  intro d
  induction d with
  | zero =>
    intro t f ht hf
    obtain ⟨g, rfl⟩ : ∃ g, f = g + 1 := ⟨f - 1, by omega⟩
    have e1 : t = (S 84 (198 + (e : Int))).toNat := by omega
    have e2 := hE.2.2
    rw [← e1] at e2
    rw [mX12_exprMany_18, e2, gd_t (by decide), if_pos (by decide)]
    unfold xs
    rw [← e1]
  | succ d ih =>
    intro t f ht hf
    obtain ⟨g, rfl⟩ : ∃ g, f = g + 1 := ⟨f - 1, by omega⟩
    obtain ⟨q1, q2, q3⟩ := hE.2.1 t (by omega)
    have hm := hE.1
    obtain ⟨p, hp⟩ : ∃ p : Nat, fpM (S 84) e t = (p : Int) := ⟨(fpM (S 84) e t).toNat, by omega⟩
    have hp' : S 84 (120 + tlM (S 84) e t) = (p : Int) := hp
    have b : pl p n k < 1536 := Nat.lt_of_lt_of_le (pl_lt (by omega) (by omega) (show p < 24 by omega)) (by decide)
    have hv := hR.at b
    have ih' := ih (t + 1) g (by omega) (by omega)
    rw [sm_s, ← min_add] at ih'
    have cl : ∀ x : Nat, min CC x ≤ 1000000000000 := fun x => Nat.min_le_left _ _
    have a1 := cl (sm t (fun t => if offM (S 84) e t then 0 else tb S 91 (pl (fpM (S 84) e t).toNat n k)))
    rw [mX12_exprMany_18, gd_t (by omega), if_neg (by omega), bd1_e (e_isOff h he (by omega))]
    cases ho : offM (S 84) e t with
    | true =>
      rw [ho, if_pos rfl, Nat.min_zero, Nat.add_zero] at ih'
      rw [bd1_e (show (gd (inI (if true = true then (1 : Int) else 0)) <| if (if true = true then (1 : Int) else 0) = 0 then _ else (some (0 : Int))) = some ((0 : Nat) : Int) by rw [gd_t (by decide), if_neg (by decide)]; rfl)]
      rw [bd1_e (e_addC (by omega)), gd_t (by omega), nx_e, Nat.add_zero]
      exact ih'
    | false =>
      rw [ho, if_neg (by decide), hp, show ((p : Int)).toNat = p from rfl] at ih'
      rw [bd1_e (show (gd (inI (if false = true then (1 : Int) else 0)) <| if (if false = true then (1 : Int) else 0) = 0 then (gd (0 ≤ (120 + tlM (S 84) e t) ∧ (120 + tlM (S 84) e t) < 228) <| bd1 (mX12_place (S 84 (120 + tlM (S 84) e t)) (n : Int) (k : Int)) fun r_27 => gd (0 ≤ r_27 ∧ r_27 < 1536) <| some ((S 91 r_27))) else (some (0 : Int))) = some ((tb S 91 (pl p n k) : Nat) : Int) by rw [gd_t (by decide), if_pos (by decide), gd_t (by omega), hp', bd1_e e_pl, gd_t (by omega), hv.1])]
      rw [bd1_e (e_addC (by omega)), gd_t (by omega), nx_e]
      rw [show min CC (tb S 91 (pl p n k)) = tb S 91 (pl p n k) by have := hv.2; rw [CC_eq]; omega] at ih'
      exact ih'
theorem e_exprMany {S : St} {e n k : Nat} {lo : Int} (h : WF (S 84)) (he : e < 30) (hlo : 0 ≤ lo) (hE : okE (S 84) lo e) (hn : n ≤ 7) (hk : k ≤ 7) (hR : nb S 91 1536 1000000000000) : mX12_exprMany S (e : Int) (n : Int) (k : Int) = some ((min CC (xs (S 84) (fun p => tb S 91 (pl p n k)) e) : Nat) : Int) := by
  have hm := hE.1
  have l := em18 h he hlo hE hn hk hR (S 84 (198 + (e : Int))).toNat 0 FU (by omega) (by unfold FU; omega)
  unfold mX12_exprMany
  rw [gd_t (by omega), nx_e, bd1_e (show mX12_exprMany_18 S (e : Int) (n : Int) (k : Int) FU (S 84 (168 + (e : Int))) 0 0 = _ from l)]
