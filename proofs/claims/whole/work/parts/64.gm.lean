/-! loops; the class's grammar against the reference's row -/
theorem loopW {σ τ : Type} (F : Nat → Int → σ → Option τ) (I : Nat → σ → Prop) (Q : τ → Prop) (b : Nat) (step : ∀ (i f : Nat) (s : σ), i < b → I i s → (∀ s', I (i + 1) s' → wp (F f ((i : Int) + 1) s') Q) → wp (F (f + 1) (i : Int) s) Q) (stop : ∀ (f : Nat) (s : σ), I b s → wp (F (f + 1) (b : Int) s) Q) : ∀ (d i f : Nat) (s : σ), i + d = b → d < f → I i s → wp (F f (i : Int) s) Q := by
  intro d
  induction d with
  | zero =>
    intro i f s hi hf h
    obtain ⟨g, rfl⟩ : ∃ g, f = g + 1 := ⟨f - 1, by omega⟩
    rw [show i = b by omega] at h ⊢
    exact stop g s h
  | succ d ih =>
    intro i f s hi hf h
    obtain ⟨g, rfl⟩ : ∃ g, f = g + 1 := ⟨f - 1, by omega⟩
    refine step i g s (by omega) h (fun s' h' => ?_)
    have := ih (i + 1) g s' (by omega) (by omega) h'
    rw [show ((i + 1 : Nat) : Int) = (i : Int) + 1 by omega] at this
    exact this
theorem loopD {σ τ : Type} (F : Nat → Int → σ → Option τ) (I : Int → σ → Prop) (Q : τ → Prop) (lo : Int) (step : ∀ (i : Int) (f : Nat) (s : σ), lo ≤ i → I i s → (∀ s', I (i - 1) s' → wp (F f (i - 1) s') Q) → wp (F (f + 1) i s) Q) (stop : ∀ (f : Nat) (s : σ), I (lo - 1) s → wp (F (f + 1) (lo - 1) s) Q) : ∀ (d f : Nat) (i : Int) (s : σ), i = lo - 1 + (d : Int) → d < f → I i s → wp (F f i s) Q := by
  intro d
  induction d with
  | zero =>
    intro f i s hi hf h
    obtain ⟨g, rfl⟩ : ∃ g, f = g + 1 := ⟨f - 1, by omega⟩
    rw [show i = lo - 1 by omega] at h ⊢
    exact stop g s h
  | succ d ih =>
    intro f i s hi hf h
    obtain ⟨g, rfl⟩ : ∃ g, f = g + 1 := ⟨f - 1, by omega⟩
    exact step i g s (by omega) h (fun s' h' => ih g (i - 1) s' (by omega) (by omega) h')
def HH : Nat := 1000000000000000000
theorem CC_HH : CC ≤ HH := by decide
theorem HH_pos : 1 ≤ HH := by decide
theorem HH_in {x : Nat} (h : x ≤ HH) : x ≤ 1000000000000000000 := h
theorem ev_HH {x : Nat} : ev (min HH x) x := by unfold ev; rw [← Nat.min_assoc, Nat.min_eq_left CC_HH]
theorem cmin {L x : Nat} : min (L : Int) (x : Int) = ((min L x : Nat) : Int) := by omega
theorem e_plusH {a b : Nat} (ha : a ≤ HH) (hb : b ≤ HH) : mX11_plus (a : Int) (b : Int) = some ((min HH (a + b) : Nat) : Int) := by
  have a' := HH_in ha
  have b' := HH_in hb
  rw [e_plus (by omega), ← Int.natCast_add]
  exact congrArg some (cmin (L := HH) (x := a + b))
theorem e_timesH {a b : Nat} (ha : a ≤ HH) (hb : b ≤ HH) : mX11_times (a : Int) (b : Int) = some ((min HH (a * b) : Nat) : Int) := by
  have a' := HH_in ha
  have b' := HH_in hb
  rw [e_times (by omega) (by omega), ← Int.natCast_mul]
  exact congrArg some (cmin (L := HH) (x := a * b))
theorem min_le' {L x : Nat} : min L x ≤ L := Nat.min_le_left _ _
theorem min_acc {L A r t : Nat} : min L (min L A + min L (min L r * t)) = min L (A + r * t) := by
  rw [Nat.mul_comm (min L r) t, min_mul, min_add, Nat.mul_comm]
/-- the class's grammar is the reference's -/
def GM (S : St) (M : Int → Int) : Prop :=
  (S 2 0 = M 1 ∧ S 2 1 = M 0 ∧ S 2 2 = M 3 ∧ S 2 3 = M 2) ∧
  (∀ p : Nat, (p : Int) < M 2 → S 3 (p : Int) = M (24 + (p : Int)) ∧ S 6 (p : Int) = M (96 + (p : Int)) ∧ (M (24 + (p : Int)) ≠ 7 → S 4 (p : Int) = M (48 + (p : Int))) ∧ (M (24 + (p : Int)) = 7 → S 4 (p : Int) = 0) ∧ (3 ≤ M (24 + (p : Int)) ∧ M (24 + (p : Int)) ≤ 6 → S 5 (p : Int) = M (72 + (p : Int))) ∧ (¬ (3 ≤ M (24 + (p : Int)) ∧ M (24 + (p : Int)) ≤ 6) → S 5 (p : Int) = -1)) ∧
  (∀ e : Nat, e < 30 → S 8 (e : Int) = M (198 + (e : Int))) ∧
  (∀ e t : Nat, e < 30 → (t : Int) < M (198 + (e : Int)) → S 9 ((e : Int) * 10 + (t : Int)) = fpM M e t) ∧
  (∀ e : Nat, e < 6 → S 10 (e : Int) = M (6 + (e : Int))) ∧ (∀ e : Nat, 6 ≤ e → e < 30 → S 10 (e : Int) = 0)
theorem GM.of {S T : St} {M : Int → Int} (h : GM S M) (k : ∀ i, 2 ≤ i → i ≤ 10 → T i = S i) : GM T M := by
  unfold GM at h ⊢
  rw [k 2 (by omega) (by omega), k 3 (by omega) (by omega), k 4 (by omega) (by omega), k 5 (by omega) (by omega), k 6 (by omega) (by omega), k 8 (by omega) (by omega), k 9 (by omega) (by omega), k 10 (by omega) (by omega)]
  exact h
theorem bt_0 {k : Int} : bt 0 k = false := by unfold bt; exact Nat.zero_testBit _
theorem e_isOff2 {S : St} {M : Int → Int} {e t : Nat} (h : WF M) (hG : GM S M) (he : e < 30) (ht : t < 31) : mX2_isOff_2 S (e : Int) (t : Int) = some (if offM M e t then 1 else 0) := by
  unfold mX2_isOff_2 offM
  rw [gd_t (by omega)]
  by_cases c : e < 6
  · have w := h.2.2.2.2.2 e c
    rw [hG.2.2.2.2.1 e c, has_bt (by omega) (by omega) (by omega) (by omega)]
    cases hb : bt (M (6 + (e : Int))) (t : Int) with
    | true => rw [if_pos rfl, gd_t (by decide), if_neg (by decide)]; simp [c]
    | false => rw [if_neg (by decide), gd_t (by decide), if_pos rfl]; simp
  · rw [hG.2.2.2.2.2 e (by omega) he, has_bt (by omega) (by omega) (by omega) (by omega), bt_0, if_neg (by decide), gd_t (by decide), if_pos rfl]
    simp [c]
theorem e_start2 {S : St} {M : Int → Int} {e t : Nat} {lo : Int} (hlo : 0 ≤ lo) (hG : GM S M) (he : e < 30) (hE : okE M lo e) (ht : (t : Int) < M (198 + (e : Int))) : mX2_start_2 S (e : Int) (t : Int) = some (((fpM M e t).toNat : Nat) : Int) ∧ lo ≤ fpM M e t ∧ fpM M e t < M 2 := by
  have q := hE.2.1 t ht
  have q0 := hE.1
  unfold mX2_start_2
  rw [gd_t (by omega), hG.2.2.2.1 e t he ht]
  exact ⟨by rw [Int.toNat_of_nonneg (by omega)], q.2⟩
/-- filling a row of cells -/
theorem fill {X N base top : Nat} {V : Nat → Int} {S0 : St} (F : Nat → Int → St → Option St) (hb : base + top < N) (step : ∀ (k f : Nat) (S : St), k ≤ top → kept [X] [] S0 S → (∀ j : Nat, j < N → S X (j : Int) = if base ≤ j ∧ j < base + k then V (j - base) else S0 X (j : Int)) → F (f + 1) (k : Int) S = F f ((k : Int) + 1) (up S X ((base + k : Nat) : Int) (V k))) (stop : ∀ (f : Nat) (S : St), kept [X] [] S0 S → F (f + 1) ((top + 1 : Nat) : Int) S = some S) {f : Nat} (hf : top + 1 < f) : wp (F f 0 S0) (fun S' => (∀ j : Nat, j < N → S' X (j : Int) = if base ≤ j ∧ j < base + (top + 1) then V (j - base) else S0 X (j : Int)) ∧ kept [X] [] S0 S') := by
  refine loopW F (fun k S => (∀ j : Nat, j < N → S X (j : Int) = if base ≤ j ∧ j < base + k then V (j - base) else S0 X (j : Int)) ∧ kept [X] [] S0 S) _ (top + 1) (fun i f s hi hI hk => ?_) (fun f s hI => ?_) (top + 1) 0 f S0 (by omega) (by omega) ⟨fun j hj => by rw [if_neg (by omega)], kept.rf⟩
  · rw [step i f s (by omega) hI.2 hI.1]
    refine hk _ ⟨fun j hj => ?_, kept.upA hI.2 (by simp)⟩
    by_cases e : j = base + i
    · subst e
      rw [up_eq, if_pos (by omega), show base + i - base = i by omega]
    · rw [up_nk (by omega), hI.1 j hj]
      by_cases w : base ≤ j ∧ j < base + i
      · rw [if_pos w, if_pos (by omega)]
      · rw [if_neg w, if_neg (by omega)]
  · rw [stop f s hI.2, wp_some]; exact hI
/-- weights of labelled counts -/
def wt (lab : Bool) (n i : Nat) : Nat := if lab then cho n i else 1
theorem ch_tab : ∀ n i : Nat, n ≤ 7 → i ≤ n → sby lCHOOSE ((n : Int) * 8 + (i : Int)) = ((cho n i : Nat) : Int) := by
  intro n i hn hi
  rcases (show n = 0 ∨ n = 1 ∨ n = 2 ∨ n = 3 ∨ n = 4 ∨ n = 5 ∨ n = 6 ∨ n = 7 by omega) with rfl | rfl | rfl | rfl | rfl | rfl | rfl | rfl <;> rcases (show i = 0 ∨ i = 1 ∨ i = 2 ∨ i = 3 ∨ i = 4 ∨ i = 5 ∨ i = 6 ∨ i = 7 by omega) with rfl | rfl | rfl | rfl | rfl | rfl | rfl | rfl <;> first | decide | omega
theorem fac_tab : ∀ n : Nat, n ≤ 7 → sby lFACTORIAL (n : Int) = ((fac n : Nat) : Int) := by
  intro n hn
  rcases (show n = 0 ∨ n = 1 ∨ n = 2 ∨ n = 3 ∨ n = 4 ∨ n = 5 ∨ n = 6 ∨ n = 7 by omega) with rfl | rfl | rfl | rfl | rfl | rfl | rfl | rfl <;> decide
theorem phi_tab : ∀ n : Nat, 1 ≤ n → n ≤ 7 → sby lTOTIENT (n : Int) = ((phi n : Nat) : Int) := by
  intro n h1 hn
  rcases (show n = 1 ∨ n = 2 ∨ n = 3 ∨ n = 4 ∨ n = 5 ∨ n = 6 ∨ n = 7 by omega) with rfl | rfl | rfl | rfl | rfl | rfl | rfl <;> decide
theorem wt_le {lab : Bool} {n i : Nat} (hn : n ≤ 7) : wt lab n i ≤ 128 := by
  unfold wt; cases lab
  · simp
  · simp; exact cho_128 hn
