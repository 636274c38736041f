/-! each part has one link alone -/
def lq1 (M : Int → Int) (q : Nat) : Nat := sm 30 (fun e => sm (M (198 + (e : Int))).toNat (fun t => if fpM M e t = (q : Int) then 1 else 0))
def lq2 (M : Int → Int) (q : Nat) : Nat := sm 24 (fun p => if M (96 + (p : Int)) = (q : Int) then 1 else 0)
def lq3 (M : Int → Int) (q : Nat) : Nat := sm 24 (fun p => if (3 ≤ M (24 + (p : Int)) ∧ M (24 + (p : Int)) ≤ 6) ∧ M (72 + (p : Int)) = (q : Int) then 1 else 0)
theorem lq_dl {a : Int} : ∀ P : Nat, sm P (fun q => if a = (q : Int) then 1 else 0) ≤ if 0 ≤ a ∧ a < (P : Int) then 1 else 0 := by
  intro P
  induction P with
  | zero => exact Nat.zero_le _
  | succ P ih =>
    rw [sm_s]
    try dsimp only
    by_cases c : a = (P : Int)
    · rw [if_pos c]
      rw [if_neg (by omega)] at ih
      rw [if_pos (by omega)]
      omega
    · rw [if_neg c]
      by_cases d : 0 ≤ a ∧ a < (P : Int)
      · rw [if_pos d] at ih
        rw [if_pos (by omega)]; omega
      · rw [if_neg d] at ih
        exact Nat.le_trans ih (Nat.zero_le _)
theorem lq_sum {M : Int → Int} (P : Nat) : sm P (fun q => lq1 M q + lq2 M q + lq3 M q) ≤ lkc M := by
  rw [sm_plus, sm_plus]
  unfold lkc
  have a1 : sm P (fun q => lq1 M q) ≤ lkE M := by
    unfold lq1
    rw [sm_swap]
    refine sm_mono (fun e _ => ?_)
    try dsimp only
    rw [sm_swap]
    refine Nat.le_trans (sm_le (B := 1) (fun t _ => ?_)) (by omega)
    try dsimp only
    refine Nat.le_trans (lq_dl P) ?_
    split <;> omega
  have a2 : sm P (fun q => lq2 M q) ≤ lkN M := by
    unfold lq2
    rw [sm_swap]
    refine sm_mono (fun p _ => ?_)
    try dsimp only
    refine Nat.le_trans (lq_dl P) ?_
    by_cases c : 0 ≤ M (96 + (p : Int))
    · rw [if_pos c]; split <;> omega
    · rw [if_neg c, if_neg (by omega)]; exact Nat.le_refl _
  have a3 : sm P (fun q => lq3 M q) ≤ lkS M := by
    unfold lq3
    rw [sm_swap]
    refine sm_mono (fun p _ => ?_)
    try dsimp only
    by_cases c : 3 ≤ M (24 + (p : Int)) ∧ M (24 + (p : Int)) ≤ 6
    · rw [if_pos c]
      refine Nat.le_trans (sm_mono (g := fun q => if M (72 + (p : Int)) = (q : Int) then 1 else 0) (fun q _ => ?_)) (Nat.le_trans (lq_dl P) (by split <;> omega))
      try dsimp only
      by_cases d : M (72 + (p : Int)) = (q : Int)
      · rw [if_pos d, if_pos ⟨c, d⟩]; exact Nat.le_refl _
      · rw [if_neg d, if_neg (fun w => d w.2)]; exact Nat.le_refl _
    · rw [if_neg c, sm_zero (fun q _ => by (try dsimp only); exact if_neg (fun w => c w.1))]
      exact Nat.le_refl _
  exact Nat.add_le_add (Nat.add_le_add a1 a2) a3
theorem lq_cov {M : Int → Int} {hm : Nat → Nat} (w : WF M) (hh : HM M hm) : ∀ q : Nat, (q : Int) < M 2 → 1 ≤ lq1 M q + lq2 M q + lq3 M q := by
  intro q hq
  have hM0 := w.1
  have hM2 := w.2.2.1
  have ee : ∀ e t : Nat, e < 30 → (t : Int) < M (198 + (e : Int)) → (q : Int) = fpM M e t → 1 ≤ lq1 M q := fun e t he ht hf => by
    have a := le_sm (n := 30) (f := fun e => sm (M (198 + (e : Int))).toNat (fun t => if fpM M e t = (q : Int) then 1 else 0)) he
    have b := le_sm (n := (M (198 + (e : Int))).toNat) (f := fun t => if fpM M e t = (q : Int) then 1 else 0) (i := t) (by omega)
    try dsimp only at a b
    rw [if_pos hf.symm] at b
    exact Nat.le_trans b a
  rcases hh.2.2.2 q hq with ⟨h1, t, t1, t2⟩ | ⟨p, p1, p2⟩
  · have := ee _ t (by omega) t1 t2
    omega
  · rcases p2 with p2 | ⟨s, p2⟩ | ⟨s, t, t1, t2⟩
    · have b := le_sm (n := 24) (f := fun p => if M (96 + (p : Int)) = (q : Int) then 1 else 0) (i := p) (by omega)
      try dsimp only at b
      rw [if_pos p2.symm] at b
      unfold lq2; omega
    · have b := le_sm (n := 24) (f := fun p => if (3 ≤ M (24 + (p : Int)) ∧ M (24 + (p : Int)) ≤ 6) ∧ M (72 + (p : Int)) = (q : Int) then 1 else 0) (i := p) (by omega)
      try dsimp only at b
      rw [if_pos ⟨s, p2.symm⟩] at b
      unfold lq3; omega
    · have := ee (6 + p) t (by omega) t1 t2
      omega
/-- one link each -/
def UQ (M : Int → Int) : Prop := ∀ q : Nat, (q : Int) < M 2 → lq1 M q + lq2 M q + lq3 M q = 1
theorem uq_of {M : Int → Int} {hm : Nat → Nat} (w : WF M) (hh : HM M hm) (lk : LK M) : UQ M := by
  intro q hq
  have hM2 := w.2.2.1
  have c := lq_cov w hh
  have s := lq_sum (M := M) (M 2).toNat
  unfold LK at lk
  have b := c q hq
  rcases Nat.lt_or_ge 1 (lq1 M q + lq2 M q + lq3 M q) with z | z
  · have k := sm_lt1 (n := (M 2).toNat) (j := q) (f := fun _ => 1) (g := fun q => lq1 M q + lq2 M q + lq3 M q) (fun i hi => c i (by omega)) (by omega) z
    rw [sm_const] at k
    omega
  · omega
theorem uq_EE {M : Int → Int} (u : UQ M) {q e t e' t' : Nat} (hq : (q : Int) < M 2) (he : e < 30) (he' : e' < 30) (ht : (t : Int) < M (198 + (e : Int))) (ht' : (t' : Int) < M (198 + (e' : Int))) (h : fpM M e t = (q : Int)) (h' : fpM M e' t' = (q : Int)) : e = e' ∧ t = t' := by
  have k := u q hq
  have b : ∀ e t : Nat, e < 30 → (t : Int) < M (198 + (e : Int)) → fpM M e t = (q : Int) → 1 ≤ sm (M (198 + (e : Int))).toNat (fun t => if fpM M e t = (q : Int) then 1 else 0) := fun e t he ht hf => by
    have b := le_sm (n := (M (198 + (e : Int))).toNat) (f := fun t => if fpM M e t = (q : Int) then 1 else 0) (i := t) (by omega)
    try dsimp only at b
    rw [if_pos hf] at b
    exact b
  by_cases c : e = e'
  · subst c
    refine ⟨rfl, ?_⟩
    by_cases d : t = t'
    · exact d
    · have a := le_sm (n := 30) (f := fun e => sm (M (198 + (e : Int))).toNat (fun t => if fpM M e t = (q : Int) then 1 else 0)) he
      have b2 := le_sm2 (n := (M (198 + (e : Int))).toNat) (f := fun t => if fpM M e t = (q : Int) then 1 else 0) (i := t) (j := t') (by omega) (by omega) d
      try dsimp only at a b2
      rw [if_pos h, if_pos h'] at b2
      unfold lq1 at k
      omega
  · have a := le_sm2 (n := 30) (f := fun e => sm (M (198 + (e : Int))).toNat (fun t => if fpM M e t = (q : Int) then 1 else 0)) he he' c
    have b1 := b e t he ht h
    have b2 := b e' t' he' ht' h'
    try dsimp only at a
    unfold lq1 at k
    omega
theorem uq_E {M : Int → Int} {q e t : Nat} (he : e < 30) (ht : (t : Int) < M (198 + (e : Int))) (h : fpM M e t = (q : Int)) : 1 ≤ lq1 M q := by
  have a := le_sm (n := 30) (f := fun e => sm (M (198 + (e : Int))).toNat (fun t => if fpM M e t = (q : Int) then 1 else 0)) he
  have b := le_sm (n := (M (198 + (e : Int))).toNat) (f := fun t => if fpM M e t = (q : Int) then 1 else 0) (i := t) (by omega)
  try dsimp only at a b
  rw [if_pos h] at b
  exact Nat.le_trans b a
theorem uq_N {M : Int → Int} {q p : Nat} (hp : p < 24) (h : M (96 + (p : Int)) = (q : Int)) : 1 ≤ lq2 M q := by
  have b := le_sm (n := 24) (f := fun p => if M (96 + (p : Int)) = (q : Int) then 1 else 0) hp
  try dsimp only at b
  rw [if_pos h] at b
  exact b
theorem uq_S {M : Int → Int} {q p : Nat} (hp : p < 24) (s : 3 ≤ M (24 + (p : Int)) ∧ M (24 + (p : Int)) ≤ 6) (h : M (72 + (p : Int)) = (q : Int)) : 1 ≤ lq3 M q := by
  have b := le_sm (n := 24) (f := fun p => if (3 ≤ M (24 + (p : Int)) ∧ M (24 + (p : Int)) ≤ 6) ∧ M (72 + (p : Int)) = (q : Int) then 1 else 0) hp
  try dsimp only at b
  rw [if_pos ⟨s, h⟩] at b
  exact b
theorem uq_NN {M : Int → Int} (u : UQ M) {q p p' : Nat} (hq : (q : Int) < M 2) (hp : p < 24) (hp' : p' < 24) (h : M (96 + (p : Int)) = (q : Int)) (h' : M (96 + (p' : Int)) = (q : Int)) : p = p' := by
  have k := u q hq
  by_cases d : p = p'
  · exact d
  · have b := le_sm2 (n := 24) (f := fun p => if M (96 + (p : Int)) = (q : Int) then 1 else 0) hp hp' d
    try dsimp only at b
    rw [if_pos h, if_pos h'] at b
    unfold lq2 at k
    omega
theorem uq_SS {M : Int → Int} (u : UQ M) {q p p' : Nat} (hq : (q : Int) < M 2) (hp : p < 24) (hp' : p' < 24) (s : 3 ≤ M (24 + (p : Int)) ∧ M (24 + (p : Int)) ≤ 6) (s' : 3 ≤ M (24 + (p' : Int)) ∧ M (24 + (p' : Int)) ≤ 6) (h : M (72 + (p : Int)) = (q : Int)) (h' : M (72 + (p' : Int)) = (q : Int)) : p = p' := by
  have k := u q hq
  by_cases d : p = p'
  · exact d
  · have b := le_sm2 (n := 24) (f := fun p => if (3 ≤ M (24 + (p : Int)) ∧ M (24 + (p : Int)) ≤ 6) ∧ M (72 + (p : Int)) = (q : Int) then 1 else 0) hp hp' d
    try dsimp only at b
    rw [if_pos ⟨s, h⟩, if_pos ⟨s', h'⟩] at b
    unfold lq3 at k
    omega
/-! chains -/
def itN (M : Int → Int) : Nat → Int → Int
  | 0, q => q
  | k + 1, q => if itN M k q < 0 then -1 else M (96 + itN M k q)
theorem itN_sh {M : Int → Int} : ∀ (k : Nat) (q : Int), 0 ≤ q → itN M (k + 1) q = itN M k (M (96 + q)) := by
  intro k
  induction k with
  | zero => intro q h; show (if q < 0 then -1 else M (96 + q)) = _; rw [if_neg (by omega)]; rfl
  | succ k ih =>
    intro q h
    show (if itN M (k + 1) q < 0 then -1 else M (96 + itN M (k + 1) q)) = (if itN M k (M (96 + q)) < 0 then -1 else M (96 + itN M k (M (96 + q))))
    rw [ih q h]
theorem itN_lt {M : Int → Int} (w : WF M) {q : Int} (h : 0 ≤ q ∧ q < M 2) : ∀ k : Nat, itN M k q < M 2 ∧ -1 ≤ itN M k q := by
  intro k
  induction k with
  | zero => exact ⟨h.2, by show -1 ≤ q; omega⟩
  | succ k ih =>
    have hM2 := w.2.2.1
    show (if itN M k q < 0 then -1 else M (96 + itN M k q)) < M 2 ∧ -1 ≤ (if itN M k q < 0 then -1 else M (96 + itN M k q))
    by_cases c : itN M k q < 0
    · rw [if_pos c]; omega
    · rw [if_neg c]
      have := (w.2.2.2.1 (itN M k q).toNat (by omega)).2.1
      rw [Int.toNat_of_nonneg (by omega)] at this
      omega
theorem itN_up {M : Int → Int} (w : WF M) {q : Int} (h : 0 ≤ q ∧ q < M 2) : ∀ k : Nat, 0 ≤ itN M k q → (k : Int) + q ≤ itN M k q := by
  intro k
  induction k with
  | zero => intro _; show ((0 : Nat) : Int) + q ≤ q; omega
  | succ k ih =>
    intro hk
    have e : itN M (k + 1) q = (if itN M k q < 0 then -1 else M (96 + itN M k q)) := rfl
    by_cases c : itN M k q < 0
    · rw [e, if_pos c] at hk; omega
    · rw [e, if_neg c] at hk ⊢
      have b := ih (by omega)
      have l := itN_lt w h k
      have := (w.2.2.2.1 (itN M k q).toNat (by omega)).2.1
      rw [Int.toNat_of_nonneg (by omega)] at this
      omega
theorem itN_pos {M : Int → Int} {q : Int} : ∀ (j k : Nat), j ≤ k → 0 ≤ itN M k q → 0 ≤ itN M j q := by
  intro j k h
  induction k with
  | zero => intro hk; rw [show j = 0 by omega]; exact hk
  | succ k ih =>
    intro hk
    by_cases c : j = k + 1
    · rw [c]; exact hk
    · refine ih (by omega) ?_
      have e : itN M (k + 1) q = (if itN M k q < 0 then -1 else M (96 + itN M k q)) := rfl
      rw [e] at hk
      by_cases d : itN M k q < 0
      · rw [if_pos d] at hk; omega
      · omega
/-- the last link to a part that is not the head -/
theorem itN_last {M : Int → Int} (w : WF M) {F : Int} (hF : 0 ≤ F ∧ F < M 2) {k q : Nat} (h : itN M (k + 1) F = (q : Int)) : ∃ p : Nat, p < 24 ∧ (p : Int) < M 2 ∧ itN M k F = (p : Int) ∧ M (96 + (p : Int)) = (q : Int) := by
  have hM2 := w.2.2.1
  have e : itN M (k + 1) F = (if itN M k F < 0 then -1 else M (96 + itN M k F)) := rfl
  have l := itN_lt w hF k
  rw [e] at h
  by_cases d : itN M k F < 0
  · rw [if_pos d] at h; omega
  · rw [if_neg d] at h
    exact ⟨(itN M k F).toNat, by omega, by omega, by omega, by rw [Int.toNat_of_nonneg (by omega)]; exact h⟩
/-- two chains with a part in common are one -/
theorem ch_head {M : Int → Int} (w : WF M) (u : UQ M) {e t e' t' : Nat} (he : e < 30) (he' : e' < 30) (ht : (t : Int) < M (198 + (e : Int))) (ht' : (t' : Int) < M (198 + (e' : Int))) (hF : 0 ≤ fpM M e t ∧ fpM M e t < M 2) (hF' : 0 ≤ fpM M e' t' ∧ fpM M e' t' < M 2) : ∀ k k' q : Nat, itN M k (fpM M e t) = (q : Int) → itN M k' (fpM M e' t') = (q : Int) → e = e' ∧ t = t' := by
  intro k
  induction k with
  | zero =>
    intro k' q h h'
    have hq : (q : Int) < M 2 := by have := itN_lt w hF 0; omega
    cases k' with
    | zero => exact uq_EE u hq he he' ht ht' h h'
    | succ k' =>
      obtain ⟨p, p1, _, _, p3⟩ := itN_last w hF' h'
      have a := uq_E he ht h
      have b := uq_N p1 p3
      have := u q hq
      omega
  | succ k ih =>
    intro k' q h h'
    have hq : (q : Int) < M 2 := by have := itN_lt w hF (k + 1); omega
    obtain ⟨p, p1, _, p2, p3⟩ := itN_last w hF h
    cases k' with
    | zero =>
      have a := uq_E he' ht' h'
      have b := uq_N p1 p3
      have := u q hq
      omega
    | succ k' =>
      obtain ⟨p', p1', _, p2', p3'⟩ := itN_last w hF' h'
      have := uq_NN u hq p1 p1' p3 p3'
      subst this
      exact ih k' p p2 p2'
/-- what stands in a sequence is in no chain of terms -/
theorem ch_child {M : Int → Int} (w : WF M) (u : UQ M) {e t p : Nat} (he : e < 30) (ht : (t : Int) < M (198 + (e : Int))) (hF : 0 ≤ fpM M e t ∧ fpM M e t < M 2) (hp : p < 24) (s : 3 ≤ M (24 + (p : Int)) ∧ M (24 + (p : Int)) ≤ 6) {k q : Nat} (hc : M (72 + (p : Int)) = (q : Int)) (h : itN M k (fpM M e t) = (q : Int)) : False := by
  have hq : (q : Int) < M 2 := by have := itN_lt w hF k; omega
  have c := uq_S hp s hc
  have z := u q hq
  cases k with
  | zero =>
    have a := uq_E he ht h
    omega
  | succ k =>
    obtain ⟨p', p1', _, p2', p3'⟩ := itN_last w hF h
    have a := uq_N p1' p3'
    omega
/-! whose chain a part is in: a rank -/
def oRk (rO rK : Nat → Nat) (e : Nat) : Nat := if e < 6 then rK e else rO (e - 6)
def Own (M : Int → Int) (rO rK : Nat → Nat) (q r : Nat) : Prop := (∃ e t k : Nat, e < 30 ∧ (t : Int) < M (198 + (e : Int)) ∧ (0 ≤ fpM M e t ∧ fpM M e t < M 2) ∧ itN M k (fpM M e t) = (q : Int) ∧ r = oRk rO rK e) ∨ (∃ p : Nat, p < 24 ∧ (3 ≤ M (24 + (p : Int)) ∧ M (24 + (p : Int)) ≤ 6) ∧ M (72 + (p : Int)) = (q : Int) ∧ r = rO p)
theorem own_uniq {M : Int → Int} {rO rK : Nat → Nat} (w : WF M) (u : UQ M) {q r r' : Nat} (hq : (q : Int) < M 2) (h : Own M rO rK q r) (h' : Own M rO rK q r') : r = r' := by
  rcases h with ⟨e, t, k, a1, a2, a3, a4, a5⟩ | ⟨p, a1, a2, a3, a4⟩
  · rcases h' with ⟨e', t', k', b1, b2, b3, b4, b5⟩ | ⟨p', b1, b2, b3, b4⟩
    · obtain ⟨x, _⟩ := ch_head w u a1 b1 a2 b2 a3 b3 k k' q a4 b4
      subst x
      rw [a5, b5]
    · exact (ch_child w u a1 a2 a3 b1 b2 b3 a4).elim
  · rcases h' with ⟨e', t', k', b1, b2, b3, b4, b5⟩ | ⟨p', b1, b2, b3, b4⟩
    · exact (ch_child w u b1 b2 b3 a1 a2 a3 b4).elim
    · have := uq_SS u hq a1 b1 a2 b2 a3 b3
      subst this
      rw [a4, b4]
theorem own_ent {M : Int → Int} {rO rK : Nat → Nat} (w : WF M) (u : UQ M) : ∃ ent : Nat → Nat, ∀ q r : Nat, (q : Int) < M 2 → Own M rO rK q r → ent q = r :=
  ⟨fun q => Classical.epsilon (fun r => Own M rO rK q r), fun q r hq h => own_uniq w u hq (Classical.epsilon_spec (p := fun r => Own M rO rK q r) ⟨r, h⟩) h⟩
