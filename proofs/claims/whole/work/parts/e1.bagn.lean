/-! bags, sets of a size: of m things, or (m below 0) of any number; sizes 1 .. s, of the size s the first f alone -/
theorem sm_plus {f g : Nat → Nat} : ∀ n, sm n (fun i => f i + g i) = sm n f + sm n g := by
  intro n
  induction n with
  | zero => rfl
  | succ n ih => rw [sm_s, sm_s, sm_s, ih]; omega
def lsi (m : Int) (i : Nat) : Int := if m < 0 then -1 else m - (i : Int)
def bgN (c : Nat → Nat) (once : Bool) : Nat → Int → Nat → Nat → Nat
  | 0, m, n, _ => if n = 0 ∧ m ≤ 0 then 1 else 0
  | s + 1, m, n, f => sm (n + 1) (fun i => if i * (s + 1) ≤ n ∧ (m < 0 ∨ (i : Int) ≤ m) then ch once f i * bgN c once s (lsi m i) (n - i * (s + 1)) (c s) else 0)
theorem bgN_e {c : Nat → Nat} {once : Bool} {s n f : Nat} {m : Int} : bgN c once (s + 1) m n f = sm (n + 1) (fun i => if i * (s + 1) ≤ n ∧ (m < 0 ∨ (i : Int) ≤ m) then ch once f i * bgN c once s (lsi m i) (n - i * (s + 1)) (c s) else 0) := rfl
theorem ch_0 {once : Bool} {f : Nat} : ch once f 0 = 1 := if_pos rfl
theorem bgN_n0 {c : Nat → Nat} {once : Bool} : ∀ (s f : Nat) (m : Int), bgN c once s m 0 f = if m ≤ 0 then 1 else 0 := by
  intro s
  induction s with
  | zero =>
    intro f m
    show (if 0 = 0 ∧ m ≤ 0 then 1 else 0) = _
    by_cases z : m ≤ 0
    · rw [if_pos ⟨rfl, z⟩, if_pos z]
    · rw [if_neg (fun q => z q.2), if_neg z]
  | succ s ih =>
    intro f m
    rw [bgN_e, sm_s, sm_0, Nat.zero_add, if_pos ⟨by omega, by omega⟩, ch_0, Nat.one_mul, Nat.zero_mul, Nat.sub_zero, ih]
    unfold lsi
    by_cases z : m < 0
    · rw [if_pos z, if_pos (by omega), if_pos (by omega)]
    · rw [if_neg z]
      by_cases y : m ≤ 0
      · rw [if_pos (by omega), if_pos y]
      · rw [if_neg (by omega), if_neg y]
theorem bgN_m0 {c : Nat → Nat} {once : Bool} : ∀ (s n f : Nat), 1 ≤ n → bgN c once s 0 n f = 0 := by
  intro s
  induction s with
  | zero => intro n f hn; exact if_neg (by omega)
  | succ s ih =>
    intro n f hn
    rw [bgN_e]
    refine sm_zero fun i hi => ?_
    by_cases q : i * (s + 1) ≤ n ∧ ((0 : Int) < 0 ∨ (i : Int) ≤ 0)
    · have z : i = 0 := by omega
      subst z
      rw [if_pos q, Nat.zero_mul, Nat.sub_zero, show lsi 0 0 = 0 from rfl, ih n _ hn, Nat.mul_zero]
    · exact if_neg q
theorem bgN_small {c : Nat → Nat} {once : Bool} : ∀ (s n f : Nat) (m : Int), (n : Int) < m → bgN c once s m n f = 0 := by
  intro s
  induction s with
  | zero => intro n f m h; exact if_neg (by omega)
  | succ s ih =>
    intro n f m h
    rw [bgN_e]
    refine sm_zero fun i hi => ?_
    by_cases q : i * (s + 1) ≤ n ∧ (m < 0 ∨ (i : Int) ≤ m)
    · have a : i ≤ i * (s + 1) := Nat.le_mul_of_pos_right _ (by omega)
      rw [if_pos q, ih _ _ _ (by unfold lsi; rw [if_neg (by omega)]; omega), Nat.mul_zero]
    · exact if_neg q
theorem ch_s {once : Bool} {f k : Nat} : ch once f (k + 1) = if once then cho f (k + 1) else cho (f + k) (k + 1) := by
  unfold ch
  rw [if_neg (by omega), show f + (k + 1) - 1 = f + k by omega]
theorem ch_pas {once : Bool} {f i : Nat} (hi : 1 ≤ i) : ch once (f + 1) i = ch once f i + ch once (if once then f else f + 1) (i - 1) := by
  obtain ⟨k, rfl⟩ : ∃ k, i = k + 1 := ⟨i - 1, by omega⟩
  rw [Nat.add_sub_cancel, ch_s, ch_s]
  cases once with
  | true =>
    rw [if_pos rfl, if_pos rfl, if_pos rfl, cho_s]
    cases k with
    | zero => rw [ch_0, cho_0]; omega
    | succ k => rw [ch_s, if_pos rfl]; omega
  | false =>
    rw [if_neg (by decide), if_neg (by decide), if_neg (by decide)]
    cases k with
    | zero => rw [ch_0, show f + 1 + 0 = f + 1 by omega, show f + 0 = f by omega, cho_s, cho_0]; omega
    | succ k => rw [ch_s, if_neg (by decide), show f + 1 + (k + 1) = (f + 1 + k) + 1 by omega, show f + (k + 1) = f + 1 + k by omega, cho_s]; omega
/-- a thing more of the greatest size: those with it stand apart -/
theorem bg_pas {c : Nat → Nat} {once : Bool} {s n f : Nat} {m : Int} (hs : s + 1 ≤ n) (hm : m ≠ 0) : bgN c once (s + 1) m n (f + 1) = bgN c once (s + 1) m n f + bgN c once (s + 1) (lss m) (n - (s + 1)) (if once then f else f + 1) := by
  have e : bgN c once (s + 1) m n (f + 1) = sm (n + 1) (fun i => (if i * (s + 1) ≤ n ∧ (m < 0 ∨ (i : Int) ≤ m) then ch once f i * bgN c once s (lsi m i) (n - i * (s + 1)) (c s) else 0) + (if i = 0 then 0 else if i * (s + 1) ≤ n ∧ (m < 0 ∨ (i : Int) ≤ m) then ch once (if once then f else f + 1) (i - 1) * bgN c once s (lsi m i) (n - i * (s + 1)) (c s) else 0)) := by
    rw [bgN_e]
    refine sm_congr fun i hi => ?_
    by_cases q : i * (s + 1) ≤ n ∧ (m < 0 ∨ (i : Int) ≤ m)
    · rw [if_pos q, if_pos q, if_pos q]
      by_cases z : i = 0
      · subst z; rw [if_pos rfl, ch_0, ch_0]; rfl
      · rw [if_neg z, ch_pas (by omega), Nat.add_mul]
    · rw [if_neg q, if_neg q, if_neg q]
      by_cases z : i = 0
      · rw [if_pos z]
      · rw [if_neg z]
  rw [e, sm_plus, ← bgN_e]
  refine congrArg (bgN c once (s + 1) m n f + ·) ?_
  rw [sm_split, if_pos rfl, Nat.zero_add, bgN_e]
  rw [sm_cut (x := n - (s + 1) + 1) (y := n) (by omega) (fun i a b => ?_)]
  · refine sm_congr fun i hi => ?_
    have k1 : (i + 1) * (s + 1) = i * (s + 1) + (s + 1) := by rw [Nat.add_mul, Nat.one_mul]
    rw [if_neg (by omega), Nat.add_sub_cancel]
    by_cases q : i * (s + 1) ≤ n - (s + 1) ∧ (lss m < 0 ∨ (i : Int) ≤ lss m)
    · have q' : (i + 1) * (s + 1) ≤ n ∧ (m < 0 ∨ ((i + 1 : Nat) : Int) ≤ m) := by
        refine ⟨by omega, ?_⟩
        have := q.2
        unfold lss at this
        by_cases z : m < 0
        · exact Or.inl z
        · rw [if_neg z] at this; omega
      rw [if_pos q, if_pos q', show n - (i + 1) * (s + 1) = n - (s + 1) - i * (s + 1) by omega]
      refine congrArg (fun x => ch once (if once then f else f + 1) i * bgN c once s x (n - (s + 1) - i * (s + 1)) (c s)) ?_
      unfold lsi lss
      by_cases z : m < 0
      · rw [if_pos z, if_pos z, if_pos (by omega)]
      · rw [if_neg z, if_neg z, if_neg (by omega)]; omega
    · have q' : ¬ ((i + 1) * (s + 1) ≤ n ∧ (m < 0 ∨ ((i + 1 : Nat) : Int) ≤ m)) := by
        intro w
        refine q ⟨by omega, ?_⟩
        have := w.2
        unfold lss
        by_cases z : m < 0
        · rw [if_pos z]; omega
        · rw [if_neg z]; omega
      rw [if_neg q, if_neg q']
  · have k1 : (i + 1) ≤ (i + 1) * (s + 1) := Nat.le_mul_of_pos_right _ (by omega)
    have k2 : (n - (s + 1) + 1 + 1) * (s + 1) ≤ (i + 1) * (s + 1) := Nat.mul_le_mul_right _ (by omega)
    have k3 : (n - (s + 1) + 1 + 1) * (s + 1) = (n - (s + 1) + 1) * (s + 1) + (s + 1) := by rw [Nat.add_mul (n - (s + 1) + 1), Nat.one_mul]
    have k4 : n - (s + 1) + 1 ≤ (n - (s + 1) + 1) * (s + 1) := Nat.le_mul_of_pos_right _ (by omega)
    rw [if_neg (by omega), if_neg (by omega)]
theorem lsi_0 {m : Int} (h : -1 ≤ m) : lsi m 0 = m := by unfold lsi; split <;> omega
theorem lss_ge {m : Int} (h : -1 ≤ m) (h0 : m ≠ 0) : -1 ≤ lss m := by unfold lss; split <;> omega
theorem bg_f0 {c : Nat → Nat} {once : Bool} {s n : Nat} {m : Int} (hm : -1 ≤ m) : bgN c once (s + 1) m n 0 = bgN c once s m n (c s) := by
  rw [bgN_e, sm_split, if_pos ⟨by omega, by omega⟩, ch_0, Nat.one_mul, lsi_0 hm, Nat.zero_mul, Nat.sub_zero, sm_zero, Nat.add_zero]
  intro i hi
  rw [ch_zero (by omega), Nat.zero_mul]
  split <;> rfl
/-- those whose greatest thing is the r-th of the size s -/
def bgG (c : Nat → Nat) (once : Bool) (m : Int) (n s r : Nat) : Nat := bgN c once s (lss m) (n - s) (if once then r else r + 1)
theorem bg_sum {c : Nat → Nat} {once : Bool} {s n : Nat} {m : Int} (hs : s + 1 ≤ n) (hm : -1 ≤ m) (h0 : m ≠ 0) : ∀ F, bgN c once (s + 1) m n F = bgN c once s m n (c s) + sm F (bgG c once m n (s + 1)) := by
  intro F
  induction F with
  | zero => rw [bg_f0 hm, sm_0, Nat.add_zero]
  | succ F ih => rw [bg_pas hs h0, ih, sm_s, Nat.add_assoc]; rfl
theorem bg_tot {c : Nat → Nat} {once : Bool} {n : Nat} {m : Int} (hn : 1 ≤ n) (hm : -1 ≤ m) (h0 : m ≠ 0) : ∀ s, s ≤ n → bgN c once s m n (c s) = sm s (fun i => sm (c (1 + i)) (bgG c once m n (1 + i))) := by
  intro s
  induction s with
  | zero => intro _; exact if_neg (by omega)
  | succ s ih => intro hs; rw [bg_sum hs hm h0, ih (by omega), sm_s, Nat.add_comm 1 s]
/-! as the tables have them -/
theorem bg_bgS {C : Nat → Nat → Nat} {once : Bool} {lt : Nat → Nat} (hlt : ∀ t, lt t = 0) : ∀ (s j n : Nat), bgN (fun s => C s 0) once s (j : Int) n (C s 0) = bgS once C lt s j n 0 := by
  intro s
  induction s with
  | zero =>
    intro j n
    show (if n = 0 ∧ (j : Int) ≤ 0 then 1 else 0) = if j = 0 ∧ n = 0 ∧ 0 = 0 then 1 else 0
    by_cases z : n = 0 ∧ j = 0
    · rw [if_pos ⟨z.1, by omega⟩, if_pos ⟨z.2, z.1, rfl⟩]
    · rw [if_neg (by omega), if_neg (by omega)]
  | succ s ih =>
    intro j n
    show _ = bgI once C (s + 1) (bgS once C lt s) (lt (s + 1) + 1) j n 0
    rw [hlt]
    show _ = sm (j + 1) (fun m => if m * (s + 1) ≤ n ∧ m * 0 ≤ 0 then ch once (C (s + 1) 0) m * bgS once C lt s (j - m) (n - m * (s + 1)) (0 - m * 0) else 0)
    rw [bgN_e]
    have a : ∀ i, i ≤ i * (s + 1) := fun i => Nat.le_mul_of_pos_right _ (by omega)
    have e1 : sm (n + 1) (fun i => if i * (s + 1) ≤ n ∧ ((j : Int) < 0 ∨ (i : Int) ≤ (j : Int)) then ch once (C (s + 1) 0) i * bgN (fun s => C s 0) once s (lsi (j : Int) i) (n - i * (s + 1)) (C s 0) else 0) = sm (n + j + 1) (fun i => if i * (s + 1) ≤ n ∧ i ≤ j then ch once (C (s + 1) 0) i * bgS once C lt s (j - i) (n - i * (s + 1)) 0 else 0) := by
      rw [sm_cut (x := n + 1) (y := n + j + 1) (by omega) (fun i p q => by have := a i; exact if_neg (by omega))]
      refine sm_congr fun i hi => ?_
      by_cases q : i * (s + 1) ≤ n ∧ i ≤ j
      · rw [if_pos q, if_pos ⟨q.1, by omega⟩, show lsi (j : Int) i = ((j - i : Nat) : Int) by unfold lsi; rw [if_neg (by omega)]; omega, ih]
      · rw [if_neg q, if_neg (by omega)]
    have e2 : sm (j + 1) (fun m => if m * (s + 1) ≤ n ∧ m * 0 ≤ 0 then ch once (C (s + 1) 0) m * bgS once C lt s (j - m) (n - m * (s + 1)) (0 - m * 0) else 0) = sm (n + j + 1) (fun i => if i * (s + 1) ≤ n ∧ i ≤ j then ch once (C (s + 1) 0) i * bgS once C lt s (j - i) (n - i * (s + 1)) 0 else 0) := by
      rw [sm_cut (x := j + 1) (y := n + j + 1) (by omega) (fun i p q => if_neg (by omega))]
      refine sm_congr fun i hi => ?_
      rw [Nat.mul_zero, Nat.sub_zero]
      by_cases q : i * (s + 1) ≤ n ∧ i ≤ j
      · rw [if_pos q, if_pos ⟨q.1, Nat.le_refl _⟩]
      · rw [if_neg q, if_neg (by omega)]
    exact e1.trans e2.symm
theorem bg_any {c : Nat → Nat} {once : Bool} : ∀ (s n f : Nat), bgN c once s (-1) n f = sm (n + 1) (fun j => bgN c once s (j : Int) n f) := by
  intro s
  induction s with
  | zero =>
    intro n f
    rw [sm_split]
    show (if n = 0 ∧ (-1 : Int) ≤ 0 then 1 else 0) = (if n = 0 ∧ ((0 : Nat) : Int) ≤ 0 then 1 else 0) + _
    rw [sm_zero (f := fun i => bgN c once 0 ((i + 1 : Nat) : Int) n f) (fun i _ => if_neg (by omega)), Nat.add_zero]
    by_cases z : n = 0
    · rw [if_pos ⟨z, by omega⟩, if_pos ⟨z, by omega⟩]
    · rw [if_neg (by omega), if_neg (by omega)]
  | succ s ih =>
    intro n f
    have a : ∀ i, i ≤ i * (s + 1) := fun i => Nat.le_mul_of_pos_right _ (by omega)
    rw [bgN_e, sm_congr (f := fun j => bgN c once (s + 1) ((j : Nat) : Int) n f) (fun j _ => bgN_e), sm_swap]
    refine sm_congr fun i hi => ?_
    by_cases q : i * (s + 1) ≤ n
    · have ai := a i
      rw [if_pos ⟨q, by omega⟩, show lsi (-1) i = -1 from rfl, ih, sm_mull]
      have e : sm (n + 1) (fun j => if i * (s + 1) ≤ n ∧ ((j : Int) < 0 ∨ (i : Int) ≤ (j : Int)) then ch once f i * bgN c once s (lsi (j : Int) i) (n - i * (s + 1)) (c s) else 0) = sm (i + (n - i * (s + 1) + 1)) (fun j => if i * (s + 1) ≤ n ∧ ((j : Int) < 0 ∨ (i : Int) ≤ (j : Int)) then ch once f i * bgN c once s (lsi (j : Int) i) (n - i * (s + 1)) (c s) else 0) := by
        refine sm_cut (by omega) (fun j b1 b2 => ?_)
        rw [if_pos ⟨q, by omega⟩, bgN_small _ _ _ _ (by unfold lsi; rw [if_neg (by omega)]; omega), Nat.mul_zero]
      rw [e, sm_add (a := i) (n - i * (s + 1) + 1), sm_zero (n := i) (fun j hj => if_neg (by omega)), Nat.zero_add]
      refine sm_congr fun j hj => ?_
      rw [if_pos ⟨q, by omega⟩, show lsi ((i + j : Nat) : Int) i = (j : Int) by unfold lsi; rw [if_neg (by omega)]; omega]
    · rw [if_neg (fun w => q w.1), sm_zero (fun j _ => if_neg (fun w => q w.1))]
