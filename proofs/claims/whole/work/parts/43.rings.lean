/-! rings, bags, labelled rows: alike up to the cap -/
theorem tr_pow {c : Nat → Nat → Nat} {a m l : Nat} (h : 1 ≤ tr c a m l) : ∀ e, 1 ≤ tr c (a * e) (m * e) (l * e) := by
  intro e
  induction e with
  | zero => rw [Nat.mul_zero, Nat.mul_zero, Nat.mul_zero]; exact Nat.le_refl 1
  | succ e ih =>
    have := tr_join (c := c) (a * e) (m * e) (l * e) a m l
    rw [Nat.mul_succ, Nat.mul_succ, Nat.mul_succ]
    exact Nat.le_trans (Nat.mul_pos ih h) this
theorem tr_div {c : Nat → Nat → Nat} {a m l d : Nat} (hd : 1 ≤ d) : tr c a m l ≤ tr c (a * d) (m * d) (l * d) := by
  rcases Nat.eq_zero_or_pos (tr c a m l) with z | z
  · rw [z]; exact Nat.zero_le _
  · obtain ⟨e, rfl⟩ : ∃ e, d = e + 1 := ⟨d - 1, by omega⟩
    have h1 := tr_pow z e
    have h2 := tr_join (c := c) (a * e) (m * e) (l * e) a m l
    rw [Nat.mul_succ, Nat.mul_succ, Nat.mul_succ]
    exact Nat.le_trans (Nat.le_mul_of_pos_left _ h1) h2
theorem few_div {c : Nat → Nat → Nat} {a m l d : Nat} (hd : 1 ≤ d) (ha : 1 ≤ a) (h : few c (a * d - 1) (m * d) (l * d)) : few c (a - 1) m l := by
  intro s i h1 h2 h3 h4
  refine Nat.eq_zero_of_not_pos fun hp => ?_
  obtain ⟨e, rfl⟩ : ∃ e, d = e + 1 := ⟨d - 1, by omega⟩
  obtain ⟨q, rfl⟩ : ∃ q, a = q + 1 := ⟨a - 1, by omega⟩
  rw [Nat.add_sub_cancel] at hp
  have w : 1 ≤ tr c (q + 1) m l := Nat.le_trans (Nat.mul_pos (Nat.lt_of_lt_of_le CC_pos h4) hp) (le_s2 (f := fun s i => c s i * tr c q (m - s) (l - i)) h1 h2 h3)
  have j := tr_join (c := c) q (m - s) (l - i) ((q + 1) * e) (m * e) (l * e)
  have z := h s i h1 (by rw [Nat.mul_succ]; omega) (by rw [Nat.mul_succ]; omega) h4
  rw [show q + (q + 1) * e = (q + 1) * (e + 1) - 1 by rw [Nat.mul_succ]; omega, show m - s + m * e = m * (e + 1) - s by rw [Nat.mul_succ]; omega, show l - i + l * e = l * (e + 1) - i by rw [Nat.mul_succ]; omega, z] at j
  have := Nat.mul_pos hp (tr_pow w e)
  omega
def phi (d : Nat) : Nat := if d < 3 then 1 else if d = 5 then 4 else if d = 7 then 6 else 2
/-- rows that are as before by each turn, each counted up to L -/
def rgs (L : Nat) (c : Nat → Nat → Nat) (N n k : Nat) : Nat := sm N (fun d => if N % (d + 1) = 0 ∧ n % (d + 1) = 0 ∧ k % (d + 1) = 0 then phi (d + 1) * min L (tr c (N / (d + 1)) (n / (d + 1)) (k / (d + 1))) else 0)
def rgu (c : Nat → Nat → Nat) (N n k : Nat) : Nat := sm N (fun d => if N % (d + 1) = 0 ∧ n % (d + 1) = 0 ∧ k % (d + 1) = 0 then phi (d + 1) * tr c (N / (d + 1)) (n / (d + 1)) (k / (d + 1)) else 0)
theorem rgs_ge {L : Nat} {c : Nat → Nat → Nat} {N n k : Nat} (hN : 1 ≤ N) : min L (tr c N n k) ≤ rgs L c N n k := by
  refine Nat.le_trans ?_ (le_sm (i := 0) (by omega))
  show _ ≤ if N % (0 + 1) = 0 ∧ n % (0 + 1) = 0 ∧ k % (0 + 1) = 0 then phi (0 + 1) * min L (tr c (N / (0 + 1)) (n / (0 + 1)) (k / (0 + 1))) else 0
  rw [if_pos ⟨Nat.mod_one _, Nat.mod_one _, Nat.mod_one _⟩, Nat.div_one, Nat.div_one, Nat.div_one, show phi (0 + 1) = 1 from rfl, Nat.one_mul]
  exact Nat.le_refl _
theorem rgu_ge {c : Nat → Nat → Nat} {N n k : Nat} (hN : 1 ≤ N) : tr c N n k ≤ rgu c N n k := by
  refine Nat.le_trans ?_ (le_sm (i := 0) (by omega))
  show _ ≤ if N % (0 + 1) = 0 ∧ n % (0 + 1) = 0 ∧ k % (0 + 1) = 0 then phi (0 + 1) * tr c (N / (0 + 1)) (n / (0 + 1)) (k / (0 + 1)) else 0
  rw [if_pos ⟨Nat.mod_one _, Nat.mod_one _, Nat.mod_one _⟩, Nat.div_one, Nat.div_one, Nat.div_one, show phi (0 + 1) = 1 from rfl, Nat.one_mul]
  exact Nat.le_refl _
theorem div_back {N d : Nat} (h : N % d = 0) : N / d * d = N := Nat.div_mul_cancel (Nat.dvd_of_mod_eq_zero h)
theorem ring_cap {L : Nat} {c : Nat → Nat → Nat} {N n k : Nat} (hN : 1 ≤ N ∧ N ≤ 7) (hL : 7 * CC ≤ L) : ev (rgs L c N n k / N) (rgu c N n k / N) := by
  by_cases hb : L ≤ tr c N n k
  · refine ev_of (Or.inr ⟨?_, ?_⟩)
    · refine (Nat.le_div_iff_mul_le (by omega)).mpr (Nat.le_trans ?_ (rgs_ge hN.1))
      have : CC * N ≤ CC * 7 := Nat.mul_le_mul_left _ hN.2
      omega
    · refine (Nat.le_div_iff_mul_le (by omega)).mpr (Nat.le_trans ?_ (rgu_ge hN.1))
      have : CC * N ≤ CC * 7 := Nat.mul_le_mul_left _ hN.2
      omega
  · refine ev_of (Or.inl (congrArg (· / N) (sm_congr fun d hd => ?_)))
    by_cases hc : N % (d + 1) = 0 ∧ n % (d + 1) = 0 ∧ k % (d + 1) = 0
    · rw [if_pos hc, if_pos hc]
      have := tr_div (c := c) (a := N / (d + 1)) (m := n / (d + 1)) (l := k / (d + 1)) (d := d + 1) (by omega)
      rw [div_back hc.1, div_back hc.2.1, div_back hc.2.2] at this
      rw [Nat.min_eq_right (by omega)]
    · rw [if_neg hc, if_neg hc]
theorem ring_ev {c c' : Nat → Nat → Nat} (h : ∀ s i, ev (c s i) (c' s i)) {N n k : Nat} (hN : 1 ≤ N ∧ N ≤ 7) : ev (rgu c N n k / N) (rgu c' N n k / N) := by
  obtain ⟨M, rfl⟩ : ∃ M, N = M + 1 := ⟨N - 1, by omega⟩
  by_cases hf : few c M n k
  · refine ev_of (Or.inl (congrArg (· / (M + 1)) (sm_congr fun d hd => ?_)))
    by_cases hc : (M + 1) % (d + 1) = 0 ∧ n % (d + 1) = 0 ∧ k % (d + 1) = 0
    · rw [if_pos hc, if_pos hc]
      have e1 := div_back hc.1
      have hq : 1 ≤ (M + 1) / (d + 1) := Nat.one_le_iff_ne_zero.mpr fun z => by rw [z, Nat.zero_mul] at e1; omega
      have hf' : few c ((M + 1) / (d + 1) - 1) (n / (d + 1)) (k / (d + 1)) := few_div (d := d + 1) (by omega) hq (by rw [e1, div_back hc.2.1, div_back hc.2.2, Nat.add_sub_cancel]; exact hf)
      have t := tr_few h _ _ _ hf'
      rw [Nat.sub_add_cancel hq] at t
      rw [t]
    · rw [if_neg hc, if_neg hc]
  · have hx : ∃ s i, 1 ≤ s ∧ s ≤ n ∧ i ≤ k ∧ CC ≤ c s i ∧ 1 ≤ tr c M (n - s) (k - i) := by
      refine Classical.byContradiction fun hn => hf fun s i h1 h2 h3 h4 => ?_
      refine Nat.eq_zero_of_not_pos fun hp => hn ⟨s, i, h1, h2, h3, h4, hp⟩
    obtain ⟨s, i, h1, h2, h3, h4, h5⟩ := hx
    have h4' : CC ≤ c' s i := by rcases ev_to (h s i) with e | e; rw [← e]; exact h4; exact e.2
    have h5' : 1 ≤ tr c' M (n - s) (k - i) := Nat.one_le_iff_ne_zero.mpr fun z => by
      have := (ev_zero (tr_ev h M (n - s) (k - i))).mpr z
      omega
    have c7 : 7 ≤ CC := by decide
    refine ev_of (Or.inr ⟨?_, ?_⟩)
    · refine (Nat.le_div_iff_mul_le (by omega)).mpr (Nat.le_trans ?_ (rgu_ge hN.1))
      refine Nat.le_trans ?_ (tr_big (by omega) h1 M n k (by omega) h2 h3 h5)
      rw [Nat.mul_comm]; exact Nat.mul_le_mul_left _ h4
    · refine (Nat.le_div_iff_mul_le (by omega)).mpr (Nat.le_trans ?_ (rgu_ge hN.1))
      refine Nat.le_trans ?_ (tr_big (by omega) h1 M n k (by omega) h2 h3 h5')
      rw [Nat.mul_comm]; exact Nat.mul_le_mul_left _ h4'
/-! choosing -/
def cho : Nat → Nat → Nat
  | _, 0 => 1
  | 0, _ + 1 => 0
  | n + 1, k + 1 => cho n k + cho n (k + 1)
theorem cho_0 {n : Nat} : cho n 0 = 1 := by cases n <;> rfl
theorem cho_s {n k : Nat} : cho (n + 1) (k + 1) = cho n k + cho n (k + 1) := rfl
theorem cho_pos : ∀ {n k : Nat}, k ≤ n → 1 ≤ cho n k := by
  intro n
  induction n with
  | zero => intro k h; rw [show k = 0 by omega]; exact Nat.le_refl 1
  | succ n ih =>
    intro k h
    cases k with
    | zero => exact Nat.le_refl 1
    | succ k => rw [cho_s]; have := ih (k := k) (by omega); omega
theorem cho_1 {n : Nat} : cho n 1 = n := by
  induction n with
  | zero => rfl
  | succ n ih => rw [show (1 : Nat) = 0 + 1 from rfl, cho_s, cho_0, ih]; omega
theorem cho_lt : ∀ {n k : Nat}, n < k → cho n k = 0 := by
  intro n
  induction n with
  | zero => intro k h; obtain ⟨j, rfl⟩ : ∃ j, k = j + 1 := ⟨k - 1, by omega⟩; rfl
  | succ n ih =>
    intro k h
    obtain ⟨j, rfl⟩ : ∃ j, k = j + 1 := ⟨k - 1, by omega⟩
    rw [cho_s, ih (by omega), ih (by omega)]
theorem cho_ge : ∀ {n k : Nat}, 1 ≤ k → k < n → n ≤ cho n k := by
  intro n
  induction n with
  | zero => intro k _ h; omega
  | succ n ih =>
    intro k h1 h2
    obtain ⟨j, rfl⟩ : ∃ j, k = j + 1 := ⟨k - 1, by omega⟩
    rw [cho_s]
    rcases Nat.eq_zero_or_pos j with z | z
    · subst z; rw [cho_0, cho_1]; omega
    · have a := ih (k := j) z (by omega)
      have b := cho_pos (n := n) (k := j + 1) (by omega)
      omega
/-- absorbing: (k + 1) choose(n + 1, k + 1) = (n + 1) choose(n, k) -/
theorem cho_ab : ∀ n k, (k + 1) * cho (n + 1) (k + 1) = (n + 1) * cho n k := by
  intro n
  induction n with
  | zero =>
    intro k
    cases k with
    | zero => rfl
    | succ k => rw [cho_s, cho_lt (n := 0) (k := k + 1) (by omega), cho_lt (n := 0) (k := k + 1 + 1) (by omega)]; omega
  | succ n ih =>
    intro k
    rw [cho_s]
    cases k with
    | zero => rw [cho_0, cho_1]; omega
    | succ k =>
      have a := ih k
      have b := ih (k + 1)
      rw [Nat.mul_add, b]
      rw [show (k + 1 + 1) * cho (n + 1) (k + 1) = (k + 1) * cho (n + 1) (k + 1) + cho (n + 1) (k + 1) from Nat.succ_mul _ _, a]
      rw [show cho (n + 1) (k + 1) = cho n k + cho n (k + 1) from cho_s]
      rw [show (n + 1 + 1) * (cho n k + cho n (k + 1)) = (n + 1) * cho n k + (n + 1) * cho n (k + 1) + (cho n k + cho n (k + 1)) by rw [Nat.succ_mul, Nat.mul_add]]
      omega
/-- in how many ways m stand together of a, no two alike, or else -/
def ch (once : Bool) (a m : Nat) : Nat := if m = 0 then 1 else if once then cho a m else cho (a + m - 1) m
theorem ch_ev {once : Bool} {a b m : Nat} (h : ev a b) (hm : m ≤ 7) : ev (ch once a m) (ch once b m) := by
  rcases ev_to h with e | e
  · rw [e]; exact ev.rf
  · unfold ch
    by_cases z : m = 0
    · rw [if_pos z, if_pos z]; exact ev.rf
    · rw [if_neg z, if_neg z]
      have c8 : 8 ≤ CC := by decide
      cases once with
      | true => exact ev_of (Or.inr ⟨Nat.le_trans e.1 (cho_ge (by omega) (by omega)), Nat.le_trans e.2 (cho_ge (by omega) (by omega))⟩)
      | false => exact ev_of (Or.inr ⟨Nat.le_trans (by omega) (cho_ge (n := a + m - 1) (k := m) (by omega) (by omega)), Nat.le_trans (by omega) (cho_ge (n := b + m - 1) (k := m) (by omega) (by omega))⟩)
theorem ch_zero {once : Bool} {m : Nat} (h : 1 ≤ m) : ch once 0 m = 0 := by
  unfold ch
  rw [if_neg (by omega)]
  cases once with
  | true => exact cho_lt (by omega)
  | false => exact cho_lt (by omega)
/-! bags: things of one size and letter come into a table of number, size, letters -/
def addC (w : Nat → Nat) (s i : Nat) (T : Nat → Nat → Nat → Nat) : Nat → Nat → Nat → Nat := fun j n k => sm (j + 1) (fun m => if m * s ≤ n ∧ m * i ≤ k then w m * T (j - m) (n - m * s) (k - m * i) else 0)
theorem addC_ev {w w' : Nat → Nat} {s i : Nat} {T T' : Nat → Nat → Nat → Nat} (hw : ∀ m, m ≤ 7 → ev (w m) (w' m)) (hT : ∀ j n k, ev (T j n k) (T' j n k)) {j n k : Nat} (hj : j ≤ 7) : ev (addC w s i T j n k) (addC w' s i T' j n k) := by
  refine sm_ev fun m hm => ?_
  by_cases h : m * s ≤ n ∧ m * i ≤ k
  · rw [if_pos h, if_pos h]; exact ev_mul (hw m (by omega)) (hT _ _ _)
  · rw [if_neg h, if_neg h]; exact ev.rf
def bg0 : Nat → Nat → Nat → Nat := fun j n k => if j = 0 ∧ n = 0 ∧ k = 0 then 1 else 0
def bgI (once : Bool) (c : Nat → Nat → Nat) (s : Nat) (T : Nat → Nat → Nat → Nat) : Nat → Nat → Nat → Nat → Nat
  | 0 => T
  | i + 1 => addC (ch once (c s i)) s i (bgI once c s T i)
/-- of things of sizes 1 .. s; letters up to lt s -/
def bgS (once : Bool) (c : Nat → Nat → Nat) (lt : Nat → Nat) : Nat → Nat → Nat → Nat → Nat
  | 0 => bg0
  | s + 1 => bgI once c (s + 1) (bgS once c lt s) (lt (s + 1) + 1)
/-! labelled rows -/
def tl (c : Nat → Nat) : Nat → Nat → Nat
  | 0, n => if n = 0 then 1 else 0
  | j + 1, n => sm n (fun s => cho n (s + 1) * c (s + 1) * tl c j (n - (s + 1)))
theorem tl_ev {c c' : Nat → Nat} (h : ∀ s, ev (c s) (c' s)) : ∀ j n, ev (tl c j n) (tl c' j n) := by
  intro j
  induction j with
  | zero => intro n; exact ev.rf
  | succ j ih => intro n; exact sm_ev fun s _ => ev_mul (ev_mul ev.rf (h _)) (ih _)
def fac : Nat → Nat
  | 0 => 1
  | n + 1 => (n + 1) * fac n
theorem fac_pos : ∀ n, 1 ≤ fac n := by
  intro n
  induction n with
  | zero => exact Nat.le_refl 1
  | succ n ih => exact Nat.mul_pos (by omega) ih
theorem cho_n {n s : Nat} (h1 : 1 ≤ s) (h2 : s ≤ n) {j : Nat} (h3 : j ≤ n - s) (h4 : j = 0 → s = n) : j + 1 ≤ cho n s := by
  by_cases e : s = n
  · subst e
    rw [show j = 0 by omega]
    exact cho_pos (by omega)
  · have := cho_ge h1 (show s < n by omega)
    omega
theorem tl_small {c : Nat → Nat} : ∀ j n, n < j → tl c j n = 0 := by
  intro j
  induction j with
  | zero => intro n h; omega
  | succ j ih =>
    intro n h
    refine sm_zero fun s hs => ?_
    rw [ih (n - (s + 1)) (by omega), Nat.mul_zero]
theorem tl_ge {c : Nat → Nat} : ∀ j n, 1 ≤ tl c j n → fac j ≤ tl c j n := by
  intro j
  induction j with
  | zero => intro n h; exact h
  | succ j ih =>
    intro n h
    obtain ⟨s, h1, h2⟩ := sm_pos (show 0 < sm n (fun s => cho n (s + 1) * c (s + 1) * tl c j (n - (s + 1))) from h)
    have p1 : 1 ≤ tl c j (n - (s + 1)) := Nat.pos_of_mul_pos_left h2
    have p2 : 1 ≤ c (s + 1) := Nat.pos_of_mul_pos_left (Nat.pos_of_mul_pos_right h2)
    have p3 : j ≤ n - (s + 1) := Nat.le_of_not_lt fun q => by rw [tl_small j _ q] at p1; omega
    refine Nat.le_trans ?_ (le_sm (f := fun s => cho n (s + 1) * c (s + 1) * tl c j (n - (s + 1))) h1)
    show (j + 1) * fac j ≤ cho n (s + 1) * c (s + 1) * tl c j (n - (s + 1))
    refine Nat.mul_le_mul (Nat.le_trans (cho_n (j := j) (by omega) (by omega) p3 ?_) (Nat.le_mul_of_pos_right _ p2)) (ih _ p1)
    intro z
    subst z
    have : tl c 0 (n - (s + 1)) = if n - (s + 1) = 0 then 1 else 0 := rfl
    rw [this] at p1
    by_cases q : n - (s + 1) = 0
    · omega
    · rw [if_neg q] at p1; omega
theorem tl_big {c : Nat → Nat} {s j n : Nat} (h1 : 1 ≤ s) (h2 : s ≤ n) (h3 : 1 ≤ tl c j (n - s)) : fac (j + 1) * c s ≤ tl c (j + 1) n := by
  obtain ⟨t, rfl⟩ : ∃ t, s = t + 1 := ⟨s - 1, by omega⟩
  refine Nat.le_trans ?_ (le_sm (f := fun s => cho n (s + 1) * c (s + 1) * tl c j (n - (s + 1))) (show t < n by omega))
  have p3 : j ≤ n - (t + 1) := Nat.le_of_not_lt fun q => by rw [tl_small j _ q] at h3; omega
  have a := cho_n (n := n) (s := t + 1) (j := j) (by omega) h2 p3 (fun z => by
    subst z
    have : tl c 0 (n - (t + 1)) = if n - (t + 1) = 0 then 1 else 0 := rfl
    rw [this] at h3
    by_cases q : n - (t + 1) = 0
    · omega
    · rw [if_neg q] at h3; omega)
  have b := tl_ge j (n - (t + 1)) h3
  show (j + 1) * fac j * c (t + 1) ≤ cho n (t + 1) * c (t + 1) * tl c j (n - (t + 1))
  rw [Nat.mul_right_comm]
  exact Nat.mul_le_mul (Nat.mul_le_mul_right _ a) b
def fewL (c : Nat → Nat) (N n : Nat) : Prop := ∀ s, 1 ≤ s → s ≤ n → CC ≤ c s → tl c N (n - s) = 0
theorem tl_few {c c' : Nat → Nat} (h : ∀ s, ev (c s) (c' s)) : ∀ N n, fewL c N n → tl c (N + 1) n = tl c' (N + 1) n := by
  intro N
  induction N with
  | zero =>
    intro n hf
    refine sm_congr fun s hs => ?_
    rcases ev_to (h (s + 1)) with e | e
    · rw [e]; rfl
    · have a := hf (s + 1) (by omega) (by omega) e.1
      have b := (ev_zero (tl_ev h 0 (n - (s + 1)))).mp a
      rw [a, b, Nat.mul_zero, Nat.mul_zero]
  | succ N ih =>
    intro n hf
    refine sm_congr fun s hs => ?_
    rcases ev_to (h (s + 1)) with e | e
    · rcases Nat.eq_zero_or_pos (c (s + 1)) with z | z
      · rw [← e, z, Nat.mul_zero, Nat.zero_mul, Nat.zero_mul]
      · rw [← e, ih (n - (s + 1)) fun t t1 t2 t4 => ?_]
        have q := hf t t1 (by omega) t4
        have q2 := le_sm (f := fun s => cho (n - t) (s + 1) * c (s + 1) * tl c N (n - t - (s + 1))) (show s < n - t by omega)
        have q3 : cho (n - t) (s + 1) * c (s + 1) * tl c N (n - t - (s + 1)) = 0 := Nat.le_zero.mp (by rw [← q]; exact q2)
        rcases Nat.mul_eq_zero.mp q3 with q5 | q5
        · rcases Nat.mul_eq_zero.mp q5 with q6 | q6
          · have := cho_pos (n := n - t) (k := s + 1) (by omega); omega
          · omega
        · rw [show n - (s + 1) - t = n - t - (s + 1) by omega]; exact q5
    · have a := hf (s + 1) (by omega) (by omega) e.1
      have b := (ev_zero (tl_ev h (N + 1) (n - (s + 1)))).mp a
      rw [a, b, Nat.mul_zero, Nat.mul_zero]
theorem lab_ev {c c' : Nat → Nat} (h : ∀ s, ev (c s) (c' s)) {j n f : Nat} (hf : 1 ≤ f ∧ f ≤ fac j) : ev (tl c j n / f) (tl c' j n / f) := by
  cases j with
  | zero => exact ev.rf
  | succ M =>
    by_cases hw : fewL c M n
    · rw [tl_few h M n hw]; exact ev.rf
    · have hx : ∃ s, 1 ≤ s ∧ s ≤ n ∧ CC ≤ c s ∧ 1 ≤ tl c M (n - s) := by
        refine Classical.byContradiction fun hn => hw fun s h1 h2 h4 => ?_
        exact Nat.eq_zero_of_not_pos fun hp => hn ⟨s, h1, h2, h4, hp⟩
      obtain ⟨s, h1, h2, h4, h5⟩ := hx
      have h4' : CC ≤ c' s := by rcases ev_to (h s) with e | e; rw [← e]; exact h4; exact e.2
      have h5' : 1 ≤ tl c' M (n - s) := Nat.one_le_iff_ne_zero.mpr fun z => by
        have := (ev_zero (tl_ev h M (n - s))).mpr z
        omega
      refine ev_of (Or.inr ⟨?_, ?_⟩)
      · refine (Nat.le_div_iff_mul_le (by omega)).mpr (Nat.le_trans ?_ (tl_big h1 h2 h5))
        rw [Nat.mul_comm]; exact Nat.mul_le_mul hf.2 h4
      · refine (Nat.le_div_iff_mul_le (by omega)).mpr (Nat.le_trans ?_ (tl_big h1 h2 h5'))
        rw [Nat.mul_comm]; exact Nat.mul_le_mul hf.2 h4'
