/-! counts over naturals, uncapped; alike up to the cap -/
def CC : Nat := 1000000000000
def ev (x y : Nat) : Prop := min CC x = min CC y
theorem ev.rf {x : Nat} : ev x x := rfl
theorem ev.sm {x y : Nat} (h : ev x y) : ev y x := Eq.symm h
theorem ev.tr {x y z : Nat} (h : ev x y) (k : ev y z) : ev x z := Eq.trans h k
theorem ev_of {x y : Nat} (h : x = y ∨ (CC ≤ x ∧ CC ≤ y)) : ev x y := by
  unfold ev
  rcases h with h | ⟨h1, h2⟩
  · rw [h]
  · omega
theorem ev_to {x y : Nat} (h : ev x y) : x = y ∨ (CC ≤ x ∧ CC ≤ y) := by
  unfold ev at h
  omega
theorem CC_pos : 0 < CC := by decide
theorem CC_eq : CC = 1000000000000 := rfl
theorem ev_zero {x y : Nat} (h : ev x y) : x = 0 ↔ y = 0 := by
  have := CC_pos
  rcases ev_to h with h | h <;> omega
theorem ev_add {a b x y : Nat} (h : ev a b) (k : ev x y) : ev (a + x) (b + y) := by
  rcases ev_to h with h | h <;> rcases ev_to k with k | k <;> exact ev_of (by omega)
theorem ev_mul {a b x y : Nat} (h : ev a b) (k : ev x y) : ev (a * x) (b * y) := by
  have hp := CC_pos
  have big : ∀ u v : Nat, CC ≤ u → 1 ≤ v → CC ≤ u * v := fun u v h1 h2 => Nat.le_trans h1 (Nat.le_mul_of_pos_right u h2)
  rcases ev_to h with h | h
  · subst h
    rcases ev_to k with k | k
    · subst k; exact ev.rf
    · rcases Nat.eq_zero_or_pos a with ha | ha
      · subst ha; rw [Nat.zero_mul, Nat.zero_mul]; exact ev.rf
      · exact ev_of (Or.inr ⟨by rw [Nat.mul_comm]; exact big _ _ k.1 ha, by rw [Nat.mul_comm]; exact big _ _ k.2 ha⟩)
  · rcases ev_to k with k | k
    · subst k
      rcases Nat.eq_zero_or_pos x with hx | hx
      · subst hx; rw [Nat.mul_zero, Nat.mul_zero]; exact ev.rf
      · exact ev_of (Or.inr ⟨big _ _ h.1 hx, big _ _ h.2 hx⟩)
    · exact ev_of (Or.inr ⟨big _ _ h.1 (by omega), big _ _ h.2 (by omega)⟩)
/-- sums -/
def sm : Nat → (Nat → Nat) → Nat
  | 0, _ => 0
  | n + 1, f => sm n f + f n
theorem sm_congr {n : Nat} {f g : Nat → Nat} (h : ∀ i, i < n → f i = g i) : sm n f = sm n g := by
  induction n with
  | zero => rfl
  | succ n ih =>
    show sm n f + f n = sm n g + g n
    rw [ih (fun i hi => h i (by omega)), h n (by omega)]
theorem sm_ev {n : Nat} {f g : Nat → Nat} (h : ∀ i, i < n → ev (f i) (g i)) : ev (sm n f) (sm n g) := by
  induction n with
  | zero => exact ev.rf
  | succ n ih => exact ev_add (ih (fun i hi => h i (by omega))) (h n (by omega))
theorem sm_zero {n : Nat} {f : Nat → Nat} (h : ∀ i, i < n → f i = 0) : sm n f = 0 := by
  induction n with
  | zero => rfl
  | succ n ih =>
    show sm n f + f n = 0
    rw [ih (fun i hi => h i (by omega)), h n (by omega)]
theorem le_sm {n : Nat} {f : Nat → Nat} {i : Nat} (h : i < n) : f i ≤ sm n f := by
  induction n with
  | zero => omega
  | succ n ih =>
    show f i ≤ sm n f + f n
    by_cases hi : i = n
    · subst hi; omega
    · have := ih (by omega); omega
theorem le_sm2 {n : Nat} {f : Nat → Nat} {i j : Nat} (h : i < n) (k : j < n) (hij : i ≠ j) : f i + f j ≤ sm n f := by
  induction n with
  | zero => omega
  | succ n ih =>
    show f i + f j ≤ sm n f + f n
    by_cases hi : i = n
    · subst hi
      have := le_sm (n := i) (f := f) (i := j) (by omega)
      omega
    · by_cases hj : j = n
      · subst hj
        have := le_sm (n := j) (f := f) (i := i) (by omega)
        omega
      · have := ih (by omega) (by omega); omega
theorem sm_pos {n : Nat} {f : Nat → Nat} (h : 0 < sm n f) : ∃ i, i < n ∧ 0 < f i := by
  induction n with
  | zero => exact absurd h (Nat.lt_irrefl 0)
  | succ n ih =>
    have h : 0 < sm n f + f n := h
    by_cases hn : 0 < f n
    · exact ⟨n, by omega, hn⟩
    · obtain ⟨i, h1, h2⟩ := ih (by omega)
      exact ⟨i, by omega, h2⟩
theorem sm_mono {n : Nat} {f g : Nat → Nat} (h : ∀ i, i < n → f i ≤ g i) : sm n f ≤ sm n g := by
  induction n with
  | zero => exact Nat.le_refl _
  | succ n ih =>
    show sm n f + f n ≤ sm n g + g n
    have := ih (fun i hi => h i (by omega))
    have := h n (by omega)
    omega
theorem sm_mulr {n : Nat} {f : Nat → Nat} {a : Nat} : sm n f * a = sm n (fun i => f i * a) := by
  induction n with
  | zero => exact Nat.zero_mul a
  | succ n ih =>
    show (sm n f + f n) * a = sm n (fun i => f i * a) + f n * a
    rw [Nat.add_mul, ih]
/-- a sum over sizes 1 .. n and letters 0 .. k -/
def s2 (n k : Nat) (f : Nat → Nat → Nat) : Nat := sm n (fun s => sm (k + 1) (fun i => f (s + 1) i))
theorem s2_congr {n k : Nat} {f g : Nat → Nat → Nat} (h : ∀ s i, 1 ≤ s → s ≤ n → i ≤ k → f s i = g s i) : s2 n k f = s2 n k g := sm_congr fun s hs => sm_congr fun i hi => h (s + 1) i (by omega) (by omega) (by omega)
theorem s2_ev {n k : Nat} {f g : Nat → Nat → Nat} (h : ∀ s i, 1 ≤ s → s ≤ n → i ≤ k → ev (f s i) (g s i)) : ev (s2 n k f) (s2 n k g) := sm_ev fun s hs => sm_ev fun i hi => h (s + 1) i (by omega) (by omega) (by omega)
theorem s2_zero {n k : Nat} {f : Nat → Nat → Nat} (h : ∀ s i, 1 ≤ s → s ≤ n → i ≤ k → f s i = 0) : s2 n k f = 0 := sm_zero fun s hs => sm_zero fun i hi => h (s + 1) i (by omega) (by omega) (by omega)
theorem s2_mono {n k : Nat} {f g : Nat → Nat → Nat} (h : ∀ s i, 1 ≤ s → s ≤ n → i ≤ k → f s i ≤ g s i) : s2 n k f ≤ s2 n k g := sm_mono fun s hs => sm_mono fun i hi => h (s + 1) i (by omega) (by omega) (by omega)
theorem le_s2 {n k s i : Nat} {f : Nat → Nat → Nat} (h1 : 1 ≤ s) (h2 : s ≤ n) (h3 : i ≤ k) : f s i ≤ s2 n k f := by
  obtain ⟨t, rfl⟩ : ∃ t, s = t + 1 := ⟨s - 1, by omega⟩
  exact Nat.le_trans (le_sm (f := fun i => f (t + 1) i) (show i < k + 1 by omega)) (le_sm (f := fun s => sm (k + 1) (fun i => f (s + 1) i)) (show t < n by omega))
theorem le_s22 {n k s i t j : Nat} {f : Nat → Nat → Nat} (h1 : 1 ≤ s ∧ s ≤ n ∧ i ≤ k) (h2 : 1 ≤ t ∧ t ≤ n ∧ j ≤ k) (hne : ¬ (s = t ∧ i = j)) : f s i + f t j ≤ s2 n k f := by
  obtain ⟨a, rfl⟩ : ∃ a, s = a + 1 := ⟨s - 1, by omega⟩
  obtain ⟨b, rfl⟩ : ∃ b, t = b + 1 := ⟨t - 1, by omega⟩
  by_cases hab : a = b
  · subst hab
    exact Nat.le_trans (le_sm2 (f := fun i => f (a + 1) i) (show i < k + 1 by omega) (show j < k + 1 by omega) (by omega)) (le_sm (f := fun s => sm (k + 1) (fun i => f (s + 1) i)) (show a < n by omega))
  · refine Nat.le_trans (Nat.add_le_add (le_sm (f := fun i => f (a + 1) i) (show i < k + 1 by omega)) (le_sm (f := fun i => f (b + 1) i) (show j < k + 1 by omega))) ?_
    exact le_sm2 (f := fun s => sm (k + 1) (fun i => f (s + 1) i)) (show a < n by omega) (show b < n by omega) hab
theorem s2_pos {n k : Nat} {f : Nat → Nat → Nat} (h : 0 < s2 n k f) : ∃ s i, 1 ≤ s ∧ s ≤ n ∧ i ≤ k ∧ 0 < f s i := by
  obtain ⟨s, h1, h2⟩ := sm_pos h
  obtain ⟨i, h3, h4⟩ := sm_pos h2
  exact ⟨s + 1, i, by omega, by omega, by omega, h4⟩
/-- rows of j things of all together size n, k atoms of the letter -/
def tr (c : Nat → Nat → Nat) : Nat → Nat → Nat → Nat
  | 0, n, k => if n = 0 ∧ k = 0 then 1 else 0
  | j + 1, n, k => s2 n k (fun s i => c s i * tr c j (n - s) (k - i))
theorem tr_ev {c c' : Nat → Nat → Nat} (h : ∀ s i, ev (c s i) (c' s i)) : ∀ j n k, ev (tr c j n k) (tr c' j n k) := by
  intro j
  induction j with
  | zero => intro n k; exact ev.rf
  | succ j ih => intro n k; exact s2_ev fun s i _ _ _ => ev_mul (h s i) (ih _ _)
theorem tr_small {c : Nat → Nat → Nat} : ∀ j n k, n < j → tr c j n k = 0 := by
  intro j
  induction j with
  | zero => intro n k h; omega
  | succ j ih =>
    intro n k h
    refine s2_zero fun s i h1 h2 h3 => ?_
    rw [ih (n - s) (k - i) (by omega), Nat.mul_zero]
/-- one thing of a row there are many of: rows are as many times the row's length -/
theorem tr_big {c : Nat → Nat → Nat} {s i : Nat} (hc : 7 ≤ c s i) (hs : 1 ≤ s) : ∀ j n k, j ≤ 6 → s ≤ n → i ≤ k → 1 ≤ tr c j (n - s) (k - i) → (j + 1) * c s i ≤ tr c (j + 1) n k := by
  intro j
  induction j with
  | zero =>
    intro n k _ h1 h2 h3
    refine Nat.le_trans ?_ (le_s2 (f := fun s i => c s i * tr c 0 (n - s) (k - i)) hs h1 h2)
    show (0 + 1) * c s i ≤ c s i * tr c 0 (n - s) (k - i)
    rw [Nat.zero_add, Nat.one_mul]
    exact Nat.le_mul_of_pos_right _ h3
  | succ j ih =>
    intro n k hj h1 h2 h3
    obtain ⟨t, l, t1, t2, t3, t4⟩ := s2_pos (show 0 < s2 (n - s) (k - i) (fun s' i' => c s' i' * tr c j (n - s - s') (k - i - i')) from h3)
    have hct : 1 ≤ c t l := Nat.pos_of_mul_pos_right t4
    have htr : 1 ≤ tr c j (n - s - t) (k - i - l) := Nat.pos_of_mul_pos_left t4
    by_cases he : t = s ∧ l = i
    · obtain ⟨rfl, rfl⟩ := he
      have e := ih (n - t) (k - l) (by omega) t2 t3 htr
      refine Nat.le_trans ?_ (le_s2 (f := fun s i => c s i * tr c (j + 1) (n - s) (k - i)) hs h1 h2)
      show (j + 1 + 1) * c t l ≤ c t l * tr c (j + 1) (n - t) (k - l)
      rw [Nat.mul_comm]
      refine Nat.mul_le_mul_left _ (Nat.le_trans ?_ e)
      refine Nat.le_trans ?_ (Nat.mul_le_mul_left (j + 1) hc)
      omega
    · have e := ih (n - t) (k - l) (by omega) (by omega) (by omega) (by rw [show n - t - s = n - s - t by omega, show k - l - i = k - i - l by omega]; exact htr)
      refine Nat.le_trans ?_ (le_s22 (f := fun s i => c s i * tr c (j + 1) (n - s) (k - i)) (s := s) (i := i) (t := t) (j := l) ⟨hs, h1, h2⟩ ⟨t1, by omega, by omega⟩ (by omega))
      show (j + 1 + 1) * c s i ≤ c s i * tr c (j + 1) (n - s) (k - i) + c t l * tr c (j + 1) (n - t) (k - l)
      have a1 : c s i ≤ c s i * tr c (j + 1) (n - s) (k - i) := Nat.le_mul_of_pos_right _ h3
      have a2 : tr c (j + 1) (n - t) (k - l) ≤ c t l * tr c (j + 1) (n - t) (k - l) := Nat.le_mul_of_pos_left _ hct
      have a3 : (j + 1 + 1) * c s i = (j + 1) * c s i + c s i := Nat.succ_mul _ _
      omega
/-- no thing there are many of stands in such a row -/
def few (c : Nat → Nat → Nat) (N n k : Nat) : Prop := ∀ s i, 1 ≤ s → s ≤ n → i ≤ k → CC ≤ c s i → tr c N (n - s) (k - i) = 0
theorem tr_few {c c' : Nat → Nat → Nat} (h : ∀ s i, ev (c s i) (c' s i)) : ∀ N n k, few c N n k → tr c (N + 1) n k = tr c' (N + 1) n k := by
  intro N
  induction N with
  | zero =>
    intro n k hf
    refine s2_congr fun s i h1 h2 h3 => ?_
    rcases ev_to (h s i) with e | e
    · rw [e]; rfl
    · rw [hf s i h1 h2 h3 e.1, Nat.mul_zero]
      have := (ev_zero (tr_ev h 0 (n - s) (k - i))).mp (hf s i h1 h2 h3 e.1)
      rw [this, Nat.mul_zero]
  | succ N ih =>
    intro n k hf
    refine s2_congr fun s i h1 h2 h3 => ?_
    rcases ev_to (h s i) with e | e
    · rcases Nat.eq_zero_or_pos (c s i) with z | z
      · rw [← e, z, Nat.zero_mul, Nat.zero_mul]
      · rw [← e, ih (n - s) (k - i) fun t l t1 t2 t3 t4 => ?_]
        have q := hf t l t1 (by omega) (by omega) t4
        have q2 := le_s2 (f := fun s i => c s i * tr c N (n - t - s) (k - l - i)) h1 (show s ≤ n - t by omega) (show i ≤ k - l by omega)
        have q3 : c s i * tr c N (n - t - s) (k - l - i) ≤ 0 := by rw [← q]; exact q2
        have q4 : c s i * tr c N (n - t - s) (k - l - i) = 0 := Nat.le_zero.mp q3
        rcases Nat.mul_eq_zero.mp q4 with q5 | q5
        · omega
        · rw [show n - s - t = n - t - s by omega, show k - i - l = k - l - i by omega]; exact q5
    · have a := hf s i h1 h2 h3 e.1
      have b := (ev_zero (tr_ev h (N + 1) (n - s) (k - i))).mp a
      rw [a, b, Nat.mul_zero, Nat.mul_zero]
/-- one row behind another -/
theorem tr_join {c : Nat → Nat → Nat} : ∀ a n k b m l, tr c a n k * tr c b m l ≤ tr c (a + b) (n + m) (k + l) := by
  intro a
  induction a with
  | zero =>
    intro n k b m l
    show (if n = 0 ∧ k = 0 then 1 else 0) * tr c b m l ≤ _
    by_cases h : n = 0 ∧ k = 0
    · obtain ⟨rfl, rfl⟩ := h
      rw [if_pos ⟨rfl, rfl⟩, Nat.one_mul, Nat.zero_add, Nat.zero_add, Nat.zero_add]; exact Nat.le_refl _
    · rw [if_neg h, Nat.zero_mul]; exact Nat.zero_le _
  | succ a ih =>
    intro n k b m l
    rw [show a + 1 + b = (a + b) + 1 by omega]
    show s2 n k (fun s i => c s i * tr c a (n - s) (k - i)) * tr c b m l ≤ s2 (n + m) (k + l) (fun s i => c s i * tr c (a + b) (n + m - s) (k + l - i))
    have e1 : s2 n k (fun s i => c s i * tr c a (n - s) (k - i)) * tr c b m l = s2 n k (fun s i => c s i * tr c a (n - s) (k - i) * tr c b m l) := by
      unfold s2
      rw [sm_mulr]
      refine sm_congr fun s _ => ?_
      rw [sm_mulr]
    have e2 : s2 n k (fun s i => c s i * tr c a (n - s) (k - i) * tr c b m l) ≤ s2 n k (fun s i => c s i * tr c (a + b) (n + m - s) (k + l - i)) := by
      refine s2_mono fun s i h1 h2 h3 => ?_
      rw [Nat.mul_assoc]
      refine Nat.mul_le_mul_left _ ?_
      have := ih (n - s) (k - i) b m l
      rw [show n - s + m = n + m - s by omega, show k - i + l = k + l - i by omega] at this
      exact this
    have up1 : ∀ (x y : Nat) (f : Nat → Nat), x ≤ y → sm x f ≤ sm y f := by
      intro x y f hxy
      induction y with
      | zero => rw [show x = 0 by omega]; exact Nat.le_refl _
      | succ y ihy =>
        by_cases e : x = y + 1
        · rw [e]; exact Nat.le_refl _
        · exact Nat.le_trans (ihy (by omega)) (Nat.le_add_right _ _)
    rw [e1]
    refine Nat.le_trans e2 ?_
    unfold s2
    exact Nat.le_trans (sm_mono fun s _ => up1 (k + 1) (k + l + 1) _ (by omega)) (up1 n (n + m) _ (by omega))
