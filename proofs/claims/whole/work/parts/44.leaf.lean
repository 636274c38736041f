/-! leaf functions of both sides -/
theorem gd_t {α : Type} {c : Prop} [Decidable c] {x : Option α} (h : c) : gd c x = x := if_pos h
theorem e_in {v lo hi : Int} (h1 : inL v) (h2 : inL lo) (h3 : inL hi) : mX12_in v lo hi = some (if lo ≤ v ∧ v ≤ hi then 1 else 0) := by
  unfold mX12_in
  rw [gd_t ⟨h1, h2⟩]
  by_cases a : v < lo
  · rw [if_pos a, if_neg (by omega)]
  · rw [if_neg a, gd_t h3]
    by_cases b : hi < v
    · rw [if_pos b, if_neg (by omega)]
    · rw [if_neg b, if_pos (by omega)]
theorem e_has {a k : Int} (h0 : 0 ≤ a) (h1 : a < 2147483648) (hk : 0 ≤ k) (hk2 : k < 31) : mX12_has a k = some (if bt a k then 1 else 0) := by
  unfold mX12_has
  rw [has_bt h0 h1 hk hk2]
  cases bt a k <;> rfl
theorem mul_div_lt {a b m : Int} (hb : 0 < b) (h : m / b < a) : m < a * b := by
  have h1 : m / b + 1 ≤ a := h
  have h2 : (m / b + 1) * b ≤ a * b := Int.mul_le_mul_of_nonneg_right h1 (by omega)
  have h3 : m < (m / b + 1) * b := by
    have := Int.emod_lt_of_pos m hb
    have e := Int.emod_add_mul_ediv m b
    rw [Int.add_mul, Int.one_mul, Int.mul_comm (m / b) b]
    omega
  omega
theorem mul_div_le {a b m : Int} (hb : 0 < b) (h : a ≤ m / b) : a * b ≤ m := by
  have h2 : a * b ≤ (m / b) * b := Int.mul_le_mul_of_nonneg_right h (by omega)
  have := Int.ediv_mul_le m (show b ≠ 0 by omega)
  omega
theorem div_in {a b : Int} (ha : 0 ≤ a ∧ a ≤ 9223372036854775807) (hb : 0 < b) : inL (a / b) := by
  have h1 : 0 ≤ a / b := Int.ediv_nonneg ha.1 (by omega)
  have h2 : a / b ≤ a := Int.ediv_le_self b ha.1
  omega
theorem e_mul {a b m : Int} (ha : 0 ≤ a ∧ a ≤ 9223372036854775807) (hb : 0 ≤ b ∧ b ≤ 9223372036854775807) (hm : 0 ≤ m ∧ m ≤ 9223372036854775807) : mX12_mul a b m = some (min m (a * b)) := by
  unfold mX12_mul
  rw [gd_t (by omega)]
  by_cases a0 : a = 0
  · rw [if_pos a0, a0, Int.zero_mul]; congr 1; omega
  · rw [if_neg a0, gd_t (by omega)]
    by_cases b0 : b = 0
    · rw [if_pos b0, b0, Int.mul_zero]; congr 1; omega
    · rw [if_neg b0, gd_t ⟨hm, by omega⟩, gd_t (div_in hm (by omega))]
      by_cases c : a ≤ m / b
      · rw [if_pos c]
        have := mul_div_le (show 0 < b by omega) c
        congr 1; omega
      · rw [if_neg c]
        have := mul_div_lt (show 0 < b by omega) (show m / b < a by omega)
        congr 1; omega
theorem e_add {a b m : Int} (h : inL (a + b)) (hm : inL m) : mX12_add a b m = some (min m (a + b)) := by
  unfold mX12_add
  rw [gd_t ⟨hm, h⟩]
theorem e_plus {a b : Int} (h : inL (a + b)) : mX11_plus a b = some (min 1000000000000000000 (a + b)) := by
  unfold mX11_plus
  show gd (inL (a + b)) (if a + b ≤ 1000000000000000000 then some (a + b) else some 1000000000000000000) = _
  rw [gd_t h]
  by_cases c : a + b ≤ 1000000000000000000
  · rw [if_pos c, Int.min_eq_right c]
  · rw [if_neg c, Int.min_eq_left (Int.le_of_lt (Int.not_le.mp c))]
theorem e_times {a b : Int} (ha : 0 ≤ a ∧ a ≤ 9223372036854775807) (hb : 0 ≤ b ∧ b ≤ 9223372036854775807) : mX11_times a b = some (min 1000000000000000000 (a * b)) := by
  unfold mX11_times
  rw [gd_t (by omega)]
  by_cases a0 : a ≤ 0
  · rw [if_pos a0, show a = 0 by omega, Int.zero_mul]; rfl
  · rw [if_neg a0, gd_t (by omega)]
    by_cases b0 : 0 < b
    · rw [if_pos b0, gd_t (by omega), gd_t (div_in (by omega) b0)]
      by_cases c : a ≤ 1000000000000000000 / b
      · rw [if_pos c]
        have := mul_div_le b0 c
        congr 1; omega
      · rw [if_neg c]
        have := mul_div_lt b0 (show 1000000000000000000 / b < a by omega)
        congr 1; omega
    · rw [if_neg b0, show b = 0 by omega, Int.mul_zero]; rfl
theorem e_less {n : Int} (h : inI n) : mX12_less n = some (if 0 ≤ n then n - 1 else -1) := by
  unfold mX12_less
  rw [gd_t h]
  by_cases a : 0 ≤ n
  · rw [if_pos a, if_pos a]
  · rw [if_neg a, if_neg a]
theorem e_place {a n k : Int} : mX12_place a n k = some ((a * 8 + n) * 8 + k) := rfl
theorem e_turnsOf {d : Int} (h : 1 ≤ d ∧ d ≤ 7) : mX12_turnsOf d = some (phi d.toNat : Nat) := by
  rcases (show d = 1 ∨ d = 2 ∨ d = 3 ∨ d = 4 ∨ d = 5 ∨ d = 6 ∨ d = 7 by omega) with rfl | rfl | rfl | rfl | rfl | rfl | rfl <;> rfl
theorem FU_ge {n : Nat} (h : n < 2000000) : ∃ m, FU = m + (n + 1) := ⟨1999999 - n, by unfold FU; omega⟩
/-- choosing, step by step -/
theorem cho_step {n k : Nat} (h : k ≤ n) : (k + 1) * cho n (k + 1) = (n - k) * cho n k := by
  have a := cho_ab n k
  rw [cho_s, Nat.mul_add] at a
  have e : (n + 1) * cho n k = (k + 1) * cho n k + (n - k) * cho n k := by rw [← Nat.add_mul]; congr 1; omega
  omega
theorem cho_mono {q i : Nat} : cho (q + i) i ≤ cho (q + (i + 1)) (i + 1) := by
  rw [show q + (i + 1) = (q + i) + 1 by omega, cho_s]
  exact Nat.le_add_right _ _
theorem cho_monom {q : Nat} : ∀ d i : Nat, cho (q + i) i ≤ cho (q + (i + d)) (i + d) := by
  intro d
  induction d with
  | zero => intro i; exact Nat.le_refl _
  | succ d ih => intro i; exact Nat.le_trans (ih i) (by rw [show i + (d + 1) = i + d + 1 by omega]; exact cho_mono)
theorem nx_e {α β : Type} {x : α} {f : α → Option β} : nx x f = f x := rfl
theorem bd1_e {α1 β : Type} {x : Option α1} {f : α1 → Option β} {a : α1} (h : x = some a) : bd1 x f = f a := by rw [h]; rfl
theorem bd2_e {α1 α2 β : Type} {x : Option (α1 × α2)} {f : α1 → α2 → Option β} {a : α1} {b : α2} (h : x = some (a, b)) : bd2 x f = f a b := by rw [h]; rfl
theorem cho_up {q i m : Nat} (h : i ≤ m) : cho (q + i) i ≤ cho (q + m) m := by
  have := cho_monom (q := q) (m - i) i
  rw [show i + (m - i) = m by omega] at this
  exact this
theorem chosen_loop {q m : Nat} (hq : q + m ≤ 1000000000010) (hm : m ≤ 7) : ∀ (d i f : Nat), i + d = m → d < f → cho (q + i) i ≤ 9223372036854775807 → ∃ t y : Int, mX12_chosen_44 ((q + m : Nat) : Int) (m : Int) f ((i + 1 : Nat) : Int) ((cho (q + i) i : Nat) : Int) = some (t, y) ∧ ((t = 1 ∧ y = ((cho (q + m) m : Nat) : Int) ∧ cho (q + m) m ≤ 9223372036854775807) ∨ (t = 0 ∧ CC ≤ cho (q + m) m)) := by
  intro d
  induction d with
  | zero =>
    intro i f hi hf hV
    obtain ⟨g, rfl⟩ : ∃ g, f = g + 1 := ⟨f - 1, by omega⟩
    have e : i = m := by omega
    subst e
    refine ⟨1, _, ?_, Or.inl ⟨rfl, rfl, hV⟩⟩
    rw [mX12_chosen_44, gd_t (by omega), if_pos (by omega)]
  | succ d ih =>
    intro i f hi hf hV
    obtain ⟨g, rfl⟩ : ∃ g, f = g + 1 := ⟨f - 1, by omega⟩
    have hx : (((q + m : Nat) : Int) - (m : Int)) + ((i + 1 : Nat) : Int) = ((q + i + 1 : Nat) : Int) := by omega
    have hW : ((cho (q + i) i : Nat) : Int) * ((q + i + 1 : Nat) : Int) = ((i + 1 : Nat) : Int) * ((cho (q + (i + 1)) (i + 1) : Nat) : Int) := by
      have := cho_ab (q + i) i
      rw [← Int.natCast_mul, ← Int.natCast_mul, Nat.mul_comm (cho (q + i) i), ← this]
      rfl
    rw [mX12_chosen_44, gd_t (by omega), if_neg (by omega), nx_e, hx, gd_t (by omega)]
    by_cases c1 : (1000000000000 : Int) < ((cho (q + i) i : Nat) : Int)
    · refine ⟨0, _, by rw [if_pos c1], Or.inr ⟨rfl, ?_⟩⟩
      have := cho_up (q := q) (show i ≤ m by omega)
      rw [CC_eq]; omega
    · rw [if_neg c1, gd_t (by omega), gd_t (div_in (by omega) (by omega))]
      by_cases c2 : ((cho (q + i) i : Nat) : Int) ≤ 9223372036854775807 / ((q + i + 1 : Nat) : Int)
      · have c3 := mul_div_le (show (0 : Int) < ((q + i + 1 : Nat) : Int) by omega) c2
        have c4 : (0 : Int) ≤ ((cho (q + i) i : Nat) : Int) * ((q + i + 1 : Nat) : Int) := Int.mul_nonneg (by omega) (by omega)
        rw [if_pos c2, gd_t ⟨⟨c4, c3⟩, by omega⟩, nx_e, hW, Int.mul_ediv_cancel_left _ (by omega)]
        have hb : cho (q + (i + 1)) (i + 1) ≤ 9223372036854775807 := by
          rw [hW, ← Int.natCast_mul] at c3
          have : (i + 1) * cho (q + (i + 1)) (i + 1) ≤ 9223372036854775807 := by omega
          exact Nat.le_trans (Nat.le_mul_of_pos_left _ (by omega)) this
        exact ih (i + 1) g (by omega) (by omega) hb
      · have c3 := mul_div_lt (show (0 : Int) < ((q + i + 1 : Nat) : Int) by omega) (show 9223372036854775807 / ((q + i + 1 : Nat) : Int) < ((cho (q + i) i : Nat) : Int) by omega)
        refine ⟨0, _, by rw [if_neg c2], Or.inr ⟨rfl, ?_⟩⟩
        rw [hW, ← Int.natCast_mul] at c3
        have c4 : 9223372036854775807 < (i + 1) * cho (q + (i + 1)) (i + 1) := by omega
        have c5 : (i + 1) * cho (q + (i + 1)) (i + 1) ≤ 7 * cho (q + (i + 1)) (i + 1) := Nat.mul_le_mul_right _ (by omega)
        have := cho_up (q := q) (show i + 1 ≤ m by omega)
        rw [CC_eq]; omega
/-- the reference chooses: what is chosen, up to the cap -/
theorem e_chosen {a m : Nat} {o : Int} (ha : a ≤ 1000000000000) (hm : m ≤ 7) (ho : o = 0 ∨ o = 1) : mX12_chosen (a : Int) (m : Int) o = some ((min CC (ch (o == 1) a m) : Nat) : Int) := by
  obtain ⟨z, hz, hz2⟩ : ∃ z : Int, (gd (inI o) <| if o = 0 then (gd (inI (m : Int)) <| some (((a : Int) + (m : Int)) - 1)) else (some (a : Int))) = some z ∧ z = if o = 0 then (a : Int) + m - 1 else a := by
    rcases ho with rfl | rfl
    · exact ⟨_, by rw [gd_t (by omega), if_pos rfl, gd_t (by omega)], by rw [if_pos rfl]⟩
    · exact ⟨_, by rw [gd_t (by omega), if_neg (by omega)], by rw [if_neg (by omega)]⟩
  unfold mX12_chosen
  rw [bd1_e hz, gd_t (by omega)]
  by_cases m0 : m = 0
  · subst m0
    rw [if_pos (show ((0 : Nat) : Int) = 0 from rfl)]
    unfold ch
    rw [if_pos rfl]; rfl
  · rw [if_neg (by omega), gd_t (by omega)]
    by_cases a0 : a = 0
    · subst a0
      rw [if_pos (show ((0 : Nat) : Int) = 0 from rfl), ch_zero (by omega)]; rfl
    · rw [if_neg (by omega), gd_t (by rcases ho with rfl | rfl <;> simp at hz2 <;> omega)]
      by_cases c : (m : Int) ≤ z
      · rw [if_pos c]
        obtain ⟨q, hq⟩ : ∃ q : Nat, z = ((q + m : Nat) : Int) := ⟨(z - m).toNat, by omega⟩
        have hch : ch (o == 1) a m = cho (q + m) m := by
          unfold ch
          rw [if_neg m0]
          rcases ho with rfl | rfl
          · rw [if_neg (by decide)]
            have : a + m - 1 = q + m := by simp at hz2; omega
            rw [this]
          · rw [if_pos (by decide)]
            have : a = q + m := by simp at hz2; omega
            rw [← this]
        obtain ⟨t, y, h1, h2⟩ := chosen_loop (q := q) (m := m) (by rcases ho with rfl | rfl <;> simp at hz2 <;> omega) hm m 0 FU (by omega) (by unfold FU; omega) (by rw [cho_0]; omega)
        rw [cho_0] at h1
        rw [hq, bd2_e (show mX12_chosen_44 ((q + m : Nat) : Int) (m : Int) FU 1 1 = some (t, y) from h1), hch]
        rcases h2 with ⟨rfl, rfl, h3⟩ | ⟨rfl, h3⟩
        · rw [if_neg (by omega), gd_t (by omega)]
          congr 1
          rw [CC_eq]; omega
        · rw [if_pos rfl, Nat.min_eq_left h3]; rfl
      · rw [if_neg c]
        have hch : ch (o == 1) a m = 0 := by
          unfold ch
          rw [if_neg m0]
          rcases ho with rfl | rfl
          · simp at hz2; omega
          · rw [if_pos (by decide)]
            simp at hz2
            exact cho_lt (by omega)
        rw [hch]; rfl
theorem cho_pw : ∀ n k : Nat, cho n k ≤ 2 ^ n := by
  intro n
  induction n with
  | zero => intro k; cases k <;> simp [cho]
  | succ n ih =>
    intro k
    cases k with
    | zero => rw [cho_0]; exact Nat.one_le_two_pow
    | succ k => rw [cho_s, Nat.pow_succ]; have := ih k; have := ih (k + 1); omega
theorem cho_grow {n k : Nat} (h : 2 * k + 1 ≤ n) : cho n k ≤ cho n (k + 1) := by
  have a := cho_step (n := n) (k := k) (by omega)
  have b : (k + 1) * cho n k ≤ (n - k) * cho n k := Nat.mul_le_mul_right _ (by omega)
  rw [← a] at b
  exact Nat.le_of_mul_le_mul_left b (by omega)
theorem cho_grows {n : Nat} (hn : 14 ≤ n) : ∀ d k : Nat, k + d ≤ 7 → cho n k ≤ cho n (k + d) := by
  intro d
  induction d with
  | zero => intro k _; exact Nat.le_refl _
  | succ d ih => intro k h; exact Nat.le_trans (ih k (by omega)) (cho_grow (by omega))
/-- one more is chosen -/
theorem ch_next {once : Bool} {x i : Nat} (h : if once then i ≤ x else 1 ≤ x + i) : (i + 1) * ch once x (i + 1) = (if once then x - i else x + i) * ch once x i := by
  unfold ch
  rw [if_neg (by omega)]
  cases once with
  | true =>
    simp only [if_true] at h ⊢
    by_cases z : i = 0
    · subst z; rw [if_pos rfl]; have := cho_step (n := x) (k := 0) (by omega); rw [cho_0] at this; exact this
    · rw [if_neg z]; exact cho_step h
  | false =>
    simp only [Bool.false_eq_true, if_false] at h ⊢
    by_cases z : i = 0
    · subst z; rw [if_pos rfl, show x + (0 + 1) - 1 = x by omega, cho_1]; omega
    · rw [if_neg z]
      obtain ⟨n, hn⟩ : ∃ n, x + i = n + 1 := ⟨x + i - 1, by omega⟩
      have := cho_ab n i
      rw [show x + (i + 1) - 1 = n + 1 by omega, show x + i - 1 = n by omega, hn]
      exact this
theorem ch_big {once : Bool} {x i m : Nat} (hx : 1 ≤ x) (hm : m ≤ 7) (hi : i ≤ m) (hb : 100000000000000000 ≤ ch once x i) : CC ≤ ch once x m := by
  unfold ch at hb ⊢
  by_cases z : i = 0
  · rw [if_pos z] at hb; omega
  · rw [if_neg z] at hb
    rw [if_neg (by omega)]
    cases once with
    | true =>
      simp only [if_true] at hb ⊢
      by_cases h14 : 14 ≤ x
      · have := cho_grows h14 (m - i) i (by omega)
        rw [show i + (m - i) = m by omega] at this
        rw [CC_eq]; omega
      · have := cho_pw x i
        have : 2 ^ x ≤ 2 ^ 13 := Nat.pow_le_pow_right (by decide) (by omega)
        omega
    | false =>
      simp only [Bool.false_eq_true, if_false] at hb ⊢
      have := cho_up (q := x - 1) (show i ≤ m by omega)
      rw [show x - 1 + i = x + i - 1 by omega, show x - 1 + m = x + m - 1 by omega] at this
      rw [CC_eq]; omega
theorem picks_loop {x m : Nat} {o : Int} (hx : x ≤ 1000000000000000000) (hm : m ≤ 7) (ho : o = 0 ∨ o = 1) : ∀ (d i f : Nat), i + d = m → d < f → ch (o == 1) x i ≤ 1000000000000000000 → ∃ t y : Int, mX11_picks_6 (x : Int) (m : Int) o f ((i + 1 : Nat) : Int) ((ch (o == 1) x i : Nat) : Int) = some (t, y) ∧ ((t = 2 ∧ y = ((ch (o == 1) x m : Nat) : Int) ∧ ch (o == 1) x m ≤ 1000000000000000000) ∨ (t = 1 ∧ CC ≤ ch (o == 1) x m) ∨ (t = 0 ∧ ch (o == 1) x m = 0)) := by
  intro d
  induction d with
  | zero =>
    intro i f hi hf hV
    obtain ⟨g, rfl⟩ : ∃ g, f = g + 1 := ⟨f - 1, by omega⟩
    have e : i = m := by omega
    subst e
    refine ⟨2, _, ?_, Or.inl ⟨rfl, rfl, hV⟩⟩
    rw [mX11_picks_6, gd_t (by omega), if_pos (by omega)]
  | succ d ih =>
    intro i f hi hf hV
    obtain ⟨g, rfl⟩ : ∃ g, f = g + 1 := ⟨f - 1, by omega⟩
    obtain ⟨z, hz, hz2⟩ : ∃ z : Int, (gd (inI o) <| if o = 0 then (some (((x : Int) + ((i + 1 : Nat) : Int)) - 1)) else (some (((x : Int) - ((i + 1 : Nat) : Int)) + 1))) = some z ∧ z = if o = 0 then (x : Int) + i else x - i := by
      rcases ho with rfl | rfl
      · exact ⟨_, by rw [gd_t (by omega), if_pos rfl], by rw [if_pos rfl]; omega⟩
      · exact ⟨_, by rw [gd_t (by omega), if_neg (by omega)], by rw [if_neg (by omega)]; omega⟩
    rw [mX11_picks_6, gd_t (by omega), if_neg (by omega), bd1_e hz, gd_t (by rcases ho with rfl | rfl <;> simp at hz2 <;> omega)]
    by_cases c0 : 0 < z
    · obtain ⟨n, hn⟩ : ∃ n : Nat, z = (n : Int) := ⟨z.toNat, by omega⟩
      have hnx : (i + 1) * ch (o == 1) x (i + 1) = n * ch (o == 1) x i := by
        have := ch_next (once := (o == 1)) (x := x) (i := i) (by rcases ho with rfl | rfl <;> simp at hz2 ⊢ <;> omega)
        rw [this]
        congr 1
        rcases ho with rfl | rfl <;> simp at hz2 ⊢ <;> omega
      have hW : ((ch (o == 1) x i : Nat) : Int) * z = ((i + 1 : Nat) : Int) * ((ch (o == 1) x (i + 1) : Nat) : Int) := by
        rw [hn, ← Int.natCast_mul, ← Int.natCast_mul, Nat.mul_comm (ch (o == 1) x i), ← hnx]
      rw [if_pos c0, gd_t (by rcases ho with rfl | rfl <;> simp at hz2 <;> omega), gd_t ⟨by omega, div_in (by omega) c0⟩]
      by_cases c2 : ((ch (o == 1) x i : Nat) : Int) ≤ 1000000000000000000 / z
      · have c3 := mul_div_le c0 c2
        have c4 : (0 : Int) ≤ ((ch (o == 1) x i : Nat) : Int) * z := Int.mul_nonneg (by omega) (by omega)
        rw [if_pos c2, gd_t ⟨⟨c4, by omega⟩, by omega⟩, nx_e, hW, Int.mul_ediv_cancel_left _ (by omega)]
        have hb : ch (o == 1) x (i + 1) ≤ 1000000000000000000 := by
          rw [hW, ← Int.natCast_mul] at c3
          have : (i + 1) * ch (o == 1) x (i + 1) ≤ 1000000000000000000 := by omega
          exact Nat.le_trans (Nat.le_mul_of_pos_left _ (by omega)) this
        exact ih (i + 1) g (by omega) (by omega) hb
      · have c3 := mul_div_lt c0 (show 1000000000000000000 / z < ((ch (o == 1) x i : Nat) : Int) by omega)
        refine ⟨1, _, by rw [if_neg c2], Or.inr (Or.inl ⟨rfl, ?_⟩)⟩
        rw [hW, ← Int.natCast_mul] at c3
        have c4 : 1000000000000000000 < (i + 1) * ch (o == 1) x (i + 1) := by omega
        have c5 : (i + 1) * ch (o == 1) x (i + 1) ≤ 7 * ch (o == 1) x (i + 1) := Nat.mul_le_mul_right _ (by omega)
        have hx1 : 1 ≤ x := Nat.one_le_iff_ne_zero.mpr fun e0 => by
          subst e0
          by_cases i0 : i = 0
          · subst i0; rcases ho with rfl | rfl <;> simp at hz2 <;> omega
          · rw [ch_zero (by omega)] at c2
            exact c2 (Int.ediv_nonneg (by omega) (by omega))
        exact ch_big (i := i + 1) hx1 hm (by omega) (by omega)
    · refine ⟨0, _, by rw [if_neg c0], Or.inr (Or.inr ⟨rfl, ?_⟩)⟩
      unfold ch
      rw [if_neg (by omega)]
      rcases ho with rfl | rfl
      · simp at hz2 ⊢
        exact cho_lt (by omega)
      · simp at hz2 ⊢
        exact cho_lt (by omega)
/-- the class picks: what is chosen, alike up to the cap -/
theorem e_picks {x m : Nat} {o : Int} (hx : x ≤ 1000000000000000000) (hm : m ≤ 7) (ho : o = 0 ∨ o = 1) : ∃ P : Nat, mX11_picks (x : Int) (m : Int) o = some (P : Int) ∧ P ≤ 1000000000000000000 ∧ ev P (ch (o == 1) x m) ∧ (P = ch (o == 1) x m ∨ CC ≤ ch (o == 1) x m) := by
  obtain ⟨t, y, h1, h2⟩ := picks_loop hx hm ho m 0 FU (by omega) (by unfold FU; omega) (by unfold ch; rw [if_pos rfl]; omega)
  have e0 : ch (o == 1) x 0 = 1 := by unfold ch; rw [if_pos rfl]
  rw [e0] at h1
  unfold mX11_picks
  rw [bd2_e (show mX11_picks_6 (x : Int) (m : Int) o FU 1 1 = some (t, y) from h1)]
  rcases h2 with ⟨rfl, rfl, h3⟩ | ⟨rfl, h3⟩ | ⟨rfl, h3⟩
  · exact ⟨_, by rw [if_neg (by omega), if_neg (by omega)], h3, ev.rf, Or.inl rfl⟩
  · exact ⟨1000000000000000000, by rw [if_neg (by omega), if_pos rfl]; rfl, Nat.le_refl _, ev_of (Or.inr ⟨by decide, h3⟩), Or.inr h3⟩
  · exact ⟨0, by rw [if_pos rfl]; rfl, by omega, by rw [h3]; exact ev.rf, Or.inl h3.symm⟩
