/-! kinds that one leads to -/
def clI (D : Nat → Nat) : Nat → Nat → Nat
  | 0, a => a
  | n + 1, a => if (clI D n a).testBit n then clI D n a ||| D n else clI D n a
def clR (D : Nat → Nat) (n : Nat) : Nat → Nat → Nat
  | 0, a => a
  | r + 1, a => clI D n (clR D n r a)
def clo (D : Nat → Nat) (n u : Nat) : Nat := clR D n 6 (D u)
theorem clI_lt {D : Nat → Nat} {B : Nat} : ∀ n a, (∀ j, j < n → D j < 2 ^ B) → a < 2 ^ B → clI D n a < 2 ^ B := by
  intro n
  induction n with
  | zero => intro a _ h; exact h
  | succ n ih =>
    intro a hD h
    have := ih a (fun j hj => hD j (by omega)) h
    unfold clI
    split
    · exact Nat.or_lt_two_pow this (hD n (by omega))
    · exact this
theorem clR_lt {D : Nat → Nat} {B n : Nat} (hD : ∀ j, j < n → D j < 2 ^ B) : ∀ r a, a < 2 ^ B → clR D n r a < 2 ^ B := by
  intro r
  induction r with
  | zero => intro a h; exact h
  | succ r ih => intro a h; exact clI_lt n _ hD (ih a h)
/-- kinds that there are not are never met -/
theorem clI_ext {D : Nat → Nat} {n : Nat} (hD : ∀ j, j < n → D j < 2 ^ n) : ∀ m a, a < 2 ^ n → clI D (n + m) a = clI D n a := by
  intro m
  induction m with
  | zero => intro a _; rfl
  | succ m ih =>
    intro a ha
    show (if (clI D (n + m) a).testBit (n + m) then _ else clI D (n + m) a) = _
    rw [ih a ha, Nat.testBit_lt_two_pow (Nat.lt_of_lt_of_le (clI_lt n a hD ha) (Nat.pow_le_pow_right (by decide) (by omega)))]
    rfl
theorem clo_6 {D : Nat → Nat} {n u : Nat} (hn : n ≤ 6) (hD : ∀ j, j < n → D j < 2 ^ n) (hu : u < n) : clo D 6 u = clo D n u := by
  have key : ∀ r a, a < 2 ^ n → clR D 6 r a = clR D n r a := by
    intro r
    induction r with
    | zero => intro a _; rfl
    | succ r ih =>
      intro a ha
      show clI D 6 (clR D 6 r a) = clI D n (clR D n r a)
      rw [ih a ha]
      have := clI_ext hD (6 - n) (clR D n r a) (clR_lt hD r a ha)
      rw [show n + (6 - n) = 6 by omega] at this
      exact this
  exact key 6 _ (hD u hu)
/-- bits -/
def sub (a b : Nat) : Prop := ∀ j, a.testBit j = true → b.testBit j = true
theorem clI_sub {D : Nat → Nat} : ∀ n a, sub a (clI D n a) := by
  intro n
  induction n with
  | zero => intro a j h; exact h
  | succ n ih =>
    intro a j h
    have := ih a j h
    unfold clI
    split
    · rw [Nat.testBit_or, this]; rfl
    · exact this
theorem clI_in {D : Nat → Nat} {C : Nat} (hC : ∀ j, C.testBit j = true → sub (D j) C) : ∀ n a, sub a C → sub (clI D n a) C := by
  intro n
  induction n with
  | zero => intro a h; exact h
  | succ n ih =>
    intro a h j hj
    unfold clI at hj
    by_cases c : (clI D n a).testBit n = true
    · rw [if_pos c, Nat.testBit_or, Bool.or_eq_true] at hj
      rcases hj with hj | hj
      · exact ih a h j hj
      · exact hC n (ih a h n c) j hj
    · rw [if_neg c] at hj
      exact ih a h j hj
theorem clo_in {D : Nat → Nat} {n u C : Nat} (hC : ∀ j, C.testBit j = true → sub (D j) C) (hu : sub (D u) C) : sub (clo D n u) C := by
  have key : ∀ r, sub (clR D n r (D u)) C := by
    intro r
    induction r with
    | zero => exact hu
    | succ r ih => exact clI_in hC n _ ih
  exact key 6
/-- a round that adds nothing has nothing to add -/
theorem clI_fix {D : Nat → Nat} : ∀ n a, clI D n a = a → ∀ j, j < n → a.testBit j = true → sub (D j) a := by
  intro n
  induction n with
  | zero => intro a _ j h; omega
  | succ n ih =>
    intro a h j hj hb
    have s1 := clI_sub (D := D) n a
    have e : clI D n a = a := by
      refine Nat.eq_of_testBit_eq fun i => ?_
      cases hi : (clI D n a).testBit i
      · cases ha : a.testBit i
        · rfl
        · rw [s1 i ha] at hi; cases hi
      · have : (clI D (n + 1) a).testBit i = true := by
          unfold clI
          split
          · rw [Nat.testBit_or, hi]; rfl
          · exact hi
        rw [h] at this
        exact this.symm
    by_cases w : j = n
    · subst w
      intro i hi
      have : (clI D (j + 1) a).testBit i = true := by
        unfold clI
        rw [e, if_pos hb, Nat.testBit_or, hi, Bool.or_true]
      rw [h] at this; exact this
    · exact ih a e j (by omega) hb
def pc (n a : Nat) : Nat := sm n (fun j => if a.testBit j then 1 else 0)
theorem pc_le {n a : Nat} : pc n a ≤ n := by
  have : pc n a ≤ n * 1 := sm_le fun i _ => by split <;> omega
  omega
theorem pc_lt {n a b : Nat} (h : sub a b) {j : Nat} (hj : j < n) (h1 : a.testBit j = false) (h2 : b.testBit j = true) : pc n a < pc n b := by
  refine sm_lt (j := j) (fun i _ => ?_) hj ?_
  · cases ha : a.testBit i
    · simp
    · rw [h i ha]; exact Nat.le_refl _
  · rw [h1, h2]; decide
theorem sub_lt {n a b : Nat} (h : sub a b) (hb : b < 2 ^ n) (hne : a ≠ b) : pc n a < pc n b := by
  have : ∃ j, a.testBit j ≠ b.testBit j := Classical.byContradiction fun w => hne (Nat.eq_of_testBit_eq fun j => Classical.byContradiction fun v => w ⟨j, v⟩)
  obtain ⟨j, hj⟩ := this
  have h2 : b.testBit j = true := by
    cases hb' : b.testBit j
    · cases ha : a.testBit j
      · rw [ha, hb'] at hj; exact absurd rfl hj
      · rw [h j ha] at hb'; cases hb'
    · rfl
  have h1 : a.testBit j = false := by
    cases ha : a.testBit j
    · rfl
    · rw [ha, h2] at hj; exact absurd rfl hj
  have hjn : j < n := Nat.lt_of_not_le fun w => by
    rw [Nat.testBit_lt_two_pow (Nat.lt_of_lt_of_le hb (Nat.pow_le_pow_right (by decide) w))] at h2; cases h2
  exact pc_lt h hjn h1 h2
/-- what is met is closed -/
theorem clo_closed {D : Nat → Nat} {n u : Nat} (hn : n ≤ 6) (hD : ∀ j, j < n → D j < 2 ^ n) (hu : u < n) : ∀ j, (clo D n u).testBit j = true → sub (D j) (clo D n u) := by
  have lt : ∀ r, clR D n r (D u) < 2 ^ n := fun r => clR_lt hD r _ (hD u hu)
  have key : ∀ r, (∀ j, j < n → (clR D n r (D u)).testBit j = true → sub (D j) (clR D n r (D u))) ∨ r ≤ pc n (clR D n r (D u)) := by
    intro r
    induction r with
    | zero => exact Or.inr (Nat.zero_le _)
    | succ r ih =>
      by_cases e : clI D n (clR D n r (D u)) = clR D n r (D u)
      · left
        show ∀ j, j < n → (clI D n (clR D n r (D u))).testBit j = true → sub (D j) (clI D n (clR D n r (D u)))
        rw [e]
        exact clI_fix n _ e
      · have l := sub_lt (clI_sub n (clR D n r (D u))) (lt (r + 1)) (fun x => e x.symm)
        rcases ih with ih | ih
        · exfalso
          apply e
          have s1 := clI_sub (D := D) n (clR D n r (D u))
          have s2 : sub (clI D n (clR D n r (D u))) (clR D n r (D u)) := clI_in (fun j hj => ih j (Nat.lt_of_not_le fun w => by
            rw [Nat.testBit_lt_two_pow (Nat.lt_of_lt_of_le (lt r) (Nat.pow_le_pow_right (by decide) w))] at hj; cases hj) hj) n _ (fun _ h => h)
          refine Nat.eq_of_testBit_eq fun i => ?_
          cases ha : (clR D n r (D u)).testBit i
          · cases hb : (clI D n (clR D n r (D u))).testBit i
            · rfl
            · rw [s2 i hb] at ha; cases ha
          · exact s1 i ha
        · exact Or.inr (by show r + 1 ≤ pc n (clI D n (clR D n r (D u))); omega)
  have jn : ∀ j, (clo D n u).testBit j = true → j < n := fun j hj => Nat.lt_of_not_le fun w => by
    unfold clo at hj
    rw [Nat.testBit_lt_two_pow (Nat.lt_of_lt_of_le (lt 6) (Nat.pow_le_pow_right (by decide) w))] at hj; cases hj
  intro j hj
  rcases key 6 with k | k
  · exact k j (jn j hj) hj
  · -- all kinds are met
    have full : ∀ i, i < n → (clo D n u).testBit i = true := fun i hi => by
      cases hb : (clo D n u).testBit i
      · exfalso
        have : pc n (clR D n 6 (D u)) < n := by
          have : pc n (clR D n 6 (D u)) < sm n (fun _ => 1) := sm_lt (j := i) (fun x _ => by split <;> omega) hi (by rw [show (clR D n 6 (D u)).testBit i = false from hb]; decide)
          have e1 : ∀ m, sm m (fun _ => 1) = m := fun m => by
            induction m with
            | zero => rfl
            | succ m ih => rw [sm_s, ih]
          rw [e1] at this; exact this
        omega
      · rfl
    intro i hi
    exact full i (Nat.lt_of_not_le fun w => by
      rw [Nat.testBit_lt_two_pow (Nat.lt_of_lt_of_le (hD j (jn j hj)) (Nat.pow_le_pow_right (by decide) w))] at hi; cases hi)
/-- if each of some kinds leads to one of them, one leads to itself -/
theorem clo_cycle {D : Nat → Nat} {n : Nat} (hn : n ≤ 6) (hD : ∀ j, j < n → D j < 2 ^ n) {U : Nat → Prop} (hU : ∀ u, U u → u < n ∧ ∃ v, U v ∧ (D u).testBit v = true) (hne : ∃ u, U u) : ∃ u, U u ∧ (clo D n u).testBit u = true := by
  have key : ∀ N u, U u → pc n (clo D n u) ≤ N → ∃ u, U u ∧ (clo D n u).testBit u = true := by
    intro N
    induction N with
    | zero =>
      intro u hu hp
      obtain ⟨u1, v, v1, v2⟩ := hU u hu
      obtain ⟨w1, -⟩ := hU v v1
      have c := clo_closed hn hD u1
      have inn : sub (D u) (clo D n u) := by
        intro j hj
        have s : ∀ r, sub (D u) (clR D n r (D u)) := by
          intro r
          induction r with
          | zero => exact fun _ h => h
          | succ r ih => exact fun j h => clI_sub n _ j (ih j h)
        exact s 6 j hj
      have := pc_lt (n := n) (a := 0) (b := clo D n u) (fun j h => by rw [Nat.zero_testBit] at h; cases h) w1 (Nat.zero_testBit _) (inn v v2)
      omega
    | succ N ih =>
      intro u hu hp
      obtain ⟨u1, v, v1, v2⟩ := hU u hu
      obtain ⟨w1, -⟩ := hU v v1
      have c := clo_closed hn hD u1
      have inn : sub (D u) (clo D n u) := by
        have s : ∀ r, sub (D u) (clR D n r (D u)) := by
          intro r
          induction r with
          | zero => exact fun _ h => h
          | succ r ih => exact fun j h => clI_sub n _ j (ih j h)
        exact s 6
      cases hb : (clo D n v).testBit v
      · have l := pc_lt (n := n) (clo_in (n := n) c (c v (inn v v2))) w1 hb (inn v v2)
        exact ih v v1 (by omega)
      · exact ⟨v, v1, hb⟩
  obtain ⟨u, hu⟩ := hne
  exact key _ u hu (Nat.le_refl _)
theorem e_closure38 {S : St} {k : Nat} (hN : nb S 38 6 B30) (hk : k < 6) : mX3_closure_38 S (k : Int) = some ((clo (tb S 38) 6 k : Nat) : Int) := by
  have hD : ∀ j, j < 6 → tb S 38 j < 2 ^ 30 := fun j hj => nb30 hN hj
  have in15 : ∀ (d i f a : Nat) (v3 : Int), i + d = 6 → d < f → a < 2 ^ 30 → mX3_closure_38_15 S v3 f (i : Int) ((clI (tb S 38) i a : Nat) : Int) = some ((clI (tb S 38) 6 a : Nat) : Int) := by
    intro d
    induction d with
    | zero =>
      intro i f a v3 hi hf ha
      obtain ⟨g, rfl⟩ : ∃ g, f = g + 1 := ⟨f - 1, by omega⟩
      rw [mX3_closure_38_15, gd_t (by omega), if_pos (by omega), show i = 6 by omega]
    | succ d ih =>
      intro i f a v3 hi hf ha
      obtain ⟨g, rfl⟩ : ∃ g, f = g + 1 := ⟨f - 1, by omega⟩
      have b := clI_lt i a (fun j hj => hD j (by omega)) ha
      have l := ih (i + 1) g a v3 (by omega) (by omega) ha
      rw [show ((i + 1 : Nat) : Int) = (i : Int) + 1 by omega] at l
      have v := (hN.at (show i < 6 by omega)).1
      rw [mX3_closure_38_15, gd_t (by omega), if_neg (by omega), has_bt (by omega) (by omega) (by omega) (by omega), bt_nat]
      unfold clI at l
      cases hb : (clI (tb S 38) i a).testBit i with
      | true =>
        rw [hb, if_pos rfl] at l
        rw [if_pos rfl, gd_t (by decide), if_neg (by decide), gd_t (by omega), nx_e, v, orr_nat (Nat.lt_trans b (by decide)) (Nat.lt_trans (hD i (by omega)) (by decide))]
        exact l
      | false =>
        rw [hb, if_neg (by decide)] at l
        rw [if_neg (by decide), gd_t (by decide), if_pos rfl]
        exact l
  have in6 : ∀ (d r f : Nat), r + d = 6 → d < f → mX3_closure_38_6 S f (r : Int) ((clR (tb S 38) 6 r (tb S 38 k) : Nat) : Int) = some ((clo (tb S 38) 6 k : Nat) : Int) := by
    intro d
    induction d with
    | zero =>
      intro r f hi hf
      obtain ⟨g, rfl⟩ : ∃ g, f = g + 1 := ⟨f - 1, by omega⟩
      rw [mX3_closure_38_6, gd_t (by omega), if_pos (by omega), show r = 6 by omega]
      rfl
    | succ d ih =>
      intro r f hi hf
      obtain ⟨g, rfl⟩ : ∃ g, f = g + 1 := ⟨f - 1, by omega⟩
      have b := clR_lt (n := 6) (D := tb S 38) (fun j hj => hD j hj) r (tb S 38 k) (hD k hk)
      have l := ih (r + 1) g (by omega) (by omega)
      rw [show ((r + 1 : Nat) : Int) = (r : Int) + 1 by omega] at l
      have s := in15 6 0 FU (clR (tb S 38) 6 r (tb S 38 k)) (r : Int) (by omega) (by unfold FU; omega) b
      rw [mX3_closure_38_6, gd_t (by omega), if_neg (by omega), bd1_e (show mX3_closure_38_15 S (r : Int) FU 0 ((clR (tb S 38) 6 r (tb S 38 k) : Nat) : Int) = _ from s)]
      exact l
  have l := in6 6 0 FU (by omega) (by unfold FU; omega)
  unfold mX3_closure_38
  rw [gd_t (by omega), nx_e, (hN.at hk).1, bd1_e (show mX3_closure_38_6 S FU 0 ((tb S 38 k : Nat) : Int) = _ from l)]
theorem e_closure30 {S : St} {k : Nat} (hN : nb S 30 6 B30) (hk : k < 6) : mX3_closure_30 S (k : Int) = some ((clo (tb S 30) 6 k : Nat) : Int) := by
  have hD : ∀ j, j < 6 → tb S 30 j < 2 ^ 30 := fun j hj => nb30 hN hj
  have in15 : ∀ (d i f a : Nat) (v3 : Int), i + d = 6 → d < f → a < 2 ^ 30 → mX3_closure_30_15 S v3 f (i : Int) ((clI (tb S 30) i a : Nat) : Int) = some ((clI (tb S 30) 6 a : Nat) : Int) := by
    intro d
    induction d with
    | zero =>
      intro i f a v3 hi hf ha
      obtain ⟨g, rfl⟩ : ∃ g, f = g + 1 := ⟨f - 1, by omega⟩
      rw [mX3_closure_30_15, gd_t (by omega), if_pos (by omega), show i = 6 by omega]
    | succ d ih =>
      intro i f a v3 hi hf ha
      obtain ⟨g, rfl⟩ : ∃ g, f = g + 1 := ⟨f - 1, by omega⟩
      have b := clI_lt i a (fun j hj => hD j (by omega)) ha
      have l := ih (i + 1) g a v3 (by omega) (by omega) ha
      rw [show ((i + 1 : Nat) : Int) = (i : Int) + 1 by omega] at l
      have v := (hN.at (show i < 6 by omega)).1
      rw [mX3_closure_30_15, gd_t (by omega), if_neg (by omega), has_bt (by omega) (by omega) (by omega) (by omega), bt_nat]
      unfold clI at l
      cases hb : (clI (tb S 30) i a).testBit i with
      | true =>
        rw [hb, if_pos rfl] at l
        rw [if_pos rfl, gd_t (by decide), if_neg (by decide), gd_t (by omega), nx_e, v, orr_nat (Nat.lt_trans b (by decide)) (Nat.lt_trans (hD i (by omega)) (by decide))]
        exact l
      | false =>
        rw [hb, if_neg (by decide)] at l
        rw [if_neg (by decide), gd_t (by decide), if_pos rfl]
        exact l
  have in6 : ∀ (d r f : Nat), r + d = 6 → d < f → mX3_closure_30_6 S f (r : Int) ((clR (tb S 30) 6 r (tb S 30 k) : Nat) : Int) = some ((clo (tb S 30) 6 k : Nat) : Int) := by
    intro d
    induction d with
    | zero =>
      intro r f hi hf
      obtain ⟨g, rfl⟩ : ∃ g, f = g + 1 := ⟨f - 1, by omega⟩
      rw [mX3_closure_30_6, gd_t (by omega), if_pos (by omega), show r = 6 by omega]
      rfl
    | succ d ih =>
      intro r f hi hf
      obtain ⟨g, rfl⟩ : ∃ g, f = g + 1 := ⟨f - 1, by omega⟩
      have b := clR_lt (n := 6) (D := tb S 30) (fun j hj => hD j hj) r (tb S 30 k) (hD k hk)
      have l := ih (r + 1) g (by omega) (by omega)
      rw [show ((r + 1 : Nat) : Int) = (r : Int) + 1 by omega] at l
      have s := in15 6 0 FU (clR (tb S 30) 6 r (tb S 30 k)) (r : Int) (by omega) (by unfold FU; omega) b
      rw [mX3_closure_30_6, gd_t (by omega), if_neg (by omega), bd1_e (show mX3_closure_30_15 S (r : Int) FU 0 ((clR (tb S 30) 6 r (tb S 30 k) : Nat) : Int) = _ from s)]
      exact l
  have l := in6 6 0 FU (by omega) (by unfold FU; omega)
  unfold mX3_closure_30
  rw [gd_t (by omega), nx_e, (hN.at hk).1, bd1_e (show mX3_closure_30_6 S FU 0 ((tb S 30 k : Nat) : Int) = _ from l)]
