/-! picking by number: the first place so that more than v lie up to it -/
def pkS (g : Nat → Nat) : Nat → Nat → Nat → Nat × Nat
  | 0, s, v => (s, v)
  | f + 1, s, v => if v < g s then (s, v) else pkS g f (s + 1) (v - g s)
theorem pq_lt {g : Nat → Nat} {f s v : Nat} (h : v < g s) : pkS g (f + 1) s v = (s, v) := if_pos h
theorem pq_ge {g : Nat → Nat} {f s v : Nat} (h : ¬ v < g s) : pkS g (f + 1) s v = pkS g f (s + 1) (v - g s) := if_neg h
theorem sm_sh {g : Nat → Nat} {s : Nat} (k : Nat) : sm (k + 1) (fun i => g (s + i)) = g s + sm k (fun i => g (s + 1 + i)) := by
  rw [sm_split]
  exact congrArg (g s + ·) (sm_congr fun i _ => by rw [show s + (i + 1) = s + 1 + i by omega])
theorem pk_ok {g : Nat → Nat} : ∀ (f s v : Nat), v < sm f (fun i => g (s + i)) → ∃ t w, pkS g f s v = (t, w) ∧ s ≤ t ∧ t < s + f ∧ w < g t ∧ w + sm (t - s) (fun i => g (s + i)) = v := by
  intro f
  induction f with
  | zero => intro s v h; exact absurd h (Nat.not_lt_zero _)
  | succ f ih =>
    intro s v h
    by_cases c : v < g s
    · refine ⟨s, v, pq_lt c, Nat.le_refl _, by omega, c, ?_⟩
      rw [Nat.sub_self, sm_0, Nat.add_zero]
    · rw [sm_sh] at h
      obtain ⟨t, w, a1, a2, a3, a4, a5⟩ := ih (s + 1) (v - g s) (by omega)
      refine ⟨t, w, (pq_ge c).trans a1, by omega, by omega, a4, ?_⟩
      rw [show t - s = (t - (s + 1)) + 1 by omega, sm_sh]
      omega
theorem pk_ev {g g' : Nat → Nat} : ∀ (f s v : Nat), v < CC → (∀ t, s ≤ t → t < s + f → ev (g t) (g' t)) → pkS g f s v = pkS g' f s v := by
  intro f
  induction f with
  | zero => intro s v _ _; rfl
  | succ f ih =>
    intro s v hv h
    rcases ev_to (h s (Nat.le_refl _) (by omega)) with e | ⟨e1, e2⟩
    · by_cases c : v < g s
      · rw [pq_lt c, pq_lt (e ▸ c)]
      · rw [pq_ge c, pq_ge (e ▸ c), ← e]
        exact ih (s + 1) (v - g s) (by omega) (fun t a b => h t (by omega) (by omega))
    · rw [pq_lt (by omega), pq_lt (by omega)]
theorem pk_more {g : Nat → Nat} : ∀ (f d s v : Nat), v < sm f (fun i => g (s + i)) → pkS g (f + d) s v = pkS g f s v := by
  intro f
  induction f with
  | zero => intro d s v h; exact absurd h (Nat.not_lt_zero _)
  | succ f ih =>
    intro d s v h
    rw [show f + 1 + d = (f + d) + 1 by omega]
    by_cases c : v < g s
    · rw [pq_lt c, pq_lt c]
    · rw [sm_sh] at h
      rw [pq_ge c, pq_ge c]
      exact ih d (s + 1) (v - g s) (by omega)
/-- a quotient, a rest by a number that is told up to the cap -/
theorem ev_div {v b b' : Nat} (h : ev b b') (hv : v < CC) : v / b = v / b' ∧ v % b = v % b' := by
  rcases ev_to h with e | ⟨e1, e2⟩
  · rw [e]; exact ⟨rfl, rfl⟩
  · rw [Nat.div_eq_of_lt (by omega), Nat.div_eq_of_lt (by omega), Nat.mod_eq_of_lt (by omega), Nat.mod_eq_of_lt (by omega)]
    exact ⟨rfl, rfl⟩
/-- both by place: equal up to the place -/
theorem pk_inj {g : Nat → Nat} {f s v v' t w t' w' : Nat} (h : v < sm f (fun i => g (s + i))) (h' : v' < sm f (fun i => g (s + i))) (e : pkS g f s v = (t, w)) (e' : pkS g f s v' = (t', w')) (ht : t = t') (hw : w = w') : v = v' := by
  obtain ⟨a, b, q1, q2, q3, q4, q5⟩ := pk_ok f s v h
  obtain ⟨a', b', r1, r2, r3, r4, r5⟩ := pk_ok f s v' h'
  rw [e] at q1
  rw [e'] at r1
  cases q1
  cases r1
  subst ht
  subst hw
  omega
theorem dm_inj {v v' b : Nat} (h1 : v / b = v' / b) (h2 : v % b = v' % b) : v = v' := by
  have a := Nat.div_add_mod v b
  have a' := Nat.div_add_mod v' b
  rw [h1, h2] at a
  omega
/-! rows of a size: of so many things, or (below 0) of any number -/
def lss (m : Int) : Int := if m < 0 then -1 else m - 1
def rwN (c : Nat → Nat) : Nat → Int → Nat → Nat
  | 0, _, _ => 0
  | f + 1, m, n => if n = 0 then (if m ≤ 0 then 1 else 0) else if m = 0 then 0 else sm n (fun i => c (i + 1) * rwN c f (lss m) (n - (i + 1)))
theorem rwN_0 {c : Nat → Nat} {f : Nat} {m : Int} : rwN c (f + 1) m 0 = if m ≤ 0 then 1 else 0 := if_pos rfl
theorem rwN_z {c : Nat → Nat} {f n : Nat} (hn : 1 ≤ n) : rwN c (f + 1) 0 n = 0 := by
  show (if n = 0 then _ else if (0 : Int) = 0 then 0 else _) = 0
  rw [if_neg (by omega), if_pos rfl]
theorem rwN_s {c : Nat → Nat} {f n : Nat} {m : Int} (hn : 1 ≤ n) (hm : m ≠ 0) : rwN c (f + 1) m n = sm n (fun i => c (i + 1) * rwN c f (lss m) (n - (i + 1))) := by
  show (if n = 0 then _ else if m = 0 then 0 else _) = _
  rw [if_neg (by omega), if_neg hm]
theorem rwN_st {c : Nat → Nat} : ∀ (f g n : Nat) (m : Int), n < f → n < g → rwN c f m n = rwN c g m n := by
  intro f
  induction f with
  | zero => intro g n m h; omega
  | succ f ih =>
    intro g n m hf hg
    obtain ⟨g, rfl⟩ : ∃ g', g = g' + 1 := ⟨g - 1, by omega⟩
    by_cases hn : n = 0
    · subst hn; rw [rwN_0, rwN_0]
    · by_cases hm : m = 0
      · subst hm; rw [rwN_z (by omega), rwN_z (by omega)]
      · rw [rwN_s (by omega) hm, rwN_s (by omega) hm]
        exact sm_congr fun i hi => by rw [ih g (n - (i + 1)) (lss m) (by omega) (by omega)]
def rwW (c : Nat → Nat) (m : Int) (n : Nat) : Nat := rwN c 8 m n
theorem rwW_0 {c : Nat → Nat} {m : Int} : rwW c m 0 = if m ≤ 0 then 1 else 0 := rwN_0
theorem rwW_z {c : Nat → Nat} {n : Nat} (hn : 1 ≤ n) : rwW c 0 n = 0 := rwN_z hn
theorem rwW_s {c : Nat → Nat} {n : Nat} {m : Int} (hn : 1 ≤ n ∧ n ≤ 7) (hm : m ≠ 0) : rwW c m n = sm n (fun i => c (i + 1) * rwW c (lss m) (n - (i + 1))) := by
  unfold rwW
  rw [rwN_s hn.1 hm]
  exact sm_congr fun i hi => by rw [rwN_st 7 8 _ _ (by omega) (by omega)]
theorem rw_tr {C : Nat → Nat → Nat} : ∀ (j n : Nat), n ≤ 7 → rwW (fun s => C s 0) (j : Int) n = tr C j n 0 := by
  intro j
  induction j with
  | zero =>
    intro n hn
    show _ = if n = 0 ∧ 0 = 0 then 1 else 0
    by_cases z : n = 0
    · subst z; rw [rwW_0, if_pos (by omega), if_pos ⟨rfl, rfl⟩]
    · rw [show ((0 : Nat) : Int) = 0 from rfl, rwW_z (by omega), if_neg (by omega)]
  | succ j ih =>
    intro n hn
    show _ = sm n (fun s => sm (0 + 1) (fun i => C (s + 1) i * tr C j (n - (s + 1)) (0 - i)))
    by_cases z : n = 0
    · subst z; rw [rwW_0, if_neg (by omega), sm_0]
    · rw [rwW_s (by omega) (by omega)]
      refine sm_congr fun i hi => ?_
      rw [show lss ((j + 1 : Nat) : Int) = (j : Int) by unfold lss; rw [if_neg (by omega)]; omega, ih (n - (i + 1)) (by omega), sm_s, sm_0, Nat.zero_add]
theorem sm_swap {f : Nat → Nat → Nat} {b : Nat} : ∀ a, sm a (fun i => sm b (f i)) = sm b (fun j => sm a (fun i => f i j)) := by
  intro a
  induction a with
  | zero => exact (sm_zero fun _ _ => rfl).symm
  | succ a ih =>
    rw [sm_s, ih]
    clear ih
    induction b with
    | zero => rfl
    | succ b ihb => rw [sm_s, sm_s, sm_s, ← ihb, sm_s]; omega
theorem sm_mull {n : Nat} {f : Nat → Nat} {a : Nat} : a * sm n f = sm n (fun i => a * f i) := by
  rw [Nat.mul_comm, sm_mulr]
  exact sm_congr fun i _ => Nat.mul_comm _ _
theorem rw_any {C : Nat → Nat → Nat} : ∀ (k n : Nat), n ≤ k → n ≤ 7 → rwW (fun s => C s 0) (-1) n = sm (n + 1) (fun j => tr C j n 0) := by
  intro k
  induction k with
  | zero =>
    intro n hk _
    have : n = 0 := by omega
    subst this
    rw [rwW_0, if_pos (by omega)]; rfl
  | succ k ih =>
    intro n hk hn
    by_cases z : n = 0
    · subst z; rw [rwW_0, if_pos (by omega)]; rfl
    · have e : ∀ j, tr C (j + 1) n 0 = sm n (fun s => C (s + 1) 0 * tr C j (n - (s + 1)) 0) := fun j => sm_congr fun s _ => by
        show sm (0 + 1) (fun i => C (s + 1) i * tr C j (n - (s + 1)) (0 - i)) = _
        rw [sm_s, sm_0, Nat.zero_add]
      rw [rwW_s (by omega) (by omega), sm_split, show tr C 0 n 0 = 0 from if_neg (by omega), Nat.zero_add, sm_congr (fun j _ => e j), sm_swap]
      refine sm_congr fun i hi => ?_
      rw [show lss (-1) = -1 from rfl, ih (n - (i + 1)) (by omega) (by omega), ← sm_mull]
      exact congrArg _ (sm_cut (x := n - (i + 1) + 1) (y := n) (by omega) (fun j a b => tr_small j _ _ (by omega))).symm
