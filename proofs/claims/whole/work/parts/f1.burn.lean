/-! the first of all turns; Burnside's count -/
def plt (a b : Nat × Nat) : Bool := decide (a.1 < b.1 ∨ (a.1 = b.1 ∧ a.2 < b.2))
def lxt : List (Nat × Nat) → List (Nat × Nat) → Bool
  | a :: l, b :: m => plt a b || (decide (a = b) && lxt l m)
  | [], _ => false
  | _ :: _, [] => false
theorem lxt_c {a b : Nat × Nat} {l m : List (Nat × Nat)} : lxt (a :: l) (b :: m) = true ↔ (plt a b = true ∨ (a = b ∧ lxt l m = true)) := by
  show (plt a b || (decide (a = b) && lxt l m)) = true ↔ _
  rw [Bool.or_eq_true, Bool.and_eq_true, decide_eq_true_iff]
theorem plt_i {a b : Nat × Nat} : plt a b = true ↔ (a.1 < b.1 ∨ (a.1 = b.1 ∧ a.2 < b.2)) := decide_eq_true_iff
theorem p_eq {a b : Nat × Nat} (h1 : a.1 = b.1) (h2 : a.2 = b.2) : a = b := by
  cases a; cases b; cases h1; cases h2; rfl
theorem lxt_irr : ∀ l : List (Nat × Nat), ¬ lxt l l = true := by
  intro l
  induction l with
  | nil => intro h; cases h
  | cons a l ih =>
    intro h
    rcases lxt_c.mp h with q | q
    · have := plt_i.mp q; omega
    · exact ih q.2
theorem lxt_tri : ∀ l m : List (Nat × Nat), l.length = m.length → lxt l m = true ∨ l = m ∨ lxt m l = true := by
  intro l
  induction l with
  | nil =>
    intro m h
    cases m with
    | nil => exact Or.inr (Or.inl rfl)
    | cons b m => cases h
  | cons a l ih =>
    intro m h
    cases m with
    | nil => cases h
    | cons b m =>
      by_cases c1 : plt a b = true
      · exact Or.inl (lxt_c.mpr (Or.inl c1))
      · by_cases c2 : plt b a = true
        · exact Or.inr (Or.inr (lxt_c.mpr (Or.inl c2)))
        · rw [plt_i] at c1 c2
          have e : a = b := p_eq (by omega) (by omega)
          subst e
          rcases ih m (by rw [List.length_cons, List.length_cons] at h; omega) with q | q | q
          · exact Or.inl (lxt_c.mpr (Or.inr ⟨rfl, q⟩))
          · exact Or.inr (Or.inl (by rw [q]))
          · exact Or.inr (Or.inr (lxt_c.mpr (Or.inr ⟨rfl, q⟩)))
theorem lxt_tr : ∀ l m n : List (Nat × Nat), lxt l m = true → lxt m n = true → lxt l n = true := by
  intro l
  induction l with
  | nil => intro m n h; cases m <;> cases h
  | cons a l ih =>
    intro m n h k
    cases m with
    | nil => cases h
    | cons b m =>
      cases n with
      | nil => cases k
      | cons d n =>
        rcases lxt_c.mp h with q | q <;> rcases lxt_c.mp k with r | r
        · have := plt_i.mp q
          have := plt_i.mp r
          exact lxt_c.mpr (Or.inl (plt_i.mpr (by omega)))
        · rw [← r.1]; exact lxt_c.mpr (Or.inl q)
        · rw [q.1]; exact lxt_c.mpr (Or.inl r)
        · rw [q.1, r.1]; exact lxt_c.mpr (Or.inr ⟨rfl, ih m n q.2 r.2⟩)
theorem rot_mod {s t : Nat} {l : List (Nat × Nat)} (hs : s < l.length) (ht : t < l.length) : rot s (rot t l) = rot ((s + t) % l.length) l := by
  by_cases z : s + t < l.length
  · rw [rot_rot (by omega) (by omega), Nat.mod_eq_of_lt z]
  · rw [Nat.mod_eq_sub_mod (by omega), Nat.mod_eq_of_lt (by omega)]
    have e : rot s (rot t l) = rot (s + t - l.length) (rot (l.length - t) (rot t l)) := by
      rw [rot_rot (l := rot t l) (by rw [rot_len]; omega) (by rw [rot_len]; omega)]
      congr 1; omega
    rw [e, rot_back (by omega)]
/-- no turn comes ahead of it -/
def lst (l : List (Nat × Nat)) : Bool := decide (∀ t, t < l.length → lxt (rot t l) l = false)
theorem lst_i {l : List (Nat × Nat)} : lst l = true ↔ ∀ t, t < l.length → ¬ lxt (rot t l) l = true := by
  unfold lst
  rw [decide_eq_true_iff]
  exact ⟨fun h t ht => by rw [h t ht]; exact Bool.false_ne_true, fun h t ht => by have := h t ht; cases hb : lxt (rot t l) l with | true => exact absurd hb this | false => rfl⟩
theorem lst_ex {l : List (Nat × Nat)} : ∀ k, 1 ≤ k → ∃ t0, t0 < k ∧ ∀ t, t < k → ¬ lxt (rot t l) (rot t0 l) = true := by
  intro k
  induction k with
  | zero => intro h; omega
  | succ k ih =>
    intro _
    rcases Nat.eq_zero_or_pos k with z | z
    · subst z
      refine ⟨0, by omega, fun t ht => ?_⟩
      rw [show t = 0 by omega]
      exact lxt_irr _
    · obtain ⟨t0, a, b⟩ := ih z
      by_cases c : lxt (rot k l) (rot t0 l) = true
      · refine ⟨k, by omega, fun t ht h => ?_⟩
        by_cases e : t = k
        · subst e; exact lxt_irr _ h
        · exact b t (by omega) (lxt_tr _ _ _ h c)
      · refine ⟨t0, by omega, fun t ht => ?_⟩
        by_cases e : t = k
        · subst e; exact c
        · exact b t (by omega)
theorem sm_rot {g : Nat → Nat} {N k : Nat} (hk : k ≤ N) : sm N (fun t => g ((t + k) % N)) = sm N g := by
  obtain ⟨d, rfl⟩ : ∃ d, N = d + k := ⟨N - k, by omega⟩
  rw [sm_add (a := d) k, Nat.add_comm d k, sm_add (a := k) d]
  have e1 : sm d (fun t => g ((t + k) % (k + d))) = sm d (fun i => g (k + i)) := sm_congr fun i hi => by rw [Nat.mod_eq_of_lt (by omega), Nat.add_comm]
  have e2 : sm k (fun i => g ((d + i + k) % (k + d))) = sm k g := sm_congr fun i hi => by rw [show d + i + k = i + (k + d) by omega, Nat.add_mod_right, Nat.mod_eq_of_lt (by omega)]
  rw [e1, e2, Nat.add_comm]
theorem sm_if {P Q : Nat → Prop} [DecidablePred P] [DecidablePred Q] {N : Nat} (h : ∀ t, t < N → (P t ↔ Q t)) : sm N (fun t => if P t then 1 else 0) = sm N (fun t => if Q t then 1 else 0) := sm_congr fun t ht => by
  by_cases z : P t
  · rw [if_pos z, if_pos ((h t ht).mp z)]
  · rw [if_neg z, if_neg (fun w => z ((h t ht).mpr w))]
/-- as many turns leave a row as it is as bring it to the first of all -/
theorem stab_lst {l : List (Nat × Nat)} (hl : 1 ≤ l.length) : sm l.length (fun t => if lst (rot t l) = true then 1 else 0) = sm l.length (fun t => if rot t l = l then 1 else 0) := by
  obtain ⟨t0, a, b⟩ := lst_ex (l := l) l.length hl
  have hN : ∀ t, (rot t l).length = l.length := fun t => rot_len
  have h1 : ∀ t, t < l.length → (lst (rot t l) = true ↔ rot t l = rot t0 l) := by
    have l0 : lst (rot t0 l) = true := lst_i.mpr (fun s hs => by
      rw [hN] at hs
      rw [rot_mod hs a]
      exact b _ (Nat.mod_lt _ (by omega)))
    intro t ht
    constructor
    · intro h
      rcases lxt_tri (rot t l) (rot t0 l) (by rw [hN, hN]) with q | q | q
      · exact absurd q (b t ht)
      · exact q
      · exfalso
        refine lst_i.mp h ((t0 + (l.length - t)) % l.length) (by rw [hN]; exact Nat.mod_lt _ (by omega)) ?_
        rw [rot_mod (Nat.mod_lt _ (by omega)) ht]
        have : ((t0 + (l.length - t)) % l.length + t) % l.length = t0 := by
          rw [Nat.mod_add_mod, show t0 + (l.length - t) + t = t0 + l.length by omega, Nat.add_mod_right, Nat.mod_eq_of_lt a]
        rw [this]
        exact q
    · intro h; rw [h]; exact l0
  rw [sm_if h1]
  have h2 : ∀ t, t < l.length → (rot t l = rot t0 l ↔ rot ((t + (l.length - t0)) % l.length) l = l) := by
    intro t ht
    have k : (l.length - t0) ≤ l.length := by omega
    have e0 : rot (l.length - t0) (rot t0 l) = l := rot_back (by omega)
    have e1 : rot (l.length - t0) (rot t l) = rot ((t + (l.length - t0)) % l.length) l := by
      rcases Nat.eq_zero_or_pos t0 with z | z
      · subst z
        rw [Nat.sub_zero, Nat.add_mod_right, Nat.mod_eq_of_lt ht]
        have := rot_all (l := rot t l)
        rw [hN] at this
        exact this
      · rw [rot_mod (by omega) ht, Nat.add_comm]
    rw [← e1]
    constructor
    · intro h; rw [h, e0]
    · intro h
      refine rot_inj (t := l.length - t0) (by rw [hN]; omega) (by rw [hN]; omega) ?_
      rw [h, e0]
  rw [sm_if h2]
  exact sm_rot (g := fun t => if rot t l = l then 1 else 0) (by omega)
def sl {α : Type} : List α → (α → Nat) → Nat
  | [], _ => 0
  | a :: A, h => h a + sl A h
theorem sl_sm {α : Type} {N : Nat} {f : α → Nat → Nat} : ∀ A : List α, sl A (fun l => sm N (f l)) = sm N (fun t => sl A (fun l => f l t)) := by
  intro A
  induction A with
  | nil => exact (sm_zero fun _ _ => rfl).symm
  | cons a A ih => show sm N (f a) + sl A _ = sm N (fun t => f a t + sl A _); rw [ih, sm_plus]
theorem sl_cnt {α : Type} {P : α → Bool} : ∀ A : List α, sl A (fun l => if P l = true then 1 else 0) = A.countP P := by
  intro A
  induction A with
  | nil => rfl
  | cons a A ih => show (if P a = true then 1 else 0) + sl A _ = _; rw [ih, List.countP_cons, Nat.add_comm]
theorem sl_cg {α : Type} {f g : α → Nat} : ∀ A : List α, (∀ a ∈ A, f a = g a) → sl A f = sl A g := by
  intro A
  induction A with
  | nil => intro _; rfl
  | cons a A ih => intro h; show f a + sl A f = g a + sl A g; rw [h a (List.mem_cons_self ..), ih (fun x hx => h x (List.mem_cons_of_mem _ hx))]
theorem burn {c : Nat → Nat} {N n : Nat} (hN : 1 ≤ N) : N * (arN c N n).countP lst = sm N (fun t => (arN c N n).countP (fun l => decide (rot t l = l))) := by
  have e1 : sl (arN c N n) (fun l => sm N (fun t => if lst (rot t l) = true then 1 else 0)) = sl (arN c N n) (fun l => sm N (fun t => if decide (rot t l = l) = true then 1 else 0)) := by
    refine sl_cg _ (fun l hl => ?_)
    have := ((arN_mem N n).mp hl).1
    subst this
    rw [stab_lst hN]
    refine sm_congr fun t _ => ?_
    by_cases z : rot t l = l
    · rw [if_pos z, if_pos (by rw [decide_eq_true z])]
    · rw [if_neg z, if_neg (by rw [decide_eq_false z]; exact Bool.false_ne_true)]
  rw [sl_sm, sl_sm] at e1
  rw [sm_congr (g := fun t => (arN c N n).countP (fun l => decide (rot t l = l))) (fun t _ => sl_cnt (P := fun l => decide (rot t l = l)) (arN c N n))] at e1
  rw [← e1, ← sm_const]
  refine sm_congr fun t ht => ?_
  rw [sl_cnt (P := fun l => lst (rot t l))]
  exact (rot_cnt (P := lst) (by omega)).symm
/-! rows that a turn leaves as they are -/
def rep : Nat → List (Nat × Nat) → List (Nat × Nat)
  | 0, _ => []
  | d + 1, y => y ++ rep d y
theorem rep_len {y : List (Nat × Nat)} : ∀ d, (rep d y).length = d * y.length := by
  intro d
  induction d with
  | zero => show 0 = _; omega
  | succ d ih => show (y ++ rep d y).length = _; rw [List.length_append, ih, Nat.add_mul, Nat.one_mul]; omega
theorem rep_tot {y : List (Nat × Nat)} : ∀ d, tot (rep d y) = d * tot y := by
  intro d
  induction d with
  | zero => show 0 = _; omega
  | succ d ih => show tot (y ++ rep d y) = _; rw [tot_app, ih, Nat.add_mul, Nat.one_mul]; omega
theorem rep_mem {y : List (Nat × Nat)} {x : Nat × Nat} : ∀ d, x ∈ rep d y → x ∈ y := by
  intro d
  induction d with
  | zero => intro h; cases h
  | succ d ih =>
    intro h
    have h' : x ∈ y ++ rep d y := h
    rcases List.mem_append.mp h' with q | q
    · exact q
    · exact ih q
theorem fix_cnt {c : Nat → Nat} {N n t d g : Nat} (hN : N = d * g) (hd : 1 ≤ d) (hf : ∀ l : List (Nat × Nat), l.length = N → (rot t l = l ↔ l = rep d (l.take g))) : (arN c N n).countP (fun l => decide (rot t l = l)) = if n % d = 0 then (arN c g (n / d)).length else 0 := by
  have g1 : g ≤ N := by rw [hN]; exact Nat.le_mul_of_pos_left _ hd
  have out : ∀ l, l ∈ arN c N n → rot t l = l → n % d = 0 ∧ l.take g ∈ arN c g (n / d) := by
    intro l hl e
    obtain ⟨a, b, k⟩ := (arN_mem N n).mp hl
    have e2 := (hf l a).mp e
    have e3 : tot l = d * tot (l.take g) := by
      have := rep_tot (y := l.take g) d
      rw [← e2] at this
      exact this
    rw [b] at e3
    refine ⟨by rw [e3]; exact Nat.mul_mod_right _ _, (arN_mem g _).mpr ⟨by rw [List.length_take]; omega, by rw [e3, Nat.mul_div_cancel_left _ hd], fun x hx => k x (List.mem_of_mem_take hx)⟩⟩
  by_cases z : n % d = 0
  · rw [if_pos z]
    have m : ∀ x, x ∈ (arN c N n).filter (fun l => decide (rot t l = l)) ↔ x ∈ (arN c g (n / d)).map (rep d) := by
      intro x
      rw [List.mem_filter, List.mem_map, decide_eq_true_iff]
      constructor
      · rintro ⟨a, b⟩
        exact ⟨_, (out x a b).2, ((hf x ((arN_mem N n).mp a).1).mp b).symm⟩
      · rintro ⟨y, y1, y2⟩
        subst y2
        obtain ⟨a, b, k⟩ := (arN_mem g _).mp y1
        have ln : (rep d y).length = N := by rw [rep_len, a, hN]
        have tk : (rep d y).take g = y := by
          obtain ⟨d', rfl⟩ : ∃ d', d = d' + 1 := ⟨d - 1, by omega⟩
          show (y ++ rep d' y).take g = y
          rw [List.take_append_of_le_length (by omega), ← a, List.take_length]
        refine ⟨(arN_mem N n).mpr ⟨ln, ?_, fun x hx => k x (rep_mem d hx)⟩, (hf _ ln).mpr (by rw [tk])⟩
        rw [rep_tot, b]
        exact Nat.mul_div_cancel' (Nat.dvd_of_mod_eq_zero z)
    have nd1 : ((arN c N n).filter (fun l => decide (rot t l = l))).Nodup := List.Pairwise.filter _ (arN_nd N n)
    have nd2 : ((arN c g (n / d)).map (rep d)).Nodup := by
      refine nd_map (fun x y e => ?_) (arN_nd g _)
      obtain ⟨d', rfl⟩ : ∃ d', d = d' + 1 := ⟨d - 1, by omega⟩
      have ll := congrArg List.length e
      rw [rep_len, rep_len] at ll
      have le : x.length = y.length := Nat.eq_of_mul_eq_mul_left hd ll
      have e' : x ++ rep d' x = y ++ rep d' y := e
      exact (List.append_inj e' le).1
    have := cp_same (P := fun _ => true) nd1 nd2 m
    simp only [List.countP_true, List.length_map] at this
    rw [List.countP_eq_length_filter]
    exact this
  · rw [if_neg z, List.countP_eq_zero]
    intro l hl h
    exact z (out l hl (decide_eq_true_iff.mp h)).1
theorem len1 (l : List (Nat × Nat)) (h : l.length = 1) : ∃ a : Nat × Nat, l = [a] := by
  cases l with
  | nil => simp at h
  | cons a m0 =>
  have hE : m0 = [] := List.eq_nil_of_length_eq_zero (by simp only [List.length_cons] at h; omega)
  subst hE
  exact ⟨a, rfl⟩
theorem len2 (l : List (Nat × Nat)) (h : l.length = 2) : ∃ a b : Nat × Nat, l = [a, b] := by
  cases l with
  | nil => simp at h
  | cons a m0 =>
  cases m0 with
  | nil => simp at h
  | cons b m1 =>
  have hE : m1 = [] := List.eq_nil_of_length_eq_zero (by simp only [List.length_cons] at h; omega)
  subst hE
  exact ⟨a, b, rfl⟩
theorem len3 (l : List (Nat × Nat)) (h : l.length = 3) : ∃ a b c : Nat × Nat, l = [a, b, c] := by
  cases l with
  | nil => simp at h
  | cons a m0 =>
  cases m0 with
  | nil => simp at h
  | cons b m1 =>
  cases m1 with
  | nil => simp at h
  | cons c m2 =>
  have hE : m2 = [] := List.eq_nil_of_length_eq_zero (by simp only [List.length_cons] at h; omega)
  subst hE
  exact ⟨a, b, c, rfl⟩
theorem len4 (l : List (Nat × Nat)) (h : l.length = 4) : ∃ a b c d : Nat × Nat, l = [a, b, c, d] := by
  cases l with
  | nil => simp at h
  | cons a m0 =>
  cases m0 with
  | nil => simp at h
  | cons b m1 =>
  cases m1 with
  | nil => simp at h
  | cons c m2 =>
  cases m2 with
  | nil => simp at h
  | cons d m3 =>
  have hE : m3 = [] := List.eq_nil_of_length_eq_zero (by simp only [List.length_cons] at h; omega)
  subst hE
  exact ⟨a, b, c, d, rfl⟩
theorem len5 (l : List (Nat × Nat)) (h : l.length = 5) : ∃ a b c d e : Nat × Nat, l = [a, b, c, d, e] := by
  cases l with
  | nil => simp at h
  | cons a m0 =>
  cases m0 with
  | nil => simp at h
  | cons b m1 =>
  cases m1 with
  | nil => simp at h
  | cons c m2 =>
  cases m2 with
  | nil => simp at h
  | cons d m3 =>
  cases m3 with
  | nil => simp at h
  | cons e m4 =>
  have hE : m4 = [] := List.eq_nil_of_length_eq_zero (by simp only [List.length_cons] at h; omega)
  subst hE
  exact ⟨a, b, c, d, e, rfl⟩
theorem len6 (l : List (Nat × Nat)) (h : l.length = 6) : ∃ a b c d e f : Nat × Nat, l = [a, b, c, d, e, f] := by
  cases l with
  | nil => simp at h
  | cons a m0 =>
  cases m0 with
  | nil => simp at h
  | cons b m1 =>
  cases m1 with
  | nil => simp at h
  | cons c m2 =>
  cases m2 with
  | nil => simp at h
  | cons d m3 =>
  cases m3 with
  | nil => simp at h
  | cons e m4 =>
  cases m4 with
  | nil => simp at h
  | cons f m5 =>
  have hE : m5 = [] := List.eq_nil_of_length_eq_zero (by simp only [List.length_cons] at h; omega)
  subst hE
  exact ⟨a, b, c, d, e, f, rfl⟩
theorem len7 (l : List (Nat × Nat)) (h : l.length = 7) : ∃ a b c d e f g : Nat × Nat, l = [a, b, c, d, e, f, g] := by
  cases l with
  | nil => simp at h
  | cons a m0 =>
  cases m0 with
  | nil => simp at h
  | cons b m1 =>
  cases m1 with
  | nil => simp at h
  | cons c m2 =>
  cases m2 with
  | nil => simp at h
  | cons d m3 =>
  cases m3 with
  | nil => simp at h
  | cons e m4 =>
  cases m4 with
  | nil => simp at h
  | cons f m5 =>
  cases m5 with
  | nil => simp at h
  | cons g m6 =>
  have hE : m6 = [] := List.eq_nil_of_length_eq_zero (by simp only [List.length_cons] at h; omega)
  subst hE
  exact ⟨a, b, c, d, e, f, g, rfl⟩
theorem fx21 (l : List (Nat × Nat)) (h : l.length = 2) : rot 1 l = l ↔ l = rep 2 (l.take 1) := by
  obtain ⟨a, b, rfl⟩ : ∃ a b : Nat × Nat, l = [a, b] := len2 l h
  show [b, a] = [a, b] ↔ [a, b] = [a, a]
  grind
theorem fx31 (l : List (Nat × Nat)) (h : l.length = 3) : rot 1 l = l ↔ l = rep 3 (l.take 1) := by
  obtain ⟨a, b, c, rfl⟩ : ∃ a b c : Nat × Nat, l = [a, b, c] := len3 l h
  show [b, c, a] = [a, b, c] ↔ [a, b, c] = [a, a, a]
  grind
theorem fx32 (l : List (Nat × Nat)) (h : l.length = 3) : rot 2 l = l ↔ l = rep 3 (l.take 1) := by
  obtain ⟨a, b, c, rfl⟩ : ∃ a b c : Nat × Nat, l = [a, b, c] := len3 l h
  show [c, a, b] = [a, b, c] ↔ [a, b, c] = [a, a, a]
  grind
theorem fx41 (l : List (Nat × Nat)) (h : l.length = 4) : rot 1 l = l ↔ l = rep 4 (l.take 1) := by
  obtain ⟨a, b, c, d, rfl⟩ : ∃ a b c d : Nat × Nat, l = [a, b, c, d] := len4 l h
  show [b, c, d, a] = [a, b, c, d] ↔ [a, b, c, d] = [a, a, a, a]
  grind
theorem fx42 (l : List (Nat × Nat)) (h : l.length = 4) : rot 2 l = l ↔ l = rep 2 (l.take 2) := by
  obtain ⟨a, b, c, d, rfl⟩ : ∃ a b c d : Nat × Nat, l = [a, b, c, d] := len4 l h
  show [c, d, a, b] = [a, b, c, d] ↔ [a, b, c, d] = [a, b, a, b]
  grind
theorem fx43 (l : List (Nat × Nat)) (h : l.length = 4) : rot 3 l = l ↔ l = rep 4 (l.take 1) := by
  obtain ⟨a, b, c, d, rfl⟩ : ∃ a b c d : Nat × Nat, l = [a, b, c, d] := len4 l h
  show [d, a, b, c] = [a, b, c, d] ↔ [a, b, c, d] = [a, a, a, a]
  grind
theorem fx51 (l : List (Nat × Nat)) (h : l.length = 5) : rot 1 l = l ↔ l = rep 5 (l.take 1) := by
  obtain ⟨a, b, c, d, e, rfl⟩ : ∃ a b c d e : Nat × Nat, l = [a, b, c, d, e] := len5 l h
  show [b, c, d, e, a] = [a, b, c, d, e] ↔ [a, b, c, d, e] = [a, a, a, a, a]
  grind
theorem fx52 (l : List (Nat × Nat)) (h : l.length = 5) : rot 2 l = l ↔ l = rep 5 (l.take 1) := by
  obtain ⟨a, b, c, d, e, rfl⟩ : ∃ a b c d e : Nat × Nat, l = [a, b, c, d, e] := len5 l h
  show [c, d, e, a, b] = [a, b, c, d, e] ↔ [a, b, c, d, e] = [a, a, a, a, a]
  grind
theorem fx53 (l : List (Nat × Nat)) (h : l.length = 5) : rot 3 l = l ↔ l = rep 5 (l.take 1) := by
  obtain ⟨a, b, c, d, e, rfl⟩ : ∃ a b c d e : Nat × Nat, l = [a, b, c, d, e] := len5 l h
  show [d, e, a, b, c] = [a, b, c, d, e] ↔ [a, b, c, d, e] = [a, a, a, a, a]
  grind
theorem fx54 (l : List (Nat × Nat)) (h : l.length = 5) : rot 4 l = l ↔ l = rep 5 (l.take 1) := by
  obtain ⟨a, b, c, d, e, rfl⟩ : ∃ a b c d e : Nat × Nat, l = [a, b, c, d, e] := len5 l h
  show [e, a, b, c, d] = [a, b, c, d, e] ↔ [a, b, c, d, e] = [a, a, a, a, a]
  grind
theorem fx61 (l : List (Nat × Nat)) (h : l.length = 6) : rot 1 l = l ↔ l = rep 6 (l.take 1) := by
  obtain ⟨a, b, c, d, e, f, rfl⟩ : ∃ a b c d e f : Nat × Nat, l = [a, b, c, d, e, f] := len6 l h
  show [b, c, d, e, f, a] = [a, b, c, d, e, f] ↔ [a, b, c, d, e, f] = [a, a, a, a, a, a]
  grind
theorem fx62 (l : List (Nat × Nat)) (h : l.length = 6) : rot 2 l = l ↔ l = rep 3 (l.take 2) := by
  obtain ⟨a, b, c, d, e, f, rfl⟩ : ∃ a b c d e f : Nat × Nat, l = [a, b, c, d, e, f] := len6 l h
  show [c, d, e, f, a, b] = [a, b, c, d, e, f] ↔ [a, b, c, d, e, f] = [a, b, a, b, a, b]
  grind
theorem fx63 (l : List (Nat × Nat)) (h : l.length = 6) : rot 3 l = l ↔ l = rep 2 (l.take 3) := by
  obtain ⟨a, b, c, d, e, f, rfl⟩ : ∃ a b c d e f : Nat × Nat, l = [a, b, c, d, e, f] := len6 l h
  show [d, e, f, a, b, c] = [a, b, c, d, e, f] ↔ [a, b, c, d, e, f] = [a, b, c, a, b, c]
  grind
theorem fx64 (l : List (Nat × Nat)) (h : l.length = 6) : rot 4 l = l ↔ l = rep 3 (l.take 2) := by
  obtain ⟨a, b, c, d, e, f, rfl⟩ : ∃ a b c d e f : Nat × Nat, l = [a, b, c, d, e, f] := len6 l h
  show [e, f, a, b, c, d] = [a, b, c, d, e, f] ↔ [a, b, c, d, e, f] = [a, b, a, b, a, b]
  grind
theorem fx65 (l : List (Nat × Nat)) (h : l.length = 6) : rot 5 l = l ↔ l = rep 6 (l.take 1) := by
  obtain ⟨a, b, c, d, e, f, rfl⟩ : ∃ a b c d e f : Nat × Nat, l = [a, b, c, d, e, f] := len6 l h
  show [f, a, b, c, d, e] = [a, b, c, d, e, f] ↔ [a, b, c, d, e, f] = [a, a, a, a, a, a]
  grind
theorem fx71 (l : List (Nat × Nat)) (h : l.length = 7) : rot 1 l = l ↔ l = rep 7 (l.take 1) := by
  obtain ⟨a, b, c, d, e, f, g, rfl⟩ : ∃ a b c d e f g : Nat × Nat, l = [a, b, c, d, e, f, g] := len7 l h
  show [b, c, d, e, f, g, a] = [a, b, c, d, e, f, g] ↔ [a, b, c, d, e, f, g] = [a, a, a, a, a, a, a]
  grind
theorem fx72 (l : List (Nat × Nat)) (h : l.length = 7) : rot 2 l = l ↔ l = rep 7 (l.take 1) := by
  obtain ⟨a, b, c, d, e, f, g, rfl⟩ : ∃ a b c d e f g : Nat × Nat, l = [a, b, c, d, e, f, g] := len7 l h
  show [c, d, e, f, g, a, b] = [a, b, c, d, e, f, g] ↔ [a, b, c, d, e, f, g] = [a, a, a, a, a, a, a]
  grind
theorem fx73 (l : List (Nat × Nat)) (h : l.length = 7) : rot 3 l = l ↔ l = rep 7 (l.take 1) := by
  obtain ⟨a, b, c, d, e, f, g, rfl⟩ : ∃ a b c d e f g : Nat × Nat, l = [a, b, c, d, e, f, g] := len7 l h
  show [d, e, f, g, a, b, c] = [a, b, c, d, e, f, g] ↔ [a, b, c, d, e, f, g] = [a, a, a, a, a, a, a]
  grind
theorem fx74 (l : List (Nat × Nat)) (h : l.length = 7) : rot 4 l = l ↔ l = rep 7 (l.take 1) := by
  obtain ⟨a, b, c, d, e, f, g, rfl⟩ : ∃ a b c d e f g : Nat × Nat, l = [a, b, c, d, e, f, g] := len7 l h
  show [e, f, g, a, b, c, d] = [a, b, c, d, e, f, g] ↔ [a, b, c, d, e, f, g] = [a, a, a, a, a, a, a]
  grind
theorem fx75 (l : List (Nat × Nat)) (h : l.length = 7) : rot 5 l = l ↔ l = rep 7 (l.take 1) := by
  obtain ⟨a, b, c, d, e, f, g, rfl⟩ : ∃ a b c d e f g : Nat × Nat, l = [a, b, c, d, e, f, g] := len7 l h
  show [f, g, a, b, c, d, e] = [a, b, c, d, e, f, g] ↔ [a, b, c, d, e, f, g] = [a, a, a, a, a, a, a]
  grind
theorem fx76 (l : List (Nat × Nat)) (h : l.length = 7) : rot 6 l = l ↔ l = rep 7 (l.take 1) := by
  obtain ⟨a, b, c, d, e, f, g, rfl⟩ : ∃ a b c d e f g : Nat × Nat, l = [a, b, c, d, e, f, g] := len7 l h
  show [g, a, b, c, d, e, f] = [a, b, c, d, e, f, g] ↔ [a, b, c, d, e, f, g] = [a, a, a, a, a, a, a]
  grind
/-- rings of N things: half of nothing is lost -/
theorem neck {C : Nat → Nat → Nat} {N n : Nat} (hN : 1 ≤ N ∧ N ≤ 7) : (arN (fun s => C s 0) N n).countP lst = rgu C N n 0 / N := by
  have z0 : (arN (fun s => C s 0) N n).countP (fun l => decide (rot 0 l = l)) = tr C N n 0 := by
    rw [← arN_len, List.countP_eq_length]
    intro l _
    rw [rot_0]
    exact decide_eq_true rfl
  have b := burn (c := fun s => C s 0) (N := N) (n := n) hN.1
  have key : sm N (fun t => (arN (fun s => C s 0) N n).countP (fun l => decide (rot t l = l))) = rgu C N n 0 := by
    unfold rgu
    rcases (show N = 1 ∨ N = 2 ∨ N = 3 ∨ N = 4 ∨ N = 5 ∨ N = 6 ∨ N = 7 by omega) with rfl | rfl | rfl | rfl | rfl | rfl | rfl
    · simp only [sm_s, sm_0, Nat.zero_add]
      rw [z0]
      try simp only [arN_len]
      simp [phi]
      try (repeat' split) <;> omega
    · simp only [sm_s, sm_0, Nat.zero_add]
      rw [z0, fix_cnt (c := fun s => C s 0) (n := n) (N := 2) (t := 1) (d := 2) (g := 1) rfl (by decide) (fx21)]
      try simp only [arN_len]
      simp [phi]
      try (repeat' split) <;> omega
    · simp only [sm_s, sm_0, Nat.zero_add]
      rw [z0, fix_cnt (c := fun s => C s 0) (n := n) (N := 3) (t := 1) (d := 3) (g := 1) rfl (by decide) (fx31), fix_cnt (c := fun s => C s 0) (n := n) (N := 3) (t := 2) (d := 3) (g := 1) rfl (by decide) (fx32)]
      try simp only [arN_len]
      simp [phi]
      try (repeat' split) <;> omega
    · simp only [sm_s, sm_0, Nat.zero_add]
      rw [z0, fix_cnt (c := fun s => C s 0) (n := n) (N := 4) (t := 1) (d := 4) (g := 1) rfl (by decide) (fx41), fix_cnt (c := fun s => C s 0) (n := n) (N := 4) (t := 2) (d := 2) (g := 2) rfl (by decide) (fx42), fix_cnt (c := fun s => C s 0) (n := n) (N := 4) (t := 3) (d := 4) (g := 1) rfl (by decide) (fx43)]
      try simp only [arN_len]
      simp [phi]
      try (repeat' split) <;> omega
    · simp only [sm_s, sm_0, Nat.zero_add]
      rw [z0, fix_cnt (c := fun s => C s 0) (n := n) (N := 5) (t := 1) (d := 5) (g := 1) rfl (by decide) (fx51), fix_cnt (c := fun s => C s 0) (n := n) (N := 5) (t := 2) (d := 5) (g := 1) rfl (by decide) (fx52), fix_cnt (c := fun s => C s 0) (n := n) (N := 5) (t := 3) (d := 5) (g := 1) rfl (by decide) (fx53), fix_cnt (c := fun s => C s 0) (n := n) (N := 5) (t := 4) (d := 5) (g := 1) rfl (by decide) (fx54)]
      try simp only [arN_len]
      simp [phi]
      try (repeat' split) <;> omega
    · simp only [sm_s, sm_0, Nat.zero_add]
      rw [z0, fix_cnt (c := fun s => C s 0) (n := n) (N := 6) (t := 1) (d := 6) (g := 1) rfl (by decide) (fx61), fix_cnt (c := fun s => C s 0) (n := n) (N := 6) (t := 2) (d := 3) (g := 2) rfl (by decide) (fx62), fix_cnt (c := fun s => C s 0) (n := n) (N := 6) (t := 3) (d := 2) (g := 3) rfl (by decide) (fx63), fix_cnt (c := fun s => C s 0) (n := n) (N := 6) (t := 4) (d := 3) (g := 2) rfl (by decide) (fx64), fix_cnt (c := fun s => C s 0) (n := n) (N := 6) (t := 5) (d := 6) (g := 1) rfl (by decide) (fx65)]
      try simp only [arN_len]
      simp [phi]
      try (repeat' split) <;> omega
    · simp only [sm_s, sm_0, Nat.zero_add]
      rw [z0, fix_cnt (c := fun s => C s 0) (n := n) (N := 7) (t := 1) (d := 7) (g := 1) rfl (by decide) (fx71), fix_cnt (c := fun s => C s 0) (n := n) (N := 7) (t := 2) (d := 7) (g := 1) rfl (by decide) (fx72), fix_cnt (c := fun s => C s 0) (n := n) (N := 7) (t := 3) (d := 7) (g := 1) rfl (by decide) (fx73), fix_cnt (c := fun s => C s 0) (n := n) (N := 7) (t := 4) (d := 7) (g := 1) rfl (by decide) (fx74), fix_cnt (c := fun s => C s 0) (n := n) (N := 7) (t := 5) (d := 7) (g := 1) rfl (by decide) (fx75), fix_cnt (c := fun s => C s 0) (n := n) (N := 7) (t := 6) (d := 7) (g := 1) rfl (by decide) (fx76)]
      try simp only [arN_len]
      simp [phi]
      try (repeat' split) <;> omega
  rw [← key, ← b, Nat.mul_div_cancel_left _ hN.1]
