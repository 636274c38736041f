/-! rings of a size in order -/
def bel (pre : List (Nat × Nat)) (x : Nat × Nat) : Bool := match pre with
  | [] => false
  | h :: _ => plt x h
def rgE (c : Nat → Nat) : Nat → Int → Nat → List (Nat × Nat) → List (List (Nat × Nat))
  | 0, m, n, pre => if n = 0 ∧ m ≤ 0 ∧ pre ≠ [] ∧ lst pre = true then [pre] else []
  | f + 1, m, n, pre => if n = 0 then (if m ≤ 0 ∧ pre ≠ [] ∧ lst pre = true then [pre] else []) else if m = 0 then [] else flat n (fun i => if c (i + 1) = 0 ∨ rwW c (lss m) (n - (i + 1)) = 0 then [] else flat (c (i + 1)) (fun r => if bel pre (i + 1, r) = true then [] else rgE c f (lss m) (n - (i + 1)) (pre ++ [(i + 1, r)])))
theorem rgE_0 {c : Nat → Nat} {f : Nat} {m : Int} {pre : List (Nat × Nat)} : rgE c f m 0 pre = if m ≤ 0 ∧ pre ≠ [] ∧ lst pre = true then [pre] else [] := by
  cases f with
  | zero =>
    show (if 0 = 0 ∧ m ≤ 0 ∧ pre ≠ [] ∧ lst pre = true then [pre] else []) = _
    by_cases z : m ≤ 0 ∧ pre ≠ [] ∧ lst pre = true
    · rw [if_pos ⟨rfl, z⟩, if_pos z]
    · rw [if_neg (fun w => z w.2), if_neg z]
  | succ f => exact if_pos rfl
theorem rgE_z {c : Nat → Nat} {f n : Nat} {pre : List (Nat × Nat)} (hn : 1 ≤ n) : rgE c f 0 n pre = [] := by
  cases f with
  | zero => exact if_neg (fun w => by omega)
  | succ f =>
    show (if n = 0 then _ else if (0 : Int) = 0 then [] else _) = _
    rw [if_neg (by omega), if_pos rfl]
/-- of one size -/
def rgT (c : Nat → Nat) (f : Nat) (m : Int) (n : Nat) (pre : List (Nat × Nat)) (s : Nat) : List (List (Nat × Nat)) := if c s = 0 ∨ rwW c (lss m) (n - s) = 0 then [] else flat (c s) (fun r => if bel pre (s, r) = true then [] else rgE c f (lss m) (n - s) (pre ++ [(s, r)]))
theorem rgE_s {c : Nat → Nat} {f n : Nat} {m : Int} {pre : List (Nat × Nat)} (hn : 1 ≤ n) (hm : m ≠ 0) : rgE c (f + 1) m n pre = flat n (fun i => rgT c f m n pre (i + 1)) := by
  show (if n = 0 then _ else if m = 0 then [] else _) = _
  rw [if_neg (by omega), if_neg hm]
  rfl
/-- a row that stands: rows are counted -/
theorem comp_pos {c : Nat → Nat} : ∀ (s : List (Nat × Nat)) (n : Nat) (m : Int), okL c s → tot s = n → n ≤ 7 → -1 ≤ m → (0 ≤ m → ((s.length : Nat) : Int) = m) → 0 < rwW c m n := by
  intro s
  induction s with
  | nil =>
    intro n m _ ht _ hm hl
    have ht' : 0 = n := ht
    subst ht'
    rw [rwW_0, if_pos]
    · omega
    · rcases Int.lt_or_le m 0 with z | z
      · omega
      · have := hl z
        rw [List.length_nil] at this
        omega
  | cons y s ih =>
    intro n m ok ht hn hm hl
    have ht' : y.1 + tot s = n := ht
    obtain ⟨y1, y2⟩ := ok y (List.mem_cons_self ..)
    have m0 : m ≠ 0 := by
      intro z
      have := hl (by omega)
      rw [List.length_cons] at this
      omega
    rw [rwW_s ⟨by omega, hn⟩ m0]
    refine Nat.lt_of_lt_of_le ?_ (le_sm (i := y.1 - 1) (by omega))
    try dsimp only
    rw [show y.1 - 1 + 1 = y.1 by omega]
    refine Nat.mul_pos (by omega) (ih _ _ (fun x hx => ok x (List.mem_cons_of_mem _ hx)) (by omega) (by omega) (lss_ge hm m0) (fun z => ?_))
    unfold lss at z ⊢
    by_cases q : m < 0
    · rw [if_pos q] at z; omega
    · rw [if_neg q]
      have := hl (by omega)
      rw [List.length_cons] at this
      omega
theorem comp_ex {c : Nat → Nat} : ∀ (k n : Nat) (m : Int), n ≤ k → n ≤ 7 → -1 ≤ m → 0 < rwW c m n → ∃ s, okL c s ∧ tot s = n ∧ (0 ≤ m → ((s.length : Nat) : Int) = m) := by
  intro k
  induction k with
  | zero =>
    intro n m hk _ hm h
    have : n = 0 := by omega
    subst this
    rw [rwW_0] at h
    refine ⟨[], fun x hx => (by cases hx), rfl, fun z => ?_⟩
    by_cases q : m ≤ 0
    · rw [List.length_nil]; omega
    · rw [if_neg q] at h; omega
  | succ k ih =>
    intro n m hk hn hm h
    by_cases n0 : n = 0
    · subst n0
      rw [rwW_0] at h
      refine ⟨[], fun x hx => (by cases hx), rfl, fun z => ?_⟩
      by_cases q : m ≤ 0
      · rw [List.length_nil]; omega
      · rw [if_neg q] at h; omega
    have m0 : m ≠ 0 := by
      intro z; subst z
      rw [rwW_z (by omega)] at h; omega
    rw [rwW_s ⟨by omega, hn⟩ m0] at h
    obtain ⟨i, i1, i2⟩ := sm_pos h
    obtain ⟨s, a, b, d⟩ := ih (n - (i + 1)) (lss m) (by omega) (by omega) (lss_ge hm m0) (Nat.pos_of_mul_pos_left i2)
    refine ⟨(i + 1, 0) :: s, fun x hx => ?_, ?_, fun z => ?_⟩
    · rcases List.mem_cons.mp hx with e | e
      · subst e
        exact ⟨by show 1 ≤ i + 1; omega, Nat.pos_of_mul_pos_right i2⟩
      · exact a x e
    · show i + 1 + tot s = n; omega
    · have d' := d
      unfold lss at d'
      rw [if_neg (by omega)] at d'
      have := d' (by omega)
      rw [List.length_cons]; omega
theorem lst_bel {pre s : List (Nat × Nat)} {y : Nat × Nat} (h : lst (pre ++ y :: s) = true) : bel pre y = false := by
  cases pre with
  | nil => rfl
  | cons a pre =>
    show plt y a = false
    cases hb : plt y a with
    | false => rfl
    | true =>
      exfalso
      refine lst_i.mp h (a :: pre).length (by rw [List.length_append, List.length_cons (a := y)]; omega) ?_
      unfold rot
      rw [List.drop_left, List.take_left]
      exact lxt_c.mpr (Or.inl hb)
theorem ok_tot0 {c : Nat → Nat} {s : List (Nat × Nat)} (h : okL c s) (ht : tot s = 0) : s = [] := by
  cases s with
  | nil => rfl
  | cons y s =>
    have a := (h y (List.mem_cons_self ..)).1
    have b : y.1 + tot s = 0 := ht
    omega
theorem rgE_mem0 {c : Nat → Nat} {f : Nat} {m : Int} {pre x : List (Nat × Nat)} (hm : -1 ≤ m) : x ∈ rgE c f m 0 pre ↔ ∃ s, x = pre ++ s ∧ okL c s ∧ tot s = 0 ∧ (0 ≤ m → ((s.length : Nat) : Int) = m) ∧ x ≠ [] ∧ lst x = true := by
  rw [rgE_0]
  constructor
  · intro h
    by_cases q : m ≤ 0 ∧ pre ≠ [] ∧ lst pre = true
    · rw [if_pos q, List.mem_singleton] at h
      subst h
      exact ⟨[], by rw [List.append_nil], fun x hx => (by cases hx), rfl, fun z => by rw [List.length_nil]; omega, q.2.1, q.2.2⟩
    · rw [if_neg q] at h; cases h
  · rintro ⟨s, e, a, b, d, g, l⟩
    have s0 := ok_tot0 a b
    subst s0
    rw [List.append_nil] at e
    subst e
    have m0 : m ≤ 0 := by
      rcases Int.lt_or_le m 0 with z | z
      · omega
      · have := d z
        rw [List.length_nil] at this
        omega
    rw [if_pos ⟨m0, g, l⟩]
    exact List.mem_singleton.mpr rfl
theorem rgE_mem {c : Nat → Nat} : ∀ (f n : Nat) (m : Int) (pre x : List (Nat × Nat)), n ≤ f → n ≤ 7 → -1 ≤ m → (x ∈ rgE c f m n pre ↔ ∃ s, x = pre ++ s ∧ okL c s ∧ tot s = n ∧ (0 ≤ m → ((s.length : Nat) : Int) = m) ∧ x ≠ [] ∧ lst x = true) := by
  intro f
  induction f with
  | zero =>
    intro n m pre x hf hn hm
    have : n = 0 := by omega
    subst this
    exact rgE_mem0 hm
  | succ f ih =>
    intro n m pre x hf hn hm
    by_cases n0 : n = 0
    · subst n0; exact rgE_mem0 hm
    by_cases m0 : m = 0
    · subst m0
      rw [rgE_z (by omega)]
      constructor
      · intro h; cases h
      · rintro ⟨s, e, a, b, d, g, l⟩
        have := d (by omega)
        have s0 : s = [] := List.eq_nil_of_length_eq_zero (by omega)
        subst s0
        exact absurd b (fun w => n0 w.symm)
    rw [rgE_s (by omega) m0, flat_mem]
    have lm := lss_ge hm m0
    constructor
    · rintro ⟨i, i1, h⟩
      unfold rgT at h
      by_cases q : c (i + 1) = 0 ∨ rwW c (lss m) (n - (i + 1)) = 0
      · rw [if_pos q] at h; cases h
      · rw [if_neg q, flat_mem] at h
        obtain ⟨r, r1, h⟩ := h
        by_cases b : bel pre (i + 1, r) = true
        · rw [if_pos b] at h; cases h
        · rw [if_neg b] at h
          obtain ⟨s, e, a, b, d, g, l⟩ := (ih (n - (i + 1)) (lss m) _ x (by omega) (by omega) lm).mp h
          refine ⟨(i + 1, r) :: s, by rw [e, List.append_assoc]; rfl, fun y hy => ?_, ?_, fun z => ?_, g, l⟩
          · rcases List.mem_cons.mp hy with e | e
            · subst e; exact ⟨by show 1 ≤ i + 1; omega, r1⟩
            · exact a y e
          · show i + 1 + tot s = n; omega
          · unfold lss at d
            rw [if_neg (by omega)] at d
            have := d (by omega)
            rw [List.length_cons]; omega
    · rintro ⟨s, e, a, b, d, g, l⟩
      cases s with
      | nil =>
        have : 0 = n := b
        omega
      | cons y s =>
        obtain ⟨y1, y2⟩ := a y (List.mem_cons_self ..)
        have b' : y.1 + tot s = n := b
        have a' : okL c s := fun x hx => a x (List.mem_cons_of_mem _ hx)
        have d' : 0 ≤ lss m → ((s.length : Nat) : Int) = lss m := fun z => by
          unfold lss at z ⊢
          by_cases q : m < 0
          · rw [if_pos q] at z; omega
          · rw [if_neg q]
            have := d (by omega)
            rw [List.length_cons] at this
            omega
        have pos := comp_pos s (n - y.1) (lss m) a' (by omega) (by omega) lm d'
        refine ⟨y.1 - 1, by omega, ?_⟩
        rw [show y.1 - 1 + 1 = y.1 by omega]
        unfold rgT
        rw [if_neg (by omega), flat_mem]
        refine ⟨y.2, y2, ?_⟩
        rw [e] at l
        have lb := lst_bel l
        rw [if_neg (by rw [show ((y.1, y.2) : Nat × Nat) = y from rfl, lb]; exact Bool.false_ne_true)]
        refine (ih (n - y.1) (lss m) _ x (by omega) (by omega) lm).mpr ⟨s, by rw [e, List.append_assoc]; rfl, a', by omega, d', g, by rw [e]; exact l⟩
theorem rgE_nd {c : Nat → Nat} : ∀ (f n : Nat) (m : Int) (pre : List (Nat × Nat)), n ≤ f → n ≤ 7 → -1 ≤ m → (rgE c f m n pre).Nodup := by
  have base : ∀ (f : Nat) (m : Int) (pre : List (Nat × Nat)), (rgE c f m 0 pre).Nodup := fun f m pre => by
    rw [rgE_0]
    by_cases q : m ≤ 0 ∧ pre ≠ [] ∧ lst pre = true
    · rw [if_pos q]; exact List.nodup_cons.mpr ⟨by simp, List.nodup_nil⟩
    · rw [if_neg q]; exact List.nodup_nil
  intro f
  induction f with
  | zero =>
    intro n m pre hf _ _
    have : n = 0 := by omega
    subst this
    exact base _ _ _
  | succ f ih =>
    intro n m pre hf hn hm
    by_cases n0 : n = 0
    · subst n0; exact base _ _ _
    by_cases m0 : m = 0
    · subst m0; rw [rgE_z (by omega)]; exact List.nodup_nil
    have lm := lss_ge hm m0
    rw [rgE_s (by omega) m0]
    have at1 : ∀ (i : Nat) (x : List (Nat × Nat)), i < n → x ∈ rgT c f m n pre (i + 1) → ∃ r s, x = pre ++ (i + 1, r) :: s := by
      intro i x hi h
      unfold rgT at h
      by_cases q : c (i + 1) = 0 ∨ rwW c (lss m) (n - (i + 1)) = 0
      · rw [if_pos q] at h; cases h
      · rw [if_neg q, flat_mem] at h
        obtain ⟨r, r1, h⟩ := h
        by_cases b : bel pre (i + 1, r) = true
        · rw [if_pos b] at h; cases h
        · rw [if_neg b] at h
          obtain ⟨s, e, _⟩ := (rgE_mem f (n - (i + 1)) (lss m) _ x (by omega) (by omega) lm).mp h
          exact ⟨r, s, by rw [e, List.append_assoc]; rfl⟩
    refine flat_nd n (fun i hi => ?_) (fun i j x hi hj h h' => ?_)
    · unfold rgT
      by_cases q : c (i + 1) = 0 ∨ rwW c (lss m) (n - (i + 1)) = 0
      · rw [if_pos q]; exact List.nodup_nil
      · rw [if_neg q]
        refine flat_nd _ (fun r hr => ?_) (fun r r' x hr hr' h h' => ?_)
        · by_cases b : bel pre (i + 1, r) = true
          · rw [if_pos b]; exact List.nodup_nil
          · rw [if_neg b]; exact ih _ _ _ (by omega) (by omega) lm
        · by_cases b : bel pre (i + 1, r) = true
          · rw [if_pos b] at h; cases h
          · by_cases b' : bel pre (i + 1, r') = true
            · rw [if_pos b'] at h'; cases h'
            · rw [if_neg b] at h
              rw [if_neg b'] at h'
              obtain ⟨s, e, _⟩ := (rgE_mem f (n - (i + 1)) (lss m) _ x (by omega) (by omega) lm).mp h
              obtain ⟨s', e', _⟩ := (rgE_mem f (n - (i + 1)) (lss m) _ x (by omega) (by omega) lm).mp h'
              rw [e, List.append_assoc, List.append_assoc] at e'
              have := List.append_cancel_left e'
              have := (Prod.mk.inj (List.cons.inj this).1).2
              omega
    · obtain ⟨r, s, e⟩ := at1 i x (by omega) h
      obtain ⟨r', s', e'⟩ := at1 j x hj h'
      rw [e] at e'
      have := List.append_cancel_left e'
      have := (Prod.mk.inj (List.cons.inj this).1).1
      omega
/-- how many there are -/
theorem rgE_len {C : Nat → Nat → Nat} {n N : Nat} (hn : 1 ≤ n ∧ n ≤ 7) (hN : 1 ≤ N ∧ N ≤ 7) : (rgE (fun s => C s 0) 7 (N : Int) n []).length = rgu C N n 0 / N := by
  rw [← neck hN, List.countP_eq_length_filter]
  have nd1 : ((arN (fun s => C s 0) N n).filter lst).Nodup := List.Pairwise.filter _ (arN_nd N n)
  have := cp_same (P := fun _ => true) (rgE_nd 7 n (N : Int) [] hn.2 hn.2 (by omega)) nd1 (fun x => by
    rw [rgE_mem 7 n (N : Int) [] x hn.2 hn.2 (by omega), List.mem_filter, arN_mem]
    constructor
    · rintro ⟨s, e, a, b, d, g, l⟩
      rw [List.nil_append] at e
      subst e
      exact ⟨⟨by have := d (by omega); omega, b, a⟩, l⟩
    · rintro ⟨⟨a, b, d⟩, l⟩
      refine ⟨x, rfl, d, b, fun _ => by omega, fun e => ?_, l⟩
      subst e
      rw [List.length_nil] at a
      omega)
  simp only [List.countP_true] at this
  exact this
theorem rgE_any {C : Nat → Nat → Nat} {n : Nat} (hn : 1 ≤ n ∧ n ≤ 7) : (rgE (fun s => C s 0) 7 (-1) n []).length = sm n (fun j => rgu C (j + 1) n 0 / (j + 1)) := by
  have e : sm n (fun j => rgu C (j + 1) n 0 / (j + 1)) = (flat n (fun j => (arN (fun s => C s 0) (j + 1) n).filter lst)).length := by
    rw [flat_len]
    exact sm_congr fun j hj => by rw [← neck ⟨by omega, by omega⟩, List.countP_eq_length_filter]
  rw [e]
  have nd1 : (flat n (fun j => (arN (fun s => C s 0) (j + 1) n).filter lst)).Nodup := flat_nd n (fun j _ => List.Pairwise.filter _ (arN_nd _ n)) (fun i j x hi hj h h' => by
    have a := ((arN_mem _ n).mp (List.mem_filter.mp h).1).1
    have b := ((arN_mem _ n).mp (List.mem_filter.mp h').1).1
    omega)
  have := cp_same (P := fun _ => true) (rgE_nd 7 n (-1) [] hn.2 hn.2 (by omega)) nd1 (fun x => by
    rw [rgE_mem 7 n (-1) [] x hn.2 hn.2 (by omega), flat_mem]
    constructor
    · rintro ⟨s, e, a, b, d, g, l⟩
      rw [List.nil_append] at e
      subst e
      have l1 : 1 ≤ x.length := List.length_pos_iff.mpr g
      have l2 : x.length ≤ n := by
        have key : ∀ y : List (Nat × Nat), okL (fun s => C s 0) y → y.length ≤ tot y := by
          intro y
          induction y with
          | nil => intro _; exact Nat.zero_le _
          | cons z y ih =>
            intro h
            have h1 := (h z (List.mem_cons_self ..)).1
            have h2 := ih (fun w hw => h w (List.mem_cons_of_mem _ hw))
            show y.length + 1 ≤ z.1 + tot y
            omega
        have := key x a
        omega
      exact ⟨x.length - 1, by omega, List.mem_filter.mpr ⟨(arN_mem _ n).mpr ⟨by omega, b, a⟩, l⟩⟩
    · rintro ⟨j, hj, h⟩
      obtain ⟨h1, h2⟩ := List.mem_filter.mp h
      obtain ⟨a, b, d⟩ := (arN_mem _ n).mp h1
      refine ⟨x, rfl, d, b, fun z => by omega, fun e => ?_, h2⟩
      subst e
      rw [List.length_nil] at a
      omega)
  simp only [List.countP_true] at this
  exact this
/-- rings, as they are counted -/
def rgM (M : Int → Int) (p n : Nat) : List (List (Nat × Nat)) := rgE (cM M p) 7 (nuM M p) n []
theorem y_ring {S : St} (h : Cor S) {p n : Nat} (hp : (p : Int) < S 84 2) (hn : n ≤ 7) (z6 : S 84 (24 + (p : Int)) = 6) : ev (yM (S 84) p n) (rgM (S 84) p n).length := by
  obtain ⟨E, TE, s⟩ := h.sol
  have q := (s.1 p n 0 hp hn (Nat.zero_le _)).1
  have hs : isSq (S 84) p := by unfold isSq; omega
  have h6' := (h.wf.2.2.2.1 p hp).2.2.2.2.2 hs
  unfold pvC at q
  rw [if_neg (by omega), if_neg (by omega), if_neg (by omega), if_neg (by omega)] at q
  refine Eq.trans (b := _) q ?_
  unfold rgM
  by_cases n0 : n = 0
  · subst n0
    rw [if_pos rfl, if_neg (fun w => w.2 z6), rgE_0, if_neg (fun w => w.2.1 rfl)]
    rfl
  rw [if_neg n0]
  have eC : (fun s => cut false (fun s i => YP (S 84) (-1) (pl (chM (S 84) p) s i)) s 0) = cM (S 84) p := by
    funext s
    rw [cut_f]; rfl
  have b6 : (S 84 (24 + (p : Int)) == 6) = true := by simpa using z6
  have tR : ∀ j : Nat, 1 ≤ j → j ≤ 7 → (rgE (cM (S 84) p) 7 (j : Int) n []).length = rgu (cut false (fun s i => YP (S 84) (-1) (pl (chM (S 84) p) s i))) j n 0 / j := fun j j1 j7 => by rw [← rgE_len ⟨by omega, hn⟩ ⟨j1, j7⟩, eC]
  by_cases w1 : S 84 (48 + (p : Int)) = 1
  · rw [if_pos w1]
    have e1 : nuM (S 84) p = ((1 : Nat) : Int) := by unfold nuM; rw [if_neg (by omega)]; omega
    rw [e1, tR 1 (by omega) (by omega), Nat.div_one]
    refine congrArg (min CC) ?_
    unfold rgu
    rw [sm_s, sm_0, Nat.zero_add, if_pos ⟨rfl, Nat.mod_one _, rfl⟩, Nat.div_one, Nat.div_one, Nat.div_one, tr_1 (by omega), cut_f, show phi (0 + 1) = 1 from rfl, Nat.one_mul]
    rfl
  rw [if_neg w1]
  unfold sqv
  rw [if_neg (by decide), b6]
  unfold inT nuM
  by_cases z : S 84 (48 + (p : Int)) = 0
  · rw [if_pos (by omega), if_pos z]
    have := rgE_any (C := cut false (fun s i => YP (S 84) (-1) (pl (chM (S 84) p) s i))) (n := n) ⟨by omega, hn⟩
    rw [eC] at this
    rw [this]
    refine congrArg (min CC) ?_
    rw [sm_split, if_pos (show true = true from rfl), if_pos rfl, Nat.zero_add]
    refine sm_congr fun j hj => ?_
    rw [if_pos (show true = true from rfl), if_neg (by omega)]
    rfl
  · rw [if_neg (by omega), if_neg z]
    obtain ⟨j, hj⟩ : ∃ j : Nat, S 84 (48 + (p : Int)) = (j : Int) := ⟨(S 84 (48 + (p : Int))).toNat, by omega⟩
    rw [hj, show ((j : Nat) : Int).toNat = j from rfl, tR j (by omega) (by omega), if_pos (show true = true from rfl)]
    rfl
