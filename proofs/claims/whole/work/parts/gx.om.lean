/-! bounds of moves: numbers -/
def omT : List Nat := [3, 4, 6, 8, 12, 17, 24, 35, 50, 71, 104, 149, 212, 311, 446, 635, 932, 1337, 1904, 2795, 4010, 5711, 8384, 12029, 17132]
def om (a : Nat) : Nat := (omT[a]?).getD 0
theorem om_step {B m : Nat} (h : 1 ≤ m) (h24 : B + m ≤ 24) : m * (om B - 1) + 2 ≤ om (B + m) := by
  have k : ∀ x y : Fin 25, 1 ≤ y.val → x.val + y.val ≤ 24 → y.val * (om x.val - 1) + 2 ≤ om (x.val + y.val) := by decide +kernel
  exact k ⟨B, by omega⟩ ⟨m, by omega⟩ h h24
theorem om_mo {a b : Nat} (h : a ≤ b) (hb : b ≤ 24) : om a ≤ om b := by
  have k : ∀ x y : Fin 25, x.val ≤ y.val → om x.val ≤ om y.val := by decide +kernel
  exact k ⟨a, by omega⟩ ⟨b, by omega⟩ h
theorem om_3 {a : Nat} (h : a ≤ 24) : 3 ≤ om a := by
  have k : ∀ x : Fin 25, 3 ≤ om x.val := by decide +kernel
  exact k ⟨a, by omega⟩
def omP (a : Nat) : Nat := (26 - a) * (om a + 2)
def omK (a : Nat) : Nat := om a + omP a
theorem omK_all {a : Nat} (h : a ≤ 24) : 13 * omK a ≤ 999990 := by
  have k : ∀ x : Fin 25, 13 * omK x.val ≤ 999990 := by decide +kernel
  exact k ⟨a, by omega⟩
/-- what a size takes more -/
def exA (a s : Nat) : Nat := if s = 0 then 0 else (2 * s - 2) * omK a + omP a
theorem exA_add {a s t : Nat} : exA a s + exA a t ≤ exA a (s + t) := by
  unfold exA
  by_cases c : s = 0
  · subst c; rw [if_pos rfl, Nat.zero_add, Nat.zero_add]; exact Nat.le_refl _
  · by_cases d : t = 0
    · subst d; rw [Nat.add_zero, if_pos rfl, Nat.add_zero]; exact Nat.le_refl _
    · rw [if_neg c, if_neg d, if_neg (by omega), show 2 * (s + t) - 2 = (2 * s - 2) + (2 * t - 2) + 2 by omega, Nat.add_mul, Nat.add_mul]
      have : omP a ≤ 2 * omK a := by unfold omK; omega
      omega
theorem exA_mo {a s t : Nat} (h : s ≤ t) : exA a s ≤ exA a t := by
  have := exA_add (a := a) (s := s) (t := t - s)
  rw [show s + (t - s) = t by omega] at this
  omega
def exS (a : Nat) : List (Nat × Nat × Nat) → Nat
  | [] => 0
  | x :: l => exA a x.2.1 + exS a l
theorem exS_le {a : Nat} : ∀ l : List (Nat × Nat × Nat), exS a l ≤ exA a (szL l) := by
  intro l
  induction l with
  | nil => exact Nat.zero_le _
  | cons x l ih =>
    show exA a x.2.1 + exS a l ≤ exA a (x.2.1 + szL l)
    exact Nat.le_trans (Nat.add_le_add_left ih _) exA_add
theorem mvL_lin {a w : Nat} {g : Nat × Nat × Nat → Nat} : ∀ {l : List (Nat × Nat × Nat)}, (∀ y ∈ l, g y ≤ w + exA a y.2.1) → mvL l g ≤ l.length * w + exS a l := by
  intro l
  induction l with
  | nil => intro _; exact Nat.zero_le _
  | cons x l ih =>
    intro h
    have h1 := h x (List.mem_cons_self ..)
    have h2 := ih (fun y hy => h y (List.mem_cons_of_mem _ hy))
    show g x + mvL l g ≤ (l.length + 1) * w + (exA a x.2.1 + exS a l)
    rw [Nat.add_mul, Nat.one_mul]
    omega
theorem mvL_le {g : Nat × Nat × Nat → Nat} {O : Nat} : ∀ {l : List (Nat × Nat × Nat)}, (∀ y ∈ l, g y ≤ O) → mvL l g ≤ l.length * O := by
  intro l
  induction l with
  | nil => intro _; exact Nat.zero_le _
  | cons x l ih =>
    intro h
    have h1 := h x (List.mem_cons_self ..)
    have h2 := ih (fun y hy => h y (List.mem_cons_of_mem _ hy))
    show g x + mvL l g ≤ (l.length + 1) * O
    rw [Nat.add_mul, Nat.one_mul]
    omega
theorem szL_mem {x : Nat × Nat × Nat} : ∀ {l : List (Nat × Nat × Nat)}, x ∈ l → x.2.1 ≤ szL l := by
  intro l
  induction l with
  | nil => intro h; cases h
  | cons a l ih =>
    intro h
    show x.2.1 ≤ a.2.1 + szL l
    rcases List.mem_cons.mp h with e | e
    · subst e; omega
    · have := ih e; omega
theorem szL_two {x y : Nat × Nat × Nat} (hxy : x ≠ y) : ∀ {l : List (Nat × Nat × Nat)}, x ∈ l → y ∈ l → x.2.1 + y.2.1 ≤ szL l := by
  intro l
  induction l with
  | nil => intro h; cases h
  | cons a l ih =>
    intro h h'
    show x.2.1 + y.2.1 ≤ a.2.1 + szL l
    rcases List.mem_cons.mp h with e | e
    · rcases List.mem_cons.mp h' with e' | e'
      · exact absurd (e.trans e'.symm) hxy
      · subst e; have := szL_mem e'; omega
    · rcases List.mem_cons.mp h' with e' | e'
      · subst e'; have := szL_mem e; omega
      · have := ih e e'; omega
/-- one of all the size, the others of none -/
theorem mvL_one {g : Nat × Nat × Nat → Nat} {O T n : Nat} (n1 : 1 ≤ n) (hT : O ≤ T) : ∀ {l : List (Nat × Nat × Nat)}, (∀ y ∈ l, (y.2.1 = 0 ∧ g y ≤ O) ∨ (y.2.1 = n ∧ g y ≤ T)) → szL l ≤ n → 1 ≤ l.length → mvL l g ≤ T + (l.length - 1) * O := by
  intro l
  induction l with
  | nil => intro _ _ h; exact absurd h (by decide)
  | cons x l ih =>
    intro h hs _
    have hs' : x.2.1 + szL l ≤ n := hs
    show g x + mvL l g ≤ T + (l.length + 1 - 1) * O
    rw [Nat.add_sub_cancel]
    rcases h x (List.mem_cons_self ..) with ⟨a, b⟩ | ⟨a, b⟩
    · cases l with
      | nil => show g x + 0 ≤ T + 0 * O; omega
      | cons z l =>
        have i := ih (fun y hy => h y (List.mem_cons_of_mem _ hy)) (by omega) (by rw [List.length_cons]; omega)
        rw [List.length_cons, Nat.add_sub_cancel] at i
        rw [List.length_cons, Nat.add_mul, Nat.one_mul]
        omega
    · have z : ∀ y ∈ l, g y ≤ O := fun y hy => by
        have := szL_mem hy
        rcases h y (List.mem_cons_of_mem _ hy) with c | c
        · exact c.2
        · omega
      have := mvL_le z
      omega
def hsS : List (Nat × Nat × Nat) → Nat
  | [] => 0
  | x :: l => (2 * x.2.1 - 1) + hsS l
theorem hsS_1 : ∀ l : List (Nat × Nat × Nat), (szL l = 0 ∧ hsS l = 0) ∨ hsS l + 1 ≤ 2 * szL l := by
  intro l
  induction l with
  | nil => exact Or.inl ⟨rfl, rfl⟩
  | cons x l ih =>
    show (x.2.1 + szL l = 0 ∧ (2 * x.2.1 - 1) + hsS l = 0) ∨ (2 * x.2.1 - 1) + hsS l + 1 ≤ 2 * (x.2.1 + szL l)
    omega
theorem hsS_2 {n : Nat} (n1 : 1 ≤ n) : ∀ l : List (Nat × Nat × Nat), (∀ y ∈ l, y.2.1 < n) → n ≤ szL l → hsS l + 2 ≤ 2 * szL l := by
  intro l
  induction l with
  | nil =>
    intro _ h
    have h' : n ≤ 0 := h
    omega
  | cons x l ih =>
    intro h hs
    have hs' : n ≤ x.2.1 + szL l := hs
    show (2 * x.2.1 - 1) + hsS l + 2 ≤ 2 * (x.2.1 + szL l)
    have a := h x (List.mem_cons_self ..)
    have b := hsS_1 l
    by_cases c : x.2.1 = 0
    · have := ih (fun y hy => h y (List.mem_cons_of_mem _ hy)) (by omega)
      omega
    · omega
theorem hsS_le {n : Nat} {l : List (Nat × Nat × Nat)} (n1 : 1 ≤ n) (h : ∀ y ∈ l, y.2.1 < n) (hs : szL l ≤ n) : hsS l ≤ 2 * n - 2 := by
  have a := hsS_1 l
  by_cases c : n ≤ szL l
  · have := hsS_2 n1 l h c
    omega
  · omega
/-- none of all the size -/
theorem mvL_few {g : Nat × Nat × Nat → Nat} {O K : Nat} : ∀ {l : List (Nat × Nat × Nat)}, (∀ y ∈ l, (y.2.1 = 0 ∧ g y ≤ O) ∨ (1 ≤ y.2.1 ∧ g y ≤ (2 * y.2.1 - 1) * K)) → mvL l g ≤ l.length * O + hsS l * K := by
  intro l
  induction l with
  | nil => intro _; exact Nat.zero_le _
  | cons x l ih =>
    intro h
    have i := ih (fun y hy => h y (List.mem_cons_of_mem _ hy))
    show g x + mvL l g ≤ (l.length + 1) * O + ((2 * x.2.1 - 1) + hsS l) * K
    rw [Nat.add_mul, Nat.add_mul, Nat.one_mul]
    rcases h x (List.mem_cons_self ..) with ⟨a, b⟩ | ⟨a, b⟩
    · omega
    · omega
/-! parts counted by whose chain they are in -/
def cXe (X : Nat → Bool) (ent : Nat → Nat) (b : Nat) : Nat := sm 24 (fun q => if X q = true ∧ ent q ≤ b then 1 else 0)
def cTt (X : Nat → Bool) : Nat := sm 24 (fun q => if X q = true then 1 else 0)
theorem cx_step {X : Nat → Bool} {ent : Nat → Nat} {b b' E0 m : Nat} (h1 : b' < E0) (h2 : E0 ≤ b) (hm : m ≤ sm 24 (fun q => if X q = true ∧ ent q = E0 then 1 else 0)) : cXe X ent b' + m ≤ cXe X ent b := by
  unfold cXe
  have a := sm_pl (f := fun q => if X q = true ∧ ent q ≤ b' then 1 else 0) (g := fun q => if X q = true ∧ ent q = E0 then 1 else 0) 24
  have c := sm_mono (n := 24) (f := fun i => (if X i = true ∧ ent i ≤ b' then 1 else 0) + (if X i = true ∧ ent i = E0 then 1 else 0)) (g := fun q => if X q = true ∧ ent q ≤ b then 1 else 0) (fun i _ => by
    try dsimp only
    by_cases x : X i = true
    · by_cases y : ent i = E0
      · rw [if_neg (fun h => by omega), if_pos ⟨x, y⟩, if_pos ⟨x, by omega⟩]; exact Nat.le_refl _
      · rw [if_neg (c := X i = true ∧ ent i = E0) (fun h => y h.2)]
        split
        · next h => rw [if_pos ⟨x, by omega⟩]; exact Nat.le_refl _
        · exact Nat.zero_le _
    · rw [if_neg (fun h => x h.1), if_neg (fun h => x h.1)]; exact Nat.zero_le _)
  omega
theorem cx_tot {X : Nat → Bool} {ent : Nat → Nat} {b : Nat} : cXe X ent b ≤ cTt X := sm_mono (fun i _ => by
  try dsimp only
  split
  · next h => rw [if_pos h.1]; exact Nat.le_refl _
  · exact Nat.zero_le _)
theorem cx_all {X : Nat → Bool} : cTt X + cTt (fun q => !X q) = 24 := by
  unfold cTt
  rw [sm_pl, sm_congr (g := fun _ => 1) (fun i _ => by
    try dsimp only
    by_cases c : X i = true
    · rw [if_pos c, if_neg (by rw [c]; decide)]
    · rw [if_neg c, if_pos (by simpa using c)]), sm_const]
theorem cx_24 {X : Nat → Bool} : cTt X ≤ 24 := by have := cx_all (X := X); omega
theorem chn_cnt {M : Int → Int} {Z : Nat → Bool} (w : WF M) : ∀ (f p : Nat), (p : Int) < M 2 → (∀ k q : Nat, itN M k (p : Int) = (q : Int) → Z q = true) → chn M f (p : Int) ≤ sm 24 (fun q => if p ≤ q ∧ Z q = true then 1 else 0) := by
  have hM2 := w.2.2.1
  intro f
  induction f with
  | zero => intro p _ _; exact Nat.zero_le _
  | succ f ih =>
    intro p hp hz
    have z0 := hz 0 p rfl
    rw [chn_s]
    rcases (w.2.2.2.1 p hp).2.1 with q | q
    · rw [q, chn_n (by decide)]
      have := le_sm (n := 24) (f := fun q => if p ≤ q ∧ Z q = true then 1 else 0) (i := p) (by omega)
      try dsimp only at this
      rw [if_pos ⟨Nat.le_refl _, z0⟩] at this
      omega
    · obtain ⟨p', hp'⟩ : ∃ p' : Nat, M (96 + (p : Int)) = (p' : Int) := ⟨(M (96 + (p : Int))).toNat, by omega⟩
      rw [hp'] at q ⊢
      have i := ih p' (by omega) (fun k q hq => hz (k + 1) q (by rw [itN_sh k _ (by omega), hp']; exact hq))
      have k := sm_lt1 (n := 24) (f := fun q => if p' ≤ q ∧ Z q = true then 1 else 0) (g := fun q => if p ≤ q ∧ Z q = true then 1 else 0) (j := p) (fun i _ => by
        try dsimp only
        split
        · next h => rw [if_pos ⟨by omega, h.2⟩]; exact Nat.le_refl _
        · exact Nat.zero_le _) (by omega) (by
        try dsimp only
        rw [if_neg (fun h => by omega), if_pos ⟨Nat.le_refl _, z0⟩]; exact Nat.le_refl _)
      omega
theorem chn_X {M : Int → Int} {X : Nat → Bool} {ent : Nat → Nat} {E0 : Nat} (w : WF M) {f p : Nat} (hp : (p : Int) < M 2) (hz : ∀ k q : Nat, itN M k (p : Int) = (q : Int) → X q = true ∧ ent q = E0) : chn M f (p : Int) ≤ sm 24 (fun q => if X q = true ∧ ent q = E0 then 1 else 0) := by
  refine Nat.le_trans (chn_cnt (Z := fun q => X q && decide (ent q = E0)) w f p hp (fun k q hq => ?_)) (sm_mono (fun i _ => ?_))
  · obtain ⟨a, b⟩ := hz k q hq
    simp [a, b]
  · try dsimp only
    by_cases c : X i = true ∧ ent i = E0
    · rw [if_pos c]; split <;> omega
    · rw [if_neg c, if_neg (fun h => c (by simpa using h.2))]; exact Nat.le_refl _
theorem tmI_it {M : Int → Int} (w : WF M) : ∀ (f p n v : Nat), (p : Int) < M 2 → ∀ y ∈ tmI M f (p : Int) n v, ∃ k : Nat, itN M k (p : Int) = (y.1 : Int) := by
  intro f
  induction f with
  | zero => intro p n v _ y hy; cases hy
  | succ f ih =>
    intro p n v hp y hy
    rw [tmI_s (s := (pkS (fun s => yM M p s * bhM M p (n - s)) (n + 1) 0 v).1) (w := (pkS (fun s => yM M p s * bhM M p (n - s)) (n + 1) 0 v).2) rfl] at hy
    rcases List.mem_cons.mp hy with e | e
    · subst e; exact ⟨0, rfl⟩
    · rcases (w.2.2.2.1 p hp).2.1 with q | q
      · rw [q, tmI_n (by decide)] at e; cases e
      · obtain ⟨p', hp'⟩ : ∃ p' : Nat, M (96 + (p : Int)) = (p' : Int) := ⟨(M (96 + (p : Int))).toNat, by omega⟩
        rw [hp'] at e q
        obtain ⟨k, hk⟩ := ih p' _ _ (by omega) y e
        exact ⟨k + 1, by rw [itN_sh k _ (by omega), hp']; exact hk⟩
theorem tmI_cov {M : Int → Int} (w : WF M) : ∀ (k f p n v q : Nat), (p : Int) < M 2 → k < f → itN M k (p : Int) = (q : Int) → ∃ y ∈ tmI M f (p : Int) n v, y.1 = q := by
  intro k
  induction k with
  | zero =>
    intro f p n v q hp hf h
    obtain ⟨f, rfl⟩ : ∃ g, f = g + 1 := ⟨f - 1, by omega⟩
    rw [tmI_s (s := (pkS (fun s => yM M p s * bhM M p (n - s)) (n + 1) 0 v).1) (w := (pkS (fun s => yM M p s * bhM M p (n - s)) (n + 1) 0 v).2) rfl]
    have h' : (p : Int) = (q : Int) := h
    exact ⟨_, List.mem_cons_self .., by show p = q; omega⟩
  | succ k ih =>
    intro f p n v q hp hf h
    obtain ⟨f, rfl⟩ : ∃ g, f = g + 1 := ⟨f - 1, by omega⟩
    rw [tmI_s (s := (pkS (fun s => yM M p s * bhM M p (n - s)) (n + 1) 0 v).1) (w := (pkS (fun s => yM M p s * bhM M p (n - s)) (n + 1) 0 v).2) rfl]
    rw [itN_sh k _ (by omega)] at h
    rcases (w.2.2.2.1 p hp).2.1 with z | z
    · rw [z] at h
      have nn : ∀ j : Nat, itN M j (-1) = -1 := by
        intro j
        induction j with
        | zero => rfl
        | succ j jh =>
          show (if itN M j (-1) < 0 then -1 else M (96 + itN M j (-1))) = -1
          rw [jh]; rfl
      rw [nn] at h
      omega
    · obtain ⟨p', hp'⟩ : ∃ p' : Nat, M (96 + (p : Int)) = (p' : Int) := ⟨(M (96 + (p : Int))).toNat, by omega⟩
      rw [hp'] at h z ⊢
      obtain ⟨y, y1, y2⟩ := ih f p' (n - (pkS (fun s => yM M p s * bhM M p (n - s)) (n + 1) 0 v).1) ((pkS (fun s => yM M p s * bhM M p (n - s)) (n + 1) 0 v).2 % bhM M p (n - (pkS (fun s => yM M p s * bhM M p (n - s)) (n + 1) 0 v).1)) q (by omega) (by omega) h
      exact ⟨y, List.mem_cons_of_mem _ y1, y2⟩
