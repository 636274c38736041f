/-! numbers and lists: each list has its number -/
theorem pk_mk {g : Nat → Nat} : ∀ (f s t w : Nat), s ≤ t → t < s + f → w < g t → pkS g f s (sm (t - s) (fun i => g (s + i)) + w) = (t, w) ∧ sm (t - s) (fun i => g (s + i)) + w < sm f (fun i => g (s + i)) := by
  intro f
  induction f with
  | zero => intro s t w h1 h2; omega
  | succ f ih =>
    intro s t w h1 h2 h3
    by_cases c : t = s
    · subst c
      rw [Nat.sub_self, sm_0, Nat.zero_add, sm_sh]
      exact ⟨pq_lt h3, by omega⟩
    · obtain ⟨i1, i2⟩ := ih (s + 1) t w (by omega) (by omega) h3
      have e : sm (t - s) (fun i => g (s + i)) = g s + sm (t - (s + 1)) (fun i => g (s + 1 + i)) := by
        rw [show t - s = (t - (s + 1)) + 1 by omega, sm_sh]
      rw [e, sm_sh, pq_ge (by omega), show g s + sm (t - (s + 1)) (fun i => g (s + 1 + i)) + w - g s = sm (t - (s + 1)) (fun i => g (s + 1 + i)) + w by omega]
      exact ⟨i1, by omega⟩
theorem dm_mk {r v b : Nat} (h : v < b) : (r * b + v) / b = r ∧ (r * b + v) % b = v := by
  have hb : 0 < b := by omega
  rw [Nat.mul_comm, Nat.mul_add_div hb, Nat.div_eq_of_lt h, Nat.mul_add_mod, Nat.mod_eq_of_lt h]
  exact ⟨by omega, rfl⟩
/-! rows -/
theorem rw_sur {c : Nat → Nat} : ∀ (f n : Nat) (m : Int) (l : List (Nat × Nat)), n ≤ f → n ≤ 7 → -1 ≤ m → okL c l → tot l = n → (0 ≤ m → ((l.length : Nat) : Int) = m) → ∃ v, v < rwW c m n ∧ rwI c f m n v = l := by
  intro f
  induction f with
  | zero =>
    intro n m l hf _ hm ok ht hl
    have n0 : n = 0 := by omega
    subst n0
    have e := ok_tot0 ok ht
    subst e
    have l0 : 0 ≤ m → (0 : Int) = m := fun q => hl q
    refine ⟨0, ?_, rwI_0⟩
    rw [rwW_0, if_pos (by omega)]; exact Nat.zero_lt_one
  | succ f ih =>
    intro n m l hf hn hm ok ht hl
    cases l with
    | nil =>
      have n0 : n = 0 := ht.symm
      subst n0
      have l0 : 0 ≤ m → (0 : Int) = m := fun q => hl q
      refine ⟨0, ?_, rwI_0⟩
      rw [rwW_0, if_pos (by omega)]; exact Nat.zero_lt_one
    | cons x l =>
      obtain ⟨t, r⟩ := x
      have a := ok (t, r) (List.mem_cons_self ..)
      dsimp only at a
      have ht' : t + tot l = n := ht
      have l1 : 0 ≤ m → (((l.length + 1 : Nat)) : Int) = m := fun q => by
        have := hl q
        rw [List.length_cons] at this
        exact this
      have m0 : m ≠ 0 := fun z => by have := l1 (by omega); omega
      obtain ⟨v', h1, h2⟩ := ih (n - t) (lss m) l (by omega) (by omega) (lss_ge hm m0) (fun y hy => ok y (List.mem_cons_of_mem _ hy)) (by omega) (fun q => by
        unfold lss at q ⊢
        by_cases z : m < 0
        · rw [if_pos z] at q; omega
        · rw [if_neg z]; have := l1 (by omega); omega)
      have wl : r * rwW c (lss m) (n - t) + v' < c t * rwW c (lss m) (n - t) := by
        have := Nat.mul_le_mul_right (rwW c (lss m) (n - t)) (show r + 1 ≤ c t by omega)
        rw [Nat.add_mul, Nat.one_mul] at this
        omega
      obtain ⟨p1, p2⟩ := pk_mk (g := fun s => c s * rwW c (lss m) (n - s)) n 1 t (r * rwW c (lss m) (n - t) + v') a.1 (by omega) wl
      obtain ⟨d1, d2⟩ := dm_mk (r := r) h1
      refine ⟨sm (t - 1) (fun i => (fun s => c s * rwW c (lss m) (n - s)) (1 + i)) + (r * rwW c (lss m) (n - t) + v'), ?_, ?_⟩
      · rw [rwW_s ⟨by omega, hn⟩ m0]
        refine Nat.lt_of_lt_of_le p2 (Nat.le_of_eq (sm_congr fun i _ => ?_))
        try dsimp only
        rw [Nat.add_comm 1 i]
      · rw [rwI_s (by omega) p1, d1, d2, h2]
theorem rw_inj {c : Nat → Nat} : ∀ (f n : Nat) (m : Int) (v v' : Nat), n ≤ f → n ≤ 7 → v < rwW c m n → v' < rwW c m n → rwI c f m n v = rwI c f m n v' → v = v' := by
  intro f
  induction f with
  | zero =>
    intro n m v v' hf _ h h' _
    have n0 : n = 0 := by omega
    subst n0
    rw [rwW_0] at h h'
    by_cases z : m ≤ 0
    · rw [if_pos z] at h h'; omega
    · rw [if_neg z] at h; omega
  | succ f ih =>
    intro n m v v' hf hn h h' e
    by_cases n0 : n = 0
    · subst n0
      rw [rwW_0] at h h'
      by_cases z : m ≤ 0
      · rw [if_pos z] at h h'; omega
      · rw [if_neg z] at h; omega
    · have m0 : m ≠ 0 := fun z => by
        subst z
        rw [rwW_z (by omega)] at h; omega
      obtain ⟨t, w, a1, a2, a3, a4, a5⟩ := rw_pk ⟨by omega, hn⟩ m0 h
      obtain ⟨t', w', b1, b2, b3, b4, b5⟩ := rw_pk ⟨by omega, hn⟩ m0 h'
      rw [rwI_s (by omega) a1, rwI_s (by omega) b1] at e
      obtain ⟨e1, e2⟩ := List.cons.inj e
      obtain ⟨e3, e4⟩ := Prod.mk.inj e1
      subst e3
      have pos : 0 < rwW c (lss m) (n - t) := Nat.pos_of_mul_pos_left (Nat.lt_of_le_of_lt (Nat.zero_le _) a4)
      have e5 := ih (n - t) (lss m) _ _ (by omega) (by omega) (Nat.mod_lt _ pos) (Nat.mod_lt _ pos) e2
      have ew := dm_inj e4 e5
      have hs : rwW c m n = sm n (fun i => (fun s => c s * rwW c (lss m) (n - s)) (1 + i)) := by
        rw [rwW_s ⟨by omega, hn⟩ m0]
        refine sm_congr fun i _ => ?_
        try dsimp only
        rw [Nat.add_comm 1 i]
      exact pk_inj (by rw [← hs]; exact h) (by rw [← hs]; exact h') a1 b1 rfl ew
/-! bags, sets: the greatest first -/
def DSL (once : Bool) : Nat → Nat → List (Nat × Nat) → Prop
  | _, _, [] => True
  | s, F, x :: l => (x.1 < s ∨ (x.1 = s ∧ x.2 < F)) ∧ DSL once x.1 (if once then x.2 else x.2 + 1) l
theorem bgN_up2 {c : Nat → Nat} {once : Bool} {n t s F r : Nat} {m : Int} (hn : 1 ≤ n) (hm : -1 ≤ m) (m0 : m ≠ 0) (t1 : 1 ≤ t) (tn : t ≤ n) (rc : r < c t) (h : t < s ∨ (t = s ∧ r < F)) : bgN c once t m n (r + 1) ≤ bgN c once s m n F := by
  rcases h with h | ⟨h, h'⟩
  · have a : bgN c once t m n (r + 1) ≤ bgN c once t m n (c t) := bgN_mo (by omega)
    refine Nat.le_trans a ?_
    by_cases z : s ≤ n
    · obtain ⟨s', rfl⟩ : ∃ s', s = s' + 1 := ⟨s - 1, by omega⟩
      rw [bg_sum z hm m0, bg_tot hn hm m0 t tn, bg_tot hn hm m0 s' (by omega)]
      exact Nat.le_trans (sm_pre (by omega)) (Nat.le_add_right _ _)
    · obtain ⟨d, rfl⟩ : ∃ d, s = n + d := ⟨s - n, by omega⟩
      rw [bgN_big hm d F (by omega), bg_tot hn hm m0 t tn, bg_tot hn hm m0 n (Nat.le_refl _)]
      exact sm_pre tn
  · subst h
    exact bgN_mo (by omega)
theorem bg_sur {c : Nat → Nat} {once : Bool} : ∀ (f n s F : Nat) (m : Int) (l : List (Nat × Nat)), n ≤ f → -1 ≤ m → okL c l → tot l = n → (0 ≤ m → ((l.length : Nat) : Int) = m) → DSL once s F l → ∃ v, v < bgN c once s m n F ∧ bgL c once f m n v = l := by
  have nil : ∀ (f s F : Nat) (m : Int), (0 ≤ m → (0 : Int) = m) → ∃ v, v < bgN c once s m 0 F ∧ bgL c once f m 0 v = [] := fun f s F m l0 => by
    refine ⟨0, ?_, bgL_0⟩
    rw [bgN_n0, if_pos (by omega)]; exact Nat.zero_lt_one
  intro f
  induction f with
  | zero =>
    intro n s F m l hf hm ok ht hl _
    have n0 : n = 0 := by omega
    subst n0
    have e := ok_tot0 ok ht
    subst e
    exact nil 0 s F m (fun q => hl q)
  | succ f ih =>
    intro n s F m l hf hm ok ht hl ds
    cases l with
    | nil =>
      have n0 : n = 0 := ht.symm
      subst n0
      exact nil (f + 1) s F m (fun q => hl q)
    | cons x l =>
      obtain ⟨t, r⟩ := x
      have a := ok (t, r) (List.mem_cons_self ..)
      dsimp only at a
      have ht' : t + tot l = n := ht
      have l1 : 0 ≤ m → (((l.length + 1 : Nat)) : Int) = m := fun q => by
        have := hl q
        rw [List.length_cons] at this
        exact this
      have m0 : m ≠ 0 := fun z => by have := l1 (by omega); omega
      obtain ⟨d1, d2⟩ := ds
      dsimp only at d1 d2
      obtain ⟨u, u1, u2⟩ := ih (n - t) t (if once then r else r + 1) (lss m) l (by omega) (lss_ge hm m0) (fun y hy => ok y (List.mem_cons_of_mem _ hy)) (by omega) (fun q => by
        unfold lss at q ⊢
        by_cases z : m < 0
        · rw [if_pos z] at q; omega
        · rw [if_neg z]; have := l1 (by omega); omega) d2
      have u1' : u < bgG c once m n t r := u1
      obtain ⟨p1, p2⟩ := pk_mk (g := bgG c once m n t) (c t) 0 r u (Nat.zero_le _) (by omega) u1'
      have z0 : ∀ k, sm k (fun i => bgG c once m n t (0 + i)) = sm k (bgG c once m n t) := fun k => sm_congr fun i _ => by rw [Nat.zero_add]
      rw [z0, z0, Nat.sub_zero] at p2
      rw [z0, Nat.sub_zero] at p1
      obtain ⟨q1, q2⟩ := pk_mk (g := fun s => sm (c s) (bgG c once m n s)) n 1 t (sm r (bgG c once m n t) + u) a.1 (by omega) p2
      refine ⟨sm (t - 1) (fun i => (fun s => sm (c s) (bgG c once m n s)) (1 + i)) + (sm r (bgG c once m n t) + u), Nat.lt_of_lt_of_le ?_ (bgN_up2 (c := c) (once := once) (r := r) (by omega) hm m0 a.1 (by omega) a.2 d1), ?_⟩
      · obtain ⟨t', rfl⟩ : ∃ t', t = t' + 1 := ⟨t - 1, by omega⟩
        rw [bg_sum (by omega) hm m0, bg_tot (by omega) hm m0 t' (by omega), sm_s, Nat.add_sub_cancel]
        try dsimp only
        omega
      · rw [bgL_s (by omega) q1 p1, u2]
theorem bg_inj {c : Nat → Nat} {once : Bool} : ∀ (f n : Nat) (m : Int) (v v' : Nat), n ≤ f → -1 ≤ m → v < bgN c once n m n (c n) → v' < bgN c once n m n (c n) → bgL c once f m n v = bgL c once f m n v' → v = v' := by
  intro f
  induction f with
  | zero =>
    intro n m v v' hf _ h h' _
    have n0 : n = 0 := by omega
    subst n0
    rw [bgN_n0] at h h'
    by_cases z : m ≤ 0
    · rw [if_pos z] at h h'; omega
    · rw [if_neg z] at h; omega
  | succ f ih =>
    intro n m v v' hf hm h h' e
    by_cases n0 : n = 0
    · subst n0
      rw [bgN_n0] at h h'
      by_cases z : m ≤ 0
      · rw [if_pos z] at h h'; omega
      · rw [if_neg z] at h; omega
    · have m0 : m ≠ 0 := fun z => by
        subst z
        rw [bgN_m0 _ _ _ (by omega)] at h; omega
      obtain ⟨t, w, r, u, a1, a2, ⟨a3, a4, a5, a6⟩, a7, a8, a9, a10⟩ := bg_pk (by omega) hm m0 h
      obtain ⟨t', w', r', u', b1, b2, ⟨b3, b4, b5, b6⟩, b7, b8, b9, b10⟩ := bg_pk (by omega) hm m0 h'
      rw [bgL_s (by omega) a1 a2, bgL_s (by omega) b1 b2] at e
      obtain ⟨e1, e2⟩ := List.cons.inj e
      obtain ⟨e3, e4⟩ := Prod.mk.inj e1
      subst e3; subst e4
      have tail : ∀ u, u < bgG c once m n t r → u < bgN c once (n - t) (lss m) (n - t) (c (n - t)) := fun u hu => by
        have lm := lss_ge hm m0
        unfold bgG at hu
        by_cases z : n - t = 0
        · rw [z, bgN_n0] at hu
          rw [z, bgN_n0]; exact hu
        · have l0 : lss m ≠ 0 := fun q => by
            rw [q, bgN_m0 _ _ _ (by omega)] at hu; omega
          have F : (if once = true then r else r + 1) ≤ c t := by split <;> omega
          refine Nat.lt_of_lt_of_le hu ?_
          refine Nat.le_trans (bgN_mo F) ?_
          by_cases y : t ≤ n - t
          · rw [bg_tot (by omega) lm l0 t y, bg_tot (by omega) lm l0 (n - t) (Nat.le_refl _)]
            exact sm_pre y
          · obtain ⟨d, hd⟩ : ∃ d, t = (n - t) + d := ⟨t - (n - t), by omega⟩
            have := bgN_big (c := c) (once := once) (n := n - t) lm d (c t) (by omega)
            rw [← hd] at this
            rw [this]; exact Nat.le_refl _
      have := ih (n - t) (lss m) u u' (by omega) (lss_ge hm m0) (tail u a6) (tail u' b6) e2
      omega
/-- the greatest first, as they are found -/
theorem bg_ds {c : Nat → Nat} {once : Bool} : ∀ (f n v s F : Nat) (m : Int), n ≤ f → -1 ≤ m → v < bgN c once n m n (c n) → v < bgN c once s m n F → F ≤ c s ∨ n < s → DSL once s F (bgL c once f m n v) := by
  intro f
  induction f with
  | zero => intro n v s F m _ _ _ _ _; trivial
  | succ f ih =>
    intro n v s F m hf hm hT hv hF
    by_cases n0 : n = 0
    · subst n0; rw [bgL_0]; trivial
    · have m0 : m ≠ 0 := fun z => by
        subst z
        rw [bgN_m0 _ _ _ (by omega)] at hT; omega
      obtain ⟨t, w, r, u, a1, a2, ⟨a3, a4, a5, a6⟩, a7, a8, a9, a10⟩ := bg_pk (by omega) hm m0 hT
      rw [bgL_s (by omega) a1 a2]
      have lm := lss_ge hm m0
      have a6' := a6
      unfold bgG at a6'
      refine ⟨?_, ?_⟩
      · rcases Nat.lt_trichotomy t s with z | z | z
        · exact Or.inl z
        · refine Or.inr ⟨z, ?_⟩
          subst z
          rcases Nat.lt_or_ge r F with y | y
          · exact y
          · have : bgN c once t m n F ≤ bgN c once t m n r := bgN_mo y
            omega
        · by_cases s1 : 1 ≤ s
          · have a := a7 s s1 z
            have b : bgN c once s m n F ≤ bgN c once s m n (c s) := bgN_mo (by omega)
            omega
          · have s0 : s = 0 := by omega
            subst s0
            have : bgN c once 0 m n F = 0 := if_neg (by omega)
            omega
      · have F' : (if once = true then r else r + 1) ≤ c t := by split <;> omega
        by_cases z : n - t = 0
        · rw [z, bgL_0]; trivial
        · have l0 : lss m ≠ 0 := fun q => by
            rw [q, bgN_m0 _ _ _ (by omega)] at a6'; omega
          refine ih (n - t) u t _ (lss m) (by omega) lm ?_ a6' (Or.inl F')
          refine Nat.lt_of_lt_of_le a6' ?_
          refine Nat.le_trans (bgN_mo F') ?_
          by_cases y : t ≤ n - t
          · rw [bg_tot (by omega) lm l0 t y, bg_tot (by omega) lm l0 (n - t) (Nat.le_refl _)]
            exact sm_pre y
          · obtain ⟨d, hd⟩ : ∃ d, t = (n - t) + d := ⟨t - (n - t), by omega⟩
            have := bgN_big (c := c) (once := once) (n := n - t) lm d (c t) (by omega)
            rw [← hd] at this
            rw [this]; exact Nat.le_refl _
