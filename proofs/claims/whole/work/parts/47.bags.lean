/-! the reference lays bags -/
theorem sm_cut {x y : Nat} {f : Nat → Nat} (hxy : x ≤ y) (hz : ∀ i, x ≤ i → i < y → f i = 0) : sm y f = sm x f := by
  induction y with
  | zero => rw [show x = 0 by omega]
  | succ y ih =>
    by_cases e : x = y + 1
    · rw [e]
    · rw [sm_s, hz y (by omega) (by omega), Nat.add_zero]
      exact ih (by omega) (fun i h1 h2 => hz i h1 (by omega))
theorem addC_evB {w w' : Nat → Nat} {s i : Nat} {T T' : Nat → Nat → Nat → Nat} {j n k : Nat} (hw : ∀ m, m ≤ j → ev (w m) (w' m)) (hT : ∀ j' n' k', j' ≤ j → n' ≤ n → k' ≤ k → ev (T j' n' k') (T' j' n' k')) : ev (addC w s i T j n k) (addC w' s i T' j n k) := by
  refine sm_ev fun m hm => ?_
  by_cases h : m * s ≤ n ∧ m * i ≤ k
  · rw [if_pos h, if_pos h]; exact ev_mul (hw m (by omega)) (hT _ _ _ (by omega) (by omega) (by omega))
  · rw [if_neg h, if_neg h]; exact ev.rf
theorem addC_id {w : Nat → Nat} {s i : Nat} {T : Nat → Nat → Nat → Nat} {j n k : Nat} (h0 : w 0 = 1) (hz : ∀ m, 1 ≤ m → m ≤ j → w m = 0 ∨ n < m * s ∨ k < m * i) : addC w s i T j n k = T j n k := by
  unfold addC
  rw [sm_cut (x := 1) (by omega) (fun m h1 h2 => ?_), sm_s, sm_0, Nat.zero_add, if_pos (by omega), h0, Nat.one_mul]
  · simp
  · by_cases h : m * s ≤ n ∧ m * i ≤ k
    · rw [if_pos h]
      rcases hz m h1 (by omega) with e | e | e
      · rw [e, Nat.zero_mul]
      · omega
      · omega
    · rw [if_neg h]
theorem mul_up {m d s n : Nat} (h : n < m * s) : n < (m + d) * s := Nat.lt_of_lt_of_le h (Nat.mul_le_mul_right _ (by omega))
theorem ab49 {S : St} {A j a k s i n top : Nat} {o : Int} (hA : A ≤ 1000000000000) (ho : o = 0 ∨ o = 1) (hj : j ≤ 7) (ha : a ≤ 7) (hk : k ≤ 7) (hs : 1 ≤ s ∧ s ≤ 7) (hi : i ≤ 7) {O : Nat → Nat → Nat → Nat} (hO : ∀ j' a' k', j' ≤ j → a' < a → k' ≤ k → S 92 ((pl j' a' k' : Nat) : Int) = ((O j' a' k' : Nat) : Int)) (hB : ∀ j' a' k', O j' a' k' ≤ 1000000000000) : ∀ d m f : Nat, m + d = j + 1 → 1 ≤ m → d < f → mX12_addsBags_49 S (k : Int) (j : Int) (a : Int) (A : Int) (s : Int) (i : Int) (n : Int) (top : Int) o f (m : Int) ((min CC (sm m (fun m => if m * s ≤ a ∧ m * i ≤ k then ch (o == 1) A m * O (j - m) (a - m * s) (k - m * i) else 0)) : Nat) : Int) = some ((min CC (addC (ch (o == 1) A) s i O j a k) : Nat) : Int) := by
  intro d
  induction d with
  | zero =>
    intro m f hm h1 hf
    obtain ⟨g, rfl⟩ : ∃ g, f = g + 1 := ⟨f - 1, by omega⟩
    have b1 : m * s ≤ 8 * 7 := Nat.mul_le_mul (by omega) hs.2
    have e : m = j + 1 := by omega
    rw [mX12_addsBags_49, ← Int.natCast_mul, gd_t (by omega)]
    by_cases c : (a : Int) < ((m * s : Nat) : Int)
    · rw [if_pos c, e]; rfl
    · rw [if_neg c, gd_t (by omega), if_pos (by omega), e]; rfl
  | succ d ih =>
    intro m f hm h1 hf
    obtain ⟨g, rfl⟩ : ∃ g, f = g + 1 := ⟨f - 1, by omega⟩
    have b1 : m * s ≤ 8 * 7 := Nat.mul_le_mul (by omega) hs.2
    have b2 : m * i ≤ 8 * 7 := Nat.mul_le_mul (by omega) hi
    have stop : a < m * s ∨ k < m * i → sm m (fun m => if m * s ≤ a ∧ m * i ≤ k then ch (o == 1) A m * O (j - m) (a - m * s) (k - m * i) else 0) = addC (ch (o == 1) A) s i O j a k := by
      intro h
      refine (sm_cut (by omega) (fun q h1 h2 => ?_)).symm
      obtain ⟨r, rfl⟩ : ∃ r, q = m + r := ⟨q - m, by omega⟩
      rcases h with h | h
      · have := mul_up (d := r) h
        rw [if_neg (by omega)]
      · have := mul_up (d := r) h
        rw [if_neg (by omega)]
    rw [mX12_addsBags_49, ← Int.natCast_mul, gd_t (by omega)]
    by_cases c : (a : Int) < ((m * s : Nat) : Int)
    · rw [if_pos c, stop (Or.inl (by omega))]
    · rw [if_neg c, gd_t (by omega), if_neg (by omega), ← Int.natCast_mul, gd_t (by omega)]
      by_cases c2 : (k : Int) < ((m * i : Nat) : Int)
      · rw [if_pos c2, stop (Or.inr (by omega))]
      · have p1 : 1 ≤ m * s := Nat.mul_pos h1 hs.1
        have b : pl (j - m) (a - m * s) (k - m * i) < 512 := Nat.lt_of_lt_of_le (pl_lt (by omega) (by omega) (show j - m < 8 by omega)) (by decide)
        have hv := hO (j - m) (a - m * s) (k - m * i) (by omega) (by omega) (by omega)
        have hvB := hB (j - m) (a - m * s) (k - m * i)
        have cl : ∀ x : Nat, min CC x ≤ 1000000000000 := fun x => Nat.min_le_left _ _
        have a1 := cl (sm m (fun m => if m * s ≤ a ∧ m * i ≤ k then ch (o == 1) A m * O (j - m) (a - m * s) (k - m * i) else 0))
        have a2 := cl (ch (o == 1) A m)
        rw [if_neg c2, bd1_e (e_chosen hA (by omega) ho)]
        rw [bd1_e (show mX12_place ((j : Int) - (m : Int)) ((a : Int) - ((m * s : Nat) : Int)) ((k : Int) - ((m * i : Nat) : Int)) = some ((pl (j - m) (a - m * s) (k - m * i) : Nat) : Int) by
          rw [show (j : Int) - (m : Int) = ((j - m : Nat) : Int) by omega, show (a : Int) - ((m * s : Nat) : Int) = ((a - m * s : Nat) : Int) by omega, show (k : Int) - ((m * i : Nat) : Int) = ((k - m * i : Nat) : Int) by omega]; exact e_pl), gd_t (by omega), hv, bd1_e (e_mulC (by omega) (by omega))]
        have a3 := cl (min CC (ch (o == 1) A m) * O (j - m) (a - m * s) (k - m * i))
        rw [bd1_e (e_addC (by rw [CC_eq] at a3 a1 ⊢; omega))]
        have ih' := ih (m + 1) g (by omega) (by omega) (by omega)
        rw [sm_s, if_pos (by omega), show ((m + 1 : Nat) : Int) = (m : Int) + 1 by omega] at ih'
        have e : min 1000000000000 (min CC (sm m (fun m => if m * s ≤ a ∧ m * i ≤ k then ch (o == 1) A m * O (j - m) (a - m * s) (k - m * i) else 0)) + min 1000000000000 (min CC (ch (o == 1) A m) * O (j - m) (a - m * s) (k - m * i))) = min CC (sm m (fun m => if m * s ≤ a ∧ m * i ≤ k then ch (o == 1) A m * O (j - m) (a - m * s) (k - m * i) else 0) + ch (o == 1) A m * O (j - m) (a - m * s) (k - m * i)) := by
          have q : ev (min CC (ch (o == 1) A m) * O (j - m) (a - m * s) (k - m * i)) (ch (o == 1) A m * O (j - m) (a - m * s) (k - m * i)) := ev_mul (by unfold ev; rw [Nat.min_eq_right (Nat.min_le_left _ _)]) ev.rf
          unfold ev at q
          show min CC (min CC _ + min CC (min CC (ch (o == 1) A m) * O (j - m) (a - m * s) (k - m * i))) = _
          rw [q, min_add]
        rw [e]
        exact ih'
/-- numbers above n: none -/
def zab (S : St) (n : Nat) : Prop := ∀ q : Nat, 64 * (n + 1) ≤ q → q < 512 → S 92 (q : Int) = 0
theorem zab_up {S : St} {n j a k : Nat} {v : Int} (h : zab S n) (hj : j ≤ n) (ha : a ≤ 7) (hk : k ≤ 7) : zab (up S 92 ((pl j a k : Nat) : Int) v) n := fun q h1 h2 => by
  rw [up_nk (by unfold pl; omega)]
  exact h q h1 h2
def stg (S : St) (n top : Nat) (N O : Nat → Nat → Nat → Nat) (a j k : Nat) : Prop := (∀ j' a' k' : Nat, j' ≤ n → a' ≤ n → k' ≤ top → S 92 ((pl j' a' k' : Nat) : Int) = ((if a < a' ∨ (a' = a ∧ (j' < j ∨ (j' = j ∧ k' < k))) then N j' a' k' else O j' a' k' : Nat) : Int)) ∧ zab S n
theorem ab23 {A a s i n top j : Nat} {o : Int} (hA : A ≤ 1000000000000) (ho : o = 0 ∨ o = 1) (hn : n ≤ 7) (htop : top ≤ 7) (hs : 1 ≤ s ∧ s ≤ 7) (hi : i ≤ 7) (hj : 1 ≤ j ∧ j ≤ n) (ha : a ≤ n) {O : Nat → Nat → Nat → Nat} (hB : ∀ j' a' k', O j' a' k' ≤ 1000000000000) : ∀ (d k f : Nat) (S : St), k + d = top + 1 → d < f → stg S n top (fun j a k => min CC (addC (ch (o == 1) A) s i O j a k)) O a j k → wp (mX12_addsBags_23 (j : Int) (a : Int) (A : Int) (s : Int) (i : Int) (n : Int) (top : Int) o f (k : Int) S) (fun S' => stg S' n top (fun j a k => min CC (addC (ch (o == 1) A) s i O j a k)) O a (j + 1) 0) := by
  intro d
  induction d with
  | zero =>
    intro k f S hk hf hS
    obtain ⟨g, rfl⟩ : ∃ g, f = g + 1 := ⟨f - 1, by omega⟩
    rw [mX12_addsBags_23, gd_t (by omega), if_pos (by omega), wp_some]
    refine ⟨fun j' a' k' h1 h2 h3 => ?_, hS.2⟩
    rw [hS.1 j' a' k' h1 h2 h3]
    by_cases w : a < a' ∨ (a' = a ∧ (j' < j ∨ (j' = j ∧ k' < k)))
    · rw [if_pos w, if_pos (by omega)]
    · rw [if_neg w, if_neg (by omega)]
  | succ d ih =>
    intro k f S hk hf hS
    obtain ⟨g, rfl⟩ : ∃ g, f = g + 1 := ⟨f - 1, by omega⟩
    have b : pl j a k < 512 := Nat.lt_of_lt_of_le (pl_lt (by omega) (by omega) (show j < 8 by omega)) (by decide)
    have e0 : S 92 ((pl j a k : Nat) : Int) = ((O j a k : Nat) : Int) := by rw [hS.1 j a k (by omega) ha (by omega), if_neg (by omega)]
    have l := ab49 (S := S) (A := A) (j := j) (a := a) (k := k) (s := s) (i := i) (n := n) (top := top) (o := o) hA ho (by omega) (by omega) (by omega) hs hi (O := O) (fun j' a' k' q1 q2 q3 => by rw [hS.1 j' a' k' (by omega) (by omega) (by omega), if_neg (by omega)]) hB j 1 FU (by omega) (by omega) (by unfold FU; omega)
    have e1 : min CC (sm 1 (fun m => if m * s ≤ a ∧ m * i ≤ k then ch (o == 1) A m * O (j - m) (a - m * s) (k - m * i) else 0)) = O j a k := by
      rw [sm_s, sm_0, Nat.zero_add, if_pos (by omega), show ch (o == 1) A 0 = 1 by unfold ch; rw [if_pos rfl], Nat.one_mul]
      simp only [Nat.zero_mul, Nat.sub_zero]
      have := hB j a k
      rw [CC_eq]; omega
    rw [e1] at l
    rw [mX12_addsBags_23, gd_t (by omega), if_neg (by omega), bd1_e e_pl, gd_t (by omega), nx_e, e0, bd1_e (show mX12_addsBags_49 S (k : Int) (j : Int) (a : Int) (A : Int) (s : Int) (i : Int) (n : Int) (top : Int) o FU 1 _ = _ from l), bd1_e e_pl, gd_t (by omega), nx_e]
    have := ih (k + 1) g (up S 92 ((pl j a k : Nat) : Int) ((min CC (addC (ch (o == 1) A) s i O j a k) : Nat) : Int)) (by omega) (by omega) ⟨fun j' a' k' h1 h2 h3 => by
      by_cases q : pl j' a' k' = pl j a k
      · obtain ⟨rfl, rfl, rfl⟩ := pl_inj q (by omega) (by omega) (by omega) (by omega)
        rw [up_eq, if_pos (by omega)]
      · have q2 : ¬ (j' = j ∧ a' = a ∧ k' = k) := fun ⟨x, y, z⟩ => q (by rw [x, y, z])
        rw [up_nk (by omega), hS.1 j' a' k' h1 h2 h3]
        by_cases w : a < a' ∨ (a' = a ∧ (j' < j ∨ (j' = j ∧ k' < k)))
        · rw [if_pos w, if_pos (by omega)]
        · rw [if_neg w, if_neg (by omega)], zab_up hS.2 hj.2 (by omega) (by omega)⟩
    rw [show ((k + 1 : Nat) : Int) = (k : Int) + 1 by omega] at this
    exact this
theorem ab13 {A a s i n top : Nat} {o : Int} (hA : A ≤ 1000000000000) (ho : o = 0 ∨ o = 1) (hn : n ≤ 7) (htop : top ≤ 7) (hs : 1 ≤ s ∧ s ≤ 7) (hi : i ≤ 7) (ha : a ≤ n) {O : Nat → Nat → Nat → Nat} (hB : ∀ j' a' k', O j' a' k' ≤ 1000000000000) : ∀ (d j f : Nat) (S : St), j + d = n + 1 → 1 ≤ j → d < f → stg S n top (fun j a k => min CC (addC (ch (o == 1) A) s i O j a k)) O a j 0 → wp (mX12_addsBags_13 (a : Int) (A : Int) (s : Int) (i : Int) (n : Int) (top : Int) o f (j : Int) S) (fun S' => stg S' n top (fun j a k => min CC (addC (ch (o == 1) A) s i O j a k)) O a (n + 1) 0) := by
  intro d
  induction d with
  | zero =>
    intro j f S hd hj hf hS
    obtain ⟨g, rfl⟩ : ∃ g, f = g + 1 := ⟨f - 1, by omega⟩
    rw [mX12_addsBags_13, gd_t (by omega), if_pos (by omega), wp_some]
    rw [show j = n + 1 by omega] at hS
    exact hS
  | succ d ih =>
    intro j f S hd hj hf hS
    obtain ⟨g, rfl⟩ : ∃ g, f = g + 1 := ⟨f - 1, by omega⟩
    rw [mX12_addsBags_13, gd_t (by omega), if_neg (by omega), wp_bd1]
    refine wp_mono (ab23 hA ho hn htop hs hi ⟨hj, by omega⟩ ha hB (top + 1) 0 FU S (by omega) (by unfold FU; omega) hS) (fun S' h => ?_)
    have := ih (j + 1) g S' (by omega) (by omega) (by omega) h
    rw [show ((j + 1 : Nat) : Int) = (j : Int) + 1 by omega] at this
    exact this
theorem ab4 {A s i n top : Nat} {o : Int} (hA : A ≤ 1000000000000) (ho : o = 0 ∨ o = 1) (hn : n ≤ 7) (htop : top ≤ 7) (hs : 1 ≤ s ∧ s ≤ 7) (hi : i ≤ 7) {O : Nat → Nat → Nat → Nat} (hB : ∀ j' a' k', O j' a' k' ≤ 1000000000000) : ∀ (d f : Nat) (S : St) (v : Int), v = (s : Int) - 1 + d → v ≤ n → d < f → (∀ j' a' k' : Nat, j' ≤ n → a' ≤ n → k' ≤ top → S 92 ((pl j' a' k' : Nat) : Int) = ((if v < a' then min CC (addC (ch (o == 1) A) s i O j' a' k') else O j' a' k' : Nat) : Int)) → zab S n → wp (mX12_addsBags_4 (A : Int) (s : Int) (i : Int) (n : Int) (top : Int) o f v S) (fun S' => (∀ j' a' k' : Nat, j' ≤ n → a' ≤ n → k' ≤ top → S' 92 ((pl j' a' k' : Nat) : Int) = ((min CC (addC (ch (o == 1) A) s i O j' a' k') : Nat) : Int)) ∧ zab S' n) := by
  intro d
  induction d with
  | zero =>
    intro f S v hv hvn hf hS hzb
    obtain ⟨g, rfl⟩ : ∃ g, f = g + 1 := ⟨f - 1, by omega⟩
    rw [mX12_addsBags_4, gd_t (by omega), if_pos (by omega), wp_some]
    refine ⟨fun j' a' k' h1 h2 h3 => ?_, hzb⟩
    rw [hS j' a' k' h1 h2 h3]
    by_cases w : v < (a' : Int)
    · rw [if_pos w]
    · rw [if_neg w, addC_id (by unfold ch; rw [if_pos rfl]) (fun m m1 m2 => Or.inr (Or.inl (Nat.lt_of_lt_of_le (show a' < s by omega) (Nat.le_mul_of_pos_left _ m1))))]
      have := hB j' a' k'
      rw [CC_eq]; congr 1; omega
  | succ d ih =>
    intro f S v hv hvn hf hS hzb
    obtain ⟨g, rfl⟩ : ∃ g, f = g + 1 := ⟨f - 1, by omega⟩
    obtain ⟨a, rfl⟩ : ∃ a : Nat, v = (a : Int) := ⟨v.toNat, by omega⟩
    rw [mX12_addsBags_4, gd_t (by omega), if_neg (by omega), wp_bd1]
    refine wp_mono (ab13 hA ho hn htop hs hi (a := a) (by omega) hB n 1 FU S (by omega) (by omega) (by unfold FU; omega) ⟨fun j' a' k' h1 h2 h3 => ?_, hzb⟩) (fun S' h => ?_)
    · rw [hS j' a' k' h1 h2 h3]
      by_cases w : (a : Int) < (a' : Int)
      · rw [if_pos w, if_pos (by omega)]
      · rw [if_neg w]
        by_cases w2 : a' = a ∧ j' = 0
        · obtain ⟨rfl, rfl⟩ := w2
          rw [if_pos (by omega)]
          show ((O 0 a' k' : Nat) : Int) = ((min CC (addC (ch (o == 1) A) s i O 0 a' k') : Nat) : Int)
          rw [addC_id (by unfold ch; rw [if_pos rfl]) (fun m m1 m2 => by omega)]
          have := hB 0 a' k'
          rw [CC_eq]; congr 1; omega
        · rw [if_neg (by omega)]
    · refine ih g S' ((a : Int) - 1) (by omega) (by omega) (by omega) (fun j' a' k' h1 h2 h3 => ?_) h.2
      rw [h.1 j' a' k' h1 h2 h3]
      by_cases w : a < a' ∨ (a' = a ∧ (j' < n + 1 ∨ (j' = n + 1 ∧ k' < 0)))
      · rw [if_pos w, if_pos (by omega)]
      · rw [if_neg w, if_neg (by omega)]
theorem w_addsBags {S : St} {A s i n top : Nat} {o : Int} (hA : A ≤ 1000000000000) (ho : o = 0 ∨ o = 1) (hn : n ≤ 7) (htop : top ≤ 7) (hs : 1 ≤ s ∧ s ≤ n) (hi : i ≤ 7) {D : Nat → Nat → Nat → Nat} (hS : ∀ j' a' k' : Nat, j' ≤ n → a' ≤ n → k' ≤ top → S 92 ((pl j' a' k' : Nat) : Int) = ((min CC (D j' a' k') : Nat) : Int)) (hzb : zab S n) : wp (mX12_addsBags S (A : Int) (s : Int) (i : Int) (n : Int) (top : Int) o) (fun S' => (∀ j' a' k' : Nat, j' ≤ n → a' ≤ n → k' ≤ top → S' 92 ((pl j' a' k' : Nat) : Int) = ((min CC (addC (ch (o == 1) A) s i D j' a' k') : Nat) : Int)) ∧ zab S' n) := by
  unfold mX12_addsBags
  rw [wp_bd1]
  refine wp_mono (ab4 hA ho hn htop (by omega) hi (O := fun j a k => min CC (D j a k)) (fun _ _ _ => Nat.min_le_left _ _) (n + 1 - s) FU S (n : Int) (by omega) (by omega) (by unfold FU; omega) (fun j' a' k' h1 h2 h3 => by rw [hS j' a' k' h1 h2 h3, if_neg (by omega)]) hzb) (fun S' h => ?_)
  rw [wp_some]
  refine ⟨fun j' a' k' h1 h2 h3 => ?_, h.2⟩
  rw [h.1 j' a' k' h1 h2 h3]
  congr 1
  exact addC_evB (fun m _ => ev.rf) (fun j n k _ _ _ => by unfold ev; rw [Nat.min_eq_right (Nat.min_le_left _ _)])
theorem lb46 {Y : Int → Int} {p n top s : Nat} {o : Int} (ho : o = 0 ∨ o = 1) (hp : p < 30) (hn : n ≤ 7) (htop : top ≤ 7) (hs : 1 ≤ s ∧ s ≤ n) (hY : ∀ q : Nat, q < 1920 → ∃ x : Nat, Y (q : Int) = (x : Int) ∧ x ≤ 1000000000000) {D : Nat → Nat → Nat → Nat} : ∀ (d i f : Nat) (S : St), i + d = min s top + 1 → d < f → S 90 = Y → (∀ j' a' k' : Nat, j' ≤ n → a' ≤ n → k' ≤ top → S 92 ((pl j' a' k' : Nat) : Int) = ((min CC (bgI (o == 1) (cy90 Y p) s D i j' a' k') : Nat) : Int)) → zab S n → wp (mX12_laysBags_46 (s : Int) (p : Int) (n : Int) (top : Int) o f (i : Int) S) (fun S' => S' 90 = Y ∧ (∀ j' a' k' : Nat, j' ≤ n → a' ≤ n → k' ≤ top → S' 92 ((pl j' a' k' : Nat) : Int) = ((min CC (bgI (o == 1) (cy90 Y p) s D (min s top + 1) j' a' k') : Nat) : Int)) ∧ zab S' n) := by
  intro d
  induction d with
  | zero =>
    intro i f S hd hf h90 hS hzb
    obtain ⟨g, rfl⟩ : ∃ g, f = g + 1 := ⟨f - 1, by omega⟩
    rw [mX12_laysBags_46, gd_t (by omega), gd_t (by omega), if_pos (by omega), wp_some]
    rw [show i = min s top + 1 by omega] at hS
    exact ⟨h90, hS, hzb⟩
  | succ d ih =>
    intro i f S hd hf h90 hS hzb
    obtain ⟨g, rfl⟩ : ∃ g, f = g + 1 := ⟨f - 1, by omega⟩
    have b : pl p s i < 1920 := Nat.lt_of_lt_of_le (pl_lt (by omega) (by omega) hp) (by decide)
    obtain ⟨x, x1, x2⟩ := hY _ b
    have xc : cy90 Y p s i = x := by unfold cy90; rw [x1]; rfl
    have xS : S 90 ((pl p s i : Nat) : Int) = (x : Int) := by rw [h90]; exact x1
    rw [mX12_laysBags_46, gd_t (by omega), gd_t (by omega), if_neg (by omega), bd1_e e_pl, gd_t (by omega), xS, gd_t (by omega)]
    by_cases z : (x : Int) ≤ 0
    · rw [if_pos z]
      have := ih (i + 1) g S (by omega) (by omega) h90 (fun j' a' k' h1 h2 h3 => by
        rw [hS j' a' k' h1 h2 h3]
        show _ = ((min CC (addC (ch (o == 1) (cy90 Y p s i)) s i (bgI (o == 1) (cy90 Y p) s D i) j' a' k') : Nat) : Int)
        rw [addC_id (by unfold ch; rw [if_pos rfl]) (fun m m1 m2 => Or.inl (by rw [xc, show x = 0 by omega]; exact ch_zero m1))]) hzb
      rw [show ((i + 1 : Nat) : Int) = (i : Int) + 1 by omega] at this
      exact this
    · rw [if_neg z, bd1_e e_pl, gd_t (by omega), xS, wp_bd1]
      have hk := fr_mX12_addsBags S (x : Int) (s : Int) (i : Int) (n : Int) (top : Int) o
      refine wp_mono (wp_all (Q := fun S' => kept [92] [] S S') (w_addsBags (S := S) (A := x) (D := bgI (o == 1) (cy90 Y p) s D i) x2 ho hn htop hs (show i ≤ 7 by omega) hS hzb) hk) (fun S' h => ?_)
      have := ih (i + 1) g S' (by omega) (by omega) (by rw [h.2.cell 90 (by decide) (by decide)]; exact h90) (fun j' a' k' h1 h2 h3 => by
        rw [h.1.1 j' a' k' h1 h2 h3]
        show _ = ((min CC (addC (ch (o == 1) (cy90 Y p s i)) s i (bgI (o == 1) (cy90 Y p) s D i) j' a' k') : Nat) : Int)
        rw [xc]) h.1.2
      rw [show ((i + 1 : Nat) : Int) = (i : Int) + 1 by omega] at this
      exact this
theorem lb37 {Y : Int → Int} {p n top : Nat} {o : Int} (ho : o = 0 ∨ o = 1) (hp : p < 30) (hn : n ≤ 7) (htop : top ≤ 7) (hY : ∀ q : Nat, q < 1920 → ∃ x : Nat, Y (q : Int) = (x : Int) ∧ x ≤ 1000000000000) : ∀ (d s f : Nat) (S : St), s + d = n → d < f → S 90 = Y → (∀ j' a' k' : Nat, j' ≤ n → a' ≤ n → k' ≤ top → S 92 ((pl j' a' k' : Nat) : Int) = ((min CC (bgS (o == 1) (cy90 Y p) (fun s => min s top) s j' a' k') : Nat) : Int)) → zab S n → wp (mX12_laysBags_37 (p : Int) (n : Int) (top : Int) o f ((s + 1 : Nat) : Int) S) (fun S' => (∀ j' a' k' : Nat, j' ≤ n → a' ≤ n → k' ≤ top → S' 92 ((pl j' a' k' : Nat) : Int) = ((min CC (bgS (o == 1) (cy90 Y p) (fun s => min s top) n j' a' k') : Nat) : Int)) ∧ zab S' n) := by
  intro d
  induction d with
  | zero =>
    intro s f S hd hf h90 hS hzb
    obtain ⟨g, rfl⟩ : ∃ g, f = g + 1 := ⟨f - 1, by omega⟩
    rw [mX12_laysBags_37, gd_t (by omega), if_pos (by omega), wp_some]
    rw [show s = n by omega] at hS
    exact ⟨hS, hzb⟩
  | succ d ih =>
    intro s f S hd hf h90 hS hzb
    obtain ⟨g, rfl⟩ : ∃ g, f = g + 1 := ⟨f - 1, by omega⟩
    rw [mX12_laysBags_37, gd_t (by omega), if_neg (by omega), wp_bd1]
    refine wp_mono (lb46 ho hp hn htop (s := s + 1) (by omega) hY (D := bgS (o == 1) (cy90 Y p) (fun s => min s top) s) (min (s + 1) top + 1) 0 FU S (by omega) (by unfold FU; omega) h90 hS hzb) (fun S' h => ?_)
    have := ih (s + 1) g S' (by omega) (by omega) h.1 h.2.1 h.2.2
    rw [show ((s + 1 + 1 : Nat) : Int) = ((s + 1 : Nat) : Int) + 1 by omega] at this
    exact this
theorem lb3 {p n top o : Int} : ∀ (d v f : Nat) (S : St), v + d = 512 → d < f → (∀ q : Nat, q < v → S 92 (q : Int) = 0) → wp (mX12_laysBags_3 p n top o f (v : Int) S) (fun S' => S' 90 = S 90 ∧ ∀ q : Nat, q < 512 → S' 92 (q : Int) = 0) := by
  intro d
  induction d with
  | zero =>
    intro v f S hd hf h
    obtain ⟨g, rfl⟩ : ∃ g, f = g + 1 := ⟨f - 1, by omega⟩
    rw [mX12_laysBags_3, gd_t (by omega), if_pos (by omega), wp_some]
    exact ⟨rfl, fun q hq => h q (by omega)⟩
  | succ d ih =>
    intro v f S hd hf h
    obtain ⟨g, rfl⟩ : ∃ g, f = g + 1 := ⟨f - 1, by omega⟩
    rw [mX12_laysBags_3, gd_t (by omega), if_neg (by omega), gd_t (by omega), nx_e]
    have := ih (v + 1) g (up S 92 (v : Int) 0) (by omega) (by omega) (fun q hq => by
      by_cases e : q = v
      · rw [e]; exact up_eq
      · rw [up_nk (by omega)]; exact h q (by omega))
    rw [show ((v + 1 : Nat) : Int) = (v : Int) + 1 by omega, up_n (by decide)] at this
    exact this
/-- bags (sets) of things of a part -/
theorem w_laysBags {S : St} {p n top : Nat} {o : Int} (ho : o = 0 ∨ o = 1) (hp : p < 30) (hn : n ≤ 7) (htop : top ≤ 7) (hY : nb S 90 1920 1000000000000) : wp (mX12_laysBags S (p : Int) (n : Int) (top : Int) o) (fun S' => (∀ j' a' k' : Nat, j' ≤ n → a' ≤ n → k' ≤ top → S' 92 ((pl j' a' k' : Nat) : Int) = ((min CC (bgS (o == 1) (cy90 (S 90) p) (fun s => min s top) n j' a' k') : Nat) : Int)) ∧ zab S' n ∧ kept [92] [] S S') := by
  refine wp_mono (wp_all (P := fun S' => (∀ j' a' k' : Nat, j' ≤ n → a' ≤ n → k' ≤ top → S' 92 ((pl j' a' k' : Nat) : Int) = ((min CC (bgS (o == 1) (cy90 (S 90) p) (fun s => min s top) n j' a' k') : Nat) : Int)) ∧ zab S' n) ?_ (fun S' h => fr_mX12_laysBags S _ _ _ _ S' h)) (fun S' h => ⟨h.1.1, h.1.2, h.2⟩)
  unfold mX12_laysBags
  rw [wp_bd1]
  refine wp_mono (lb3 512 0 FU S (by omega) (by unfold FU; omega) (fun q hq => by omega)) (fun S1 h1 => ?_)
  rw [wp_nx, wp_bd1]
  refine wp_mono (lb37 (Y := S 90) ho hp hn htop hY n 0 FU (up S1 92 0 1) (by omega) (by unfold FU; omega) (by rw [up_n (by decide)]; exact h1.1) (fun j' a' k' q1 q2 q3 => ?_) (fun q q1 q2 => by rw [up_nk (by omega)]; exact h1.2 q q2)) (fun S2 h2 => ?_)
  · have b : pl j' a' k' < 512 := Nat.lt_of_lt_of_le (pl_lt (by omega) (by omega) (show j' < 8 by omega)) (by decide)
    show _ = ((min CC (if j' = 0 ∧ a' = 0 ∧ k' = 0 then 1 else 0) : Nat) : Int)
    by_cases w : j' = 0 ∧ a' = 0 ∧ k' = 0
    · obtain ⟨rfl, rfl, rfl⟩ := w
      rw [if_pos (by omega)]
      exact up_eq
    · rw [if_neg w, up_nk (by unfold pl; omega), h1.2 _ b, Nat.min_zero]
      rfl
  · rw [wp_some]
    exact h2
