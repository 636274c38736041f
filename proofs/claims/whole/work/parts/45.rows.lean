/-! the reference lays rows -/
theorem up_eq {S : St} {i : Nat} {k v : Int} : up S i k v i k = v := by unfold up upI; rw [if_pos rfl, if_pos rfl]
theorem up_nk {S : St} {i : Nat} {k v q : Int} (h : q ≠ k) : up S i k v i q = S i q := by unfold up upI; rw [if_pos rfl, if_neg h]
def LL : Nat := 100000000000000000
theorem LL_pos : 1 ≤ LL := by decide
theorem sm_0 {f : Nat → Nat} : sm 0 f = 0 := rfl
theorem sm_s {n : Nat} {f : Nat → Nat} : sm (n + 1) f = sm n f + f n := rfl
theorem e_mulN {a b L : Nat} (ha : a ≤ 9223372036854775807) (hb : b ≤ 9223372036854775807) (hL : L ≤ 9223372036854775807) : mX12_mul (a : Int) (b : Int) (L : Int) = some ((min L (a * b) : Nat) : Int) := by
  rw [e_mul (by omega) (by omega) (by omega)]
  congr 1
  rw [← Int.natCast_mul]
  omega
theorem e_addN {a b L : Nat} (ha : a + b ≤ 9223372036854775807) (hL : L ≤ 9223372036854775807) : mX12_add (a : Int) (b : Int) (L : Int) = some ((min L (a + b) : Nat) : Int) := by
  rw [e_add (by omega) (by omega)]
  congr 1
  omega
theorem e_mulL {a b : Nat} (ha : a ≤ 9223372036854775807) (hb : b ≤ 9223372036854775807) : mX12_mul (a : Int) (b : Int) 100000000000000000 = some ((min 100000000000000000 (a * b) : Nat) : Int) := e_mulN (L := 100000000000000000) ha hb (by decide)
theorem e_mulC {a b : Nat} (ha : a ≤ 9223372036854775807) (hb : b ≤ 9223372036854775807) : mX12_mul (a : Int) (b : Int) 1000000000000 = some ((min 1000000000000 (a * b) : Nat) : Int) := e_mulN (L := 1000000000000) ha hb (by decide)
theorem e_addL {a b : Nat} (ha : a + b ≤ 9223372036854775807) : mX12_add (a : Int) (b : Int) 100000000000000000 = some ((min 100000000000000000 (a + b) : Nat) : Int) := e_addN (L := 100000000000000000) ha (by decide)
theorem e_addC {a b : Nat} (ha : a + b ≤ 9223372036854775807) : mX12_add (a : Int) (b : Int) 1000000000000 = some ((min 1000000000000 (a + b) : Nat) : Int) := e_addN (L := 1000000000000) ha (by decide)
theorem min_add {L A t : Nat} : min L (min L A + min L t) = min L (A + t) := by omega
/-- place of three numbers below 8 -/
def pl (a n k : Nat) : Nat := (a * 8 + n) * 8 + k
theorem e_pl {a n k : Nat} : mX12_place (a : Int) (n : Int) (k : Int) = some ((pl a n k : Nat) : Int) := by
  rw [e_place]
  congr 1
/-- a table of numbers not below 0, not above B -/
def nb (S : St) (i N B : Nat) : Prop := ∀ j : Nat, j < N → ∃ x : Nat, S i (j : Int) = (x : Int) ∧ x ≤ B
/-- what stands there -/
def tb (S : St) (i j : Nat) : Nat := (S i (j : Int)).toNat
theorem nb.at {S : St} {i N B j : Nat} (h : nb S i N B) (hj : j < N) : S i (j : Int) = ((tb S i j : Nat) : Int) ∧ tb S i j ≤ B := by
  obtain ⟨x, h1, h2⟩ := h j hj
  unfold tb
  rw [h1]
  exact ⟨rfl, h2⟩
theorem pl_lt {a n k N : Nat} (hn : n < 8) (hk : k < 8) (ha : a < N) : pl a n k < N * 64 := by
  unfold pl
  omega
/-- the sum over letters of one size -/
theorem lr88 {S : St} {p s k a j n top : Nat} (hp : p < 30) (hs : s ≤ 7) (hk : k ≤ 7) (ha : a ≤ 7) (hsa : s ≤ a) (hj : 1 ≤ j ∧ j ≤ 8) (h90 : nb S 90 1920 1000000000000) (h92 : nb S 92 512 100000000000000000) (X : Nat) : ∀ d i f : Nat, i + d = min s k + 1 → d < f → mX12_laysRows_88 S (s : Int) (k : Int) (a : Int) (j : Int) (p : Int) (n : Int) (top : Int) f (i : Int) ((min 100000000000000000 (X + sm i (fun i => tb S 90 (pl p s i) * tb S 92 (pl (j - 1) (a - s) (k - i)))) : Nat) : Int) = some ((min 100000000000000000 (X + sm (min s k + 1) (fun i => tb S 90 (pl p s i) * tb S 92 (pl (j - 1) (a - s) (k - i)))) : Nat) : Int) := by
  intro d
  induction d with
  | zero =>
    intro i f hi hf
    obtain ⟨g, rfl⟩ : ∃ g, f = g + 1 := ⟨f - 1, by omega⟩
    rw [mX12_laysRows_88, gd_t (by omega), if_pos (by omega), show i = min s k + 1 by omega]
  | succ d ih =>
    intro i f hi hf
    obtain ⟨g, rfl⟩ : ∃ g, f = g + 1 := ⟨f - 1, by omega⟩
    have b1 : pl p s i < 1920 := Nat.lt_of_lt_of_le (pl_lt (by omega) (by omega) hp) (by decide)
    have b2 : pl (j - 1) (a - s) (k - i) < 512 := Nat.lt_of_lt_of_le (pl_lt (by omega) (by omega) (show j - 1 < 8 by omega)) (by decide)
    have q1 := h90.at b1
    have q2 := h92.at b2
    rw [mX12_laysRows_88, gd_t (by omega), if_neg (by omega), bd1_e (e_pl (a := p) (n := s) (k := i)), gd_t (by omega)]
    rw [bd1_e (show mX12_place ((j : Int) - 1) ((a : Int) - (s : Int)) ((k : Int) - (i : Int)) = some ((pl (j - 1) (a - s) (k - i) : Nat) : Int) by
      rw [show (j : Int) - 1 = ((j - 1 : Nat) : Int) by omega, show (a : Int) - (s : Int) = ((a - s : Nat) : Int) by omega, show (k : Int) - (i : Int) = ((k - i : Nat) : Int) by omega]; exact e_pl), gd_t (by omega), q1.1, q2.1]
    rw [bd1_e (e_mulL (by omega) (by omega)), bd1_e (e_addL (by omega)), min_add]
    have := ih (i + 1) g (by omega) (by omega)
    rw [show ((i + 1 : Nat) : Int) = (i : Int) + 1 by omega] at this
    rw [Nat.add_assoc]
    exact this
/-- the sum over sizes -/
theorem lr73 {S : St} {p k a j n top : Nat} (hp : p < 30) (hk : k ≤ 7) (ha : a ≤ 7) (hj : 1 ≤ j ∧ j ≤ a) (h90 : nb S 90 1920 1000000000000) (h92 : nb S 92 512 100000000000000000) : ∀ d s f : Nat, s + d = a - j + 1 → d < f → mX12_laysRows_73 S (k : Int) (a : Int) (j : Int) (p : Int) (n : Int) (top : Int) f ((s + 1 : Nat) : Int) ((min 100000000000000000 (sm s (fun s => sm (min (s + 1) k + 1) (fun i => tb S 90 (pl p (s + 1) i) * tb S 92 (pl (j - 1) (a - (s + 1)) (k - i))))) : Nat) : Int) = some ((min 100000000000000000 (sm (a - j + 1) (fun s => sm (min (s + 1) k + 1) (fun i => tb S 90 (pl p (s + 1) i) * tb S 92 (pl (j - 1) (a - (s + 1)) (k - i))))) : Nat) : Int) := by
  intro d
  induction d with
  | zero =>
    intro s f hs hf
    obtain ⟨g, rfl⟩ : ∃ g, f = g + 1 := ⟨f - 1, by omega⟩
    rw [mX12_laysRows_73, gd_t (by omega), if_pos (by omega), show s = a - j + 1 by omega]
  | succ d ih =>
    intro s f hs hf
    obtain ⟨g, rfl⟩ : ∃ g, f = g + 1 := ⟨f - 1, by omega⟩
    have l := lr88 (S := S) (p := p) (s := s + 1) (k := k) (a := a) (j := j) (n := n) (top := top) hp (by omega) hk ha (by omega) (by omega) h90 h92 (sm s (fun s => sm (min (s + 1) k + 1) (fun i => tb S 90 (pl p (s + 1) i) * tb S 92 (pl (j - 1) (a - (s + 1)) (k - i))))) (min (s + 1) k + 1) 0 FU (by omega) (by unfold FU; omega)
    rw [show ∀ (X : Nat) (F : Nat → Nat), X + sm 0 F = X from fun _ _ => rfl] at l
    rw [mX12_laysRows_73, gd_t (by omega), if_neg (by omega), bd1_e (show mX12_laysRows_88 S ((s + 1 : Nat) : Int) (k : Int) (a : Int) (j : Int) (p : Int) (n : Int) (top : Int) FU 0 _ = some _ from l)]
    have := ih (s + 1) g (by omega) (by omega)
    rw [show ((s + 1 + 1 : Nat) : Int) = ((s + 1 : Nat) : Int) + 1 by omega] at this
    exact this
/-- rows of a stage: those before (j, a, k) are laid, the others are none -/
def rst (L : Nat) (T : Nat → Nat) (n : Nat) (c : Nat → Nat → Nat) (j a k : Nat) : Prop := ∀ j' a' k' : Nat, j' ≤ 7 → a' ≤ 7 → k' ≤ 7 → T (pl j' a' k') = if (j' = 0 ∨ j' < j ∨ (j' = j ∧ (a' < a ∨ (a' = a ∧ k' < k)))) ∧ a' ≤ n then min L (tr c j' a' k') else 0
theorem pl_inj {j a k j' a' k' : Nat} (h : pl j a k = pl j' a' k') (h1 : a ≤ 7) (h2 : k ≤ 7) (h3 : a' ≤ 7) (h4 : k' ≤ 7) : j = j' ∧ a = a' ∧ k = k' := by
  unfold pl at h
  omega
/-- one row's number: what the two sums give -/
theorem row_one {L : Nat} {T : Nat → Nat} {c : Nat → Nat → Nat} {n j a k : Nat} (hj : 1 ≤ j) (hja : j ≤ a) (ha : a ≤ n) (hn : n ≤ 7) (hk : k ≤ 7) (hc : ∀ s i, s < i → i ≤ 7 → c s i = 0) (h : rst L T n c j a k) : min L (sm (a - j + 1) (fun s => sm (min (s + 1) k + 1) (fun i => c (s + 1) i * T (pl (j - 1) (a - (s + 1)) (k - i))))) = min L (tr c j a k) := by
  obtain ⟨q, rfl⟩ : ∃ q, j = q + 1 := ⟨j - 1, by omega⟩
  have e1 : tr c (q + 1) a k = sm (a - (q + 1) + 1) (fun s => sm (min (s + 1) k + 1) (fun i => c (s + 1) i * tr c q (a - (s + 1)) (k - i))) := by
    show s2 a k (fun s i => c s i * tr c q (a - s) (k - i)) = _
    unfold s2
    have cut : ∀ (x y : Nat) (f : Nat → Nat), x ≤ y → (∀ i, x ≤ i → i < y → f i = 0) → sm y f = sm x f := by
      intro x y f hxy hz
      induction y with
      | zero => rw [show x = 0 by omega]
      | succ y ih =>
        by_cases e : x = y + 1
        · rw [e]
        · rw [sm_s, hz y (by omega) (by omega), Nat.add_zero]
          exact ih (by omega) (fun i h1 h2 => hz i h1 (by omega))
    rw [cut (a - (q + 1) + 1) a _ (by omega) (fun s h1 h2 => sm_zero fun i hi => by
      show c (s + 1) i * tr c q (a - (s + 1)) (k - i) = 0
      rw [tr_small q (a - (s + 1)) (k - i) (by omega), Nat.mul_zero])]
    refine sm_congr fun s hs => ?_
    exact cut (min (s + 1) k + 1) (k + 1) _ (by omega) (fun i h1 h2 => by
      show c (s + 1) i * tr c q (a - (s + 1)) (k - i) = 0
      rw [hc (s + 1) i (by omega) (by omega), Nat.zero_mul])
  have cap1 : ∀ (x : Nat) (f g : Nat → Nat), (∀ i, i < x → min L (f i) = min L (g i)) → min L (sm x f) = min L (sm x g) := by
    intro x f g hfg
    induction x with
    | zero => rfl
    | succ x ih =>
      rw [sm_s, sm_s]
      have := ih (fun i hi => hfg i (by omega))
      have := hfg x (by omega)
      omega
  rw [e1]
  refine cap1 _ _ _ fun s hs => cap1 _ _ _ fun i hi => ?_
  rw [h (q + 1 - 1) (a - (s + 1)) (k - i) (by omega) (by omega) (by omega), if_pos (by omega), show q + 1 - 1 = q by omega]
  rcases Nat.eq_zero_or_pos (c (s + 1) i) with z | z
  · rw [z, Nat.zero_mul, Nat.zero_mul]
  · by_cases b : tr c q (a - (s + 1)) (k - i) ≤ L
    · rw [Nat.min_eq_right b]
    · rw [Nat.min_eq_left (show L ≤ tr c q (a - (s + 1)) (k - i) by omega)]
      have x1 : L ≤ c (s + 1) i * L := Nat.le_mul_of_pos_left _ z
      have x2 : L ≤ c (s + 1) i * tr c q (a - (s + 1)) (k - i) := Nat.le_trans (by omega) (Nat.le_mul_of_pos_left _ z)
      omega
theorem nb_up {S : St} {i N B k v : Nat} (h : nb S i N B) (hv : v ≤ B) : nb (up S i (k : Int) (v : Int)) i N B := by
  intro j hj
  by_cases e : j = k
  · subst e; exact ⟨v, up_eq, hv⟩
  · obtain ⟨x, h1, h2⟩ := h j hj
    exact ⟨x, by rw [up_nk (by omega)]; exact h1, h2⟩
theorem tb_up {S : St} {i k v j : Nat} : tb (up S i (k : Int) (v : Int)) i j = if j = k then v else tb S i j := by
  unfold tb
  by_cases e : j = k
  · subst e; rw [up_eq, if_pos rfl]; rfl
  · rw [up_nk (by omega), if_neg e]
/-- the table of counts of a part -/
def cy90 (Y : Int → Int) (p s i : Nat) : Nat := (Y ((pl p s i : Nat) : Int)).toNat
theorem lr56 {Y : Int → Int} {p n top j a : Nat} (hp : p < 30) (hn : n ≤ 7) (htop : top ≤ 7) (hj : 1 ≤ j) (hja : j ≤ a) (ha : a ≤ n) (hY : ∀ q : Nat, q < 1920 → ∃ x : Nat, Y (q : Int) = (x : Int) ∧ x ≤ 1000000000000) (hc : ∀ s i, s < i → i ≤ 7 → cy90 Y p s i = 0) (hz : ∀ k, min a top < k → k ≤ 7 → tr (cy90 Y p) j a k = 0) : ∀ (d k f : Nat) (S : St), k + d = min a top + 1 → d < f → S 90 = Y → nb S 92 512 LL → rst LL (tb S 92) n (cy90 Y p) j a k → wp (mX12_laysRows_56 (a : Int) (j : Int) (p : Int) (n : Int) (top : Int) f (k : Int) S) (fun S' => S' 90 = Y ∧ nb S' 92 512 LL ∧ rst LL (tb S' 92) n (cy90 Y p) j (a + 1) 0) := by
  intro d
  induction d with
  | zero =>
    intro k f S hk hf h90 h92 hr
    obtain ⟨g, rfl⟩ : ∃ g, f = g + 1 := ⟨f - 1, by omega⟩
    rw [mX12_laysRows_56, gd_t (by omega), gd_t (by omega), if_pos (by omega), wp_some]
    refine ⟨h90, h92, fun j' a' k' h1 h2 h3 => ?_⟩
    rw [hr j' a' k' h1 h2 h3]
    by_cases q : j' = j ∧ a' = a ∧ k ≤ k'
    · obtain ⟨rfl, rfl, q⟩ := q
      rw [if_neg (by omega), if_pos (by omega), hz k' (by omega) (by omega), Nat.min_zero]
    · by_cases w : (j' = 0 ∨ j' < j ∨ (j' = j ∧ (a' < a ∨ (a' = a ∧ k' < k)))) ∧ a' ≤ n
      · rw [if_pos w, if_pos (by omega)]
      · rw [if_neg w, if_neg (by omega)]
  | succ d ih =>
    intro k f S hk hf h90 h92 hr
    obtain ⟨g, rfl⟩ : ∃ g, f = g + 1 := ⟨f - 1, by omega⟩
    have hS90 : nb S 90 1920 1000000000000 := fun q hq => by rw [h90]; exact hY q hq
    have ec : ∀ s i, tb S 90 (pl p s i) = cy90 Y p s i := fun s i => by unfold tb cy90; rw [h90]
    have l := lr73 (S := S) (p := p) (k := k) (a := a) (j := j) (n := n) (top := top) hp (by omega) (by omega) ⟨hj, hja⟩ hS90 h92 (a - j + 1) 0 FU (by omega) (by unfold FU; omega)
    have b2 : pl j a k < 512 := Nat.lt_of_lt_of_le (pl_lt (by omega) (by omega) (show j < 8 by omega)) (by decide)
    have e := row_one (T := tb S 92) (c := cy90 Y p) hj hja ha hn (by omega) hc hr
    have l2 : mX12_laysRows_73 S (k : Int) (a : Int) (j : Int) (p : Int) (n : Int) (top : Int) FU 1 0 = some ((min LL (tr (cy90 Y p) j a k) : Nat) : Int) := by
      rw [← e]
      simp only [ec] at l
      exact l
    rw [mX12_laysRows_56, gd_t (by omega), gd_t (by omega), if_neg (by omega), bd1_e l2, bd1_e e_pl, gd_t (by omega), nx_e]
    have := ih (k + 1) g (up S 92 ((pl j a k : Nat) : Int) ((min LL (tr (cy90 Y p) j a k) : Nat) : Int)) (by omega) (by omega) (by rw [up_n (by decide)]; exact h90) (nb_up h92 (Nat.min_le_left _ _)) (fun j' a' k' h1 h2 h3 => by
      rw [tb_up]
      by_cases q : pl j' a' k' = pl j a k
      · obtain ⟨rfl, rfl, rfl⟩ := pl_inj q (by omega) (by omega) (by omega) (by omega)
        rw [if_pos rfl, if_pos (by omega)]
      · have q2 : ¬ (j' = j ∧ a' = a ∧ k' = k) := fun ⟨x, y, z⟩ => q (by rw [x, y, z])
        rw [if_neg q, hr j' a' k' h1 h2 h3]
        by_cases w : (j' = 0 ∨ j' < j ∨ (j' = j ∧ (a' < a ∨ (a' = a ∧ k' < k)))) ∧ a' ≤ n
        · rw [if_pos w, if_pos (by omega)]
        · rw [if_neg w, if_neg (by omega)])
    rw [show ((k + 1 : Nat) : Int) = (k : Int) + 1 by omega] at this
    exact this
theorem lr47 {Y : Int → Int} {p n top j : Nat} (hp : p < 30) (hn : n ≤ 7) (htop : top ≤ 7) (hj : 1 ≤ j) (hY : ∀ q : Nat, q < 1920 → ∃ x : Nat, Y (q : Int) = (x : Int) ∧ x ≤ 1000000000000) (hc : ∀ s i, s < i → i ≤ 7 → cy90 Y p s i = 0) (hz : ∀ a k, a ≤ n → min a top < k → k ≤ 7 → tr (cy90 Y p) j a k = 0) : ∀ (d a f : Nat) (S : St), a + d = n + 1 → j ≤ a → d < f → S 90 = Y → nb S 92 512 LL → rst LL (tb S 92) n (cy90 Y p) j a 0 → wp (mX12_laysRows_47 (j : Int) (p : Int) (n : Int) (top : Int) f (a : Int) S) (fun S' => S' 90 = Y ∧ nb S' 92 512 LL ∧ rst LL (tb S' 92) n (cy90 Y p) j (n + 1) 0) := by
  intro d
  induction d with
  | zero =>
    intro a f S hd hja hf h90 h92 hr
    obtain ⟨g, rfl⟩ : ∃ g, f = g + 1 := ⟨f - 1, by omega⟩
    rw [mX12_laysRows_47, gd_t (by omega), if_pos (by omega), wp_some]
    rw [show a = n + 1 by omega] at hr
    exact ⟨h90, h92, hr⟩
  | succ d ih =>
    intro a f S hd hja hf h90 h92 hr
    obtain ⟨g, rfl⟩ : ∃ g, f = g + 1 := ⟨f - 1, by omega⟩
    rw [mX12_laysRows_47, gd_t (by omega), if_neg (by omega), wp_bd1]
    refine wp_mono (lr56 hp hn htop hj hja (by omega) hY hc (fun k => hz a k (by omega)) (min a top + 1) 0 FU S (by omega) (by unfold FU; omega) h90 h92 hr) (fun S' h => ?_)
    have := ih (a + 1) g S' (by omega) (by omega) (by omega) h.1 h.2.1 h.2.2
    rw [show ((a + 1 : Nat) : Int) = (a : Int) + 1 by omega] at this
    exact this
theorem lr37 {Y : Int → Int} {p n top : Nat} (hp : p < 30) (hn : n ≤ 7) (htop : top ≤ 7) (hY : ∀ q : Nat, q < 1920 → ∃ x : Nat, Y (q : Int) = (x : Int) ∧ x ≤ 1000000000000) (hc : ∀ s i, s < i → i ≤ 7 → cy90 Y p s i = 0) (hz : ∀ j a k, a ≤ n → min a top < k → k ≤ 7 → tr (cy90 Y p) j a k = 0) : ∀ (d j f : Nat) (S : St), j + d = n + 1 → 1 ≤ j → d < f → S 90 = Y → nb S 92 512 LL → rst LL (tb S 92) n (cy90 Y p) j 0 0 → wp (mX12_laysRows_37 (p : Int) (n : Int) (top : Int) f (j : Int) S) (fun S' => S' 90 = Y ∧ nb S' 92 512 LL ∧ rst LL (tb S' 92) n (cy90 Y p) (n + 1) 0 0) := by
  intro d
  induction d with
  | zero =>
    intro j f S hd hj hf h90 h92 hr
    obtain ⟨g, rfl⟩ : ∃ g, f = g + 1 := ⟨f - 1, by omega⟩
    rw [mX12_laysRows_37, gd_t (by omega), if_pos (by omega), wp_some]
    rw [show j = n + 1 by omega] at hr
    exact ⟨h90, h92, hr⟩
  | succ d ih =>
    intro j f S hd hj hf h90 h92 hr
    obtain ⟨g, rfl⟩ : ∃ g, f = g + 1 := ⟨f - 1, by omega⟩
    rw [mX12_laysRows_37, gd_t (by omega), if_neg (by omega), wp_bd1]
    have hr' : rst LL (tb S 92) n (cy90 Y p) j j 0 := fun j' a' k' h1 h2 h3 => by
      rw [hr j' a' k' h1 h2 h3]
      by_cases q : j' = j ∧ a' < j
      · obtain ⟨rfl, q⟩ := q
        rw [if_neg (by omega)]
        by_cases w : a' ≤ n
        · rw [if_pos (by omega), tr_small _ _ _ q, Nat.min_zero]
        · rw [if_neg (by omega)]
      · by_cases w : (j' = 0 ∨ j' < j ∨ (j' = j ∧ (a' < 0 ∨ (a' = 0 ∧ k' < 0)))) ∧ a' ≤ n
        · rw [if_pos w, if_pos (by omega)]
        · rw [if_neg w, if_neg (by omega)]
    refine wp_mono (lr47 hp hn htop hj hY hc (hz j) (n + 1 - j) j FU S (by omega) (by omega) (by unfold FU; omega) h90 h92 hr') (fun S' h => ?_)
    have hr2 : rst LL (tb S' 92) n (cy90 Y p) (j + 1) 0 0 := fun j' a' k' h1 h2 h3 => by
      rw [h.2.2 j' a' k' h1 h2 h3]
      by_cases q : j' = j ∧ n < a'
      · obtain ⟨rfl, q⟩ := q
        rw [if_neg (by omega), if_neg (by omega)]
      · by_cases w : (j' = 0 ∨ j' < j ∨ (j' = j ∧ (a' < n + 1 ∨ (a' = n + 1 ∧ k' < 0)))) ∧ a' ≤ n
        · rw [if_pos w, if_pos (by omega)]
        · rw [if_neg w, if_neg (by omega)]
    have := ih (j + 1) g S' (by omega) (by omega) (by omega) h.1 h.2.1 hr2
    rw [show ((j + 1 : Nat) : Int) = (j : Int) + 1 by omega] at this
    exact this
theorem lr3 {p n top : Int} : ∀ (d v f : Nat) (S : St), v + d = 512 → d < f → (∀ q : Nat, q < v → S 92 (q : Int) = 0) → wp (mX12_laysRows_3 p n top f (v : Int) S) (fun S' => S' 90 = S 90 ∧ ∀ q : Nat, q < 512 → S' 92 (q : Int) = 0) := by
  intro d
  induction d with
  | zero =>
    intro v f S hd hf h
    obtain ⟨g, rfl⟩ : ∃ g, f = g + 1 := ⟨f - 1, by omega⟩
    rw [mX12_laysRows_3, gd_t (by omega), if_pos (by omega), wp_some]
    exact ⟨rfl, fun q hq => h q (by omega)⟩
  | succ d ih =>
    intro v f S hd hf h
    obtain ⟨g, rfl⟩ : ∃ g, f = g + 1 := ⟨f - 1, by omega⟩
    rw [mX12_laysRows_3, gd_t (by omega), if_neg (by omega), gd_t (by omega), nx_e]
    have := ih (v + 1) g (up S 92 (v : Int) 0) (by omega) (by omega) (fun q hq => by
      by_cases e : q = v
      · rw [e]; exact up_eq
      · rw [up_nk (by omega)]; exact h q (by omega))
    rw [show ((v + 1 : Nat) : Int) = (v : Int) + 1 by omega, up_n (by decide)] at this
    exact this
/-- rows of things of a part, by how many, sizes, letters -/
theorem w_laysRows {S : St} {p n top : Nat} (hp : p < 30) (hn : n ≤ 7) (htop : top ≤ 7) (hY : nb S 90 1920 1000000000000) (hc : ∀ s i, s < i → i ≤ 7 → cy90 (S 90) p s i = 0) (hz : ∀ j a k, a ≤ n → min a top < k → k ≤ 7 → tr (cy90 (S 90) p) j a k = 0) : wp (mX12_laysRows S (p : Int) (n : Int) (top : Int)) (fun S' => nb S' 92 512 LL ∧ (∀ j a k : Nat, j ≤ 7 → a ≤ n → k ≤ 7 → tb S' 92 (pl j a k) = min LL (tr (cy90 (S 90) p) j a k)) ∧ kept [92] [] S S') := by
  refine wp_mono (wp_all (P := fun S' => nb S' 92 512 LL ∧ (∀ j a k : Nat, j ≤ 7 → a ≤ n → k ≤ 7 → tb S' 92 (pl j a k) = min LL (tr (cy90 (S 90) p) j a k))) ?_ (fun S' h => fr_mX12_laysRows S _ _ _ S' h)) (fun S' h => ⟨h.1.1, h.1.2, h.2⟩)
  unfold mX12_laysRows
  rw [wp_bd1]
  refine wp_mono (lr3 512 0 FU S (by omega) (by unfold FU; omega) (fun q hq => by omega)) (fun S1 h1 => ?_)
  rw [wp_nx, wp_bd1]
  refine wp_mono (lr37 (Y := S 90) hp hn htop hY hc hz n 1 FU (up S1 92 0 1) (by omega) (by omega) (by unfold FU; omega) (by rw [up_n (by decide)]; exact h1.1) ?_ ?_) (fun S2 h2 => ?_)
  · intro q hq
    by_cases e : q = 0
    · subst e; exact ⟨1, up_eq, LL_pos⟩
    · exact ⟨0, by rw [up_nk (by omega)]; exact h1.2 q hq, Nat.zero_le _⟩
  · intro j' a' k' q1 q2 q3
    have b : pl j' a' k' < 512 := Nat.lt_of_lt_of_le (pl_lt (by omega) (by omega) (show j' < 8 by omega)) (by decide)
    have e : tb (up S1 92 0 1) 92 (pl j' a' k') = if pl j' a' k' = 0 then 1 else tb S1 92 (pl j' a' k') := tb_up (k := 0) (v := 1)
    have z : tb S1 92 (pl j' a' k') = 0 := by unfold tb; rw [h1.2 _ b]; rfl
    rw [e, z]
    by_cases w : j' = 0
    · subst w
      by_cases w2 : a' = 0 ∧ k' = 0
      · obtain ⟨rfl, rfl⟩ := w2
        rw [if_pos (show pl 0 0 0 = 0 from rfl), if_pos (by omega)]
        show 1 = min LL 1
        rw [Nat.min_eq_right LL_pos]
      · rw [if_neg (by unfold pl; omega)]
        by_cases w3 : a' ≤ n
        · rw [if_pos (by omega)]
          show 0 = min _ (if a' = 0 ∧ k' = 0 then 1 else 0)
          rw [if_neg w2, Nat.min_zero]
        · rw [if_neg (by omega)]
    · rw [if_neg (by unfold pl; omega), if_neg (by omega)]
  · rw [wp_some]
    refine ⟨h2.2.1, fun j a k q1 q2 q3 => ?_⟩
    rw [h2.2.2 j a k q1 (by omega) q3]
    by_cases w : j ≤ n
    · rw [if_pos (by omega)]
    · by_cases w0 : j = 0
      · omega
      · rw [if_neg (by omega), tr_small j a k (by omega), Nat.min_zero]
