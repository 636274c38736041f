-- the reference's names: labelled rows
theorem ni61 {S : St} {c j m : Nat} {a1 a2 a4 : Int} {X : Nat → Nat} (hc : c < 30) (hj : 1 ≤ j) (hjm : j ≤ m) (hm : m ≤ 7) (h93 : nb S 93 240 1000000000000) (hX : ∀ t : Nat, t < m → S 95 (((j - 1) * 8 + t : Nat) : Int) = ((min LL (X t) : Nat) : Int)) : ∀ d s f : Nat, s + d = m - j + 1 → d < f → mX12_namedIn_61 S (m : Int) (j : Int) a1 a2 (c : Int) a4 f ((s : Int) + 1) ((min LL (sm s (fun s => cho m (s + 1) * (tb S 93 (c * 8 + (s + 1)) * X (m - (s + 1))))) : Nat) : Int) = some ((min LL (sm (m - j + 1) (fun s => cho m (s + 1) * (tb S 93 (c * 8 + (s + 1)) * X (m - (s + 1))))) : Nat) : Int) := by
  have LE : LL = 100000000000000000 := rfl
  intro d
  induction d with
  | zero =>
    intro s f hi hf
    obtain ⟨g, rfl⟩ : ∃ g, f = g + 1 := ⟨f - 1, by omega⟩
    rw [mX12_namedIn_61, gd_t (by omega), if_pos (by omega), show s = m - j + 1 by omega]
  | succ d ih =>
    intro s f hi hf
    obtain ⟨g, rfl⟩ : ∃ g, f = g + 1 := ⟨f - 1, by omega⟩
    have l := ih (s + 1) g (by omega) (by omega)
    rw [sm_s, ← min_add] at l
    have v1 := h93.at (show c * 8 + (s + 1) < 240 by omega)
    have v2 := hX (m - (s + 1)) (by omega)
    rw [show ((c * 8 + (s + 1) : Nat) : Int) = (c : Int) * 8 + ((s : Int) + 1) by omega] at v1
    rw [show (((j - 1) * 8 + (m - (s + 1)) : Nat) : Int) = (((j : Int) - 1) * 8 + (m : Int)) - ((s : Int) + 1) by omega] at v2
    have cl : ∀ x : Nat, min LL x ≤ 100000000000000000 := fun x => Nat.min_le_left _ _
    have c1 := cl (sm s (fun s => cho m (s + 1) * (tb S 93 (c * 8 + (s + 1)) * X (m - (s + 1)))))
    have c0 := cl (X (m - (s + 1)))
    have c2 := cl (tb S 93 (c * 8 + (s + 1)) * X (m - (s + 1)))
    have c3 := cl (cho m (s + 1) * (tb S 93 (c * 8 + (s + 1)) * X (m - (s + 1))))
    have c4 : cho m (s + 1) ≤ 128 := cho_128 hm
    rw [mX12_namedIn_61, gd_t (by omega), if_neg (by omega), gd_t (by omega), gd_t (by omega), v1.1, v2, bd1_e (e_mulL (by omega) (by omega)), show (s : Int) + 1 = ((s + 1 : Nat) : Int) by omega, bd1_e (e_ofAll hm (by omega)), ← LE, min_mul]
    rw [bd1_e (show mX12_mul ((cho m (s + 1) : Nat) : Int) ((min LL (tb S 93 (c * 8 + (s + 1)) * X (m - (s + 1))) : Nat) : Int) 100000000000000000 = _ from e_mulL (by omega) (by omega)), ← LE, min_mul, bd1_e (e_addL (by omega)), ← LE]
    exact l
/-- the labelled rows of a part's child -/
def rowsOk (S : St) (c : Nat → Nat) (n j m : Nat) : Prop := ∀ a t : Nat, a ≤ 7 → t ≤ n → (a < j ∨ (a = j ∧ t < m) ∨ t < a) → S 95 ((a * 8 + t : Nat) : Int) = ((min LL (tl c a t) : Nat) : Int)
theorem tl_cut {c : Nat → Nat} {j m : Nat} (hj : 1 ≤ j) (hjm : j ≤ m) : sm (m - j + 1) (fun s => cho m (s + 1) * (c (s + 1) * tl c (j - 1) (m - (s + 1)))) = tl c j m := by
  obtain ⟨i, rfl⟩ : ∃ i, j = i + 1 := ⟨j - 1, by omega⟩
  rw [show tl c (i + 1) m = sm m (fun s => cho m (s + 1) * c (s + 1) * tl c i (m - (s + 1))) from rfl, sm_cut (x := m - (i + 1) + 1) (y := m) (f := fun s => cho m (s + 1) * c (s + 1) * tl c i (m - (s + 1))) (by omega) (fun s a b => by rw [tl_small i _ (by omega), Nat.mul_zero])]
  exact sm_congr fun s _ => (Nat.mul_assoc _ _ _).symm
theorem ni48 {c j n : Nat} {a1 a2 : Int} {C : Nat → Nat} (hc : c < 30) (hj : 1 ≤ j) (hjn : j ≤ n) (hn : n ≤ 7) : ∀ (d m f : Nat) (S : St), m + d = n + 1 → j ≤ m → d < f → nb S 93 240 1000000000000 → (∀ s : Nat, s ≤ 7 → tb S 93 (c * 8 + s) = C s) → rowsOk S C n j m → wp (mX12_namedIn_48 (j : Int) a1 a2 (c : Int) (n : Int) f (m : Int) S) (fun S' => rowsOk S' C n (j + 1) 0 ∧ kept [95] [] S S') := by
  intro d
  induction d with
  | zero =>
    intro m f S hi hm hf h93 hC hR
    obtain ⟨g, rfl⟩ : ∃ g, f = g + 1 := ⟨f - 1, by omega⟩
    rw [mX12_namedIn_48, gd_t (by omega), if_pos (by omega), wp_some]
    exact ⟨fun a t x y z => hR a t x y (by omega), fun _ _ _ _ => rfl⟩
  | succ d ih =>
    intro m f S hi hm hf h93 hC hR
    obtain ⟨g, rfl⟩ : ∃ g, f = g + 1 := ⟨f - 1, by omega⟩
    have l := ni61 (S := S) (c := c) (j := j) (m := m) (a1 := a1) (a2 := a2) (a4 := (n : Int)) (X := tl C (j - 1)) hc hj hm (by omega) h93 (fun t ht => hR (j - 1) t (by omega) (by omega) (by omega)) (m - j + 1) 0 FU (by omega) (by unfold FU; omega)
    have cg : sm (m - j + 1) (fun s => cho m (s + 1) * (tb S 93 (c * 8 + (s + 1)) * tl C (j - 1) (m - (s + 1)))) = sm (m - j + 1) (fun s => cho m (s + 1) * (C (s + 1) * tl C (j - 1) (m - (s + 1)))) := sm_congr fun s hs => by rw [hC (s + 1) (by omega)]
    rw [cg, tl_cut hj hm] at l
    rw [mX12_namedIn_48, gd_t (by omega), if_neg (by omega), bd1_e (show mX12_namedIn_61 S (m : Int) (j : Int) a1 a2 (c : Int) (n : Int) FU 1 0 = _ from l), gd_t (by omega), nx_e]
    have hk : (j : Int) * 8 + (m : Int) = ((j * 8 + m : Nat) : Int) := by omega
    rw [hk]
    have e93 : (up S 95 ((j * 8 + m : Nat) : Int) ((min LL (tl C j m) : Nat) : Int)) 93 = S 93 := up_n (by decide)
    have := ih (m + 1) g (up S 95 ((j * 8 + m : Nat) : Int) ((min LL (tl C j m) : Nat) : Int)) (by omega) (by omega) (by omega) (fun q hq => by rw [e93]; exact h93 q hq) (fun s hs => by unfold tb; rw [e93]; exact hC s hs) (fun a t x y z => by
      by_cases e : a * 8 + t = j * 8 + m
      · rw [e, up_eq, show a = j by omega, show t = m by omega]
      · rw [up_nk (by omega)]; exact hR a t x y (by omega))
    rw [show ((m + 1 : Nat) : Int) = (m : Int) + 1 by omega] at this
    refine wp_mono this (fun S' q => ⟨q.1, fun r k a b => ?_⟩)
    rw [q.2 r k a b, up_n (by intro e; exact a (by simp [e]))]
theorem ni37 {c n : Nat} {a1 a2 : Int} {C : Nat → Nat} (hc : c < 30) (hn : n ≤ 7) : ∀ (d j f : Nat) (S : St), j + d = n + 1 → 1 ≤ j → d < f → nb S 93 240 1000000000000 → (∀ s : Nat, s ≤ 7 → tb S 93 (c * 8 + s) = C s) → rowsOk S C n j 0 → wp (mX12_namedIn_37 a1 a2 (c : Int) (n : Int) f (j : Int) S) (fun S' => rowsOk S' C n (n + 1) 0 ∧ kept [95] [] S S') := by
  intro d
  induction d with
  | zero =>
    intro j f S hi hj hf h93 hC hR
    obtain ⟨g, rfl⟩ : ∃ g, f = g + 1 := ⟨f - 1, by omega⟩
    rw [mX12_namedIn_37, gd_t (by omega), if_pos (by omega), wp_some]
    rw [show j = n + 1 by omega] at hR
    exact ⟨hR, fun _ _ _ _ => rfl⟩
  | succ d ih =>
    intro j f S hi hj hf h93 hC hR
    obtain ⟨g, rfl⟩ : ∃ g, f = g + 1 := ⟨f - 1, by omega⟩
    rw [mX12_namedIn_37, gd_t (by omega), if_neg (by omega), wp_bd1]
    refine wp_mono (ni48 (a1 := a1) (a2 := a2) hc hj (by omega) hn (n + 1 - j) j FU S (by omega) (Nat.le_refl _) (by unfold FU; omega) h93 hC (fun a t x y z => hR a t x y (by omega))) (fun S1 q => ?_)
    have e93 : S1 93 = S 93 := q.2.cell 93 (by decide) (by decide)
    have := ih (j + 1) g S1 (by omega) (by omega) (by omega) (fun q hq => by rw [e93]; exact h93 q hq) (fun s hs => by unfold tb; rw [e93]; exact hC s hs) q.1
    rw [show ((j + 1 : Nat) : Int) = (j : Int) + 1 by omega] at this
    exact wp_mono this (fun S' q' => ⟨q'.1, kept.trans q.2 q'.2⟩)
theorem ni3 (a1 a2 a3 a4 : Int) : ∀ (d i f : Nat) (S : St), i + d = 64 → d < f → (∀ j : Nat, j < i → S 95 (j : Int) = 0) → wp (mX12_namedIn_3 a1 a2 a3 a4 f (i : Int) S) (fun S' => (∀ j : Nat, j < 64 → S' 95 (j : Int) = 0) ∧ kept [95] [] S S') := by
  intro d
  induction d with
  | zero =>
    intro i f S hi hf h
    obtain ⟨g, rfl⟩ : ∃ g, f = g + 1 := ⟨f - 1, by omega⟩
    rw [mX12_namedIn_3, gd_t (by omega), if_pos (by omega), wp_some]
    exact ⟨fun j hj => h j (by omega), fun _ _ _ _ => rfl⟩
  | succ d ih =>
    intro i f S hi hf h
    obtain ⟨g, rfl⟩ : ∃ g, f = g + 1 := ⟨f - 1, by omega⟩
    rw [mX12_namedIn_3, gd_t (by omega), if_neg (by omega), gd_t (by omega), nx_e]
    have := ih (i + 1) g (up S 95 (i : Int) 0) (by omega) (by omega) (fun j hj => by
      by_cases e : j = i
      · subst e; exact up_eq
      · rw [up_nk (by omega)]; exact h j (by omega))
    rw [show ((i + 1 : Nat) : Int) = (i : Int) + 1 by omega] at this
    refine wp_mono this (fun S' q => ⟨q.1, fun r k a b => ?_⟩)
    rw [q.2 r k a b, up_n (by intro e; exact a (by simp [e]))]
/-- how many orders of j things are one thing -/
def dv (so : Int) (v : Nat) : Nat := if so = 3 then 1 else if so = 6 then v else fac v
/-- labelled: a part with things in it -/
def nin (so a2 : Int) (C : Nat → Nat) (n : Nat) : Nat := sm (n + 1) (fun v => if a2 = 0 ∨ a2 = (v : Int) then tl C v n / dv so v else 0)
theorem fac_7 : ∀ {v : Nat}, v ≤ 7 → fac v ≤ 5040 := by decide
theorem dv_le {so : Int} {v : Nat} (h : v ≤ 7) : dv so v ≤ 5040 := by
  have := fac_7 h
  unfold dv
  by_cases a : so = 3
  · rw [if_pos a]; omega
  · rw [if_neg a]
    by_cases b : so = 6
    · rw [if_pos b]; omega
    · rw [if_neg b]; exact this
theorem dv_pos {so : Int} {v : Nat} (h : so ≠ 6 ∨ 1 ≤ v) : 1 ≤ dv so v := by
  have := fac_pos v
  unfold dv
  by_cases a : so = 3
  · rw [if_pos a]; exact Nat.le_refl _
  · rw [if_neg a]
    by_cases b : so = 6
    · rw [if_pos b]; omega
    · rw [if_neg b]; exact this
theorem min_div {x z : Nat} (h1 : 1 ≤ z) (h2 : z ≤ 5040) : min CC (min LL x / z) = min CC (x / z) := by
  by_cases h : x ≤ LL
  · rw [Nat.min_eq_right h]
  · rw [show min LL x = LL from Nat.min_eq_left (by omega)]
    have a : CC ≤ LL / z := (Nat.le_div_iff_mul_le h1).mpr (Nat.le_trans (Nat.mul_le_mul_left CC h2) (by decide))
    have b : CC ≤ x / z := Nat.le_trans a (Nat.div_le_div_right (by omega))
    rw [Nat.min_eq_left a, Nat.min_eq_left b]
theorem ni185 {S : St} {n : Nat} {so a2 : Int} {C : Nat → Nat} (hn : n ≤ 7) (hso : inI so) (ha : inI a2) (hR : rowsOk S C n (n + 1) 0) : ∀ d v f : Nat, v + d = n + 1 → (so ≠ 6 ∨ 1 ≤ v) → d < f → mX12_namedIn_185 S so a2 (n : Int) f (v : Int) ((min CC (sm v (fun v => if a2 = 0 ∨ a2 = (v : Int) then tl C v n / dv so v else 0)) : Nat) : Int) = some ((min CC (nin so a2 C n) : Nat) : Int) := by
  intro d
  induction d with
  | zero =>
    intro v f hi hv hf
    obtain ⟨g, rfl⟩ : ∃ g, f = g + 1 := ⟨f - 1, by omega⟩
    rw [mX12_namedIn_185, gd_t (by omega), if_pos (by omega), show v = n + 1 by omega]
    rfl
  | succ d ih =>
    intro v f hi hv hf
    obtain ⟨g, rfl⟩ : ∃ g, f = g + 1 := ⟨f - 1, by omega⟩
    have l := ih (v + 1) g (by omega) (by omega) (by omega)
    rw [sm_s, ← min_add] at l
    have d1 := dv_pos hv
    have d2 := dv_le (so := so) (show v ≤ 7 by omega)
    have cl : ∀ x : Nat, min CC x ≤ 1000000000000 := fun x => Nat.min_le_left _ _
    have c1 := cl (sm v (fun v => if a2 = 0 ∨ a2 = (v : Int) then tl C v n / dv so v else 0))
    have hz : (gd (inI so) <| if so = 3 then (some (1 : Int)) else (if so = 6 then (some (v : Int)) else (bd1 (mX12_factorial (v : Int)) fun r_47 => some (r_47)))) = some ((dv so v : Nat) : Int) := by
      rw [gd_t hso]
      unfold dv
      by_cases a : so = 3
      · rw [if_pos a, if_pos a]; rfl
      · rw [if_neg a, if_neg a]
        by_cases b : so = 6
        · rw [if_pos b, if_pos b]
        · rw [if_neg b, if_neg b, bd1_e (e_factorial (by omega))]
    have hx := hR v n (by omega) (Nat.le_refl _) (by omega)
    rw [show ((v * 8 + n : Nat) : Int) = (v : Int) * 8 + (n : Int) by omega] at hx
    have c0 : min LL (tl C v n) ≤ 100000000000000000 := Nat.min_le_left _ _
    have cd : min LL (tl C v n) / dv so v ≤ 100000000000000000 := Nat.le_trans (Nat.div_le_self _ _) c0
    have hq : ((min LL (tl C v n) : Nat) : Int) / ((dv so v : Nat) : Int) = ((min LL (tl C v n) / dv so v : Nat) : Int) := rfl
    have hm : min (1000000000000 : Int) ((min LL (tl C v n) / dv so v : Nat) : Int) = ((min CC (tl C v n / dv so v) : Nat) : Int) := by
      rw [← min_div d1 d2, CC_eq]; omega
    have c3 := cl (tl C v n / dv so v)
    have hL : ∀ X : Nat, X ≤ 100000000000000000 → inL (X : Int) := fun X h => by omega
    rw [mX12_namedIn_185, gd_t (by omega), if_neg (by omega), bd1_e hz, gd_t ha]
    rw [show ((v + 1 : Nat) : Int) = (v : Int) + 1 by omega] at l
    by_cases z : a2 = 0
    · rw [if_pos (Or.inl z)] at l
      rw [if_pos z, gd_t (by omega), hx, gd_t (by omega), hq, gd_t (hL _ cd), hm, bd1_e (e_addC (Nat.le_trans (Nat.add_le_add c1 c3) (by decide))), ← CC_eq]
      exact l
    · rw [if_neg z]
      by_cases w : a2 = (v : Int)
      · rw [if_pos (Or.inr w)] at l
        rw [if_pos w, gd_t (by omega), hx, gd_t (by omega), hq, gd_t (hL _ cd), hm, bd1_e (e_addC (Nat.le_trans (Nat.add_le_add c1 c3) (by decide))), ← CC_eq]
        exact l
      · rw [if_neg (by omega), Nat.min_zero] at l
        rw [if_neg w, bd1_e (show mX12_add ((min CC (sm v (fun v => if a2 = 0 ∨ a2 = (v : Int) then tl C v n / dv so v else 0)) : Nat) : Int) 0 1000000000000 = _ from e_addC (b := 0) (by rw [Nat.add_zero]; exact Nat.le_trans c1 (by decide))), ← CC_eq]
        exact l
theorem w_namedIn {S : St} {c n : Nat} {so a2 : Int} (hc : c < 30) (hn : n ≤ 7) (hso : inI so) (ha : inI a2) (h93 : nb S 93 240 1000000000000) : wp (mX12_namedIn S so a2 (c : Int) (n : Int)) (fun o => o.1 = ((min CC (nin so a2 (fun s => tb S 93 (c * 8 + s)) n) : Nat) : Int) ∧ kept [95] [] S o.2) := by
  unfold mX12_namedIn
  rw [wp_bd1]
  refine wp_mono (ni3 so a2 (c : Int) (n : Int) 64 0 FU S (by omega) (by unfold FU; omega) (fun j hj => by omega)) (fun S1 q1 => ?_)
  rw [nx_e, wp_bd1]
  have e93 : (up S1 95 0 1) 93 = S 93 := (up_n (by decide)).trans (q1.2.cell 93 (by decide) (by decide))
  refine wp_mono (ni37 (a1 := so) (a2 := a2) (C := fun s => tb S 93 (c * 8 + s)) hc hn n 1 FU (up S1 95 0 1) (by omega) (by omega) (by unfold FU; omega) (fun q hq => by rw [e93]; exact h93 q hq) (fun s hs => by unfold tb; rw [e93]) (fun a t x y z => ?_)) (fun S2 q2 => ?_)
  · by_cases e : a * 8 + t = 0
    · rw [e, show a = 0 by omega, show t = 0 by omega]; exact up_eq
    · rw [up_nk (by omega), q1.1 _ (by omega)]
      by_cases f : a = 0
      · subst f
        rw [show tl (fun s => tb S 93 (c * 8 + s)) 0 t = 0 from if_neg (by omega), Nat.min_zero]; rfl
      · rw [tl_small _ _ (by omega), Nat.min_zero]; rfl
  · have k : kept [95] [] S S2 := fun r k a b => by rw [q2.2 r k a b, up_n (by intro e; exact a (by simp [e])), q1.2 r k a b]
    by_cases z : so = 6
    · have l := ni185 hn hso ha q2.1 n 1 FU (by omega) (by omega) (by unfold FU; omega)
      have z0 : sm 1 (fun v => if a2 = 0 ∨ a2 = (v : Int) then tl (fun s => tb S 93 (c * 8 + s)) v n / dv so v else 0) = 0 := by
        rw [sm_s, sm_0, show dv so 0 = 0 by unfold dv; rw [if_neg (by omega), if_pos z], Nat.div_zero]; simp
      rw [z0, Nat.min_zero] at l
      rw [bd1_e (show (gd (inI so) <| if so = 6 then (some (1 : Int)) else (some 0)) = some 1 by rw [gd_t hso, if_pos z]), bd1_e (show mX12_namedIn_185 S2 so a2 (n : Int) FU 1 0 = _ from l), wp_some]
      exact ⟨rfl, k⟩
    · have l := ni185 hn hso ha q2.1 (n + 1) 0 FU (by omega) (by omega) (by unfold FU; omega)
      rw [sm_0, Nat.min_zero] at l
      rw [bd1_e (show (gd (inI so) <| if so = 6 then (some (1 : Int)) else (some 0)) = some 0 by rw [gd_t hso, if_neg z]), bd1_e (show mX12_namedIn_185 S2 so a2 (n : Int) FU 0 0 = _ from l), wp_some]
      exact ⟨rfl, k⟩
