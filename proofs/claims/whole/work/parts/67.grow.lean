/-! rows, weighted -/
theorem smL {L n : Nat} {f g : Nat → Nat} (h : ∀ i, i < n → min L (f i) = min L (g i)) : min L (sm n f) = min L (sm n g) := by
  induction n with
  | zero => rfl
  | succ n ih =>
    have a := ih (fun i hi => h i (by omega))
    have b := h n (by omega)
    rw [sm_s, sm_s]
    omega
theorem mulL {L x y z : Nat} (h : min L y = min L z) : min L (x * y) = min L (x * z) := by
  rw [← min_mul (c := x) (x := y), h, min_mul]
def trw (lab : Bool) (c : Nat → Nat → Nat) : Nat → Nat → Nat → Nat
  | 0, n, k => if n = 0 ∧ k = 0 then 1 else 0
  | j + 1, n, k => s2 n k (fun s i => wt lab n s * c s i * trw lab c j (n - s) (k - i))
theorem trw_f {c : Nat → Nat → Nat} : ∀ j n k, trw false c j n k = tr c j n k := by
  intro j
  induction j with
  | zero => intro n k; rfl
  | succ j ih =>
    intro n k
    refine s2_congr fun s i _ _ _ => ?_
    rw [ih, show wt false n s = 1 from rfl, Nat.one_mul]
theorem trw_t {c : Nat → Nat → Nat} : ∀ j n, trw true c j n 0 = tl (fun s => c s 0) j n := by
  intro j
  induction j with
  | zero => intro n; show (if n = 0 ∧ (0 : Nat) = 0 then 1 else 0) = if n = 0 then 1 else 0; simp
  | succ j ih =>
    intro n
    refine sm_congr fun s hs => ?_
    rw [sm_s, sm_0, Nat.zero_add]
    show wt true n (s + 1) * c (s + 1) 0 * trw true c j (n - (s + 1)) 0 = _
    rw [ih]
    rfl
theorem trw_small {lab : Bool} {c : Nat → Nat → Nat} : ∀ j n k, n < j → trw lab c j n k = 0 := by
  intro j
  induction j with
  | zero => intro n k h; omega
  | succ j ih =>
    intro n k h
    refine s2_zero fun s i h1 h2 h3 => ?_
    rw [ih (n - s) (k - i) (by omega), Nat.mul_zero]
theorem trw_top {lab L : Bool} {c : Nat → Nat → Nat} (hc : ∀ s i, topf L s < i → c s i = 0) : ∀ j a k, topf L a < k → trw lab c j a k = 0 := by
  intro j
  induction j with
  | zero => intro a k h; show (if a = 0 ∧ k = 0 then 1 else 0) = 0; rw [if_neg (by omega)]
  | succ j ih =>
    intro a k h
    refine s2_zero fun s i h1 h2 h3 => ?_
    by_cases q : topf L s < i
    · rw [hc s i q, Nat.mul_zero, Nat.zero_mul]
    · rw [ih (a - s) (k - i) (by unfold topf at h q ⊢; cases L <;> simp at h q ⊢ <;> omega), Nat.mul_zero]
theorem trw_1 {lab : Bool} {c : Nat → Nat → Nat} {n k : Nat} (hn : 1 ≤ n) : trw lab c 1 n k = wt lab n n * c n k := by
  show sm n (fun s => sm (k + 1) (fun i => wt lab n (s + 1) * c (s + 1) i * trw lab c 0 (n - (s + 1)) (k - i))) = _
  obtain ⟨m, rfl⟩ : ∃ m, n = m + 1 := ⟨n - 1, by omega⟩
  rw [sm_s, sm_zero (fun s hs => sm_zero fun i hi => ?_), Nat.zero_add, sm_s, sm_zero (fun i hi => ?_), Nat.zero_add]
  · show _ * (if m + 1 - (m + 1) = 0 ∧ k - k = 0 then 1 else 0) = _
    rw [if_pos (by omega), Nat.mul_one]
  · show _ * (if m + 1 - (m + 1) = 0 ∧ k - i = 0 then 1 else 0) = _
    rw [if_neg (by omega), Nat.mul_zero]
  · show _ * (if m + 1 - (s + 1) = 0 ∧ k - i = 0 then 1 else 0) = _
    rw [if_neg (by omega), Nat.mul_zero]
theorem cho_nn : ∀ n, cho n n = 1 := by
  intro n
  induction n with
  | zero => rfl
  | succ n ih => rw [cho_s, ih, cho_lt (by omega)]
theorem wt_nn {lab : Bool} {n : Nat} : wt lab n n = 1 := by
  unfold wt; cases lab
  · rfl
  · simp [cho_nn]
/-- the things of a size and letter that a census may read -/
def cut (L : Bool) (c : Nat → Nat → Nat) (s i : Nat) : Nat := if i ≤ topf L s then c s i else 0
theorem cut_top {L : Bool} {c : Nat → Nat → Nat} : ∀ s i, topf L s < i → cut L c s i = 0 := fun s i h => if_neg (by omega)
def rwv (O R : Nat → Nat) (p c j n k : Nat) : Nat := if j = 1 then O (pl c n k) else R (p * 512 + pl j n k)
/-- the sum that growRows makes -/
def gsum (L lab : Bool) (n : Nat) (A B : Nat → Nat → Nat) (k N : Nat) : Nat := sm N (fun i => if i = 0 then 0 else sm (topf L i + 1) (tm (wt lab n i) (topf L (n - i)) (A i) (B (n - i)) k))
theorem sm_ext {x y : Nat} {f : Nat → Nat} (hxy : x ≤ y) (hz : ∀ i, x ≤ i → i < y → f i = 0) : sm x f = sm y f := (sm_cut hxy hz).symm
theorem gsum_trw {L lab : Bool} {n j k : Nat} {c B : Nat → Nat → Nat} (hj : 2 ≤ j) (hn : 1 ≤ n) (hB : ∀ s i, 1 ≤ s → s < n → i ≤ topf L s → min HH (B s i) = min HH (trw lab (cut L c) (j - 1) s i)) : min HH (gsum L lab n c B k n) = min HH (trw lab (cut L c) j n k) := by
  obtain ⟨q, rfl⟩ : ∃ q, j = q + 2 := ⟨j - 2, by omega⟩
  obtain ⟨m, rfl⟩ : ∃ m, n = m + 1 := ⟨n - 1, by omega⟩
  show _ = min HH (sm (m + 1) (fun s => sm (k + 1) (fun i => wt lab (m + 1) (s + 1) * cut L c (s + 1) i * trw lab (cut L c) (q + 1) (m + 1 - (s + 1)) (k - i))))
  have e1 : sm (m + 1) (fun s => sm (k + 1) (fun i => wt lab (m + 1) (s + 1) * cut L c (s + 1) i * trw lab (cut L c) (q + 1) (m + 1 - (s + 1)) (k - i))) = sm m (fun s => sm (k + 1) (fun i => wt lab (m + 1) (s + 1) * cut L c (s + 1) i * trw lab (cut L c) (q + 1) (m + 1 - (s + 1)) (k - i))) := by
    rw [sm_s, sm_zero (f := fun i => wt lab (m + 1) (m + 1) * cut L c (m + 1) i * trw lab (cut L c) (q + 1) (m + 1 - (m + 1)) (k - i)) (fun i hi => by rw [trw_small (q + 1) _ _ (by omega), Nat.mul_zero]), Nat.add_zero]
  rw [e1]
  have sh : ∀ (g : Nat → Nat), ∀ N, sm (N + 1) (fun i => if i = 0 then 0 else g i) = sm N (fun i => g (i + 1)) := by
    intro g N
    induction N with
    | zero => rfl
    | succ N ih => rw [sm_s, ih, sm_s, if_neg (by omega)]
  unfold gsum
  rw [sh]
  refine smL fun s hs => ?_
  have ht : topf L (s + 1) ≤ s + 1 := topf_le
  rw [sm_cut (x := min (topf L (s + 1)) k + 1) (y := topf L (s + 1) + 1) (by omega) (fun a h1 h2 => by unfold tm; rw [if_neg (by omega)]), sm_cut (x := min (topf L (s + 1)) k + 1) (y := k + 1) (by omega) (fun a h1 h2 => by rw [cut_top _ _ (by omega), Nat.mul_zero, Nat.zero_mul])]
  refine smL fun a ha => ?_
  unfold tm
  by_cases c3 : k - a ≤ topf L (m + 1 - (s + 1))
  · rw [if_pos ⟨by omega, c3⟩, Nat.mul_comm (c (s + 1) a), show cut L c (s + 1) a = c (s + 1) a from if_pos (by omega)]
    exact mulL (hB _ _ (by omega) (by omega) c3)
  · rw [if_neg (by omega), trw_top cut_top (q + 1) _ _ (by omega), Nat.mul_zero]
theorem rb {p j n k : Nat} (hp : p < 24) (hj : j ≤ 7) (hn : n ≤ 7) (hk : k ≤ 7) : p * 512 + pl j n k < 12288 := by unfold pl; omega
/-- the longest row that is asked for -/
def lgM (M : Int → Int) (p : Nat) : Nat := if M (48 + (p : Int)) = 0 then (M 1).toNat else (M (48 + (p : Int))).toNat
theorem lgM_le {M : Int → Int} {p : Nat} (h : WF M) (hp : (p : Int) < M 2) (hs : 3 ≤ M (24 + (p : Int)) ∧ M (24 + (p : Int)) ≤ 6) : lgM M p ≤ 7 := by
  have hM1 := h.2.1
  have h6 := (h.2.2.2.1 p hp).2.2.2.2.2 hs
  unfold lgM
  split <;> omega
/-- rows of two things and more, up to a size -/
def rowsOK (L lab : Bool) (c : Nat → Nat → Nat) (R : Nat → Nat) (p lg n : Nat) : Prop := ∀ j s k : Nat, 2 ≤ j → j ≤ lg → s ≤ n → k ≤ topf L s → R (p * 512 + pl j s k) = min HH (trw lab (cut L c) j s k)
/-! the class's census 48: rows -/
theorem e_rowsOf48 {S : St} {p c j n k : Nat} (hp : p < 24) (hc : j = 1 → S 5 (p : Int) = (c : Int) ∧ c < 24) (hj : j ≤ 7) (hn : n ≤ 7) (hk : k ≤ 7) (hO : nb S 49 1536 HH) (hR : nb S 52 12288 HH) : mX0_rowsOf_48 S (p : Int) (j : Int) (n : Int) (k : Int) = some ((rwv (tb S 49) (tb S 52) p c j n k : Nat) : Int) ∧ rwv (tb S 49) (tb S 52) p c j n k ≤ HH := by
  unfold mX0_rowsOf_48 rwv
  rw [gd_t (by omega)]
  by_cases z : j = 1
  · obtain ⟨c1, c2⟩ := hc z
    have b := hO.at (pl_lt2 (q := c) (s := n) (i := k) (N := 24) c2 hn hk (by decide))
    rw [if_pos (by omega), if_pos z, gd_t (by omega), c1, show (c : Int) * 64 + (n : Int) * 8 + (k : Int) = ((pl c n k : Nat) : Int) by unfold pl; omega, gd_t (by unfold pl; omega), b.1]
    exact ⟨rfl, b.2⟩
  · have b := hR.at (j := p * 512 + pl j n k) (by unfold pl; omega)
    rw [if_neg (by omega), if_neg z, show (p : Int) * 512 + (j : Int) * 64 + (n : Int) * 8 + (k : Int) = ((p * 512 + pl j n k : Nat) : Int) by unfold pl; omega, gd_t (by unfold pl; omega), b.1]
    exact ⟨rfl, b.2⟩
theorem gr48_80 {S : St} {m : Int} {r a i j p c n : Nat} (hm : inI m) (h1 : S 48 1 = m) (hr : r ≤ HH) (hp : p < 24) (hc : S 5 (p : Int) = (c : Int)) (hc2 : c < 24) (hj : 2 ≤ j ∧ j ≤ 7) (hn : n ≤ 7) (hi : i ≤ n) (ha : a ≤ topf (decide (0 ≤ m)) i) (hO : nb S 49 1536 HH) (hR : nb S 52 12288 HH) : wp (mX0_growRows_48_80 (r : Int) (a : Int) (i : Int) ((p * 512 + pl j n 0 : Nat) : Int) (j : Int) (p : Int) (n : Int) FU 0 S) (fun S' => nb S' 52 12288 HH ∧ (∀ q : Nat, q < 12288 → tb S' 52 q = if p * 512 + pl j n a ≤ q ∧ q < p * 512 + pl j n a + (topf (decide (0 ≤ m)) (n - i) + 1) then min HH (tb S 52 q + r * rwv (tb S 49) (tb S 52) p c (j - 1) (n - i) (q - (p * 512 + pl j n a))) else tb S 52 q) ∧ kept [52] [] S S') := by
  have ht : topf (decide (0 ≤ m)) (n - i) ≤ n - i := topf_le
  have ht2 : topf (decide (0 ≤ m)) i ≤ i := topf_le
  refine loopW (fun f v s => mX0_growRows_48_80 (r : Int) (a : Int) (i : Int) ((p * 512 + pl j n 0 : Nat) : Int) (j : Int) (p : Int) (n : Int) f v s) (fun b S' => nb S' 52 12288 HH ∧ (∀ q : Nat, q < 12288 → tb S' 52 q = if p * 512 + pl j n a ≤ q ∧ q < p * 512 + pl j n a + b then min HH (tb S 52 q + r * rwv (tb S 49) (tb S 52) p c (j - 1) (n - i) (q - (p * 512 + pl j n a))) else tb S 52 q) ∧ kept [52] [] S S') _ (topf (decide (0 ≤ m)) (n - i) + 1) (fun b f s hb hI hk => ?_) (fun f s hI => ?_) (topf (decide (0 ≤ m)) (n - i) + 1) 0 FU S (by omega) (by unfold FU; omega) ⟨hR, fun j hj => by rw [if_neg (by omega)], kept.rf⟩
  · obtain ⟨n1, v1, k1⟩ := hI
    try dsimp only at hk ⊢
    have eC := (congrFun (k1.cell 48 (by decide) (by decide)) 1).trans h1
    have eO := k1.cell 49 (by decide) (by decide)
    have e5 : s 5 (p : Int) = (c : Int) := by rw [k1.cell 5 (by decide) (by decide)]; exact hc
    have tO : tb s 49 = tb S 49 := by funext j; unfold tb; rw [eO]
    have b2 : p * 512 + pl j n a + b < 12288 := by unfold pl; omega
    obtain ⟨r1, r1'⟩ := e_rowsOf48 (S := s) (p := p) (c := c) (j := j - 1) (n := n - i) (k := b) hp (fun _ => ⟨e5, hc2⟩) (by omega) (by omega) (by omega) (by intro j hj; rw [eO]; exact hO j hj) n1
    have r2 := n1.at b2
    have w1 : rwv (tb s 49) (tb s 52) p c (j - 1) (n - i) b = rwv (tb S 49) (tb S 52) p c (j - 1) (n - i) b := by
      unfold rwv
      rw [tO]
      by_cases z : j - 1 = 1
      · rw [if_pos z, if_pos z]
      · have b3 : p * 512 + pl (j - 1) (n - i) b < 12288 := rb hp (by omega) (by omega) (by omega)
        rw [if_neg z, if_neg z, v1 (p * 512 + pl (j - 1) (n - i) b) b3, if_neg]
        unfold pl; omega
    have w2 : tb s 52 (p * 512 + pl j n a + b) = tb S 52 (p * 512 + pl j n a + b) := by
      rw [v1 _ b2, if_neg (by omega)]
    rw [mX0_growRows_48_80]
    by_cases z : r = 0
    · subst z
      refine wp_mono (P := fun S' => S' = s) (by rw [gd_t (by decide), if_pos (by decide), wp_some]) (fun S' e => ?_)
      subst e
      refine ⟨n1, fun j hj => ?_, k1⟩
      rw [v1 j hj, Nat.zero_mul, Nat.add_zero, Nat.min_eq_right (hR.at hj).2]
      simp
    · have r' := HH_in hr
      rw [gd_t (by omega), if_neg (by omega), show (n : Int) - (i : Int) = ((n - i : Nat) : Int) by omega, bd1_e (e_ltop48 hm eC), gd_t (by omega), if_neg (by omega), show (j : Int) - 1 = ((j - 1 : Nat) : Int) by omega, bd1_e r1, show ((p * 512 + pl j n 0 : Nat) : Int) + (a : Int) + (b : Int) = ((p * 512 + pl j n a + b : Nat) : Int) by unfold pl; omega, gd_t (by omega), bd1_e (e_timesH hr r1'), r2.1, bd1_e (e_plusH r2.2 min_le'), nx_e]
      refine hk _ ⟨nb_up n1 min_le', fun q hq => ?_, kept.upA k1 (by simp)⟩
      rw [tb_up]
      by_cases e : q = p * 512 + pl j n a + b
      · subst e
        rw [if_pos rfl, if_pos (by omega), w1, w2, show p * 512 + pl j n a + b - (p * 512 + pl j n a) = b by omega]
        omega
      · rw [if_neg e, v1 q hq]
        by_cases w : p * 512 + pl j n a ≤ q ∧ q < p * 512 + pl j n a + b
        · rw [if_pos w, if_pos (by omega)]
        · rw [if_neg w, if_neg (by omega)]
  · obtain ⟨n1, v1, k1⟩ := hI
    have eC := (congrFun (k1.cell 48 (by decide) (by decide)) 1).trans h1
    have r' := HH_in hr
    try dsimp only
    rw [mX0_growRows_48_80]
    by_cases z : r = 0
    · rw [gd_t (by omega), if_pos (by omega), wp_some]; exact ⟨n1, v1, k1⟩
    · rw [gd_t (by omega), if_neg (by omega), show (n : Int) - (i : Int) = ((n - i : Nat) : Int) by omega, bd1_e (e_ltop48 hm eC), gd_t (by omega), if_pos (by omega), wp_some]; exact ⟨n1, v1, k1⟩
theorem gr48_44 {S : St} {m : Int} {i j p c n : Nat} (hm : inI m) (h1 : S 48 1 = m) (hp : p < 24) (hc : S 5 (p : Int) = (c : Int)) (hc2 : c < 24) (hj : 2 ≤ j ∧ j ≤ 7) (hn : n ≤ 7) (hi : i ≤ n) (hO : nb S 49 1536 HH) (hR : nb S 52 12288 HH) : wp (mX0_growRows_48_44 (i : Int) ((p * 512 + pl j n 0 : Nat) : Int) (j : Int) (p : Int) (n : Int) FU 0 S) (fun S' => nb S' 52 12288 HH ∧ (∀ k : Nat, k ≤ topf (decide (0 ≤ m)) n → tb S' 52 (p * 512 + pl j n k) = min HH (tb S 52 (p * 512 + pl j n k) + sm (topf (decide (0 ≤ m)) i + 1) (tm (wt (decide (m = -2)) n i) (topf (decide (0 ≤ m)) (n - i)) (fun a => tb S 49 (pl c i a)) (fun b => rwv (tb S 49) (tb S 52) p c (j - 1) (n - i) b) k))) ∧ (∀ q : Nat, q < 12288 → (∀ k : Nat, k ≤ topf (decide (0 ≤ m)) n → q ≠ p * 512 + pl j n k) → tb S' 52 q = tb S 52 q) ∧ kept [52] [] S S') := by
  have ht0 : topf (decide (0 ≤ m)) n ≤ n := topf_le
  have ht1 : topf (decide (0 ≤ m)) (n - i) ≤ n - i := topf_le
  have ht2 : topf (decide (0 ≤ m)) i ≤ i := topf_le
  have ht3 : topf (decide (0 ≤ m)) i + topf (decide (0 ≤ m)) (n - i) = topf (decide (0 ≤ m)) n := by unfold topf; split <;> omega
  refine loopW (fun f v s => mX0_growRows_48_44 (i : Int) ((p * 512 + pl j n 0 : Nat) : Int) (j : Int) (p : Int) (n : Int) f v s) (fun A S' => nb S' 52 12288 HH ∧ (∀ k : Nat, k ≤ topf (decide (0 ≤ m)) n → tb S' 52 (p * 512 + pl j n k) = min HH (tb S 52 (p * 512 + pl j n k) + sm A (tm (wt (decide (m = -2)) n i) (topf (decide (0 ≤ m)) (n - i)) (fun a => tb S 49 (pl c i a)) (fun b => rwv (tb S 49) (tb S 52) p c (j - 1) (n - i) b) k))) ∧ (∀ q : Nat, q < 12288 → (∀ k : Nat, k ≤ topf (decide (0 ≤ m)) n → q ≠ p * 512 + pl j n k) → tb S' 52 q = tb S 52 q) ∧ kept [52] [] S S') _ (topf (decide (0 ≤ m)) i + 1) (fun A f s hA hI hk => ?_) (fun f s hI => ?_) (topf (decide (0 ≤ m)) i + 1) 0 FU S (by omega) (by unfold FU; omega) ⟨hR, fun k hk => by rw [sm_0, Nat.add_zero, Nat.min_eq_right (hR.at (by unfold pl; omega)).2], fun _ _ _ => rfl, kept.rf⟩
  · obtain ⟨n1, v1, o1, k1⟩ := hI
    try dsimp only at hk ⊢
    have eC := (congrFun (k1.cell 48 (by decide) (by decide)) 1).trans h1
    have eO := k1.cell 49 (by decide) (by decide)
    have e5 : s 5 (p : Int) = (c : Int) := by rw [k1.cell 5 (by decide) (by decide)]; exact hc
    have tO : tb s 49 = tb S 49 := by funext j; unfold tb; rw [eO]
    have nO : nb s 49 1536 HH := by intro j hj; rw [eO]; exact hO j hj
    obtain ⟨r1, r1'⟩ := e_rowsOf48 (S := s) (p := p) (c := c) (j := 1) (n := i) (k := A) hp (fun _ => ⟨e5, hc2⟩) (by omega) (by omega) (by omega) nO n1
    rw [show rwv (tb s 49) (tb s 52) p c 1 i A = tb S 49 (pl c i A) by unfold rwv; rw [if_pos rfl, tO]] at r1 r1'
    have r1 : mX0_rowsOf_48 s (p : Int) 1 (i : Int) (A : Int) = _ := r1
    have hw := wt_le (lab := decide (m = -2)) (n := n) (i := i) hn
    rw [mX0_growRows_48_44, bd1_e (e_ltop48 hm eC), gd_t (by omega), if_neg (by omega), bd1_e r1, bd1_e (e_weight48 hm eC hn hi), bd1_e (e_timesH r1' (Nat.le_trans hw (by decide))), wp_bd1]
    refine wp_mono (gr48_80 (S := s) hm eC min_le' hp e5 hc2 hj hn hi (by omega) nO n1) (fun S2 q2 => ?_)
    obtain ⟨n2, v2, k2⟩ := q2
    have rq : ∀ b : Nat, b ≤ topf (decide (0 ≤ m)) (n - i) → rwv (tb s 49) (tb s 52) p c (j - 1) (n - i) b = rwv (tb S 49) (tb S 52) p c (j - 1) (n - i) b := fun b hb => by
      unfold rwv
      rw [tO]
      by_cases z : j - 1 = 1
      · rw [if_pos z, if_pos z]
      · rw [if_neg z, if_neg z, o1 _ (by unfold pl; omega) (fun k hk e => by unfold pl at e; omega)]
    refine hk S2 ⟨n2, fun k hk => ?_, fun q hq hne => ?_, kept.trans k1 k2⟩
    · rw [v2 _ (by unfold pl; omega), sm_s]
      by_cases cc : A ≤ k ∧ k - A ≤ topf (decide (0 ≤ m)) (n - i)
      · rw [if_pos (by unfold pl; omega), v1 k hk, show p * 512 + pl j n k - (p * 512 + pl j n A) = k - A by unfold pl; omega, rq _ cc.2]
        rw [show tm (wt (decide (m = -2)) n i) (topf (decide (0 ≤ m)) (n - i)) (fun a => tb S 49 (pl c i a)) (fun b => rwv (tb S 49) (tb S 52) p c (j - 1) (n - i) b) k A = tb S 49 (pl c i A) * wt (decide (m = -2)) n i * rwv (tb S 49) (tb S 52) p c (j - 1) (n - i) (k - A) from if_pos cc]
        rw [← Nat.add_assoc]
        generalize tb S 52 (p * 512 + pl j n k) + sm A (tm (wt (decide (m = -2)) n i) (topf (decide (0 ≤ m)) (n - i)) (fun a => tb S 49 (pl c i a)) (fun b => rwv (tb S 49) (tb S 52) p c (j - 1) (n - i) b) k) = X
        generalize tb S 49 (pl c i A) * wt (decide (m = -2)) n i = Z
        generalize rwv (tb S 49) (tb S 52) p c (j - 1) (n - i) (k - A) = t
        rw [← min_acc (r := Z)]
        generalize min HH Z * t = y
        omega
      · rw [if_neg (by unfold pl; omega), v1 k hk, show tm (wt (decide (m = -2)) n i) (topf (decide (0 ≤ m)) (n - i)) (fun a => tb S 49 (pl c i a)) (fun b => rwv (tb S 49) (tb S 52) p c (j - 1) (n - i) b) k A = 0 from if_neg cc, Nat.add_zero]
    · rw [v2 q hq, if_neg, o1 q hq hne]
      rintro ⟨c1, c2⟩
      exact hne (q - (p * 512 + pl j n 0)) (by unfold pl at c1 c2 ⊢; omega) (by unfold pl at c1 c2 ⊢; omega)
  · obtain ⟨n1, v1, o1, k1⟩ := hI
    have eC := (congrFun (k1.cell 48 (by decide) (by decide)) 1).trans h1
    try dsimp only
    rw [mX0_growRows_48_44, bd1_e (e_ltop48 hm eC), gd_t (by omega), if_pos (by omega), wp_some]
    exact ⟨n1, v1, o1, k1⟩
theorem gr48_35 {S : St} {m : Int} {j p c n : Nat} (hm : inI m) (h1 : S 48 1 = m) (hp : p < 24) (hc : S 5 (p : Int) = (c : Int)) (hc2 : c < 24) (hj : 2 ≤ j ∧ j ≤ 7) (hn : 1 ≤ n ∧ n ≤ 7) (hO : nb S 49 1536 HH) (hR : nb S 52 12288 HH) (hz : ∀ k : Nat, k ≤ topf (decide (0 ≤ m)) n → tb S 52 (p * 512 + pl j n k) = 0) : wp (mX0_growRows_48_35 ((p * 512 + pl j n 0 : Nat) : Int) (j : Int) (p : Int) (n : Int) FU 1 S) (fun S' => nb S' 52 12288 HH ∧ (∀ k : Nat, k ≤ topf (decide (0 ≤ m)) n → tb S' 52 (p * 512 + pl j n k) = min HH (gsum (decide (0 ≤ m)) (decide (m = -2)) n (fun s i => tb S 49 (pl c s i)) (rwv (tb S 49) (tb S 52) p c (j - 1)) k n)) ∧ (∀ q : Nat, q < 12288 → (∀ k : Nat, k ≤ topf (decide (0 ≤ m)) n → q ≠ p * 512 + pl j n k) → tb S' 52 q = tb S 52 q) ∧ kept [52] [] S S') := by
  have ht0 : topf (decide (0 ≤ m)) n ≤ n := topf_le
  refine loopW (fun f v s => mX0_growRows_48_35 ((p * 512 + pl j n 0 : Nat) : Int) (j : Int) (p : Int) (n : Int) f v s) (fun N S' => 1 ≤ N ∧ nb S' 52 12288 HH ∧ (∀ k : Nat, k ≤ topf (decide (0 ≤ m)) n → tb S' 52 (p * 512 + pl j n k) = min HH (gsum (decide (0 ≤ m)) (decide (m = -2)) n (fun s i => tb S 49 (pl c s i)) (rwv (tb S 49) (tb S 52) p c (j - 1)) k N)) ∧ (∀ q : Nat, q < 12288 → (∀ k : Nat, k ≤ topf (decide (0 ≤ m)) n → q ≠ p * 512 + pl j n k) → tb S' 52 q = tb S 52 q) ∧ kept [52] [] S S') _ n (fun i f s hi hI hk => ?_) (fun f s hI => ?_) (n - 1) 1 FU S (by omega) (by unfold FU; omega) ⟨by omega, hR, fun k hk => by rw [hz k hk]; unfold gsum; rw [sm_s, sm_0, if_pos rfl, Nat.add_zero, Nat.min_zero], fun _ _ _ => rfl, kept.rf⟩
  · obtain ⟨i1, n1, v1, o1, k1⟩ := hI
    try dsimp only at hk ⊢
    have eC := (congrFun (k1.cell 48 (by decide) (by decide)) 1).trans h1
    have eO := k1.cell 49 (by decide) (by decide)
    have e5 : s 5 (p : Int) = (c : Int) := by rw [k1.cell 5 (by decide) (by decide)]; exact hc
    have tO : tb s 49 = tb S 49 := by funext j; unfold tb; rw [eO]
    rw [mX0_growRows_48_35, gd_t (by omega), if_neg (by omega), wp_bd1]
    refine wp_mono (gr48_44 (S := s) hm eC hp e5 hc2 hj hn.2 (by omega) (by intro j hj; rw [eO]; exact hO j hj) n1) (fun S2 q2 => ?_)
    obtain ⟨n2, v2, o2, k2⟩ := q2
    have rq : ∀ t b : Nat, t ≤ 7 → b ≤ 7 → rwv (tb s 49) (tb s 52) p c (j - 1) t b = rwv (tb S 49) (tb S 52) p c (j - 1) t b := fun t b ht hb => by
      unfold rwv
      rw [tO]
      by_cases z : j - 1 = 1
      · rw [if_pos z, if_pos z]
      · rw [if_neg z, if_neg z, o1 _ (by unfold pl; omega) (fun k hk e => by unfold pl at e; omega)]
    refine hk S2 ⟨by omega, n2, fun k hk => ?_, fun q hq hne => by rw [o2 q hq hne, o1 q hq hne], kept.trans k1 k2⟩
    rw [v2 k hk, v1 k hk, tO]
    have e : sm (topf (decide (0 ≤ m)) i + 1) (tm (wt (decide (m = -2)) n i) (topf (decide (0 ≤ m)) (n - i)) (fun a => tb S 49 (pl c i a)) (fun b => rwv (tb S 49) (tb s 52) p c (j - 1) (n - i) b) k) = sm (topf (decide (0 ≤ m)) i + 1) (tm (wt (decide (m = -2)) n i) (topf (decide (0 ≤ m)) (n - i)) (fun a => tb S 49 (pl c i a)) (rwv (tb S 49) (tb S 52) p c (j - 1) (n - i)) k) := by
      refine sm_congr fun a ha => ?_
      unfold tm
      have : topf (decide (0 ≤ m)) (n - i) ≤ n - i := topf_le
      by_cases c : a ≤ k ∧ k - a ≤ topf (decide (0 ≤ m)) (n - i)
      · rw [if_pos c, if_pos c]
        have := rq (n - i) (k - a) (by omega) (by omega)
        rw [tO] at this
        exact congrArg _ this
      · rw [if_neg c, if_neg c]
    rw [e]
    unfold gsum
    rw [sm_s (n := i), if_neg (show ¬ i = 0 by omega)]
    generalize sm (topf (decide (0 ≤ m)) i + 1) (tm (wt (decide (m = -2)) n i) (topf (decide (0 ≤ m)) (n - i)) (fun a => tb S 49 (pl c i a)) (rwv (tb S 49) (tb S 52) p c (j - 1) (n - i)) k) = x
    generalize sm i _ = y
    omega
  · obtain ⟨i1, n1, v1, o1, k1⟩ := hI
    try dsimp only
    rw [mX0_growRows_48_35, gd_t (by omega), if_pos (by omega), wp_some]
    exact ⟨n1, v1, o1, k1⟩
theorem e_longest48 {S : St} {M : Int → Int} {p : Nat} (h : WF M) (hG : GM S M) (hp : (p : Int) < M 2) (hs : 3 ≤ M (24 + (p : Int)) ∧ M (24 + (p : Int)) ≤ 6) : mX0_longest_48 S (p : Int) = some ((lgM M p : Nat) : Int) := by
  have hM2 := h.2.2.1
  have hM1 := h.2.1
  have h6 := (h.2.2.2.1 p hp).2.2.2.2.2 hs
  have g := (hG.2.1 p hp).2.2.1 (by omega)
  unfold mX0_longest_48 lgM
  rw [gd_t (by omega), g, gd_t (by omega)]
  by_cases z : M (48 + (p : Int)) = 0
  · rw [if_pos z, if_pos z, hG.1.1]; rw [Int.toNat_of_nonneg (by omega)]
  · rw [if_neg z, if_neg z]; rw [Int.toNat_of_nonneg (by omega)]
theorem w_growRows48 {S : St} {M : Int → Int} {m : Int} {p c n : Nat} (h : WF M) (hG : GM S M) (hm : inI m) (h1 : S 48 1 = m) (hp : (p : Int) < M 2) (hs : 3 ≤ M (24 + (p : Int)) ∧ M (24 + (p : Int)) ≤ 6) (hc : M (72 + (p : Int)) = (c : Int)) (hn : 1 ≤ n ∧ n ≤ 7) (hO : nb S 49 1536 HH) (hR : nb S 52 12288 HH) (hz : ∀ j k : Nat, 2 ≤ j → j ≤ lgM M p → k ≤ topf (decide (0 ≤ m)) n → tb S 52 (p * 512 + pl j n k) = 0) (hlo : rowsOK (decide (0 ≤ m)) (decide (m = -2)) (fun s i => tb S 49 (pl c s i)) (tb S 52) p (lgM M p) (n - 1)) : wp (mX0_growRows_48 S (p : Int) (n : Int)) (fun S' => nb S' 52 12288 HH ∧ rowsOK (decide (0 ≤ m)) (decide (m = -2)) (fun s i => tb S 49 (pl c s i)) (tb S' 52) p (lgM M p) n ∧ (∀ q : Nat, q < 12288 → (∀ j k : Nat, 2 ≤ j → j ≤ 7 → k ≤ topf (decide (0 ≤ m)) n → q ≠ p * 512 + pl j n k) → tb S' 52 q = tb S 52 q) ∧ kept [52] [] S S') := by
  have hM2 := h.2.2.1
  have hM1 := h.2.1
  have h6 := (h.2.2.2.1 p hp).2.2.2.2.2 hs
  have hl := lgM_le h hp hs
  have ht0 : topf (decide (0 ≤ m)) n ≤ n := topf_le
  have e5 : S 5 (p : Int) = (c : Int) := by rw [← hc]; exact (hG.2.1 p hp).2.2.2.2.1 hs
  unfold mX0_growRows_48
  rw [wp_bd1]
  refine wp_mono (loopW (fun f v s => mX0_growRows_48_2 (p : Int) (n : Int) f v s) (fun j S' => 2 ≤ j ∧ nb S' 52 12288 HH ∧ (∀ j' k : Nat, 2 ≤ j' → j' < j → k ≤ topf (decide (0 ≤ m)) n → tb S' 52 (p * 512 + pl j' n k) = min HH (trw (decide (m = -2)) (cut (decide (0 ≤ m)) (fun s i => tb S 49 (pl c s i))) j' n k)) ∧ (∀ q : Nat, q < 12288 → (∀ j' k : Nat, 2 ≤ j' → j' < j → k ≤ topf (decide (0 ≤ m)) n → q ≠ p * 512 + pl j' n k) → tb S' 52 q = tb S 52 q) ∧ kept [52] [] S S') (fun S' => nb S' 52 12288 HH ∧ rowsOK (decide (0 ≤ m)) (decide (m = -2)) (fun s i => tb S 49 (pl c s i)) (tb S' 52) p (lgM M p) n ∧ (∀ q : Nat, q < 12288 → (∀ j k : Nat, 2 ≤ j → j ≤ 7 → k ≤ topf (decide (0 ≤ m)) n → q ≠ p * 512 + pl j n k) → tb S' 52 q = tb S 52 q) ∧ kept [52] [] S S') (max 2 (min n (lgM M p) + 1)) (fun j f s hj hI hk => ?_) (fun f s hI => ?_) (max 2 (min n (lgM M p) + 1) - 2) 2 FU S (by omega) (by unfold FU; omega) ⟨by omega, hR, fun j' k a b => by omega, fun _ _ _ => rfl, kept.rf⟩) (fun S' q => by rw [wp_some]; exact q)
  · obtain ⟨j1, n1, v1, o1, k1⟩ := hI
    try dsimp only at hk ⊢
    have eC := (congrFun (k1.cell 48 (by decide) (by decide)) 1).trans h1
    have eO := k1.cell 49 (by decide) (by decide)
    have f5 : s 5 (p : Int) = (c : Int) := by rw [k1.cell 5 (by decide) (by decide)]; exact e5
    have tO : tb s 49 = tb S 49 := by funext j; unfold tb; rw [eO]
    have hG' : GM s M := hG.of (fun i a b => k1.cell i (by simp; omega) (by simp))
    rw [mX0_growRows_48_2, bd1_e (e_longest48 h hG' hp hs), gd_t (by omega), gd_t (by omega), if_neg (by omega), nx_e, wp_bd1, show (p : Int) * 512 + (j : Int) * 64 + (n : Int) * 8 = ((p * 512 + pl j n 0 : Nat) : Int) by unfold pl; omega]
    refine wp_mono (gr48_35 (S := s) hm eC (by omega) f5 (by omega) (by omega) hn (by intro j hj; rw [eO]; exact hO j hj) n1 (fun k hk => by rw [o1 _ (by unfold pl; omega) (fun j' k' a b c e => by unfold pl at e; omega)]; exact hz j k (by omega) (by omega) hk)) (fun S2 q2 => ?_)
    obtain ⟨n2, v2, o2, k2⟩ := q2
    refine hk S2 ⟨by omega, n2, fun j' k a b d => ?_, fun q hq hne => ?_, kept.trans k1 k2⟩
    · by_cases z : j' = j
      · subst z
        rw [v2 k d, tO]
        refine gsum_trw (by omega) hn.1 (fun t i t1 t2 t3 => ?_)
        have tt : topf (decide (0 ≤ m)) t ≤ t := topf_le
        unfold rwv
        by_cases z : j' - 1 = 1
        · rw [if_pos z, z, trw_1 t1, wt_nn, Nat.one_mul, show cut (decide (0 ≤ m)) (fun s i => tb S 49 (pl c s i)) t i = tb S 49 (pl c t i) from if_pos t3]
        · rw [if_neg z, o1 _ (by unfold pl; omega) (fun j2 k' a b c e => by have := (pl_inj (Nat.add_left_cancel e) (by omega) (by omega) (by omega) (by omega)).2.1; omega), hlo (j' - 1) t i (by omega) (by omega) (by omega) t3]
          rw [← Nat.min_assoc, Nat.min_self]
      · rw [o2 _ (by unfold pl; omega) (fun k' a e => by unfold pl at e; omega)]
        exact v1 j' k a (by omega) d
    · rw [o2 q hq (fun k' a => hne j k' (by omega) (by omega) a), o1 q hq (fun j' k' a b => hne j' k' a (by omega))]
  · obtain ⟨j1, n1, v1, o1, k1⟩ := hI
    try dsimp only
    have hG' : GM s M := hG.of (fun i a b => k1.cell i (by simp; omega) (by simp))
    rw [mX0_growRows_48_2, bd1_e (e_longest48 h hG' hp hs), gd_t (by omega), gd_t (by omega), if_pos (by omega), wp_some]
    refine ⟨n1, fun j t k a b d e => ?_, fun q hq hne => o1 q hq (fun j' k' a b => hne j' k' a (by omega)), k1⟩
    have tt : topf (decide (0 ≤ m)) t ≤ t := topf_le
    by_cases z : t = n
    · subst z
      by_cases w : j ≤ t
      · exact v1 j k a (by omega) e
      · rw [trw_small j t k (by omega), Nat.min_zero, o1 _ (by unfold pl; omega) (fun j' k' x1 x2 x3 x4 => by unfold pl at x4; omega)]
        exact hz j k a b e
    · rw [o1 _ (by unfold pl; omega) (fun j' k' x1 x2 x3 x4 => by have := (pl_inj (Nat.add_left_cancel x4) (by omega) (by omega) (by omega) (by omega)).2.1; omega)]
      exact hlo j t k a b (by omega) e
/-! the class's census 40: rows -/
theorem e_rowsOf40 {S : St} {p c j n k : Nat} (hp : p < 24) (hc : j = 1 → S 5 (p : Int) = (c : Int) ∧ c < 24) (hj : j ≤ 7) (hn : n ≤ 7) (hk : k ≤ 7) (hO : nb S 41 1536 HH) (hR : nb S 44 12288 HH) : mX0_rowsOf_40 S (p : Int) (j : Int) (n : Int) (k : Int) = some ((rwv (tb S 41) (tb S 44) p c j n k : Nat) : Int) ∧ rwv (tb S 41) (tb S 44) p c j n k ≤ HH := by
  unfold mX0_rowsOf_40 rwv
  rw [gd_t (by omega)]
  by_cases z : j = 1
  · obtain ⟨c1, c2⟩ := hc z
    have b := hO.at (pl_lt2 (q := c) (s := n) (i := k) (N := 24) c2 hn hk (by decide))
    rw [if_pos (by omega), if_pos z, gd_t (by omega), c1, show (c : Int) * 64 + (n : Int) * 8 + (k : Int) = ((pl c n k : Nat) : Int) by unfold pl; omega, gd_t (by unfold pl; omega), b.1]
    exact ⟨rfl, b.2⟩
  · have b := hR.at (j := p * 512 + pl j n k) (by unfold pl; omega)
    rw [if_neg (by omega), if_neg z, show (p : Int) * 512 + (j : Int) * 64 + (n : Int) * 8 + (k : Int) = ((p * 512 + pl j n k : Nat) : Int) by unfold pl; omega, gd_t (by unfold pl; omega), b.1]
    exact ⟨rfl, b.2⟩
theorem gr40_80 {S : St} {m : Int} {r a i j p c n : Nat} (hm : inI m) (h1 : S 40 1 = m) (hr : r ≤ HH) (hp : p < 24) (hc : S 5 (p : Int) = (c : Int)) (hc2 : c < 24) (hj : 2 ≤ j ∧ j ≤ 7) (hn : n ≤ 7) (hi : i ≤ n) (ha : a ≤ topf (decide (0 ≤ m)) i) (hO : nb S 41 1536 HH) (hR : nb S 44 12288 HH) : wp (mX0_growRows_40_80 (r : Int) (a : Int) (i : Int) ((p * 512 + pl j n 0 : Nat) : Int) (j : Int) (p : Int) (n : Int) FU 0 S) (fun S' => nb S' 44 12288 HH ∧ (∀ q : Nat, q < 12288 → tb S' 44 q = if p * 512 + pl j n a ≤ q ∧ q < p * 512 + pl j n a + (topf (decide (0 ≤ m)) (n - i) + 1) then min HH (tb S 44 q + r * rwv (tb S 41) (tb S 44) p c (j - 1) (n - i) (q - (p * 512 + pl j n a))) else tb S 44 q) ∧ kept [44] [] S S') := by
  have ht : topf (decide (0 ≤ m)) (n - i) ≤ n - i := topf_le
  have ht2 : topf (decide (0 ≤ m)) i ≤ i := topf_le
  refine loopW (fun f v s => mX0_growRows_40_80 (r : Int) (a : Int) (i : Int) ((p * 512 + pl j n 0 : Nat) : Int) (j : Int) (p : Int) (n : Int) f v s) (fun b S' => nb S' 44 12288 HH ∧ (∀ q : Nat, q < 12288 → tb S' 44 q = if p * 512 + pl j n a ≤ q ∧ q < p * 512 + pl j n a + b then min HH (tb S 44 q + r * rwv (tb S 41) (tb S 44) p c (j - 1) (n - i) (q - (p * 512 + pl j n a))) else tb S 44 q) ∧ kept [44] [] S S') _ (topf (decide (0 ≤ m)) (n - i) + 1) (fun b f s hb hI hk => ?_) (fun f s hI => ?_) (topf (decide (0 ≤ m)) (n - i) + 1) 0 FU S (by omega) (by unfold FU; omega) ⟨hR, fun j hj => by rw [if_neg (by omega)], kept.rf⟩
  · obtain ⟨n1, v1, k1⟩ := hI
    try dsimp only at hk ⊢
    have eC := (congrFun (k1.cell 40 (by decide) (by decide)) 1).trans h1
    have eO := k1.cell 41 (by decide) (by decide)
    have e5 : s 5 (p : Int) = (c : Int) := by rw [k1.cell 5 (by decide) (by decide)]; exact hc
    have tO : tb s 41 = tb S 41 := by funext j; unfold tb; rw [eO]
    have b2 : p * 512 + pl j n a + b < 12288 := by unfold pl; omega
    obtain ⟨r1, r1'⟩ := e_rowsOf40 (S := s) (p := p) (c := c) (j := j - 1) (n := n - i) (k := b) hp (fun _ => ⟨e5, hc2⟩) (by omega) (by omega) (by omega) (by intro j hj; rw [eO]; exact hO j hj) n1
    have r2 := n1.at b2
    have w1 : rwv (tb s 41) (tb s 44) p c (j - 1) (n - i) b = rwv (tb S 41) (tb S 44) p c (j - 1) (n - i) b := by
      unfold rwv
      rw [tO]
      by_cases z : j - 1 = 1
      · rw [if_pos z, if_pos z]
      · have b3 : p * 512 + pl (j - 1) (n - i) b < 12288 := rb hp (by omega) (by omega) (by omega)
        rw [if_neg z, if_neg z, v1 (p * 512 + pl (j - 1) (n - i) b) b3, if_neg]
        unfold pl; omega
    have w2 : tb s 44 (p * 512 + pl j n a + b) = tb S 44 (p * 512 + pl j n a + b) := by
      rw [v1 _ b2, if_neg (by omega)]
    rw [mX0_growRows_40_80]
    by_cases z : r = 0
    · subst z
      refine wp_mono (P := fun S' => S' = s) (by rw [gd_t (by decide), if_pos (by decide), wp_some]) (fun S' e => ?_)
      subst e
      refine ⟨n1, fun j hj => ?_, k1⟩
      rw [v1 j hj, Nat.zero_mul, Nat.add_zero, Nat.min_eq_right (hR.at hj).2]
      simp
    · have r' := HH_in hr
      rw [gd_t (by omega), if_neg (by omega), show (n : Int) - (i : Int) = ((n - i : Nat) : Int) by omega, bd1_e (e_ltop40 hm eC), gd_t (by omega), if_neg (by omega), show (j : Int) - 1 = ((j - 1 : Nat) : Int) by omega, bd1_e r1, show ((p * 512 + pl j n 0 : Nat) : Int) + (a : Int) + (b : Int) = ((p * 512 + pl j n a + b : Nat) : Int) by unfold pl; omega, gd_t (by omega), bd1_e (e_timesH hr r1'), r2.1, bd1_e (e_plusH r2.2 min_le'), nx_e]
      refine hk _ ⟨nb_up n1 min_le', fun q hq => ?_, kept.upA k1 (by simp)⟩
      rw [tb_up]
      by_cases e : q = p * 512 + pl j n a + b
      · subst e
        rw [if_pos rfl, if_pos (by omega), w1, w2, show p * 512 + pl j n a + b - (p * 512 + pl j n a) = b by omega]
        omega
      · rw [if_neg e, v1 q hq]
        by_cases w : p * 512 + pl j n a ≤ q ∧ q < p * 512 + pl j n a + b
        · rw [if_pos w, if_pos (by omega)]
        · rw [if_neg w, if_neg (by omega)]
  · obtain ⟨n1, v1, k1⟩ := hI
    have eC := (congrFun (k1.cell 40 (by decide) (by decide)) 1).trans h1
    have r' := HH_in hr
    try dsimp only
    rw [mX0_growRows_40_80]
    by_cases z : r = 0
    · rw [gd_t (by omega), if_pos (by omega), wp_some]; exact ⟨n1, v1, k1⟩
    · rw [gd_t (by omega), if_neg (by omega), show (n : Int) - (i : Int) = ((n - i : Nat) : Int) by omega, bd1_e (e_ltop40 hm eC), gd_t (by omega), if_pos (by omega), wp_some]; exact ⟨n1, v1, k1⟩
theorem gr40_44 {S : St} {m : Int} {i j p c n : Nat} (hm : inI m) (h1 : S 40 1 = m) (hp : p < 24) (hc : S 5 (p : Int) = (c : Int)) (hc2 : c < 24) (hj : 2 ≤ j ∧ j ≤ 7) (hn : n ≤ 7) (hi : i ≤ n) (hO : nb S 41 1536 HH) (hR : nb S 44 12288 HH) : wp (mX0_growRows_40_44 (i : Int) ((p * 512 + pl j n 0 : Nat) : Int) (j : Int) (p : Int) (n : Int) FU 0 S) (fun S' => nb S' 44 12288 HH ∧ (∀ k : Nat, k ≤ topf (decide (0 ≤ m)) n → tb S' 44 (p * 512 + pl j n k) = min HH (tb S 44 (p * 512 + pl j n k) + sm (topf (decide (0 ≤ m)) i + 1) (tm (wt (decide (m = -2)) n i) (topf (decide (0 ≤ m)) (n - i)) (fun a => tb S 41 (pl c i a)) (fun b => rwv (tb S 41) (tb S 44) p c (j - 1) (n - i) b) k))) ∧ (∀ q : Nat, q < 12288 → (∀ k : Nat, k ≤ topf (decide (0 ≤ m)) n → q ≠ p * 512 + pl j n k) → tb S' 44 q = tb S 44 q) ∧ kept [44] [] S S') := by
  have ht0 : topf (decide (0 ≤ m)) n ≤ n := topf_le
  have ht1 : topf (decide (0 ≤ m)) (n - i) ≤ n - i := topf_le
  have ht2 : topf (decide (0 ≤ m)) i ≤ i := topf_le
  have ht3 : topf (decide (0 ≤ m)) i + topf (decide (0 ≤ m)) (n - i) = topf (decide (0 ≤ m)) n := by unfold topf; split <;> omega
  refine loopW (fun f v s => mX0_growRows_40_44 (i : Int) ((p * 512 + pl j n 0 : Nat) : Int) (j : Int) (p : Int) (n : Int) f v s) (fun A S' => nb S' 44 12288 HH ∧ (∀ k : Nat, k ≤ topf (decide (0 ≤ m)) n → tb S' 44 (p * 512 + pl j n k) = min HH (tb S 44 (p * 512 + pl j n k) + sm A (tm (wt (decide (m = -2)) n i) (topf (decide (0 ≤ m)) (n - i)) (fun a => tb S 41 (pl c i a)) (fun b => rwv (tb S 41) (tb S 44) p c (j - 1) (n - i) b) k))) ∧ (∀ q : Nat, q < 12288 → (∀ k : Nat, k ≤ topf (decide (0 ≤ m)) n → q ≠ p * 512 + pl j n k) → tb S' 44 q = tb S 44 q) ∧ kept [44] [] S S') _ (topf (decide (0 ≤ m)) i + 1) (fun A f s hA hI hk => ?_) (fun f s hI => ?_) (topf (decide (0 ≤ m)) i + 1) 0 FU S (by omega) (by unfold FU; omega) ⟨hR, fun k hk => by rw [sm_0, Nat.add_zero, Nat.min_eq_right (hR.at (by unfold pl; omega)).2], fun _ _ _ => rfl, kept.rf⟩
  · obtain ⟨n1, v1, o1, k1⟩ := hI
    try dsimp only at hk ⊢
    have eC := (congrFun (k1.cell 40 (by decide) (by decide)) 1).trans h1
    have eO := k1.cell 41 (by decide) (by decide)
    have e5 : s 5 (p : Int) = (c : Int) := by rw [k1.cell 5 (by decide) (by decide)]; exact hc
    have tO : tb s 41 = tb S 41 := by funext j; unfold tb; rw [eO]
    have nO : nb s 41 1536 HH := by intro j hj; rw [eO]; exact hO j hj
    obtain ⟨r1, r1'⟩ := e_rowsOf40 (S := s) (p := p) (c := c) (j := 1) (n := i) (k := A) hp (fun _ => ⟨e5, hc2⟩) (by omega) (by omega) (by omega) nO n1
    rw [show rwv (tb s 41) (tb s 44) p c 1 i A = tb S 41 (pl c i A) by unfold rwv; rw [if_pos rfl, tO]] at r1 r1'
    have r1 : mX0_rowsOf_40 s (p : Int) 1 (i : Int) (A : Int) = _ := r1
    have hw := wt_le (lab := decide (m = -2)) (n := n) (i := i) hn
    rw [mX0_growRows_40_44, bd1_e (e_ltop40 hm eC), gd_t (by omega), if_neg (by omega), bd1_e r1, bd1_e (e_weight40 hm eC hn hi), bd1_e (e_timesH r1' (Nat.le_trans hw (by decide))), wp_bd1]
    refine wp_mono (gr40_80 (S := s) hm eC min_le' hp e5 hc2 hj hn hi (by omega) nO n1) (fun S2 q2 => ?_)
    obtain ⟨n2, v2, k2⟩ := q2
    have rq : ∀ b : Nat, b ≤ topf (decide (0 ≤ m)) (n - i) → rwv (tb s 41) (tb s 44) p c (j - 1) (n - i) b = rwv (tb S 41) (tb S 44) p c (j - 1) (n - i) b := fun b hb => by
      unfold rwv
      rw [tO]
      by_cases z : j - 1 = 1
      · rw [if_pos z, if_pos z]
      · rw [if_neg z, if_neg z, o1 _ (by unfold pl; omega) (fun k hk e => by unfold pl at e; omega)]
    refine hk S2 ⟨n2, fun k hk => ?_, fun q hq hne => ?_, kept.trans k1 k2⟩
    · rw [v2 _ (by unfold pl; omega), sm_s]
      by_cases cc : A ≤ k ∧ k - A ≤ topf (decide (0 ≤ m)) (n - i)
      · rw [if_pos (by unfold pl; omega), v1 k hk, show p * 512 + pl j n k - (p * 512 + pl j n A) = k - A by unfold pl; omega, rq _ cc.2]
        rw [show tm (wt (decide (m = -2)) n i) (topf (decide (0 ≤ m)) (n - i)) (fun a => tb S 41 (pl c i a)) (fun b => rwv (tb S 41) (tb S 44) p c (j - 1) (n - i) b) k A = tb S 41 (pl c i A) * wt (decide (m = -2)) n i * rwv (tb S 41) (tb S 44) p c (j - 1) (n - i) (k - A) from if_pos cc]
        rw [← Nat.add_assoc]
        generalize tb S 44 (p * 512 + pl j n k) + sm A (tm (wt (decide (m = -2)) n i) (topf (decide (0 ≤ m)) (n - i)) (fun a => tb S 41 (pl c i a)) (fun b => rwv (tb S 41) (tb S 44) p c (j - 1) (n - i) b) k) = X
        generalize tb S 41 (pl c i A) * wt (decide (m = -2)) n i = Z
        generalize rwv (tb S 41) (tb S 44) p c (j - 1) (n - i) (k - A) = t
        rw [← min_acc (r := Z)]
        generalize min HH Z * t = y
        omega
      · rw [if_neg (by unfold pl; omega), v1 k hk, show tm (wt (decide (m = -2)) n i) (topf (decide (0 ≤ m)) (n - i)) (fun a => tb S 41 (pl c i a)) (fun b => rwv (tb S 41) (tb S 44) p c (j - 1) (n - i) b) k A = 0 from if_neg cc, Nat.add_zero]
    · rw [v2 q hq, if_neg, o1 q hq hne]
      rintro ⟨c1, c2⟩
      exact hne (q - (p * 512 + pl j n 0)) (by unfold pl at c1 c2 ⊢; omega) (by unfold pl at c1 c2 ⊢; omega)
  · obtain ⟨n1, v1, o1, k1⟩ := hI
    have eC := (congrFun (k1.cell 40 (by decide) (by decide)) 1).trans h1
    try dsimp only
    rw [mX0_growRows_40_44, bd1_e (e_ltop40 hm eC), gd_t (by omega), if_pos (by omega), wp_some]
    exact ⟨n1, v1, o1, k1⟩
theorem gr40_35 {S : St} {m : Int} {j p c n : Nat} (hm : inI m) (h1 : S 40 1 = m) (hp : p < 24) (hc : S 5 (p : Int) = (c : Int)) (hc2 : c < 24) (hj : 2 ≤ j ∧ j ≤ 7) (hn : 1 ≤ n ∧ n ≤ 7) (hO : nb S 41 1536 HH) (hR : nb S 44 12288 HH) (hz : ∀ k : Nat, k ≤ topf (decide (0 ≤ m)) n → tb S 44 (p * 512 + pl j n k) = 0) : wp (mX0_growRows_40_35 ((p * 512 + pl j n 0 : Nat) : Int) (j : Int) (p : Int) (n : Int) FU 1 S) (fun S' => nb S' 44 12288 HH ∧ (∀ k : Nat, k ≤ topf (decide (0 ≤ m)) n → tb S' 44 (p * 512 + pl j n k) = min HH (gsum (decide (0 ≤ m)) (decide (m = -2)) n (fun s i => tb S 41 (pl c s i)) (rwv (tb S 41) (tb S 44) p c (j - 1)) k n)) ∧ (∀ q : Nat, q < 12288 → (∀ k : Nat, k ≤ topf (decide (0 ≤ m)) n → q ≠ p * 512 + pl j n k) → tb S' 44 q = tb S 44 q) ∧ kept [44] [] S S') := by
  have ht0 : topf (decide (0 ≤ m)) n ≤ n := topf_le
  refine loopW (fun f v s => mX0_growRows_40_35 ((p * 512 + pl j n 0 : Nat) : Int) (j : Int) (p : Int) (n : Int) f v s) (fun N S' => 1 ≤ N ∧ nb S' 44 12288 HH ∧ (∀ k : Nat, k ≤ topf (decide (0 ≤ m)) n → tb S' 44 (p * 512 + pl j n k) = min HH (gsum (decide (0 ≤ m)) (decide (m = -2)) n (fun s i => tb S 41 (pl c s i)) (rwv (tb S 41) (tb S 44) p c (j - 1)) k N)) ∧ (∀ q : Nat, q < 12288 → (∀ k : Nat, k ≤ topf (decide (0 ≤ m)) n → q ≠ p * 512 + pl j n k) → tb S' 44 q = tb S 44 q) ∧ kept [44] [] S S') _ n (fun i f s hi hI hk => ?_) (fun f s hI => ?_) (n - 1) 1 FU S (by omega) (by unfold FU; omega) ⟨by omega, hR, fun k hk => by rw [hz k hk]; unfold gsum; rw [sm_s, sm_0, if_pos rfl, Nat.add_zero, Nat.min_zero], fun _ _ _ => rfl, kept.rf⟩
  · obtain ⟨i1, n1, v1, o1, k1⟩ := hI
    try dsimp only at hk ⊢
    have eC := (congrFun (k1.cell 40 (by decide) (by decide)) 1).trans h1
    have eO := k1.cell 41 (by decide) (by decide)
    have e5 : s 5 (p : Int) = (c : Int) := by rw [k1.cell 5 (by decide) (by decide)]; exact hc
    have tO : tb s 41 = tb S 41 := by funext j; unfold tb; rw [eO]
    rw [mX0_growRows_40_35, gd_t (by omega), if_neg (by omega), wp_bd1]
    refine wp_mono (gr40_44 (S := s) hm eC hp e5 hc2 hj hn.2 (by omega) (by intro j hj; rw [eO]; exact hO j hj) n1) (fun S2 q2 => ?_)
    obtain ⟨n2, v2, o2, k2⟩ := q2
    have rq : ∀ t b : Nat, t ≤ 7 → b ≤ 7 → rwv (tb s 41) (tb s 44) p c (j - 1) t b = rwv (tb S 41) (tb S 44) p c (j - 1) t b := fun t b ht hb => by
      unfold rwv
      rw [tO]
      by_cases z : j - 1 = 1
      · rw [if_pos z, if_pos z]
      · rw [if_neg z, if_neg z, o1 _ (by unfold pl; omega) (fun k hk e => by unfold pl at e; omega)]
    refine hk S2 ⟨by omega, n2, fun k hk => ?_, fun q hq hne => by rw [o2 q hq hne, o1 q hq hne], kept.trans k1 k2⟩
    rw [v2 k hk, v1 k hk, tO]
    have e : sm (topf (decide (0 ≤ m)) i + 1) (tm (wt (decide (m = -2)) n i) (topf (decide (0 ≤ m)) (n - i)) (fun a => tb S 41 (pl c i a)) (fun b => rwv (tb S 41) (tb s 44) p c (j - 1) (n - i) b) k) = sm (topf (decide (0 ≤ m)) i + 1) (tm (wt (decide (m = -2)) n i) (topf (decide (0 ≤ m)) (n - i)) (fun a => tb S 41 (pl c i a)) (rwv (tb S 41) (tb S 44) p c (j - 1) (n - i)) k) := by
      refine sm_congr fun a ha => ?_
      unfold tm
      have : topf (decide (0 ≤ m)) (n - i) ≤ n - i := topf_le
      by_cases c : a ≤ k ∧ k - a ≤ topf (decide (0 ≤ m)) (n - i)
      · rw [if_pos c, if_pos c]
        have := rq (n - i) (k - a) (by omega) (by omega)
        rw [tO] at this
        exact congrArg _ this
      · rw [if_neg c, if_neg c]
    rw [e]
    unfold gsum
    rw [sm_s (n := i), if_neg (show ¬ i = 0 by omega)]
    generalize sm (topf (decide (0 ≤ m)) i + 1) (tm (wt (decide (m = -2)) n i) (topf (decide (0 ≤ m)) (n - i)) (fun a => tb S 41 (pl c i a)) (rwv (tb S 41) (tb S 44) p c (j - 1) (n - i)) k) = x
    generalize sm i _ = y
    omega
  · obtain ⟨i1, n1, v1, o1, k1⟩ := hI
    try dsimp only
    rw [mX0_growRows_40_35, gd_t (by omega), if_pos (by omega), wp_some]
    exact ⟨n1, v1, o1, k1⟩
theorem e_longest40 {S : St} {M : Int → Int} {p : Nat} (h : WF M) (hG : GM S M) (hp : (p : Int) < M 2) (hs : 3 ≤ M (24 + (p : Int)) ∧ M (24 + (p : Int)) ≤ 6) : mX0_longest_40 S (p : Int) = some ((lgM M p : Nat) : Int) := by
  have hM2 := h.2.2.1
  have hM1 := h.2.1
  have h6 := (h.2.2.2.1 p hp).2.2.2.2.2 hs
  have g := (hG.2.1 p hp).2.2.1 (by omega)
  unfold mX0_longest_40 lgM
  rw [gd_t (by omega), g, gd_t (by omega)]
  by_cases z : M (48 + (p : Int)) = 0
  · rw [if_pos z, if_pos z, hG.1.1]; rw [Int.toNat_of_nonneg (by omega)]
  · rw [if_neg z, if_neg z]; rw [Int.toNat_of_nonneg (by omega)]
theorem w_growRows40 {S : St} {M : Int → Int} {m : Int} {p c n : Nat} (h : WF M) (hG : GM S M) (hm : inI m) (h1 : S 40 1 = m) (hp : (p : Int) < M 2) (hs : 3 ≤ M (24 + (p : Int)) ∧ M (24 + (p : Int)) ≤ 6) (hc : M (72 + (p : Int)) = (c : Int)) (hn : 1 ≤ n ∧ n ≤ 7) (hO : nb S 41 1536 HH) (hR : nb S 44 12288 HH) (hz : ∀ j k : Nat, 2 ≤ j → j ≤ lgM M p → k ≤ topf (decide (0 ≤ m)) n → tb S 44 (p * 512 + pl j n k) = 0) (hlo : rowsOK (decide (0 ≤ m)) (decide (m = -2)) (fun s i => tb S 41 (pl c s i)) (tb S 44) p (lgM M p) (n - 1)) : wp (mX0_growRows_40 S (p : Int) (n : Int)) (fun S' => nb S' 44 12288 HH ∧ rowsOK (decide (0 ≤ m)) (decide (m = -2)) (fun s i => tb S 41 (pl c s i)) (tb S' 44) p (lgM M p) n ∧ (∀ q : Nat, q < 12288 → (∀ j k : Nat, 2 ≤ j → j ≤ 7 → k ≤ topf (decide (0 ≤ m)) n → q ≠ p * 512 + pl j n k) → tb S' 44 q = tb S 44 q) ∧ kept [44] [] S S') := by
  have hM2 := h.2.2.1
  have hM1 := h.2.1
  have h6 := (h.2.2.2.1 p hp).2.2.2.2.2 hs
  have hl := lgM_le h hp hs
  have ht0 : topf (decide (0 ≤ m)) n ≤ n := topf_le
  have e5 : S 5 (p : Int) = (c : Int) := by rw [← hc]; exact (hG.2.1 p hp).2.2.2.2.1 hs
  unfold mX0_growRows_40
  rw [wp_bd1]
  refine wp_mono (loopW (fun f v s => mX0_growRows_40_2 (p : Int) (n : Int) f v s) (fun j S' => 2 ≤ j ∧ nb S' 44 12288 HH ∧ (∀ j' k : Nat, 2 ≤ j' → j' < j → k ≤ topf (decide (0 ≤ m)) n → tb S' 44 (p * 512 + pl j' n k) = min HH (trw (decide (m = -2)) (cut (decide (0 ≤ m)) (fun s i => tb S 41 (pl c s i))) j' n k)) ∧ (∀ q : Nat, q < 12288 → (∀ j' k : Nat, 2 ≤ j' → j' < j → k ≤ topf (decide (0 ≤ m)) n → q ≠ p * 512 + pl j' n k) → tb S' 44 q = tb S 44 q) ∧ kept [44] [] S S') (fun S' => nb S' 44 12288 HH ∧ rowsOK (decide (0 ≤ m)) (decide (m = -2)) (fun s i => tb S 41 (pl c s i)) (tb S' 44) p (lgM M p) n ∧ (∀ q : Nat, q < 12288 → (∀ j k : Nat, 2 ≤ j → j ≤ 7 → k ≤ topf (decide (0 ≤ m)) n → q ≠ p * 512 + pl j n k) → tb S' 44 q = tb S 44 q) ∧ kept [44] [] S S') (max 2 (min n (lgM M p) + 1)) (fun j f s hj hI hk => ?_) (fun f s hI => ?_) (max 2 (min n (lgM M p) + 1) - 2) 2 FU S (by omega) (by unfold FU; omega) ⟨by omega, hR, fun j' k a b => by omega, fun _ _ _ => rfl, kept.rf⟩) (fun S' q => by rw [wp_some]; exact q)
  · obtain ⟨j1, n1, v1, o1, k1⟩ := hI
    try dsimp only at hk ⊢
    have eC := (congrFun (k1.cell 40 (by decide) (by decide)) 1).trans h1
    have eO := k1.cell 41 (by decide) (by decide)
    have f5 : s 5 (p : Int) = (c : Int) := by rw [k1.cell 5 (by decide) (by decide)]; exact e5
    have tO : tb s 41 = tb S 41 := by funext j; unfold tb; rw [eO]
    have hG' : GM s M := hG.of (fun i a b => k1.cell i (by simp; omega) (by simp))
    rw [mX0_growRows_40_2, bd1_e (e_longest40 h hG' hp hs), gd_t (by omega), gd_t (by omega), if_neg (by omega), nx_e, wp_bd1, show (p : Int) * 512 + (j : Int) * 64 + (n : Int) * 8 = ((p * 512 + pl j n 0 : Nat) : Int) by unfold pl; omega]
    refine wp_mono (gr40_35 (S := s) hm eC (by omega) f5 (by omega) (by omega) hn (by intro j hj; rw [eO]; exact hO j hj) n1 (fun k hk => by rw [o1 _ (by unfold pl; omega) (fun j' k' a b c e => by unfold pl at e; omega)]; exact hz j k (by omega) (by omega) hk)) (fun S2 q2 => ?_)
    obtain ⟨n2, v2, o2, k2⟩ := q2
    refine hk S2 ⟨by omega, n2, fun j' k a b d => ?_, fun q hq hne => ?_, kept.trans k1 k2⟩
    · by_cases z : j' = j
      · subst z
        rw [v2 k d, tO]
        refine gsum_trw (by omega) hn.1 (fun t i t1 t2 t3 => ?_)
        have tt : topf (decide (0 ≤ m)) t ≤ t := topf_le
        unfold rwv
        by_cases z : j' - 1 = 1
        · rw [if_pos z, z, trw_1 t1, wt_nn, Nat.one_mul, show cut (decide (0 ≤ m)) (fun s i => tb S 41 (pl c s i)) t i = tb S 41 (pl c t i) from if_pos t3]
        · rw [if_neg z, o1 _ (by unfold pl; omega) (fun j2 k' a b c e => by have := (pl_inj (Nat.add_left_cancel e) (by omega) (by omega) (by omega) (by omega)).2.1; omega), hlo (j' - 1) t i (by omega) (by omega) (by omega) t3]
          rw [← Nat.min_assoc, Nat.min_self]
      · rw [o2 _ (by unfold pl; omega) (fun k' a e => by unfold pl at e; omega)]
        exact v1 j' k a (by omega) d
    · rw [o2 q hq (fun k' a => hne j k' (by omega) (by omega) a), o1 q hq (fun j' k' a b => hne j' k' a (by omega))]
  · obtain ⟨j1, n1, v1, o1, k1⟩ := hI
    try dsimp only
    have hG' : GM s M := hG.of (fun i a b => k1.cell i (by simp; omega) (by simp))
    rw [mX0_growRows_40_2, bd1_e (e_longest40 h hG' hp hs), gd_t (by omega), gd_t (by omega), if_pos (by omega), wp_some]
    refine ⟨n1, fun j t k a b d e => ?_, fun q hq hne => o1 q hq (fun j' k' a b => hne j' k' a (by omega)), k1⟩
    have tt : topf (decide (0 ≤ m)) t ≤ t := topf_le
    by_cases z : t = n
    · subst z
      by_cases w : j ≤ t
      · exact v1 j k a (by omega) e
      · rw [trw_small j t k (by omega), Nat.min_zero, o1 _ (by unfold pl; omega) (fun j' k' x1 x2 x3 x4 => by unfold pl at x4; omega)]
        exact hz j k a b e
    · rw [o1 _ (by unfold pl; omega) (fun j' k' x1 x2 x3 x4 => by have := (pl_inj (Nat.add_left_cancel x4) (by omega) (by omega) (by omega) (by omega)).2.1; omega)]
      exact hlo j t k a b (by omega) e
