/-! bags, as the class lays them -/
theorem ixb {p j i n q y z : Nat} (h1 : i ≤ j) (h2 : y ≤ n) (h3 : z ≤ q) : ((p * 512 : Nat) : Int) + ((j : Int) - (i : Int)) * 64 + ((n : Int) - (y : Int)) * 8 + (q : Int) - (z : Int) = ((p * 512 + pl (j - i) (n - y) (q - z) : Nat) : Int) := by
  unfold pl; omega
def w1 (W : Nat → Nat) (m : Nat) : Nat := if m = 0 then 1 else W m
def tab (R : Nat → Nat) (p j n k : Nat) : Nat := R (p * 512 + pl j n k)
theorem bgI_thin {once : Bool} {c : Nat → Nat → Nat} {s : Nat} {T : Nat → Nat → Nat → Nat} (hT : ∀ j n k, n < k → T j n k = 0) : ∀ i, i ≤ s + 1 → ∀ j n k, n < k → bgI once c s T i j n k = 0 := by
  intro i
  induction i with
  | zero => intro _; exact hT
  | succ i ih =>
    intro hi j n k h
    show addC (ch once (c s i)) s i (bgI once c s T i) j n k = 0
    refine sm_zero fun m hm => ?_
    by_cases q : m * s ≤ n ∧ m * i ≤ k
    · have : m * i ≤ m * s := Nat.mul_le_mul_left m (by omega)
      rw [if_pos q, ih (by omega) (j - m) (n - m * s) (k - m * i) (by omega), Nat.mul_zero]
    · rw [if_neg q]
theorem bgS_thin {once : Bool} {c : Nat → Nat → Nat} {L : Bool} : ∀ s j n k, n < k → bgS once c (topf L) s j n k = 0 := by
  intro s
  induction s with
  | zero =>
    intro j n k h
    show (if j = 0 ∧ n = 0 ∧ k = 0 then 1 else 0) = 0
    rw [if_neg (by omega)]
  | succ s ih =>
    have : topf L (s + 1) ≤ s + 1 := topf_le
    exact bgI_thin ih _ (by omega)
def bgOK (L once : Bool) (c : Nat → Nat → Nat) (R : Nat → Nat) (p lg most s i : Nat) : Prop := ∀ j n q : Nat, j ≤ lg → n ≤ most → q ≤ topf L n → ev (tab R p j n q) (bgI once c s (bgS once c (topf L) (s - 1)) i j n q)
/-- cells beyond the size are never written -/
def rz (R : Nat → Nat) : Prop := ∀ p j n k : Nat, p < 24 → j ≤ 7 → n < k → k ≤ 7 → R (p * 512 + pl j n k) = 0
theorem addC_cg {w : Nat → Nat} {s i : Nat} {T T' : Nat → Nat → Nat → Nat} {j n k : Nat} (h0 : T j n k = T' j n k) (hT : ∀ m, 1 ≤ m → m ≤ j → m * s ≤ n → m * i ≤ k → T (j - m) (n - m * s) (k - m * i) = T' (j - m) (n - m * s) (k - m * i)) : addC w s i T j n k = addC w s i T' j n k := by
  refine sm_congr fun m hm => ?_
  by_cases q : m * s ≤ n ∧ m * i ≤ k
  · rw [if_pos q, if_pos q]
    rcases Nat.eq_zero_or_pos m with z | z
    · subst z; simp only [Nat.zero_mul, Nat.sub_zero]; rw [h0]
    · rw [hT m z (by omega) q.1 q.2]
  · rw [if_neg q, if_neg q]
theorem bg_next {L once : Bool} {c : Nat → Nat → Nat} {R W : Nat → Nat} {p lg most s i : Nat} (hp : p < 24) (hlg : lg ≤ 7) (hmost : most ≤ 7) (hs : 1 ≤ s) (hi : i ≤ topf L s) (hR : bgOK L once c R p lg most s i) (hz : rz R) (hW : ∀ m, 1 ≤ m → m ≤ 7 → m * s ≤ most → ev (W m) (ch once (c s i) m)) {j n q : Nat} (hj : j ≤ lg) (hn : n ≤ most) (hq : q ≤ topf L n) : ev (addC (w1 W) s i (tab R p) j n q) (bgI once c s (bgS once c (topf L) (s - 1)) (i + 1) j n q) := by
  have t1 : topf L s ≤ s := topf_le
  have t2 : topf L n ≤ n := topf_le
  show ev _ (addC (ch once (c s i)) s i (bgI once c s (bgS once c (topf L) (s - 1)) i) j n q)
  refine sm_ev fun m hm => ?_
  by_cases x : m * s ≤ n ∧ m * i ≤ q
  · rw [if_pos x, if_pos x]
    refine ev_mul ?_ ?_
    · unfold w1
      rcases Nat.eq_zero_or_pos m with z | z
      · rw [if_pos z, z, show ch once (c s i) 0 = 1 by unfold ch; rw [if_pos rfl]]; exact ev.rf
      · rw [if_neg (by omega)]; exact hW m z (by omega) (by omega)
    · have : m * i ≤ m * s := Nat.mul_le_mul_left m (by omega)
      by_cases y : q - m * i ≤ topf L (n - m * s)
      · exact hR (j - m) (n - m * s) (q - m * i) (by omega) (by omega) y
      · have z : n - m * s < q - m * i := by
          cases L with
          | true => simp [topf] at y ⊢; omega
          | false => simp [topf] at y hq; omega
        rw [show tab R p (j - m) (n - m * s) (q - m * i) = 0 from hz p (j - m) _ _ hp (by omega) z (by omega), bgI_thin (s := s) (bgS_thin (s - 1)) i (by omega) _ _ _ z]
        exact ev.rf
  · rw [if_neg x, if_neg x]; exact ev.rf
theorem bgI_0 {once : Bool} {c : Nat → Nat → Nat} {s i : Nat} {T : Nat → Nat → Nat → Nat} (h : c s i = 0) : bgI once c s T (i + 1) = bgI once c s T i := by
  funext j n k
  show addC (ch once (c s i)) s i (bgI once c s T i) j n k = _
  rw [h]
  exact addC_id (by unfold ch; rw [if_pos rfl]) (fun m h1 _ => Or.inl (ch_zero h1))
/-! the class's census 48: bags -/
theorem ac48_57 {S : St} {p j n s k q : Nat} (hp : p < 24) (hj : 1 ≤ j ∧ j ≤ 7) (hn : n ≤ 7) (hq : q ≤ 7) (hs : 1 ≤ s) (hss : s ≤ 7) (hkk : k ≤ 7) (hR : nb S 52 12288 HH) (hW : nb S 53 8 HH) : wp (mX0_addClass_48_57 ((p * 512 + pl j n q : Nat) : Int) (q : Int) (j : Int) ((p * 512 : Nat) : Int) (n : Int) (s : Int) (k : Int) FU 1 S) (fun S' => nb S' 52 12288 HH ∧ (∀ x : Nat, x < 12288 → tb S' 52 x = if x = p * 512 + pl j n q then min HH (addC (w1 (tb S 53)) s k (tab (tb S 52) p) j n q) else tb S 52 x) ∧ kept [52] [] S S') := by
  have bc : p * 512 + pl j n q < 12288 := rb hp hj.2 hn hq
  have e0 : sm 1 (fun m => if m * s ≤ n ∧ m * k ≤ q then w1 (tb S 53) m * tab (tb S 52) p (j - m) (n - m * s) (q - m * k) else 0) = tb S 52 (p * 512 + pl j n q) := by
    rw [sm_s, sm_0, if_pos (by omega)]
    simp [w1, tab]
  refine loopW (fun f v s' => mX0_addClass_48_57 ((p * 512 + pl j n q : Nat) : Int) (q : Int) (j : Int) ((p * 512 : Nat) : Int) (n : Int) (s : Int) (k : Int) f v s') (fun i S' => 1 ≤ i ∧ nb S' 52 12288 HH ∧ (∀ x : Nat, x < 12288 → tb S' 52 x = if x = p * 512 + pl j n q then min HH (sm i (fun m => if m * s ≤ n ∧ m * k ≤ q then w1 (tb S 53) m * tab (tb S 52) p (j - m) (n - m * s) (q - m * k) else 0)) else tb S 52 x) ∧ kept [52] [] S S') _ (j + 1) (fun i f s' hi hI hk => ?_) (fun f s' hI => ?_) j 1 FU S (by omega) (by unfold FU; omega) ⟨by omega, hR, fun x hx => ?_, kept.rf⟩
  · obtain ⟨i1, n1, v1, k1⟩ := hI
    try dsimp only at hk ⊢
    have eW := k1.cell 53 (by decide) (by decide)
    have pi : (i : Int) * (s : Int) = ((i * s : Nat) : Int) := by rw [Int.natCast_mul]
    have pk : (i : Int) * (k : Int) = ((i * k : Nat) : Int) := by rw [Int.natCast_mul]
    have done : (n < i * s ∨ q < i * k) → nb s' 52 12288 HH ∧ (∀ x : Nat, x < 12288 → tb s' 52 x = if x = p * 512 + pl j n q then min HH (addC (w1 (tb S 53)) s k (tab (tb S 52) p) j n q) else tb S 52 x) ∧ kept [52] [] S s' := fun hd => by
      refine ⟨n1, fun x hx => ?_, k1⟩
      rw [v1 x hx]
      unfold addC
      rw [sm_cut (x := i) (y := j + 1) (by omega) (fun m a b => ?_)]
      rw [if_neg]
      have a1 : i * s ≤ m * s := Nat.mul_le_mul_right s a
      have a2 : i * k ≤ m * k := Nat.mul_le_mul_right k a
      omega
    rw [mX0_addClass_48_57, gd_t (by omega), if_neg (by omega), pi, pk]
    have s49 : i * s ≤ 49 := Nat.le_trans (Nat.mul_le_mul (show i ≤ 7 by omega) hss) (by decide)
    have k49 : i * k ≤ 49 := Nat.le_trans (Nat.mul_le_mul (show i ≤ 7 by omega) hkk) (by decide)
    rw [gd_t (by omega)]
    by_cases c1 : n < i * s
    · rw [if_pos (by omega), wp_some]; exact done (Or.inl c1)
    rw [if_neg (by omega), gd_t (by omega)]
    by_cases c2 : q < i * k
    · rw [if_pos (by omega), wp_some]; exact done (Or.inr c2)
    have i0 : 1 ≤ i * s := Nat.le_trans hs (Nat.le_mul_of_pos_left s i1)
    have b3 : p * 512 + pl (j - i) (n - i * s) (q - i * k) < 12288 := rb hp (by omega) (by omega) (by omega)
    have r1 := n1.at b3
    have u1 : tb s' 52 (p * 512 + pl (j - i) (n - i * s) (q - i * k)) = tab (tb S 52) p (j - i) (n - i * s) (q - i * k) := by
      rw [v1 _ b3, if_neg]; · rfl
      intro e
      have := (pl_inj (Nat.add_left_cancel e) (by omega) (by omega) (by omega) (by omega)).2.1
      omega
    have r2 := n1.at bc
    have rw_ := hW.at (j := i) (by omega)
    have ix : ((p * 512 : Nat) : Int) + ((j : Int) - (i : Int)) * 64 + ((n : Int) - ((i * s : Nat) : Int)) * 8 + (q : Int) - ((i * k : Nat) : Int) = ((p * 512 + pl (j - i) (n - i * s) (q - i * k) : Nat) : Int) := ixb (by omega) (by omega) (by omega)
    rw [if_neg (by omega), ix, gd_t (by omega), nx_e, gd_t (by omega), gd_t (by omega), eW, rw_.1, r1.1, bd1_e (e_timesH rw_.2 r1.2), r2.1, bd1_e (e_plusH r2.2 min_le'), nx_e]
    refine hk _ ⟨by omega, nb_up n1 min_le', fun x hx => ?_, kept.upA k1 (by simp)⟩
    rw [tb_up]
    by_cases e : x = p * 512 + pl j n q
    · subst e
      rw [if_pos rfl, if_pos rfl, u1, v1 _ bc, if_pos rfl, sm_s (n := i), if_pos (by omega), show w1 (tb S 53) i = tb S 53 i from if_neg (by omega)]
      generalize sm i _ = y
      generalize tb S 53 i * _ = z
      omega
    · rw [if_neg e, if_neg e, v1 x hx, if_neg e]
  · obtain ⟨i1, n1, v1, k1⟩ := hI
    try dsimp only
    rw [mX0_addClass_48_57, gd_t (by omega), if_pos (by omega), wp_some]
    exact ⟨n1, v1, k1⟩
  · by_cases e : x = p * 512 + pl j n q
    · rw [if_pos e, e0, e, Nat.min_eq_right (hR.at bc).2]
    · rw [if_neg e]
theorem ac48_31 {S : St} {m : Int} {p j n s k : Nat} (hm : inI m) (h1 : S 48 1 = m) (hp : p < 24) (hj : 1 ≤ j ∧ j ≤ 7) (hn : n ≤ 7) (hs : 1 ≤ s) (hss : s ≤ 7) (hkk : k ≤ 7) (hR : nb S 52 12288 HH) (hW : nb S 53 8 HH) : wp (mX0_addClass_48_31 (j : Int) ((p * 512 : Nat) : Int) (n : Int) (s : Int) (k : Int) FU ((topf (decide (0 ≤ m)) n : Nat) : Int) S) (fun S' => nb S' 52 12288 HH ∧ (∀ q : Nat, q ≤ topf (decide (0 ≤ m)) n → tb S' 52 (p * 512 + pl j n q) = min HH (addC (w1 (tb S 53)) s k (tab (tb S 52) p) j n q)) ∧ (∀ x : Nat, x < 12288 → (∀ q : Nat, q ≤ topf (decide (0 ≤ m)) n → x ≠ p * 512 + pl j n q) → tb S' 52 x = tb S 52 x) ∧ kept [52] [] S S') := by
  have t2 : topf (decide (0 ≤ m)) n ≤ n := topf_le
  refine loopD (fun f v s' => mX0_addClass_48_31 (j : Int) ((p * 512 : Nat) : Int) (n : Int) (s : Int) (k : Int) f v s') (fun v S' => v ≤ (topf (decide (0 ≤ m)) n : Nat) ∧ nb S' 52 12288 HH ∧ (∀ q : Nat, q ≤ topf (decide (0 ≤ m)) n → v < (q : Int) → tb S' 52 (p * 512 + pl j n q) = min HH (addC (w1 (tb S 53)) s k (tab (tb S 52) p) j n q)) ∧ (∀ x : Nat, x < 12288 → (∀ q : Nat, q ≤ topf (decide (0 ≤ m)) n → v < (q : Int) → x ≠ p * 512 + pl j n q) → tb S' 52 x = tb S 52 x) ∧ kept [52] [] S S') _ 0 (fun v f s' hv hI hk => ?_) (fun f s' hI => ?_) (topf (decide (0 ≤ m)) n + 1) FU _ S (by omega) (by unfold FU; omega) ⟨by omega, hR, fun q a b => by omega, fun _ _ _ => rfl, kept.rf⟩
  · obtain ⟨v0, n1, v1, o1, k1⟩ := hI
    try dsimp only at hk ⊢
    obtain ⟨q, rfl⟩ := Int.eq_ofNat_of_zero_le hv
    have eW := k1.cell 53 (by decide) (by decide)
    have tW : tb s' 53 = tb S 53 := by funext j; unfold tb; rw [eW]
    rw [mX0_addClass_48_31, gd_t (by omega), if_neg (by omega), nx_e, wp_bd1, show ((p * 512 : Nat) : Int) + (j : Int) * 64 + (n : Int) * 8 + (q : Int) = ((p * 512 + pl j n q : Nat) : Int) by unfold pl; omega]
    refine wp_mono (ac48_57 (S := s') (p := p) (j := j) (n := n) (s := s) (k := k) (q := q) hp hj hn (by omega) hs hss hkk n1 (by intro i hi; rw [eW]; exact hW i hi)) (fun S2 q2 => ?_)
    obtain ⟨n2, v2, k2⟩ := q2
    have old : ∀ j' n' q' : Nat, j' ≤ 7 → q' ≤ 7 → (n' < n ∨ (j' = j ∧ n' = n ∧ q' = q)) → tab (tb s' 52) p j' n' q' = tab (tb S 52) p j' n' q' := fun j' n' q' a b d => by
      refine o1 _ (rb hp a (by omega) b) (fun q3 x1 x2 x3 => ?_)
      have := pl_inj (Nat.add_left_cancel x3) (by omega) (by omega) (by omega) (by omega)
      omega
    refine hk S2 ⟨by omega, n2, fun q' a b => ?_, fun x hx hne => ?_, kept.trans k1 k2⟩
    · rw [v2 _ (rb hp hj.2 hn (by omega))]
      by_cases e : q' = q
      · subst e
        rw [if_pos rfl, tW]
        congr 1
        refine addC_cg (old j n q' hj.2 (by omega) (Or.inr ⟨rfl, rfl, rfl⟩)) (fun i a1 a2 a3 a4 => old _ _ _ (by omega) (by omega) (Or.inl ?_))
        have : 1 ≤ i * s := Nat.le_trans hs (Nat.le_mul_of_pos_left s a1)
        omega
      · rw [if_neg (fun x => e (by have := (pl_inj (Nat.add_left_cancel x) (by omega) (by omega) (by omega) (by omega)).2.2; omega))]
        exact v1 q' a (by omega)
    · rw [v2 x hx, if_neg (hne q (by omega) (by omega))]
      exact o1 x hx (fun q' a b => hne q' a (by omega))
  · obtain ⟨v0, n1, v1, o1, k1⟩ := hI
    try dsimp only
    rw [mX0_addClass_48_31, gd_t (by omega), if_pos (by omega), wp_some]
    exact ⟨n1, fun q a => v1 q a (by omega), fun x hx hne => o1 x hx (fun q a _ => hne q a), k1⟩
theorem w_addClass48 {S : St} {M : Int → Int} {m : Int} {p n s k : Nat} (h : WF M) (hG : GM S M) (hp2 : (p : Int) < M 2) (hsq : 3 ≤ M (24 + (p : Int)) ∧ M (24 + (p : Int)) ≤ 6) (hm : inI m) (h1 : S 48 1 = m) (hn : n ≤ 7) (hs : 1 ≤ s) (hss : s ≤ 7) (hkk : k ≤ 7) (hR : nb S 52 12288 HH) (hW : nb S 53 8 HH) : wp (mX0_addClass_48 S (p : Int) (n : Int) (s : Int) (k : Int)) (fun S' => nb S' 52 12288 HH ∧ (∀ j q : Nat, 1 ≤ j → j ≤ min n (lgM M p) → q ≤ topf (decide (0 ≤ m)) n → tb S' 52 (p * 512 + pl j n q) = min HH (addC (w1 (tb S 53)) s k (tab (tb S 52) p) j n q)) ∧ (∀ x : Nat, x < 12288 → (∀ j q : Nat, 1 ≤ j → j ≤ min n (lgM M p) → q ≤ topf (decide (0 ≤ m)) n → x ≠ p * 512 + pl j n q) → tb S' 52 x = tb S 52 x) ∧ kept [52] [] S S') := by
  have t2 : topf (decide (0 ≤ m)) n ≤ n := topf_le
  have hM2 := h.2.2.1
  have hp : p < 24 := by omega
  have hl := lgM_le h hp2 hsq
  unfold mX0_addClass_48
  rw [nx_e, bd1_e (e_longest48 h hG hp2 hsq), gd_t (by omega), nx_e, wp_bd1, show min (n : Int) ((lgM M p : Nat) : Int) = ((min n (lgM M p) : Nat) : Int) from cmin, show (p : Int) * 512 = ((p * 512 : Nat) : Int) by omega]
  refine wp_mono (loopD (fun f v s' => mX0_addClass_48_18 ((p * 512 : Nat) : Int) (n : Int) (s : Int) (k : Int) f v s') (fun v S' => v ≤ ((min n (lgM M p) : Nat) : Int) ∧ nb S' 52 12288 HH ∧ (∀ j q : Nat, 1 ≤ j → v < (j : Int) → j ≤ min n (lgM M p) → q ≤ topf (decide (0 ≤ m)) n → tb S' 52 (p * 512 + pl j n q) = min HH (addC (w1 (tb S 53)) s k (tab (tb S 52) p) j n q)) ∧ (∀ x : Nat, x < 12288 → (∀ j q : Nat, 1 ≤ j → v < (j : Int) → j ≤ min n (lgM M p) → q ≤ topf (decide (0 ≤ m)) n → x ≠ p * 512 + pl j n q) → tb S' 52 x = tb S 52 x) ∧ kept [52] [] S S') (fun S' => nb S' 52 12288 HH ∧ (∀ j q : Nat, 1 ≤ j → j ≤ min n (lgM M p) → q ≤ topf (decide (0 ≤ m)) n → tb S' 52 (p * 512 + pl j n q) = min HH (addC (w1 (tb S 53)) s k (tab (tb S 52) p) j n q)) ∧ (∀ x : Nat, x < 12288 → (∀ j q : Nat, 1 ≤ j → j ≤ min n (lgM M p) → q ≤ topf (decide (0 ≤ m)) n → x ≠ p * 512 + pl j n q) → tb S' 52 x = tb S 52 x) ∧ kept [52] [] S S') 1 (fun v f s' hv hI hk => ?_) (fun f s' hI => ?_) (min n (lgM M p)) FU _ S (by omega) (by unfold FU; omega) ⟨by omega, hR, fun j q _ a b => by omega, fun _ _ _ => rfl, kept.rf⟩) (fun S' q => by rw [wp_some]; exact q)
  · obtain ⟨v0, n1, v1, o1, k1⟩ := hI
    try dsimp only at hk ⊢
    obtain ⟨j, rfl⟩ := Int.eq_ofNat_of_zero_le (show 0 ≤ v by omega)
    have eC := (congrFun (k1.cell 48 (by decide) (by decide)) 1).trans h1
    have eW := k1.cell 53 (by decide) (by decide)
    have tW : tb s' 53 = tb S 53 := by funext j; unfold tb; rw [eW]
    rw [mX0_addClass_48_18, gd_t (by omega), if_neg (by omega), bd1_e (e_ltop48 hm eC), wp_bd1]
    refine wp_mono (ac48_31 (S := s') (p := p) (j := j) (n := n) (s := s) (k := k) hm eC hp (by omega) hn hs hss hkk n1 (by intro i hi; rw [eW]; exact hW i hi)) (fun S2 q2 => ?_)
    obtain ⟨n2, v2, o2, k2⟩ := q2
    have old : ∀ j' n' q' : Nat, j' ≤ 7 → q' ≤ 7 → (n' < n ∨ (j' = j ∧ n' = n)) → tab (tb s' 52) p j' n' q' = tab (tb S 52) p j' n' q' := fun j' n' q' a b d => by
      refine o1 _ (rb hp a (by omega) b) (fun j3 q3 x0 x1 x2 x3 x4 => ?_)
      have := pl_inj (Nat.add_left_cancel x4) (by omega) (by omega) (by omega) (by omega)
      omega
    refine hk S2 ⟨by omega, n2, fun j' q' a b d e => ?_, fun x hx hne => ?_, kept.trans k1 k2⟩
    · by_cases z : j' = j
      · subst z
        rw [v2 q' e, tW]
        congr 1
        refine addC_cg (old j' n q' (by omega) (by omega) (Or.inr ⟨rfl, rfl⟩)) (fun i a1 a2 a3 a4 => old _ _ _ (by omega) (by omega) (Or.inl ?_))
        have : 1 ≤ i * s := Nat.le_trans hs (Nat.le_mul_of_pos_left s a1)
        omega
      · rw [o2 _ (rb hp (by omega) hn (by omega)) (fun q3 x1 x2 => z (by have := (pl_inj (Nat.add_left_cancel x2) (by omega) (by omega) (by omega) (by omega)).1; omega))]
        exact v1 j' q' a (by omega) d e
    · rw [o2 x hx (fun q' a => hne j q' (by omega) (by omega) (by omega) a)]
      exact o1 x hx (fun j' q' a b => hne j' q' a (by omega))
  · obtain ⟨v0, n1, v1, o1, k1⟩ := hI
    try dsimp only
    rw [mX0_addClass_48_18, gd_t (by omega), if_pos (by omega), wp_some]
    exact ⟨n1, fun j q a => v1 j q a (by omega), fun x hx hne => o1 x hx (fun j q a _ => hne j q a), k1⟩
/-! the class's census 40: bags -/
theorem ac40_57 {S : St} {p j n s k q : Nat} (hp : p < 24) (hj : 1 ≤ j ∧ j ≤ 7) (hn : n ≤ 7) (hq : q ≤ 7) (hs : 1 ≤ s) (hss : s ≤ 7) (hkk : k ≤ 7) (hR : nb S 44 12288 HH) (hW : nb S 45 8 HH) : wp (mX0_addClass_40_57 ((p * 512 + pl j n q : Nat) : Int) (q : Int) (j : Int) ((p * 512 : Nat) : Int) (n : Int) (s : Int) (k : Int) FU 1 S) (fun S' => nb S' 44 12288 HH ∧ (∀ x : Nat, x < 12288 → tb S' 44 x = if x = p * 512 + pl j n q then min HH (addC (w1 (tb S 45)) s k (tab (tb S 44) p) j n q) else tb S 44 x) ∧ kept [44] [] S S') := by
  have bc : p * 512 + pl j n q < 12288 := rb hp hj.2 hn hq
  have e0 : sm 1 (fun m => if m * s ≤ n ∧ m * k ≤ q then w1 (tb S 45) m * tab (tb S 44) p (j - m) (n - m * s) (q - m * k) else 0) = tb S 44 (p * 512 + pl j n q) := by
    rw [sm_s, sm_0, if_pos (by omega)]
    simp [w1, tab]
  refine loopW (fun f v s' => mX0_addClass_40_57 ((p * 512 + pl j n q : Nat) : Int) (q : Int) (j : Int) ((p * 512 : Nat) : Int) (n : Int) (s : Int) (k : Int) f v s') (fun i S' => 1 ≤ i ∧ nb S' 44 12288 HH ∧ (∀ x : Nat, x < 12288 → tb S' 44 x = if x = p * 512 + pl j n q then min HH (sm i (fun m => if m * s ≤ n ∧ m * k ≤ q then w1 (tb S 45) m * tab (tb S 44) p (j - m) (n - m * s) (q - m * k) else 0)) else tb S 44 x) ∧ kept [44] [] S S') _ (j + 1) (fun i f s' hi hI hk => ?_) (fun f s' hI => ?_) j 1 FU S (by omega) (by unfold FU; omega) ⟨by omega, hR, fun x hx => ?_, kept.rf⟩
  · obtain ⟨i1, n1, v1, k1⟩ := hI
    try dsimp only at hk ⊢
    have eW := k1.cell 45 (by decide) (by decide)
    have pi : (i : Int) * (s : Int) = ((i * s : Nat) : Int) := by rw [Int.natCast_mul]
    have pk : (i : Int) * (k : Int) = ((i * k : Nat) : Int) := by rw [Int.natCast_mul]
    have done : (n < i * s ∨ q < i * k) → nb s' 44 12288 HH ∧ (∀ x : Nat, x < 12288 → tb s' 44 x = if x = p * 512 + pl j n q then min HH (addC (w1 (tb S 45)) s k (tab (tb S 44) p) j n q) else tb S 44 x) ∧ kept [44] [] S s' := fun hd => by
      refine ⟨n1, fun x hx => ?_, k1⟩
      rw [v1 x hx]
      unfold addC
      rw [sm_cut (x := i) (y := j + 1) (by omega) (fun m a b => ?_)]
      rw [if_neg]
      have a1 : i * s ≤ m * s := Nat.mul_le_mul_right s a
      have a2 : i * k ≤ m * k := Nat.mul_le_mul_right k a
      omega
    rw [mX0_addClass_40_57, gd_t (by omega), if_neg (by omega), pi, pk]
    have s49 : i * s ≤ 49 := Nat.le_trans (Nat.mul_le_mul (show i ≤ 7 by omega) hss) (by decide)
    have k49 : i * k ≤ 49 := Nat.le_trans (Nat.mul_le_mul (show i ≤ 7 by omega) hkk) (by decide)
    rw [gd_t (by omega)]
    by_cases c1 : n < i * s
    · rw [if_pos (by omega), wp_some]; exact done (Or.inl c1)
    rw [if_neg (by omega), gd_t (by omega)]
    by_cases c2 : q < i * k
    · rw [if_pos (by omega), wp_some]; exact done (Or.inr c2)
    have i0 : 1 ≤ i * s := Nat.le_trans hs (Nat.le_mul_of_pos_left s i1)
    have b3 : p * 512 + pl (j - i) (n - i * s) (q - i * k) < 12288 := rb hp (by omega) (by omega) (by omega)
    have r1 := n1.at b3
    have u1 : tb s' 44 (p * 512 + pl (j - i) (n - i * s) (q - i * k)) = tab (tb S 44) p (j - i) (n - i * s) (q - i * k) := by
      rw [v1 _ b3, if_neg]; · rfl
      intro e
      have := (pl_inj (Nat.add_left_cancel e) (by omega) (by omega) (by omega) (by omega)).2.1
      omega
    have r2 := n1.at bc
    have rw_ := hW.at (j := i) (by omega)
    have ix : ((p * 512 : Nat) : Int) + ((j : Int) - (i : Int)) * 64 + ((n : Int) - ((i * s : Nat) : Int)) * 8 + (q : Int) - ((i * k : Nat) : Int) = ((p * 512 + pl (j - i) (n - i * s) (q - i * k) : Nat) : Int) := ixb (by omega) (by omega) (by omega)
    rw [if_neg (by omega), ix, gd_t (by omega), nx_e, gd_t (by omega), gd_t (by omega), eW, rw_.1, r1.1, bd1_e (e_timesH rw_.2 r1.2), r2.1, bd1_e (e_plusH r2.2 min_le'), nx_e]
    refine hk _ ⟨by omega, nb_up n1 min_le', fun x hx => ?_, kept.upA k1 (by simp)⟩
    rw [tb_up]
    by_cases e : x = p * 512 + pl j n q
    · subst e
      rw [if_pos rfl, if_pos rfl, u1, v1 _ bc, if_pos rfl, sm_s (n := i), if_pos (by omega), show w1 (tb S 45) i = tb S 45 i from if_neg (by omega)]
      generalize sm i _ = y
      generalize tb S 45 i * _ = z
      omega
    · rw [if_neg e, if_neg e, v1 x hx, if_neg e]
  · obtain ⟨i1, n1, v1, k1⟩ := hI
    try dsimp only
    rw [mX0_addClass_40_57, gd_t (by omega), if_pos (by omega), wp_some]
    exact ⟨n1, v1, k1⟩
  · by_cases e : x = p * 512 + pl j n q
    · rw [if_pos e, e0, e, Nat.min_eq_right (hR.at bc).2]
    · rw [if_neg e]
theorem ac40_31 {S : St} {m : Int} {p j n s k : Nat} (hm : inI m) (h1 : S 40 1 = m) (hp : p < 24) (hj : 1 ≤ j ∧ j ≤ 7) (hn : n ≤ 7) (hs : 1 ≤ s) (hss : s ≤ 7) (hkk : k ≤ 7) (hR : nb S 44 12288 HH) (hW : nb S 45 8 HH) : wp (mX0_addClass_40_31 (j : Int) ((p * 512 : Nat) : Int) (n : Int) (s : Int) (k : Int) FU ((topf (decide (0 ≤ m)) n : Nat) : Int) S) (fun S' => nb S' 44 12288 HH ∧ (∀ q : Nat, q ≤ topf (decide (0 ≤ m)) n → tb S' 44 (p * 512 + pl j n q) = min HH (addC (w1 (tb S 45)) s k (tab (tb S 44) p) j n q)) ∧ (∀ x : Nat, x < 12288 → (∀ q : Nat, q ≤ topf (decide (0 ≤ m)) n → x ≠ p * 512 + pl j n q) → tb S' 44 x = tb S 44 x) ∧ kept [44] [] S S') := by
  have t2 : topf (decide (0 ≤ m)) n ≤ n := topf_le
  refine loopD (fun f v s' => mX0_addClass_40_31 (j : Int) ((p * 512 : Nat) : Int) (n : Int) (s : Int) (k : Int) f v s') (fun v S' => v ≤ (topf (decide (0 ≤ m)) n : Nat) ∧ nb S' 44 12288 HH ∧ (∀ q : Nat, q ≤ topf (decide (0 ≤ m)) n → v < (q : Int) → tb S' 44 (p * 512 + pl j n q) = min HH (addC (w1 (tb S 45)) s k (tab (tb S 44) p) j n q)) ∧ (∀ x : Nat, x < 12288 → (∀ q : Nat, q ≤ topf (decide (0 ≤ m)) n → v < (q : Int) → x ≠ p * 512 + pl j n q) → tb S' 44 x = tb S 44 x) ∧ kept [44] [] S S') _ 0 (fun v f s' hv hI hk => ?_) (fun f s' hI => ?_) (topf (decide (0 ≤ m)) n + 1) FU _ S (by omega) (by unfold FU; omega) ⟨by omega, hR, fun q a b => by omega, fun _ _ _ => rfl, kept.rf⟩
  · obtain ⟨v0, n1, v1, o1, k1⟩ := hI
    try dsimp only at hk ⊢
    obtain ⟨q, rfl⟩ := Int.eq_ofNat_of_zero_le hv
    have eW := k1.cell 45 (by decide) (by decide)
    have tW : tb s' 45 = tb S 45 := by funext j; unfold tb; rw [eW]
    rw [mX0_addClass_40_31, gd_t (by omega), if_neg (by omega), nx_e, wp_bd1, show ((p * 512 : Nat) : Int) + (j : Int) * 64 + (n : Int) * 8 + (q : Int) = ((p * 512 + pl j n q : Nat) : Int) by unfold pl; omega]
    refine wp_mono (ac40_57 (S := s') (p := p) (j := j) (n := n) (s := s) (k := k) (q := q) hp hj hn (by omega) hs hss hkk n1 (by intro i hi; rw [eW]; exact hW i hi)) (fun S2 q2 => ?_)
    obtain ⟨n2, v2, k2⟩ := q2
    have old : ∀ j' n' q' : Nat, j' ≤ 7 → q' ≤ 7 → (n' < n ∨ (j' = j ∧ n' = n ∧ q' = q)) → tab (tb s' 44) p j' n' q' = tab (tb S 44) p j' n' q' := fun j' n' q' a b d => by
      refine o1 _ (rb hp a (by omega) b) (fun q3 x1 x2 x3 => ?_)
      have := pl_inj (Nat.add_left_cancel x3) (by omega) (by omega) (by omega) (by omega)
      omega
    refine hk S2 ⟨by omega, n2, fun q' a b => ?_, fun x hx hne => ?_, kept.trans k1 k2⟩
    · rw [v2 _ (rb hp hj.2 hn (by omega))]
      by_cases e : q' = q
      · subst e
        rw [if_pos rfl, tW]
        congr 1
        refine addC_cg (old j n q' hj.2 (by omega) (Or.inr ⟨rfl, rfl, rfl⟩)) (fun i a1 a2 a3 a4 => old _ _ _ (by omega) (by omega) (Or.inl ?_))
        have : 1 ≤ i * s := Nat.le_trans hs (Nat.le_mul_of_pos_left s a1)
        omega
      · rw [if_neg (fun x => e (by have := (pl_inj (Nat.add_left_cancel x) (by omega) (by omega) (by omega) (by omega)).2.2; omega))]
        exact v1 q' a (by omega)
    · rw [v2 x hx, if_neg (hne q (by omega) (by omega))]
      exact o1 x hx (fun q' a b => hne q' a (by omega))
  · obtain ⟨v0, n1, v1, o1, k1⟩ := hI
    try dsimp only
    rw [mX0_addClass_40_31, gd_t (by omega), if_pos (by omega), wp_some]
    exact ⟨n1, fun q a => v1 q a (by omega), fun x hx hne => o1 x hx (fun q a _ => hne q a), k1⟩
theorem w_addClass40 {S : St} {M : Int → Int} {m : Int} {p n s k : Nat} (h : WF M) (hG : GM S M) (hp2 : (p : Int) < M 2) (hsq : 3 ≤ M (24 + (p : Int)) ∧ M (24 + (p : Int)) ≤ 6) (hm : inI m) (h1 : S 40 1 = m) (hn : n ≤ 7) (hs : 1 ≤ s) (hss : s ≤ 7) (hkk : k ≤ 7) (hR : nb S 44 12288 HH) (hW : nb S 45 8 HH) : wp (mX0_addClass_40 S (p : Int) (n : Int) (s : Int) (k : Int)) (fun S' => nb S' 44 12288 HH ∧ (∀ j q : Nat, 1 ≤ j → j ≤ min n (lgM M p) → q ≤ topf (decide (0 ≤ m)) n → tb S' 44 (p * 512 + pl j n q) = min HH (addC (w1 (tb S 45)) s k (tab (tb S 44) p) j n q)) ∧ (∀ x : Nat, x < 12288 → (∀ j q : Nat, 1 ≤ j → j ≤ min n (lgM M p) → q ≤ topf (decide (0 ≤ m)) n → x ≠ p * 512 + pl j n q) → tb S' 44 x = tb S 44 x) ∧ kept [44] [] S S') := by
  have t2 : topf (decide (0 ≤ m)) n ≤ n := topf_le
  have hM2 := h.2.2.1
  have hp : p < 24 := by omega
  have hl := lgM_le h hp2 hsq
  unfold mX0_addClass_40
  rw [nx_e, bd1_e (e_longest40 h hG hp2 hsq), gd_t (by omega), nx_e, wp_bd1, show min (n : Int) ((lgM M p : Nat) : Int) = ((min n (lgM M p) : Nat) : Int) from cmin, show (p : Int) * 512 = ((p * 512 : Nat) : Int) by omega]
  refine wp_mono (loopD (fun f v s' => mX0_addClass_40_18 ((p * 512 : Nat) : Int) (n : Int) (s : Int) (k : Int) f v s') (fun v S' => v ≤ ((min n (lgM M p) : Nat) : Int) ∧ nb S' 44 12288 HH ∧ (∀ j q : Nat, 1 ≤ j → v < (j : Int) → j ≤ min n (lgM M p) → q ≤ topf (decide (0 ≤ m)) n → tb S' 44 (p * 512 + pl j n q) = min HH (addC (w1 (tb S 45)) s k (tab (tb S 44) p) j n q)) ∧ (∀ x : Nat, x < 12288 → (∀ j q : Nat, 1 ≤ j → v < (j : Int) → j ≤ min n (lgM M p) → q ≤ topf (decide (0 ≤ m)) n → x ≠ p * 512 + pl j n q) → tb S' 44 x = tb S 44 x) ∧ kept [44] [] S S') (fun S' => nb S' 44 12288 HH ∧ (∀ j q : Nat, 1 ≤ j → j ≤ min n (lgM M p) → q ≤ topf (decide (0 ≤ m)) n → tb S' 44 (p * 512 + pl j n q) = min HH (addC (w1 (tb S 45)) s k (tab (tb S 44) p) j n q)) ∧ (∀ x : Nat, x < 12288 → (∀ j q : Nat, 1 ≤ j → j ≤ min n (lgM M p) → q ≤ topf (decide (0 ≤ m)) n → x ≠ p * 512 + pl j n q) → tb S' 44 x = tb S 44 x) ∧ kept [44] [] S S') 1 (fun v f s' hv hI hk => ?_) (fun f s' hI => ?_) (min n (lgM M p)) FU _ S (by omega) (by unfold FU; omega) ⟨by omega, hR, fun j q _ a b => by omega, fun _ _ _ => rfl, kept.rf⟩) (fun S' q => by rw [wp_some]; exact q)
  · obtain ⟨v0, n1, v1, o1, k1⟩ := hI
    try dsimp only at hk ⊢
    obtain ⟨j, rfl⟩ := Int.eq_ofNat_of_zero_le (show 0 ≤ v by omega)
    have eC := (congrFun (k1.cell 40 (by decide) (by decide)) 1).trans h1
    have eW := k1.cell 45 (by decide) (by decide)
    have tW : tb s' 45 = tb S 45 := by funext j; unfold tb; rw [eW]
    rw [mX0_addClass_40_18, gd_t (by omega), if_neg (by omega), bd1_e (e_ltop40 hm eC), wp_bd1]
    refine wp_mono (ac40_31 (S := s') (p := p) (j := j) (n := n) (s := s) (k := k) hm eC hp (by omega) hn hs hss hkk n1 (by intro i hi; rw [eW]; exact hW i hi)) (fun S2 q2 => ?_)
    obtain ⟨n2, v2, o2, k2⟩ := q2
    have old : ∀ j' n' q' : Nat, j' ≤ 7 → q' ≤ 7 → (n' < n ∨ (j' = j ∧ n' = n)) → tab (tb s' 44) p j' n' q' = tab (tb S 44) p j' n' q' := fun j' n' q' a b d => by
      refine o1 _ (rb hp a (by omega) b) (fun j3 q3 x0 x1 x2 x3 x4 => ?_)
      have := pl_inj (Nat.add_left_cancel x4) (by omega) (by omega) (by omega) (by omega)
      omega
    refine hk S2 ⟨by omega, n2, fun j' q' a b d e => ?_, fun x hx hne => ?_, kept.trans k1 k2⟩
    · by_cases z : j' = j
      · subst z
        rw [v2 q' e, tW]
        congr 1
        refine addC_cg (old j' n q' (by omega) (by omega) (Or.inr ⟨rfl, rfl⟩)) (fun i a1 a2 a3 a4 => old _ _ _ (by omega) (by omega) (Or.inl ?_))
        have : 1 ≤ i * s := Nat.le_trans hs (Nat.le_mul_of_pos_left s a1)
        omega
      · rw [o2 _ (rb hp (by omega) hn (by omega)) (fun q3 x1 x2 => z (by have := (pl_inj (Nat.add_left_cancel x2) (by omega) (by omega) (by omega) (by omega)).1; omega))]
        exact v1 j' q' a (by omega) d e
    · rw [o2 x hx (fun q' a => hne j q' (by omega) (by omega) (by omega) a)]
      exact o1 x hx (fun j' q' a b => hne j' q' a (by omega))
  · obtain ⟨v0, n1, v1, o1, k1⟩ := hI
    try dsimp only
    rw [mX0_addClass_40_18, gd_t (by omega), if_pos (by omega), wp_some]
    exact ⟨n1, fun j q a => v1 j q a (by omega), fun x hx hne => o1 x hx (fun j q a _ => hne j q a), k1⟩
