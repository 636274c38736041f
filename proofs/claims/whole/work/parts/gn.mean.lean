/-! both sides: the mean of a letter -/
theorem e_low15w {a1 a2 a3 : Int} : ∀ (k c x y f : Nat), x < 2 ^ k → c + 2 * k ≤ 60 → 2 * k + 1 ≤ f → x ≤ 2147483647 → y ≤ 2147483647 → mX11_lowest_15 a1 a2 a3 f (c : Int) (x : Int) (y : Int) = some ((Nat.gcd x y : Nat) : Int) := by
  have base : ∀ (c y f : Nat), c ≤ 62 → 1 ≤ f → y ≤ 2147483647 → mX11_lowest_15 a1 a2 a3 f (c : Int) ((0 : Nat) : Int) (y : Int) = some ((Nat.gcd 0 y : Nat) : Int) := by
    intro c y f hc hf hy
    obtain ⟨g, rfl⟩ : ∃ g, f = g + 1 := ⟨f - 1, by omega⟩
    rw [mX11_lowest_15, gd_t (by omega), if_neg (by omega), gd_t (by omega), if_pos (by omega), Nat.gcd_zero_left]
  intro k
  induction k with
  | zero =>
    intro c x y f hx hc hf hx2 hy
    have : x = 0 := by simpa using hx
    subst this
    exact base c y f (by omega) (by omega) hy
  | succ k ih =>
    intro c x y f hx hc hf hx2 hy
    rcases Nat.eq_zero_or_pos x with z | z
    · subst z; exact base c y f (by omega) (by omega) hy
    · obtain ⟨g, rfl⟩ : ∃ g, f = g + 1 := ⟨f - 1, by omega⟩
      have m1 := Nat.mod_lt y z
      have e1 : (y : Int) % (x : Int) = ((y % x : Nat) : Int) := by omega
      have s1 : (c : Int) + 1 = ((c + 1 : Nat) : Int) := by omega
      rw [mX11_lowest_15, gd_t (by omega), if_neg (by omega), gd_t (by omega), if_neg (by omega), gd_t (by omega), nx_e, e1, s1, Nat.gcd_rec x y]
      rcases Nat.eq_zero_or_pos (y % x) with w | w
      · rw [w]; exact base (c + 1) x g (by omega) (by omega) hx2
      · obtain ⟨g, rfl⟩ : ∃ g', g = g' + 1 := ⟨g - 1, by omega⟩
        have m2 := mod_half w m1
        have e2 : (x : Int) % ((y % x : Nat) : Int) = ((x % (y % x) : Nat) : Int) := rfl
        have s2 : ((c + 1 : Nat) : Int) + 1 = ((c + 2 : Nat) : Int) := by omega
        have p2 : 2 ^ (k + 1) = 2 * 2 ^ k := by rw [Nat.pow_succ]; omega
        rw [mX11_lowest_15, gd_t (by omega), if_neg (by omega), gd_t (by omega), if_neg (by omega), gd_t (by omega), nx_e, e2, s2, Nat.gcd_rec (y % x) x]
        exact ih (c + 2) (x % (y % x)) (y % x) g (by omega) (by omega) (by omega) (by omega) (by omega)
theorem e_lowestw {x y : Nat} {w : Int} (hx : x < 268435456) (hy : y < 1048576) (y1 : 1 ≤ y) (hw : inI w) : ∃ r : Int, mX11_lowest (x : Int) (y : Int) w = some r ∧ mX12_part (x : Int) (y : Int) w = some r ∧ inI r ∧ 0 ≤ r := by
  have p20 : (2 : Nat) ^ 20 = 1048576 := rfl
  have p28 : (2 : Nat) ^ 28 = 268435456 := rfl
  have a := e_low15w (a1 := (x : Int)) (a2 := (y : Int)) (a3 := w) 28 0 x y FU (by omega) (by omega) (by unfold FU; omega) (by omega) (by omega)
  have b := e_com4 20 y x FU (by omega) (by unfold FU; omega) (by omega) (by omega)
  rw [Nat.gcd_comm] at b
  have g1 : 0 < Nat.gcd x y := Nat.gcd_pos_of_pos_right x y1
  have g2 : Nat.gcd x y ≤ y := Nat.gcd_le_right x y1
  generalize Nat.gcd x y = g at a b g1 g2
  have c : mX12_common (x : Int) (y : Int) = some (g : Int) := by unfold mX12_common; rw [bd1_e b]
  have dx : (x : Int) / (g : Int) = ((x / g : Nat) : Int) := rfl
  have dy : (y : Int) / (g : Int) = ((y / g : Nat) : Int) := rfl
  have lx := Nat.div_le_self x g
  have ly := Nat.div_le_self y g
  generalize x / g = qx at dx lx
  generalize y / g = qy at dy ly
  unfold mX11_lowest mX12_part
  rw [show ((0 : Nat) : Int) = 0 from rfl] at a
  by_cases z : w = 0
  · refine ⟨(qx : Int), ?_, ?_, by omega, by omega⟩
    · rw [gd_t (by omega), if_pos (by omega), bd1_e a, gd_t (by omega), if_pos (by omega), gd_t (by omega), if_pos z, gd_t (by omega), dx]
    · rw [gd_t (by omega), if_pos z, bd1_e c, gd_t (by omega), dx]
  · refine ⟨(qy : Int), ?_, ?_, by omega, by omega⟩
    · rw [gd_t (by omega), if_pos (by omega), bd1_e a, gd_t (by omega), if_pos (by omega), gd_t (by omega), if_neg z, gd_t (by omega), dy]
    · rw [gd_t (by omega), if_neg z, bd1_e c, gd_t (by omega), dy]
theorem sgM_le {g : Nat → Nat} {B : Nat} : ∀ v : Nat, (∀ u, u < v → g u ≤ B) → sgM g v ≤ v * B := by
  intro v
  induction v with
  | zero => intro _; exact Nat.zero_le _
  | succ v ih =>
    intro h
    show sgM g v + g v ≤ (v + 1) * B
    have := ih (fun u hu => h u (by omega))
    have := h v (by omega)
    rw [Nat.add_mul, Nat.one_mul]
    omega
theorem e_mean50 {S : St} (h : SpO S) {e n : Nat} {l w : Int} (he : (e : Int) < S 84 0) (hn : (n : Int) ≤ S 84 1) (h2 : kM (S 84) e n ≤ 200) (hl : -1 ≤ l ∧ l ≤ 25) : ∀ (d v f : Nat) (T : St), v + d = kM (S 84) e n → d < f → cnt (S 84) (-1) T → ∃ T', mX12_mean_50 (e : Int) (n : Int) l w f (v : Int) ((sgM (fun u => cnI (97 + l) (tX (S 84) e n u)) v : Nat) : Int) T = some (((sgM (fun u => cnI (97 + l) (tX (S 84) e n u)) (kM (S 84) e n) : Nat) : Int), T') ∧ cnt (S 84) (-1) T' ∧ kept [96, 97, 98] [(83, 20), (83, 21), (83, 22), (83, 23), (83, 24), (83, 25), (83, 26), (83, 27), (83, 31), (83, 32)] T T' := by
  have wf := h.1.1.wf
  have hM1 := wf.2.1
  intro d
  induction d with
  | zero =>
    intro v f T hv hf hT
    obtain ⟨f, rfl⟩ : ∃ f', f = f' + 1 := ⟨f - 1, by omega⟩
    have km := e_kindMany wf hT he (n := n) (by omega)
    have hvk : v = kM (S 84) e n := by omega
    refine ⟨T, ?_, hT, kept.rf⟩
    rw [mX12_mean_50, gd_t (by omega), bd1_e km, gd_t (by omega), if_pos (by omega), ← hvk]
  | succ d ih =>
    intro v f T hv hf hT
    obtain ⟨f, rfl⟩ : ∃ f', f = f' + 1 := ⟨f - 1, by omega⟩
    have km := e_kindMany wf hT he (n := n) (by omega)
    have th : isTh (S 84) e n v := ⟨he, hn, by omega, h2⟩
    obtain ⟨b1, b2, b3⟩ := thing_le h th
    obtain ⟨U, u1, u2⟩ := w_goes (S := S) (T := T) (e := e) (n := n) (v := v) (i := -1) (a := l) h.1.1 hT he hn (by omega) h2 (by decide) hl (by omega)
    have kU := u2.2.2
    have hU : cnt (S 84) (-1) U := hT.of (kU.cell 84 (by decide) (by decide)) (kU.cell 90 (by decide) (by decide)) (kU.cell 91 (by decide) (by decide))
    obtain ⟨T', t1, t2, t3⟩ := ih (v + 1) f U (by omega) (by omega) hU
    refine ⟨T', ?_, t2, kU.trans t3⟩
    rw [mX12_mean_50, gd_t (by omega), bd1_e km, gd_t (by omega), if_neg (by omega), bd1_e u1, nx_e, u2.2.1.2.1]
    rw [show ((v + 1 : Nat) : Int) = (v : Int) + 1 by omega, show sgM (fun u => cnI (97 + l) (tX (S 84) e n u)) (v + 1) = sgM (fun u => cnI (97 + l) (tX (S 84) e n u)) v + cnI (97 + l) (tX (S 84) e n v) from rfl, Int.natCast_add] at t1
    exact t1
theorem s_mean {S : St} (h : SpO S) (rl : RLI S) {a b c d : Int} (ha : inI a) (hb : inI b) (hc : inI c) (hd : inI d) : ∃ (r : Int) (S1 S2 : St), mX11_mean S a b c d = some (r, S1) ∧ mX12_mean S1 a b c d = some (r, S2) ∧ inI r ∧ SpQ S S1 S2 := by
  have wf := h.1.1.wf
  have hM0 := wf.1
  have hM1 := wf.2.1
  have lt := e_lettered hc
  have inn := e_in (v := c) (lo := 0) (hi := 25) (by omega) (by decide) (by decide)
  have inn2 := e_in (v := d) (lo := 0) (hi := 1) (by omega) (by decide) (by decide)
  by_cases z : 0 ≤ c ∧ c ≤ 25
  · rw [if_pos z] at lt inn
    by_cases y : 0 ≤ d ∧ d ≤ 1
    · rw [if_pos y] at inn2
      obtain ⟨q, rfl⟩ : ∃ q : Nat, c = (q : Int) := ⟨c.toNat, by omega⟩
      rcases c_rolling h rl ha hb with ⟨e, n, S1, x1, x2, x3, x4, x5, x6, x7, x8, x9⟩ | ⟨r, r1, r2, r3⟩
      · obtain ⟨S3, s1, s2, s3⟩ := x9 S1 x8
        obtain ⟨rfl, rfl⟩ := x1
        rw [← x8] at s2
        have hx2 := x2
        rw [← x8] at hx2
        obtain ⟨S2, t1, t2, t3⟩ := e_mean50 (S := S1) (e := e) (n := n) (l := (q : Int)) (w := d) x5 hx2.1 hx2.2.1 hx2.2.2.2 (by omega) (kM (S1 84) e n) 0 FU S3 (by omega) (by have := hx2.2.2.2; unfold FU; omega) s2
        have kk : kG S1 S2 := (s3.mono (by simp) (by simp)).trans (t3.mono (by simp) (by simp))
        have km := e_kindMany x5.1.1.wf t2 hx2.1 (n := n) (by omega)
        have ta := e_thingsAt x5.1.1 hx2.1 hx2.2.1
        rw [x8] at t1 km ta
        have sB := sgM_le (g := fun u => cnI (97 + (q : Int)) (tX (S 84) e n u)) (B := 1000000) (kM (S 84) e n) (fun u hu => Nat.le_trans (cnI_le _) (thing_le h ⟨x2.1, x2.2.1, hu, x2.2.2.2⟩).2.2)
        obtain ⟨sg, hsg⟩ : ∃ sg, sg = sgM (fun u => cnI (97 + (q : Int)) (tX (S 84) e n u)) (kM (S 84) e n) := ⟨_, rfl⟩
        have v78 := (x4.2 q (by omega)).2
        rw [← hsg] at t1 sB v78
        have k200 := x2.2.2.2
        obtain ⟨r, r1, r2, r3, r4⟩ := e_lowestw (x := sg) (y := kM (S 84) e n) (w := d) (by
          have : kM (S 84) e n * 1000000 ≤ 200 * 1000000 := Nat.mul_le_mul_right _ k200
          omega) (by omega) x2.2.2.1 hd
        refine ⟨r, S1, S2, ?_, ?_, r3, x6, ⟨x5.of kk, x7.of (fun i hi => kk.cell i (by simp; omega) (by simp; omega))⟩, kk⟩
        · unfold mX11_mean
          refine entG_e ?_ x6.2.1
          rw [bd1_e lt, gd_t (by decide), if_neg (by decide), gd_t hd, if_neg (by omega), if_pos y.2]
          refine bdG2_e x3 x6.2.1 ?_ gle_rfl
          rw [gd_t (by decide), if_pos rfl, show ((e : Int) * 8 + (n : Int)) * 26 + (q : Int) = (((e * 8 + n) * 26 + q : Nat) : Int) by omega, gd_t (by omega), bd1_e ta, v78, bd1_e r1]
        · unfold mX12_mean
          rw [gd_t hc, bd1_e inn, gd_t (by decide), if_neg (by decide), gd_t hd, bd1_e inn2, gd_t (by decide), if_neg (by decide), bd2_e s1, bd2_s, gd_t (by decide), if_pos (by decide)]
          rw [bd2_e (show mX12_mean_50 (e : Int) (n : Int) (q : Int) d FU 0 0 S3 = _ from t1), bd1_e km, bd1_e r2]
      · obtain ⟨T', t1, t2⟩ := r3 S rfl
        have kk : kG S T' := t2.mono (by simp) (by simp)
        refine ⟨r, S, T', ?_, ?_, by omega, GFr.rf.q, ⟨h.of kk, rl.of (fun i hi => kk.cell i (by simp; omega) (by simp; omega))⟩, kk⟩
        · unfold mX11_mean
          refine entG_e ?_ gle_rfl
          rw [bd1_e lt, gd_t (by decide), if_neg (by decide), gd_t hd, if_neg (by omega), if_pos y.2]
          refine bdG2_e r2 gle_rfl ?_ gle_rfl
          rw [gd_t (by omega), if_neg (by omega)]
        · unfold mX12_mean
          rw [gd_t hc, bd1_e inn, gd_t (by decide), if_neg (by decide), gd_t hd, bd1_e inn2, gd_t (by decide), if_neg (by decide), bd2_e t1, bd2_s, gd_t (by omega), if_neg (by omega)]
    · rw [if_neg y] at inn2
      refine ⟨-2, S, S, ?_, ?_, by decide, GFr.rf.q, ⟨h, rl⟩, kept.rf⟩
      · unfold mX11_mean
        refine entG_e ?_ gle_rfl
        rw [bd1_e lt, gd_t (by decide), if_neg (by decide), gd_t hd]
        by_cases x : d < 0
        · rw [if_pos x]
        · rw [if_neg x, if_neg (by omega)]
      · unfold mX12_mean
        rw [gd_t hc, bd1_e inn, gd_t (by decide), if_neg (by decide), gd_t hd, bd1_e inn2, gd_t (by decide), if_pos rfl, bd2_s, gd_t (by decide), if_neg (by decide)]
  · rw [if_neg z] at lt inn
    refine ⟨-2, S, S, ?_, ?_, by decide, GFr.rf.q, ⟨h, rl⟩, kept.rf⟩
    · unfold mX11_mean
      refine entG_e ?_ gle_rfl
      rw [bd1_e lt, gd_t (by decide), if_pos rfl]
    · unfold mX12_mean
      rw [gd_t hc, bd1_e inn, gd_t (by decide), if_pos rfl, bd2_s, gd_t (by decide), if_neg (by decide)]
