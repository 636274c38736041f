/-! parts in lowest terms -/
theorem mod_half {x r : Nat} (h0 : 0 < r) (h : r < x) : 2 * (x % r) < x := by
  have a := Nat.div_add_mod x r
  have b := Nat.mod_lt x h0
  have c : 1 ≤ x / r := Nat.div_pos (Nat.le_of_lt h) h0
  have d : r * 1 ≤ r * (x / r) := Nat.mul_le_mul_left r c
  omega
theorem e_low15 {a1 a2 a3 : Int} : ∀ (k c x y f : Nat), x < 2 ^ k → k ≤ 20 → c + 2 * k ≤ 60 → 2 * k + 1 ≤ f → x ≤ 2147483647 → y ≤ 2147483647 → mX11_lowest_15 a1 a2 a3 f (c : Int) (x : Int) (y : Int) = some ((Nat.gcd x y : Nat) : Int) := by
  have base : ∀ (c y f : Nat), c ≤ 62 → 1 ≤ f → y ≤ 2147483647 → mX11_lowest_15 a1 a2 a3 f (c : Int) ((0 : Nat) : Int) (y : Int) = some ((Nat.gcd 0 y : Nat) : Int) := by
    intro c y f hc hf hy
    obtain ⟨g, rfl⟩ : ∃ g, f = g + 1 := ⟨f - 1, by omega⟩
    rw [mX11_lowest_15, gd_t (by omega), if_neg (by omega), gd_t (by omega), if_pos (by omega), Nat.gcd_zero_left]
  intro k
  induction k with
  | zero =>
    intro c x y f hx _ hc hf hx2 hy
    have : x = 0 := by simpa using hx
    subst this
    exact base c y f (by omega) (by omega) hy
  | succ k ih =>
    intro c x y f hx hk hc hf hx2 hy
    rcases Nat.eq_zero_or_pos x with z | z
    · subst z; exact base c y f (by omega) (by omega) hy
    · obtain ⟨g, rfl⟩ : ∃ g, f = g + 1 := ⟨f - 1, by omega⟩
      have m1 := Nat.mod_lt y z
      have e1 : (y : Int) % (x : Int) = ((y % x : Nat) : Int) := by omega
      have s1 : (c : Int) + 1 = ((c + 1 : Nat) : Int) := by omega
      rw [mX11_lowest_15, gd_t (by omega), if_neg (by omega), gd_t (by omega), if_neg (by omega), gd_t (by omega), nx_e, e1, s1, Nat.gcd_rec x y]
      rcases Nat.eq_zero_or_pos (y % x) with w | w
      · rw [w]; exact base (c + 1) x g (by omega) (by omega) hx2
      · obtain ⟨g, rfl⟩ : ∃ g', g = g' + 1 := ⟨g - 1, by omega⟩
        have m2 := mod_half w m1
        have e2 : (x : Int) % ((y % x : Nat) : Int) = ((x % (y % x) : Nat) : Int) := rfl
        have s2 : ((c + 1 : Nat) : Int) + 1 = ((c + 2 : Nat) : Int) := by omega
        have p2 : 2 ^ (k + 1) = 2 * 2 ^ k := by rw [Nat.pow_succ]; omega
        rw [mX11_lowest_15, gd_t (by omega), if_neg (by omega), gd_t (by omega), if_neg (by omega), gd_t (by omega), nx_e, e2, s2, Nat.gcd_rec (y % x) x]
        exact ih (c + 2) (x % (y % x)) (y % x) g (by omega) (by omega) (by omega) (by omega) (by omega) (by omega)
theorem e_com4 : ∀ (k x y f : Nat), x < 2 ^ k → 2 * k + 1 ≤ f → x ≤ 2147483647 → y ≤ 2147483647 → mX12_common_4 f (x : Int) (y : Int) = some ((Nat.gcd x y : Nat) : Int) := by
  have base : ∀ (y f : Nat), 1 ≤ f → y ≤ 2147483647 → mX12_common_4 f ((0 : Nat) : Int) (y : Int) = some ((Nat.gcd 0 y : Nat) : Int) := by
    intro y f hf hy
    obtain ⟨g, rfl⟩ : ∃ g, f = g + 1 := ⟨f - 1, by omega⟩
    rw [mX12_common_4, gd_t (by omega), if_pos (by omega), Nat.gcd_zero_left]
  intro k
  induction k with
  | zero =>
    intro x y f hx hf hx2 hy
    have : x = 0 := by simpa using hx
    subst this
    exact base y f (by omega) hy
  | succ k ih =>
    intro x y f hx hf hx2 hy
    rcases Nat.eq_zero_or_pos x with z | z
    · subst z; exact base y f (by omega) hy
    · obtain ⟨g, rfl⟩ : ∃ g, f = g + 1 := ⟨f - 1, by omega⟩
      have m1 := Nat.mod_lt y z
      have e1 : (y : Int) % (x : Int) = ((y % x : Nat) : Int) := by omega
      rw [mX12_common_4, gd_t (by omega), if_neg (by omega), gd_t (by omega), nx_e, e1, Nat.gcd_rec x y]
      rcases Nat.eq_zero_or_pos (y % x) with w | w
      · rw [w]; exact base x g (by omega) hx2
      · obtain ⟨g, rfl⟩ : ∃ g', g = g' + 1 := ⟨g - 1, by omega⟩
        have m2 := mod_half w m1
        have e2 : (x : Int) % ((y % x : Nat) : Int) = ((x % (y % x) : Nat) : Int) := rfl
        have p2 : 2 ^ (k + 1) = 2 * 2 ^ k := by rw [Nat.pow_succ]; omega
        rw [mX12_common_4, gd_t (by omega), if_neg (by omega), gd_t (by omega), nx_e, e2, Nat.gcd_rec (y % x) x]
        exact ih (x % (y % x)) (y % x) g (by omega) (by omega) (by omega) (by omega)
/-- a part in lowest terms: both alike -/
theorem e_lowest {x y : Nat} {w : Int} (hx : x < 1048576) (hy : y < 1048576) (y1 : 1 ≤ y) (hw : inI w) : ∃ r : Int, mX11_lowest (x : Int) (y : Int) w = some r ∧ mX12_part (x : Int) (y : Int) w = some r ∧ inI r ∧ 0 ≤ r := by
  have p20 : (2 : Nat) ^ 20 = 1048576 := rfl
  have a := e_low15 (a1 := (x : Int)) (a2 := (y : Int)) (a3 := w) 20 0 x y FU (by omega) (by omega) (by omega) (by unfold FU; omega) (by omega) (by omega)
  have b := e_com4 20 y x FU (by omega) (by unfold FU; omega) (by omega) (by omega)
  rw [Nat.gcd_comm] at b
  have g1 : 0 < Nat.gcd x y := Nat.gcd_pos_of_pos_right x y1
  have g2 : Nat.gcd x y ≤ y := Nat.gcd_le_right x y1
  generalize Nat.gcd x y = g at a b g1 g2
  have c : mX12_common (x : Int) (y : Int) = some (g : Int) := by unfold mX12_common; rw [bd1_e b]
  have dx : (x : Int) / (g : Int) = ((x / g : Nat) : Int) := rfl
  have dy : (y : Int) / (g : Int) = ((y / g : Nat) : Int) := rfl
  have lx := Nat.div_le_self x g
  have ly := Nat.div_le_self y g
  generalize x / g = qx at dx lx
  generalize y / g = qy at dy ly
  unfold mX11_lowest mX12_part
  rw [show ((0 : Nat) : Int) = 0 from rfl] at a
  by_cases z : w = 0
  · refine ⟨(qx : Int), ?_, ?_, by omega, by omega⟩
    · rw [gd_t (by omega), if_pos (by omega), bd1_e a, gd_t (by omega), if_pos (by omega), gd_t (by omega), if_pos z, gd_t (by omega), dx]
    · rw [gd_t (by omega), if_pos z, bd1_e c, gd_t (by omega), dx]
  · refine ⟨(qy : Int), ?_, ?_, by omega, by omega⟩
    · rw [gd_t (by omega), if_pos (by omega), bd1_e a, gd_t (by omega), if_pos (by omega), gd_t (by omega), if_neg z, gd_t (by omega), dy]
    · rw [gd_t (by omega), if_neg z, bd1_e c, gd_t (by omega), dy]
theorem by_le {S : St} (h : Cor S) {e t n : Nat} (he : (e : Int) < S 84 0) (ht : (t : Int) < S 84 (198 + (e : Int))) (hn : n ≤ 7) (hk : kM (S 84) e n ≤ 200) : byM (S 84) e t n ≤ kM (S 84) e n := by
  obtain ⟨E, TE, KE, rO, rT, rK, st, w, o, ti⟩ := h
  have s := (YP_sol (l := -1) w o (by decide)).2.1 e n 0 he hn (Nat.zero_le _)
  have s' : ev (kM (S 84) e n) (xs (S 84) (fun q => RP (S 84) (-1) (pl q n 0)) e) := s
  have eq : xs (S 84) (fun q => RP (S 84) (-1) (pl q n 0)) e = kM (S 84) e n := by
    unfold ev at s'
    rw [CC_eq] at s'
    omega
  rw [← eq]
  unfold xs byM
  exact le_sm (f := fun t => if offM (S 84) e t then 0 else RP (S 84) (-1) (pl (fpM (S 84) e t).toNat n 0)) (by omega)
/-- listed or not -/
theorem e_listing {S : St} (h : Cor S) {a b : Int} (ha : inI a) (hb : inI b) : (∃ e n : Nat, a = (e : Int) ∧ b = (n : Int) ∧ (e : Int) < S 84 0 ∧ (n : Int) ≤ S 84 1 ∧ mX11_listing S a b = some (if kM (S 84) e n ≤ 200 then 0 else -3) ∧ ∀ T : St, T 84 = S 84 → ∃ T' : St, mX12_whyNone T a b = some (if kM (S 84) e n ≤ 200 then (if kM (S 84) e n = 0 then -1 else 0) else -3, T') ∧ cnt (S 84) (-1) T' ∧ kept [90, 91, 92] [] T T') ∨ (mX11_listing S a b = some (-2) ∧ ∀ T : St, T 84 = S 84 → mX12_whyNone T a b = some (-2, T)) := by
  have w := h.wf
  have hM1 := w.2.1
  have sz := e_sized h ha hb
  by_cases y : isK (S 84) a ∧ isN (S 84) b
  · left
    rw [if_pos y] at sz
    obtain ⟨e, rfl⟩ : ∃ e : Nat, a = (e : Int) := ⟨a.toNat, by omega⟩
    obtain ⟨n, rfl⟩ : ∃ n : Nat, b = (n : Int) := ⟨b.toNat, by omega⟩
    have kb := h.kle y.1.2 (n := n) (by omega)
    refine ⟨e, n, rfl, rfl, y.1.2, y.2.2, ?_, fun T hT => ?_⟩
    · unfold mX11_listing
      rw [bd1_e sz, gd_t (by decide), if_neg (by decide), bd1_e (e_thingsAt h y.1.2 y.2.2), gd_t (by omega)]
      by_cases q : kM (S 84) e n ≤ 200
      · rw [if_pos (by omega), if_pos q]
      · rw [if_neg (by omega), if_neg q]
    · obtain ⟨T', s1, s2, s3⟩ := h.cnt (T := T) (l := -1) (by decide) hT
      have km := e_kindMany w s2 y.1.2 (n := n) (by omega)
      refine ⟨T', ?_, s2, s3⟩
      have ik := e_ik h hT ha
      have is := e_isSize h hT hb
      rw [if_pos y.1] at ik
      rw [if_pos y.2] at is
      unfold mX12_whyNone
      rw [bd1_e ik, gd_t (by decide), if_neg (by decide), bd1_e is, gd_t (by decide), if_neg (by decide), bd1_e s1, bd1_e km, gd_t (by omega)]
      by_cases q : kM (S 84) e n ≤ 200
      · rw [if_pos (by omega), if_pos q, bd1_e km, gd_t (by omega)]
        by_cases z : kM (S 84) e n = 0
        · rw [if_pos (by omega), if_pos z]
        · rw [if_neg (by omega), if_neg z]
      · rw [if_neg (by omega), if_neg q]
  · right
    rw [if_neg y] at sz
    refine ⟨?_, fun T hT => ?_⟩
    · unfold mX11_listing
      rw [bd1_e sz, gd_t (by decide), if_pos rfl]
    · have ik := e_ik h hT ha
      have is := e_isSize h hT hb
      unfold mX12_whyNone
      rw [bd1_e ik]
      by_cases z : 0 ≤ a ∧ a < S 84 0
      · rw [if_pos z, gd_t (by decide), if_neg (by decide), bd1_e is, if_neg (fun q => y ⟨z, q⟩), gd_t (by decide), if_pos rfl]
      · rw [if_neg z, gd_t (by decide), if_pos rfl]
theorem s_chance {S : St} (h : Cor S) {a b c d : Int} (ha : inI a) (hb : inI b) (hc : inI c) (hd : inI d) : ∃ (r : Int) (S' : St), mX11_chance S a b c d = some r ∧ mX12_chance S a b c d = some (r, S') ∧ inI r ∧ kept [90, 91, 92] [] S S' := by
  have w := h.wf
  have hM1 := w.2.1
  have tm := e_termed h ha hc
  have it := e_isTerm h rfl ha hc
  have inn := e_in (v := d) (lo := 0) (hi := 1) (by omega) (by omega) (by omega)
  by_cases x : isT (S 84) a c
  · rw [if_pos x] at tm it
    by_cases y : 0 ≤ d ∧ d ≤ 1
    · rw [if_pos y] at inn
      rcases e_listing h ha hb with ⟨e, n, rfl, rfl, k1, k2, l1, l2⟩ | ⟨l1, l2⟩
      · obtain ⟨T', t1, t2, t3⟩ := l2 S rfl
        obtain ⟨t, rfl⟩ : ∃ e : Nat, c = (e : Int) := ⟨c.toNat, by omega⟩
        by_cases q : kM (S 84) e n ≤ 200
        · rw [if_pos q] at l1 t1
          obtain ⟨z, z1, z2, z3⟩ := e_byTerm40 h (e := e) (t := t) (n := n) k1 x.2.2 (by omega)
          have bl := by_le h k1 x.2.2 (n := n) (by omega) q
          have zb : z = byM (S 84) e t n := by
            unfold ev at z2
            rw [CC_eq] at z2
            omega
          rw [zb] at z1
          by_cases k0 : kM (S 84) e n = 0
          · rw [if_pos k0] at t1
            refine ⟨-1, T', ?_, ?_, by omega, t3⟩
            · have lw : mX11_lowest ((byM (S 84) e t n : Nat) : Int) ((kM (S 84) e n : Nat) : Int) d = some (-1) := by
                unfold mX11_lowest
                rw [k0, show ((0 : Nat) : Int) = 0 from rfl, gd_t (by decide), if_neg (by decide)]
              unfold mX11_chance
              rw [bd1_e tm, gd_t (by decide), if_neg (by decide), gd_t hd, if_neg (by omega), if_pos y.2, bd1_e l1, gd_t (by decide), if_pos rfl, bd1_e z1, bd1_e (e_thingsAt h k1 k2), bd1_e lw]
            · unfold mX12_chance
              rw [bd1_e it, gd_t (by decide), if_neg (by decide), gd_t hd, bd1_e inn, gd_t (by decide), if_neg (by decide), bd2_e t1, bd2_s, gd_t (by decide), if_neg (by decide)]
          · rw [if_neg k0] at t1
            obtain ⟨r, r1, r2, r3, r4⟩ := e_lowest (x := byM (S 84) e t n) (y := kM (S 84) e n) (w := d) (by omega) (by omega) (by omega) hd
            refine ⟨r, T', ?_, ?_, r3, t3⟩
            · unfold mX11_chance
              rw [bd1_e tm, gd_t (by decide), if_neg (by decide), gd_t hd, if_neg (by omega), if_pos y.2, bd1_e l1, gd_t (by decide), if_pos rfl, bd1_e z1, bd1_e (e_thingsAt h k1 k2), bd1_e r1]
            · unfold mX12_chance
              rw [bd1_e it, gd_t (by decide), if_neg (by decide), gd_t hd, bd1_e inn, gd_t (by decide), if_neg (by decide), bd2_e t1, bd2_s, gd_t (by decide), if_pos (by decide), bd1_e (e_byTermF w t2 k1 x.2.2 (by omega)), bd1_e (e_kindMany w t2 k1 (by omega)), bd1_e r2]
        · rw [if_neg q] at l1 t1
          refine ⟨-3, T', ?_, ?_, by omega, t3⟩
          · unfold mX11_chance
            rw [bd1_e tm, gd_t (by decide), if_neg (by decide), gd_t hd, if_neg (by omega), if_pos y.2, bd1_e l1, gd_t (by decide), if_neg (by decide)]
          · unfold mX12_chance
            rw [bd1_e it, gd_t (by decide), if_neg (by decide), gd_t hd, bd1_e inn, gd_t (by decide), if_neg (by decide), bd2_e t1, bd2_s, gd_t (by decide), if_neg (by decide)]
      · refine ⟨-2, S, ?_, ?_, by omega, kept.rf⟩
        · unfold mX11_chance
          rw [bd1_e tm, gd_t (by decide), if_neg (by decide), gd_t hd, if_neg (by omega), if_pos y.2, bd1_e l1, gd_t (by decide), if_neg (by decide)]
        · unfold mX12_chance
          rw [bd1_e it, gd_t (by decide), if_neg (by decide), gd_t hd, bd1_e inn, gd_t (by decide), if_neg (by decide), bd2_e (l2 S rfl), bd2_s, gd_t (by decide), if_neg (by decide)]
    · rw [if_neg y] at inn
      refine ⟨-2, S, ?_, ?_, by omega, kept.rf⟩
      · unfold mX11_chance
        rw [bd1_e tm, gd_t (by decide), if_neg (by decide), gd_t hd]
        by_cases z : d < 0
        · rw [if_pos z]
        · rw [if_neg z, if_neg (by omega)]
      · unfold mX12_chance
        rw [bd1_e it, gd_t (by decide), if_neg (by decide), gd_t hd, bd1_e inn, gd_t (by decide), if_pos rfl, bd2_s, gd_t (by decide), if_neg (by decide)]
  · rw [if_neg x] at tm it
    refine ⟨-2, S, ?_, ?_, by omega, kept.rf⟩
    · unfold mX11_chance
      rw [bd1_e tm, gd_t (by decide), if_pos rfl]
    · unfold mX12_chance
      rw [bd1_e it, gd_t (by decide), if_pos rfl, bd2_s, gd_t (by decide), if_neg (by decide)]
