/-! things that two kinds share -/
def shP (M : Int → Int) (a e n v : Nat) : Prop := (tX M a n v).length ≤ 40 ∧ ∃ (c : List Int) (m : Nat), RDW M e (tX M a n v) c m
noncomputable def shN (M : Int → Int) (a e n : Nat) : Nat → Nat → Nat
  | 0, _ => 0
  | d + 1, v => @ite Nat (shP M a e n v) (Classical.propDecidable _) 1 0 + shN M a e n d (v + 1)
theorem shN_s {M : Int → Int} {a e n d v : Nat} : (shP M a e n v → shN M a e n (d + 1) v = 1 + shN M a e n d (v + 1)) ∧ (¬ shP M a e n v → shN M a e n (d + 1) v = shN M a e n d (v + 1)) := by
  refine ⟨fun h => ?_, fun h => ?_⟩
  · show @ite Nat (shP M a e n v) (Classical.propDecidable _) 1 0 + _ = _
    rw [if_pos h]
  · show @ite Nat (shP M a e n v) (Classical.propDecidable _) 1 0 + _ = _
    rw [if_neg h, Nat.zero_add]
theorem shN_le {M : Int → Int} {a e n : Nat} : ∀ d v : Nat, shN M a e n d v ≤ d := by
  intro d
  induction d with
  | zero => intro v; exact Nat.le_refl _
  | succ d ih =>
    intro v
    have := ih (v + 1)
    rcases Classical.em (shP M a e n v) with h | h
    · rw [shN_s.1 h]; omega
    · rw [shN_s.2 h]; omega
theorem c_sh45 {M : Int → Int} {a e n : Nat} (ha : (a : Int) < M 0) (he : (e : Int) < M 0) (hn : (n : Int) ≤ M 1) (h2 : kM M a n ≤ 200) : ∀ (d v f acc : Nat) (S : St), v + d = kM M a n → d < f → SpO S → byR S → S 84 = M → ∃ T, mX11_shared_45 ((kM M a n : Nat) : Int) (a : Int) (e : Int) (n : Int) f (v : Int) (acc : Int) S = some (((acc + shN M a e n d v : Nat) : Int), T) ∧ SpO T ∧ byR T ∧ TFr S T := by
  intro d
  induction d with
  | zero =>
    intro v f acc S hv hf hS hB e84
    obtain ⟨f, rfl⟩ : ∃ f', f = f' + 1 := ⟨f - 1, by omega⟩
    refine ⟨S, ?_, hS, hB, TFr.rf⟩
    rw [mX11_shared_45, gd_t (by omega), if_pos (by omega)]
    rfl
  | succ d ih =>
    intro v f acc S hv hf hS hB e84
    obtain ⟨f, rfl⟩ : ∃ f', f = f' + 1 := ⟨f - 1, by omega⟩
    subst e84
    have hM1 := hS.1.1.wf.2.1
    have x : isTh (S 84) a n v := ⟨ha, hn, by omega, h2⟩
    obtain ⟨S1, z, S2, s1, s2, s3, ⟨a1, a2, a3, a4, a5⟩, ⟨b1, b2, b3, b4, b5⟩, t⟩ := c_look hS hB x he
    have w4 := s2.1.2.1.1
    rw [← w4] at s3
    rcases t with ⟨c, m, y1, y2, y3, y4⟩ | ⟨y1, y2⟩
    · have hm := y2.2
      obtain ⟨T, u1, u2, u3, u4⟩ := ih (v + 1) f (acc + 1) S2 (by omega) (by omega) b1 b2 b5
      refine ⟨T, ?_, u2, u3, (a3.trans b3).trans u4⟩
      rw [show acc + shN (S 84) a e n (d + 1) v = acc + 1 + shN (S 84) a e n d (v + 1) by rw [shN_s.1 ⟨y1, c, m, y2⟩]; omega]
      rw [show ((v + 1 : Nat) : Int) = (v : Int) + 1 by omega, show ((acc + 1 : Nat) : Int) = (acc : Int) + 1 by omega] at u1
      rw [mX11_shared_45, gd_t (by omega), if_neg (by omega)]
      refine bdG1_e s1 a3.2.1 ?_ (b3.trans u4).2.1
      refine bdG2_e s3 b3.2.1 ?_ u4.2.1
      rw [y3, gd_t (by omega), if_neg (by omega)]
      exact u1
    · obtain ⟨T, u1, u2, u3, u4⟩ := ih (v + 1) f acc S2 (by omega) (by omega) b1 b2 b5
      refine ⟨T, ?_, u2, u3, (a3.trans b3).trans u4⟩
      rw [shN_s.2 (fun q => by obtain ⟨q1, c, m, q2⟩ := q; exact y1 q1 c m q2)]
      rw [show ((v + 1 : Nat) : Int) = (v : Int) + 1 by omega] at u1
      rw [mX11_shared_45, gd_t (by omega), if_neg (by omega)]
      refine bdG1_e s1 a3.2.1 ?_ (b3.trans u4).2.1
      refine bdG2_e s3 b3.2.1 ?_ u4.2.1
      rw [y2, gd_t (by decide), if_pos rfl]
      exact u1
theorem e_sh36 {S0 : St} (hS : SpO S0) (u : UQ (S0 84)) (vu : VU (S0 84)) {a e n : Nat} (ha : (a : Int) < S0 84 0) (he : (e : Int) < S0 84 0) (hn : (n : Int) ≤ S0 84 1) (h2 : kM (S0 84) a n ≤ 200) : ∀ (d v f acc : Nat) (T : St), v + d = kM (S0 84) a n → d < f → cnt (S0 84) (-1) T → hIn T → ∃ T', mX12_shared_36 (a : Int) (e : Int) (n : Int) f (v : Int) (acc : Int) T = some (((acc + shN (S0 84) a e n d v : Nat) : Int), T') ∧ RFr T T' ∧ hIn T' := by
  have wf := hS.1.1.wf
  have hM1 := wf.2.1
  intro d
  induction d with
  | zero =>
    intro v f acc T hv hf hT hI
    obtain ⟨f, rfl⟩ : ∃ f', f = f' + 1 := ⟨f - 1, by omega⟩
    refine ⟨T, ?_, RFr.rf, hI⟩
    rw [mX12_shared_36, gd_t (by omega), bd1_e (e_kindMany wf hT ha (by omega)), gd_t ⟨by omega, by omega⟩, if_pos (by omega)]
    rfl
  | succ d ih =>
    intro v f acc T hv hf hT hI
    obtain ⟨f, rfl⟩ : ∃ f', f = f' + 1 := ⟨f - 1, by omega⟩
    have x : isTh (S0 84) a n v := ⟨ha, hn, by omega, h2⟩
    have lx := (thing_le hS x).2.2
    obtain ⟨T1, g1, g2, g3, g4, g5, g6, g7⟩ := e_read (k := 0) hS u vu x he hT hI (by decide)
    by_cases l40 : (tX (S0 84) a n v).length ≤ 40
    · obtain ⟨T2, z, T4, y1, y2, y3, y4, y5, y6, k', y7, y8⟩ := g7 l40
      have y2' : mX12_readsWhole (up T2 83 38 0) (e : Int) = some (z, T4) := y2
      rcases y8 with ⟨z1, z2, t', s', z3, z4, z5⟩ | ⟨z1, z2⟩
      · obtain ⟨T', u1, u2, u3⟩ := ih (v + 1) f (acc + 1) T4 (by omega) (by omega) y5 y6
        refine ⟨T', ?_, y4.trans u2, u3⟩
        rw [show acc + shN (S0 84) a e n (d + 1) v = acc + 1 + shN (S0 84) a e n d (v + 1) by rw [shN_s.1 ⟨l40, _, _, z5⟩]; omega]
        rw [show ((v + 1 : Nat) : Int) = (v : Int) + 1 by omega, show ((acc + 1 : Nat) : Int) = (acc : Int) + 1 by omega] at u1
        rw [mX12_shared_36, gd_t (by omega), bd1_e (e_kindMany wf hT ha (by omega)), gd_t ⟨by omega, by omega⟩, if_neg (by omega), bd1_e g1, g2, gd_t (by omega), if_neg (by omega), bd1_e y1, nx_e, bd2_e y2', gd_t (by omega), if_pos (by omega), nx_e]
        exact u1
      · obtain ⟨T', u1, u2, u3⟩ := ih (v + 1) f acc T4 (by omega) (by omega) y5 y6
        refine ⟨T', ?_, y4.trans u2, u3⟩
        rw [shN_s.2 (fun q => by obtain ⟨_, c, m, q2⟩ := q; exact z2 c m q2)]
        rw [show ((v + 1 : Nat) : Int) = (v : Int) + 1 by omega] at u1
        rw [mX12_shared_36, gd_t (by omega), bd1_e (e_kindMany wf hT ha (by omega)), gd_t ⟨by omega, by omega⟩, if_neg (by omega), bd1_e g1, g2, gd_t (by omega), if_neg (by omega), bd1_e y1, nx_e, bd2_e y2', gd_t (by omega), if_neg (by omega), nx_e, Int.add_zero]
        exact u1
    · obtain ⟨T', u1, u2, u3⟩ := ih (v + 1) f acc T1 (by omega) (by omega) g4 g5
      refine ⟨T', ?_, g3.trans u2, u3⟩
      rw [shN_s.2 (fun q => l40 q.1)]
      rw [show ((v + 1 : Nat) : Int) = (v : Int) + 1 by omega] at u1
      rw [mX12_shared_36, gd_t (by omega), bd1_e (e_kindMany wf hT ha (by omega)), gd_t ⟨by omega, by omega⟩, if_neg (by omega), bd1_e g1, g2, gd_t (by omega), if_pos (by omega)]
      exact u1
theorem s_shared {S : St} (hS : SpO S) (hB : byR S) (hI : hIn S) (u : UQ (S 84)) (vu : VU (S 84)) {a b c : Int} (ha : inI a) (hb : inI b) (hc : inI c) : ∃ (r : Int) (S1 S2 : St), mX11_shared S a b c = some (r, S1) ∧ mX12_shared S1 a b c = some (r, S2) ∧ inI r ∧ TFr S S1 ∧ RFr S1 S2 ∧ SpO S1 ∧ byR S1 ∧ hIn S2 := by
  have h := hS.1.1
  have wf := h.wf
  have hM0 := wf.1
  have hM1 := wf.2.1
  rcases e_known h hb with ⟨k1, k2, e, rfl, he⟩ | ⟨k1, k2, k3⟩
  · have sz := e_sized h ha hc
    have ikb := fun (T : St) (hT : T 84 = S 84) => e_ik h hT hb
    by_cases y : isK (S 84) a ∧ isN (S 84) c
    · rw [if_pos y] at sz
      obtain ⟨k, rfl⟩ : ∃ k : Nat, a = (k : Int) := ⟨a.toNat, by omega⟩
      obtain ⟨n, rfl⟩ : ∃ n : Nat, c = (n : Int) := ⟨c.toNat, by omega⟩
      have hk := y.1.2
      have hn := y.2.2
      have kb := h.kle hk (n := n) (by omega)
      have ta := e_thingsAt h hk hn
      have li : mX11_listing S (k : Int) (n : Int) = some (if kM (S 84) k n ≤ 200 then 0 else -3) := by
        unfold mX11_listing
        rw [bd1_e sz, gd_t (by decide), if_neg (by decide), bd1_e ta, gd_t (by omega)]
        by_cases q : kM (S 84) k n ≤ 200
        · rw [if_pos (by omega), if_pos q]
        · rw [if_neg (by omega), if_neg q]
      have why : ∀ T : St, T 84 = S 84 → ∃ T', cnt (S 84) (-1) T' ∧ kept [90, 91, 92] [] T T' ∧ mX12_whyNone T (k : Int) (n : Int) = some (if kM (S 84) k n ≤ 200 then (if kM (S 84) k n = 0 then -1 else 0) else -3, T') := by
        intro T hT
        obtain ⟨T', s1, s2, s3⟩ := h.cnt (T := T) (l := -1) (by decide) hT
        have km := e_kindMany wf s2 hk (n := n) (by omega)
        refine ⟨T', s2, s3, ?_⟩
        have ik := e_ik h hT ha
        have is := e_isSize h hT hc
        rw [if_pos y.1] at ik
        rw [if_pos y.2] at is
        unfold mX12_whyNone
        rw [bd1_e ik, gd_t (by decide), if_neg (by decide), bd1_e is, gd_t (by decide), if_neg (by decide), bd1_e s1, bd1_e km, gd_t (by omega)]
        by_cases q : kM (S 84) k n ≤ 200
        · rw [if_pos (by omega), if_pos q, bd1_e km, gd_t (by omega)]
          by_cases q0 : kM (S 84) k n = 0
          · rw [if_pos (by omega), if_pos q0]
          · rw [if_neg (by omega), if_neg q0]
        · rw [if_neg (by omega), if_neg q]
      by_cases q : kM (S 84) k n ≤ 200
      · rw [if_pos q] at li
        obtain ⟨S1, s1, s2, s3, s4⟩ := c_sh45 (M := S 84) (e := e) hk he hn q (kM (S 84) k n) 0 FU 0 S (by omega) (by unfold FU; omega) hS hB rfl
        have e1 : S1 84 = S 84 := s4.cell (by decide) (by decide) (by decide) (by decide)
        obtain ⟨T', t1, t2, t3⟩ := why S1 e1
        rw [if_pos q] at t3
        have hI1 : hIn S1 := fun b j p q s => by rw [s4.cell (by omega) (by omega) (by omega) (by omega)]; exact hI b j p q s
        have i2 : hIn T' := fun b j p q s => by rw [t2.cell b (by simp <;> omega) (by simp)]; exact hI1 b j p q s
        obtain ⟨S2, w1, w2, w3⟩ := e_sh36 hS u vu (e := e) hk he hn q (kM (S 84) k n) 0 FU 0 T' (by omega) (by unfold FU; omega) t1 i2
        have sl := shN_le (M := S 84) (a := k) (e := e) (n := n) (kM (S 84) k n) 0
        have r1 : RFr S1 T' := ⟨fun i a => t2.cell i (by simp <;> omega) (by simp), fun q _ _ _ _ => t2 83 q (by decide) (by simp)⟩
        refine ⟨((0 + shN (S 84) k e n (kM (S 84) k n) 0 : Nat) : Int), S1, S2, ?_, ?_, ?_, s4, r1.trans w2, s2, s3, w3⟩
        · unfold mX11_shared
          refine entG_e ?_ s4.2.1
          rw [bd1_e k1, gd_t (by decide), if_neg (by decide), bd1_e li, gd_t (by decide), if_pos rfl, bd1_e ta]
          exact bdG2_e s1 s4.2.1 rfl gle_rfl
        · unfold mX12_shared
          have ik := ikb S1 e1
          rw [if_pos ⟨by omega, he⟩] at ik
          rw [bd1_e ik, gd_t (by decide), if_neg (by decide), bd2_e t3, bd2_e rfl]
          by_cases q0 : kM (S 84) k n = 0
          · rw [if_pos q0, gd_t (by decide), if_pos (by decide), bd2_e (show mX12_shared_36 (k : Int) (e : Int) (n : Int) FU 0 0 T' = some (((0 + shN (S 84) k e n (kM (S 84) k n) 0 : Nat) : Int), S2) from w1)]
          · rw [if_neg q0, gd_t (by decide), if_pos (by decide), bd2_e (show mX12_shared_36 (k : Int) (e : Int) (n : Int) FU 0 0 T' = some (((0 + shN (S 84) k e n (kM (S 84) k n) 0 : Nat) : Int), S2) from w1)]
        · omega
      · rw [if_neg q] at li
        obtain ⟨T', t1, t2, t3⟩ := why S rfl
        rw [if_neg q] at t3
        have i2 : hIn T' := fun b j p q s => by rw [t2.cell b (by simp <;> omega) (by simp)]; exact hI b j p q s
        have r1 : RFr S T' := ⟨fun i a => t2.cell i (by simp <;> omega) (by simp), fun q _ _ _ _ => t2 83 q (by decide) (by simp)⟩
        refine ⟨-3, S, T', ?_, ?_, by decide, TFr.rf, r1, hS, hB, i2⟩
        · unfold mX11_shared
          refine entG_e ?_ gle_rfl
          rw [bd1_e k1, gd_t (by decide), if_neg (by decide), bd1_e li, gd_t (by decide), if_neg (by decide)]
        · unfold mX12_shared
          rw [bd1_e k2, gd_t (by decide), if_neg (by decide), bd2_e t3, bd2_e rfl, gd_t (by decide), if_neg (by decide)]
    · rw [if_neg y] at sz
      have wy : mX12_whyNone S a c = some (-2, S) := by
        have ik := e_ik h rfl ha
        have is := e_isSize h rfl hc
        unfold mX12_whyNone
        rw [bd1_e ik]
        by_cases z : 0 ≤ a ∧ a < S 84 0
        · rw [if_pos z, gd_t (by decide), if_neg (by decide), bd1_e is, if_neg (fun q => y ⟨z, q⟩), gd_t (by decide), if_pos rfl]
        · rw [if_neg z, gd_t (by decide), if_pos rfl]
      refine ⟨-2, S, S, ?_, ?_, by decide, TFr.rf, RFr.rf, hS, hB, hI⟩
      · unfold mX11_shared mX11_listing
        refine entG_e ?_ gle_rfl
        rw [bd1_e k1, gd_t (by decide), if_neg (by decide), bd1_e sz, gd_t (by decide), if_pos rfl, bd1_e rfl, gd_t (by decide), if_neg (by decide)]
      · unfold mX12_shared
        rw [bd1_e k2, gd_t (by decide), if_neg (by decide), bd2_e wy, bd2_e rfl, gd_t (by decide), if_neg (by decide)]
  · refine ⟨-2, S, S, ?_, ?_, by decide, TFr.rf, RFr.rf, hS, hB, hI⟩
    · unfold mX11_shared
      refine entG_e ?_ gle_rfl
      rw [bd1_e k1, gd_t (by decide), if_pos rfl]
    · unfold mX12_shared
      rw [bd1_e k2, gd_t (by decide), if_pos rfl, bd2_e rfl, gd_t (by decide), if_neg (by decide)]
