/-! what a text tells -/
def XFr (S T : St) : Prop := (∀ (i : Nat) (k : Int), i < 105 → (i < 60 ∨ 72 < i) → i ≠ 81 → (i ≠ 0 ∨ (0 ≤ k ∧ k ≠ 1 ∧ k ≠ 17 ∧ k ≠ 18)) → T i k = S i k) ∧ RMx S T
theorem XFr.rf {S : St} : XFr S S := ⟨fun _ _ _ _ _ _ => rfl, RMx.rf⟩
theorem XFr.trans {S T U : St} (h : XFr S T) (k : XFr T U) : XFr S U := ⟨fun i q a b c d => (k.1 i q a b c d).trans (h.1 i q a b c d), h.2.trans k.2⟩
theorem TFr.x {S T : St} (h : TFr S T) : XFr S T := ⟨fun i k a b c d => h.1 i k a b c (by omega), h.2⟩
theorem XFr.cell {S T : St} (h : XFr S T) {i : Nat} (a : i < 105) (b : i < 60 ∨ 72 < i) (c : i ≠ 81) (d : i ≠ 0) : T i = S i := funext fun k => h.1 i k a b c (Or.inl d)
theorem SpO.up0 {S : St} (h : SpO S) {k v : Int} (hk : k = 1 ∨ k = 17 ∨ k = 18) : SpO (up S 0 k v) ∧ XFr S (up S 0 k v) := by
  obtain ⟨a, b⟩ := h.eq (T := up S 0 k v) (fun i hi => up_n (by omega)) ⟨up_nk (by omega), up_nk (by omega), up_nk (by omega)⟩
  exact ⟨a, fun i q _ _ _ d => up_at (by omega), b⟩
theorem e_tellsR {S U : St} (hS : SpO S) (u : UQ (S 84)) (vu : VU (S 84)) (eU : U 84 = S 84) (hI : hIn U) {e n : Nat} {w : List Int} (he : (e : Int) < S 84 0) (h3 : U 83 3 = (n : Int)) (n400 : n ≤ 400) (lw : w.length = n) (tb : ∀ (i : Nat) (x : Int), w[i]? = some x → (0 ≤ U 86 (i : Int) ∧ U 86 (i : Int) ≤ 255) ∧ x = sb (U 86 (i : Int))) : ∃ (r : Int) (V : St), mX12_tells U (e : Int) = some (r, V) ∧ RFw U V ∧ hIn V ∧ V 83 3 = 0 ∧ ((n ≤ 40 ∧ ∃ (c : List Int) (m : Nat), RDW (S 84) e w c m ∧ ((200 < kM (S 84) e m ∧ r = -3 ∧ V 83 42 = U 83 42 ∧ V 83 43 = U 83 43) ∨ (∃ v, isTh (S 84) e m v ∧ CNE (S 84) e m v c ∧ r = (v : Int) ∧ V 83 42 = (m : Int) ∧ V 83 43 = (v : Int)))) ∨ ((n ≤ 40 → ∀ c m, ¬ RDW (S 84) e w c m) ∧ r = -4 ∧ V 83 42 = U 83 42 ∧ V 83 43 = U 83 43)) := by
  have h := hS.1.1
  have wf := h.wf
  have hM0 := wf.1
  have hM1 := wf.2.1
  obtain ⟨E, TE, rO, rT, rK, rk⟩ := h.rks
  have ik := e_ik h eU (a := (e : Int)) (by omega)
  rw [if_pos ⟨by omega, he⟩] at ik
  obtain ⟨U0, hU0⟩ : ∃ U0 : St, U0 = up U 83 3 0 := ⟨_, rfl⟩
  have r0 : RFw U U0 := by rw [hU0]; exact ⟨fun i a => up_n (by omega), fun q a => up_nk (by omega)⟩
  have o42 : U0 83 42 = U 83 42 ∧ U0 83 43 = U 83 43 := by rw [hU0]; exact ⟨up_nk (by decide), up_nk (by decide)⟩
  have z0 : U0 83 3 = 0 := by rw [hU0, up_eq]
  have i0 : hIn U0 := fun b j p q s => by rw [hU0, up_n (by omega)]; exact hI b j p q s
  by_cases c40 : n ≤ 40
  · obtain ⟨U1, p1, p2, p3⟩ := e_t32 (e := (e : Int)) c40 n 0 FU U0 (by omega) (by unfold FU; omega) (fun j q => by omega)
    obtain ⟨U2, hU2⟩ : ∃ U2 : St, U2 = up (up U1 83 40 (n : Int)) 83 38 0 := ⟨_, rfl⟩
    have f2 : ∀ k : Int, k ≠ 38 → k ≠ 40 → U2 83 k = U1 83 k := fun k a b => by rw [hU2, up_nk a, up_nk b]
    have g2 : ∀ i, i ≠ 83 → U2 i = U1 i := fun i a => by rw [hU2, up_n a, up_n a]
    have e2 : U2 84 = S 84 := by rw [g2 84 (by decide), p2.cell 84 (by decide) (by decide), r0.1 84 (by decide)]; exact eU
    obtain ⟨U6, y1, y2, y3⟩ := h.cnt (T := U2) (l := -1) (by decide) e2
    have r6 : RFr U0 U6 := ⟨fun i a => (y3.cell i (by simp <;> omega) (by simp)).trans ((g2 i (by omega)).trans (p2.cell i (by simp <;> omega) (by simp))), fun q _ a b _ => (y3 83 q (by decide) (by simp)).trans ((f2 q a b).trans (p2 83 q (by decide) (by simp)))⟩
    have n6 : ∀ b : Nat, 99 ≤ b → b ≤ 103 → U6 b = U0 b := fun b p q => (y3.cell b (by simp <;> omega) (by simp)).trans ((g2 b (by omega)).trans (p2.cell b (by simp <;> omega) (by simp)))
    have i6 : hIn U6 := fun b j p q s => by rw [n6 b p q]; exact i0 b j p q s
    have h40 : U6 83 40 = (n : Int) := by rw [y3 83 40 (by decide) (by simp), hU2, up_nk (by decide), up_eq]
    have h36 : U6 83 3 = 0 := by rw [y3 83 3 (by decide) (by simp), f2 3 (by decide) (by decide), p2 83 3 (by decide) (by simp)]; exact z0
    have h38 : U6 83 38 = ((0 : Nat) : Int) := by rw [y3 83 38 (by decide) (by simp), hU2, up_eq]; rfl
    obtain ⟨z, U7, w1, w2⟩ := w_whole (T := U6) (k := 0) (w := w) h hS.1.2.1 (rkx_of wf rk) (mux_of h rk u) (hv_of wf vu) y2 i6 he (by omega) (by rw [lw]; exact h40) (fun i x hx => by
      obtain ⟨b1, b2⟩ := tb i x hx
      have li := (List.getElem?_eq_some_iff.mp hx).1
      refine ⟨U 86 (i : Int), ?_, by omega, b2⟩
      rw [y3.cell 104 (by decide) (by decide), g2 104 (by decide), p3 i (by omega), r0.1 86 (by decide)]) h38 (by decide)
    have c7 := w2.1.cn y2
    have r7 := r6.trans w2.1.r
    have h37 : U7 83 3 = 0 := by rw [w2.1.2 3 (by decide) (by decide)]; exact h36
    have q42 : U7 83 42 = U 83 42 := (r7.2 42 (by decide) (by decide) (by decide) (by decide)).trans o42.1
    have q43 : U7 83 43 = U 83 43 := (r7.2 43 (by decide) (by decide) (by decide) (by decide)).trans o42.2
    obtain ⟨v1, v2, v3, k', v4, v5, v6, v7⟩ := w2
    unfold mX12_tells
    rw [bd1_e ik, gd_t (by decide), if_neg (by decide), nx_e, h3, nx_e, ← hU0, gd_t (by omega), if_pos (by omega), bd1_e (show mX12_tells_32 (n : Int) (e : Int) FU 0 U0 = some U1 from p1), nx_e, nx_e, ← hU2, bd1_e y1, bd2_e w1]
    rcases v7 with ⟨z1, z2, z3, t, s, z4, z5, z6⟩ | ⟨z1, z2⟩
    · have s101 : U7 101 0 = ((szs s : Nat) : Int) := z5.2.2.1
      have hm := z6.2
      obtain ⟨m, em⟩ : ∃ m, m = szs s := ⟨_, rfl⟩
      rw [← em] at s101 z6 hm
      have km := e_kindMany wf c7 he (n := m) (by omega)
      have kl := h.kle he (n := m) (by omega)
      obtain ⟨kp, ks⟩ := cn_sur h hS.1.2.1 he z6
      rw [z1, gd_t (by decide), if_pos (by decide), gd_t (by decide), nx_e, show ((0 : Nat) : Int) = 0 from rfl, s101, bd1_e km, gd_t (by omega)]
      by_cases b : kM (S 84) e m ≤ 200
      · obtain ⟨v, hv, hc⟩ := ks b
        have x : isTh (S 84) e m v := ⟨he, hm, hv, b⟩
        have l1 := z6.len.1
        obtain ⟨U8, g1, g2', g3⟩ := e_t117 hS u vu (c := dgT (S 84) e t ++ fl1 s) (k0 := k') (s := s) (t := t) x hc rfl z4 ⟨z2, by omega⟩ em.symm (by omega) v 0 FU U7 (by omega) (by unfold FU; omega) c7 v3 z5
        rw [if_pos (by omega), nx_e, v4]
        rw [show (((dgT (S 84) e t ++ fl1 s).length : Nat) : Int) = (n : Int) by omega] at g1
        rw [bd3_e (show mX12_tells_117 (k' : Int) (m : Int) 0 (n : Int) (e : Int) FU 0 U7 = some (0, (v : Int), U8) from g1), if_pos rfl, nx_e, nx_e]
        refine ⟨(v : Int), _, rfl, ⟨fun i a => ?_, fun q a => ?_⟩, fun b' j p q s' => ?_, ?_, Or.inl ⟨c40, _, m, z6, Or.inr ⟨v, x, hc, rfl, ?_, ?_⟩⟩⟩
        · rw [up_n (by omega), up_n (by omega), g2'.1 i a]; exact (r0.trans r7.w).1 i a
        · rw [up_nk (by omega), up_nk (by omega), g2'.2 q (by omega) (by omega) (by omega) (by omega)]
          exact (r0.trans r7.w).2 q a
        · rw [up_n (by omega), up_n (by omega)]; exact g3 b' j p q s'
        · rw [up_nk (by decide), up_nk (by decide)]
          rw [g2'.2 3 (by decide) (by decide) (by decide) (by decide)]
          exact h37
        · rw [up_nk (by decide), up_eq]
        · rw [up_eq]
      · rw [if_neg (by omega)]
        exact ⟨-3, U7, rfl, r0.trans r7.w, v3, h37, Or.inl ⟨c40, _, m, z6, Or.inl ⟨by omega, rfl, q42, q43⟩⟩⟩
    · rw [z1, gd_t (by decide), if_neg (by decide)]
      exact ⟨-4, U7, rfl, r0.trans r7.w, v3, h37, Or.inr ⟨fun _ => z2, rfl, q42, q43⟩⟩
  · refine ⟨-4, U0, ?_, r0, i0, z0, Or.inr ⟨fun q => absurd q c40, rfl, o42.1, o42.2⟩⟩
    unfold mX12_tells
    rw [bd1_e ik, gd_t (by decide), if_neg (by decide), nx_e, h3, nx_e, ← hU0, gd_t (by omega), if_neg (by omega)]
theorem s_tells {S : St} (hS : SpO S) (tp : TP S) (hB : byR S) (hI : hIn S) (u : UQ (S 84)) (vu : VU (S 84)) {a : Int} (ha : inI a) : ∃ (r : Int) (S1 S2 : St), mX11_tells S a = some (r, S1) ∧ mX12_tells S1 a = some (r, S2) ∧ inI r ∧ XFr S S1 ∧ RFw S1 S2 ∧ SpO S1 ∧ byR S1 ∧ hIn S2 ∧ TP S2 := by
  have h := hS.1.1
  have wf := h.wf
  have hM0 := wf.1
  have hM1 := wf.2.1
  rcases e_known h ha with ⟨k1, k2, e, rfl, he⟩ | ⟨k1, k2, k3⟩
  · obtain ⟨E, TE, rO, rT, rK, rk⟩ := h.rks
    have tp0 := tp
    obtain ⟨⟨n, n400, t1, t3, tb⟩, q4, q17, q15⟩ := tp
    obtain ⟨w, hw⟩ : ∃ w : List Int, w = (List.range n).map (fun i : Nat => S 1 (i : Int)) := ⟨_, rfl⟩
    have lw : w.length = n := by rw [hw, List.length_map, List.length_range]
    have wx : ∀ (i : Nat) (x : Int), w[i]? = some x → i < n ∧ x = S 1 (i : Int) := fun i x hx => by
      have li := (List.getElem?_eq_some_iff.mp hx).1
      rw [hw, List.getElem?_map, List.getElem?_range (by omega)] at hx
      exact ⟨by omega, (Option.some.inj hx).symm⟩
    obtain ⟨S6, hS6⟩ : ∃ S6 : St, S6 = up S 0 1 0 := ⟨_, rfl⟩
    obtain ⟨o6, x6⟩ := hS.up0 (k := 1) (v := 0) (Or.inl rfl)
    rw [← hS6] at o6 x6
    have c6 : ∀ i, i ≠ 0 → S6 i = S i := fun i hi => by rw [hS6, up_n hi]
    have gm6 : GM S6 (S 84) := by
      have := o6.1.1.gm
      rw [c6 84 (by decide)] at this
      exact this
    obtain ⟨r8, S9, s1, s2, s3, s4⟩ := rd_tape (e := e) (w := w) (L := n) wf (rkx_of wf rk) gm6 (by omega) (show (0 : Int) ≤ 0 by omega) (wf.2.2.2.2.1 e he) n400 (hB.of (c6 68 (by decide))) (fun i x hx => by
      obtain ⟨a1, a2⟩ := wx i x hx
      obtain ⟨b1, b2, b3⟩ := tb i a1
      refine ⟨by rw [c6 1 (by decide)]; exact a2.symm, ?_⟩
      rw [a2, b1]
      unfold sb
      split <;> omega) lw
    obtain ⟨o9, x9⟩ := o6.ofR (KRw.c s2)
    have mk : msk S9 S6 = S9 := msk_e (fun i hi => s2.cell i (by simp <;> omega) (by simp <;> omega)) (s2.cell 0 (by decide) (by decide))
    have e9 : S9 84 = S 84 := (s2.cell 84 (by decide) (by decide)).trans (c6 84 (by decide))
    have x69 := x6.trans x9.x
    have z91 : S9 0 1 = 0 := by rw [s2.cell 0 (by decide) (by decide), hS6, up_eq]
    have z917 : ∀ k : Int, k ≠ 1 → S9 0 k = S 0 k := fun k hk => by rw [s2.cell 0 (by decide) (by decide), hS6, up_nk hk]
    -- the reference, from whatever state the class leaves
    have rf : ∀ U : St, XFr S U → U 84 = S 84 → ∃ (r : Int) (V : St), mX12_tells U (e : Int) = some (r, V) ∧ RFw U V ∧ hIn V ∧ V 83 3 = 0 ∧ ((n ≤ 40 ∧ ∃ (c : List Int) (m : Nat), RDW (S 84) e w c m ∧ ((200 < kM (S 84) e m ∧ r = -3 ∧ V 83 42 = U 83 42 ∧ V 83 43 = U 83 43) ∨ (∃ v, isTh (S 84) e m v ∧ CNE (S 84) e m v c ∧ r = (v : Int) ∧ V 83 42 = (m : Int) ∧ V 83 43 = (v : Int)))) ∨ ((n ≤ 40 → ∀ c m, ¬ RDW (S 84) e w c m) ∧ r = -4 ∧ V 83 42 = U 83 42 ∧ V 83 43 = U 83 43)) := fun U xU eU =>
      e_tellsR hS u vu eU (fun b j p q s => by rw [xU.cell (by omega) (by omega) (by omega) (by omega)]; exact hI b j p q s) he (by rw [xU.cell (by decide) (by decide) (by decide) (by decide)]; exact t3) n400 lw (fun i x hx => by
        obtain ⟨a1, a2⟩ := wx i x hx
        obtain ⟨b1, b2, b3⟩ := tb i a1
        rw [xU.cell (by decide) (by decide) (by decide) (by decide), a2]
        exact ⟨⟨b2, b3⟩, b1⟩)
    have tpE : ∀ T U : St, XFr S T → RFw T U → T 0 1 = 0 → U 83 3 = 0 → (T 0 17 = U 83 42 ∧ T 0 18 = U 83 43 ∧ inI (T 0 17) ∧ inI (T 0 18)) → TP U := by
      intro T U xT rU z1 z3 z17
      have c0 : U 0 = T 0 := rU.1 0 (by decide)
      have c84 : U 84 = S 84 := (rU.1 84 (by decide)).trans (xT.cell (by decide) (by decide) (by decide) (by decide))
      have c83 : T 83 = S 83 := xT.cell (by decide) (by decide) (by decide) (by decide)
      refine ⟨⟨0, by omega, by rw [c0]; exact z1, z3, fun i hi => by omega⟩, ?_, by rw [c0]; exact z17, ?_⟩
      · rw [c0, rU.2 4 (by decide), rU.2 5 (by decide), c83, xT.1 0 4 (by decide) (by decide) (by decide) (by decide), xT.1 0 5 (by decide) (by decide) (by decide) (by decide)]
        exact q4
      · rw [c0, c84, xT.1 0 15 (by decide) (by decide) (by decide) (by decide)]
        exact q15
    have old : ∀ U V : St, XFr S U → (∀ k : Int, k ≠ 1 → U 0 k = S 0 k) → V 83 42 = U 83 42 → V 83 43 = U 83 43 → U 0 17 = V 83 42 ∧ U 0 18 = V 83 43 ∧ inI (U 0 17) ∧ inI (U 0 18) := fun U V xU z a b => by
      rw [z 17 (by decide), z 18 (by decide), a, b, xU.cell (by decide) (by decide) (by decide) (by decide)]
      exact q17
    rcases s3 with ⟨c, m, y1, y2, y3, y4⟩ | ⟨y1, y2⟩
    · have hm := y2.2
      have kl := h.kle he (n := m) (by omega)
      obtain ⟨kp, ks⟩ := cn_sur h hS.1.2.1 he y2
      have ta := e_thingsAt o9.1.1 (e := e) (n := m) (by rw [e9]; exact he) (by rw [e9]; exact hm)
      rw [e9] at ta
      have lc := y2.len.1
      by_cases b : kM (S 84) e m ≤ 200
      · obtain ⟨v, hv, hc⟩ := ks b
        have x : isTh (S 84) e m v := ⟨he, hm, hv, b⟩
        obtain ⟨T, g1, g2, g3, g4, g5⟩ := c_rank o9 s4 (e := e) (n := m) (v := v) (c := c) (by rw [e9]; exact x) (by rw [e9]; exact hc) (by omega) y4
        rw [show ((c.length : Nat) : Int) = (n : Int) by omega] at g1
        obtain ⟨S1, hS1⟩ : ∃ S1 : St, S1 = up (up T 0 17 (m : Int)) 0 18 (v : Int) := ⟨_, rfl⟩
        obtain ⟨o17, x17⟩ := g2.up0 (k := 17) (v := (m : Int)) (Or.inr (Or.inl rfl))
        obtain ⟨o18, x18⟩ := o17.up0 (k := 18) (v := (v : Int)) (Or.inr (Or.inr rfl))
        rw [← hS1] at o18 x18
        have xT := ((x69.trans g4.x).trans x17).trans x18
        have cT : ∀ i, i ≠ 0 → S1 i = T i := fun i a => by rw [hS1, up_n a, up_n a]
        have eT : S1 84 = S 84 := (cT 84 (by decide)).trans (g5.trans e9)
        obtain ⟨r, V, u1, u2, u3, u4, u5⟩ := rf S1 xT eT
        have ans' : r = (v : Int) ∧ V 83 42 = (m : Int) ∧ V 83 43 = (v : Int) := by
          rcases u5 with ⟨_, c', m', w1, w2⟩ | ⟨w1, _⟩
          · obtain ⟨d1, d2⟩ := y2.det w1
            subst d1 d2
            rcases w2 with ⟨w3, _⟩ | ⟨v', w3, w4, w5, w6, w7⟩
            · omega
            · have := cn_inj h x w3 hc w4
              subst this
              exact ⟨w5, w6, w7⟩
          · exact absurd y2 (w1 (by omega) c m)
        have z1 : S1 0 1 = 0 := by
          rw [hS1, up_nk (by decide), up_nk (by decide), g4.1 0 1 (by decide) (by decide) (by decide) (by decide)]
          exact z91
        refine ⟨(v : Int), S1, V, ?_, by rw [← ans'.1]; exact u1, by omega, xT, u2, o18, g3.of (cT 68 (by decide)), u3, tpE S1 V xT u2 z1 u4 ?_⟩
        · unfold mX11_tells
          refine entG_e ?_ xT.2.1
          rw [bd1_e k1, gd_t (by decide), if_neg (by decide), nx_e, t1, nx_e, ← hS6, bd2_e s1, nx_e, mk, y3, gd_t (by omega), if_neg (by omega), bd1_e ta, gd_t (by omega), if_pos (by omega)]
          refine bdG2_e g1 g4.2.1 ?_ (x17.trans x18).2.1
          rw [gd_t (by omega), if_neg (by omega), nx_e, nx_e, ← hS1]
        · have e17 : S1 0 17 = (m : Int) := by rw [hS1, up_nk (by decide), up_eq]
          have e18 : S1 0 18 = (v : Int) := by rw [hS1, up_eq]
          rw [e17, e18, ans'.2.1, ans'.2.2]
          omega
      · obtain ⟨r, V, u1, u2, u3, u4, u5⟩ := rf S9 x69 e9
        have ans' : r = -3 ∧ V 83 42 = S9 83 42 ∧ V 83 43 = S9 83 43 := by
          rcases u5 with ⟨_, c', m', w1, w2⟩ | ⟨w1, _⟩
          · obtain ⟨d1, d2⟩ := y2.det w1
            subst d1 d2
            rcases w2 with ⟨w3, w4⟩ | ⟨v', w3, _⟩
            · exact w4
            · exact absurd w3.2.2.2 b
          · exact absurd y2 (w1 (by omega) c m)
        refine ⟨-3, S9, V, ?_, by rw [← ans'.1]; exact u1, by decide, x69, u2, o9, s4, u3, tpE S9 V x69 u2 z91 u4 (old S9 V x69 z917 ans'.2.1 ans'.2.2)⟩
        unfold mX11_tells
        refine entG_e ?_ x69.2.1
        rw [bd1_e k1, gd_t (by decide), if_neg (by decide), nx_e, t1, nx_e, ← hS6, bd2_e s1, nx_e, mk, y3, gd_t (by omega), if_neg (by omega), bd1_e ta, gd_t (by omega), if_neg (by omega)]
    · obtain ⟨r, V, u1, u2, u3, u4, u5⟩ := rf S9 x69 e9
      have ans' : r = -4 ∧ V 83 42 = S9 83 42 ∧ V 83 43 = S9 83 43 := by
        rcases u5 with ⟨w0, c', m', w1, _⟩ | ⟨_, w2⟩
        · exact absurd w1 (y1 (by have := w1.len; omega) c' m')
        · exact w2
      refine ⟨-4, S9, V, ?_, by rw [← ans'.1]; exact u1, by decide, x69, u2, o9, s4, u3, tpE S9 V x69 u2 z91 u4 (old S9 V x69 z917 ans'.2.1 ans'.2.2)⟩
      unfold mX11_tells
      refine entG_e ?_ x69.2.1
      rw [bd1_e k1, gd_t (by decide), if_neg (by decide), nx_e, t1, nx_e, ← hS6, bd2_e s1, nx_e, mk, y2, gd_t (by decide), if_pos rfl]
  · refine ⟨-2, S, S, ?_, ?_, by decide, XFr.rf, RFw.rf, hS, hB, hI, tp⟩
    · unfold mX11_tells
      refine entG_e ?_ gle_rfl
      rw [bd1_e k1, gd_t (by decide), if_pos rfl]
    · unfold mX12_tells
      rw [bd1_e k2, gd_t (by decide), if_pos rfl]
