/-! anew, takes -/
def itB : Nat → (Int → Int) → (Int → Int)
  | 0, M => M
  | d + 1, M => itB d (tbM M)
theorem same6.trans {M M' M'' : Int → Int} (a : same6 M M') (b : same6 M' M'') : same6 M M'' := fun k hk => (b k hk).trans (a k hk)
theorem itB_ok : ∀ (d : Nat) (M : Int → Int), WF M → AM M → M 4 = (d : Int) → same6 M (itB d M) ∧ WF (itB d M) ∧ AM (itB d M) ∧ itB d M 4 = 0 := by
  intro d
  induction d with
  | zero => intro M w a h; exact ⟨fun _ _ => rfl, w, a, h⟩
  | succ d ih =>
    intro M w a h
    have h4 : 0 < M 4 := by omega
    obtain ⟨-, -, -, -, t10, e6⟩ := tb_at w a h4
    obtain ⟨r1, r2, r3, r4⟩ := ih (tbM M) (tb_wf w a h4) (tb_am w a h4) (by rw [tbM_4]; omega)
    exact ⟨(tb_same e6).trans r1, r2, r3, r4⟩
theorem c_anew20 : ∀ (d i f : Nat) (n : Nat) (S : St) (M : Int → Int), i + d = n → n ≤ 10 → d < f → WF M → CE M → AM M → M 4 = (d : Int) → GM S M → AS S M → ∃ S' : St, mX11_anew_20 (n : Int) f (i : Int) S = some S' ∧ kept [10] [(0, 15)] S S' ∧ GM S' (itB d M) ∧ AS S' (itB d M) := by
  intro d
  induction d with
  | zero =>
    intro i f n S M hi hn hf w ce a h g s
    obtain ⟨f', rfl⟩ : ∃ g, f = g + 1 := ⟨f - 1, by omega⟩
    refine ⟨S, ?_, kept.rf, g, s⟩
    rw [mX11_anew_20, gd_t (by omega), if_pos (by omega)]
  | succ d ih =>
    intro i f n S M hi hn hf w ce a h g s
    obtain ⟨f', rfl⟩ : ∃ g, f = g + 1 := ⟨f - 1, by omega⟩
    have h4 : 0 < M 4 := by omega
    obtain ⟨-, -, -, -, t10, e6⟩ := tb_at w a h4
    obtain ⟨S1, b1, b2, b3, b4⟩ := c_takeBack w ce a h4 g s
    obtain ⟨S', r1, r2, r3⟩ := ih (i + 1) f' n S1 (tbM M) (by omega) hn (by omega) (tb_wf w a h4) (CE6 (tb_same e6) ce) (tb_am w a h4) (by rw [tbM_4]; omega) b3 b4
    rw [show ((i + 1 : Nat) : Int) = (i : Int) + 1 by omega] at r1
    refine ⟨S', ?_, kept.trans b2 r2, r3⟩
    rw [mX11_anew_20, gd_t (by omega), if_neg (by omega), bd1_e b1]
    exact r1
theorem f_anew19 {x : Int} : ∀ (d f : Nat) (T : St) (M : Int → Int), d < f → WF M → AM M → M 4 = (d : Int) → T 84 = M → ∃ T' : St, mX12_anew_19 x f T = some T' ∧ T' 84 = itB d M ∧ kept [84] [(83, 45)] T T' := by
  intro d
  induction d with
  | zero =>
    intro f T M hf w a h h84
    obtain ⟨f', rfl⟩ : ∃ g, f = g + 1 := ⟨f - 1, by omega⟩
    refine ⟨T, ?_, h84, kept.rf⟩
    rw [mX12_anew_19, h84, h, gd_t (by decide), if_pos (by decide)]
  | succ d ih =>
    intro f T M hf w a h h84
    obtain ⟨f', rfl⟩ : ∃ g, f = g + 1 := ⟨f - 1, by omega⟩
    have h4 : 0 < M 4 := by omega
    have a1 := a.1
    obtain ⟨T1, b1, b2, b3, b4⟩ := f_takesBack w a h4 h84
    obtain ⟨T', r1, r2, r3⟩ := ih f' T1 (tbM M) (by omega) (tb_wf w a h4) (tb_am w a h4) (by rw [tbM_4]; omega) b2
    refine ⟨T', ?_, r2, kept.trans b4 r3⟩
    rw [mX12_anew_19, h84, gd_t (by omega), if_neg (by omega), bd1_e b1]
    exact r1
theorem s_anew {S : St} (g : GI S) : ∃ (r : Int) (S1 S2 : St), mX11_anew S = some (r, S1) ∧ mX12_anew S1 = some (r, S2) ∧ inI r ∧ KA S S1 ∧ KA S S2 ∧ GI S2 ∧ ((S2 0 16 = S 0 16 ∧ S2 84 = S 84 ∧ ∀ i, i ≠ 80 → i ≠ 83 → S2 i = S i) ∨ (S2 0 16 = S 0 16 + 1 ∧ S2 73 1 = 0)) ∧ S2 0 15 = S2 84 4 ∧ same6 (S 84) (S2 84) := by
  have gg := g
  obtain ⟨cor, st, ce, ⟨d, dp⟩, ⟨hm, hh⟩, ⟨am, as, m3⟩, nk, l1, l2, l3, dl⟩ := g
  have w := cor.wf
  have g3 := cor.gm.1.2.2.1
  have a1 := am.1
  by_cases c3 : S 84 3 = 0
  · refine ⟨-2, S, S, ?_, ?_, by omega, kept.rf, kept.rf, gg, Or.inl ⟨rfl, rfl, fun _ _ _ => rfl⟩, as.1, fun _ _ => rfl⟩
    · unfold mX11_anew
      rw [g3, gd_t (by omega), if_pos c3]
    · unfold mX12_anew
      rw [gd_t (by omega), if_pos c3]
  · obtain ⟨n, hn⟩ : ∃ n : Nat, S 84 4 = (n : Int) := ⟨(S 84 4).toNat, by omega⟩
    obtain ⟨S6, b1, b2, b3, b4⟩ := c_anew20 n 0 FU n S (S 84) (by omega) (by omega) (by unfold FU; omega) w ce am hn cor.gm as
    obtain ⟨sm, wN, amN, z4⟩ := itB_ok n (S 84) w am hn
    have o6 : ∀ i, i ≠ 0 → i ≠ 10 → S6 i = S i := fun i a b => b2.cell i (by simp; omega) (by simp; omega)
    by_cases c4 : n = 0
    · -- no acts
      subst c4
      have e6 : S6 = S := by
        have : mX11_anew_20 ((0 : Nat) : Int) (1999999 + 1) ((0 : Nat) : Int) S = some S := by
          rw [mX11_anew_20, gd_t (by decide), if_pos (by decide)]
        exact Option.some.inj (b1.symm.trans this)
      subst e6
      obtain ⟨T5, f1, f2, f3⟩ := f_anew19 (x := 0) 0 FU (up S6 80 1 0) (S6 84) (by unfold FU; omega) w am hn rfl
      have f5 : T5 = up S6 80 1 0 := by
        have : mX12_anew_19 0 (1999999 + 1) (up S6 80 1 0) = some (up S6 80 1 0) := by
          rw [mX12_anew_19, show (up S6 80 1 0) 84 4 = S6 84 4 from rfl, hn, gd_t (by decide), if_pos (by decide)]
        exact Option.some.inj (f1.symm.trans this)
      subst f5
      have k12 : ∀ i, i ≠ 80 → i ≠ 83 → (up (up S6 80 1 0) 83 45 0) i = S6 i := fun i a b => by rw [up_n b, up_n a]
      refine ⟨0, up S6 80 1 0, up (up S6 80 1 0) 83 45 0, ?_, ?_, by omega, kept.rf.upF (by decide), (kept.rf.upF (by decide)).upF (by decide), ?_, Or.inl ⟨rfl, k12 84 (by decide) (by decide), k12⟩, as.1, fun k _ => congrFun (k12 84 (by decide) (by decide)) k⟩
      · unfold mX11_anew mX1_stop
        rw [g3, gd_t (by omega), if_neg c3, as.1, hn, nx_e, bd1_e (show mX11_anew_20 ((0 : Nat) : Int) FU 0 S6 = some S6 from b1), gd_t (by decide), if_pos (by decide), nx_e, bd1_s]
        rfl
      · unfold mX12_anew
        rw [show (up S6 80 1 0) 84 3 = S6 84 3 from rfl, gd_t (by omega), if_neg c3, show (up S6 80 1 0) 84 4 = S6 84 4 from rfl, hn, nx_e, bd1_e (show mX12_anew_19 ((0 : Nat) : Int) FU (up S6 80 1 0) = some (up S6 80 1 0) from f1), nx_e]
        rfl
      · have e84 : (up (up S6 80 1 0) 83 45 0) 84 = S6 84 := k12 84 (by decide) (by decide)
        refine ⟨cor.of e84 (fun i _ _ => k12 i (by omega) (by omega)) (fun i _ _ => k12 i (by omega) (by omega)), ?_, ?_, ?_, ?_, ⟨?_, ?_, ?_⟩, nk.of (fun i _ _ => k12 i (by omega) (by omega)), ?_, ?_, ?_, Or.inl ⟨rfl, rfl⟩⟩
        · rw [e84]; exact st.of (fun i _ _ => k12 i (by omega) (by omega))
        · rw [e84]; exact ce
        · rw [e84]; exact ⟨d, dp⟩
        · rw [e84]; exact ⟨hm, hh⟩
        · rw [e84]; exact am
        · rw [e84]; exact as
        · rw [e84]; exact m3
        · unfold LG1 at l1 ⊢
          rw [e84, k12 47 (by decide) (by decide), k12 57 (by decide) (by decide)]; exact l1
        · unfold LG2 at l2 ⊢
          rw [e84, k12 47 (by decide) (by decide), k12 58 (by decide) (by decide)]; exact l2
        · unfold LG3 at l3 ⊢
          rw [e84, k12 47 (by decide) (by decide), k12 59 (by decide) (by decide)]; exact l3
    · obtain ⟨E, TE, KE, rO, rT, rK, stp, w', o, ti⟩ := cor
      have nbs := CorM.nbs ⟨E, TE, KE, rO, rT, rK, stp, w', o, ti⟩ st
      have nbs6 : NBs S6 := by
        unfold NBs nbG nb rz tb at nbs ⊢
        rw [o6 34 (by decide) (by decide), o6 35 (by decide) (by decide), o6 36 (by decide) (by decide), o6 37 (by decide) (by decide), o6 38 (by decide) (by decide), o6 39 (by decide) (by decide), o6 41 (by decide) (by decide), o6 42 (by decide) (by decide), o6 43 (by decide) (by decide), o6 44 (by decide) (by decide), o6 45 (by decide) (by decide), o6 46 (by decide) (by decide)]
        exact nbs
      have oa6 : OA S6 (itB n (S 84)) rO rT rK stp := by
        have := OA6 sm ti.1.2.2
        unfold OA at this ⊢
        rw [o6 2 (by decide) (by decide), o6 11 (by decide) (by decide)]; exact this
      obtain ⟨S1, s1, s2, ⟨s3, s4, s5⟩, s6, s7, s8, s9, s10⟩ := w_settle wN (Ord6 sm w o) b3 oa6 nbs6
      obtain ⟨Sx, hSx⟩ : ∃ Sx : St, Sx = up S1 80 1 0 := ⟨_, rfl⟩
      have x1 : ∀ i, i ≠ 80 → Sx i = S1 i := fun i a => by rw [hSx, up_n a]
      have k1 : KA S Sx := by
        rw [hSx]
        exact kept.upF (kept.trans (kept.mono b2 (by decide) (by decide)) (kept.mono s2 (by decide) (by decide))) (by decide)
      have e84 : Sx 84 = S 84 := (x1 84 (by decide)).trans ((s2.cell 84 (by decide) (by decide)).trans (o6 84 (by decide) (by decide)))
      obtain ⟨T5, f1, f2, f3⟩ := f_anew19 (x := (n : Int)) n FU Sx (S 84) (by unfold FU; omega) w am hn e84
      obtain ⟨S2, hS2⟩ : ∃ S2 : St, S2 = up T5 83 45 0 := ⟨_, rfl⟩
      have k12 : ∀ i, i ≠ 83 → i ≠ 84 → S2 i = Sx i := fun i a b => by rw [hS2, up_n a]; exact f3.cell i (by simp; omega) (by simp; omega)
      have as1 : AS S1 (itB n (S 84)) := by
        refine ⟨by rw [s2 0 15 (by decide) (by decide)]; exact b4.1, fun i hi => ?_⟩
        rw [s2.cell 82 (by decide) (by decide)]; exact b4.2 i hi
      have asx : AS Sx (itB n (S 84)) := by
        unfold AS at as1 ⊢
        rw [x1 0 (by decide), x1 82 (by decide)]; exact as1
      have m3N : 0 ≤ itB n (S 84) 3 ∧ itB n (S 84) 3 ≤ 25 := by rw [sm 3 (by omega)]; exact m3
      have e84' : S2 84 = itB n (S 84) := by rw [hS2, up_n (show 84 ≠ 83 by decide)]; exact f2
      have corx : CorM Sx (itB n (S 84)) := by
        obtain ⟨E, TE, KE, rO, rT, rK, st, w, o, t⟩ := s7
        refine ⟨E, TE, KE, rO, rT, rK, st, w, o, ?_⟩
        obtain ⟨⟨t1, t2, t3⟩, t4, t5⟩ := t
        refine ⟨⟨by rw [x1 40 (by decide)]; exact t1, t2.of (fun i x y => x1 i (by omega)), ?_⟩, ?_⟩
        · unfold OA at t3 ⊢
          rw [x1 2 (by decide), x1 11 (by decide)]; exact t3
        · unfold nbG nb rz tb at t4 ⊢
          unfold tb at t5
          rw [x1 41 (by decide), x1 42 (by decide), x1 43 (by decide), x1 44 (by decide), x1 45 (by decide), x1 46 (by decide)]
          exact ⟨t4, t5⟩
      have gi2 : GI S2 := settled (s6.of (fun i _ _ => x1 i (by omega))) corx ⟨by rw [hSx]; rfl, by rw [x1 47 (by decide)]; exact s5⟩ (by rw [x1 47 (by decide)]; exact s8) (by rw [x1 47 (by decide)]; exact s9) (CE6 sm ce) (DP6 sm w dp) (HM6 sm w hh) amN asx m3N (nk.of (fun i a b => (x1 i (by omega)).trans ((s2.cell i (by simp; omega) (by simp; omega)).trans (o6 i (by omega) (by omega))))) e84' k12 (by rw [hS2]; rfl)
      refine ⟨(n : Int), Sx, S2, ?_, ?_, by omega, k1, ?_, gi2, Or.inr ⟨?_, ?_⟩, ?_, by rw [e84']; exact sm⟩
      · unfold mX11_anew mX1_stop
        rw [g3, gd_t (by omega), if_neg c3, as.1, hn, nx_e, bd1_e (show mX11_anew_20 (n : Int) FU 0 S = some S6 from b1), gd_t (by omega), if_neg (by omega), bd1_e s1, nx_e, bd1_s, ← hSx]
      · unfold mX12_anew
        rw [e84, gd_t (by omega), if_neg c3, hn, nx_e, bd1_e f1, nx_e, ← hS2]
      · rw [hS2]
        exact kept.upF (kept.trans k1 (kept.mono f3 (by decide) (by decide))) (by decide)
      · rw [k12 0 (by decide) (by decide), x1 0 (by decide), s3, b2 0 16 (by decide) (by decide)]
      · rw [k12 73 (by decide) (by decide), x1 73 (by decide)]; exact s10
      · rw [k12 0 (by decide) (by decide), asx.1, e84']
/-! takes -/
def tkM (M : Int → Int) (e t : Nat) : Int → Int := fun k => if k = 4 then M 4 + 1 else if k = 12 + M 4 then ((e * 10 + t : Nat) : Int) else offS M e t k
theorem tkM_n {M : Int → Int} {e t : Nat} {k : Int} (h1 : k ≠ 4) (h2 : k ≠ 12 + M 4) (h3 : k ≠ 6 + (e : Int)) : tkM M e t k = M k := by
  unfold tkM
  rw [if_neg h1, if_neg h2, offS_ne h3]
theorem tkM_4 {M : Int → Int} {e t : Nat} : tkM M e t 4 = M 4 + 1 := if_pos rfl
theorem tkM_a {M : Int → Int} {e t : Nat} (h : 0 ≤ M 4) : tkM M e t (12 + M 4) = ((e * 10 + t : Nat) : Int) := by
  unfold tkM
  rw [if_neg (by omega), if_pos rfl]
theorem tkM_e {M : Int → Int} {e t : Nat} (h : 0 ≤ M 4) (he : e < 6) : tkM M e t (6 + (e : Int)) = offS M e t (6 + (e : Int)) := by
  unfold tkM
  rw [if_neg (by omega), if_neg (by omega)]
theorem tk_same {M : Int → Int} {e t : Nat} (h : 0 ≤ M 4 ∧ M 4 ≤ 10) (he : e < 6) : same6 M (tkM M e t) := fun k hk => tkM_n (by omega) (by omega) (by omega)
theorem tk_wf {M : Int → Int} {e t : Nat} (w : WF M) (h : 0 ≤ M 4 ∧ M 4 ≤ 10) (he : e < 6) (ht : t < 10) : WF (tkM M e t) := by
  refine WF6 (tk_same h he) w (fun x hx => ?_)
  have b := (offS_wf w he ht).2.2.2.2.2 x hx
  by_cases c : x = e
  · subst c; rw [tkM_e h.1 he]; exact b
  · rw [tkM_n (by omega) (by omega) (by omega)]; exact w.2.2.2.2.2 x hx
theorem tk_off {M : Int → Int} {e t x y : Nat} (w : WF M) (h : 0 ≤ M 4 ∧ M 4 ≤ 10) (he : e < 6) : offM (tkM M e t) x y = (offM M x y || (decide (x = e) && decide (t = y))) := by
  unfold offM
  by_cases c : x = e
  · subst c
    rw [tkM_e h.1 he, offS_at, decide_eq_true he, decide_eq_true (rfl : x = x), bt_nat, Nat.testBit_or, Nat.testBit_two_pow]
    have b := w.2.2.2.2.2 x he
    have : bt (M (6 + (x : Int))) (y : Int) = (M (6 + (x : Int))).toNat.testBit y := rfl
    rw [this]
    cases (M (6 + (x : Int))).toNat.testBit y <;> cases decide (t = y) <;> rfl
  · rw [decide_eq_false c, Bool.false_and, Bool.or_false]
    by_cases d : x < 6
    · rw [tkM_n (by omega) (by omega) (by omega)]
    · rw [decide_eq_false d, Bool.false_and, Bool.false_and]
theorem tk_am {M : Int → Int} {e t : Nat} (w : WF M) (a : AM M) (h : M 4 < 10) (he : (e : Int) < M 0) (ht : (t : Int) < M (198 + (e : Int))) (ho : offM M e t = false) : AM (tkM M e t) := by
  have hM0 := w.1
  have oe := (w.2.2.2.2.1 e he).1
  obtain ⟨a1, a2, a3⟩ := a
  have k12 : ∀ i : Nat, (i : Int) < M 4 → tkM M e t (12 + (i : Int)) = M (12 + (i : Int)) := fun i hi => tkM_n (by omega) (by omega) (by omega)
  have new : ∀ i : Nat, (i : Int) < M 4 → M (12 + (i : Int)) ≠ ((e * 10 + t : Nat) : Int) := fun i hi x => by
    obtain ⟨e', t', r1, r2, r3, r4⟩ := a2 i hi
    have oe' := (w.2.2.2.2.1 e' r2).1
    rw [r1] at x
    have : e' = e ∧ t' = t := by omega
    rw [this.1, this.2, ho] at r4
    cases r4
  refine ⟨by rw [tkM_4]; omega, fun i hi => ?_, fun i j hi hj hij => ?_⟩
  · rw [tkM_4] at hi
    by_cases c : (i : Int) = M 4
    · refine ⟨e, t, by rw [c]; exact tkM_a a1.1, by rw [tkM_n (by omega) (by omega) (by omega)]; exact he, by rw [tkM_n (by omega) (by omega) (by omega)]; exact ht, ?_⟩
      rw [tk_off w a1 (by omega), decide_eq_true (rfl : e = e), decide_eq_true (rfl : t = t), Bool.and_self, Bool.or_true]
    · obtain ⟨e', t', r1, r2, r3, r4⟩ := a2 i (by omega)
      refine ⟨e', t', by rw [k12 i (by omega)]; exact r1, by rw [tkM_n (by omega) (by omega) (by omega)]; exact r2, by rw [tkM_n (by omega) (by omega) (by omega)]; exact r3, ?_⟩
      rw [tk_off w a1 (by omega), r4, Bool.true_or]
  · rw [tkM_4] at hi hj
    by_cases c : (i : Int) = M 4
    · rw [c, tkM_a a1.1, k12 j (by omega)]
      exact fun x => new j (by omega) x.symm
    · by_cases c' : (j : Int) = M 4
      · rw [c', tkM_a a1.1, k12 i (by omega)]
        exact new i (by omega)
      · rw [k12 i (by omega), k12 j (by omega)]
        exact a3 i j (by omega) (by omega) hij
theorem s_takes {S : St} (g : GI S) {a b : Int} (ha : inI a) (hb : inI b) : ∃ (r : Int) (S1 S2 : St), mX11_takes S a b = some (r, S1) ∧ mX12_takes S1 a b = some (r, S2) ∧ inI r ∧ KA S S1 ∧ KA S S2 ∧ GI S2 ∧ (S2 = S ∨ (S2 0 16 = S 0 16 + 1 ∧ S2 73 1 = 0)) ∧ S2 0 15 = S2 84 4 ∧ same6 (S 84) (S2 84) := by
  have gg := g
  obtain ⟨cor, st, ce, ⟨d, dp⟩, ⟨hm, hh⟩, ⟨am, as, m3⟩, nk, l1, l2, l3, dl⟩ := g
  have w := cor.wf
  have hM0 := w.1
  have a1 := am.1
  have tm := e_termed cor ha hb
  have it := e_isTerm cor rfl ha hb
  by_cases x : isT (S 84) a b
  · rw [if_pos x] at tm it
    obtain ⟨e, rfl⟩ : ∃ e : Nat, a = (e : Int) := ⟨a.toNat, by omega⟩
    obtain ⟨t, rfl⟩ : ∃ e : Nat, b = (e : Int) := ⟨b.toNat, by omega⟩
    have oe := (w.2.2.2.2.1 e x.1.2).1
    have io := e_isOff2 w cor.gm (e := e) (t := t) (by omega) (by omega)
    have iF := e_isOff (S := S) (e := e) (t := t) w (by omega) (by omega)
    have no : mX11_takes S (e : Int) (t : Int) = some (-5, S) → mX12_takes S (e : Int) (t : Int) = some (-5, S) → ∃ (r : Int) (S1 S2 : St), mX11_takes S (e : Int) (t : Int) = some (r, S1) ∧ mX12_takes S1 (e : Int) (t : Int) = some (r, S2) ∧ inI r ∧ KA S S1 ∧ KA S S2 ∧ GI S2 ∧ (S2 = S ∨ (S2 0 16 = S 0 16 + 1 ∧ S2 73 1 = 0)) ∧ S2 0 15 = S2 84 4 ∧ same6 (S 84) (S2 84) := fun y z => ⟨-5, S, S, y, z, by omega, kept.rf, kept.rf, gg, Or.inl rfl, as.1, fun _ _ => rfl⟩
    cases ho : offM (S 84) e t with
    | true =>
      rw [ho, if_pos (show true = true from rfl)] at io iF
      refine no ?_ ?_
      · unfold mX11_takes
        rw [bd1_e tm, gd_t (by decide), if_neg (by decide), bd1_e io, gd_t (by decide), if_neg (by decide)]
      · unfold mX12_takes
        rw [bd1_e it, gd_t (by decide), if_neg (by decide), bd1_e iF, gd_t (by decide), if_neg (by decide)]
    | false =>
      rw [ho, if_neg (by decide)] at io iF
      by_cases c4 : S 84 4 = 10
      · refine no ?_ ?_
        · unfold mX11_takes
          rw [bd1_e tm, gd_t (by decide), if_neg (by decide), bd1_e io, gd_t (by decide), if_pos rfl, as.1, gd_t (by omega), if_neg (by omega)]
        · unfold mX12_takes
          rw [bd1_e it, gd_t (by decide), if_neg (by decide), bd1_e iF, gd_t (by decide), if_pos rfl, gd_t (by omega), if_pos c4]
      · clear no
        have e6 : e < 6 := by omega
        have t10 : t < 10 := by omega
        have vb := w.2.2.2.2.2 e e6
        obtain ⟨v, hv⟩ : ∃ v : Nat, S 84 (6 + (e : Int)) = (v : Int) := ⟨(S 84 (6 + (e : Int))).toNat, by omega⟩
        have s10 : S 10 (e : Int) = (v : Int) := by rw [cor.gm.2.2.2.2.1 e e6]; exact hv
        have tb0 : v.testBit t = false := by rw [off_bit e6, hv] at ho; exact ho
        have ob : offS (S 84) e t (6 + (e : Int)) = ((v ||| 2 ^ t : Nat) : Int) := by rw [offS_at, hv]; rfl
        have vl : v ||| 2 ^ t < 2 ^ 10 := Nat.or_lt_two_pow (by omega) (p1024 t10)
        have sm := tk_same (M := S 84) (e := e) (t := t) a1 e6
        have wN := tk_wf (t := t) w a1 e6 t10
        have gm := cor.gm
        obtain ⟨S6, hS6⟩ : ∃ S6 : St, S6 = up (up (up S 82 (S 84 4) ((e * 10 + t : Nat) : Int)) 0 15 (S 84 4 + 1)) 10 (e : Int) ((v ||| 2 ^ t : Nat) : Int) := ⟨_, rfl⟩
        have b2 : kept [10, 82] [(0, 15)] S S6 := by rw [hS6]; exact ((kept.rf.upA (by decide)).upF (by decide)).upA (by decide)
        have o6 : ∀ i, i ≠ 0 → i ≠ 10 → i ≠ 82 → S6 i = S i := fun i a b c => by rw [hS6, up_n b, up_n a, up_n c]
        have b3 : GM S6 (tkM (S 84) e t) := by
          refine GM6 sm ce gm (fun i x y => o6 i (by omega) (by omega) (by omega)) (fun y hy => ?_) (fun y p q => ?_)
          · rw [hS6, up_if]
            by_cases c : y = e
            · subst c; rw [if_pos rfl, tkM_e a1.1 e6, ob]
            · rw [if_neg (by omega), tkM_n (by omega) (by omega) (by omega)]; exact gm.2.2.2.2.1 y hy
          · rw [hS6, up_nk (by omega)]; exact gm.2.2.2.2.2 y p q
        have b4 : AS S6 (tkM (S 84) e t) := by
          refine ⟨by rw [hS6, up_n (show 0 ≠ 10 by decide), up_eq, tkM_4], fun i hi => ?_⟩
          rw [tkM_4] at hi
          rw [hS6, up_n (show 82 ≠ 10 by decide), up_n (show 82 ≠ 0 by decide), up_if]
          by_cases c : (i : Int) = S 84 4
          · rw [if_pos c, c, tkM_a a1.1]
          · rw [if_neg c, tkM_n (by omega) (by omega) (by omega)]; exact as.2 i (by omega)
        obtain ⟨E, TE, KE, rO, rT, rK, stp, w', o, ti⟩ := cor
        have nbs := CorM.nbs ⟨E, TE, KE, rO, rT, rK, stp, w', o, ti⟩ st
        have nbs6 : NBs S6 := by
          unfold NBs nbG nb rz tb at nbs ⊢
          rw [o6 34 (by decide) (by decide) (by decide), o6 35 (by decide) (by decide) (by decide), o6 36 (by decide) (by decide) (by decide), o6 37 (by decide) (by decide) (by decide), o6 38 (by decide) (by decide) (by decide), o6 39 (by decide) (by decide) (by decide), o6 41 (by decide) (by decide) (by decide), o6 42 (by decide) (by decide) (by decide), o6 43 (by decide) (by decide) (by decide), o6 44 (by decide) (by decide) (by decide), o6 45 (by decide) (by decide) (by decide), o6 46 (by decide) (by decide) (by decide)]
          exact nbs
        have oa6 : OA S6 (tkM (S 84) e t) rO rT rK stp := by
          have := OA6 sm ti.1.2.2
          unfold OA at this ⊢
          rw [o6 2 (by decide) (by decide) (by decide), o6 11 (by decide) (by decide) (by decide)]; exact this
        obtain ⟨S1, s1, s2, ⟨s3, s4, s5⟩, s6, s7, s8, s9, s10'⟩ := w_settle wN (Ord6 sm w o) b3 oa6 nbs6
        have k1 : KA S S1 := kept.trans (kept.mono b2 (by decide) (by decide)) (kept.mono s2 (by decide) (by decide))
        have e84 : S1 84 = S 84 := (s2.cell 84 (by decide) (by decide)).trans (o6 84 (by decide) (by decide) (by decide))
        obtain ⟨S2, hS2⟩ : ∃ S2 : St, S2 = up (up (up (up S1 84 (6 + (e : Int)) ((v ||| 2 ^ t : Nat) : Int)) 84 (12 + S 84 4) ((e * 10 + t : Nat) : Int)) 84 4 (S 84 4 + 1)) 83 45 0 := ⟨_, rfl⟩
        have k12 : ∀ i, i ≠ 83 → i ≠ 84 → S2 i = S1 i := fun i a b => by rw [hS2, up_n a, up_n b, up_n b, up_n b]
        have f2 : S2 84 = tkM (S 84) e t := by
          rw [hS2, up_n (show 84 ≠ 83 by decide)]
          funext k
          rw [up_if, up_if, up_if, e84]
          unfold tkM
          by_cases c1 : k = 4
          · rw [if_pos c1, if_pos c1]
          · rw [if_neg c1, if_neg c1]
            by_cases c2 : k = 12 + S 84 4
            · rw [if_pos c2, if_pos c2]
            · rw [if_neg c2, if_neg c2]
              by_cases c3 : k = 6 + (e : Int)
              · rw [if_pos c3, c3, ob]
              · rw [if_neg c3, offS_ne c3]
        have as1 : AS S1 (tkM (S 84) e t) := by
          refine ⟨by rw [s2 0 15 (by decide) (by decide)]; exact b4.1, fun i hi => ?_⟩
          rw [s2.cell 82 (by decide) (by decide)]; exact b4.2 i hi
        have m3N : 0 ≤ tkM (S 84) e t 3 ∧ tkM (S 84) e t 3 ≤ 25 := by rw [sm 3 (by omega)]; exact m3
        have gi2 : GI S2 := settled s6 s7 ⟨s4, s5⟩ s8 s9 (CE6 sm ce) (DP6 sm w dp) (HM6 sm w hh) (tk_am w am (by omega) x.1.2 x.2.2 ho) as1 m3N (nk.of (fun i a b => (s2.cell i (by simp; omega) (by simp; omega)).trans (o6 i (by omega) (by omega) (by omega)))) f2 k12 (by rw [hS2]; rfl)
        obtain ⟨r, r1, r2, r3, r4⟩ := bc_all (v := v ||| 2 ^ t) vl
        have t8 : S1 8 (e : Int) = S 84 (198 + (e : Int)) := by
          rw [s2.cell 8 (by decide) (by decide), b3.2.2.1 e (by omega), sm _ (by omega)]
        have t10' : S1 10 (e : Int) = ((v ||| 2 ^ t : Nat) : Int) := by
          rw [s2.cell 10 (by decide) (by decide), hS6, up_eq]
        refine ⟨S 84 (198 + (e : Int)) - r, S1, S2, ?_, ?_, by omega, k1, ?_, gi2, Or.inr ⟨?_, ?_⟩, ?_, by rw [f2]; exact sm⟩
        · unfold mX11_takes
          rw [bd1_e tm, gd_t (by decide), if_neg (by decide), bd1_e io, gd_t (by decide), if_pos rfl, as.1, gd_t (by omega), if_pos (by omega), gd_t (by omega), nx_e, show (e : Int) * 10 + (t : Int) = ((e * 10 + t : Nat) : Int) by omega]
          rw [show (up S 82 (S 84 4) ((e * 10 + t : Nat) : Int)) 0 15 = S 0 15 from rfl, as.1, nx_e]
          have fl : mX2_flip_2 (up (up S 82 (S 84 4) ((e * 10 + t : Nat) : Int)) 0 15 (S 84 4 + 1)) (e : Int) (t : Int) = some S6 := by
            unfold mX2_flip_2
            rw [gd_t (by omega), show (up (up S 82 (S 84 4) ((e * 10 + t : Nat) : Int)) 0 15 (S 84 4 + 1)) 10 (e : Int) = S 10 (e : Int) from rfl, s10, xo_on (by omega) t10 tb0, nx_e, ← hS6]
          rw [bd1_e fl, bd1_e s1, gd_t (by omega), t10', bd1_e r1, t8]
        · unfold mX12_takes
          have it1 : mX12_isTerm S1 (e : Int) (t : Int) = some 1 := by
            have c1 : Cor S := ⟨E, TE, KE, rO, rT, rK, stp, w', o, ti⟩
            have := e_isTerm c1 (T := S1) e84 (a := (e : Int)) (b := (t : Int)) (by omega) (by omega)
            rw [if_pos x] at this
            exact this
          have iF1 : mX12_isOff S1 (e : Int) (t : Int) = some 0 := by
            have := e_isOff (S := S1) (e := e) (t := t) (by rw [e84]; exact w) (by omega) (by omega)
            rw [e84, ho, if_neg (by decide)] at this
            exact this
          rw [bd1_e it1, gd_t (by decide), if_neg (by decide), bd1_e iF1, gd_t (by decide), if_pos rfl, e84, gd_t (by omega), if_neg c4, nx_e, gd_t (by omega), offS_orr w e6 t10, ob, nx_e]
          rw [up_nk (by omega), e84, gd_t (by omega), nx_e, show (e : Int) * 10 + (t : Int) = ((e * 10 + t : Nat) : Int) by omega, up_nk (by omega), up_nk (by omega), e84, nx_e, nx_e, ← hS2, gd_t (by omega), gd_t (by omega), f2, tkM_e a1.1 e6, ob, bd1_e r2, sm _ (by omega)]
        · rw [hS2]
          exact kept.upF (kept.upA (kept.upA (kept.upA k1 (by decide)) (by decide)) (by decide)) (by decide)
        · rw [k12 0 (by decide) (by decide), s3, b2 0 16 (by decide) (by decide)]
        · rw [k12 73 (by decide) (by decide)]; exact s10'
        · rw [k12 0 (by decide) (by decide), as1.1, f2]
  · rw [if_neg x] at tm it
    refine ⟨-2, S, S, ?_, ?_, by omega, kept.rf, kept.rf, gg, Or.inl rfl, as.1, fun _ _ => rfl⟩
    · unfold mX11_takes
      rw [bd1_e tm, gd_t (by decide), if_pos rfl]
    · unfold mX12_takes
      rw [bd1_e it, gd_t (by decide), if_pos rfl]
