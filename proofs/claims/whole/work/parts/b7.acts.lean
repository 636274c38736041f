/-! acts taken, acts taken back -/
def AM (M : Int → Int) : Prop := (0 ≤ M 4 ∧ M 4 ≤ 10) ∧ (∀ i : Nat, (i : Int) < M 4 → ∃ e t : Nat, M (12 + (i : Int)) = ((e * 10 + t : Nat) : Int) ∧ (e : Int) < M 0 ∧ (t : Int) < M (198 + (e : Int)) ∧ offM M e t = true) ∧ (∀ i j : Nat, (i : Int) < M 4 → (j : Int) < M 4 → i ≠ j → M (12 + (i : Int)) ≠ M (12 + (j : Int)))
/-- the class's acts are the reference's -/
def AS (S : St) (M : Int → Int) : Prop := S 0 15 = M 4 ∧ ∀ i : Nat, (i : Int) < M 4 → S 82 (i : Int) = M (12 + (i : Int))
def tbE (M : Int → Int) : Nat := (M (12 + (M 4 - 1))).toNat / 10
def tbT (M : Int → Int) : Nat := (M (12 + (M 4 - 1))).toNat % 10
def tbM (M : Int → Int) : Int → Int := fun k => if k = 6 + ((tbE M : Nat) : Int) then M k - ((2 ^ tbT M : Nat) : Int) else if k = 4 then M 4 - 1 else M k
theorem tbM_e {M : Int → Int} : tbM M (6 + ((tbE M : Nat) : Int)) = M (6 + ((tbE M : Nat) : Int)) - ((2 ^ tbT M : Nat) : Int) := if_pos rfl
theorem tbM_4 {M : Int → Int} : tbM M 4 = M 4 - 1 := by
  unfold tbM
  rw [if_neg (by omega), if_pos rfl]
theorem tbM_n {M : Int → Int} {k : Int} (h1 : k ≠ 6 + ((tbE M : Nat) : Int)) (h2 : k ≠ 4) : tbM M k = M k := by
  unfold tbM
  rw [if_neg h1, if_neg h2]
theorem tb_at {M : Int → Int} (w : WF M) (a : AM M) (h : 0 < M 4) : M (12 + (M 4 - 1)) = ((tbE M * 10 + tbT M : Nat) : Int) ∧ ((tbE M : Nat) : Int) < M 0 ∧ ((tbT M : Nat) : Int) < M (198 + ((tbE M : Nat) : Int)) ∧ offM M (tbE M) (tbT M) = true ∧ tbT M < 10 ∧ tbE M < 6 := by
  obtain ⟨e, t, h1, h2, h3, h4⟩ := a.2.1 (M 4 - 1).toNat (by omega)
  rw [show (((M 4 - 1).toNat : Nat) : Int) = M 4 - 1 by omega] at h1
  have oe := (w.2.2.2.2.1 e h2).1
  have hM0 := w.1
  have e1 : tbE M = e := by unfold tbE; rw [h1]; omega
  have e2 : tbT M = t := by unfold tbT; rw [h1]; omega
  rw [e1, e2]
  exact ⟨h1, h2, h3, h4, by omega, by omega⟩
theorem tb_same {M : Int → Int} (h : tbE M < 6) : same6 M (tbM M) := fun k hk => tbM_n (by omega) (by omega)
theorem tb_val {M : Int → Int} (w : WF M) (a : AM M) (h : 0 < M 4) : ∃ v : Nat, v < 1024 ∧ v.testBit (tbT M) = true ∧ M (6 + ((tbE M : Nat) : Int)) = (v : Int) ∧ tbM M (6 + ((tbE M : Nat) : Int)) = ((v ^^^ 2 ^ tbT M : Nat) : Int) ∧ v ^^^ 2 ^ tbT M < 1024 := by
  obtain ⟨-, -, -, h4, t10, e6⟩ := tb_at w a h
  have b := w.2.2.2.2.2 (tbE M) e6
  obtain ⟨v, hv⟩ : ∃ v : Nat, M (6 + ((tbE M : Nat) : Int)) = (v : Int) := ⟨(M (6 + ((tbE M : Nat) : Int))).toNat, by omega⟩
  have tv : v.testBit (tbT M) = true := by rw [off_bit e6, hv] at h4; exact h4
  obtain ⟨s1, s2⟩ := sb_ok (tbT M) t10 v (by omega) tv
  have p0 : 0 < 2 ^ tbT M := Nat.two_pow_pos _
  refine ⟨v, by omega, tv, hv, ?_, by omega⟩
  rw [tbM_e, hv, ← s2]
  omega
theorem tb_off {M : Int → Int} (w : WF M) (a : AM M) (h : 0 < M 4) {e t : Nat} (hne : e ≠ tbE M ∨ t ≠ tbT M) : offM (tbM M) e t = offM M e t := by
  obtain ⟨v, v1, v2, v3, v4, v5⟩ := tb_val w a h
  unfold offM
  by_cases c : e = tbE M
  · subst c
    rw [v3, v4]
    have : bt ((v ^^^ 2 ^ tbT M : Nat) : Int) (t : Int) = bt (v : Int) (t : Int) := by
      rw [bt_nat, bt_nat, Nat.testBit_xor, Nat.testBit_two_pow, decide_eq_false (fun z => by omega), Bool.xor_false]
    rw [this]
  · rw [tbM_n (by omega) (by omega)]
theorem tb_wf {M : Int → Int} (w : WF M) (a : AM M) (h : 0 < M 4) : WF (tbM M) := by
  obtain ⟨-, -, -, h4, t10, e6⟩ := tb_at w a h
  obtain ⟨v, v1, v2, v3, v4, v5⟩ := tb_val w a h
  refine WF6 (tb_same e6) w (fun x hx => ?_)
  by_cases c : x = tbE M
  · subst c
    rw [v4]; omega
  · rw [tbM_n (by omega) (by omega)]; exact w.2.2.2.2.2 x hx
theorem tb_am {M : Int → Int} (w : WF M) (a : AM M) (h : 0 < M 4) : AM (tbM M) := by
  obtain ⟨q1, q2, q3, h4, t10, e6⟩ := tb_at w a h
  have hM0 := w.1
  obtain ⟨a1, a2, a3⟩ := a
  have k12 : ∀ i : Nat, tbM M (12 + (i : Int)) = M (12 + (i : Int)) := fun i => tbM_n (by omega) (by omega)
  refine ⟨by rw [tbM_4]; omega, fun i hi => ?_, fun i j hi hj hij => ?_⟩
  · rw [tbM_4] at hi
    obtain ⟨e, t, r1, r2, r3, r4⟩ := a2 i (by omega)
    have oe := (w.2.2.2.2.1 e r2).1
    refine ⟨e, t, by rw [k12]; exact r1, by rw [tbM_n (by omega) (by omega)]; exact r2, by rw [tbM_n (by omega) (by omega)]; exact r3, ?_⟩
    rw [tb_off w ⟨a1, a2, a3⟩ h]
    · exact r4
    · refine Classical.byContradiction fun z => ?_
      have z1 : e = tbE M ∧ t = tbT M := by omega
      have := a3 i (M 4 - 1).toNat (by omega) (by omega) (by omega)
      rw [show (((M 4 - 1).toNat : Nat) : Int) = M 4 - 1 by omega, q1, r1, z1.1, z1.2] at this
      exact this rfl
  · rw [tbM_4] at hi hj
    rw [k12, k12]
    exact a3 i j (by omega) (by omega) hij
/-- the class takes an act back -/
theorem c_takeBack {S : St} {M : Int → Int} (w : WF M) (ce : CE M) (a : AM M) (h : 0 < M 4) (g : GM S M) (s : AS S M) : ∃ S' : St, mX11_takeBack S = some S' ∧ kept [10] [(0, 15)] S S' ∧ GM S' (tbM M) ∧ AS S' (tbM M) := by
  obtain ⟨q1, q2, q3, h4, t10, e6⟩ := tb_at w a h
  obtain ⟨v, v1, v2, v3, v4, v5⟩ := tb_val w a h
  have a1 := a.1
  have s10 : S 10 ((tbE M : Nat) : Int) = (v : Int) := by rw [g.2.2.2.2.1 _ e6]; exact v3
  have sa : S 82 (M 4 - 1) = ((tbE M * 10 + tbT M : Nat) : Int) := by
    have := s.2 (M 4 - 1).toNat (by omega)
    rw [show (((M 4 - 1).toNat : Nat) : Int) = M 4 - 1 by omega] at this
    rw [this]; exact q1
  have p := p1024 t10
  refine ⟨up (up S 0 15 (M 4 - 1)) 10 ((tbE M : Nat) : Int) ((v ^^^ 2 ^ tbT M : Nat) : Int), ?_, (kept.rf.upF (by decide)).upA (by decide), ?_, ⟨?_, fun i hi => ?_⟩⟩
  · unfold mX11_takeBack mX2_flip_2
    rw [s.1, nx_e, show (up S 0 15 (M 4 - 1)) 0 15 = M 4 - 1 from up_eq, gd_t (by omega), show (up S 0 15 (M 4 - 1)) 82 (M 4 - 1) = S 82 (M 4 - 1) from rfl, sa, gd_t (by omega), show (((tbE M * 10 + tbT M : Nat) : Int)) / 10 = ((tbE M : Nat) : Int) by omega, show (((tbE M * 10 + tbT M : Nat) : Int)) % 10 = ((tbT M : Nat) : Int) by omega, gd_t (by omega)]
    rw [show (up S 0 15 (M 4 - 1)) 10 ((tbE M : Nat) : Int) = S 10 ((tbE M : Nat) : Int) from rfl, s10, shl1 (by omega), xo_nat (by omega) (by omega), nx_e, bd1_s]
  · refine GM6 (tb_same e6) ce g (fun i x y => by rw [up_n (by omega), up_n (by omega)]) (fun x hx => ?_) (fun x y z => ?_)
    · rw [up_if]
      by_cases c : x = tbE M
      · subst c; rw [if_pos rfl, v4]
      · rw [if_neg (by omega), tbM_n (by omega) (by omega)]; exact g.2.2.2.2.1 x hx
    · rw [up_nk (by omega)]; exact g.2.2.2.2.2 x y z
  · rw [up_n (show 0 ≠ 10 by decide), up_eq, tbM_4]
  · rw [tbM_4] at hi
    rw [tbM_n (by omega) (by omega)]
    exact s.2 i (by omega)
theorem f_takesBack {T : St} {M : Int → Int} (w : WF M) (a : AM M) (h : 0 < M 4) (h84 : T 84 = M) : ∃ T' : St, mX12_takesBack T = some T' ∧ T' 84 = tbM M ∧ T' 83 45 = 0 ∧ kept [84] [(83, 45)] T T' := by
  obtain ⟨q1, q2, q3, h4, t10, e6⟩ := tb_at w a h
  obtain ⟨v, v1, v2, v3, v4, v5⟩ := tb_val w a h
  have a1 := a.1
  refine ⟨up (up (up T 84 4 (M 4 - 1)) 84 (6 + ((tbE M : Nat) : Int)) (M (6 + ((tbE M : Nat) : Int)) - ((2 ^ tbT M : Nat) : Int))) 83 45 0, ?_, ?_, rfl, ((kept.rf.upA (by decide)).upA (by decide)).upF (by decide)⟩
  · unfold mX12_takesBack
    rw [h84, nx_e, show (up T 84 4 (M 4 - 1)) 84 4 = M 4 - 1 from up_eq, gd_t (by omega), nx_e, up_nk (by omega), h84, q1, gd_t (by omega), nx_e, show (((tbE M * 10 + tbT M : Nat) : Int)) / 10 = ((tbE M : Nat) : Int) by omega, show (((tbE M * 10 + tbT M : Nat) : Int)) % 10 = ((tbT M : Nat) : Int) by omega, gd_t (by omega), up_nk (by omega), h84, shl1 (by omega), nx_e, nx_e]
  · funext k
    rw [up_n (show 84 ≠ 83 by decide), up_if, up_if, h84]
    unfold tbM
    by_cases c : k = 6 + ((tbE M : Nat) : Int)
    · rw [if_pos c, if_pos c, c]
    · rw [if_neg c, if_neg c]
