/-! undo, anew, takes: all is told anew -/
theorem CorM.to {S T : St} {M : Int → Int} (h : CorM S M) (a : T 84 = M) (k : ∀ i, 2 ≤ i → i ≤ 11 → T i = S i) (l : ∀ i, 40 ≤ i → i ≤ 46 → T i = S i) : Cor T := by
  obtain ⟨E, TE, KE, rO, rT, rK, st, w, o, t⟩ := h
  refine ⟨E, TE, KE, rO, rT, rK, st, ?_⟩
  rw [a]
  refine ⟨w, o, ?_⟩
  obtain ⟨⟨t1, t2, t3⟩, t4, t5⟩ := t
  refine ⟨⟨by rw [l 40 (by omega) (by omega)]; exact t1, t2.of (fun i x y => k i x (by omega)), ?_⟩, ?_⟩
  · unfold OA at t3 ⊢
    rw [k 2 (by omega) (by omega), k 11 (by omega) (by omega)]
    exact t3
  · unfold nbG nb rz tb at t4 ⊢
    unfold tb at t5
    rw [l 41 (by omega) (by omega), l 42 (by omega) (by omega), l 43 (by omega) (by omega), l 44 (by omega) (by omega), l 45 (by omega) (by omega), l 46 (by omega) (by omega)]
    exact ⟨t4, t5⟩
theorem stuOK33.of {S T : St} {M : Int → Int} (h : stuOK33 M S) (q : ∀ i, 33 ≤ i → i ≤ 39 → T i = S i) : stuOK33 M T := by
  unfold stuOK33 c0133 cf33 nb tb at h ⊢
  rw [q 33 (by omega) (by omega), q 34 (by omega) (by omega), q 35 (by omega) (by omega), q 36 (by omega) (by omega), q 37 (by omega) (by omega), q 38 (by omega) (by omega), q 39 (by omega) (by omega)]
  exact h
/-- what hangs on the grammar, both sides -/
def GI (S : St) : Prop := Cor S ∧ stuOK33 (S 84) S ∧ CE (S 84) ∧ (∃ d, DP (S 84) d) ∧ (∃ hm, HM (S 84) hm) ∧ (AM (S 84) ∧ AS S (S 84) ∧ 0 ≤ S 84 3 ∧ S 84 3 ≤ 25) ∧ nbK S ∧ LG1 S ∧ LG2 S ∧ LG3 S ∧ DL S
/-- the class's cells that settle touches; the reference's that acts touch -/
def KA (S S' : St) : Prop := kept [10, 34, 35, 36, 37, 38, 39, 41, 42, 43, 44, 45, 46, 82, 84] [(0, 15), (0, 16), (80, 1), (33, 1), (33, 2), (40, 1), (47, 2), (47, 3), (47, 4), (73, 1), (83, 45)] S S'
theorem settled {S1 S2 : St} {M : Int → Int} {d hm : Nat → Nat} (s2 : stuOK33 M S1) (c : CorM S1 M) (f : S1 80 1 = 0 ∧ S1 47 2 = 0) (f55 : S1 47 3 = 0) (f56 : S1 47 4 = 0) (ce : CE M) (dp : DP M d) (hh : HM M hm) (am : AM M) (as : AS S1 M) (m3 : 0 ≤ M 3 ∧ M 3 ≤ 25) (nk : nbK S1) (e84 : S2 84 = M) (k : ∀ i, i ≠ 83 → i ≠ 84 → S2 i = S1 i) (z : S2 83 45 = 0) : GI S2 := by
  have w : WF M := by obtain ⟨_, _, _, _, _, _, _, w, _⟩ := c; exact w
  have hM0 := w.1
  refine ⟨c.to e84 (fun i _ _ => k i (by omega) (by omega)) (fun i _ _ => k i (by omega) (by omega)), ?_, ?_, ?_, ?_, ⟨?_, ?_, ?_⟩, nk.of (fun i _ _ => k i (by omega) (by omega)), ⟨?_, fun y => ?_⟩, ⟨?_, fun a ha y => ?_⟩, ⟨?_, fun e t he ht y => ?_⟩, Or.inl ⟨z, by rw [k 80 (by decide) (by decide)]; exact f.1⟩⟩
  · rw [e84]; exact s2.of (fun i _ _ => k i (by omega) (by omega))
  · rw [e84]; exact ce
  · rw [e84]; exact ⟨d, dp⟩
  · rw [e84]; exact ⟨hm, hh⟩
  · rw [e84]; exact am
  · rw [e84]
    unfold AS at as ⊢
    rw [k 0 (by decide) (by decide), k 82 (by decide) (by decide)]; exact as
  · rw [e84]; exact m3
  · rw [k 47 (by decide) (by decide)]; exact Or.inl f.2
  · rw [k 47 (by decide) (by decide), f.2] at y; cases y
  · rw [k 47 (by decide) (by decide), f55]; exact fgs_0
  · rw [k 47 (by decide) (by decide), f55, show (0 : Int).toNat = 0 from rfl, Nat.zero_testBit] at y; cases y
  · rw [k 47 (by decide) (by decide), f56]; exact fgs_0
  · rw [k 47 (by decide) (by decide), f56, show (0 : Int).toNat = 0 from rfl, Nat.zero_testBit] at y; cases y
theorem s_undo {S : St} (g : GI S) : ∃ (r : Int) (S1 S2 : St), mX11_undo S = some (r, S1) ∧ mX12_undo S1 = some (r, S2) ∧ inI r ∧ KA S S1 ∧ KA S S2 ∧ GI S2 ∧ (S2 = S ∨ (S2 0 16 = S 0 16 + 1 ∧ S2 73 1 = 0)) ∧ S2 0 15 = S2 84 4 ∧ same6 (S 84) (S2 84) := by
  have gg := g
  obtain ⟨cor, st, ce, ⟨d, dp⟩, ⟨hm, hh⟩, ⟨am, as, m3⟩, nk, l1, l2, l3, dl⟩ := g
  have w := cor.wf
  have g3 := cor.gm.1.2.2.1
  have a1 := am.1
  by_cases c3 : S 84 3 = 0
  · refine ⟨-2, S, S, ?_, ?_, by omega, kept.rf, kept.rf, gg, Or.inl rfl, as.1, fun _ _ => rfl⟩
    · unfold mX11_undo
      rw [g3, gd_t (by omega), if_pos c3]
    · unfold mX12_undo
      rw [gd_t (by omega), if_pos c3]
  · by_cases c4 : S 84 4 = 0
    · refine ⟨-5, S, S, ?_, ?_, by omega, kept.rf, kept.rf, gg, Or.inl rfl, as.1, fun _ _ => rfl⟩
      · unfold mX11_undo
        rw [g3, gd_t (by omega), if_neg c3, as.1, gd_t (by omega), if_pos c4]
      · unfold mX12_undo
        rw [gd_t (by omega), if_neg c3, gd_t (by omega), if_pos c4]
    · have h4 : 0 < S 84 4 := by omega
      obtain ⟨q1, q2, q3, q4, t10, e6⟩ := tb_at w am h4
      obtain ⟨S6, b1, b2, b3, b4⟩ := c_takeBack w ce am h4 cor.gm as
      have wN := tb_wf w am h4
      have sm := tb_same (M := S 84) e6
      obtain ⟨E, TE, KE, rO, rT, rK, stp, w', o, ti⟩ := cor
      have nbs := CorM.nbs ⟨E, TE, KE, rO, rT, rK, stp, w', o, ti⟩ st
      have o6 : ∀ i, i ≠ 0 → i ≠ 10 → S6 i = S i := fun i a b => b2.cell i (by simp; omega) (by simp; omega)
      have nbs6 : NBs S6 := by
        unfold NBs nbG nb rz tb at nbs ⊢
        rw [o6 34 (by decide) (by decide), o6 35 (by decide) (by decide), o6 36 (by decide) (by decide), o6 37 (by decide) (by decide), o6 38 (by decide) (by decide), o6 39 (by decide) (by decide), o6 41 (by decide) (by decide), o6 42 (by decide) (by decide), o6 43 (by decide) (by decide), o6 44 (by decide) (by decide), o6 45 (by decide) (by decide), o6 46 (by decide) (by decide)]
        exact nbs
      have oa6 : OA S6 (tbM (S 84)) rO rT rK stp := by
        have := OA6 sm ti.1.2.2
        unfold OA at this ⊢
        rw [o6 2 (by decide) (by decide), o6 11 (by decide) (by decide)]; exact this
      obtain ⟨S1, s1, s2, ⟨s3, s4, s5⟩, s6, s7, s8, s9, s10⟩ := w_settle wN (Ord6 sm w o) b3 oa6 nbs6
      have k1 : KA S S1 := kept.trans (kept.mono b2 (by decide) (by decide)) (kept.mono s2 (by decide) (by decide))
      have e84 : S1 84 = S 84 := (s2.cell 84 (by decide) (by decide)).trans (o6 84 (by decide) (by decide))
      obtain ⟨S2, f1, f2, f3, f4⟩ := f_takesBack w am h4 e84
      have k12 : ∀ i, i ≠ 83 → i ≠ 84 → S2 i = S1 i := fun i a b => f4.cell i (by simp; omega) (by simp; omega)
      have as1 : AS S1 (tbM (S 84)) := by
        refine ⟨by rw [s2 0 15 (by decide) (by decide)]; exact b4.1, fun i hi => ?_⟩
        rw [s2.cell 82 (by decide) (by decide)]; exact b4.2 i hi
      have m3N : 0 ≤ tbM (S 84) 3 ∧ tbM (S 84) 3 ≤ 25 := by rw [sm 3 (by omega)]; exact m3
      have gi2 : GI S2 := settled s6 s7 ⟨s4, s5⟩ s8 s9 (CE6 sm ce) (DP6 sm w dp) (HM6 sm w hh) (tb_am w am h4) as1 m3N (nk.of (fun i a b => (s2.cell i (by simp; omega) (by simp; omega)).trans (o6 i (by omega) (by omega)))) f2 k12 f3
      refine ⟨S 84 4 - 1, S1, S2, ?_, ?_, by omega, k1, kept.trans k1 (kept.mono f4 (by decide) (by decide)), gi2, Or.inr ⟨?_, ?_⟩, ?_, by rw [f2]; exact sm⟩
      · unfold mX11_undo
        rw [g3, gd_t (by omega), if_neg c3, as.1, gd_t (by omega), if_neg c4, bd1_e b1, bd1_e s1, as1.1, tbM_4]
      · unfold mX12_undo
        rw [e84, gd_t (by omega), if_neg c3, gd_t (by omega), if_neg c4, bd1_e f1, f2, tbM_4]
      · rw [k12 0 (by decide) (by decide), s3, b2 0 16 (by decide) (by decide)]
      · rw [k12 73 (by decide) (by decide)]; exact s10
      · rw [k12 0 (by decide) (by decide), as1.1, f2]
