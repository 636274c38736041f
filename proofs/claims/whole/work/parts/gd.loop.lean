/-! the class's speller: a whole thing -/
theorem c_spellPart {M : Int → Int} {S : St} {w l : List Int} {o d t : Nat} {x : Nat × Nat × Nat} (nex : NEX M) (hS : SpS M S w l o d t) (hx : VN M x) (hl : l.length + qbN M x + (itm M x).length ≤ 1100) (ho : o ≤ d) (hd : d ≤ 1100) (hw : w.length < 1048576) : ∃ T, mX9_spellPart S (x.1 : Int) (x.2.1 : Int) (x.2.2 : Int) = some T ∧ SpS M T (w ++ hdS M x) ((itm M x).map cdP ++ (clE M x ++ l)) (o + qbN M x) (max d (o + qbN M x)) (t * own M x) ∧ SFr S T := by
  obtain ⟨p, n, v⟩ := x
  obtain ⟨hp, hn, hv, h2⟩ := hx
  dsimp only at hp hn hv h2 ⊢
  by_cases hs : isSq M p
  · have qb := qb_t hs
    have q1 : qbN M (p, n, v) = 1 := by unfold qbN; rw [if_pos qb]
    have hs' := hs
    unfold isSq at hs'
    have ei : itm M (p, n, v) = (sqI M p n v).map (fun y => (chM M p, y.1, y.2)) := by
      unfold itm
      rw [if_neg (by dsimp only; omega), if_neg (by dsimp only; omega)]
    have eh : hdS M (p, n, v) = [opS (M (24 + (p : Int)))] := by
      unfold hdS
      rw [if_neg (by dsimp only; omega), if_neg (by dsimp only; omega), if_neg (by dsimp only; omega)]
    have ec : clE M (p, n, v) = [-clS (M (24 + (p : Int)))] := if_pos qb
    rw [q1, ei, List.length_map] at hl
    obtain ⟨T, t1, t2, t3⟩ := c_part_sq nex hS hp hn hv h2 hs hl (by omega) hd hw
    refine ⟨T, t1, ?_, t3⟩
    rw [eh, ei, ec, q1, List.map_map]
    exact t2
  · have qb := qb_f hs
    have q0 : qbN M (p, n, v) = 0 := by unfold qbN; rw [qb]; rfl
    have ec : clE M (p, n, v) = [] := by unfold clE; rw [qb]; rfl
    rw [q0, Nat.add_zero] at hl
    obtain ⟨hX, hk, ⟨h10, h5, h6⟩, ha⟩ := hS
    have e84 := hX.1.2.1
    subst e84
    have h := hX.1.1
    have wf := h.wf
    have hM2 := wf.2.2.1
    obtain ⟨ok1, ok2, ok3, ok4, ok5, ok6⟩ := wf.2.2.2.1 p hp
    obtain ⟨g1, g2, g3, g4, g5, g6⟩ := h.gm.2.1 p hp
    have eo : own (S 84) (p, n, v) = 1 := by
      unfold isSq at hs
      unfold own
      rw [if_neg (by dsimp only; omega), if_neg (by dsimp only; omega)]
    rw [q0, ec, eo, Nat.mul_one, Nat.add_zero, Nat.max_eq_left ho, List.nil_append]
    unfold mX9_spellPart
    by_cases t0 : S 84 (24 + (p : Int)) = 0
    · have k := ok3 t0
      obtain ⟨a, ea⟩ : ∃ a : Nat, S 84 (48 + (p : Int)) = (a : Int) := ⟨(S 84 (48 + (p : Int))).toNat, by omega⟩
      have ei : itm (S 84) (p, n, v) = [] := by unfold itm; rw [if_pos (by dsimp only; omega)]
      have eh : hdS (S 84) (p, n, v) = [97 + (a : Int)] := by unfold hdS; rw [if_pos t0]; show [97 + S 84 (48 + (p : Int))] = _; rw [ea]
      obtain ⟨U, hU⟩ : ∃ U, U = up S 65 (a : Int) ((cnI (97 + (a : Int)) w : Int) + 1) := ⟨_, rfl⟩
      have kU : kept [65] [] S U := by rw [hU]; exact kept.rf.upA (by simp)
      obtain ⟨xU, fU⟩ := hX.kp (kU.wide (by simp) (by simp))
      obtain ⟨T, t1, t2, t3, ⟨t61, t62, t65, t66⟩, t60⟩ := xU.put (c := 97 + (a : Int)) (by omega) hw
      have c60 : U 60 = S 60 := kU.cell 60 (by decide) (by decide)
      refine ⟨T, ?_, ⟨by rw [eh]; exact t2, ?_, ⟨?_, ?_, ?_⟩, fun b b26 => ?_⟩, fU.trans t3⟩
      · refine entG_e ?_ (fU.trans t3).2.2.1
        rw [gd_t (by omega), nx_e, g1, gd_t (by omega), if_pos t0, nx_e, g3 (by omega), ea, gd_t (by omega), nx_e, ha a (by omega), ← hU]
        have U4 : U 4 = S 4 := kU.cell 4 (by decide) (by decide)
        rw [U4, g3 (by omega), ea]
        exact bdG1_e t1 t3.2.2.1 rfl gle_rfl
      · rw [ei]
        exact ⟨by rw [t60 12 (by decide) (by decide) (by decide), c60]; exact hk.1, fun j y hy => by rw [t66, kU.cell 66 (by decide) (by decide)]; exact hk.2 j y hy⟩
      · rw [t60 10 (by decide) (by decide) (by decide), c60]; exact h10
      · rw [t60 5 (by decide) (by decide) (by decide), c60]; exact h5
      · rw [t60 6 (by decide) (by decide) (by decide), c60]; exact h6
      · rw [t65, hU, eh, cnI_app]
        show _ = ((_ + ((if 97 + (a : Int) = 97 + (b : Int) then 1 else 0) + 0) : Nat) : Int)
        by_cases z : b = a
        · subst z
          rw [up_eq, if_pos rfl]; omega
        · rw [up_nk (by omega), ha b b26, if_neg (by omega)]; omega
    by_cases t1' : S 84 (24 + (p : Int)) = 1
    · have ei : itm (S 84) (p, n, v) = [] := by unfold itm; rw [if_pos (by dsimp only; omega)]
      have eh : hdS (S 84) (p, n, v) = [45] := by unfold hdS; rw [if_neg t0, if_pos t1']
      obtain ⟨T, t1, t2, t3, ⟨t61, t62, t65, t66⟩, t60⟩ := hX.put (c := 45) (by omega) hw
      refine ⟨T, ?_, ⟨by rw [eh]; exact t2, ?_, ⟨?_, ?_, ?_⟩, fun b b26 => ?_⟩, t3⟩
      · refine entG_e ?_ t3.2.2.1
        rw [gd_t (by omega), nx_e, g1, gd_t (by omega), if_neg t0, if_pos t1']
        exact bdG1_e t1 t3.2.2.1 rfl gle_rfl
      · rw [ei]
        exact ⟨by rw [t60 12 (by decide) (by decide) (by decide)]; exact hk.1, fun j y hy => by rw [t66]; exact hk.2 j y hy⟩
      · rw [t60 10 (by decide) (by decide) (by decide)]; exact h10
      · rw [t60 5 (by decide) (by decide) (by decide)]; exact h5
      · rw [t60 6 (by decide) (by decide) (by decide)]; exact h6
      · rw [t65, ha b b26, eh, cn_one (by omega)]
    · have ty : S 84 (24 + (p : Int)) = 2 ∨ S 84 (24 + (p : Int)) = 7 := by unfold isSq at hs; omega
      obtain ⟨lo, l0, e30, eE, ev', e200, ex, p24⟩ := nm_ok h (x := (p, n, v)) ⟨hp, hn, hv, h2⟩ ty
      dsimp only at e30 eE ev' e200 ex p24
      have ei : itm (S 84) (p, n, v) = exI (S 84) (exN (S 84) p) n v := by unfold itm; rw [if_neg (by dsimp only; omega), if_pos ty]
      have eh : hdS (S 84) (p, n, v) = dgS (S 84) (exN (S 84) p) n v := by unfold hdS; rw [if_neg t0, if_neg t1', if_pos ty]
      rw [ei] at hl ⊢
      obtain ⟨T, u1, u2, u3, u4, u5, u6⟩ := c_spellExpr hX hk l0 e30 eE hn ev' e200 hw hl
      refine ⟨T, ?_, ⟨by rw [eh]; exact u2, u3, ⟨?_, ?_, ?_⟩, fun b b26 => ?_⟩, u4⟩
      · refine entG_e ?_ u4.2.2.1
        rw [gd_t (by omega), nx_e, g1, gd_t (by omega), if_neg t0, if_neg t1']
        rcases ty with t2 | t7
        · rw [if_pos t2, bd1_e ex]
          exact bdG2_e u1 u4.2.2.1 rfl gle_rfl
        · rw [if_neg (by omega), if_neg (by omega), if_neg (by omega), if_neg (by omega), if_neg (by omega), bd1_e ex]
          exact bdG2_e u1 u4.2.2.1 rfl gle_rfl
      · rw [u6 10 (by decide) (by decide) (by decide) (by decide)]; exact h10
      · rw [u6 5 (by decide) (by decide) (by decide) (by decide)]; exact h5
      · rw [u6 6 (by decide) (by decide) (by decide) (by decide)]; exact h6
      · rw [u5, ha b b26, eh]
        unfold dgS
        split
        · rw [List.append_nil]
        · have := (ex_pk ev')
          obtain ⟨tt, ww, y1, y2, -⟩ := this
          have c10 := eE.1
          rw [cn_one (by rw [y1]; unfold cnE at y2; omega)]
/-- so many moves lead from here to there -/
def Mvs (S T : St) (m : Nat) : Prop := SFr S T ∧ ∀ (g i : Nat) (R : St), mX9_spell_97 g ((i + m : Nat) : Int) T = some R → gle T R → i + m ≤ 1000000 → mX9_spell_97 (g + m) (i : Int) S = some R
theorem Mvs.rf {S : St} : Mvs S S 0 := ⟨SFr.rf, fun _ _ _ h _ _ => h⟩
theorem gle.tr {S T U : St} (h : gle S T) (k : gle T U) : gle S U := ⟨Nat.le_trans h.1 k.1, Nat.le_trans h.2 k.2⟩
theorem Mvs.tr {S T U : St} {m k : Nat} (h : Mvs S T m) (q : Mvs T U k) : Mvs S U (m + k) := by
  refine ⟨h.1.trans q.1, fun g i R a b c => ?_⟩
  have r := q.2 g (i + m) R (by rw [Nat.add_assoc]; exact a) b (by omega)
  have r2 := h.2 (g + k) i R r (q.1.2.2.1.tr b) (by omega)
  rw [show g + (m + k) = g + k + m by omega]
  exact r2
theorem stk_pop {S : St} {a : Int} {l : List Int} (h : stk S (a :: l)) : S 60 12 = (l.length : Int) + 1 ∧ S 66 ((l.length : Nat) : Int) = a ∧ ∀ (j : Nat) x, l[j]? = some x → S 66 ((l.length - 1 - j : Nat) : Int) = x := by
  refine ⟨by rw [h.1, List.length_cons]; omega, ?_, fun j x hx => ?_⟩
  · have := h.2 0 a rfl
    rw [List.length_cons, show l.length + 1 - 1 - 0 = l.length by omega] at this
    exact this
  · have := h.2 (j + 1) x (by rw [List.getElem?_cons_succ]; exact hx)
    rw [List.length_cons, show l.length + 1 - 1 - (j + 1) = l.length - 1 - j by omega] at this
    exact this
theorem c_close {M : Int → Int} {S : St} {w l : List Int} {o d t : Nat} {c : Int} (hS : SpS M S w (-c :: l) (o + 1) d t) (hc : 1 ≤ c ∧ c ≤ 127) (hn : ∀ a : Nat, a < 26 → c ≠ 97 + (a : Int)) (hw : w.length < 1048576) (hl : l.length < 1100) : ∃ T, SpS M T (w ++ [c]) l o d t ∧ Mvs S T 1 := by
  obtain ⟨hX, hk, ⟨h10, h5, h6⟩, ha⟩ := hS
  obtain ⟨k1, k2, k3⟩ := stk_pop hk
  obtain ⟨U, hU⟩ : ∃ U, U = up (up S 60 12 ((l.length : Nat) : Int)) 60 10 (o : Int) := ⟨_, rfl⟩
  have kU : kept [] [(60, 10), (60, 12)] S U := by rw [hU]; exact (kept.rf.upF (by simp)).upF (by simp)
  obtain ⟨xU, fU⟩ := hX.kp (kU.wide (by simp) (by simp))
  have cU : ∀ i, i ≠ 60 → U i = S i := fun i a => kU.cell i (by simp) (by simp; omega)
  obtain ⟨T, t1, t2, t3, ⟨t61, t62, t65, t66⟩, t60⟩ := xU.put (c := c) (by omega) hw
  refine ⟨T, ⟨t2, ⟨?_, fun j x hx => ?_⟩, ⟨?_, ?_, ?_⟩, fun a a26 => ?_⟩, fU.trans t3, fun g i R a b e => ?_⟩
  · rw [t60 12 (by decide) (by decide) (by decide), hU, up_nk (by decide), up_eq]
  · rw [t66, cU 66 (by decide)]; exact k3 j x hx
  · rw [t60 10 (by decide) (by decide) (by decide), hU, up_eq]
  · rw [t60 5 (by decide) (by decide) (by decide), kU 60 5 (by decide) (by decide)]; exact h5
  · rw [t60 6 (by decide) (by decide) (by decide), kU 60 6 (by decide) (by decide)]; exact h6
  · rw [t65, cU 65 (by decide), ha a a26, cn_one (hn a a26)]
  · rw [mX9_spell_97, gd_t (by omega), if_neg (by omega), k1, gd_t (by omega), if_neg (by omega), nx_e, up_eq, gd_t (by omega), nx_e, up_n (by decide), show (l.length : Int) + 1 - 1 = ((l.length : Nat) : Int) by omega, k2, gd_t (by omega), if_neg (by omega), nx_e, up_nk (by decide), h10, show ((o + 1 : Nat) : Int) - 1 = (o : Int) by omega, ← hU, Int.neg_neg]
    refine bdG1_e t1 t3.2.2.1 ?_ b
    rw [show (i : Int) + 1 = ((i + 1 : Nat) : Int) by omega]
    exact a
