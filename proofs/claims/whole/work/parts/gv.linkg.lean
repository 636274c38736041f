/-! links of a grammar that was read -/
def LK (M : Int → Int) : Prop := (lkc M : Int) ≤ M 2
theorem LK.same {M M' : Int → Int} (h : LK M) (s : same6 M M') : LK M' := by
  unfold LK lkc at *
  rw [s 2 (by omega), lkE_eq (M := M) (M' := M') (fun k _ _ => s k (by omega)), lkN_eq (M := M) (M' := M') (fun k _ _ => s k (by omega)), lkS_eq (M := M) (M' := M') (fun k _ _ => s k (by omega))]
  exact h
def LKg (M : Int → Int) : Prop := IB M ∧ (lkc M : Int) ≤ M 2
theorem LKg.of {M M' : Int → Int} (h : LKg M) (k : LKr 0 M M') : LKg M' := ⟨k.1, by have := h.2; have := k.2.1; omega⟩
theorem LKg.eq {M M' : Int → Int} (h : LKg M) (k : ∀ z : Int, z = 2 ∨ z = 5 ∨ 24 ≤ z → M' z = M z) : LKg M' := by
  unfold LKg IB lkc at *
  rw [k 2 (by omega), k 5 (by omega), lkE_eq (M := M) (M' := M') (fun z _ _ => k z (by omega)), lkN_eq (M := M) (M' := M') (fun z _ _ => k z (by omega)), lkS_eq (M := M) (M' := M') (fun z _ _ => k z (by omega))]
  exact h
theorem lk_kind {T : St} (h : LKg (T 84)) : Pc (mX12_readsKind T) (fun o => o 83 10 = 0 → LKg (o 84)) := by
  unfold mX12_readsKind
  refine Pc_gd fun _ => Pc_if (fun _ => ?_) (fun _ => Pf1)
  refine Pc_bd1 fun _ _ => Pc_gd fun _ => Pc_if (fun _ => ?_) (fun _ => Pf1)
  refine Pc_bd1 fun r _ => Pc_gd fun _ => Pc_if (fun _ => Pf1) (fun hr => ?_)
  refine Pc_gd fun _ => Pc_gd fun _ => Pc_if (fun _ => ?_) (fun _ => Pf1)
  refine Pc_bd1 fun S h1 => Pc_bd1 fun S2 h2 => Pc_gd fun _ => Pc_if (fun _ => ?_) (fun w => Pc_some fun z => absurd z w)
  have e : S2 84 = T 84 := (Pnd S2 h2).trans (Pn S h1).1
  refine Pc_bd1 fun S3 h3 => Pc_some fun z => ?_
  unfold mX12_readsExpr at h3
  have k : Pc (bd2 (RX12_readsExpr 40 0 r 0 0 S2) fun _ S1 => some S1) (fun o => o 83 10 = 0 → LKr 0 (T 84) (o 84)) := Pc_bd2 fun o ho => Pc_some fun z => by
    have := (lk_RX 40).2.2 r 0 S2 (by rw [e]; exact h.1) (by omega) o ho z
    rw [e] at this
    exact this
  exact h.of (k S3 h3 z)
/-! the head writes little -/
theorem fh_name (S0 : St) : Fr [87, 88] [(83, 4), (83, 5), (83, 6), (83, 7), (83, 8), (83, 9), (83, 10), (84, 0), (84, 1)] (fun o : St => o) S0 (mX12_readsName S0) := by
  unfold mX12_readsName
  have hS : kept [87, 88] [(83, 4), (83, 5), (83, 6), (83, 7), (83, 8), (83, 9), (83, 10), (84, 0), (84, 1)] S0 S0 := kept.rf
  repeat' first
    | with_reducible exact Fr_none
    | (with_reducible refine Fr_some ?_; assumption)
    | with_reducible refine Fr_gd ?_
    | with_reducible refine Fr_if ?_ ?_
    | with_reducible refine Fr_nxS (kept.upF (by assumption) (by decide)) (fun _ _ => ?_)
    | with_reducible refine Fr_nxS (kept.upA (by assumption) (by decide)) (fun _ _ => ?_)
    | with_reducible refine Fr_nxI (fun _ => ?_)
    | with_reducible refine Fr_bdS1 ?_ (fun _ _ => ?_)
    | with_reducible refine Fr_bdI1 (fun _ => ?_)
    | with_reducible refine Fr_bdS2 ?_ (fun _ _ _ => ?_)
    | with_reducible refine Fr_bdI2 (fun _ _ => ?_)
    | with_reducible exact (fr_mX12_faults _ _).to (by assumption) (by decide) (by decide)
    | with_reducible exact (fr_mX12_next _).to (by assumption) (by decide) (by decide)
    | with_reducible exact (fr_mX12_readsName_92 _ _ _ _).to (by assumption) (by decide) (by decide)
theorem fh_72 : ∀ (f : Nat) (v1 : Int) (v2 : St), Fr [87, 88] [(83, 4), (83, 5), (83, 6), (83, 7), (83, 8), (83, 9), (83, 10), (84, 0), (84, 1)] (fun o : St => o) v2 (mX12_readsHead_72 f v1 v2) := by
  intro f
  induction f with
  | zero => intros; rw [mX12_readsHead_72]; exact Fr_none
  | succ f ih =>
    intro v1 v2
    rw [mX12_readsHead_72]
    have hS : kept [87, 88] [(83, 4), (83, 5), (83, 6), (83, 7), (83, 8), (83, 9), (83, 10), (84, 0), (84, 1)] v2 v2 := kept.rf
    repeat' first
      | with_reducible exact Fr_none
      | (with_reducible refine Fr_some ?_; assumption)
      | with_reducible refine Fr_gd ?_
      | with_reducible refine Fr_if ?_ ?_
      | with_reducible refine Fr_nxS (kept.upF (by assumption) (by decide)) (fun _ _ => ?_)
      | with_reducible refine Fr_nxS (kept.upA (by assumption) (by decide)) (fun _ _ => ?_)
      | with_reducible refine Fr_nxI (fun _ => ?_)
      | with_reducible refine Fr_bdS1 ?_ (fun _ _ => ?_)
      | with_reducible refine Fr_bdI1 (fun _ => ?_)
      | with_reducible refine Fr_bdS2 ?_ (fun _ _ _ => ?_)
      | with_reducible refine Fr_bdI2 (fun _ _ => ?_)
      | with_reducible exact (fh_name _).to (by assumption) (by decide) (by decide)
      | with_reducible exact (ih _ _).to (by assumption) (fun _ h => h) (fun _ h => h)
theorem fh_head (S0 : St) : Fr [87, 88] [(83, 4), (83, 5), (83, 6), (83, 7), (83, 8), (83, 9), (83, 10), (84, 0), (84, 1)] (fun o : St => o) S0 (mX12_readsHead S0) := by
  unfold mX12_readsHead
  have hS : kept [87, 88] [(83, 4), (83, 5), (83, 6), (83, 7), (83, 8), (83, 9), (83, 10), (84, 0), (84, 1)] S0 S0 := kept.rf
  repeat' first
    | with_reducible exact Fr_none
    | (with_reducible refine Fr_some ?_; assumption)
    | with_reducible refine Fr_gd ?_
    | with_reducible refine Fr_if ?_ ?_
    | with_reducible refine Fr_nxS (kept.upF (by assumption) (by decide)) (fun _ _ => ?_)
    | with_reducible refine Fr_nxS (kept.upA (by assumption) (by decide)) (fun _ _ => ?_)
    | with_reducible refine Fr_nxI (fun _ => ?_)
    | with_reducible refine Fr_bdS1 ?_ (fun _ _ => ?_)
    | with_reducible refine Fr_bdI1 (fun _ => ?_)
    | with_reducible refine Fr_bdS2 ?_ (fun _ _ _ => ?_)
    | with_reducible refine Fr_bdI2 (fun _ _ => ?_)
    | with_reducible exact (fr_mX12_faults _ _).to (by assumption) (by decide) (by decide)
    | with_reducible exact (fr_mX12_next _).to (by assumption) (by decide) (by decide)
    | with_reducible exact (fr_mX12_needsWord _ _).to (by assumption) (by decide) (by decide)
    | with_reducible exact (fh_72 _ _ _).to (by assumption) (by decide) (by decide)
theorem lk_45 : ∀ (f : Nat) (T : St), LKg (T 84) → Pc (mX12_grammar_45 f T) (fun o => o 83 10 = 0 → LKg (o 84)) := by
  intro f
  induction f with
  | zero => intro T _; rw [mX12_grammar_45]; exact Pc_none
  | succ f ih =>
    intro T h
    rw [mX12_grammar_45]
    refine Pc_gd fun _ => Pc_if (fun _ => ?_) (fun w => Pc_some fun z => absurd z w)
    refine Pc_gd fun _ => Pc_if (fun _ => Pc_some fun _ => h) (fun _ => Pc_bd1 ?_)
    have m : Pc (gd (inI (T 84 3)) <| if (T 84 3) = 0 then (bd1 (mX12_readsHead T) fun S_70 => some (S_70)) else (bd1 (mX12_readsKind T) fun S_68 => some (S_68))) (fun o => o 83 10 = 0 → LKg (o 84)) := by
      refine Pc_gd fun _ => Pc_if (fun _ => ?_) (fun _ => ?_)
      · refine Pc_bd1 fun S hS => Pc_some fun _ => ?_
        have fr := fh_head T S hS
        refine h.eq fun z hz => fr 84 z (by decide) ?_
        intro c
        simp only [List.mem_cons, Prod.mk.injEq, List.not_mem_nil, or_false] at c
        omega
      · exact Pc_bd1 fun S hS => Pc_some fun z => lk_kind h S hS z
    refine Pc_mono m fun S hS => Pc_gd fun _ => Pc_if (fun z => ?_) (fun z => ?_)
    · refine Pc_bd1 fun S2 h2 => Pc_nx ?_
      refine ih _ ?_
      refine (hS z).eq fun k hk => ?_
      rw [up_nk (by omega), Pnd S2 h2]
    · cases f with
      | zero => rw [mX12_grammar_45]; exact Pc_none
      | succ f =>
        rw [mX12_grammar_45]
        exact Pc_gd fun _ => Pc_if (fun w => absurd w z) (fun _ => Pc_some fun w => absurd w z)
theorem lk_base {T : St} : LKg ((flS T 84 228 M0) 84) := by
  have v : ∀ k : Int, 0 ≤ k → k < 228 → (flS T 84 228 M0) 84 k = M0 k := fun k a b => by
    show (if 84 = 84 then (fun k => if 0 ≤ k ∧ k < 228 then M0 k else T 84 k) else T 84) k = _
    rw [if_pos rfl]
    exact if_pos ⟨a, b⟩
  have m1 : ∀ k : Int, (k < 96 ∨ 198 ≤ k) → M0 k = 0 := fun k hk => by unfold M0; rw [if_neg (by omega)]
  have m2 : ∀ k : Int, 96 ≤ k → k < 198 → M0 k = -1 := fun k a b => by unfold M0; rw [if_pos ⟨a, b⟩]
  have e1 : lkE ((flS T 84 228 M0) 84) = 0 := sm_zero fun i hi => by
    try dsimp only
    rw [v _ (by omega) (by omega), m1 _ (by omega)]; rfl
  have e2 : lkN ((flS T 84 228 M0) 84) = 0 := sm_zero fun i hi => by
    try dsimp only
    rw [v _ (by omega) (by omega), m2 _ (by omega) (by omega)]; exact if_neg (by decide)
  have e3 : lkS ((flS T 84 228 M0) 84) = 0 := sm_zero fun i hi => by
    try dsimp only
    rw [v _ (by omega) (by omega), m1 _ (by omega)]; exact if_neg (by decide)
  unfold LKg IB lkc
  rw [e1, e2, e3, v 2 (by decide) (by decide), v 5 (by decide) (by decide), m1 2 (by decide), m1 5 (by decide)]
  decide
theorem lk_grammar {T : St} : Pc (mX12_grammar T) (fun o => 0 ≤ o.1 → LK (o.2 84)) := by
  unfold mX12_grammar
  refine Pc_bd1 fun S3 _ => Pc_bd1 fun S7 h7 => Pc_nx (Pc_nx (Pc_bd1 fun S11 h11 => Pc_bd1 fun S13 h13 => Pc_bd1 ?_))
  rw [e_clears] at h7
  cases h7
  have b : LKg (S11 84) := by
    rw [(Pn S11 h11).1]
    exact lk_base
  have g := lk_45 FU S11 b S13 h13
  have m : Pc (gd (inI (S13 83 10)) <| if (S13 83 10) = 0 then (bd2 (mX12_wrongKind S13) fun r_40 S_41 => gd (inI r_40) <| if r_40 < 0 then (some (S_41)) else (nx (up S_41 83 10 1) fun S_44 => nx (up S_44 83 4 4) fun S_45 => bd2 (mX12_wrongKind S_45) fun r_47 S_48 => nx (up S_48 83 5 r_47) fun S_49 => some (S_49))) else (some (S13))) (fun o => o 83 10 = 0 → S13 83 10 = 0 ∧ o 84 = S13 84) := by
    refine Pc_gd fun _ => Pc_if (fun z => ?_) (fun z => Pc_some fun w => absurd w z)
    refine Pc_bd2 fun o ho => Pc_gd fun _ => ?_
    have f1 := (fr_mX12_wrongKind _ o ho).cell 84 (by decide) (by decide)
    refine Pc_if (fun _ => Pc_some fun _ => ⟨z, f1⟩) (fun _ => Pc_nx (Pc_nx (Pc_bd2 fun o2 h2 => Pc_nx (Pc_some fun _ => ⟨z, ?_⟩))))
    have f2 := (fr_mX12_wrongKind _ o2 h2).cell 84 (by decide) (by decide)
    show o2.2 84 = _
    exact f2.trans f1
  refine Pc_mono m fun S16 h16 => Pc_nx (Pc_gd fun _ => Pc_if (fun z => ?_) (fun _ => ?_))
  · obtain ⟨a, c⟩ := h16 z
    refine Pc_nx (Pc_nx (Pc_nx (Pc_some fun _ => ?_)))
    show LK (S16 84)
    rw [c]
    exact (g a).2
  · exact Pc_bd1 fun S _ => Pc_some fun w => absurd w (show ¬ (0 : Int) ≤ -4 by decide)
