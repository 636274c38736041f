theorem fr_mX12_end (S0 : St) (a1 : Int) : Fr [] [(83, 3)] (fun o : Int × St => o.2) S0 (mX12_end S0 a1) := by
  unfold mX12_end
  have hS : kept [] [(83, 3)] S0 S0 := kept.rf
  repeat' first
    | with_reducible exact Fr_none
    | (with_reducible refine Fr_some ?_; assumption)
    | with_reducible refine Fr_gd ?_
    | with_reducible refine Fr_if ?_ ?_
    | with_reducible refine Fr_nxS (kept.upF (by assumption) (by decide)) (fun _ _ => ?_)
    | with_reducible refine Fr_nxS (kept.upA (by assumption) (by decide)) (fun _ _ => ?_)
    | with_reducible refine Fr_nxI (fun _ => ?_)
    | with_reducible refine Fr_bdS1 ?_ (fun _ _ => ?_)
    | with_reducible refine Fr_bdI1 (fun _ => ?_)
theorem fr_mX12_laysRows_56 (v_17 : Int) (v_7 : Int) (a1 : Int) (a2 : Int) (a3 : Int) : ∀ (f : Nat) (v1 : Int) (v2 : St), Fr [92] [] (fun o : St => o) v2 (mX12_laysRows_56 v_17 v_7 a1 a2 a3 f v1 v2) := by
  intro f
  induction f with
  | zero => intros; rw [mX12_laysRows_56]; exact Fr_none
  | succ f ih =>
    intro v1 v2
    rw [mX12_laysRows_56]
    have hS : kept [92] [] v2 v2 := kept.rf
    repeat' first
      | with_reducible exact Fr_none
      | (with_reducible refine Fr_some ?_; assumption)
      | with_reducible refine Fr_gd ?_
      | with_reducible refine Fr_if ?_ ?_
      | with_reducible refine Fr_nxS (kept.upF (by assumption) (by decide)) (fun _ _ => ?_)
      | with_reducible refine Fr_nxS (kept.upA (by assumption) (by decide)) (fun _ _ => ?_)
      | with_reducible refine Fr_nxI (fun _ => ?_)
      | with_reducible refine Fr_bdS1 ?_ (fun _ _ => ?_)
      | with_reducible refine Fr_bdI1 (fun _ => ?_)
      | with_reducible exact (ih _ _).to (by assumption) (fun _ h => h) (fun _ h => h)
theorem fr_mX12_laysRows_47 (v_7 : Int) (a1 : Int) (a2 : Int) (a3 : Int) : ∀ (f : Nat) (v1 : Int) (v2 : St), Fr [92] [] (fun o : St => o) v2 (mX12_laysRows_47 v_7 a1 a2 a3 f v1 v2) := by
  intro f
  induction f with
  | zero => intros; rw [mX12_laysRows_47]; exact Fr_none
  | succ f ih =>
    intro v1 v2
    rw [mX12_laysRows_47]
    have hS : kept [92] [] v2 v2 := kept.rf
    repeat' first
      | with_reducible exact Fr_none
      | (with_reducible refine Fr_some ?_; assumption)
      | with_reducible refine Fr_gd ?_
      | with_reducible refine Fr_if ?_ ?_
      | with_reducible refine Fr_nxS (kept.upF (by assumption) (by decide)) (fun _ _ => ?_)
      | with_reducible refine Fr_nxS (kept.upA (by assumption) (by decide)) (fun _ _ => ?_)
      | with_reducible refine Fr_nxI (fun _ => ?_)
      | with_reducible refine Fr_bdS1 ?_ (fun _ _ => ?_)
      | with_reducible refine Fr_bdI1 (fun _ => ?_)
      | with_reducible exact (fr_mX12_laysRows_56 _ _ _ _ _ _ _ _).to (by assumption) (by decide) (by decide)
      | with_reducible exact (ih _ _).to (by assumption) (fun _ h => h) (fun _ h => h)
theorem fr_mX12_laysRows_37 (a1 : Int) (a2 : Int) (a3 : Int) : ∀ (f : Nat) (v1 : Int) (v2 : St), Fr [92] [] (fun o : St => o) v2 (mX12_laysRows_37 a1 a2 a3 f v1 v2) := by
  intro f
  induction f with
  | zero => intros; rw [mX12_laysRows_37]; exact Fr_none
  | succ f ih =>
    intro v1 v2
    rw [mX12_laysRows_37]
    have hS : kept [92] [] v2 v2 := kept.rf
    repeat' first
      | with_reducible exact Fr_none
      | (with_reducible refine Fr_some ?_; assumption)
      | with_reducible refine Fr_gd ?_
      | with_reducible refine Fr_if ?_ ?_
      | with_reducible refine Fr_nxS (kept.upF (by assumption) (by decide)) (fun _ _ => ?_)
      | with_reducible refine Fr_nxS (kept.upA (by assumption) (by decide)) (fun _ _ => ?_)
      | with_reducible refine Fr_nxI (fun _ => ?_)
      | with_reducible refine Fr_bdS1 ?_ (fun _ _ => ?_)
      | with_reducible refine Fr_bdI1 (fun _ => ?_)
      | with_reducible exact (fr_mX12_laysRows_47 _ _ _ _ _ _ _).to (by assumption) (by decide) (by decide)
      | with_reducible exact (ih _ _).to (by assumption) (fun _ h => h) (fun _ h => h)
theorem fr_mX12_laysRows_3 (a1 : Int) (a2 : Int) (a3 : Int) : ∀ (f : Nat) (v1 : Int) (v2 : St), Fr [92] [] (fun o : St => o) v2 (mX12_laysRows_3 a1 a2 a3 f v1 v2) := by
  intro f
  induction f with
  | zero => intros; rw [mX12_laysRows_3]; exact Fr_none
  | succ f ih =>
    intro v1 v2
    rw [mX12_laysRows_3]
    have hS : kept [92] [] v2 v2 := kept.rf
    repeat' first
      | with_reducible exact Fr_none
      | (with_reducible refine Fr_some ?_; assumption)
      | with_reducible refine Fr_gd ?_
      | with_reducible refine Fr_if ?_ ?_
      | with_reducible refine Fr_nxS (kept.upF (by assumption) (by decide)) (fun _ _ => ?_)
      | with_reducible refine Fr_nxS (kept.upA (by assumption) (by decide)) (fun _ _ => ?_)
      | with_reducible refine Fr_nxI (fun _ => ?_)
      | with_reducible exact (ih _ _).to (by assumption) (fun _ h => h) (fun _ h => h)
theorem fr_mX12_laysRows (S0 : St) (a1 : Int) (a2 : Int) (a3 : Int) : Fr [92] [] (fun o : St => o) S0 (mX12_laysRows S0 a1 a2 a3) := by
  unfold mX12_laysRows
  have hS : kept [92] [] S0 S0 := kept.rf
  repeat' first
    | with_reducible exact Fr_none
    | (with_reducible refine Fr_some ?_; assumption)
    | with_reducible refine Fr_gd ?_
    | with_reducible refine Fr_if ?_ ?_
    | with_reducible refine Fr_nxS (kept.upF (by assumption) (by decide)) (fun _ _ => ?_)
    | with_reducible refine Fr_nxS (kept.upA (by assumption) (by decide)) (fun _ _ => ?_)
    | with_reducible refine Fr_nxI (fun _ => ?_)
    | with_reducible refine Fr_bdS1 ?_ (fun _ _ => ?_)
    | with_reducible refine Fr_bdI1 (fun _ => ?_)
    | with_reducible exact (fr_mX12_laysRows_3 _ _ _ _ _ _).to (by assumption) (by decide) (by decide)
    | with_reducible exact (fr_mX12_laysRows_37 _ _ _ _ _ _).to (by assumption) (by decide) (by decide)
theorem fr_mX12_addsBags_23 (v_11 : Int) (v_1 : Int) (a1 : Int) (a2 : Int) (a3 : Int) (a4 : Int) (a5 : Int) (a6 : Int) : ∀ (f : Nat) (v1 : Int) (v2 : St), Fr [92] [] (fun o : St => o) v2 (mX12_addsBags_23 v_11 v_1 a1 a2 a3 a4 a5 a6 f v1 v2) := by
  intro f
  induction f with
  | zero => intros; rw [mX12_addsBags_23]; exact Fr_none
  | succ f ih =>
    intro v1 v2
    rw [mX12_addsBags_23]
    have hS : kept [92] [] v2 v2 := kept.rf
    repeat' first
      | with_reducible exact Fr_none
      | (with_reducible refine Fr_some ?_; assumption)
      | with_reducible refine Fr_gd ?_
      | with_reducible refine Fr_if ?_ ?_
      | with_reducible refine Fr_nxS (kept.upF (by assumption) (by decide)) (fun _ _ => ?_)
      | with_reducible refine Fr_nxS (kept.upA (by assumption) (by decide)) (fun _ _ => ?_)
      | with_reducible refine Fr_nxI (fun _ => ?_)
      | with_reducible refine Fr_bdS1 ?_ (fun _ _ => ?_)
      | with_reducible refine Fr_bdI1 (fun _ => ?_)
      | with_reducible exact (ih _ _).to (by assumption) (fun _ h => h) (fun _ h => h)
theorem fr_mX12_addsBags_13 (v_1 : Int) (a1 : Int) (a2 : Int) (a3 : Int) (a4 : Int) (a5 : Int) (a6 : Int) : ∀ (f : Nat) (v1 : Int) (v2 : St), Fr [92] [] (fun o : St => o) v2 (mX12_addsBags_13 v_1 a1 a2 a3 a4 a5 a6 f v1 v2) := by
  intro f
  induction f with
  | zero => intros; rw [mX12_addsBags_13]; exact Fr_none
  | succ f ih =>
    intro v1 v2
    rw [mX12_addsBags_13]
    have hS : kept [92] [] v2 v2 := kept.rf
    repeat' first
      | with_reducible exact Fr_none
      | (with_reducible refine Fr_some ?_; assumption)
      | with_reducible refine Fr_gd ?_
      | with_reducible refine Fr_if ?_ ?_
      | with_reducible refine Fr_nxS (kept.upF (by assumption) (by decide)) (fun _ _ => ?_)
      | with_reducible refine Fr_nxS (kept.upA (by assumption) (by decide)) (fun _ _ => ?_)
      | with_reducible refine Fr_nxI (fun _ => ?_)
      | with_reducible refine Fr_bdS1 ?_ (fun _ _ => ?_)
      | with_reducible refine Fr_bdI1 (fun _ => ?_)
      | with_reducible exact (fr_mX12_addsBags_23 _ _ _ _ _ _ _ _ _ _ _).to (by assumption) (by decide) (by decide)
      | with_reducible exact (ih _ _).to (by assumption) (fun _ h => h) (fun _ h => h)
theorem fr_mX12_addsBags_4 (a1 : Int) (a2 : Int) (a3 : Int) (a4 : Int) (a5 : Int) (a6 : Int) : ∀ (f : Nat) (v1 : Int) (v2 : St), Fr [92] [] (fun o : St => o) v2 (mX12_addsBags_4 a1 a2 a3 a4 a5 a6 f v1 v2) := by
  intro f
  induction f with
  | zero => intros; rw [mX12_addsBags_4]; exact Fr_none
  | succ f ih =>
    intro v1 v2
    rw [mX12_addsBags_4]
    have hS : kept [92] [] v2 v2 := kept.rf
    repeat' first
      | with_reducible exact Fr_none
      | (with_reducible refine Fr_some ?_; assumption)
      | with_reducible refine Fr_gd ?_
      | with_reducible refine Fr_if ?_ ?_
      | with_reducible refine Fr_nxS (kept.upF (by assumption) (by decide)) (fun _ _ => ?_)
      | with_reducible refine Fr_nxS (kept.upA (by assumption) (by decide)) (fun _ _ => ?_)
      | with_reducible refine Fr_nxI (fun _ => ?_)
      | with_reducible refine Fr_bdS1 ?_ (fun _ _ => ?_)
      | with_reducible refine Fr_bdI1 (fun _ => ?_)
      | with_reducible exact (fr_mX12_addsBags_13 _ _ _ _ _ _ _ _ _ _).to (by assumption) (by decide) (by decide)
      | with_reducible exact (ih _ _).to (by assumption) (fun _ h => h) (fun _ h => h)
theorem fr_mX12_addsBags (S0 : St) (a1 : Int) (a2 : Int) (a3 : Int) (a4 : Int) (a5 : Int) (a6 : Int) : Fr [92] [] (fun o : St => o) S0 (mX12_addsBags S0 a1 a2 a3 a4 a5 a6) := by
  unfold mX12_addsBags
  have hS : kept [92] [] S0 S0 := kept.rf
  repeat' first
    | with_reducible exact Fr_none
    | (with_reducible refine Fr_some ?_; assumption)
    | with_reducible refine Fr_gd ?_
    | with_reducible refine Fr_if ?_ ?_
    | with_reducible refine Fr_nxS (kept.upF (by assumption) (by decide)) (fun _ _ => ?_)
    | with_reducible refine Fr_nxS (kept.upA (by assumption) (by decide)) (fun _ _ => ?_)
    | with_reducible refine Fr_nxI (fun _ => ?_)
    | with_reducible refine Fr_bdS1 ?_ (fun _ _ => ?_)
    | with_reducible refine Fr_bdI1 (fun _ => ?_)
    | with_reducible exact (fr_mX12_addsBags_4 _ _ _ _ _ _ _ _ _).to (by assumption) (by decide) (by decide)
theorem fr_mX12_laysBags_46 (v_7 : Int) (a1 : Int) (a2 : Int) (a3 : Int) (a4 : Int) : ∀ (f : Nat) (v1 : Int) (v2 : St), Fr [92] [] (fun o : St => o) v2 (mX12_laysBags_46 v_7 a1 a2 a3 a4 f v1 v2) := by
  intro f
  induction f with
  | zero => intros; rw [mX12_laysBags_46]; exact Fr_none
  | succ f ih =>
    intro v1 v2
    rw [mX12_laysBags_46]
    have hS : kept [92] [] v2 v2 := kept.rf
    repeat' first
      | with_reducible exact Fr_none
      | (with_reducible refine Fr_some ?_; assumption)
      | with_reducible refine Fr_gd ?_
      | with_reducible refine Fr_if ?_ ?_
      | with_reducible refine Fr_nxS (kept.upF (by assumption) (by decide)) (fun _ _ => ?_)
      | with_reducible refine Fr_nxS (kept.upA (by assumption) (by decide)) (fun _ _ => ?_)
      | with_reducible refine Fr_nxI (fun _ => ?_)
      | with_reducible refine Fr_bdS1 ?_ (fun _ _ => ?_)
      | with_reducible refine Fr_bdI1 (fun _ => ?_)
      | with_reducible exact (fr_mX12_addsBags _ _ _ _ _ _ _).to (by assumption) (by decide) (by decide)
      | with_reducible exact (ih _ _).to (by assumption) (fun _ h => h) (fun _ h => h)
theorem fr_mX12_laysBags_37 (a1 : Int) (a2 : Int) (a3 : Int) (a4 : Int) : ∀ (f : Nat) (v1 : Int) (v2 : St), Fr [92] [] (fun o : St => o) v2 (mX12_laysBags_37 a1 a2 a3 a4 f v1 v2) := by
  intro f
  induction f with
  | zero => intros; rw [mX12_laysBags_37]; exact Fr_none
  | succ f ih =>
    intro v1 v2
    rw [mX12_laysBags_37]
    have hS : kept [92] [] v2 v2 := kept.rf
    repeat' first
      | with_reducible exact Fr_none
      | (with_reducible refine Fr_some ?_; assumption)
      | with_reducible refine Fr_gd ?_
      | with_reducible refine Fr_if ?_ ?_
      | with_reducible refine Fr_nxS (kept.upF (by assumption) (by decide)) (fun _ _ => ?_)
      | with_reducible refine Fr_nxS (kept.upA (by assumption) (by decide)) (fun _ _ => ?_)
      | with_reducible refine Fr_nxI (fun _ => ?_)
      | with_reducible refine Fr_bdS1 ?_ (fun _ _ => ?_)
      | with_reducible refine Fr_bdI1 (fun _ => ?_)
      | with_reducible exact (fr_mX12_laysBags_46 _ _ _ _ _ _ _ _).to (by assumption) (by decide) (by decide)
      | with_reducible exact (ih _ _).to (by assumption) (fun _ h => h) (fun _ h => h)
theorem fr_mX12_laysBags_3 (a1 : Int) (a2 : Int) (a3 : Int) (a4 : Int) : ∀ (f : Nat) (v1 : Int) (v2 : St), Fr [92] [] (fun o : St => o) v2 (mX12_laysBags_3 a1 a2 a3 a4 f v1 v2) := by
  intro f
  induction f with
  | zero => intros; rw [mX12_laysBags_3]; exact Fr_none
  | succ f ih =>
    intro v1 v2
    rw [mX12_laysBags_3]
    have hS : kept [92] [] v2 v2 := kept.rf
    repeat' first
      | with_reducible exact Fr_none
      | (with_reducible refine Fr_some ?_; assumption)
      | with_reducible refine Fr_gd ?_
      | with_reducible refine Fr_if ?_ ?_
      | with_reducible refine Fr_nxS (kept.upF (by assumption) (by decide)) (fun _ _ => ?_)
      | with_reducible refine Fr_nxS (kept.upA (by assumption) (by decide)) (fun _ _ => ?_)
      | with_reducible refine Fr_nxI (fun _ => ?_)
      | with_reducible exact (ih _ _).to (by assumption) (fun _ h => h) (fun _ h => h)
theorem fr_mX12_laysBags (S0 : St) (a1 : Int) (a2 : Int) (a3 : Int) (a4 : Int) : Fr [92] [] (fun o : St => o) S0 (mX12_laysBags S0 a1 a2 a3 a4) := by
  unfold mX12_laysBags
  have hS : kept [92] [] S0 S0 := kept.rf
  repeat' first
    | with_reducible exact Fr_none
    | (with_reducible refine Fr_some ?_; assumption)
    | with_reducible refine Fr_gd ?_
    | with_reducible refine Fr_if ?_ ?_
    | with_reducible refine Fr_nxS (kept.upF (by assumption) (by decide)) (fun _ _ => ?_)
    | with_reducible refine Fr_nxS (kept.upA (by assumption) (by decide)) (fun _ _ => ?_)
    | with_reducible refine Fr_nxI (fun _ => ?_)
    | with_reducible refine Fr_bdS1 ?_ (fun _ _ => ?_)
    | with_reducible refine Fr_bdI1 (fun _ => ?_)
    | with_reducible exact (fr_mX12_laysBags_3 _ _ _ _ _ _ _).to (by assumption) (by decide) (by decide)
    | with_reducible exact (fr_mX12_laysBags_37 _ _ _ _ _ _ _).to (by assumption) (by decide) (by decide)
theorem fr_mX12_clears_2  : ∀ (f : Nat) (v1 : Int) (v2 : St), Fr [84] [] (fun o : St => o) v2 (mX12_clears_2  f v1 v2) := by
  intro f
  induction f with
  | zero => intros; rw [mX12_clears_2]; exact Fr_none
  | succ f ih =>
    intro v1 v2
    rw [mX12_clears_2]
    have hS : kept [84] [] v2 v2 := kept.rf
    repeat' first
      | with_reducible exact Fr_none
      | (with_reducible refine Fr_some ?_; assumption)
      | with_reducible refine Fr_gd ?_
      | with_reducible refine Fr_if ?_ ?_
      | with_reducible refine Fr_nxS (kept.upF (by assumption) (by decide)) (fun _ _ => ?_)
      | with_reducible refine Fr_nxS (kept.upA (by assumption) (by decide)) (fun _ _ => ?_)
      | with_reducible refine Fr_nxI (fun _ => ?_)
      | with_reducible exact (ih _ _).to (by assumption) (fun _ h => h) (fun _ h => h)
theorem fr_mX12_clears (S0 : St) : Fr [84] [] (fun o : St => o) S0 (mX12_clears S0) := by
  unfold mX12_clears
  have hS : kept [84] [] S0 S0 := kept.rf
  repeat' first
    | with_reducible exact Fr_none
    | (with_reducible refine Fr_some ?_; assumption)
    | with_reducible refine Fr_gd ?_
    | with_reducible refine Fr_if ?_ ?_
    | with_reducible refine Fr_nxS (kept.upF (by assumption) (by decide)) (fun _ _ => ?_)
    | with_reducible refine Fr_nxS (kept.upA (by assumption) (by decide)) (fun _ _ => ?_)
    | with_reducible refine Fr_nxI (fun _ => ?_)
    | with_reducible refine Fr_bdS1 ?_ (fun _ _ => ?_)
    | with_reducible refine Fr_bdI1 (fun _ => ?_)
    | with_reducible exact (fr_mX12_clears_2 _ _ _).to (by assumption) (by decide) (by decide)
theorem fr_mX12_next_123  : ∀ (f : Nat) (v1 : St), Fr [] [(83, 6), (83, 9)] (fun o : St => o) v1 (mX12_next_123  f v1) := by
  intro f
  induction f with
  | zero => intros; rw [mX12_next_123]; exact Fr_none
  | succ f ih =>
    intro v1
    rw [mX12_next_123]
    have hS : kept [] [(83, 6), (83, 9)] v1 v1 := kept.rf
    repeat' first
      | with_reducible exact Fr_none
      | (with_reducible refine Fr_some ?_; assumption)
      | with_reducible refine Fr_gd ?_
      | with_reducible refine Fr_if ?_ ?_
      | with_reducible refine Fr_nxS (kept.upF (by assumption) (by decide)) (fun _ _ => ?_)
      | with_reducible refine Fr_nxS (kept.upA (by assumption) (by decide)) (fun _ _ => ?_)
      | with_reducible refine Fr_nxI (fun _ => ?_)
      | with_reducible refine Fr_bdS1 ?_ (fun _ _ => ?_)
      | with_reducible refine Fr_bdI1 (fun _ => ?_)
      | with_reducible exact (ih _).to (by assumption) (fun _ h => h) (fun _ h => h)
theorem fr_mX12_next_83  : ∀ (f : Nat) (v1 : St), Fr [] [(83, 6)] (fun o : St => o) v1 (mX12_next_83  f v1) := by
  intro f
  induction f with
  | zero => intros; rw [mX12_next_83]; exact Fr_none
  | succ f ih =>
    intro v1
    rw [mX12_next_83]
    have hS : kept [] [(83, 6)] v1 v1 := kept.rf
    repeat' first
      | with_reducible exact Fr_none
      | (with_reducible refine Fr_some ?_; assumption)
      | with_reducible refine Fr_gd ?_
      | with_reducible refine Fr_if ?_ ?_
      | with_reducible refine Fr_nxS (kept.upF (by assumption) (by decide)) (fun _ _ => ?_)
      | with_reducible refine Fr_nxS (kept.upA (by assumption) (by decide)) (fun _ _ => ?_)
      | with_reducible refine Fr_nxI (fun _ => ?_)
      | with_reducible refine Fr_bdS1 ?_ (fun _ _ => ?_)
      | with_reducible refine Fr_bdI1 (fun _ => ?_)
      | with_reducible exact (ih _).to (by assumption) (fun _ h => h) (fun _ h => h)
theorem fr_mX12_next_0  : ∀ (f : Nat) (v1 : St), Fr [] [(83, 6)] (fun o : St => o) v1 (mX12_next_0  f v1) := by
  intro f
  induction f with
  | zero => intros; rw [mX12_next_0]; exact Fr_none
  | succ f ih =>
    intro v1
    rw [mX12_next_0]
    have hS : kept [] [(83, 6)] v1 v1 := kept.rf
    repeat' first
      | with_reducible exact Fr_none
      | (with_reducible refine Fr_some ?_; assumption)
      | with_reducible refine Fr_gd ?_
      | with_reducible refine Fr_if ?_ ?_
      | with_reducible refine Fr_nxS (kept.upF (by assumption) (by decide)) (fun _ _ => ?_)
      | with_reducible refine Fr_nxS (kept.upA (by assumption) (by decide)) (fun _ _ => ?_)
      | with_reducible refine Fr_nxI (fun _ => ?_)
      | with_reducible refine Fr_bdS1 ?_ (fun _ _ => ?_)
      | with_reducible refine Fr_bdI1 (fun _ => ?_)
      | with_reducible exact (ih _).to (by assumption) (fun _ h => h) (fun _ h => h)
theorem fr_mX12_next (S0 : St) : Fr [] [(83, 6), (83, 7), (83, 8), (83, 9)] (fun o : St => o) S0 (mX12_next S0) := by
  unfold mX12_next
  have hS : kept [] [(83, 6), (83, 7), (83, 8), (83, 9)] S0 S0 := kept.rf
  repeat' first
    | with_reducible exact Fr_none
    | (with_reducible refine Fr_some ?_; assumption)
    | with_reducible refine Fr_gd ?_
    | with_reducible refine Fr_if ?_ ?_
    | with_reducible refine Fr_nxS (kept.upF (by assumption) (by decide)) (fun _ _ => ?_)
    | with_reducible refine Fr_nxS (kept.upA (by assumption) (by decide)) (fun _ _ => ?_)
    | with_reducible refine Fr_nxI (fun _ => ?_)
    | with_reducible refine Fr_bdS1 ?_ (fun _ _ => ?_)
    | with_reducible refine Fr_bdI1 (fun _ => ?_)
    | with_reducible exact (fr_mX12_next_0 _ _).to (by assumption) (by decide) (by decide)
    | with_reducible exact (fr_mX12_next_123 _ _).to (by assumption) (by decide) (by decide)
    | with_reducible exact (fr_mX12_next_83 _ _).to (by assumption) (by decide) (by decide)
theorem fr_mX12_faults (S0 : St) (a1 : Int) : Fr [] [(83, 4), (83, 5), (83, 10)] (fun o : Int × St => o.2) S0 (mX12_faults S0 a1) := by
  unfold mX12_faults
  have hS : kept [] [(83, 4), (83, 5), (83, 10)] S0 S0 := kept.rf
  repeat' first
    | with_reducible exact Fr_none
    | (with_reducible refine Fr_some ?_; assumption)
    | with_reducible refine Fr_gd ?_
    | with_reducible refine Fr_if ?_ ?_
    | with_reducible refine Fr_nxS (kept.upF (by assumption) (by decide)) (fun _ _ => ?_)
    | with_reducible refine Fr_nxS (kept.upA (by assumption) (by decide)) (fun _ _ => ?_)
    | with_reducible refine Fr_nxI (fun _ => ?_)
theorem fr_mX12_needs (S0 : St) (a1 : Int) : Fr [] [(83, 4), (83, 5), (83, 6), (83, 7), (83, 8), (83, 9), (83, 10)] (fun o : St => o) S0 (mX12_needs S0 a1) := by
  unfold mX12_needs
  have hS : kept [] [(83, 4), (83, 5), (83, 6), (83, 7), (83, 8), (83, 9), (83, 10)] S0 S0 := kept.rf
  repeat' first
    | with_reducible exact Fr_none
    | (with_reducible refine Fr_some ?_; assumption)
    | with_reducible refine Fr_gd ?_
    | with_reducible refine Fr_if ?_ ?_
    | with_reducible refine Fr_nxS (kept.upF (by assumption) (by decide)) (fun _ _ => ?_)
    | with_reducible refine Fr_nxS (kept.upA (by assumption) (by decide)) (fun _ _ => ?_)
    | with_reducible refine Fr_nxI (fun _ => ?_)
    | with_reducible refine Fr_bdS1 ?_ (fun _ _ => ?_)
    | with_reducible refine Fr_bdI1 (fun _ => ?_)
    | with_reducible refine Fr_bdS2 ?_ (fun _ _ _ => ?_)
    | with_reducible refine Fr_bdI2 (fun _ _ => ?_)
    | with_reducible exact (fr_mX12_faults _ _).to (by assumption) (by decide) (by decide)
    | with_reducible exact (fr_mX12_next _).to (by assumption) (by decide) (by decide)
theorem fr_mX12_readsAtom (S0 : St) (a1 : Int) : Fr [84] [(83, 4), (83, 5), (83, 6), (83, 7), (83, 8), (83, 9), (83, 10)] (fun o : St => o) S0 (mX12_readsAtom S0 a1) := by
  unfold mX12_readsAtom
  have hS : kept [84] [(83, 4), (83, 5), (83, 6), (83, 7), (83, 8), (83, 9), (83, 10)] S0 S0 := kept.rf
  repeat' first
    | with_reducible exact Fr_none
    | (with_reducible refine Fr_some ?_; assumption)
    | with_reducible refine Fr_gd ?_
    | with_reducible refine Fr_if ?_ ?_
    | with_reducible refine Fr_nxS (kept.upF (by assumption) (by decide)) (fun _ _ => ?_)
    | with_reducible refine Fr_nxS (kept.upA (by assumption) (by decide)) (fun _ _ => ?_)
    | with_reducible refine Fr_nxI (fun _ => ?_)
    | with_reducible refine Fr_bdS1 ?_ (fun _ _ => ?_)
    | with_reducible refine Fr_bdI1 (fun _ => ?_)
    | with_reducible refine Fr_bdS2 ?_ (fun _ _ _ => ?_)
    | with_reducible refine Fr_bdI2 (fun _ _ => ?_)
    | with_reducible exact (fr_mX12_next _).to (by assumption) (by decide) (by decide)
    | with_reducible exact (fr_mX12_faults _ _).to (by assumption) (by decide) (by decide)
theorem fr_mX12_empties_66 (v_6 : Int) : ∀ (f : Nat) (v1 : Int) (v2 : St), Fr [89] [] (fun o : St => o) v2 (mX12_empties_66 v_6 f v1 v2) := by
  intro f
  induction f with
  | zero => intros; rw [mX12_empties_66]; exact Fr_none
  | succ f ih =>
    intro v1 v2
    rw [mX12_empties_66]
    have hS : kept [89] [] v2 v2 := kept.rf
    repeat' first
      | with_reducible exact Fr_none
      | (with_reducible refine Fr_some ?_; assumption)
      | with_reducible refine Fr_gd ?_
      | with_reducible refine Fr_if ?_ ?_
      | with_reducible refine Fr_nxS (kept.upF (by assumption) (by decide)) (fun _ _ => ?_)
      | with_reducible refine Fr_nxS (kept.upA (by assumption) (by decide)) (fun _ _ => ?_)
      | with_reducible refine Fr_nxI (fun _ => ?_)
      | with_reducible refine Fr_bdS1 ?_ (fun _ _ => ?_)
      | with_reducible refine Fr_bdI1 (fun _ => ?_)
      | with_reducible exact (ih _ _).to (by assumption) (fun _ h => h) (fun _ h => h)
theorem fr_mX12_empties_37 (v_6 : Int) : ∀ (f : Nat) (v1 : Int) (v2 : St), Fr [89] [] (fun o : St => o) v2 (mX12_empties_37 v_6 f v1 v2) := by
  intro f
  induction f with
  | zero => intros; rw [mX12_empties_37]; exact Fr_none
  | succ f ih =>
    intro v1 v2
    rw [mX12_empties_37]
    have hS : kept [89] [] v2 v2 := kept.rf
    repeat' first
      | with_reducible exact Fr_none
      | (with_reducible refine Fr_some ?_; assumption)
      | with_reducible refine Fr_gd ?_
      | with_reducible refine Fr_if ?_ ?_
      | with_reducible refine Fr_nxS (kept.upF (by assumption) (by decide)) (fun _ _ => ?_)
      | with_reducible refine Fr_nxS (kept.upA (by assumption) (by decide)) (fun _ _ => ?_)
      | with_reducible refine Fr_nxI (fun _ => ?_)
      | with_reducible refine Fr_bdS1 ?_ (fun _ _ => ?_)
      | with_reducible refine Fr_bdI1 (fun _ => ?_)
      | with_reducible exact (ih _ _).to (by assumption) (fun _ h => h) (fun _ h => h)
theorem fr_mX12_empties_26  : ∀ (f : Nat) (v1 : Int) (v2 : St), Fr [89] [] (fun o : St => o) v2 (mX12_empties_26  f v1 v2) := by
  intro f
  induction f with
  | zero => intros; rw [mX12_empties_26]; exact Fr_none
  | succ f ih =>
    intro v1 v2
    rw [mX12_empties_26]
    have hS : kept [89] [] v2 v2 := kept.rf
    repeat' first
      | with_reducible exact Fr_none
      | (with_reducible refine Fr_some ?_; assumption)
      | with_reducible refine Fr_gd ?_
      | with_reducible refine Fr_if ?_ ?_
      | with_reducible refine Fr_nxS (kept.upF (by assumption) (by decide)) (fun _ _ => ?_)
      | with_reducible refine Fr_nxS (kept.upA (by assumption) (by decide)) (fun _ _ => ?_)
      | with_reducible refine Fr_nxI (fun _ => ?_)
      | with_reducible refine Fr_bdS1 ?_ (fun _ _ => ?_)
      | with_reducible refine Fr_bdI1 (fun _ => ?_)
      | with_reducible exact (fr_mX12_empties_37 _ _ _ _).to (by assumption) (by decide) (by decide)
      | with_reducible exact (fr_mX12_empties_66 _ _ _ _).to (by assumption) (by decide) (by decide)
      | with_reducible exact (ih _ _).to (by assumption) (fun _ h => h) (fun _ h => h)
theorem fr_mX12_empties_2  : ∀ (f : Nat) (v1 : Int) (v2 : St), Fr [89] [] (fun o : St => o) v2 (mX12_empties_2  f v1 v2) := by
  intro f
  induction f with
  | zero => intros; rw [mX12_empties_2]; exact Fr_none
  | succ f ih =>
    intro v1 v2
    rw [mX12_empties_2]
    have hS : kept [89] [] v2 v2 := kept.rf
    repeat' first
      | with_reducible exact Fr_none
      | (with_reducible refine Fr_some ?_; assumption)
      | with_reducible refine Fr_gd ?_
      | with_reducible refine Fr_if ?_ ?_
      | with_reducible refine Fr_nxS (kept.upF (by assumption) (by decide)) (fun _ _ => ?_)
      | with_reducible refine Fr_nxS (kept.upA (by assumption) (by decide)) (fun _ _ => ?_)
      | with_reducible refine Fr_nxI (fun _ => ?_)
      | with_reducible exact (ih _ _).to (by assumption) (fun _ h => h) (fun _ h => h)
theorem fr_mX12_empties (S0 : St) : Fr [89] [] (fun o : St => o) S0 (mX12_empties S0) := by
  unfold mX12_empties
  have hS : kept [89] [] S0 S0 := kept.rf
  repeat' first
    | with_reducible exact Fr_none
    | (with_reducible refine Fr_some ?_; assumption)
    | with_reducible refine Fr_gd ?_
    | with_reducible refine Fr_if ?_ ?_
    | with_reducible refine Fr_nxS (kept.upF (by assumption) (by decide)) (fun _ _ => ?_)
    | with_reducible refine Fr_nxS (kept.upA (by assumption) (by decide)) (fun _ _ => ?_)
    | with_reducible refine Fr_nxI (fun _ => ?_)
    | with_reducible refine Fr_bdS1 ?_ (fun _ _ => ?_)
    | with_reducible refine Fr_bdI1 (fun _ => ?_)
    | with_reducible exact (fr_mX12_empties_2 _ _ _).to (by assumption) (by decide) (by decide)
    | with_reducible exact (fr_mX12_empties_26 _ _ _).to (by assumption) (by decide) (by decide)
theorem fr_mX12_empty (S0 : St) (a1 : Int) : Fr [89] [] (fun o : Int × St => o.2) S0 (mX12_empty S0 a1) := by
  unfold mX12_empty
  have hS : kept [89] [] S0 S0 := kept.rf
  repeat' first
    | with_reducible exact Fr_none
    | (with_reducible refine Fr_some ?_; assumption)
    | with_reducible refine Fr_gd ?_
    | with_reducible refine Fr_if ?_ ?_
    | with_reducible refine Fr_nxS (kept.upF (by assumption) (by decide)) (fun _ _ => ?_)
    | with_reducible refine Fr_nxS (kept.upA (by assumption) (by decide)) (fun _ _ => ?_)
    | with_reducible refine Fr_nxI (fun _ => ?_)
    | with_reducible refine Fr_bdS1 ?_ (fun _ _ => ?_)
    | with_reducible refine Fr_bdI1 (fun _ => ?_)
    | with_reducible exact (fr_mX12_empties _).to (by assumption) (by decide) (by decide)
theorem fr_mX12_countsRest_14 (x_2 : Int) (a1 : Int) (a2 : Int) (a3 : Int) : ∀ (f : Nat) (v1 : Int) (v2 : St), Fr [91] [] (fun o : St => o) v2 (mX12_countsRest_14 x_2 a1 a2 a3 f v1 v2) := by
  intro f
  induction f with
  | zero => intros; rw [mX12_countsRest_14]; exact Fr_none
  | succ f ih =>
    intro v1 v2
    rw [mX12_countsRest_14]
    have hS : kept [91] [] v2 v2 := kept.rf
    repeat' first
      | with_reducible exact Fr_none
      | (with_reducible refine Fr_some ?_; assumption)
      | with_reducible refine Fr_gd ?_
      | with_reducible refine Fr_if ?_ ?_
      | with_reducible refine Fr_nxS (kept.upF (by assumption) (by decide)) (fun _ _ => ?_)
      | with_reducible refine Fr_nxS (kept.upA (by assumption) (by decide)) (fun _ _ => ?_)
      | with_reducible refine Fr_nxI (fun _ => ?_)
      | with_reducible refine Fr_bdS1 ?_ (fun _ _ => ?_)
      | with_reducible refine Fr_bdI1 (fun _ => ?_)
      | with_reducible exact (ih _ _).to (by assumption) (fun _ h => h) (fun _ h => h)
theorem fr_mX12_countsRest (S0 : St) (a1 : Int) (a2 : Int) (a3 : Int) : Fr [91] [] (fun o : St => o) S0 (mX12_countsRest S0 a1 a2 a3) := by
  unfold mX12_countsRest
  have hS : kept [91] [] S0 S0 := kept.rf
  repeat' first
    | with_reducible exact Fr_none
    | (with_reducible refine Fr_some ?_; assumption)
    | with_reducible refine Fr_gd ?_
    | with_reducible refine Fr_if ?_ ?_
    | with_reducible refine Fr_nxS (kept.upF (by assumption) (by decide)) (fun _ _ => ?_)
    | with_reducible refine Fr_nxS (kept.upA (by assumption) (by decide)) (fun _ _ => ?_)
    | with_reducible refine Fr_nxI (fun _ => ?_)
    | with_reducible refine Fr_bdS1 ?_ (fun _ _ => ?_)
    | with_reducible refine Fr_bdI1 (fun _ => ?_)
    | with_reducible exact (fr_mX12_countsRest_14 _ _ _ _ _ _ _).to (by assumption) (by decide) (by decide)
theorem fr_mX12_countsPart_94 (x_2 : Int) (a1 : Int) (a2 : Int) (a3 : Int) (a4 : Int) : ∀ (f : Nat) (v1 : Int) (v2 : St), Fr [90] [] (fun o : St => o) v2 (mX12_countsPart_94 x_2 a1 a2 a3 a4 f v1 v2) := by
  intro f
  induction f with
  | zero => intros; rw [mX12_countsPart_94]; exact Fr_none
  | succ f ih =>
    intro v1 v2
    rw [mX12_countsPart_94]
    have hS : kept [90] [] v2 v2 := kept.rf
    repeat' first
      | with_reducible exact Fr_none
      | (with_reducible refine Fr_some ?_; assumption)
      | with_reducible refine Fr_gd ?_
      | with_reducible refine Fr_if ?_ ?_
      | with_reducible refine Fr_nxS (kept.upF (by assumption) (by decide)) (fun _ _ => ?_)
      | with_reducible refine Fr_nxS (kept.upA (by assumption) (by decide)) (fun _ _ => ?_)
      | with_reducible refine Fr_nxI (fun _ => ?_)
      | with_reducible refine Fr_bdS1 ?_ (fun _ _ => ?_)
      | with_reducible refine Fr_bdI1 (fun _ => ?_)
      | with_reducible exact (ih _ _).to (by assumption) (fun _ h => h) (fun _ h => h)
theorem fr_mX12_countsPart (S0 : St) (a1 : Int) (a2 : Int) (a3 : Int) (a4 : Int) : Fr [90, 92] [] (fun o : St => o) S0 (mX12_countsPart S0 a1 a2 a3 a4) := by
  unfold mX12_countsPart
  have hS : kept [90, 92] [] S0 S0 := kept.rf
  repeat' first
    | with_reducible exact Fr_none
    | (with_reducible refine Fr_some ?_; assumption)
    | with_reducible refine Fr_gd ?_
    | with_reducible refine Fr_if ?_ ?_
    | with_reducible refine Fr_nxS (kept.upF (by assumption) (by decide)) (fun _ _ => ?_)
    | with_reducible refine Fr_nxS (kept.upA (by assumption) (by decide)) (fun _ _ => ?_)
    | with_reducible refine Fr_nxI (fun _ => ?_)
    | with_reducible refine Fr_bdS1 ?_ (fun _ _ => ?_)
    | with_reducible refine Fr_bdI1 (fun _ => ?_)
    | with_reducible exact (fr_mX12_laysBags _ _ _ _ _).to (by assumption) (by decide) (by decide)
    | with_reducible exact (fr_mX12_laysRows _ _ _ _).to (by assumption) (by decide) (by decide)
    | with_reducible exact (fr_mX12_countsPart_94 _ _ _ _ _ _ _ _).to (by assumption) (by decide) (by decide)
theorem fr_mX12_counts_132 (v_40 : Int) (z_31 : Int) (v_11 : Int) (a1 : Int) : ∀ (f : Nat) (v1 : Int) (v2 : Int) (v3 : St), Fr [90] [] (fun o : Int × St => o.2) v3 (mX12_counts_132 v_40 z_31 v_11 a1 f v1 v2 v3) := by
  intro f
  induction f with
  | zero => intros; rw [mX12_counts_132]; exact Fr_none
  | succ f ih =>
    intro v1 v2 v3
    rw [mX12_counts_132]
    have hS : kept [90] [] v3 v3 := kept.rf
    repeat' first
      | with_reducible exact Fr_none
      | (with_reducible refine Fr_some ?_; assumption)
      | with_reducible refine Fr_gd ?_
      | with_reducible refine Fr_if ?_ ?_
      | with_reducible refine Fr_nxS (kept.upF (by assumption) (by decide)) (fun _ _ => ?_)
      | with_reducible refine Fr_nxS (kept.upA (by assumption) (by decide)) (fun _ _ => ?_)
      | with_reducible refine Fr_nxI (fun _ => ?_)
      | with_reducible refine Fr_bdS1 ?_ (fun _ _ => ?_)
      | with_reducible refine Fr_bdI1 (fun _ => ?_)
      | with_reducible exact (ih _ _ _).to (by assumption) (fun _ h => h) (fun _ h => h)
theorem fr_mX12_counts_118 (z_31 : Int) (v_11 : Int) (a1 : Int) : ∀ (f : Nat) (v1 : Int) (v2 : Int) (v3 : St), Fr [90] [] (fun o : Int × St => o.2) v3 (mX12_counts_118 z_31 v_11 a1 f v1 v2 v3) := by
  intro f
  induction f with
  | zero => intros; rw [mX12_counts_118]; exact Fr_none
  | succ f ih =>
    intro v1 v2 v3
    rw [mX12_counts_118]
    have hS : kept [90] [] v3 v3 := kept.rf
    repeat' first
      | with_reducible exact Fr_none
      | (with_reducible refine Fr_some ?_; assumption)
      | with_reducible refine Fr_gd ?_
      | with_reducible refine Fr_if ?_ ?_
      | with_reducible refine Fr_nxS (kept.upF (by assumption) (by decide)) (fun _ _ => ?_)
      | with_reducible refine Fr_nxS (kept.upA (by assumption) (by decide)) (fun _ _ => ?_)
      | with_reducible refine Fr_nxI (fun _ => ?_)
      | with_reducible refine Fr_bdS2 ?_ (fun _ _ _ => ?_)
      | with_reducible refine Fr_bdI2 (fun _ _ => ?_)
      | with_reducible exact (fr_mX12_counts_132 _ _ _ _ _ _ _ _).to (by assumption) (by decide) (by decide)
      | with_reducible exact (ih _ _ _).to (by assumption) (fun _ h => h) (fun _ h => h)
theorem fr_mX12_counts_85 (z_31 : Int) (v_11 : Int) (a1 : Int) : ∀ (f : Nat) (v1 : Int) (v2 : St), Fr [90, 91, 92] [] (fun o : St => o) v2 (mX12_counts_85 z_31 v_11 a1 f v1 v2) := by
  intro f
  induction f with
  | zero => intros; rw [mX12_counts_85]; exact Fr_none
  | succ f ih =>
    intro v1 v2
    rw [mX12_counts_85]
    have hS : kept [90, 91, 92] [] v2 v2 := kept.rf
    repeat' first
      | with_reducible exact Fr_none
      | (with_reducible refine Fr_some ?_; assumption)
      | with_reducible refine Fr_gd ?_
      | with_reducible refine Fr_if ?_ ?_
      | with_reducible refine Fr_nxS (kept.upF (by assumption) (by decide)) (fun _ _ => ?_)
      | with_reducible refine Fr_nxS (kept.upA (by assumption) (by decide)) (fun _ _ => ?_)
      | with_reducible refine Fr_nxI (fun _ => ?_)
      | with_reducible refine Fr_bdS1 ?_ (fun _ _ => ?_)
      | with_reducible refine Fr_bdI1 (fun _ => ?_)
      | with_reducible exact (fr_mX12_countsPart _ _ _ _ _).to (by assumption) (by decide) (by decide)
      | with_reducible exact (fr_mX12_countsRest _ _ _ _).to (by assumption) (by decide) (by decide)
      | with_reducible exact (ih _ _).to (by assumption) (fun _ h => h) (fun _ h => h)
theorem fr_mX12_counts_58 (v_11 : Int) (a1 : Int) : ∀ (f : Nat) (v1 : Int) (v2 : St), Fr [90, 91, 92] [] (fun o : St => o) v2 (mX12_counts_58 v_11 a1 f v1 v2) := by
  intro f
  induction f with
  | zero => intros; rw [mX12_counts_58]; exact Fr_none
  | succ f ih =>
    intro v1 v2
    rw [mX12_counts_58]
    have hS : kept [90, 91, 92] [] v2 v2 := kept.rf
    repeat' first
      | with_reducible exact Fr_none
      | (with_reducible refine Fr_some ?_; assumption)
      | with_reducible refine Fr_gd ?_
      | with_reducible refine Fr_if ?_ ?_
      | with_reducible refine Fr_nxS (kept.upF (by assumption) (by decide)) (fun _ _ => ?_)
      | with_reducible refine Fr_nxS (kept.upA (by assumption) (by decide)) (fun _ _ => ?_)
      | with_reducible refine Fr_nxI (fun _ => ?_)
      | with_reducible refine Fr_bdS1 ?_ (fun _ _ => ?_)
      | with_reducible refine Fr_bdI1 (fun _ => ?_)
      | with_reducible refine Fr_bdS2 ?_ (fun _ _ _ => ?_)
      | with_reducible refine Fr_bdI2 (fun _ _ => ?_)
      | with_reducible exact (fr_mX12_counts_85 _ _ _ _ _ _).to (by assumption) (by decide) (by decide)
      | with_reducible exact (fr_mX12_counts_118 _ _ _ _ _ _ _).to (by assumption) (by decide) (by decide)
      | with_reducible exact (ih _ _).to (by assumption) (fun _ h => h) (fun _ h => h)
theorem fr_mX12_counts_50 (a1 : Int) : ∀ (f : Nat) (v1 : Int) (v2 : St), Fr [90, 91, 92] [] (fun o : St => o) v2 (mX12_counts_50 a1 f v1 v2) := by
  intro f
  induction f with
  | zero => intros; rw [mX12_counts_50]; exact Fr_none
  | succ f ih =>
    intro v1 v2
    rw [mX12_counts_50]
    have hS : kept [90, 91, 92] [] v2 v2 := kept.rf
    repeat' first
      | with_reducible exact Fr_none
      | (with_reducible refine Fr_some ?_; assumption)
      | with_reducible refine Fr_gd ?_
      | with_reducible refine Fr_if ?_ ?_
      | with_reducible refine Fr_nxS (kept.upF (by assumption) (by decide)) (fun _ _ => ?_)
      | with_reducible refine Fr_nxS (kept.upA (by assumption) (by decide)) (fun _ _ => ?_)
      | with_reducible refine Fr_nxI (fun _ => ?_)
      | with_reducible refine Fr_bdS1 ?_ (fun _ _ => ?_)
      | with_reducible refine Fr_bdI1 (fun _ => ?_)
      | with_reducible exact (fr_mX12_counts_58 _ _ _ _ _).to (by assumption) (by decide) (by decide)
      | with_reducible exact (ih _ _).to (by assumption) (fun _ h => h) (fun _ h => h)
theorem fr_mX12_counts_26 (a1 : Int) : ∀ (f : Nat) (v1 : Int) (v2 : St), Fr [91] [] (fun o : St => o) v2 (mX12_counts_26 a1 f v1 v2) := by
  intro f
  induction f with
  | zero => intros; rw [mX12_counts_26]; exact Fr_none
  | succ f ih =>
    intro v1 v2
    rw [mX12_counts_26]
    have hS : kept [91] [] v2 v2 := kept.rf
    repeat' first
      | with_reducible exact Fr_none
      | (with_reducible refine Fr_some ?_; assumption)
      | with_reducible refine Fr_gd ?_
      | with_reducible refine Fr_if ?_ ?_
      | with_reducible refine Fr_nxS (kept.upF (by assumption) (by decide)) (fun _ _ => ?_)
      | with_reducible refine Fr_nxS (kept.upA (by assumption) (by decide)) (fun _ _ => ?_)
      | with_reducible refine Fr_nxI (fun _ => ?_)
      | with_reducible exact (ih _ _).to (by assumption) (fun _ h => h) (fun _ h => h)
theorem fr_mX12_counts_2 (a1 : Int) : ∀ (f : Nat) (v1 : Int) (v2 : St), Fr [90] [] (fun o : St => o) v2 (mX12_counts_2 a1 f v1 v2) := by
  intro f
  induction f with
  | zero => intros; rw [mX12_counts_2]; exact Fr_none
  | succ f ih =>
    intro v1 v2
    rw [mX12_counts_2]
    have hS : kept [90] [] v2 v2 := kept.rf
    repeat' first
      | with_reducible exact Fr_none
      | (with_reducible refine Fr_some ?_; assumption)
      | with_reducible refine Fr_gd ?_
      | with_reducible refine Fr_if ?_ ?_
      | with_reducible refine Fr_nxS (kept.upF (by assumption) (by decide)) (fun _ _ => ?_)
      | with_reducible refine Fr_nxS (kept.upA (by assumption) (by decide)) (fun _ _ => ?_)
      | with_reducible refine Fr_nxI (fun _ => ?_)
      | with_reducible exact (ih _ _).to (by assumption) (fun _ h => h) (fun _ h => h)
theorem fr_mX12_counts (S0 : St) (a1 : Int) : Fr [90, 91, 92] [] (fun o : St => o) S0 (mX12_counts S0 a1) := by
  unfold mX12_counts
  have hS : kept [90, 91, 92] [] S0 S0 := kept.rf
  repeat' first
    | with_reducible exact Fr_none
    | (with_reducible refine Fr_some ?_; assumption)
    | with_reducible refine Fr_gd ?_
    | with_reducible refine Fr_if ?_ ?_
    | with_reducible refine Fr_nxS (kept.upF (by assumption) (by decide)) (fun _ _ => ?_)
    | with_reducible refine Fr_nxS (kept.upA (by assumption) (by decide)) (fun _ _ => ?_)
    | with_reducible refine Fr_nxI (fun _ => ?_)
    | with_reducible refine Fr_bdS1 ?_ (fun _ _ => ?_)
    | with_reducible refine Fr_bdI1 (fun _ => ?_)
    | with_reducible exact (fr_mX12_counts_2 _ _ _ _).to (by assumption) (by decide) (by decide)
    | with_reducible exact (fr_mX12_counts_26 _ _ _ _).to (by assumption) (by decide) (by decide)
    | with_reducible exact (fr_mX12_counts_50 _ _ _ _).to (by assumption) (by decide) (by decide)
theorem fr_mX12_blank (S0 : St) : Fr [90, 91, 92] [] (fun o : Int × St => o.2) S0 (mX12_blank S0) := by
  unfold mX12_blank
  have hS : kept [90, 91, 92] [] S0 S0 := kept.rf
  repeat' first
    | with_reducible exact Fr_none
    | (with_reducible refine Fr_some ?_; assumption)
    | with_reducible refine Fr_gd ?_
    | with_reducible refine Fr_if ?_ ?_
    | with_reducible refine Fr_nxS (kept.upF (by assumption) (by decide)) (fun _ _ => ?_)
    | with_reducible refine Fr_nxS (kept.upA (by assumption) (by decide)) (fun _ _ => ?_)
    | with_reducible refine Fr_nxI (fun _ => ?_)
    | with_reducible refine Fr_bdS1 ?_ (fun _ _ => ?_)
    | with_reducible refine Fr_bdI1 (fun _ => ?_)
    | with_reducible exact (fr_mX12_counts _ _).to (by assumption) (by decide) (by decide)
theorem fr_mX12_things (S0 : St) (a1 : Int) (a2 : Int) : Fr [90, 91, 92] [] (fun o : Int × St => o.2) S0 (mX12_things S0 a1 a2) := by
  unfold mX12_things
  have hS : kept [90, 91, 92] [] S0 S0 := kept.rf
  repeat' first
    | with_reducible exact Fr_none
    | (with_reducible refine Fr_some ?_; assumption)
    | with_reducible refine Fr_gd ?_
    | with_reducible refine Fr_if ?_ ?_
    | with_reducible refine Fr_nxS (kept.upF (by assumption) (by decide)) (fun _ _ => ?_)
    | with_reducible refine Fr_nxS (kept.upA (by assumption) (by decide)) (fun _ _ => ?_)
    | with_reducible refine Fr_nxI (fun _ => ?_)
    | with_reducible refine Fr_bdS1 ?_ (fun _ _ => ?_)
    | with_reducible refine Fr_bdI1 (fun _ => ?_)
    | with_reducible exact (fr_mX12_counts _ _).to (by assumption) (by decide) (by decide)
theorem fr_mX12_upto (S0 : St) (a1 : Int) (a2 : Int) : Fr [90, 91, 92] [] (fun o : Int × St => o.2) S0 (mX12_upto S0 a1 a2) := by
  unfold mX12_upto
  have hS : kept [90, 91, 92] [] S0 S0 := kept.rf
  repeat' first
    | with_reducible exact Fr_none
    | (with_reducible refine Fr_some ?_; assumption)
    | with_reducible refine Fr_gd ?_
    | with_reducible refine Fr_if ?_ ?_
    | with_reducible refine Fr_nxS (kept.upF (by assumption) (by decide)) (fun _ _ => ?_)
    | with_reducible refine Fr_nxS (kept.upA (by assumption) (by decide)) (fun _ _ => ?_)
    | with_reducible refine Fr_nxI (fun _ => ?_)
    | with_reducible refine Fr_bdS1 ?_ (fun _ _ => ?_)
    | with_reducible refine Fr_bdI1 (fun _ => ?_)
    | with_reducible exact (fr_mX12_counts _ _).to (by assumption) (by decide) (by decide)
theorem fr_mX12_first (S0 : St) (a1 : Int) (a2 : Int) : Fr [90, 91, 92] [] (fun o : Int × St => o.2) S0 (mX12_first S0 a1 a2) := by
  unfold mX12_first
  have hS : kept [90, 91, 92] [] S0 S0 := kept.rf
  repeat' first
    | with_reducible exact Fr_none
    | (with_reducible refine Fr_some ?_; assumption)
    | with_reducible refine Fr_gd ?_
    | with_reducible refine Fr_if ?_ ?_
    | with_reducible refine Fr_nxS (kept.upF (by assumption) (by decide)) (fun _ _ => ?_)
    | with_reducible refine Fr_nxS (kept.upA (by assumption) (by decide)) (fun _ _ => ?_)
    | with_reducible refine Fr_nxI (fun _ => ?_)
    | with_reducible refine Fr_bdS1 ?_ (fun _ _ => ?_)
    | with_reducible refine Fr_bdI1 (fun _ => ?_)
    | with_reducible refine Fr_bdS2 ?_ (fun _ _ _ => ?_)
    | with_reducible refine Fr_bdI2 (fun _ _ => ?_)
    | with_reducible exact (fr_mX12_counts _ _).to (by assumption) (by decide) (by decide)
theorem fr_mX12_least (S0 : St) (a1 : Int) : Fr [90, 91, 92] [] (fun o : Int × St => o.2) S0 (mX12_least S0 a1) := by
  unfold mX12_least
  have hS : kept [90, 91, 92] [] S0 S0 := kept.rf
  repeat' first
    | with_reducible exact Fr_none
    | (with_reducible refine Fr_some ?_; assumption)
    | with_reducible refine Fr_gd ?_
    | with_reducible refine Fr_if ?_ ?_
    | with_reducible refine Fr_nxS (kept.upF (by assumption) (by decide)) (fun _ _ => ?_)
    | with_reducible refine Fr_nxS (kept.upA (by assumption) (by decide)) (fun _ _ => ?_)
    | with_reducible refine Fr_nxI (fun _ => ?_)
    | with_reducible refine Fr_bdS2 ?_ (fun _ _ _ => ?_)
    | with_reducible refine Fr_bdI2 (fun _ _ => ?_)
    | with_reducible exact (fr_mX12_first _ _ _).to (by assumption) (by decide) (by decide)
theorem fr_mX12_marked (S0 : St) (a1 : Int) (a2 : Int) (a3 : Int) (a4 : Int) : Fr [90, 91, 92] [] (fun o : Int × St => o.2) S0 (mX12_marked S0 a1 a2 a3 a4) := by
  unfold mX12_marked
  have hS : kept [90, 91, 92] [] S0 S0 := kept.rf
  repeat' first
    | with_reducible exact Fr_none
    | (with_reducible refine Fr_some ?_; assumption)
    | with_reducible refine Fr_gd ?_
    | with_reducible refine Fr_if ?_ ?_
    | with_reducible refine Fr_nxS (kept.upF (by assumption) (by decide)) (fun _ _ => ?_)
    | with_reducible refine Fr_nxS (kept.upA (by assumption) (by decide)) (fun _ _ => ?_)
    | with_reducible refine Fr_nxI (fun _ => ?_)
    | with_reducible refine Fr_bdS1 ?_ (fun _ _ => ?_)
    | with_reducible refine Fr_bdI1 (fun _ => ?_)
    | with_reducible exact (fr_mX12_counts _ _).to (by assumption) (by decide) (by decide)
theorem fr_mX12_by (S0 : St) (a1 : Int) (a2 : Int) (a3 : Int) : Fr [90, 91, 92] [] (fun o : Int × St => o.2) S0 (mX12_by S0 a1 a2 a3) := by
  unfold mX12_by
  have hS : kept [90, 91, 92] [] S0 S0 := kept.rf
  repeat' first
    | with_reducible exact Fr_none
    | (with_reducible refine Fr_some ?_; assumption)
    | with_reducible refine Fr_gd ?_
    | with_reducible refine Fr_if ?_ ?_
    | with_reducible refine Fr_nxS (kept.upF (by assumption) (by decide)) (fun _ _ => ?_)
    | with_reducible refine Fr_nxS (kept.upA (by assumption) (by decide)) (fun _ _ => ?_)
    | with_reducible refine Fr_nxI (fun _ => ?_)
    | with_reducible refine Fr_bdS1 ?_ (fun _ _ => ?_)
    | with_reducible refine Fr_bdI1 (fun _ => ?_)
    | with_reducible exact (fr_mX12_counts _ _).to (by assumption) (by decide) (by decide)
theorem fr_mX12_manyWithout (S0 : St) (a1 : Int) (a2 : Int) (a3 : Int) (a4 : Int) : Fr [84, 90, 91, 92] [] (fun o : Int × St => o.2) S0 (mX12_manyWithout S0 a1 a2 a3 a4) := by
  unfold mX12_manyWithout
  have hS : kept [84, 90, 91, 92] [] S0 S0 := kept.rf
  repeat' first
    | with_reducible exact Fr_none
    | (with_reducible refine Fr_some ?_; assumption)
    | with_reducible refine Fr_gd ?_
    | with_reducible refine Fr_if ?_ ?_
    | with_reducible refine Fr_nxS (kept.upF (by assumption) (by decide)) (fun _ _ => ?_)
    | with_reducible refine Fr_nxS (kept.upA (by assumption) (by decide)) (fun _ _ => ?_)
    | with_reducible refine Fr_nxI (fun _ => ?_)
    | with_reducible refine Fr_bdS1 ?_ (fun _ _ => ?_)
    | with_reducible refine Fr_bdI1 (fun _ => ?_)
    | with_reducible exact (fr_mX12_counts _ _).to (by assumption) (by decide) (by decide)
theorem fr_mX12_without (S0 : St) (a1 : Int) (a2 : Int) (a3 : Int) (a4 : Int) : Fr [84, 90, 91, 92] [] (fun o : Int × St => o.2) S0 (mX12_without S0 a1 a2 a3 a4) := by
  unfold mX12_without
  have hS : kept [84, 90, 91, 92] [] S0 S0 := kept.rf
  repeat' first
    | with_reducible exact Fr_none
    | (with_reducible refine Fr_some ?_; assumption)
    | with_reducible refine Fr_gd ?_
    | with_reducible refine Fr_if ?_ ?_
    | with_reducible refine Fr_nxS (kept.upF (by assumption) (by decide)) (fun _ _ => ?_)
    | with_reducible refine Fr_nxS (kept.upA (by assumption) (by decide)) (fun _ _ => ?_)
    | with_reducible refine Fr_nxI (fun _ => ?_)
    | with_reducible refine Fr_bdS1 ?_ (fun _ _ => ?_)
    | with_reducible refine Fr_bdI1 (fun _ => ?_)
    | with_reducible refine Fr_bdS2 ?_ (fun _ _ _ => ?_)
    | with_reducible refine Fr_bdI2 (fun _ _ => ?_)
    | with_reducible exact (fr_mX12_manyWithout _ _ _ _ _).to (by assumption) (by decide) (by decide)
theorem fr_mX12_hangs_37 (a1 : Int) (a2 : Int) : ∀ (f : Nat) (v1 : Int) (v2 : Int) (v3 : Int) (v4 : St), Fr [84, 90, 91, 92] [] (fun o : Int × St => o.2) v4 (mX12_hangs_37 a1 a2 f v1 v2 v3 v4) := by
  intro f
  induction f with
  | zero => intros; rw [mX12_hangs_37]; exact Fr_none
  | succ f ih =>
    intro v1 v2 v3 v4
    rw [mX12_hangs_37]
    have hS : kept [84, 90, 91, 92] [] v4 v4 := kept.rf
    repeat' first
      | with_reducible exact Fr_none
      | (with_reducible refine Fr_some ?_; assumption)
      | with_reducible refine Fr_gd ?_
      | with_reducible refine Fr_if ?_ ?_
      | with_reducible refine Fr_nxS (kept.upF (by assumption) (by decide)) (fun _ _ => ?_)
      | with_reducible refine Fr_nxS (kept.upA (by assumption) (by decide)) (fun _ _ => ?_)
      | with_reducible refine Fr_nxI (fun _ => ?_)
      | with_reducible refine Fr_bdS1 ?_ (fun _ _ => ?_)
      | with_reducible refine Fr_bdI1 (fun _ => ?_)
      | with_reducible refine Fr_bdS2 ?_ (fun _ _ _ => ?_)
      | with_reducible refine Fr_bdI2 (fun _ _ => ?_)
      | with_reducible exact (fr_mX12_manyWithout _ _ _ _ _).to (by assumption) (by decide) (by decide)
      | with_reducible exact (ih _ _ _ _).to (by assumption) (fun _ h => h) (fun _ h => h)
theorem fr_mX12_hangs (S0 : St) (a1 : Int) (a2 : Int) : Fr [84, 90, 91, 92] [] (fun o : Int × St => o.2) S0 (mX12_hangs S0 a1 a2) := by
  unfold mX12_hangs
  have hS : kept [84, 90, 91, 92] [] S0 S0 := kept.rf
  repeat' first
    | with_reducible exact Fr_none
    | (with_reducible refine Fr_some ?_; assumption)
    | with_reducible refine Fr_gd ?_
    | with_reducible refine Fr_if ?_ ?_
    | with_reducible refine Fr_nxS (kept.upF (by assumption) (by decide)) (fun _ _ => ?_)
    | with_reducible refine Fr_nxS (kept.upA (by assumption) (by decide)) (fun _ _ => ?_)
    | with_reducible refine Fr_nxI (fun _ => ?_)
    | with_reducible refine Fr_bdS1 ?_ (fun _ _ => ?_)
    | with_reducible refine Fr_bdI1 (fun _ => ?_)
    | with_reducible refine Fr_bdS2 ?_ (fun _ _ _ => ?_)
    | with_reducible refine Fr_bdI2 (fun _ _ => ?_)
    | with_reducible exact (fr_mX12_counts _ _).to (by assumption) (by decide) (by decide)
    | with_reducible exact (fr_mX12_hangs_37 _ _ _ _ _ _ _).to (by assumption) (by decide) (by decide)
theorem fr_mX12_idle (S0 : St) : Fr [90, 91, 92] [] (fun o : Int × St => o.2) S0 (mX12_idle S0) := by
  unfold mX12_idle
  have hS : kept [90, 91, 92] [] S0 S0 := kept.rf
  repeat' first
    | with_reducible exact Fr_none
    | (with_reducible refine Fr_some ?_; assumption)
    | with_reducible refine Fr_gd ?_
    | with_reducible refine Fr_if ?_ ?_
    | with_reducible refine Fr_nxS (kept.upF (by assumption) (by decide)) (fun _ _ => ?_)
    | with_reducible refine Fr_nxS (kept.upA (by assumption) (by decide)) (fun _ _ => ?_)
    | with_reducible refine Fr_nxI (fun _ => ?_)
    | with_reducible refine Fr_bdS1 ?_ (fun _ _ => ?_)
    | with_reducible refine Fr_bdI1 (fun _ => ?_)
    | with_reducible exact (fr_mX12_counts _ _).to (by assumption) (by decide) (by decide)
theorem fr_mX12_namesRest (S0 : St) (a1 : Int) (a2 : Int) : Fr [94] [] (fun o : St => o) S0 (mX12_namesRest S0 a1 a2) := by
  unfold mX12_namesRest
  have hS : kept [94] [] S0 S0 := kept.rf
  repeat' first
    | with_reducible exact Fr_none
    | (with_reducible refine Fr_some ?_; assumption)
    | with_reducible refine Fr_gd ?_
    | with_reducible refine Fr_if ?_ ?_
    | with_reducible refine Fr_nxS (kept.upF (by assumption) (by decide)) (fun _ _ => ?_)
    | with_reducible refine Fr_nxS (kept.upA (by assumption) (by decide)) (fun _ _ => ?_)
    | with_reducible refine Fr_nxI (fun _ => ?_)
    | with_reducible refine Fr_bdS1 ?_ (fun _ _ => ?_)
    | with_reducible refine Fr_bdI1 (fun _ => ?_)
theorem fr_mX12_namedIn_48 (v_7 : Int) (a1 : Int) (a2 : Int) (a3 : Int) (a4 : Int) : ∀ (f : Nat) (v1 : Int) (v2 : St), Fr [95] [] (fun o : St => o) v2 (mX12_namedIn_48 v_7 a1 a2 a3 a4 f v1 v2) := by
  intro f
  induction f with
  | zero => intros; rw [mX12_namedIn_48]; exact Fr_none
  | succ f ih =>
    intro v1 v2
    rw [mX12_namedIn_48]
    have hS : kept [95] [] v2 v2 := kept.rf
    repeat' first
      | with_reducible exact Fr_none
      | (with_reducible refine Fr_some ?_; assumption)
      | with_reducible refine Fr_gd ?_
      | with_reducible refine Fr_if ?_ ?_
      | with_reducible refine Fr_nxS (kept.upF (by assumption) (by decide)) (fun _ _ => ?_)
      | with_reducible refine Fr_nxS (kept.upA (by assumption) (by decide)) (fun _ _ => ?_)
      | with_reducible refine Fr_nxI (fun _ => ?_)
      | with_reducible refine Fr_bdS1 ?_ (fun _ _ => ?_)
      | with_reducible refine Fr_bdI1 (fun _ => ?_)
      | with_reducible exact (ih _ _).to (by assumption) (fun _ h => h) (fun _ h => h)
theorem fr_mX12_namedIn_37 (a1 : Int) (a2 : Int) (a3 : Int) (a4 : Int) : ∀ (f : Nat) (v1 : Int) (v2 : St), Fr [95] [] (fun o : St => o) v2 (mX12_namedIn_37 a1 a2 a3 a4 f v1 v2) := by
  intro f
  induction f with
  | zero => intros; rw [mX12_namedIn_37]; exact Fr_none
  | succ f ih =>
    intro v1 v2
    rw [mX12_namedIn_37]
    have hS : kept [95] [] v2 v2 := kept.rf
    repeat' first
      | with_reducible exact Fr_none
      | (with_reducible refine Fr_some ?_; assumption)
      | with_reducible refine Fr_gd ?_
      | with_reducible refine Fr_if ?_ ?_
      | with_reducible refine Fr_nxS (kept.upF (by assumption) (by decide)) (fun _ _ => ?_)
      | with_reducible refine Fr_nxS (kept.upA (by assumption) (by decide)) (fun _ _ => ?_)
      | with_reducible refine Fr_nxI (fun _ => ?_)
      | with_reducible refine Fr_bdS1 ?_ (fun _ _ => ?_)
      | with_reducible refine Fr_bdI1 (fun _ => ?_)
      | with_reducible exact (fr_mX12_namedIn_48 _ _ _ _ _ _ _ _).to (by assumption) (by decide) (by decide)
      | with_reducible exact (ih _ _).to (by assumption) (fun _ h => h) (fun _ h => h)
theorem fr_mX12_namedIn_3 (a1 : Int) (a2 : Int) (a3 : Int) (a4 : Int) : ∀ (f : Nat) (v1 : Int) (v2 : St), Fr [95] [] (fun o : St => o) v2 (mX12_namedIn_3 a1 a2 a3 a4 f v1 v2) := by
  intro f
  induction f with
  | zero => intros; rw [mX12_namedIn_3]; exact Fr_none
  | succ f ih =>
    intro v1 v2
    rw [mX12_namedIn_3]
    have hS : kept [95] [] v2 v2 := kept.rf
    repeat' first
      | with_reducible exact Fr_none
      | (with_reducible refine Fr_some ?_; assumption)
      | with_reducible refine Fr_gd ?_
      | with_reducible refine Fr_if ?_ ?_
      | with_reducible refine Fr_nxS (kept.upF (by assumption) (by decide)) (fun _ _ => ?_)
      | with_reducible refine Fr_nxS (kept.upA (by assumption) (by decide)) (fun _ _ => ?_)
      | with_reducible refine Fr_nxI (fun _ => ?_)
      | with_reducible exact (ih _ _).to (by assumption) (fun _ h => h) (fun _ h => h)
theorem fr_mX12_namedIn (S0 : St) (a1 : Int) (a2 : Int) (a3 : Int) (a4 : Int) : Fr [95] [] (fun o : Int × St => o.2) S0 (mX12_namedIn S0 a1 a2 a3 a4) := by
  unfold mX12_namedIn
  have hS : kept [95] [] S0 S0 := kept.rf
  repeat' first
    | with_reducible exact Fr_none
    | (with_reducible refine Fr_some ?_; assumption)
    | with_reducible refine Fr_gd ?_
    | with_reducible refine Fr_if ?_ ?_
    | with_reducible refine Fr_nxS (kept.upF (by assumption) (by decide)) (fun _ _ => ?_)
    | with_reducible refine Fr_nxS (kept.upA (by assumption) (by decide)) (fun _ _ => ?_)
    | with_reducible refine Fr_nxI (fun _ => ?_)
    | with_reducible refine Fr_bdS1 ?_ (fun _ _ => ?_)
    | with_reducible refine Fr_bdI1 (fun _ => ?_)
    | with_reducible exact (fr_mX12_namedIn_3 _ _ _ _ _ _ _).to (by assumption) (by decide) (by decide)
    | with_reducible exact (fr_mX12_namedIn_37 _ _ _ _ _ _ _).to (by assumption) (by decide) (by decide)
theorem fr_mX12_namedPart (S0 : St) (a1 : Int) (a2 : Int) : Fr [95] [] (fun o : Int × St => o.2) S0 (mX12_namedPart S0 a1 a2) := by
  unfold mX12_namedPart
  have hS : kept [95] [] S0 S0 := kept.rf
  repeat' first
    | with_reducible exact Fr_none
    | (with_reducible refine Fr_some ?_; assumption)
    | with_reducible refine Fr_gd ?_
    | with_reducible refine Fr_if ?_ ?_
    | with_reducible refine Fr_nxS (kept.upF (by assumption) (by decide)) (fun _ _ => ?_)
    | with_reducible refine Fr_nxS (kept.upA (by assumption) (by decide)) (fun _ _ => ?_)
    | with_reducible refine Fr_nxI (fun _ => ?_)
    | with_reducible refine Fr_bdS1 ?_ (fun _ _ => ?_)
    | with_reducible refine Fr_bdI1 (fun _ => ?_)
    | with_reducible refine Fr_bdS2 ?_ (fun _ _ _ => ?_)
    | with_reducible refine Fr_bdI2 (fun _ _ => ?_)
    | with_reducible exact (fr_mX12_namedIn _ _ _ _ _).to (by assumption) (by decide) (by decide)
theorem fr_mX12_names_108 (v_11 : Int) : ∀ (f : Nat) (v1 : Int) (v2 : Int) (v3 : St), Fr [93] [] (fun o : Int × St => o.2) v3 (mX12_names_108 v_11 f v1 v2 v3) := by
  intro f
  induction f with
  | zero => intros; rw [mX12_names_108]; exact Fr_none
  | succ f ih =>
    intro v1 v2 v3
    rw [mX12_names_108]
    have hS : kept [93] [] v3 v3 := kept.rf
    repeat' first
      | with_reducible exact Fr_none
      | (with_reducible refine Fr_some ?_; assumption)
      | with_reducible refine Fr_gd ?_
      | with_reducible refine Fr_if ?_ ?_
      | with_reducible refine Fr_nxS (kept.upF (by assumption) (by decide)) (fun _ _ => ?_)
      | with_reducible refine Fr_nxS (kept.upA (by assumption) (by decide)) (fun _ _ => ?_)
      | with_reducible refine Fr_nxI (fun _ => ?_)
      | with_reducible refine Fr_bdS1 ?_ (fun _ _ => ?_)
      | with_reducible refine Fr_bdI1 (fun _ => ?_)
      | with_reducible exact (ih _ _ _).to (by assumption) (fun _ h => h) (fun _ h => h)
theorem fr_mX12_names_73 (v_11 : Int) : ∀ (f : Nat) (v1 : Int) (v2 : St), Fr [93, 94, 95] [] (fun o : St => o) v2 (mX12_names_73 v_11 f v1 v2) := by
  intro f
  induction f with
  | zero => intros; rw [mX12_names_73]; exact Fr_none
  | succ f ih =>
    intro v1 v2
    rw [mX12_names_73]
    have hS : kept [93, 94, 95] [] v2 v2 := kept.rf
    repeat' first
      | with_reducible exact Fr_none
      | (with_reducible refine Fr_some ?_; assumption)
      | with_reducible refine Fr_gd ?_
      | with_reducible refine Fr_if ?_ ?_
      | with_reducible refine Fr_nxS (kept.upF (by assumption) (by decide)) (fun _ _ => ?_)
      | with_reducible refine Fr_nxS (kept.upA (by assumption) (by decide)) (fun _ _ => ?_)
      | with_reducible refine Fr_nxI (fun _ => ?_)
      | with_reducible refine Fr_bdS1 ?_ (fun _ _ => ?_)
      | with_reducible refine Fr_bdI1 (fun _ => ?_)
      | with_reducible refine Fr_bdS2 ?_ (fun _ _ _ => ?_)
      | with_reducible refine Fr_bdI2 (fun _ _ => ?_)
      | with_reducible exact (fr_mX12_namedPart _ _ _).to (by assumption) (by decide) (by decide)
      | with_reducible exact (fr_mX12_namesRest _ _ _).to (by assumption) (by decide) (by decide)
      | with_reducible exact (ih _ _).to (by assumption) (fun _ h => h) (fun _ h => h)
theorem fr_mX12_names_58 (v_11 : Int) : ∀ (f : Nat) (v1 : Int) (v2 : St), Fr [93, 94, 95] [] (fun o : St => o) v2 (mX12_names_58 v_11 f v1 v2) := by
  intro f
  induction f with
  | zero => intros; rw [mX12_names_58]; exact Fr_none
  | succ f ih =>
    intro v1 v2
    rw [mX12_names_58]
    have hS : kept [93, 94, 95] [] v2 v2 := kept.rf
    repeat' first
      | with_reducible exact Fr_none
      | (with_reducible refine Fr_some ?_; assumption)
      | with_reducible refine Fr_gd ?_
      | with_reducible refine Fr_if ?_ ?_
      | with_reducible refine Fr_nxS (kept.upF (by assumption) (by decide)) (fun _ _ => ?_)
      | with_reducible refine Fr_nxS (kept.upA (by assumption) (by decide)) (fun _ _ => ?_)
      | with_reducible refine Fr_nxI (fun _ => ?_)
      | with_reducible refine Fr_bdS1 ?_ (fun _ _ => ?_)
      | with_reducible refine Fr_bdI1 (fun _ => ?_)
      | with_reducible refine Fr_bdS2 ?_ (fun _ _ _ => ?_)
      | with_reducible refine Fr_bdI2 (fun _ _ => ?_)
      | with_reducible exact (fr_mX12_names_73 _ _ _ _).to (by assumption) (by decide) (by decide)
      | with_reducible exact (fr_mX12_names_108 _ _ _ _ _).to (by assumption) (by decide) (by decide)
      | with_reducible exact (ih _ _).to (by assumption) (fun _ h => h) (fun _ h => h)
theorem fr_mX12_names_50  : ∀ (f : Nat) (v1 : Int) (v2 : St), Fr [93, 94, 95] [] (fun o : St => o) v2 (mX12_names_50  f v1 v2) := by
  intro f
  induction f with
  | zero => intros; rw [mX12_names_50]; exact Fr_none
  | succ f ih =>
    intro v1 v2
    rw [mX12_names_50]
    have hS : kept [93, 94, 95] [] v2 v2 := kept.rf
    repeat' first
      | with_reducible exact Fr_none
      | (with_reducible refine Fr_some ?_; assumption)
      | with_reducible refine Fr_gd ?_
      | with_reducible refine Fr_if ?_ ?_
      | with_reducible refine Fr_nxS (kept.upF (by assumption) (by decide)) (fun _ _ => ?_)
      | with_reducible refine Fr_nxS (kept.upA (by assumption) (by decide)) (fun _ _ => ?_)
      | with_reducible refine Fr_nxI (fun _ => ?_)
      | with_reducible refine Fr_bdS1 ?_ (fun _ _ => ?_)
      | with_reducible refine Fr_bdI1 (fun _ => ?_)
      | with_reducible exact (fr_mX12_names_58 _ _ _ _).to (by assumption) (by decide) (by decide)
      | with_reducible exact (ih _ _).to (by assumption) (fun _ h => h) (fun _ h => h)
theorem fr_mX12_names_26  : ∀ (f : Nat) (v1 : Int) (v2 : St), Fr [94] [] (fun o : St => o) v2 (mX12_names_26  f v1 v2) := by
  intro f
  induction f with
  | zero => intros; rw [mX12_names_26]; exact Fr_none
  | succ f ih =>
    intro v1 v2
    rw [mX12_names_26]
    have hS : kept [94] [] v2 v2 := kept.rf
    repeat' first
      | with_reducible exact Fr_none
      | (with_reducible refine Fr_some ?_; assumption)
      | with_reducible refine Fr_gd ?_
      | with_reducible refine Fr_if ?_ ?_
      | with_reducible refine Fr_nxS (kept.upF (by assumption) (by decide)) (fun _ _ => ?_)
      | with_reducible refine Fr_nxS (kept.upA (by assumption) (by decide)) (fun _ _ => ?_)
      | with_reducible refine Fr_nxI (fun _ => ?_)
      | with_reducible exact (ih _ _).to (by assumption) (fun _ h => h) (fun _ h => h)
theorem fr_mX12_names_2  : ∀ (f : Nat) (v1 : Int) (v2 : St), Fr [93] [] (fun o : St => o) v2 (mX12_names_2  f v1 v2) := by
  intro f
  induction f with
  | zero => intros; rw [mX12_names_2]; exact Fr_none
  | succ f ih =>
    intro v1 v2
    rw [mX12_names_2]
    have hS : kept [93] [] v2 v2 := kept.rf
    repeat' first
      | with_reducible exact Fr_none
      | (with_reducible refine Fr_some ?_; assumption)
      | with_reducible refine Fr_gd ?_
      | with_reducible refine Fr_if ?_ ?_
      | with_reducible refine Fr_nxS (kept.upF (by assumption) (by decide)) (fun _ _ => ?_)
      | with_reducible refine Fr_nxS (kept.upA (by assumption) (by decide)) (fun _ _ => ?_)
      | with_reducible refine Fr_nxI (fun _ => ?_)
      | with_reducible exact (ih _ _).to (by assumption) (fun _ h => h) (fun _ h => h)
theorem fr_mX12_names (S0 : St) : Fr [93, 94, 95] [] (fun o : St => o) S0 (mX12_names S0) := by
  unfold mX12_names
  have hS : kept [93, 94, 95] [] S0 S0 := kept.rf
  repeat' first
    | with_reducible exact Fr_none
    | (with_reducible refine Fr_some ?_; assumption)
    | with_reducible refine Fr_gd ?_
    | with_reducible refine Fr_if ?_ ?_
    | with_reducible refine Fr_nxS (kept.upF (by assumption) (by decide)) (fun _ _ => ?_)
    | with_reducible refine Fr_nxS (kept.upA (by assumption) (by decide)) (fun _ _ => ?_)
    | with_reducible refine Fr_nxI (fun _ => ?_)
    | with_reducible refine Fr_bdS1 ?_ (fun _ _ => ?_)
    | with_reducible refine Fr_bdI1 (fun _ => ?_)
    | with_reducible exact (fr_mX12_names_2 _ _ _).to (by assumption) (by decide) (by decide)
    | with_reducible exact (fr_mX12_names_26 _ _ _).to (by assumption) (by decide) (by decide)
    | with_reducible exact (fr_mX12_names_50 _ _ _).to (by assumption) (by decide) (by decide)
theorem fr_mX12_labelled (S0 : St) (a1 : Int) (a2 : Int) : Fr [93, 94, 95] [] (fun o : Int × St => o.2) S0 (mX12_labelled S0 a1 a2) := by
  unfold mX12_labelled
  have hS : kept [93, 94, 95] [] S0 S0 := kept.rf
  repeat' first
    | with_reducible exact Fr_none
    | (with_reducible refine Fr_some ?_; assumption)
    | with_reducible refine Fr_gd ?_
    | with_reducible refine Fr_if ?_ ?_
    | with_reducible refine Fr_nxS (kept.upF (by assumption) (by decide)) (fun _ _ => ?_)
    | with_reducible refine Fr_nxS (kept.upA (by assumption) (by decide)) (fun _ _ => ?_)
    | with_reducible refine Fr_nxI (fun _ => ?_)
    | with_reducible refine Fr_bdS1 ?_ (fun _ _ => ?_)
    | with_reducible refine Fr_bdI1 (fun _ => ?_)
    | with_reducible exact (fr_mX12_names _).to (by assumption) (by decide) (by decide)
theorem fr_mX12_signs (S0 : St) (a1 : Int) : Fr [96] [(83, 20), (83, 22)] (fun o : St => o) S0 (mX12_signs S0 a1) := by
  unfold mX12_signs
  have hS : kept [96] [(83, 20), (83, 22)] S0 S0 := kept.rf
  repeat' first
    | with_reducible exact Fr_none
    | (with_reducible refine Fr_some ?_; assumption)
    | with_reducible refine Fr_gd ?_
    | with_reducible refine Fr_if ?_ ?_
    | with_reducible refine Fr_nxS (kept.upF (by assumption) (by decide)) (fun _ _ => ?_)
    | with_reducible refine Fr_nxS (kept.upA (by assumption) (by decide)) (fun _ _ => ?_)
    | with_reducible refine Fr_nxI (fun _ => ?_)
    | with_reducible refine Fr_bdS1 ?_ (fun _ _ => ?_)
    | with_reducible refine Fr_bdI1 (fun _ => ?_)
theorem fr_mX12_pushes (S0 : St) (a1 : Int) (a2 : Int) : Fr [97, 98] [(83, 31)] (fun o : St => o) S0 (mX12_pushes S0 a1 a2) := by
  unfold mX12_pushes
  have hS : kept [97, 98] [(83, 31)] S0 S0 := kept.rf
  repeat' first
    | with_reducible exact Fr_none
    | (with_reducible refine Fr_some ?_; assumption)
    | with_reducible refine Fr_gd ?_
    | with_reducible refine Fr_if ?_ ?_
    | with_reducible refine Fr_nxS (kept.upF (by assumption) (by decide)) (fun _ _ => ?_)
    | with_reducible refine Fr_nxS (kept.upA (by assumption) (by decide)) (fun _ _ => ?_)
    | with_reducible refine Fr_nxI (fun _ => ?_)
theorem fr_mX12_whyNot (S0 : St) (a1 : Int) (a2 : Int) (a3 : Int) : Fr [90, 91, 92] [] (fun o : Int × St => o.2) S0 (mX12_whyNot S0 a1 a2 a3) := by
  unfold mX12_whyNot
  have hS : kept [90, 91, 92] [] S0 S0 := kept.rf
  repeat' first
    | with_reducible exact Fr_none
    | (with_reducible refine Fr_some ?_; assumption)
    | with_reducible refine Fr_gd ?_
    | with_reducible refine Fr_if ?_ ?_
    | with_reducible refine Fr_nxS (kept.upF (by assumption) (by decide)) (fun _ _ => ?_)
    | with_reducible refine Fr_nxS (kept.upA (by assumption) (by decide)) (fun _ _ => ?_)
    | with_reducible refine Fr_nxI (fun _ => ?_)
    | with_reducible refine Fr_bdS1 ?_ (fun _ _ => ?_)
    | with_reducible refine Fr_bdI1 (fun _ => ?_)
    | with_reducible exact (fr_mX12_counts _ _).to (by assumption) (by decide) (by decide)
theorem fr_mX12_whyNone (S0 : St) (a1 : Int) (a2 : Int) : Fr [90, 91, 92] [] (fun o : Int × St => o.2) S0 (mX12_whyNone S0 a1 a2) := by
  unfold mX12_whyNone
  have hS : kept [90, 91, 92] [] S0 S0 := kept.rf
  repeat' first
    | with_reducible exact Fr_none
    | (with_reducible refine Fr_some ?_; assumption)
    | with_reducible refine Fr_gd ?_
    | with_reducible refine Fr_if ?_ ?_
    | with_reducible refine Fr_nxS (kept.upF (by assumption) (by decide)) (fun _ _ => ?_)
    | with_reducible refine Fr_nxS (kept.upA (by assumption) (by decide)) (fun _ _ => ?_)
    | with_reducible refine Fr_nxI (fun _ => ?_)
    | with_reducible refine Fr_bdS1 ?_ (fun _ _ => ?_)
    | with_reducible refine Fr_bdI1 (fun _ => ?_)
    | with_reducible exact (fr_mX12_counts _ _).to (by assumption) (by decide) (by decide)
theorem fr_mX12_node (S0 : St) (a1 : Int) (a2 : Int) (a3 : Int) : Fr [99, 100, 101, 102, 103] [(83, 38)] (fun o : Int × St => o.2) S0 (mX12_node S0 a1 a2 a3) := by
  unfold mX12_node
  have hS : kept [99, 100, 101, 102, 103] [(83, 38)] S0 S0 := kept.rf
  repeat' first
    | with_reducible exact Fr_none
    | (with_reducible refine Fr_some ?_; assumption)
    | with_reducible refine Fr_gd ?_
    | with_reducible refine Fr_if ?_ ?_
    | with_reducible refine Fr_nxS (kept.upF (by assumption) (by decide)) (fun _ _ => ?_)
    | with_reducible refine Fr_nxS (kept.upA (by assumption) (by decide)) (fun _ _ => ?_)
    | with_reducible refine Fr_nxI (fun _ => ?_)
theorem fr_mX12_comesBehind (S0 : St) (a1 : Int) (a2 : Int) (a3 : Int) (a4 : Int) : Fr [101, 102, 103] [] (fun o : Int × St => o.2) S0 (mX12_comesBehind S0 a1 a2 a3 a4) := by
  unfold mX12_comesBehind
  have hS : kept [101, 102, 103] [] S0 S0 := kept.rf
  repeat' first
    | with_reducible exact Fr_none
    | (with_reducible refine Fr_some ?_; assumption)
    | with_reducible refine Fr_gd ?_
    | with_reducible refine Fr_if ?_ ?_
    | with_reducible refine Fr_nxS (kept.upF (by assumption) (by decide)) (fun _ _ => ?_)
    | with_reducible refine Fr_nxS (kept.upA (by assumption) (by decide)) (fun _ _ => ?_)
    | with_reducible refine Fr_nxI (fun _ => ?_)
    | with_reducible refine Fr_bdS1 ?_ (fun _ _ => ?_)
    | with_reducible refine Fr_bdI1 (fun _ => ?_)
theorem fr_mX12_takesSpelled_10  : ∀ (f : Nat) (v1 : Int) (v2 : St), Fr [104] [] (fun o : St => o) v2 (mX12_takesSpelled_10  f v1 v2) := by
  intro f
  induction f with
  | zero => intros; rw [mX12_takesSpelled_10]; exact Fr_none
  | succ f ih =>
    intro v1 v2
    rw [mX12_takesSpelled_10]
    have hS : kept [104] [] v2 v2 := kept.rf
    repeat' first
      | with_reducible exact Fr_none
      | (with_reducible refine Fr_some ?_; assumption)
      | with_reducible refine Fr_gd ?_
      | with_reducible refine Fr_if ?_ ?_
      | with_reducible refine Fr_nxS (kept.upF (by assumption) (by decide)) (fun _ _ => ?_)
      | with_reducible refine Fr_nxS (kept.upA (by assumption) (by decide)) (fun _ _ => ?_)
      | with_reducible refine Fr_nxI (fun _ => ?_)
      | with_reducible exact (ih _ _).to (by assumption) (fun _ h => h) (fun _ h => h)
theorem fr_mX12_takesSpelled (S0 : St) : Fr [104] [(83, 40)] (fun o : St => o) S0 (mX12_takesSpelled S0) := by
  unfold mX12_takesSpelled
  have hS : kept [104] [(83, 40)] S0 S0 := kept.rf
  repeat' first
    | with_reducible exact Fr_none
    | (with_reducible refine Fr_some ?_; assumption)
    | with_reducible refine Fr_gd ?_
    | with_reducible refine Fr_if ?_ ?_
    | with_reducible refine Fr_nxS (kept.upF (by assumption) (by decide)) (fun _ _ => ?_)
    | with_reducible refine Fr_nxS (kept.upA (by assumption) (by decide)) (fun _ _ => ?_)
    | with_reducible refine Fr_nxI (fun _ => ?_)
    | with_reducible refine Fr_bdS1 ?_ (fun _ _ => ?_)
    | with_reducible refine Fr_bdI1 (fun _ => ?_)
    | with_reducible exact (fr_mX12_takesSpelled_10 _ _ _).to (by assumption) (by decide) (by decide)
theorem fr_mX12_chance (S0 : St) (a1 : Int) (a2 : Int) (a3 : Int) (a4 : Int) : Fr [90, 91, 92] [] (fun o : Int × St => o.2) S0 (mX12_chance S0 a1 a2 a3 a4) := by
  unfold mX12_chance
  have hS : kept [90, 91, 92] [] S0 S0 := kept.rf
  repeat' first
    | with_reducible exact Fr_none
    | (with_reducible refine Fr_some ?_; assumption)
    | with_reducible refine Fr_gd ?_
    | with_reducible refine Fr_if ?_ ?_
    | with_reducible refine Fr_nxS (kept.upF (by assumption) (by decide)) (fun _ _ => ?_)
    | with_reducible refine Fr_nxS (kept.upA (by assumption) (by decide)) (fun _ _ => ?_)
    | with_reducible refine Fr_nxI (fun _ => ?_)
    | with_reducible refine Fr_bdS1 ?_ (fun _ _ => ?_)
    | with_reducible refine Fr_bdI1 (fun _ => ?_)
    | with_reducible refine Fr_bdS2 ?_ (fun _ _ _ => ?_)
    | with_reducible refine Fr_bdI2 (fun _ _ => ?_)
    | with_reducible exact (fr_mX12_whyNone _ _ _).to (by assumption) (by decide) (by decide)
