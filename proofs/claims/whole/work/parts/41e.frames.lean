theorem fr_mX3_layOrder_26 (S0 : St) : Fr [22] [(13, 4)] (fun o : St => o) S0 (mX3_layOrder_26 S0) := by
  unfold mX3_layOrder_26
  have hS : kept [22] [(13, 4)] S0 S0 := kept.rf
  repeat' first
    | with_reducible exact Fr_none
    | (with_reducible refine Fr_some ?_; assumption)
    | with_reducible refine Fr_gd ?_
    | with_reducible refine Fr_if ?_ ?_
    | with_reducible refine Fr_nxS (kept.upF (by assumption) (by decide)) (fun _ _ => ?_)
    | with_reducible refine Fr_nxS (kept.upA (by assumption) (by decide)) (fun _ _ => ?_)
    | with_reducible refine Fr_nxI (fun _ => ?_)
    | with_reducible refine Fr_bdS1 ?_ (fun _ _ => ?_)
    | with_reducible refine Fr_bdI1 (fun _ => ?_)
    | with_reducible exact (fr_mX3_layOrder_26_15 _ _ _ _ _).to (by assumption) (by decide) (by decide)
theorem fr_mX5_read_12_1_52  : ∀ (f : Nat) (v1 : Int) (v2 : St), Fr [14, 15, 16, 17, 18, 19, 20] [(12, 1), (12, 2), (12, 6), (12, 7), (12, 8), (12, 9), (12, 10), (13, 2), (13, 3)] (fun o : St => o) v2 (mX5_read_12_1_52  f v1 v2) := by
  intro f
  induction f with
  | zero => intros; rw [mX5_read_12_1_52]; exact Fr_none
  | succ f ih =>
    intro v1 v2
    rw [mX5_read_12_1_52]
    have hS : kept [14, 15, 16, 17, 18, 19, 20] [(12, 1), (12, 2), (12, 6), (12, 7), (12, 8), (12, 9), (12, 10), (13, 2), (13, 3)] v2 v2 := kept.rf
    repeat' first
      | with_reducible exact Fr_none
      | (with_reducible refine Fr_some ?_; assumption)
      | with_reducible refine Fr_gd ?_
      | with_reducible refine Fr_if ?_ ?_
      | with_reducible refine Fr_nxS (kept.upF (by assumption) (by decide)) (fun _ _ => ?_)
      | with_reducible refine Fr_nxS (kept.upA (by assumption) (by decide)) (fun _ _ => ?_)
      | with_reducible refine Fr_nxI (fun _ => ?_)
      | with_reducible refine Fr_bdS1 ?_ (fun _ _ => ?_)
      | with_reducible refine Fr_bdI1 (fun _ => ?_)
      | with_reducible exact (fr_mX5_readLine _).to (by assumption) (by decide) (by decide)
      | with_reducible exact (ih _ _).to (by assumption) (fun _ h => h) (fun _ h => h)
theorem fr_mX5_read_12_1 (S0 : St) (a2 : Int) : Fr [14, 15, 16, 17, 18, 19, 20, 21, 22, 24, 25, 27, 28, 29, 30, 31, 32] [(12, 1), (12, 2), (12, 4), (12, 5), (12, 6), (12, 7), (12, 8), (12, 9), (12, 10), (13, 0), (13, 1), (13, 2), (13, 3), (13, 4), (26, 1), (26, 2)] (fun o : Int × St => o.2) S0 (mX5_read_12_1 S0 a2) := by
  unfold mX5_read_12_1
  have hS : kept [14, 15, 16, 17, 18, 19, 20, 21, 22, 24, 25, 27, 28, 29, 30, 31, 32] [(12, 1), (12, 2), (12, 4), (12, 5), (12, 6), (12, 7), (12, 8), (12, 9), (12, 10), (13, 0), (13, 1), (13, 2), (13, 3), (13, 4), (26, 1), (26, 2)] S0 S0 := kept.rf
  repeat' first
    | with_reducible exact Fr_none
    | (with_reducible refine Fr_some ?_; assumption)
    | with_reducible refine Fr_gd ?_
    | with_reducible refine Fr_if ?_ ?_
    | with_reducible refine Fr_nxS (kept.upF (by assumption) (by decide)) (fun _ _ => ?_)
    | with_reducible refine Fr_nxS (kept.upA (by assumption) (by decide)) (fun _ _ => ?_)
    | with_reducible refine Fr_nxI (fun _ => ?_)
    | with_reducible refine Fr_bdS1 ?_ (fun _ _ => ?_)
    | with_reducible refine Fr_bdI1 (fun _ => ?_)
    | with_reducible exact (fr_mX2_clear_13 _).to (by assumption) (by decide) (by decide)
    | with_reducible exact (fr_mX5_advance _).to (by assumption) (by decide) (by decide)
    | with_reducible exact (fr_mX5_readHead _).to (by assumption) (by decide) (by decide)
    | with_reducible exact (fr_mX5_read_12_1_52 _ _ _).to (by assumption) (by decide) (by decide)
    | with_reducible exact (fr_mX3_study_26 _).to (by assumption) (by decide) (by decide)
    | with_reducible exact (fr_mX5_refuseMeaningless _).to (by assumption) (by decide) (by decide)
    | with_reducible exact (fr_mX3_layOrder_26 _).to (by assumption) (by decide) (by decide)
theorem fr_mX1_stop (S0 : St) : Fr [] [(80, 1)] (fun o : St => o) S0 (mX1_stop S0) := by
  unfold mX1_stop
  have hS : kept [] [(80, 1)] S0 S0 := kept.rf
  repeat' first
    | with_reducible exact Fr_none
    | (with_reducible refine Fr_some ?_; assumption)
    | with_reducible refine Fr_gd ?_
    | with_reducible refine Fr_if ?_ ?_
    | with_reducible refine Fr_nxS (kept.upF (by assumption) (by decide)) (fun _ _ => ?_)
    | with_reducible refine Fr_nxS (kept.upA (by assumption) (by decide)) (fun _ _ => ?_)
    | with_reducible refine Fr_nxI (fun _ => ?_)
theorem fr_mX3_findEmpty_33_86 (x_17 : Int) (x_16 : Int) (v_3 : Int) : ∀ (f : Nat) (v1 : Int) (v2 : St), Fr [] [(33, 2)] (fun o : St => o) v2 (mX3_findEmpty_33_86 x_17 x_16 v_3 f v1 v2) := by
  intro f
  induction f with
  | zero => intros; rw [mX3_findEmpty_33_86]; exact Fr_none
  | succ f ih =>
    intro v1 v2
    rw [mX3_findEmpty_33_86]
    have hS : kept [] [(33, 2)] v2 v2 := kept.rf
    repeat' first
      | with_reducible exact Fr_none
      | (with_reducible refine Fr_some ?_; assumption)
      | with_reducible refine Fr_gd ?_
      | with_reducible refine Fr_if ?_ ?_
      | with_reducible refine Fr_nxS (kept.upF (by assumption) (by decide)) (fun _ _ => ?_)
      | with_reducible refine Fr_nxS (kept.upA (by assumption) (by decide)) (fun _ _ => ?_)
      | with_reducible refine Fr_nxI (fun _ => ?_)
      | with_reducible refine Fr_bdS1 ?_ (fun _ _ => ?_)
      | with_reducible refine Fr_bdI1 (fun _ => ?_)
      | with_reducible exact (ih _ _).to (by assumption) (fun _ h => h) (fun _ h => h)
theorem fr_mX3_findEmpty_33_46 (x_17 : Int) (x_16 : Int) (v_3 : Int) : ∀ (f : Nat) (v1 : Int) (v2 : St), Fr [] [(33, 1)] (fun o : St => o) v2 (mX3_findEmpty_33_46 x_17 x_16 v_3 f v1 v2) := by
  intro f
  induction f with
  | zero => intros; rw [mX3_findEmpty_33_46]; exact Fr_none
  | succ f ih =>
    intro v1 v2
    rw [mX3_findEmpty_33_46]
    have hS : kept [] [(33, 1)] v2 v2 := kept.rf
    repeat' first
      | with_reducible exact Fr_none
      | (with_reducible refine Fr_some ?_; assumption)
      | with_reducible refine Fr_gd ?_
      | with_reducible refine Fr_if ?_ ?_
      | with_reducible refine Fr_nxS (kept.upF (by assumption) (by decide)) (fun _ _ => ?_)
      | with_reducible refine Fr_nxS (kept.upA (by assumption) (by decide)) (fun _ _ => ?_)
      | with_reducible refine Fr_nxI (fun _ => ?_)
      | with_reducible refine Fr_bdS1 ?_ (fun _ _ => ?_)
      | with_reducible refine Fr_bdI1 (fun _ => ?_)
      | with_reducible exact (ih _ _).to (by assumption) (fun _ h => h) (fun _ h => h)
theorem fr_mX3_findEmpty_33_14  : ∀ (f : Nat) (v1 : Int) (v2 : Int) (v3 : St), Fr [] [(33, 1), (33, 2)] (fun o : St => o) v3 (mX3_findEmpty_33_14  f v1 v2 v3) := by
  intro f
  induction f with
  | zero => intros; rw [mX3_findEmpty_33_14]; exact Fr_none
  | succ f ih =>
    intro v1 v2 v3
    rw [mX3_findEmpty_33_14]
    have hS : kept [] [(33, 1), (33, 2)] v3 v3 := kept.rf
    repeat' first
      | with_reducible exact Fr_none
      | (with_reducible refine Fr_some ?_; assumption)
      | with_reducible refine Fr_gd ?_
      | with_reducible refine Fr_if ?_ ?_
      | with_reducible refine Fr_nxS (kept.upF (by assumption) (by decide)) (fun _ _ => ?_)
      | with_reducible refine Fr_nxS (kept.upA (by assumption) (by decide)) (fun _ _ => ?_)
      | with_reducible refine Fr_nxI (fun _ => ?_)
      | with_reducible refine Fr_bdS1 ?_ (fun _ _ => ?_)
      | with_reducible refine Fr_bdI1 (fun _ => ?_)
      | with_reducible exact (fr_mX3_findEmpty_33_46 _ _ _ _ _ _).to (by assumption) (by decide) (by decide)
      | with_reducible exact (fr_mX3_findEmpty_33_86 _ _ _ _ _ _).to (by assumption) (by decide) (by decide)
      | with_reducible exact (ih _ _ _).to (by assumption) (fun _ h => h) (fun _ h => h)
theorem fr_mX3_findEmpty_33 (S0 : St) : Fr [] [(33, 1), (33, 2)] (fun o : St => o) S0 (mX3_findEmpty_33 S0) := by
  unfold mX3_findEmpty_33
  have hS : kept [] [(33, 1), (33, 2)] S0 S0 := kept.rf
  repeat' first
    | with_reducible exact Fr_none
    | (with_reducible refine Fr_some ?_; assumption)
    | with_reducible refine Fr_gd ?_
    | with_reducible refine Fr_if ?_ ?_
    | with_reducible refine Fr_nxS (kept.upF (by assumption) (by decide)) (fun _ _ => ?_)
    | with_reducible refine Fr_nxS (kept.upA (by assumption) (by decide)) (fun _ _ => ?_)
    | with_reducible refine Fr_nxI (fun _ => ?_)
    | with_reducible refine Fr_bdS1 ?_ (fun _ _ => ?_)
    | with_reducible refine Fr_bdI1 (fun _ => ?_)
    | with_reducible exact (fr_mX3_findEmpty_33_14 _ _ _ _).to (by assumption) (by decide) (by decide)
theorem fr_mX3_studyPart_33 (S0 : St) (a1 : Int) : Fr [34, 35, 36] [] (fun o : St => o) S0 (mX3_studyPart_33 S0 a1) := by
  unfold mX3_studyPart_33
  have hS : kept [34, 35, 36] [] S0 S0 := kept.rf
  repeat' first
    | with_reducible exact Fr_none
    | (with_reducible refine Fr_some ?_; assumption)
    | with_reducible refine Fr_gd ?_
    | with_reducible refine Fr_if ?_ ?_
    | with_reducible refine Fr_nxS (kept.upF (by assumption) (by decide)) (fun _ _ => ?_)
    | with_reducible refine Fr_nxS (kept.upA (by assumption) (by decide)) (fun _ _ => ?_)
    | with_reducible refine Fr_nxI (fun _ => ?_)
    | with_reducible refine Fr_bdS1 ?_ (fun _ _ => ?_)
    | with_reducible refine Fr_bdI1 (fun _ => ?_)
theorem fr_mX3_study_33_31  : ∀ (f : Nat) (v1 : Int) (v2 : St), Fr [37, 38, 39] [] (fun o : St => o) v2 (mX3_study_33_31  f v1 v2) := by
  intro f
  induction f with
  | zero => intros; rw [mX3_study_33_31]; exact Fr_none
  | succ f ih =>
    intro v1 v2
    rw [mX3_study_33_31]
    have hS : kept [37, 38, 39] [] v2 v2 := kept.rf
    repeat' first
      | with_reducible exact Fr_none
      | (with_reducible refine Fr_some ?_; assumption)
      | with_reducible refine Fr_gd ?_
      | with_reducible refine Fr_if ?_ ?_
      | with_reducible refine Fr_nxS (kept.upF (by assumption) (by decide)) (fun _ _ => ?_)
      | with_reducible refine Fr_nxS (kept.upA (by assumption) (by decide)) (fun _ _ => ?_)
      | with_reducible refine Fr_nxI (fun _ => ?_)
      | with_reducible refine Fr_bdS1 ?_ (fun _ _ => ?_)
      | with_reducible refine Fr_bdI1 (fun _ => ?_)
      | with_reducible exact (ih _ _).to (by assumption) (fun _ h => h) (fun _ h => h)
theorem fr_mX3_study_33_14  : ∀ (f : Nat) (v1 : Int) (v2 : St), Fr [34, 35, 36] [] (fun o : St => o) v2 (mX3_study_33_14  f v1 v2) := by
  intro f
  induction f with
  | zero => intros; rw [mX3_study_33_14]; exact Fr_none
  | succ f ih =>
    intro v1 v2
    rw [mX3_study_33_14]
    have hS : kept [34, 35, 36] [] v2 v2 := kept.rf
    repeat' first
      | with_reducible exact Fr_none
      | (with_reducible refine Fr_some ?_; assumption)
      | with_reducible refine Fr_gd ?_
      | with_reducible refine Fr_if ?_ ?_
      | with_reducible refine Fr_nxS (kept.upF (by assumption) (by decide)) (fun _ _ => ?_)
      | with_reducible refine Fr_nxS (kept.upA (by assumption) (by decide)) (fun _ _ => ?_)
      | with_reducible refine Fr_nxI (fun _ => ?_)
      | with_reducible refine Fr_bdS1 ?_ (fun _ _ => ?_)
      | with_reducible refine Fr_bdI1 (fun _ => ?_)
      | with_reducible exact (fr_mX3_studyPart_33 _ _).to (by assumption) (by decide) (by decide)
      | with_reducible exact (ih _ _).to (by assumption) (fun _ h => h) (fun _ h => h)
theorem fr_mX3_study_33 (S0 : St) : Fr [34, 35, 36, 37, 38, 39] [(33, 1), (33, 2)] (fun o : St => o) S0 (mX3_study_33 S0) := by
  unfold mX3_study_33
  have hS : kept [34, 35, 36, 37, 38, 39] [(33, 1), (33, 2)] S0 S0 := kept.rf
  repeat' first
    | with_reducible exact Fr_none
    | (with_reducible refine Fr_some ?_; assumption)
    | with_reducible refine Fr_gd ?_
    | with_reducible refine Fr_if ?_ ?_
    | with_reducible refine Fr_nxS (kept.upF (by assumption) (by decide)) (fun _ _ => ?_)
    | with_reducible refine Fr_nxS (kept.upA (by assumption) (by decide)) (fun _ _ => ?_)
    | with_reducible refine Fr_nxI (fun _ => ?_)
    | with_reducible refine Fr_bdS1 ?_ (fun _ _ => ?_)
    | with_reducible refine Fr_bdI1 (fun _ => ?_)
    | with_reducible exact (fr_mX3_findEmpty_33 _).to (by assumption) (by decide) (by decide)
    | with_reducible exact (fr_mX3_study_33_14 _ _ _).to (by assumption) (by decide) (by decide)
    | with_reducible exact (fr_mX3_study_33_31 _ _ _).to (by assumption) (by decide) (by decide)
theorem fr_mX0_clearCells_40_42_3 (a2 : Int) (a3 : Int) : ∀ (f : Nat) (v1 : Int) (v2 : St), Fr [42] [] (fun o : St => o) v2 (mX0_clearCells_40_42_3 a2 a3 f v1 v2) := by
  intro f
  induction f with
  | zero => intros; rw [mX0_clearCells_40_42_3]; exact Fr_none
  | succ f ih =>
    intro v1 v2
    rw [mX0_clearCells_40_42_3]
    have hS : kept [42] [] v2 v2 := kept.rf
    repeat' first
      | with_reducible exact Fr_none
      | (with_reducible refine Fr_some ?_; assumption)
      | with_reducible refine Fr_gd ?_
      | with_reducible refine Fr_if ?_ ?_
      | with_reducible refine Fr_nxS (kept.upF (by assumption) (by decide)) (fun _ _ => ?_)
      | with_reducible refine Fr_nxS (kept.upA (by assumption) (by decide)) (fun _ _ => ?_)
      | with_reducible refine Fr_nxI (fun _ => ?_)
      | with_reducible refine Fr_bdS1 ?_ (fun _ _ => ?_)
      | with_reducible refine Fr_bdI1 (fun _ => ?_)
      | with_reducible exact (ih _ _).to (by assumption) (fun _ h => h) (fun _ h => h)
theorem fr_mX0_clearCells_40_42 (S0 : St) (a2 : Int) (a3 : Int) : Fr [42] [] (fun o : St => o) S0 (mX0_clearCells_40_42 S0 a2 a3) := by
  unfold mX0_clearCells_40_42
  have hS : kept [42] [] S0 S0 := kept.rf
  repeat' first
    | with_reducible exact Fr_none
    | (with_reducible refine Fr_some ?_; assumption)
    | with_reducible refine Fr_gd ?_
    | with_reducible refine Fr_if ?_ ?_
    | with_reducible refine Fr_nxS (kept.upF (by assumption) (by decide)) (fun _ _ => ?_)
    | with_reducible refine Fr_nxS (kept.upA (by assumption) (by decide)) (fun _ _ => ?_)
    | with_reducible refine Fr_nxI (fun _ => ?_)
    | with_reducible refine Fr_bdS1 ?_ (fun _ _ => ?_)
    | with_reducible refine Fr_bdI1 (fun _ => ?_)
    | with_reducible exact (fr_mX0_clearCells_40_42_3 _ _ _ _ _).to (by assumption) (by decide) (by decide)
theorem fr_mX0_copyCells_40_41_42_3 (a2 : Int) (a4 : Int) (a5 : Int) : ∀ (f : Nat) (v1 : Int) (v2 : St), Fr [42] [] (fun o : St => o) v2 (mX0_copyCells_40_41_42_3 a2 a4 a5 f v1 v2) := by
  intro f
  induction f with
  | zero => intros; rw [mX0_copyCells_40_41_42_3]; exact Fr_none
  | succ f ih =>
    intro v1 v2
    rw [mX0_copyCells_40_41_42_3]
    have hS : kept [42] [] v2 v2 := kept.rf
    repeat' first
      | with_reducible exact Fr_none
      | (with_reducible refine Fr_some ?_; assumption)
      | with_reducible refine Fr_gd ?_
      | with_reducible refine Fr_if ?_ ?_
      | with_reducible refine Fr_nxS (kept.upF (by assumption) (by decide)) (fun _ _ => ?_)
      | with_reducible refine Fr_nxS (kept.upA (by assumption) (by decide)) (fun _ _ => ?_)
      | with_reducible refine Fr_nxI (fun _ => ?_)
      | with_reducible refine Fr_bdS1 ?_ (fun _ _ => ?_)
      | with_reducible refine Fr_bdI1 (fun _ => ?_)
      | with_reducible exact (ih _ _).to (by assumption) (fun _ h => h) (fun _ h => h)
theorem fr_mX0_copyCells_40_41_42 (S0 : St) (a2 : Int) (a4 : Int) (a5 : Int) : Fr [42] [] (fun o : St => o) S0 (mX0_copyCells_40_41_42 S0 a2 a4 a5) := by
  unfold mX0_copyCells_40_41_42
  have hS : kept [42] [] S0 S0 := kept.rf
  repeat' first
    | with_reducible exact Fr_none
    | (with_reducible refine Fr_some ?_; assumption)
    | with_reducible refine Fr_gd ?_
    | with_reducible refine Fr_if ?_ ?_
    | with_reducible refine Fr_nxS (kept.upF (by assumption) (by decide)) (fun _ _ => ?_)
    | with_reducible refine Fr_nxS (kept.upA (by assumption) (by decide)) (fun _ _ => ?_)
    | with_reducible refine Fr_nxI (fun _ => ?_)
    | with_reducible refine Fr_bdS1 ?_ (fun _ _ => ?_)
    | with_reducible refine Fr_bdI1 (fun _ => ?_)
    | with_reducible exact (fr_mX0_copyCells_40_41_42_3 _ _ _ _ _ _).to (by assumption) (by decide) (by decide)
theorem fr_mX0_countTail_40_109 (r_34 : Int) (v_18 : Int) (v_8 : Int) (x_3 : Int) (x_1 : Int) (a1 : Int) (a2 : Int) : ∀ (f : Nat) (v1 : Int) (v2 : St), Fr [42] [] (fun o : St => o) v2 (mX0_countTail_40_109 r_34 v_18 v_8 x_3 x_1 a1 a2 f v1 v2) := by
  intro f
  induction f with
  | zero => intros; rw [mX0_countTail_40_109]; exact Fr_none
  | succ f ih =>
    intro v1 v2
    rw [mX0_countTail_40_109]
    have hS : kept [42] [] v2 v2 := kept.rf
    repeat' first
      | with_reducible exact Fr_none
      | (with_reducible refine Fr_some ?_; assumption)
      | with_reducible refine Fr_gd ?_
      | with_reducible refine Fr_if ?_ ?_
      | with_reducible refine Fr_nxS (kept.upF (by assumption) (by decide)) (fun _ _ => ?_)
      | with_reducible refine Fr_nxS (kept.upA (by assumption) (by decide)) (fun _ _ => ?_)
      | with_reducible refine Fr_nxI (fun _ => ?_)
      | with_reducible refine Fr_bdS1 ?_ (fun _ _ => ?_)
      | with_reducible refine Fr_bdI1 (fun _ => ?_)
      | with_reducible exact (ih _ _).to (by assumption) (fun _ h => h) (fun _ h => h)
theorem fr_mX0_countTail_40_65 (v_8 : Int) (x_3 : Int) (x_1 : Int) (a1 : Int) (a2 : Int) : ∀ (f : Nat) (v1 : Int) (v2 : St), Fr [42] [] (fun o : St => o) v2 (mX0_countTail_40_65 v_8 x_3 x_1 a1 a2 f v1 v2) := by
  intro f
  induction f with
  | zero => intros; rw [mX0_countTail_40_65]; exact Fr_none
  | succ f ih =>
    intro v1 v2
    rw [mX0_countTail_40_65]
    have hS : kept [42] [] v2 v2 := kept.rf
    repeat' first
      | with_reducible exact Fr_none
      | (with_reducible refine Fr_some ?_; assumption)
      | with_reducible refine Fr_gd ?_
      | with_reducible refine Fr_if ?_ ?_
      | with_reducible refine Fr_nxS (kept.upF (by assumption) (by decide)) (fun _ _ => ?_)
      | with_reducible refine Fr_nxS (kept.upA (by assumption) (by decide)) (fun _ _ => ?_)
      | with_reducible refine Fr_nxI (fun _ => ?_)
      | with_reducible refine Fr_bdS1 ?_ (fun _ _ => ?_)
      | with_reducible refine Fr_bdI1 (fun _ => ?_)
      | with_reducible exact (fr_mX0_countTail_40_109 _ _ _ _ _ _ _ _ _ _).to (by assumption) (by decide) (by decide)
      | with_reducible exact (ih _ _).to (by assumption) (fun _ h => h) (fun _ h => h)
theorem fr_mX0_countTail_40_56 (x_3 : Int) (x_1 : Int) (a1 : Int) (a2 : Int) : ∀ (f : Nat) (v1 : Int) (v2 : St), Fr [42] [] (fun o : St => o) v2 (mX0_countTail_40_56 x_3 x_1 a1 a2 f v1 v2) := by
  intro f
  induction f with
  | zero => intros; rw [mX0_countTail_40_56]; exact Fr_none
  | succ f ih =>
    intro v1 v2
    rw [mX0_countTail_40_56]
    have hS : kept [42] [] v2 v2 := kept.rf
    repeat' first
      | with_reducible exact Fr_none
      | (with_reducible refine Fr_some ?_; assumption)
      | with_reducible refine Fr_gd ?_
      | with_reducible refine Fr_if ?_ ?_
      | with_reducible refine Fr_nxS (kept.upF (by assumption) (by decide)) (fun _ _ => ?_)
      | with_reducible refine Fr_nxS (kept.upA (by assumption) (by decide)) (fun _ _ => ?_)
      | with_reducible refine Fr_nxI (fun _ => ?_)
      | with_reducible refine Fr_bdS1 ?_ (fun _ _ => ?_)
      | with_reducible refine Fr_bdI1 (fun _ => ?_)
      | with_reducible exact (fr_mX0_countTail_40_65 _ _ _ _ _ _ _ _).to (by assumption) (by decide) (by decide)
      | with_reducible exact (ih _ _).to (by assumption) (fun _ h => h) (fun _ h => h)
theorem fr_mX0_countTail_40 (S0 : St) (a1 : Int) (a2 : Int) : Fr [42] [] (fun o : St => o) S0 (mX0_countTail_40 S0 a1 a2) := by
  unfold mX0_countTail_40
  have hS : kept [42] [] S0 S0 := kept.rf
  repeat' first
    | with_reducible exact Fr_none
    | (with_reducible refine Fr_some ?_; assumption)
    | with_reducible refine Fr_gd ?_
    | with_reducible refine Fr_if ?_ ?_
    | with_reducible refine Fr_nxS (kept.upF (by assumption) (by decide)) (fun _ _ => ?_)
    | with_reducible refine Fr_nxS (kept.upA (by assumption) (by decide)) (fun _ _ => ?_)
    | with_reducible refine Fr_nxI (fun _ => ?_)
    | with_reducible refine Fr_bdS1 ?_ (fun _ _ => ?_)
    | with_reducible refine Fr_bdI1 (fun _ => ?_)
    | with_reducible exact (fr_mX0_copyCells_40_41_42 _ _ _ _).to (by assumption) (by decide) (by decide)
    | with_reducible exact (fr_mX0_clearCells_40_42 _ _ _).to (by assumption) (by decide) (by decide)
    | with_reducible exact (fr_mX0_countTail_40_56 _ _ _ _ _ _ _).to (by assumption) (by decide) (by decide)
theorem fr_mX0_clearCells_40_41_3 (a2 : Int) (a3 : Int) : ∀ (f : Nat) (v1 : Int) (v2 : St), Fr [41] [] (fun o : St => o) v2 (mX0_clearCells_40_41_3 a2 a3 f v1 v2) := by
  intro f
  induction f with
  | zero => intros; rw [mX0_clearCells_40_41_3]; exact Fr_none
  | succ f ih =>
    intro v1 v2
    rw [mX0_clearCells_40_41_3]
    have hS : kept [41] [] v2 v2 := kept.rf
    repeat' first
      | with_reducible exact Fr_none
      | (with_reducible refine Fr_some ?_; assumption)
      | with_reducible refine Fr_gd ?_
      | with_reducible refine Fr_if ?_ ?_
      | with_reducible refine Fr_nxS (kept.upF (by assumption) (by decide)) (fun _ _ => ?_)
      | with_reducible refine Fr_nxS (kept.upA (by assumption) (by decide)) (fun _ _ => ?_)
      | with_reducible refine Fr_nxI (fun _ => ?_)
      | with_reducible refine Fr_bdS1 ?_ (fun _ _ => ?_)
      | with_reducible refine Fr_bdI1 (fun _ => ?_)
      | with_reducible exact (ih _ _).to (by assumption) (fun _ h => h) (fun _ h => h)
theorem fr_mX0_clearCells_40_41 (S0 : St) (a2 : Int) (a3 : Int) : Fr [41] [] (fun o : St => o) S0 (mX0_clearCells_40_41 S0 a2 a3) := by
  unfold mX0_clearCells_40_41
  have hS : kept [41] [] S0 S0 := kept.rf
  repeat' first
    | with_reducible exact Fr_none
    | (with_reducible refine Fr_some ?_; assumption)
    | with_reducible refine Fr_gd ?_
    | with_reducible refine Fr_if ?_ ?_
    | with_reducible refine Fr_nxS (kept.upF (by assumption) (by decide)) (fun _ _ => ?_)
    | with_reducible refine Fr_nxS (kept.upA (by assumption) (by decide)) (fun _ _ => ?_)
    | with_reducible refine Fr_nxI (fun _ => ?_)
    | with_reducible refine Fr_bdS1 ?_ (fun _ _ => ?_)
    | with_reducible refine Fr_bdI1 (fun _ => ?_)
    | with_reducible exact (fr_mX0_clearCells_40_41_3 _ _ _ _ _).to (by assumption) (by decide) (by decide)
theorem fr_mX0_growRows_40_80 (r_42 : Int) (v_25 : Int) (v_15 : Int) (x_14 : Int) (v_1 : Int) (a1 : Int) (a2 : Int) : ∀ (f : Nat) (v1 : Int) (v2 : St), Fr [44] [] (fun o : St => o) v2 (mX0_growRows_40_80 r_42 v_25 v_15 x_14 v_1 a1 a2 f v1 v2) := by
  intro f
  induction f with
  | zero => intros; rw [mX0_growRows_40_80]; exact Fr_none
  | succ f ih =>
    intro v1 v2
    rw [mX0_growRows_40_80]
    have hS : kept [44] [] v2 v2 := kept.rf
    repeat' first
      | with_reducible exact Fr_none
      | (with_reducible refine Fr_some ?_; assumption)
      | with_reducible refine Fr_gd ?_
      | with_reducible refine Fr_if ?_ ?_
      | with_reducible refine Fr_nxS (kept.upF (by assumption) (by decide)) (fun _ _ => ?_)
      | with_reducible refine Fr_nxS (kept.upA (by assumption) (by decide)) (fun _ _ => ?_)
      | with_reducible refine Fr_nxI (fun _ => ?_)
      | with_reducible refine Fr_bdS1 ?_ (fun _ _ => ?_)
      | with_reducible refine Fr_bdI1 (fun _ => ?_)
      | with_reducible exact (ih _ _).to (by assumption) (fun _ h => h) (fun _ h => h)
theorem fr_mX0_growRows_40_44 (v_15 : Int) (x_14 : Int) (v_1 : Int) (a1 : Int) (a2 : Int) : ∀ (f : Nat) (v1 : Int) (v2 : St), Fr [44] [] (fun o : St => o) v2 (mX0_growRows_40_44 v_15 x_14 v_1 a1 a2 f v1 v2) := by
  intro f
  induction f with
  | zero => intros; rw [mX0_growRows_40_44]; exact Fr_none
  | succ f ih =>
    intro v1 v2
    rw [mX0_growRows_40_44]
    have hS : kept [44] [] v2 v2 := kept.rf
    repeat' first
      | with_reducible exact Fr_none
      | (with_reducible refine Fr_some ?_; assumption)
      | with_reducible refine Fr_gd ?_
      | with_reducible refine Fr_if ?_ ?_
      | with_reducible refine Fr_nxS (kept.upF (by assumption) (by decide)) (fun _ _ => ?_)
      | with_reducible refine Fr_nxS (kept.upA (by assumption) (by decide)) (fun _ _ => ?_)
      | with_reducible refine Fr_nxI (fun _ => ?_)
      | with_reducible refine Fr_bdS1 ?_ (fun _ _ => ?_)
      | with_reducible refine Fr_bdI1 (fun _ => ?_)
      | with_reducible exact (fr_mX0_growRows_40_80 _ _ _ _ _ _ _ _ _ _).to (by assumption) (by decide) (by decide)
      | with_reducible exact (ih _ _).to (by assumption) (fun _ h => h) (fun _ h => h)
theorem fr_mX0_growRows_40_35 (x_14 : Int) (v_1 : Int) (a1 : Int) (a2 : Int) : ∀ (f : Nat) (v1 : Int) (v2 : St), Fr [44] [] (fun o : St => o) v2 (mX0_growRows_40_35 x_14 v_1 a1 a2 f v1 v2) := by
  intro f
  induction f with
  | zero => intros; rw [mX0_growRows_40_35]; exact Fr_none
  | succ f ih =>
    intro v1 v2
    rw [mX0_growRows_40_35]
    have hS : kept [44] [] v2 v2 := kept.rf
    repeat' first
      | with_reducible exact Fr_none
      | (with_reducible refine Fr_some ?_; assumption)
      | with_reducible refine Fr_gd ?_
      | with_reducible refine Fr_if ?_ ?_
      | with_reducible refine Fr_nxS (kept.upF (by assumption) (by decide)) (fun _ _ => ?_)
      | with_reducible refine Fr_nxS (kept.upA (by assumption) (by decide)) (fun _ _ => ?_)
      | with_reducible refine Fr_nxI (fun _ => ?_)
      | with_reducible refine Fr_bdS1 ?_ (fun _ _ => ?_)
      | with_reducible refine Fr_bdI1 (fun _ => ?_)
      | with_reducible exact (fr_mX0_growRows_40_44 _ _ _ _ _ _ _ _).to (by assumption) (by decide) (by decide)
      | with_reducible exact (ih _ _).to (by assumption) (fun _ h => h) (fun _ h => h)
theorem fr_mX0_growRows_40_2 (a1 : Int) (a2 : Int) : ∀ (f : Nat) (v1 : Int) (v2 : St), Fr [44] [] (fun o : St => o) v2 (mX0_growRows_40_2 a1 a2 f v1 v2) := by
  intro f
  induction f with
  | zero => intros; rw [mX0_growRows_40_2]; exact Fr_none
  | succ f ih =>
    intro v1 v2
    rw [mX0_growRows_40_2]
    have hS : kept [44] [] v2 v2 := kept.rf
    repeat' first
      | with_reducible exact Fr_none
      | (with_reducible refine Fr_some ?_; assumption)
      | with_reducible refine Fr_gd ?_
      | with_reducible refine Fr_if ?_ ?_
      | with_reducible refine Fr_nxS (kept.upF (by assumption) (by decide)) (fun _ _ => ?_)
      | with_reducible refine Fr_nxS (kept.upA (by assumption) (by decide)) (fun _ _ => ?_)
      | with_reducible refine Fr_nxI (fun _ => ?_)
      | with_reducible refine Fr_bdS1 ?_ (fun _ _ => ?_)
      | with_reducible refine Fr_bdI1 (fun _ => ?_)
      | with_reducible exact (fr_mX0_growRows_40_35 _ _ _ _ _ _ _).to (by assumption) (by decide) (by decide)
      | with_reducible exact (ih _ _).to (by assumption) (fun _ h => h) (fun _ h => h)
theorem fr_mX0_growRows_40 (S0 : St) (a1 : Int) (a2 : Int) : Fr [44] [] (fun o : St => o) S0 (mX0_growRows_40 S0 a1 a2) := by
  unfold mX0_growRows_40
  have hS : kept [44] [] S0 S0 := kept.rf
  repeat' first
    | with_reducible exact Fr_none
    | (with_reducible refine Fr_some ?_; assumption)
    | with_reducible refine Fr_gd ?_
    | with_reducible refine Fr_if ?_ ?_
    | with_reducible refine Fr_nxS (kept.upF (by assumption) (by decide)) (fun _ _ => ?_)
    | with_reducible refine Fr_nxS (kept.upA (by assumption) (by decide)) (fun _ _ => ?_)
    | with_reducible refine Fr_nxI (fun _ => ?_)
    | with_reducible refine Fr_bdS1 ?_ (fun _ _ => ?_)
    | with_reducible refine Fr_bdI1 (fun _ => ?_)
    | with_reducible exact (fr_mX0_growRows_40_2 _ _ _ _ _).to (by assumption) (by decide) (by decide)
theorem fr_mX0_addClass_40_57 (x_28 : Int) (v_18 : Int) (v_6 : Int) (x_1 : Int) (a2 : Int) (a3 : Int) (a4 : Int) : ∀ (f : Nat) (v1 : Int) (v2 : St), Fr [44] [] (fun o : St => o) v2 (mX0_addClass_40_57 x_28 v_18 v_6 x_1 a2 a3 a4 f v1 v2) := by
  intro f
  induction f with
  | zero => intros; rw [mX0_addClass_40_57]; exact Fr_none
  | succ f ih =>
    intro v1 v2
    rw [mX0_addClass_40_57]
    have hS : kept [44] [] v2 v2 := kept.rf
    repeat' first
      | with_reducible exact Fr_none
      | (with_reducible refine Fr_some ?_; assumption)
      | with_reducible refine Fr_gd ?_
      | with_reducible refine Fr_if ?_ ?_
      | with_reducible refine Fr_nxS (kept.upF (by assumption) (by decide)) (fun _ _ => ?_)
      | with_reducible refine Fr_nxS (kept.upA (by assumption) (by decide)) (fun _ _ => ?_)
      | with_reducible refine Fr_nxI (fun _ => ?_)
      | with_reducible refine Fr_bdS1 ?_ (fun _ _ => ?_)
      | with_reducible refine Fr_bdI1 (fun _ => ?_)
      | with_reducible exact (ih _ _).to (by assumption) (fun _ h => h) (fun _ h => h)
theorem fr_mX0_addClass_40_31 (v_6 : Int) (x_1 : Int) (a2 : Int) (a3 : Int) (a4 : Int) : ∀ (f : Nat) (v1 : Int) (v2 : St), Fr [44] [] (fun o : St => o) v2 (mX0_addClass_40_31 v_6 x_1 a2 a3 a4 f v1 v2) := by
  intro f
  induction f with
  | zero => intros; rw [mX0_addClass_40_31]; exact Fr_none
  | succ f ih =>
    intro v1 v2
    rw [mX0_addClass_40_31]
    have hS : kept [44] [] v2 v2 := kept.rf
    repeat' first
      | with_reducible exact Fr_none
      | (with_reducible refine Fr_some ?_; assumption)
      | with_reducible refine Fr_gd ?_
      | with_reducible refine Fr_if ?_ ?_
      | with_reducible refine Fr_nxS (kept.upF (by assumption) (by decide)) (fun _ _ => ?_)
      | with_reducible refine Fr_nxS (kept.upA (by assumption) (by decide)) (fun _ _ => ?_)
      | with_reducible refine Fr_nxI (fun _ => ?_)
      | with_reducible refine Fr_bdS1 ?_ (fun _ _ => ?_)
      | with_reducible refine Fr_bdI1 (fun _ => ?_)
      | with_reducible exact (fr_mX0_addClass_40_57 _ _ _ _ _ _ _ _ _ _).to (by assumption) (by decide) (by decide)
      | with_reducible exact (ih _ _).to (by assumption) (fun _ h => h) (fun _ h => h)
theorem fr_mX0_addClass_40_18 (x_1 : Int) (a2 : Int) (a3 : Int) (a4 : Int) : ∀ (f : Nat) (v1 : Int) (v2 : St), Fr [44] [] (fun o : St => o) v2 (mX0_addClass_40_18 x_1 a2 a3 a4 f v1 v2) := by
  intro f
  induction f with
  | zero => intros; rw [mX0_addClass_40_18]; exact Fr_none
  | succ f ih =>
    intro v1 v2
    rw [mX0_addClass_40_18]
    have hS : kept [44] [] v2 v2 := kept.rf
    repeat' first
      | with_reducible exact Fr_none
      | (with_reducible refine Fr_some ?_; assumption)
      | with_reducible refine Fr_gd ?_
      | with_reducible refine Fr_if ?_ ?_
      | with_reducible refine Fr_nxS (kept.upF (by assumption) (by decide)) (fun _ _ => ?_)
      | with_reducible refine Fr_nxS (kept.upA (by assumption) (by decide)) (fun _ _ => ?_)
      | with_reducible refine Fr_nxI (fun _ => ?_)
      | with_reducible refine Fr_bdS1 ?_ (fun _ _ => ?_)
      | with_reducible refine Fr_bdI1 (fun _ => ?_)
      | with_reducible exact (fr_mX0_addClass_40_31 _ _ _ _ _ _ _ _).to (by assumption) (by decide) (by decide)
      | with_reducible exact (ih _ _).to (by assumption) (fun _ h => h) (fun _ h => h)
theorem fr_mX0_addClass_40 (S0 : St) (a1 : Int) (a2 : Int) (a3 : Int) (a4 : Int) : Fr [44] [] (fun o : St => o) S0 (mX0_addClass_40 S0 a1 a2 a3 a4) := by
  unfold mX0_addClass_40
  have hS : kept [44] [] S0 S0 := kept.rf
  repeat' first
    | with_reducible exact Fr_none
    | (with_reducible refine Fr_some ?_; assumption)
    | with_reducible refine Fr_gd ?_
    | with_reducible refine Fr_if ?_ ?_
    | with_reducible refine Fr_nxS (kept.upF (by assumption) (by decide)) (fun _ _ => ?_)
    | with_reducible refine Fr_nxS (kept.upA (by assumption) (by decide)) (fun _ _ => ?_)
    | with_reducible refine Fr_nxI (fun _ => ?_)
    | with_reducible refine Fr_bdS1 ?_ (fun _ _ => ?_)
    | with_reducible refine Fr_bdI1 (fun _ => ?_)
    | with_reducible exact (fr_mX0_addClass_40_18 _ _ _ _ _ _ _).to (by assumption) (by decide) (by decide)
theorem fr_mX0_keepStage_40_49 (v_5 : Int) (x_4 : Int) (a1 : Int) : ∀ (f : Nat) (v1 : Int) (v2 : Int) (v3 : St), Fr [46] [] (fun o : Int × St => o.2) v3 (mX0_keepStage_40_49 v_5 x_4 a1 f v1 v2 v3) := by
  intro f
  induction f with
  | zero => intros; rw [mX0_keepStage_40_49]; exact Fr_none
  | succ f ih =>
    intro v1 v2 v3
    rw [mX0_keepStage_40_49]
    have hS : kept [46] [] v3 v3 := kept.rf
    repeat' first
      | with_reducible exact Fr_none
      | (with_reducible refine Fr_some ?_; assumption)
      | with_reducible refine Fr_gd ?_
      | with_reducible refine Fr_if ?_ ?_
      | with_reducible refine Fr_nxS (kept.upF (by assumption) (by decide)) (fun _ _ => ?_)
      | with_reducible refine Fr_nxS (kept.upA (by assumption) (by decide)) (fun _ _ => ?_)
      | with_reducible refine Fr_nxI (fun _ => ?_)
      | with_reducible refine Fr_bdS1 ?_ (fun _ _ => ?_)
      | with_reducible refine Fr_bdI1 (fun _ => ?_)
      | with_reducible exact (ih _ _ _).to (by assumption) (fun _ h => h) (fun _ h => h)
theorem fr_mX0_keepStage_40_31 (x_4 : Int) (a1 : Int) : ∀ (f : Nat) (v1 : Int) (v2 : St), Fr [46] [] (fun o : St => o) v2 (mX0_keepStage_40_31 x_4 a1 f v1 v2) := by
  intro f
  induction f with
  | zero => intros; rw [mX0_keepStage_40_31]; exact Fr_none
  | succ f ih =>
    intro v1 v2
    rw [mX0_keepStage_40_31]
    have hS : kept [46] [] v2 v2 := kept.rf
    repeat' first
      | with_reducible exact Fr_none
      | (with_reducible refine Fr_some ?_; assumption)
      | with_reducible refine Fr_gd ?_
      | with_reducible refine Fr_if ?_ ?_
      | with_reducible refine Fr_nxS (kept.upF (by assumption) (by decide)) (fun _ _ => ?_)
      | with_reducible refine Fr_nxS (kept.upA (by assumption) (by decide)) (fun _ _ => ?_)
      | with_reducible refine Fr_nxI (fun _ => ?_)
      | with_reducible refine Fr_bdS2 ?_ (fun _ _ _ => ?_)
      | with_reducible refine Fr_bdI2 (fun _ _ => ?_)
      | with_reducible exact (fr_mX0_keepStage_40_49 _ _ _ _ _ _ _).to (by assumption) (by decide) (by decide)
      | with_reducible exact (ih _ _).to (by assumption) (fun _ h => h) (fun _ h => h)
theorem fr_mX0_keepStage_40 (S0 : St) (a1 : Int) (a2 : Int) : Fr [46] [] (fun o : St => o) S0 (mX0_keepStage_40 S0 a1 a2) := by
  unfold mX0_keepStage_40
  have hS : kept [46] [] S0 S0 := kept.rf
  repeat' first
    | with_reducible exact Fr_none
    | (with_reducible refine Fr_some ?_; assumption)
    | with_reducible refine Fr_gd ?_
    | with_reducible refine Fr_if ?_ ?_
    | with_reducible refine Fr_nxS (kept.upF (by assumption) (by decide)) (fun _ _ => ?_)
    | with_reducible refine Fr_nxS (kept.upA (by assumption) (by decide)) (fun _ _ => ?_)
    | with_reducible refine Fr_nxI (fun _ => ?_)
    | with_reducible refine Fr_bdS1 ?_ (fun _ _ => ?_)
    | with_reducible refine Fr_bdI1 (fun _ => ?_)
    | with_reducible exact (fr_mX0_keepStage_40_31 _ _ _ _ _).to (by assumption) (by decide) (by decide)
theorem fr_mX0_addClasses_40_103 (v_1 : Int) (a1 : Int) (a2 : Int) : ∀ (f : Nat) (v1 : Int) (v2 : St), Fr [44] [] (fun o : St => o) v2 (mX0_addClasses_40_103 v_1 a1 a2 f v1 v2) := by
  intro f
  induction f with
  | zero => intros; rw [mX0_addClasses_40_103]; exact Fr_none
  | succ f ih =>
    intro v1 v2
    rw [mX0_addClasses_40_103]
    have hS : kept [44] [] v2 v2 := kept.rf
    repeat' first
      | with_reducible exact Fr_none
      | (with_reducible refine Fr_some ?_; assumption)
      | with_reducible refine Fr_gd ?_
      | with_reducible refine Fr_if ?_ ?_
      | with_reducible refine Fr_nxS (kept.upF (by assumption) (by decide)) (fun _ _ => ?_)
      | with_reducible refine Fr_nxS (kept.upA (by assumption) (by decide)) (fun _ _ => ?_)
      | with_reducible refine Fr_nxI (fun _ => ?_)
      | with_reducible refine Fr_bdS1 ?_ (fun _ _ => ?_)
      | with_reducible refine Fr_bdI1 (fun _ => ?_)
      | with_reducible exact (fr_mX0_addClass_40 _ _ _ _ _).to (by assumption) (by decide) (by decide)
      | with_reducible exact (ih _ _).to (by assumption) (fun _ h => h) (fun _ h => h)
theorem fr_mX0_addClasses_40_35 (r_18 : Int) (v_1 : Int) (a1 : Int) (a2 : Int) : ∀ (f : Nat) (v1 : Int) (v2 : St), Fr [45] [] (fun o : St => o) v2 (mX0_addClasses_40_35 r_18 v_1 a1 a2 f v1 v2) := by
  intro f
  induction f with
  | zero => intros; rw [mX0_addClasses_40_35]; exact Fr_none
  | succ f ih =>
    intro v1 v2
    rw [mX0_addClasses_40_35]
    have hS : kept [45] [] v2 v2 := kept.rf
    repeat' first
      | with_reducible exact Fr_none
      | (with_reducible refine Fr_some ?_; assumption)
      | with_reducible refine Fr_gd ?_
      | with_reducible refine Fr_if ?_ ?_
      | with_reducible refine Fr_nxS (kept.upF (by assumption) (by decide)) (fun _ _ => ?_)
      | with_reducible refine Fr_nxS (kept.upA (by assumption) (by decide)) (fun _ _ => ?_)
      | with_reducible refine Fr_nxI (fun _ => ?_)
      | with_reducible refine Fr_bdS1 ?_ (fun _ _ => ?_)
      | with_reducible refine Fr_bdI1 (fun _ => ?_)
      | with_reducible exact (ih _ _).to (by assumption) (fun _ h => h) (fun _ h => h)
theorem fr_mX0_addClasses_40_2 (a1 : Int) (a2 : Int) : ∀ (f : Nat) (v1 : Int) (v2 : St), Fr [44, 45] [] (fun o : St => o) v2 (mX0_addClasses_40_2 a1 a2 f v1 v2) := by
  intro f
  induction f with
  | zero => intros; rw [mX0_addClasses_40_2]; exact Fr_none
  | succ f ih =>
    intro v1 v2
    rw [mX0_addClasses_40_2]
    have hS : kept [44, 45] [] v2 v2 := kept.rf
    repeat' first
      | with_reducible exact Fr_none
      | (with_reducible refine Fr_some ?_; assumption)
      | with_reducible refine Fr_gd ?_
      | with_reducible refine Fr_if ?_ ?_
      | with_reducible refine Fr_nxS (kept.upF (by assumption) (by decide)) (fun _ _ => ?_)
      | with_reducible refine Fr_nxS (kept.upA (by assumption) (by decide)) (fun _ _ => ?_)
      | with_reducible refine Fr_nxI (fun _ => ?_)
      | with_reducible refine Fr_bdS1 ?_ (fun _ _ => ?_)
      | with_reducible refine Fr_bdI1 (fun _ => ?_)
      | with_reducible exact (fr_mX0_addClasses_40_35 _ _ _ _ _ _ _).to (by assumption) (by decide) (by decide)
      | with_reducible exact (fr_mX0_addClasses_40_103 _ _ _ _ _ _).to (by assumption) (by decide) (by decide)
      | with_reducible exact (ih _ _).to (by assumption) (fun _ h => h) (fun _ h => h)
theorem fr_mX0_addClasses_40 (S0 : St) (a1 : Int) (a2 : Int) : Fr [44, 45, 46] [] (fun o : St => o) S0 (mX0_addClasses_40 S0 a1 a2) := by
  unfold mX0_addClasses_40
  have hS : kept [44, 45, 46] [] S0 S0 := kept.rf
  repeat' first
    | with_reducible exact Fr_none
    | (with_reducible refine Fr_some ?_; assumption)
    | with_reducible refine Fr_gd ?_
    | with_reducible refine Fr_if ?_ ?_
    | with_reducible refine Fr_nxS (kept.upF (by assumption) (by decide)) (fun _ _ => ?_)
    | with_reducible refine Fr_nxS (kept.upA (by assumption) (by decide)) (fun _ _ => ?_)
    | with_reducible refine Fr_nxI (fun _ => ?_)
    | with_reducible refine Fr_bdS1 ?_ (fun _ _ => ?_)
    | with_reducible refine Fr_bdI1 (fun _ => ?_)
    | with_reducible exact (fr_mX0_addClasses_40_2 _ _ _ _ _).to (by assumption) (by decide) (by decide)
    | with_reducible exact (fr_mX0_keepStage_40 _ _ _).to (by assumption) (by decide) (by decide)
theorem fr_mX0_copyCells_40_41_41_3 (a2 : Int) (a4 : Int) (a5 : Int) : ∀ (f : Nat) (v1 : Int) (v2 : St), Fr [41] [] (fun o : St => o) v2 (mX0_copyCells_40_41_41_3 a2 a4 a5 f v1 v2) := by
  intro f
  induction f with
  | zero => intros; rw [mX0_copyCells_40_41_41_3]; exact Fr_none
  | succ f ih =>
    intro v1 v2
    rw [mX0_copyCells_40_41_41_3]
    have hS : kept [41] [] v2 v2 := kept.rf
    repeat' first
      | with_reducible exact Fr_none
      | (with_reducible refine Fr_some ?_; assumption)
      | with_reducible refine Fr_gd ?_
      | with_reducible refine Fr_if ?_ ?_
      | with_reducible refine Fr_nxS (kept.upF (by assumption) (by decide)) (fun _ _ => ?_)
      | with_reducible refine Fr_nxS (kept.upA (by assumption) (by decide)) (fun _ _ => ?_)
      | with_reducible refine Fr_nxI (fun _ => ?_)
      | with_reducible refine Fr_bdS1 ?_ (fun _ _ => ?_)
      | with_reducible refine Fr_bdI1 (fun _ => ?_)
      | with_reducible exact (ih _ _).to (by assumption) (fun _ h => h) (fun _ h => h)
theorem fr_mX0_copyCells_40_41_41 (S0 : St) (a2 : Int) (a4 : Int) (a5 : Int) : Fr [41] [] (fun o : St => o) S0 (mX0_copyCells_40_41_41 S0 a2 a4 a5) := by
  unfold mX0_copyCells_40_41_41
  have hS : kept [41] [] S0 S0 := kept.rf
  repeat' first
    | with_reducible exact Fr_none
    | (with_reducible refine Fr_some ?_; assumption)
    | with_reducible refine Fr_gd ?_
    | with_reducible refine Fr_if ?_ ?_
    | with_reducible refine Fr_nxS (kept.upF (by assumption) (by decide)) (fun _ _ => ?_)
    | with_reducible refine Fr_nxS (kept.upA (by assumption) (by decide)) (fun _ _ => ?_)
    | with_reducible refine Fr_nxI (fun _ => ?_)
    | with_reducible refine Fr_bdS1 ?_ (fun _ _ => ?_)
    | with_reducible refine Fr_bdI1 (fun _ => ?_)
    | with_reducible exact (fr_mX0_copyCells_40_41_41_3 _ _ _ _ _ _).to (by assumption) (by decide) (by decide)
theorem fr_mX0_clearCells_40_44_3 (a2 : Int) (a3 : Int) : ∀ (f : Nat) (v1 : Int) (v2 : St), Fr [44] [] (fun o : St => o) v2 (mX0_clearCells_40_44_3 a2 a3 f v1 v2) := by
  intro f
  induction f with
  | zero => intros; rw [mX0_clearCells_40_44_3]; exact Fr_none
  | succ f ih =>
    intro v1 v2
    rw [mX0_clearCells_40_44_3]
    have hS : kept [44] [] v2 v2 := kept.rf
    repeat' first
      | with_reducible exact Fr_none
      | (with_reducible refine Fr_some ?_; assumption)
      | with_reducible refine Fr_gd ?_
      | with_reducible refine Fr_if ?_ ?_
      | with_reducible refine Fr_nxS (kept.upF (by assumption) (by decide)) (fun _ _ => ?_)
      | with_reducible refine Fr_nxS (kept.upA (by assumption) (by decide)) (fun _ _ => ?_)
      | with_reducible refine Fr_nxI (fun _ => ?_)
      | with_reducible refine Fr_bdS1 ?_ (fun _ _ => ?_)
      | with_reducible refine Fr_bdI1 (fun _ => ?_)
      | with_reducible exact (ih _ _).to (by assumption) (fun _ h => h) (fun _ h => h)
theorem fr_mX0_clearCells_40_44 (S0 : St) (a2 : Int) (a3 : Int) : Fr [44] [] (fun o : St => o) S0 (mX0_clearCells_40_44 S0 a2 a3) := by
  unfold mX0_clearCells_40_44
  have hS : kept [44] [] S0 S0 := kept.rf
  repeat' first
    | with_reducible exact Fr_none
    | (with_reducible refine Fr_some ?_; assumption)
    | with_reducible refine Fr_gd ?_
    | with_reducible refine Fr_if ?_ ?_
    | with_reducible refine Fr_nxS (kept.upF (by assumption) (by decide)) (fun _ _ => ?_)
    | with_reducible refine Fr_nxS (kept.upA (by assumption) (by decide)) (fun _ _ => ?_)
    | with_reducible refine Fr_nxI (fun _ => ?_)
    | with_reducible refine Fr_bdS1 ?_ (fun _ _ => ?_)
    | with_reducible refine Fr_bdI1 (fun _ => ?_)
    | with_reducible exact (fr_mX0_clearCells_40_44_3 _ _ _ _ _).to (by assumption) (by decide) (by decide)
theorem fr_mX0_clearRows_40_10 (v_1 : Int) (a1 : Int) : ∀ (f : Nat) (v1 : Int) (v2 : St), Fr [44] [] (fun o : St => o) v2 (mX0_clearRows_40_10 v_1 a1 f v1 v2) := by
  intro f
  induction f with
  | zero => intros; rw [mX0_clearRows_40_10]; exact Fr_none
  | succ f ih =>
    intro v1 v2
    rw [mX0_clearRows_40_10]
    have hS : kept [44] [] v2 v2 := kept.rf
    repeat' first
      | with_reducible exact Fr_none
      | (with_reducible refine Fr_some ?_; assumption)
      | with_reducible refine Fr_gd ?_
      | with_reducible refine Fr_if ?_ ?_
      | with_reducible refine Fr_nxS (kept.upF (by assumption) (by decide)) (fun _ _ => ?_)
      | with_reducible refine Fr_nxS (kept.upA (by assumption) (by decide)) (fun _ _ => ?_)
      | with_reducible refine Fr_nxI (fun _ => ?_)
      | with_reducible refine Fr_bdS1 ?_ (fun _ _ => ?_)
      | with_reducible refine Fr_bdI1 (fun _ => ?_)
      | with_reducible exact (fr_mX0_clearCells_40_44 _ _ _).to (by assumption) (by decide) (by decide)
      | with_reducible exact (ih _ _).to (by assumption) (fun _ h => h) (fun _ h => h)
theorem fr_mX0_clearRows_40_2 (a1 : Int) : ∀ (f : Nat) (v1 : Int) (v2 : St), Fr [44] [] (fun o : St => o) v2 (mX0_clearRows_40_2 a1 f v1 v2) := by
  intro f
  induction f with
  | zero => intros; rw [mX0_clearRows_40_2]; exact Fr_none
  | succ f ih =>
    intro v1 v2
    rw [mX0_clearRows_40_2]
    have hS : kept [44] [] v2 v2 := kept.rf
    repeat' first
      | with_reducible exact Fr_none
      | (with_reducible refine Fr_some ?_; assumption)
      | with_reducible refine Fr_gd ?_
      | with_reducible refine Fr_if ?_ ?_
      | with_reducible refine Fr_nxS (kept.upF (by assumption) (by decide)) (fun _ _ => ?_)
      | with_reducible refine Fr_nxS (kept.upA (by assumption) (by decide)) (fun _ _ => ?_)
      | with_reducible refine Fr_nxI (fun _ => ?_)
      | with_reducible refine Fr_bdS1 ?_ (fun _ _ => ?_)
      | with_reducible refine Fr_bdI1 (fun _ => ?_)
      | with_reducible exact (fr_mX0_clearRows_40_10 _ _ _ _ _).to (by assumption) (by decide) (by decide)
      | with_reducible exact (ih _ _).to (by assumption) (fun _ h => h) (fun _ h => h)
theorem fr_mX0_clearRows_40 (S0 : St) (a1 : Int) : Fr [44] [] (fun o : St => o) S0 (mX0_clearRows_40 S0 a1) := by
  unfold mX0_clearRows_40
  have hS : kept [44] [] S0 S0 := kept.rf
  repeat' first
    | with_reducible exact Fr_none
    | (with_reducible refine Fr_some ?_; assumption)
    | with_reducible refine Fr_gd ?_
    | with_reducible refine Fr_if ?_ ?_
    | with_reducible refine Fr_nxS (kept.upF (by assumption) (by decide)) (fun _ _ => ?_)
    | with_reducible refine Fr_nxS (kept.upA (by assumption) (by decide)) (fun _ _ => ?_)
    | with_reducible refine Fr_nxI (fun _ => ?_)
    | with_reducible refine Fr_bdS1 ?_ (fun _ _ => ?_)
    | with_reducible refine Fr_bdI1 (fun _ => ?_)
    | with_reducible exact (fr_mX0_clearRows_40_2 _ _ _ _).to (by assumption) (by decide) (by decide)
theorem fr_mX0_countSequence_40_185 (v_19 : Int) (x_3 : Int) (x_1 : Int) (a1 : Int) (a2 : Int) : ∀ (f : Nat) (v1 : Int) (v2 : St), Fr [41] [] (fun o : St => o) v2 (mX0_countSequence_40_185 v_19 x_3 x_1 a1 a2 f v1 v2) := by
  intro f
  induction f with
  | zero => intros; rw [mX0_countSequence_40_185]; exact Fr_none
  | succ f ih =>
    intro v1 v2
    rw [mX0_countSequence_40_185]
    have hS : kept [41] [] v2 v2 := kept.rf
    repeat' first
      | with_reducible exact Fr_none
      | (with_reducible refine Fr_some ?_; assumption)
      | with_reducible refine Fr_gd ?_
      | with_reducible refine Fr_if ?_ ?_
      | with_reducible refine Fr_nxS (kept.upF (by assumption) (by decide)) (fun _ _ => ?_)
      | with_reducible refine Fr_nxS (kept.upA (by assumption) (by decide)) (fun _ _ => ?_)
      | with_reducible refine Fr_nxI (fun _ => ?_)
      | with_reducible refine Fr_bdS1 ?_ (fun _ _ => ?_)
      | with_reducible refine Fr_bdI1 (fun _ => ?_)
      | with_reducible exact (ih _ _).to (by assumption) (fun _ h => h) (fun _ h => h)
theorem fr_mX0_countSequence_40_166 (x_3 : Int) (x_1 : Int) (a1 : Int) (a2 : Int) : ∀ (f : Nat) (v1 : Int) (v2 : St), Fr [41] [] (fun o : St => o) v2 (mX0_countSequence_40_166 x_3 x_1 a1 a2 f v1 v2) := by
  intro f
  induction f with
  | zero => intros; rw [mX0_countSequence_40_166]; exact Fr_none
  | succ f ih =>
    intro v1 v2
    rw [mX0_countSequence_40_166]
    have hS : kept [41] [] v2 v2 := kept.rf
    repeat' first
      | with_reducible exact Fr_none
      | (with_reducible refine Fr_some ?_; assumption)
      | with_reducible refine Fr_gd ?_
      | with_reducible refine Fr_if ?_ ?_
      | with_reducible refine Fr_nxS (kept.upF (by assumption) (by decide)) (fun _ _ => ?_)
      | with_reducible refine Fr_nxS (kept.upA (by assumption) (by decide)) (fun _ _ => ?_)
      | with_reducible refine Fr_nxI (fun _ => ?_)
      | with_reducible refine Fr_bdS1 ?_ (fun _ _ => ?_)
      | with_reducible refine Fr_bdI1 (fun _ => ?_)
      | with_reducible exact (fr_mX0_countSequence_40_185 _ _ _ _ _ _ _ _).to (by assumption) (by decide) (by decide)
      | with_reducible exact (ih _ _).to (by assumption) (fun _ h => h) (fun _ h => h)
theorem fr_mX0_countSequence_40 (S0 : St) (a1 : Int) (a2 : Int) : Fr [41, 44, 45, 46] [] (fun o : St => o) S0 (mX0_countSequence_40 S0 a1 a2) := by
  unfold mX0_countSequence_40
  have hS : kept [41, 44, 45, 46] [] S0 S0 := kept.rf
  repeat' first
    | with_reducible exact Fr_none
    | (with_reducible refine Fr_some ?_; assumption)
    | with_reducible refine Fr_gd ?_
    | with_reducible refine Fr_if ?_ ?_
    | with_reducible refine Fr_nxS (kept.upF (by assumption) (by decide)) (fun _ _ => ?_)
    | with_reducible refine Fr_nxS (kept.upA (by assumption) (by decide)) (fun _ _ => ?_)
    | with_reducible refine Fr_nxI (fun _ => ?_)
    | with_reducible refine Fr_bdS1 ?_ (fun _ _ => ?_)
    | with_reducible refine Fr_bdI1 (fun _ => ?_)
    | with_reducible exact (fr_mX0_clearCells_40_41 _ _ _).to (by assumption) (by decide) (by decide)
    | with_reducible exact (fr_mX0_clearRows_40 _ _).to (by assumption) (by decide) (by decide)
    | with_reducible exact (fr_mX0_keepStage_40 _ _ _).to (by assumption) (by decide) (by decide)
    | with_reducible exact (fr_mX0_copyCells_40_41_41 _ _ _ _).to (by assumption) (by decide) (by decide)
    | with_reducible exact (fr_mX0_growRows_40 _ _ _).to (by assumption) (by decide) (by decide)
    | with_reducible exact (fr_mX0_addClasses_40 _ _ _).to (by assumption) (by decide) (by decide)
    | with_reducible exact (fr_mX0_countSequence_40_166 _ _ _ _ _ _ _).to (by assumption) (by decide) (by decide)
theorem fr_mX0_copyCells_40_43_41_3 (a2 : Int) (a4 : Int) (a5 : Int) : ∀ (f : Nat) (v1 : Int) (v2 : St), Fr [41] [] (fun o : St => o) v2 (mX0_copyCells_40_43_41_3 a2 a4 a5 f v1 v2) := by
  intro f
  induction f with
  | zero => intros; rw [mX0_copyCells_40_43_41_3]; exact Fr_none
  | succ f ih =>
    intro v1 v2
    rw [mX0_copyCells_40_43_41_3]
    have hS : kept [41] [] v2 v2 := kept.rf
    repeat' first
      | with_reducible exact Fr_none
      | (with_reducible refine Fr_some ?_; assumption)
      | with_reducible refine Fr_gd ?_
      | with_reducible refine Fr_if ?_ ?_
      | with_reducible refine Fr_nxS (kept.upF (by assumption) (by decide)) (fun _ _ => ?_)
      | with_reducible refine Fr_nxS (kept.upA (by assumption) (by decide)) (fun _ _ => ?_)
      | with_reducible refine Fr_nxI (fun _ => ?_)
      | with_reducible refine Fr_bdS1 ?_ (fun _ _ => ?_)
      | with_reducible refine Fr_bdI1 (fun _ => ?_)
      | with_reducible exact (ih _ _).to (by assumption) (fun _ h => h) (fun _ h => h)
theorem fr_mX0_copyCells_40_43_41 (S0 : St) (a2 : Int) (a4 : Int) (a5 : Int) : Fr [41] [] (fun o : St => o) S0 (mX0_copyCells_40_43_41 S0 a2 a4 a5) := by
  unfold mX0_copyCells_40_43_41
  have hS : kept [41] [] S0 S0 := kept.rf
  repeat' first
    | with_reducible exact Fr_none
    | (with_reducible refine Fr_some ?_; assumption)
    | with_reducible refine Fr_gd ?_
    | with_reducible refine Fr_if ?_ ?_
    | with_reducible refine Fr_nxS (kept.upF (by assumption) (by decide)) (fun _ _ => ?_)
    | with_reducible refine Fr_nxS (kept.upA (by assumption) (by decide)) (fun _ _ => ?_)
    | with_reducible refine Fr_nxI (fun _ => ?_)
    | with_reducible refine Fr_bdS1 ?_ (fun _ _ => ?_)
    | with_reducible refine Fr_bdI1 (fun _ => ?_)
    | with_reducible exact (fr_mX0_copyCells_40_43_41_3 _ _ _ _ _ _).to (by assumption) (by decide) (by decide)
theorem fr_mX0_sumTerms_40_41_3 (a1 : Int) (a2 : Int) (a4 : Int) : ∀ (f : Nat) (v1 : Int) (v2 : St), Fr [41] [] (fun o : St => o) v2 (mX0_sumTerms_40_41_3 a1 a2 a4 f v1 v2) := by
  intro f
  induction f with
  | zero => intros; rw [mX0_sumTerms_40_41_3]; exact Fr_none
  | succ f ih =>
    intro v1 v2
    rw [mX0_sumTerms_40_41_3]
    have hS : kept [41] [] v2 v2 := kept.rf
    repeat' first
      | with_reducible exact Fr_none
      | (with_reducible refine Fr_some ?_; assumption)
      | with_reducible refine Fr_gd ?_
      | with_reducible refine Fr_if ?_ ?_
      | with_reducible refine Fr_nxS (kept.upF (by assumption) (by decide)) (fun _ _ => ?_)
      | with_reducible refine Fr_nxS (kept.upA (by assumption) (by decide)) (fun _ _ => ?_)
      | with_reducible refine Fr_nxI (fun _ => ?_)
      | with_reducible refine Fr_bdS1 ?_ (fun _ _ => ?_)
      | with_reducible refine Fr_bdI1 (fun _ => ?_)
      | with_reducible exact (ih _ _).to (by assumption) (fun _ h => h) (fun _ h => h)
theorem fr_mX0_sumTerms_40_41 (S0 : St) (a1 : Int) (a2 : Int) (a4 : Int) : Fr [41] [] (fun o : St => o) S0 (mX0_sumTerms_40_41 S0 a1 a2 a4) := by
  unfold mX0_sumTerms_40_41
  have hS : kept [41] [] S0 S0 := kept.rf
  repeat' first
    | with_reducible exact Fr_none
    | (with_reducible refine Fr_some ?_; assumption)
    | with_reducible refine Fr_gd ?_
    | with_reducible refine Fr_if ?_ ?_
    | with_reducible refine Fr_nxS (kept.upF (by assumption) (by decide)) (fun _ _ => ?_)
    | with_reducible refine Fr_nxS (kept.upA (by assumption) (by decide)) (fun _ _ => ?_)
    | with_reducible refine Fr_nxI (fun _ => ?_)
    | with_reducible refine Fr_bdS1 ?_ (fun _ _ => ?_)
    | with_reducible refine Fr_bdI1 (fun _ => ?_)
    | with_reducible exact (fr_mX0_sumTerms_40_41_3 _ _ _ _ _ _).to (by assumption) (by decide) (by decide)
theorem fr_mX0_countPart_40 (S0 : St) (a1 : Int) (a2 : Int) : Fr [41, 44, 45, 46] [] (fun o : St => o) S0 (mX0_countPart_40 S0 a1 a2) := by
  unfold mX0_countPart_40
  have hS : kept [41, 44, 45, 46] [] S0 S0 := kept.rf
  repeat' first
    | with_reducible exact Fr_none
    | (with_reducible refine Fr_some ?_; assumption)
    | with_reducible refine Fr_gd ?_
    | with_reducible refine Fr_if ?_ ?_
    | with_reducible refine Fr_nxS (kept.upF (by assumption) (by decide)) (fun _ _ => ?_)
    | with_reducible refine Fr_nxS (kept.upA (by assumption) (by decide)) (fun _ _ => ?_)
    | with_reducible refine Fr_nxI (fun _ => ?_)
    | with_reducible refine Fr_bdS1 ?_ (fun _ _ => ?_)
    | with_reducible refine Fr_bdI1 (fun _ => ?_)
    | with_reducible exact (fr_mX0_sumTerms_40_41 _ _ _ _).to (by assumption) (by decide) (by decide)
    | with_reducible exact (fr_mX0_copyCells_40_43_41 _ _ _ _).to (by assumption) (by decide) (by decide)
    | with_reducible exact (fr_mX0_clearCells_40_41 _ _ _).to (by assumption) (by decide) (by decide)
    | with_reducible exact (fr_mX0_countSequence_40 _ _ _).to (by assumption) (by decide) (by decide)
theorem fr_mX0_sumTerms_40_43_3 (a1 : Int) (a2 : Int) (a4 : Int) : ∀ (f : Nat) (v1 : Int) (v2 : St), Fr [43] [] (fun o : St => o) v2 (mX0_sumTerms_40_43_3 a1 a2 a4 f v1 v2) := by
  intro f
  induction f with
  | zero => intros; rw [mX0_sumTerms_40_43_3]; exact Fr_none
  | succ f ih =>
    intro v1 v2
    rw [mX0_sumTerms_40_43_3]
    have hS : kept [43] [] v2 v2 := kept.rf
    repeat' first
      | with_reducible exact Fr_none
      | (with_reducible refine Fr_some ?_; assumption)
      | with_reducible refine Fr_gd ?_
      | with_reducible refine Fr_if ?_ ?_
      | with_reducible refine Fr_nxS (kept.upF (by assumption) (by decide)) (fun _ _ => ?_)
      | with_reducible refine Fr_nxS (kept.upA (by assumption) (by decide)) (fun _ _ => ?_)
      | with_reducible refine Fr_nxI (fun _ => ?_)
      | with_reducible refine Fr_bdS1 ?_ (fun _ _ => ?_)
      | with_reducible refine Fr_bdI1 (fun _ => ?_)
      | with_reducible exact (ih _ _).to (by assumption) (fun _ h => h) (fun _ h => h)
theorem fr_mX0_sumTerms_40_43 (S0 : St) (a1 : Int) (a2 : Int) (a4 : Int) : Fr [43] [] (fun o : St => o) S0 (mX0_sumTerms_40_43 S0 a1 a2 a4) := by
  unfold mX0_sumTerms_40_43
  have hS : kept [43] [] S0 S0 := kept.rf
  repeat' first
    | with_reducible exact Fr_none
    | (with_reducible refine Fr_some ?_; assumption)
    | with_reducible refine Fr_gd ?_
    | with_reducible refine Fr_if ?_ ?_
    | with_reducible refine Fr_nxS (kept.upF (by assumption) (by decide)) (fun _ _ => ?_)
    | with_reducible refine Fr_nxS (kept.upA (by assumption) (by decide)) (fun _ _ => ?_)
    | with_reducible refine Fr_nxI (fun _ => ?_)
    | with_reducible refine Fr_bdS1 ?_ (fun _ _ => ?_)
    | with_reducible refine Fr_bdI1 (fun _ => ?_)
    | with_reducible exact (fr_mX0_sumTerms_40_43_3 _ _ _ _ _ _).to (by assumption) (by decide) (by decide)
theorem fr_mX0_take_40_59 (v_7 : Int) : ∀ (f : Nat) (v1 : Int) (v2 : St), Fr [41, 42, 43, 44, 45, 46] [] (fun o : St => o) v2 (mX0_take_40_59 v_7 f v1 v2) := by
  intro f
  induction f with
  | zero => intros; rw [mX0_take_40_59]; exact Fr_none
  | succ f ih =>
    intro v1 v2
    rw [mX0_take_40_59]
    have hS : kept [41, 42, 43, 44, 45, 46] [] v2 v2 := kept.rf
    repeat' first
      | with_reducible exact Fr_none
      | (with_reducible refine Fr_some ?_; assumption)
      | with_reducible refine Fr_gd ?_
      | with_reducible refine Fr_if ?_ ?_
      | with_reducible refine Fr_nxS (kept.upF (by assumption) (by decide)) (fun _ _ => ?_)
      | with_reducible refine Fr_nxS (kept.upA (by assumption) (by decide)) (fun _ _ => ?_)
      | with_reducible refine Fr_nxI (fun _ => ?_)
      | with_reducible refine Fr_bdS1 ?_ (fun _ _ => ?_)
      | with_reducible refine Fr_bdI1 (fun _ => ?_)
      | with_reducible exact (fr_mX0_countPart_40 _ _ _).to (by assumption) (by decide) (by decide)
      | with_reducible exact (fr_mX0_countTail_40 _ _ _).to (by assumption) (by decide) (by decide)
      | with_reducible exact (fr_mX0_sumTerms_40_43 _ _ _ _).to (by assumption) (by decide) (by decide)
      | with_reducible exact (ih _ _).to (by assumption) (fun _ h => h) (fun _ h => h)
theorem fr_mX0_take_40_46  : ∀ (f : Nat) (v1 : Int) (v2 : St), Fr [41, 42, 43, 44, 45, 46] [] (fun o : St => o) v2 (mX0_take_40_46  f v1 v2) := by
  intro f
  induction f with
  | zero => intros; rw [mX0_take_40_46]; exact Fr_none
  | succ f ih =>
    intro v1 v2
    rw [mX0_take_40_46]
    have hS : kept [41, 42, 43, 44, 45, 46] [] v2 v2 := kept.rf
    repeat' first
      | with_reducible exact Fr_none
      | (with_reducible refine Fr_some ?_; assumption)
      | with_reducible refine Fr_gd ?_
      | with_reducible refine Fr_if ?_ ?_
      | with_reducible refine Fr_nxS (kept.upF (by assumption) (by decide)) (fun _ _ => ?_)
      | with_reducible refine Fr_nxS (kept.upA (by assumption) (by decide)) (fun _ _ => ?_)
      | with_reducible refine Fr_nxI (fun _ => ?_)
      | with_reducible refine Fr_bdS1 ?_ (fun _ _ => ?_)
      | with_reducible refine Fr_bdI1 (fun _ => ?_)
      | with_reducible exact (fr_mX0_take_40_59 _ _ _ _).to (by assumption) (by decide) (by decide)
      | with_reducible exact (ih _ _).to (by assumption) (fun _ h => h) (fun _ h => h)
theorem fr_mX0_take_40_7  : ∀ (f : Nat) (v1 : Int) (v2 : St), Fr [41, 42] [] (fun o : St => o) v2 (mX0_take_40_7  f v1 v2) := by
  intro f
  induction f with
  | zero => intros; rw [mX0_take_40_7]; exact Fr_none
  | succ f ih =>
    intro v1 v2
    rw [mX0_take_40_7]
    have hS : kept [41, 42] [] v2 v2 := kept.rf
    repeat' first
      | with_reducible exact Fr_none
      | (with_reducible refine Fr_some ?_; assumption)
      | with_reducible refine Fr_gd ?_
      | with_reducible refine Fr_if ?_ ?_
      | with_reducible refine Fr_nxS (kept.upF (by assumption) (by decide)) (fun _ _ => ?_)
      | with_reducible refine Fr_nxS (kept.upA (by assumption) (by decide)) (fun _ _ => ?_)
      | with_reducible refine Fr_nxI (fun _ => ?_)
      | with_reducible exact (ih _ _).to (by assumption) (fun _ h => h) (fun _ h => h)
theorem fr_mX0_take_40 (S0 : St) (a1 : Int) : Fr [41, 42, 43, 44, 45, 46] [(40, 1)] (fun o : St => o) S0 (mX0_take_40 S0 a1) := by
  unfold mX0_take_40
  have hS : kept [41, 42, 43, 44, 45, 46] [(40, 1)] S0 S0 := kept.rf
  repeat' first
    | with_reducible exact Fr_none
    | (with_reducible refine Fr_some ?_; assumption)
    | with_reducible refine Fr_gd ?_
    | with_reducible refine Fr_if ?_ ?_
    | with_reducible refine Fr_nxS (kept.upF (by assumption) (by decide)) (fun _ _ => ?_)
    | with_reducible refine Fr_nxS (kept.upA (by assumption) (by decide)) (fun _ _ => ?_)
    | with_reducible refine Fr_nxI (fun _ => ?_)
    | with_reducible refine Fr_bdS1 ?_ (fun _ _ => ?_)
    | with_reducible refine Fr_bdI1 (fun _ => ?_)
    | with_reducible exact (fr_mX0_take_40_7 _ _ _).to (by assumption) (by decide) (by decide)
    | with_reducible exact (fr_mX0_take_40_46 _ _ _).to (by assumption) (by decide) (by decide)
theorem fr_mX4_forget (S0 : St) : Fr [] [(47, 2), (47, 3), (47, 4)] (fun o : St => o) S0 (mX4_forget S0) := by
  unfold mX4_forget
  have hS : kept [] [(47, 2), (47, 3), (47, 4)] S0 S0 := kept.rf
  repeat' first
    | with_reducible exact Fr_none
    | (with_reducible refine Fr_some ?_; assumption)
    | with_reducible refine Fr_gd ?_
    | with_reducible refine Fr_if ?_ ?_
    | with_reducible refine Fr_nxS (kept.upF (by assumption) (by decide)) (fun _ _ => ?_)
    | with_reducible refine Fr_nxS (kept.upA (by assumption) (by decide)) (fun _ _ => ?_)
    | with_reducible refine Fr_nxI (fun _ => ?_)
theorem fr_mX7_forget (S0 : St) : Fr [] [(73, 1)] (fun o : St => o) S0 (mX7_forget S0) := by
  unfold mX7_forget
  have hS : kept [] [(73, 1)] S0 S0 := kept.rf
  repeat' first
    | with_reducible exact Fr_none
    | (with_reducible refine Fr_some ?_; assumption)
    | with_reducible refine Fr_gd ?_
    | with_reducible refine Fr_if ?_ ?_
    | with_reducible refine Fr_nxS (kept.upF (by assumption) (by decide)) (fun _ _ => ?_)
    | with_reducible refine Fr_nxS (kept.upA (by assumption) (by decide)) (fun _ _ => ?_)
    | with_reducible refine Fr_nxI (fun _ => ?_)
theorem fr_mX11_settle (S0 : St) : Fr [34, 35, 36, 37, 38, 39, 41, 42, 43, 44, 45, 46] [(0, 16), (33, 1), (33, 2), (40, 1), (47, 2), (47, 3), (47, 4), (73, 1), (80, 1)] (fun o : St => o) S0 (mX11_settle S0) := by
  unfold mX11_settle
  have hS : kept [34, 35, 36, 37, 38, 39, 41, 42, 43, 44, 45, 46] [(0, 16), (33, 1), (33, 2), (40, 1), (47, 2), (47, 3), (47, 4), (73, 1), (80, 1)] S0 S0 := kept.rf
  repeat' first
    | with_reducible exact Fr_none
    | (with_reducible refine Fr_some ?_; assumption)
    | with_reducible refine Fr_gd ?_
    | with_reducible refine Fr_if ?_ ?_
    | with_reducible refine Fr_nxS (kept.upF (by assumption) (by decide)) (fun _ _ => ?_)
    | with_reducible refine Fr_nxS (kept.upA (by assumption) (by decide)) (fun _ _ => ?_)
    | with_reducible refine Fr_nxI (fun _ => ?_)
    | with_reducible refine Fr_bdS1 ?_ (fun _ _ => ?_)
    | with_reducible refine Fr_bdI1 (fun _ => ?_)
    | with_reducible exact (fr_mX1_stop _).to (by assumption) (by decide) (by decide)
    | with_reducible exact (fr_mX3_study_33 _).to (by assumption) (by decide) (by decide)
    | with_reducible exact (fr_mX0_take_40 _ _).to (by assumption) (by decide) (by decide)
    | with_reducible exact (fr_mX4_forget _).to (by assumption) (by decide) (by decide)
    | with_reducible exact (fr_mX7_forget _).to (by assumption) (by decide) (by decide)
theorem fr_mX2_copy_2_13 (S0 : St) : Fr [3, 4, 5, 6, 7, 8, 9, 10, 11] [(2, 0), (2, 1), (2, 2), (2, 3), (2, 4)] (fun o : St => o) S0 (mX2_copy_2_13 S0) := by
  unfold mX2_copy_2_13
  have hS : kept [3, 4, 5, 6, 7, 8, 9, 10, 11] [(2, 0), (2, 1), (2, 2), (2, 3), (2, 4)] S0 S0 := kept.rf
  repeat' first
    | with_reducible exact Fr_none
    | (with_reducible refine Fr_some ?_; assumption)
    | with_reducible refine Fr_gd ?_
    | with_reducible refine Fr_if ?_ ?_
    | with_reducible refine Fr_nxS (kept.upF (by assumption) (by decide)) (fun _ _ => ?_)
    | with_reducible refine Fr_nxS (kept.upA (by assumption) (by decide)) (fun _ _ => ?_)
    | with_reducible refine Fr_nxS (kept.cpy (by assumption) (by decide)) (fun _ _ => ?_)
    | with_reducible refine Fr_nxI (fun _ => ?_)
theorem fr_mX11_grammar (S0 : St) : Fr [3, 4, 5, 6, 7, 8, 9, 10, 11, 14, 15, 16, 17, 18, 19, 20, 21, 22, 24, 25, 27, 28, 29, 30, 31, 32, 34, 35, 36, 37, 38, 39, 41, 42, 43, 44, 45, 46] [(0, 1), (0, 4), (0, 5), (0, 15), (0, 16), (2, 0), (2, 1), (2, 2), (2, 3), (2, 4), (12, 1), (12, 2), (12, 4), (12, 5), (12, 6), (12, 7), (12, 8), (12, 9), (12, 10), (13, 0), (13, 1), (13, 2), (13, 3), (13, 4), (26, 1), (26, 2), (33, 1), (33, 2), (40, 1), (47, 2), (47, 3), (47, 4), (73, 1), (80, 1)] (fun o : Int × St => o.2) S0 (mX11_grammar S0) := by
  unfold mX11_grammar
  have hS : kept [3, 4, 5, 6, 7, 8, 9, 10, 11, 14, 15, 16, 17, 18, 19, 20, 21, 22, 24, 25, 27, 28, 29, 30, 31, 32, 34, 35, 36, 37, 38, 39, 41, 42, 43, 44, 45, 46] [(0, 1), (0, 4), (0, 5), (0, 15), (0, 16), (2, 0), (2, 1), (2, 2), (2, 3), (2, 4), (12, 1), (12, 2), (12, 4), (12, 5), (12, 6), (12, 7), (12, 8), (12, 9), (12, 10), (13, 0), (13, 1), (13, 2), (13, 3), (13, 4), (26, 1), (26, 2), (33, 1), (33, 2), (40, 1), (47, 2), (47, 3), (47, 4), (73, 1), (80, 1)] S0 S0 := kept.rf
  repeat' first
    | with_reducible exact Fr_none
    | (with_reducible refine Fr_some ?_; assumption)
    | with_reducible refine Fr_gd ?_
    | with_reducible refine Fr_if ?_ ?_
    | with_reducible refine Fr_nxS (kept.upF (by assumption) (by decide)) (fun _ _ => ?_)
    | with_reducible refine Fr_nxS (kept.upA (by assumption) (by decide)) (fun _ _ => ?_)
    | with_reducible refine Fr_nxI (fun _ => ?_)
    | with_reducible refine Fr_bdS1 ?_ (fun _ _ => ?_)
    | with_reducible refine Fr_bdI1 (fun _ => ?_)
    | with_reducible refine Fr_bdS2 ?_ (fun _ _ _ => ?_)
    | with_reducible refine Fr_bdI2 (fun _ _ => ?_)
    | with_reducible exact (fr_mX5_read_12_1 _ _).to (by assumption) (by decide) (by decide)
    | with_reducible exact (fr_mX2_copy_2_13 _).to (by assumption) (by decide) (by decide)
    | with_reducible exact (fr_mX11_settle _).to (by assumption) (by decide) (by decide)
theorem fr_mX11_putFour_3 (a1 : Int) : ∀ (f : Nat) (v1 : Int) (v2 : St), Fr [1] [(0, 1)] (fun o : St => o) v2 (mX11_putFour_3 a1 f v1 v2) := by
  intro f
  induction f with
  | zero => intros; rw [mX11_putFour_3]; exact Fr_none
  | succ f ih =>
    intro v1 v2
    rw [mX11_putFour_3]
    have hS : kept [1] [(0, 1)] v2 v2 := kept.rf
    repeat' first
      | with_reducible exact Fr_none
      | (with_reducible refine Fr_some ?_; assumption)
      | with_reducible refine Fr_gd ?_
      | with_reducible refine Fr_if ?_ ?_
      | with_reducible refine Fr_nxS (kept.upF (by assumption) (by decide)) (fun _ _ => ?_)
      | with_reducible refine Fr_nxS (kept.upA (by assumption) (by decide)) (fun _ _ => ?_)
      | with_reducible refine Fr_nxI (fun _ => ?_)
      | with_reducible exact (ih _ _).to (by assumption) (fun _ h => h) (fun _ h => h)
theorem fr_mX11_putFour (S0 : St) (a1 : Int) : Fr [1] [(0, 1)] (fun o : St => o) S0 (mX11_putFour S0 a1) := by
  unfold mX11_putFour
  have hS : kept [1] [(0, 1)] S0 S0 := kept.rf
  repeat' first
    | with_reducible exact Fr_none
    | (with_reducible refine Fr_some ?_; assumption)
    | with_reducible refine Fr_gd ?_
    | with_reducible refine Fr_if ?_ ?_
    | with_reducible refine Fr_nxS (kept.upF (by assumption) (by decide)) (fun _ _ => ?_)
    | with_reducible refine Fr_nxS (kept.upA (by assumption) (by decide)) (fun _ _ => ?_)
    | with_reducible refine Fr_nxI (fun _ => ?_)
    | with_reducible refine Fr_bdS1 ?_ (fun _ _ => ?_)
    | with_reducible refine Fr_bdI1 (fun _ => ?_)
    | with_reducible exact (fr_mX11_putFour_3 _ _ _ _).to (by assumption) (by decide) (by decide)
theorem fr_mX11_feed (S0 : St) (a1 : Int) (a2 : Int) (a3 : Int) (a4 : Int) (a5 : Int) : Fr [1] [(0, 1)] (fun o : Int × St => o.2) S0 (mX11_feed S0 a1 a2 a3 a4 a5) := by
  unfold mX11_feed
  have hS : kept [1] [(0, 1)] S0 S0 := kept.rf
  repeat' first
    | with_reducible exact Fr_none
    | (with_reducible refine Fr_some ?_; assumption)
    | with_reducible refine Fr_gd ?_
    | with_reducible refine Fr_if ?_ ?_
    | with_reducible refine Fr_nxS (kept.upF (by assumption) (by decide)) (fun _ _ => ?_)
    | with_reducible refine Fr_nxS (kept.upA (by assumption) (by decide)) (fun _ _ => ?_)
    | with_reducible refine Fr_nxI (fun _ => ?_)
    | with_reducible refine Fr_bdS1 ?_ (fun _ _ => ?_)
    | with_reducible refine Fr_bdI1 (fun _ => ?_)
    | with_reducible exact (fr_mX11_putFour _ _).to (by assumption) (by decide) (by decide)
theorem fr_mX11_end (S0 : St) (a1 : Int) : Fr [] [(0, 1)] (fun o : Int × St => o.2) S0 (mX11_end S0 a1) := by
  unfold mX11_end
  have hS : kept [] [(0, 1)] S0 S0 := kept.rf
  repeat' first
    | with_reducible exact Fr_none
    | (with_reducible refine Fr_some ?_; assumption)
    | with_reducible refine Fr_gd ?_
    | with_reducible refine Fr_if ?_ ?_
    | with_reducible refine Fr_nxS (kept.upF (by assumption) (by decide)) (fun _ _ => ?_)
    | with_reducible refine Fr_nxS (kept.upA (by assumption) (by decide)) (fun _ _ => ?_)
    | with_reducible refine Fr_nxI (fun _ => ?_)
theorem fr_mX1_begin (S0 : St) (a1 : Int) (a2 : Int) (a3 : Int) (a4 : Int) : Fr [] [(80, 1), (80, 2), (80, 3), (80, 4), (80, 5), (80, 6)] (fun o : St => o) S0 (mX1_begin S0 a1 a2 a3 a4) := by
  unfold mX1_begin
  have hS : kept [] [(80, 1), (80, 2), (80, 3), (80, 4), (80, 5), (80, 6)] S0 S0 := kept.rf
  repeat' first
    | with_reducible exact Fr_none
    | (with_reducible refine Fr_some ?_; assumption)
    | with_reducible refine Fr_gd ?_
    | with_reducible refine Fr_if ?_ ?_
    | with_reducible refine Fr_nxS (kept.upF (by assumption) (by decide)) (fun _ _ => ?_)
    | with_reducible refine Fr_nxS (kept.upA (by assumption) (by decide)) (fun _ _ => ?_)
    | with_reducible refine Fr_nxI (fun _ => ?_)
    | with_reducible refine Fr_bdS1 ?_ (fun _ _ => ?_)
    | with_reducible refine Fr_bdI1 (fun _ => ?_)
theorem fr_mX11_deal (S0 : St) (a1 : Int) (a2 : Int) (a3 : Int) (a4 : Int) : Fr [] [(80, 1), (80, 2), (80, 3), (80, 4), (80, 5), (80, 6)] (fun o : Int × St => o.2) S0 (mX11_deal S0 a1 a2 a3 a4) := by
  unfold mX11_deal
  have hS : kept [] [(80, 1), (80, 2), (80, 3), (80, 4), (80, 5), (80, 6)] S0 S0 := kept.rf
  repeat' first
    | with_reducible exact Fr_none
    | (with_reducible refine Fr_some ?_; assumption)
    | with_reducible refine Fr_gd ?_
    | with_reducible refine Fr_if ?_ ?_
    | with_reducible refine Fr_nxS (kept.upF (by assumption) (by decide)) (fun _ _ => ?_)
    | with_reducible refine Fr_nxS (kept.upA (by assumption) (by decide)) (fun _ _ => ?_)
    | with_reducible refine Fr_nxI (fun _ => ?_)
    | with_reducible refine Fr_bdS1 ?_ (fun _ _ => ?_)
    | with_reducible refine Fr_bdI1 (fun _ => ?_)
    | with_reducible exact (fr_mX1_begin _ _ _ _ _).to (by assumption) (by decide) (by decide)
theorem fr_mX1_advance (S0 : St) : Fr [] [(80, 6)] (fun o : St => o) S0 (mX1_advance S0) := by
  unfold mX1_advance
  have hS : kept [] [(80, 6)] S0 S0 := kept.rf
  repeat' first
    | with_reducible exact Fr_none
    | (with_reducible refine Fr_some ?_; assumption)
    | with_reducible refine Fr_gd ?_
    | with_reducible refine Fr_if ?_ ?_
    | with_reducible refine Fr_nxS (kept.upF (by assumption) (by decide)) (fun _ _ => ?_)
    | with_reducible refine Fr_nxS (kept.upA (by assumption) (by decide)) (fun _ _ => ?_)
    | with_reducible refine Fr_nxI (fun _ => ?_)
theorem fr_mX1_next_11  : ∀ (f : Nat) (v1 : Int) (v2 : St), Fr [] [(80, 6)] (fun o : St => o) v2 (mX1_next_11  f v1 v2) := by
  intro f
  induction f with
  | zero => intros; rw [mX1_next_11]; exact Fr_none
  | succ f ih =>
    intro v1 v2
    rw [mX1_next_11]
    have hS : kept [] [(80, 6)] v2 v2 := kept.rf
    repeat' first
      | with_reducible exact Fr_none
      | (with_reducible refine Fr_some ?_; assumption)
      | with_reducible refine Fr_gd ?_
      | with_reducible refine Fr_if ?_ ?_
      | with_reducible refine Fr_nxS (kept.upF (by assumption) (by decide)) (fun _ _ => ?_)
      | with_reducible refine Fr_nxS (kept.upA (by assumption) (by decide)) (fun _ _ => ?_)
      | with_reducible refine Fr_nxI (fun _ => ?_)
      | with_reducible refine Fr_bdS1 ?_ (fun _ _ => ?_)
      | with_reducible refine Fr_bdI1 (fun _ => ?_)
      | with_reducible exact (fr_mX1_advance _).to (by assumption) (by decide) (by decide)
      | with_reducible exact (ih _ _).to (by assumption) (fun _ h => h) (fun _ h => h)
