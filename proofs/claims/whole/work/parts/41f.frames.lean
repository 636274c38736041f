theorem fr_mX1_next (S0 : St) : Fr [] [(80, 1), (80, 6)] (fun o : Int × St => o.2) S0 (mX1_next S0) := by
  unfold mX1_next
  have hS : kept [] [(80, 1), (80, 6)] S0 S0 := kept.rf
  repeat' first
    | with_reducible exact Fr_none
    | (with_reducible refine Fr_some ?_; assumption)
    | with_reducible refine Fr_gd ?_
    | with_reducible refine Fr_if ?_ ?_
    | with_reducible refine Fr_nxS (kept.upF (by assumption) (by decide)) (fun _ _ => ?_)
    | with_reducible refine Fr_nxS (kept.upA (by assumption) (by decide)) (fun _ _ => ?_)
    | with_reducible refine Fr_nxI (fun _ => ?_)
    | with_reducible refine Fr_bdS1 ?_ (fun _ _ => ?_)
    | with_reducible refine Fr_bdI1 (fun _ => ?_)
    | with_reducible exact (fr_mX1_next_11 _ _ _).to (by assumption) (by decide) (by decide)
    | with_reducible exact (fr_mX1_advance _).to (by assumption) (by decide) (by decide)
theorem fr_mX11_dealt (S0 : St) : Fr [] [(80, 1), (80, 6)] (fun o : Int × St => o.2) S0 (mX11_dealt S0) := by
  unfold mX11_dealt
  have hS : kept [] [(80, 1), (80, 6)] S0 S0 := kept.rf
  repeat' first
    | with_reducible exact Fr_none
    | (with_reducible refine Fr_some ?_; assumption)
    | with_reducible refine Fr_gd ?_
    | with_reducible refine Fr_if ?_ ?_
    | with_reducible refine Fr_nxS (kept.upF (by assumption) (by decide)) (fun _ _ => ?_)
    | with_reducible refine Fr_nxS (kept.upA (by assumption) (by decide)) (fun _ _ => ?_)
    | with_reducible refine Fr_nxI (fun _ => ?_)
    | with_reducible refine Fr_bdS2 ?_ (fun _ _ _ => ?_)
    | with_reducible refine Fr_bdI2 (fun _ _ => ?_)
    | with_reducible exact (fr_mX1_next _).to (by assumption) (by decide) (by decide)
theorem fr_mX2_flip_2 (S0 : St) (a1 : Int) (a2 : Int) : Fr [10] [] (fun o : St => o) S0 (mX2_flip_2 S0 a1 a2) := by
  unfold mX2_flip_2
  have hS : kept [10] [] S0 S0 := kept.rf
  repeat' first
    | with_reducible exact Fr_none
    | (with_reducible refine Fr_some ?_; assumption)
    | with_reducible refine Fr_gd ?_
    | with_reducible refine Fr_if ?_ ?_
    | with_reducible refine Fr_nxS (kept.upF (by assumption) (by decide)) (fun _ _ => ?_)
    | with_reducible refine Fr_nxS (kept.upA (by assumption) (by decide)) (fun _ _ => ?_)
    | with_reducible refine Fr_nxI (fun _ => ?_)
theorem fr_mX11_takes (S0 : St) (a1 : Int) (a2 : Int) : Fr [10, 34, 35, 36, 37, 38, 39, 41, 42, 43, 44, 45, 46, 82] [(0, 15), (0, 16), (33, 1), (33, 2), (40, 1), (47, 2), (47, 3), (47, 4), (73, 1), (80, 1)] (fun o : Int × St => o.2) S0 (mX11_takes S0 a1 a2) := by
  unfold mX11_takes
  have hS : kept [10, 34, 35, 36, 37, 38, 39, 41, 42, 43, 44, 45, 46, 82] [(0, 15), (0, 16), (33, 1), (33, 2), (40, 1), (47, 2), (47, 3), (47, 4), (73, 1), (80, 1)] S0 S0 := kept.rf
  repeat' first
    | with_reducible exact Fr_none
    | (with_reducible refine Fr_some ?_; assumption)
    | with_reducible refine Fr_gd ?_
    | with_reducible refine Fr_if ?_ ?_
    | with_reducible refine Fr_nxS (kept.upF (by assumption) (by decide)) (fun _ _ => ?_)
    | with_reducible refine Fr_nxS (kept.upA (by assumption) (by decide)) (fun _ _ => ?_)
    | with_reducible refine Fr_nxI (fun _ => ?_)
    | with_reducible refine Fr_bdS1 ?_ (fun _ _ => ?_)
    | with_reducible refine Fr_bdI1 (fun _ => ?_)
    | with_reducible exact (fr_mX2_flip_2 _ _ _).to (by assumption) (by decide) (by decide)
    | with_reducible exact (fr_mX11_settle _).to (by assumption) (by decide) (by decide)
theorem fr_mX11_takeBack (S0 : St) : Fr [10] [(0, 15)] (fun o : St => o) S0 (mX11_takeBack S0) := by
  unfold mX11_takeBack
  have hS : kept [10] [(0, 15)] S0 S0 := kept.rf
  repeat' first
    | with_reducible exact Fr_none
    | (with_reducible refine Fr_some ?_; assumption)
    | with_reducible refine Fr_gd ?_
    | with_reducible refine Fr_if ?_ ?_
    | with_reducible refine Fr_nxS (kept.upF (by assumption) (by decide)) (fun _ _ => ?_)
    | with_reducible refine Fr_nxS (kept.upA (by assumption) (by decide)) (fun _ _ => ?_)
    | with_reducible refine Fr_nxI (fun _ => ?_)
    | with_reducible refine Fr_bdS1 ?_ (fun _ _ => ?_)
    | with_reducible refine Fr_bdI1 (fun _ => ?_)
    | with_reducible exact (fr_mX2_flip_2 _ _ _).to (by assumption) (by decide) (by decide)
theorem fr_mX11_undo (S0 : St) : Fr [10, 34, 35, 36, 37, 38, 39, 41, 42, 43, 44, 45, 46] [(0, 15), (0, 16), (33, 1), (33, 2), (40, 1), (47, 2), (47, 3), (47, 4), (73, 1), (80, 1)] (fun o : Int × St => o.2) S0 (mX11_undo S0) := by
  unfold mX11_undo
  have hS : kept [10, 34, 35, 36, 37, 38, 39, 41, 42, 43, 44, 45, 46] [(0, 15), (0, 16), (33, 1), (33, 2), (40, 1), (47, 2), (47, 3), (47, 4), (73, 1), (80, 1)] S0 S0 := kept.rf
  repeat' first
    | with_reducible exact Fr_none
    | (with_reducible refine Fr_some ?_; assumption)
    | with_reducible refine Fr_gd ?_
    | with_reducible refine Fr_if ?_ ?_
    | with_reducible refine Fr_nxS (kept.upF (by assumption) (by decide)) (fun _ _ => ?_)
    | with_reducible refine Fr_nxS (kept.upA (by assumption) (by decide)) (fun _ _ => ?_)
    | with_reducible refine Fr_nxI (fun _ => ?_)
    | with_reducible refine Fr_bdS1 ?_ (fun _ _ => ?_)
    | with_reducible refine Fr_bdI1 (fun _ => ?_)
    | with_reducible exact (fr_mX11_takeBack _).to (by assumption) (by decide) (by decide)
    | with_reducible exact (fr_mX11_settle _).to (by assumption) (by decide) (by decide)
theorem fr_mX11_anew_20 (x_3 : Int) : ∀ (f : Nat) (v1 : Int) (v2 : St), Fr [10] [(0, 15)] (fun o : St => o) v2 (mX11_anew_20 x_3 f v1 v2) := by
  intro f
  induction f with
  | zero => intros; rw [mX11_anew_20]; exact Fr_none
  | succ f ih =>
    intro v1 v2
    rw [mX11_anew_20]
    have hS : kept [10] [(0, 15)] v2 v2 := kept.rf
    repeat' first
      | with_reducible exact Fr_none
      | (with_reducible refine Fr_some ?_; assumption)
      | with_reducible refine Fr_gd ?_
      | with_reducible refine Fr_if ?_ ?_
      | with_reducible refine Fr_nxS (kept.upF (by assumption) (by decide)) (fun _ _ => ?_)
      | with_reducible refine Fr_nxS (kept.upA (by assumption) (by decide)) (fun _ _ => ?_)
      | with_reducible refine Fr_nxI (fun _ => ?_)
      | with_reducible refine Fr_bdS1 ?_ (fun _ _ => ?_)
      | with_reducible refine Fr_bdI1 (fun _ => ?_)
      | with_reducible exact (fr_mX11_takeBack _).to (by assumption) (by decide) (by decide)
      | with_reducible exact (ih _ _).to (by assumption) (fun _ h => h) (fun _ h => h)
theorem fr_mX11_anew (S0 : St) : Fr [10, 34, 35, 36, 37, 38, 39, 41, 42, 43, 44, 45, 46] [(0, 15), (0, 16), (33, 1), (33, 2), (40, 1), (47, 2), (47, 3), (47, 4), (73, 1), (80, 1)] (fun o : Int × St => o.2) S0 (mX11_anew S0) := by
  unfold mX11_anew
  have hS : kept [10, 34, 35, 36, 37, 38, 39, 41, 42, 43, 44, 45, 46] [(0, 15), (0, 16), (33, 1), (33, 2), (40, 1), (47, 2), (47, 3), (47, 4), (73, 1), (80, 1)] S0 S0 := kept.rf
  repeat' first
    | with_reducible exact Fr_none
    | (with_reducible refine Fr_some ?_; assumption)
    | with_reducible refine Fr_gd ?_
    | with_reducible refine Fr_if ?_ ?_
    | with_reducible refine Fr_nxS (kept.upF (by assumption) (by decide)) (fun _ _ => ?_)
    | with_reducible refine Fr_nxS (kept.upA (by assumption) (by decide)) (fun _ _ => ?_)
    | with_reducible refine Fr_nxI (fun _ => ?_)
    | with_reducible refine Fr_bdS1 ?_ (fun _ _ => ?_)
    | with_reducible refine Fr_bdI1 (fun _ => ?_)
    | with_reducible exact (fr_mX11_anew_20 _ _ _ _).to (by assumption) (by decide) (by decide)
    | with_reducible exact (fr_mX1_stop _).to (by assumption) (by decide) (by decide)
    | with_reducible exact (fr_mX11_settle _).to (by assumption) (by decide) (by decide)
theorem fr_mX0_clearCells_48_50_3 (a2 : Int) (a3 : Int) : ∀ (f : Nat) (v1 : Int) (v2 : St), Fr [50] [] (fun o : St => o) v2 (mX0_clearCells_48_50_3 a2 a3 f v1 v2) := by
  intro f
  induction f with
  | zero => intros; rw [mX0_clearCells_48_50_3]; exact Fr_none
  | succ f ih =>
    intro v1 v2
    rw [mX0_clearCells_48_50_3]
    have hS : kept [50] [] v2 v2 := kept.rf
    repeat' first
      | with_reducible exact Fr_none
      | (with_reducible refine Fr_some ?_; assumption)
      | with_reducible refine Fr_gd ?_
      | with_reducible refine Fr_if ?_ ?_
      | with_reducible refine Fr_nxS (kept.upF (by assumption) (by decide)) (fun _ _ => ?_)
      | with_reducible refine Fr_nxS (kept.upA (by assumption) (by decide)) (fun _ _ => ?_)
      | with_reducible refine Fr_nxI (fun _ => ?_)
      | with_reducible refine Fr_bdS1 ?_ (fun _ _ => ?_)
      | with_reducible refine Fr_bdI1 (fun _ => ?_)
      | with_reducible exact (ih _ _).to (by assumption) (fun _ h => h) (fun _ h => h)
theorem fr_mX0_clearCells_48_50 (S0 : St) (a2 : Int) (a3 : Int) : Fr [50] [] (fun o : St => o) S0 (mX0_clearCells_48_50 S0 a2 a3) := by
  unfold mX0_clearCells_48_50
  have hS : kept [50] [] S0 S0 := kept.rf
  repeat' first
    | with_reducible exact Fr_none
    | (with_reducible refine Fr_some ?_; assumption)
    | with_reducible refine Fr_gd ?_
    | with_reducible refine Fr_if ?_ ?_
    | with_reducible refine Fr_nxS (kept.upF (by assumption) (by decide)) (fun _ _ => ?_)
    | with_reducible refine Fr_nxS (kept.upA (by assumption) (by decide)) (fun _ _ => ?_)
    | with_reducible refine Fr_nxI (fun _ => ?_)
    | with_reducible refine Fr_bdS1 ?_ (fun _ _ => ?_)
    | with_reducible refine Fr_bdI1 (fun _ => ?_)
    | with_reducible exact (fr_mX0_clearCells_48_50_3 _ _ _ _ _).to (by assumption) (by decide) (by decide)
theorem fr_mX0_copyCells_48_49_50_3 (a2 : Int) (a4 : Int) (a5 : Int) : ∀ (f : Nat) (v1 : Int) (v2 : St), Fr [50] [] (fun o : St => o) v2 (mX0_copyCells_48_49_50_3 a2 a4 a5 f v1 v2) := by
  intro f
  induction f with
  | zero => intros; rw [mX0_copyCells_48_49_50_3]; exact Fr_none
  | succ f ih =>
    intro v1 v2
    rw [mX0_copyCells_48_49_50_3]
    have hS : kept [50] [] v2 v2 := kept.rf
    repeat' first
      | with_reducible exact Fr_none
      | (with_reducible refine Fr_some ?_; assumption)
      | with_reducible refine Fr_gd ?_
      | with_reducible refine Fr_if ?_ ?_
      | with_reducible refine Fr_nxS (kept.upF (by assumption) (by decide)) (fun _ _ => ?_)
      | with_reducible refine Fr_nxS (kept.upA (by assumption) (by decide)) (fun _ _ => ?_)
      | with_reducible refine Fr_nxI (fun _ => ?_)
      | with_reducible refine Fr_bdS1 ?_ (fun _ _ => ?_)
      | with_reducible refine Fr_bdI1 (fun _ => ?_)
      | with_reducible exact (ih _ _).to (by assumption) (fun _ h => h) (fun _ h => h)
theorem fr_mX0_copyCells_48_49_50 (S0 : St) (a2 : Int) (a4 : Int) (a5 : Int) : Fr [50] [] (fun o : St => o) S0 (mX0_copyCells_48_49_50 S0 a2 a4 a5) := by
  unfold mX0_copyCells_48_49_50
  have hS : kept [50] [] S0 S0 := kept.rf
  repeat' first
    | with_reducible exact Fr_none
    | (with_reducible refine Fr_some ?_; assumption)
    | with_reducible refine Fr_gd ?_
    | with_reducible refine Fr_if ?_ ?_
    | with_reducible refine Fr_nxS (kept.upF (by assumption) (by decide)) (fun _ _ => ?_)
    | with_reducible refine Fr_nxS (kept.upA (by assumption) (by decide)) (fun _ _ => ?_)
    | with_reducible refine Fr_nxI (fun _ => ?_)
    | with_reducible refine Fr_bdS1 ?_ (fun _ _ => ?_)
    | with_reducible refine Fr_bdI1 (fun _ => ?_)
    | with_reducible exact (fr_mX0_copyCells_48_49_50_3 _ _ _ _ _ _).to (by assumption) (by decide) (by decide)
theorem fr_mX0_countTail_48_109 (r_34 : Int) (v_18 : Int) (v_8 : Int) (x_3 : Int) (x_1 : Int) (a1 : Int) (a2 : Int) : ∀ (f : Nat) (v1 : Int) (v2 : St), Fr [50] [] (fun o : St => o) v2 (mX0_countTail_48_109 r_34 v_18 v_8 x_3 x_1 a1 a2 f v1 v2) := by
  intro f
  induction f with
  | zero => intros; rw [mX0_countTail_48_109]; exact Fr_none
  | succ f ih =>
    intro v1 v2
    rw [mX0_countTail_48_109]
    have hS : kept [50] [] v2 v2 := kept.rf
    repeat' first
      | with_reducible exact Fr_none
      | (with_reducible refine Fr_some ?_; assumption)
      | with_reducible refine Fr_gd ?_
      | with_reducible refine Fr_if ?_ ?_
      | with_reducible refine Fr_nxS (kept.upF (by assumption) (by decide)) (fun _ _ => ?_)
      | with_reducible refine Fr_nxS (kept.upA (by assumption) (by decide)) (fun _ _ => ?_)
      | with_reducible refine Fr_nxI (fun _ => ?_)
      | with_reducible refine Fr_bdS1 ?_ (fun _ _ => ?_)
      | with_reducible refine Fr_bdI1 (fun _ => ?_)
      | with_reducible exact (ih _ _).to (by assumption) (fun _ h => h) (fun _ h => h)
theorem fr_mX0_countTail_48_65 (v_8 : Int) (x_3 : Int) (x_1 : Int) (a1 : Int) (a2 : Int) : ∀ (f : Nat) (v1 : Int) (v2 : St), Fr [50] [] (fun o : St => o) v2 (mX0_countTail_48_65 v_8 x_3 x_1 a1 a2 f v1 v2) := by
  intro f
  induction f with
  | zero => intros; rw [mX0_countTail_48_65]; exact Fr_none
  | succ f ih =>
    intro v1 v2
    rw [mX0_countTail_48_65]
    have hS : kept [50] [] v2 v2 := kept.rf
    repeat' first
      | with_reducible exact Fr_none
      | (with_reducible refine Fr_some ?_; assumption)
      | with_reducible refine Fr_gd ?_
      | with_reducible refine Fr_if ?_ ?_
      | with_reducible refine Fr_nxS (kept.upF (by assumption) (by decide)) (fun _ _ => ?_)
      | with_reducible refine Fr_nxS (kept.upA (by assumption) (by decide)) (fun _ _ => ?_)
      | with_reducible refine Fr_nxI (fun _ => ?_)
      | with_reducible refine Fr_bdS1 ?_ (fun _ _ => ?_)
      | with_reducible refine Fr_bdI1 (fun _ => ?_)
      | with_reducible exact (fr_mX0_countTail_48_109 _ _ _ _ _ _ _ _ _ _).to (by assumption) (by decide) (by decide)
      | with_reducible exact (ih _ _).to (by assumption) (fun _ h => h) (fun _ h => h)
theorem fr_mX0_countTail_48_56 (x_3 : Int) (x_1 : Int) (a1 : Int) (a2 : Int) : ∀ (f : Nat) (v1 : Int) (v2 : St), Fr [50] [] (fun o : St => o) v2 (mX0_countTail_48_56 x_3 x_1 a1 a2 f v1 v2) := by
  intro f
  induction f with
  | zero => intros; rw [mX0_countTail_48_56]; exact Fr_none
  | succ f ih =>
    intro v1 v2
    rw [mX0_countTail_48_56]
    have hS : kept [50] [] v2 v2 := kept.rf
    repeat' first
      | with_reducible exact Fr_none
      | (with_reducible refine Fr_some ?_; assumption)
      | with_reducible refine Fr_gd ?_
      | with_reducible refine Fr_if ?_ ?_
      | with_reducible refine Fr_nxS (kept.upF (by assumption) (by decide)) (fun _ _ => ?_)
      | with_reducible refine Fr_nxS (kept.upA (by assumption) (by decide)) (fun _ _ => ?_)
      | with_reducible refine Fr_nxI (fun _ => ?_)
      | with_reducible refine Fr_bdS1 ?_ (fun _ _ => ?_)
      | with_reducible refine Fr_bdI1 (fun _ => ?_)
      | with_reducible exact (fr_mX0_countTail_48_65 _ _ _ _ _ _ _ _).to (by assumption) (by decide) (by decide)
      | with_reducible exact (ih _ _).to (by assumption) (fun _ h => h) (fun _ h => h)
theorem fr_mX0_countTail_48 (S0 : St) (a1 : Int) (a2 : Int) : Fr [50] [] (fun o : St => o) S0 (mX0_countTail_48 S0 a1 a2) := by
  unfold mX0_countTail_48
  have hS : kept [50] [] S0 S0 := kept.rf
  repeat' first
    | with_reducible exact Fr_none
    | (with_reducible refine Fr_some ?_; assumption)
    | with_reducible refine Fr_gd ?_
    | with_reducible refine Fr_if ?_ ?_
    | with_reducible refine Fr_nxS (kept.upF (by assumption) (by decide)) (fun _ _ => ?_)
    | with_reducible refine Fr_nxS (kept.upA (by assumption) (by decide)) (fun _ _ => ?_)
    | with_reducible refine Fr_nxI (fun _ => ?_)
    | with_reducible refine Fr_bdS1 ?_ (fun _ _ => ?_)
    | with_reducible refine Fr_bdI1 (fun _ => ?_)
    | with_reducible exact (fr_mX0_copyCells_48_49_50 _ _ _ _).to (by assumption) (by decide) (by decide)
    | with_reducible exact (fr_mX0_clearCells_48_50 _ _ _).to (by assumption) (by decide) (by decide)
    | with_reducible exact (fr_mX0_countTail_48_56 _ _ _ _ _ _ _).to (by assumption) (by decide) (by decide)
theorem fr_mX0_clearCells_48_49_3 (a2 : Int) (a3 : Int) : ∀ (f : Nat) (v1 : Int) (v2 : St), Fr [49] [] (fun o : St => o) v2 (mX0_clearCells_48_49_3 a2 a3 f v1 v2) := by
  intro f
  induction f with
  | zero => intros; rw [mX0_clearCells_48_49_3]; exact Fr_none
  | succ f ih =>
    intro v1 v2
    rw [mX0_clearCells_48_49_3]
    have hS : kept [49] [] v2 v2 := kept.rf
    repeat' first
      | with_reducible exact Fr_none
      | (with_reducible refine Fr_some ?_; assumption)
      | with_reducible refine Fr_gd ?_
      | with_reducible refine Fr_if ?_ ?_
      | with_reducible refine Fr_nxS (kept.upF (by assumption) (by decide)) (fun _ _ => ?_)
      | with_reducible refine Fr_nxS (kept.upA (by assumption) (by decide)) (fun _ _ => ?_)
      | with_reducible refine Fr_nxI (fun _ => ?_)
      | with_reducible refine Fr_bdS1 ?_ (fun _ _ => ?_)
      | with_reducible refine Fr_bdI1 (fun _ => ?_)
      | with_reducible exact (ih _ _).to (by assumption) (fun _ h => h) (fun _ h => h)
theorem fr_mX0_clearCells_48_49 (S0 : St) (a2 : Int) (a3 : Int) : Fr [49] [] (fun o : St => o) S0 (mX0_clearCells_48_49 S0 a2 a3) := by
  unfold mX0_clearCells_48_49
  have hS : kept [49] [] S0 S0 := kept.rf
  repeat' first
    | with_reducible exact Fr_none
    | (with_reducible refine Fr_some ?_; assumption)
    | with_reducible refine Fr_gd ?_
    | with_reducible refine Fr_if ?_ ?_
    | with_reducible refine Fr_nxS (kept.upF (by assumption) (by decide)) (fun _ _ => ?_)
    | with_reducible refine Fr_nxS (kept.upA (by assumption) (by decide)) (fun _ _ => ?_)
    | with_reducible refine Fr_nxI (fun _ => ?_)
    | with_reducible refine Fr_bdS1 ?_ (fun _ _ => ?_)
    | with_reducible refine Fr_bdI1 (fun _ => ?_)
    | with_reducible exact (fr_mX0_clearCells_48_49_3 _ _ _ _ _).to (by assumption) (by decide) (by decide)
theorem fr_mX0_growRows_48_80 (r_42 : Int) (v_25 : Int) (v_15 : Int) (x_14 : Int) (v_1 : Int) (a1 : Int) (a2 : Int) : ∀ (f : Nat) (v1 : Int) (v2 : St), Fr [52] [] (fun o : St => o) v2 (mX0_growRows_48_80 r_42 v_25 v_15 x_14 v_1 a1 a2 f v1 v2) := by
  intro f
  induction f with
  | zero => intros; rw [mX0_growRows_48_80]; exact Fr_none
  | succ f ih =>
    intro v1 v2
    rw [mX0_growRows_48_80]
    have hS : kept [52] [] v2 v2 := kept.rf
    repeat' first
      | with_reducible exact Fr_none
      | (with_reducible refine Fr_some ?_; assumption)
      | with_reducible refine Fr_gd ?_
      | with_reducible refine Fr_if ?_ ?_
      | with_reducible refine Fr_nxS (kept.upF (by assumption) (by decide)) (fun _ _ => ?_)
      | with_reducible refine Fr_nxS (kept.upA (by assumption) (by decide)) (fun _ _ => ?_)
      | with_reducible refine Fr_nxI (fun _ => ?_)
      | with_reducible refine Fr_bdS1 ?_ (fun _ _ => ?_)
      | with_reducible refine Fr_bdI1 (fun _ => ?_)
      | with_reducible exact (ih _ _).to (by assumption) (fun _ h => h) (fun _ h => h)
theorem fr_mX0_growRows_48_44 (v_15 : Int) (x_14 : Int) (v_1 : Int) (a1 : Int) (a2 : Int) : ∀ (f : Nat) (v1 : Int) (v2 : St), Fr [52] [] (fun o : St => o) v2 (mX0_growRows_48_44 v_15 x_14 v_1 a1 a2 f v1 v2) := by
  intro f
  induction f with
  | zero => intros; rw [mX0_growRows_48_44]; exact Fr_none
  | succ f ih =>
    intro v1 v2
    rw [mX0_growRows_48_44]
    have hS : kept [52] [] v2 v2 := kept.rf
    repeat' first
      | with_reducible exact Fr_none
      | (with_reducible refine Fr_some ?_; assumption)
      | with_reducible refine Fr_gd ?_
      | with_reducible refine Fr_if ?_ ?_
      | with_reducible refine Fr_nxS (kept.upF (by assumption) (by decide)) (fun _ _ => ?_)
      | with_reducible refine Fr_nxS (kept.upA (by assumption) (by decide)) (fun _ _ => ?_)
      | with_reducible refine Fr_nxI (fun _ => ?_)
      | with_reducible refine Fr_bdS1 ?_ (fun _ _ => ?_)
      | with_reducible refine Fr_bdI1 (fun _ => ?_)
      | with_reducible exact (fr_mX0_growRows_48_80 _ _ _ _ _ _ _ _ _ _).to (by assumption) (by decide) (by decide)
      | with_reducible exact (ih _ _).to (by assumption) (fun _ h => h) (fun _ h => h)
theorem fr_mX0_growRows_48_35 (x_14 : Int) (v_1 : Int) (a1 : Int) (a2 : Int) : ∀ (f : Nat) (v1 : Int) (v2 : St), Fr [52] [] (fun o : St => o) v2 (mX0_growRows_48_35 x_14 v_1 a1 a2 f v1 v2) := by
  intro f
  induction f with
  | zero => intros; rw [mX0_growRows_48_35]; exact Fr_none
  | succ f ih =>
    intro v1 v2
    rw [mX0_growRows_48_35]
    have hS : kept [52] [] v2 v2 := kept.rf
    repeat' first
      | with_reducible exact Fr_none
      | (with_reducible refine Fr_some ?_; assumption)
      | with_reducible refine Fr_gd ?_
      | with_reducible refine Fr_if ?_ ?_
      | with_reducible refine Fr_nxS (kept.upF (by assumption) (by decide)) (fun _ _ => ?_)
      | with_reducible refine Fr_nxS (kept.upA (by assumption) (by decide)) (fun _ _ => ?_)
      | with_reducible refine Fr_nxI (fun _ => ?_)
      | with_reducible refine Fr_bdS1 ?_ (fun _ _ => ?_)
      | with_reducible refine Fr_bdI1 (fun _ => ?_)
      | with_reducible exact (fr_mX0_growRows_48_44 _ _ _ _ _ _ _ _).to (by assumption) (by decide) (by decide)
      | with_reducible exact (ih _ _).to (by assumption) (fun _ h => h) (fun _ h => h)
theorem fr_mX0_growRows_48_2 (a1 : Int) (a2 : Int) : ∀ (f : Nat) (v1 : Int) (v2 : St), Fr [52] [] (fun o : St => o) v2 (mX0_growRows_48_2 a1 a2 f v1 v2) := by
  intro f
  induction f with
  | zero => intros; rw [mX0_growRows_48_2]; exact Fr_none
  | succ f ih =>
    intro v1 v2
    rw [mX0_growRows_48_2]
    have hS : kept [52] [] v2 v2 := kept.rf
    repeat' first
      | with_reducible exact Fr_none
      | (with_reducible refine Fr_some ?_; assumption)
      | with_reducible refine Fr_gd ?_
      | with_reducible refine Fr_if ?_ ?_
      | with_reducible refine Fr_nxS (kept.upF (by assumption) (by decide)) (fun _ _ => ?_)
      | with_reducible refine Fr_nxS (kept.upA (by assumption) (by decide)) (fun _ _ => ?_)
      | with_reducible refine Fr_nxI (fun _ => ?_)
      | with_reducible refine Fr_bdS1 ?_ (fun _ _ => ?_)
      | with_reducible refine Fr_bdI1 (fun _ => ?_)
      | with_reducible exact (fr_mX0_growRows_48_35 _ _ _ _ _ _ _).to (by assumption) (by decide) (by decide)
      | with_reducible exact (ih _ _).to (by assumption) (fun _ h => h) (fun _ h => h)
theorem fr_mX0_growRows_48 (S0 : St) (a1 : Int) (a2 : Int) : Fr [52] [] (fun o : St => o) S0 (mX0_growRows_48 S0 a1 a2) := by
  unfold mX0_growRows_48
  have hS : kept [52] [] S0 S0 := kept.rf
  repeat' first
    | with_reducible exact Fr_none
    | (with_reducible refine Fr_some ?_; assumption)
    | with_reducible refine Fr_gd ?_
    | with_reducible refine Fr_if ?_ ?_
    | with_reducible refine Fr_nxS (kept.upF (by assumption) (by decide)) (fun _ _ => ?_)
    | with_reducible refine Fr_nxS (kept.upA (by assumption) (by decide)) (fun _ _ => ?_)
    | with_reducible refine Fr_nxI (fun _ => ?_)
    | with_reducible refine Fr_bdS1 ?_ (fun _ _ => ?_)
    | with_reducible refine Fr_bdI1 (fun _ => ?_)
    | with_reducible exact (fr_mX0_growRows_48_2 _ _ _ _ _).to (by assumption) (by decide) (by decide)
theorem fr_mX0_addClass_48_57 (x_28 : Int) (v_18 : Int) (v_6 : Int) (x_1 : Int) (a2 : Int) (a3 : Int) (a4 : Int) : ∀ (f : Nat) (v1 : Int) (v2 : St), Fr [52] [] (fun o : St => o) v2 (mX0_addClass_48_57 x_28 v_18 v_6 x_1 a2 a3 a4 f v1 v2) := by
  intro f
  induction f with
  | zero => intros; rw [mX0_addClass_48_57]; exact Fr_none
  | succ f ih =>
    intro v1 v2
    rw [mX0_addClass_48_57]
    have hS : kept [52] [] v2 v2 := kept.rf
    repeat' first
      | with_reducible exact Fr_none
      | (with_reducible refine Fr_some ?_; assumption)
      | with_reducible refine Fr_gd ?_
      | with_reducible refine Fr_if ?_ ?_
      | with_reducible refine Fr_nxS (kept.upF (by assumption) (by decide)) (fun _ _ => ?_)
      | with_reducible refine Fr_nxS (kept.upA (by assumption) (by decide)) (fun _ _ => ?_)
      | with_reducible refine Fr_nxI (fun _ => ?_)
      | with_reducible refine Fr_bdS1 ?_ (fun _ _ => ?_)
      | with_reducible refine Fr_bdI1 (fun _ => ?_)
      | with_reducible exact (ih _ _).to (by assumption) (fun _ h => h) (fun _ h => h)
theorem fr_mX0_addClass_48_31 (v_6 : Int) (x_1 : Int) (a2 : Int) (a3 : Int) (a4 : Int) : ∀ (f : Nat) (v1 : Int) (v2 : St), Fr [52] [] (fun o : St => o) v2 (mX0_addClass_48_31 v_6 x_1 a2 a3 a4 f v1 v2) := by
  intro f
  induction f with
  | zero => intros; rw [mX0_addClass_48_31]; exact Fr_none
  | succ f ih =>
    intro v1 v2
    rw [mX0_addClass_48_31]
    have hS : kept [52] [] v2 v2 := kept.rf
    repeat' first
      | with_reducible exact Fr_none
      | (with_reducible refine Fr_some ?_; assumption)
      | with_reducible refine Fr_gd ?_
      | with_reducible refine Fr_if ?_ ?_
      | with_reducible refine Fr_nxS (kept.upF (by assumption) (by decide)) (fun _ _ => ?_)
      | with_reducible refine Fr_nxS (kept.upA (by assumption) (by decide)) (fun _ _ => ?_)
      | with_reducible refine Fr_nxI (fun _ => ?_)
      | with_reducible refine Fr_bdS1 ?_ (fun _ _ => ?_)
      | with_reducible refine Fr_bdI1 (fun _ => ?_)
      | with_reducible exact (fr_mX0_addClass_48_57 _ _ _ _ _ _ _ _ _ _).to (by assumption) (by decide) (by decide)
      | with_reducible exact (ih _ _).to (by assumption) (fun _ h => h) (fun _ h => h)
theorem fr_mX0_addClass_48_18 (x_1 : Int) (a2 : Int) (a3 : Int) (a4 : Int) : ∀ (f : Nat) (v1 : Int) (v2 : St), Fr [52] [] (fun o : St => o) v2 (mX0_addClass_48_18 x_1 a2 a3 a4 f v1 v2) := by
  intro f
  induction f with
  | zero => intros; rw [mX0_addClass_48_18]; exact Fr_none
  | succ f ih =>
    intro v1 v2
    rw [mX0_addClass_48_18]
    have hS : kept [52] [] v2 v2 := kept.rf
    repeat' first
      | with_reducible exact Fr_none
      | (with_reducible refine Fr_some ?_; assumption)
      | with_reducible refine Fr_gd ?_
      | with_reducible refine Fr_if ?_ ?_
      | with_reducible refine Fr_nxS (kept.upF (by assumption) (by decide)) (fun _ _ => ?_)
      | with_reducible refine Fr_nxS (kept.upA (by assumption) (by decide)) (fun _ _ => ?_)
      | with_reducible refine Fr_nxI (fun _ => ?_)
      | with_reducible refine Fr_bdS1 ?_ (fun _ _ => ?_)
      | with_reducible refine Fr_bdI1 (fun _ => ?_)
      | with_reducible exact (fr_mX0_addClass_48_31 _ _ _ _ _ _ _ _).to (by assumption) (by decide) (by decide)
      | with_reducible exact (ih _ _).to (by assumption) (fun _ h => h) (fun _ h => h)
theorem fr_mX0_addClass_48 (S0 : St) (a1 : Int) (a2 : Int) (a3 : Int) (a4 : Int) : Fr [52] [] (fun o : St => o) S0 (mX0_addClass_48 S0 a1 a2 a3 a4) := by
  unfold mX0_addClass_48
  have hS : kept [52] [] S0 S0 := kept.rf
  repeat' first
    | with_reducible exact Fr_none
    | (with_reducible refine Fr_some ?_; assumption)
    | with_reducible refine Fr_gd ?_
    | with_reducible refine Fr_if ?_ ?_
    | with_reducible refine Fr_nxS (kept.upF (by assumption) (by decide)) (fun _ _ => ?_)
    | with_reducible refine Fr_nxS (kept.upA (by assumption) (by decide)) (fun _ _ => ?_)
    | with_reducible refine Fr_nxI (fun _ => ?_)
    | with_reducible refine Fr_bdS1 ?_ (fun _ _ => ?_)
    | with_reducible refine Fr_bdI1 (fun _ => ?_)
    | with_reducible exact (fr_mX0_addClass_48_18 _ _ _ _ _ _ _).to (by assumption) (by decide) (by decide)
theorem fr_mX0_keepStage_48 (S0 : St) (a1 : Int) (a2 : Int) : Fr [] [] (fun o : St => o) S0 (mX0_keepStage_48 S0 a1 a2) := by
  unfold mX0_keepStage_48
  have hS : kept [] [] S0 S0 := kept.rf
  repeat' first
    | with_reducible exact Fr_none
    | (with_reducible refine Fr_some ?_; assumption)
    | with_reducible refine Fr_gd ?_
    | with_reducible refine Fr_if ?_ ?_
    | with_reducible refine Fr_nxS (kept.upF (by assumption) (by decide)) (fun _ _ => ?_)
    | with_reducible refine Fr_nxS (kept.upA (by assumption) (by decide)) (fun _ _ => ?_)
    | with_reducible refine Fr_nxI (fun _ => ?_)
theorem fr_mX0_addClasses_48_103 (v_1 : Int) (a1 : Int) (a2 : Int) : ∀ (f : Nat) (v1 : Int) (v2 : St), Fr [52] [] (fun o : St => o) v2 (mX0_addClasses_48_103 v_1 a1 a2 f v1 v2) := by
  intro f
  induction f with
  | zero => intros; rw [mX0_addClasses_48_103]; exact Fr_none
  | succ f ih =>
    intro v1 v2
    rw [mX0_addClasses_48_103]
    have hS : kept [52] [] v2 v2 := kept.rf
    repeat' first
      | with_reducible exact Fr_none
      | (with_reducible refine Fr_some ?_; assumption)
      | with_reducible refine Fr_gd ?_
      | with_reducible refine Fr_if ?_ ?_
      | with_reducible refine Fr_nxS (kept.upF (by assumption) (by decide)) (fun _ _ => ?_)
      | with_reducible refine Fr_nxS (kept.upA (by assumption) (by decide)) (fun _ _ => ?_)
      | with_reducible refine Fr_nxI (fun _ => ?_)
      | with_reducible refine Fr_bdS1 ?_ (fun _ _ => ?_)
      | with_reducible refine Fr_bdI1 (fun _ => ?_)
      | with_reducible exact (fr_mX0_addClass_48 _ _ _ _ _).to (by assumption) (by decide) (by decide)
      | with_reducible exact (ih _ _).to (by assumption) (fun _ h => h) (fun _ h => h)
theorem fr_mX0_addClasses_48_35 (r_18 : Int) (v_1 : Int) (a1 : Int) (a2 : Int) : ∀ (f : Nat) (v1 : Int) (v2 : St), Fr [53] [] (fun o : St => o) v2 (mX0_addClasses_48_35 r_18 v_1 a1 a2 f v1 v2) := by
  intro f
  induction f with
  | zero => intros; rw [mX0_addClasses_48_35]; exact Fr_none
  | succ f ih =>
    intro v1 v2
    rw [mX0_addClasses_48_35]
    have hS : kept [53] [] v2 v2 := kept.rf
    repeat' first
      | with_reducible exact Fr_none
      | (with_reducible refine Fr_some ?_; assumption)
      | with_reducible refine Fr_gd ?_
      | with_reducible refine Fr_if ?_ ?_
      | with_reducible refine Fr_nxS (kept.upF (by assumption) (by decide)) (fun _ _ => ?_)
      | with_reducible refine Fr_nxS (kept.upA (by assumption) (by decide)) (fun _ _ => ?_)
      | with_reducible refine Fr_nxI (fun _ => ?_)
      | with_reducible refine Fr_bdS1 ?_ (fun _ _ => ?_)
      | with_reducible refine Fr_bdI1 (fun _ => ?_)
      | with_reducible exact (ih _ _).to (by assumption) (fun _ h => h) (fun _ h => h)
theorem fr_mX0_addClasses_48_2 (a1 : Int) (a2 : Int) : ∀ (f : Nat) (v1 : Int) (v2 : St), Fr [52, 53] [] (fun o : St => o) v2 (mX0_addClasses_48_2 a1 a2 f v1 v2) := by
  intro f
  induction f with
  | zero => intros; rw [mX0_addClasses_48_2]; exact Fr_none
  | succ f ih =>
    intro v1 v2
    rw [mX0_addClasses_48_2]
    have hS : kept [52, 53] [] v2 v2 := kept.rf
    repeat' first
      | with_reducible exact Fr_none
      | (with_reducible refine Fr_some ?_; assumption)
      | with_reducible refine Fr_gd ?_
      | with_reducible refine Fr_if ?_ ?_
      | with_reducible refine Fr_nxS (kept.upF (by assumption) (by decide)) (fun _ _ => ?_)
      | with_reducible refine Fr_nxS (kept.upA (by assumption) (by decide)) (fun _ _ => ?_)
      | with_reducible refine Fr_nxI (fun _ => ?_)
      | with_reducible refine Fr_bdS1 ?_ (fun _ _ => ?_)
      | with_reducible refine Fr_bdI1 (fun _ => ?_)
      | with_reducible exact (fr_mX0_addClasses_48_35 _ _ _ _ _ _ _).to (by assumption) (by decide) (by decide)
      | with_reducible exact (fr_mX0_addClasses_48_103 _ _ _ _ _ _).to (by assumption) (by decide) (by decide)
      | with_reducible exact (ih _ _).to (by assumption) (fun _ h => h) (fun _ h => h)
theorem fr_mX0_addClasses_48 (S0 : St) (a1 : Int) (a2 : Int) : Fr [52, 53] [] (fun o : St => o) S0 (mX0_addClasses_48 S0 a1 a2) := by
  unfold mX0_addClasses_48
  have hS : kept [52, 53] [] S0 S0 := kept.rf
  repeat' first
    | with_reducible exact Fr_none
    | (with_reducible refine Fr_some ?_; assumption)
    | with_reducible refine Fr_gd ?_
    | with_reducible refine Fr_if ?_ ?_
    | with_reducible refine Fr_nxS (kept.upF (by assumption) (by decide)) (fun _ _ => ?_)
    | with_reducible refine Fr_nxS (kept.upA (by assumption) (by decide)) (fun _ _ => ?_)
    | with_reducible refine Fr_nxI (fun _ => ?_)
    | with_reducible refine Fr_bdS1 ?_ (fun _ _ => ?_)
    | with_reducible refine Fr_bdI1 (fun _ => ?_)
    | with_reducible exact (fr_mX0_addClasses_48_2 _ _ _ _ _).to (by assumption) (by decide) (by decide)
    | with_reducible exact (fr_mX0_keepStage_48 _ _ _).to (by assumption) (by decide) (by decide)
theorem fr_mX0_copyCells_48_49_49_3 (a2 : Int) (a4 : Int) (a5 : Int) : ∀ (f : Nat) (v1 : Int) (v2 : St), Fr [49] [] (fun o : St => o) v2 (mX0_copyCells_48_49_49_3 a2 a4 a5 f v1 v2) := by
  intro f
  induction f with
  | zero => intros; rw [mX0_copyCells_48_49_49_3]; exact Fr_none
  | succ f ih =>
    intro v1 v2
    rw [mX0_copyCells_48_49_49_3]
    have hS : kept [49] [] v2 v2 := kept.rf
    repeat' first
      | with_reducible exact Fr_none
      | (with_reducible refine Fr_some ?_; assumption)
      | with_reducible refine Fr_gd ?_
      | with_reducible refine Fr_if ?_ ?_
      | with_reducible refine Fr_nxS (kept.upF (by assumption) (by decide)) (fun _ _ => ?_)
      | with_reducible refine Fr_nxS (kept.upA (by assumption) (by decide)) (fun _ _ => ?_)
      | with_reducible refine Fr_nxI (fun _ => ?_)
      | with_reducible refine Fr_bdS1 ?_ (fun _ _ => ?_)
      | with_reducible refine Fr_bdI1 (fun _ => ?_)
      | with_reducible exact (ih _ _).to (by assumption) (fun _ h => h) (fun _ h => h)
theorem fr_mX0_copyCells_48_49_49 (S0 : St) (a2 : Int) (a4 : Int) (a5 : Int) : Fr [49] [] (fun o : St => o) S0 (mX0_copyCells_48_49_49 S0 a2 a4 a5) := by
  unfold mX0_copyCells_48_49_49
  have hS : kept [49] [] S0 S0 := kept.rf
  repeat' first
    | with_reducible exact Fr_none
    | (with_reducible refine Fr_some ?_; assumption)
    | with_reducible refine Fr_gd ?_
    | with_reducible refine Fr_if ?_ ?_
    | with_reducible refine Fr_nxS (kept.upF (by assumption) (by decide)) (fun _ _ => ?_)
    | with_reducible refine Fr_nxS (kept.upA (by assumption) (by decide)) (fun _ _ => ?_)
    | with_reducible refine Fr_nxI (fun _ => ?_)
    | with_reducible refine Fr_bdS1 ?_ (fun _ _ => ?_)
    | with_reducible refine Fr_bdI1 (fun _ => ?_)
    | with_reducible exact (fr_mX0_copyCells_48_49_49_3 _ _ _ _ _ _).to (by assumption) (by decide) (by decide)
theorem fr_mX0_clearCells_48_52_3 (a2 : Int) (a3 : Int) : ∀ (f : Nat) (v1 : Int) (v2 : St), Fr [52] [] (fun o : St => o) v2 (mX0_clearCells_48_52_3 a2 a3 f v1 v2) := by
  intro f
  induction f with
  | zero => intros; rw [mX0_clearCells_48_52_3]; exact Fr_none
  | succ f ih =>
    intro v1 v2
    rw [mX0_clearCells_48_52_3]
    have hS : kept [52] [] v2 v2 := kept.rf
    repeat' first
      | with_reducible exact Fr_none
      | (with_reducible refine Fr_some ?_; assumption)
      | with_reducible refine Fr_gd ?_
      | with_reducible refine Fr_if ?_ ?_
      | with_reducible refine Fr_nxS (kept.upF (by assumption) (by decide)) (fun _ _ => ?_)
      | with_reducible refine Fr_nxS (kept.upA (by assumption) (by decide)) (fun _ _ => ?_)
      | with_reducible refine Fr_nxI (fun _ => ?_)
      | with_reducible refine Fr_bdS1 ?_ (fun _ _ => ?_)
      | with_reducible refine Fr_bdI1 (fun _ => ?_)
      | with_reducible exact (ih _ _).to (by assumption) (fun _ h => h) (fun _ h => h)
theorem fr_mX0_clearCells_48_52 (S0 : St) (a2 : Int) (a3 : Int) : Fr [52] [] (fun o : St => o) S0 (mX0_clearCells_48_52 S0 a2 a3) := by
  unfold mX0_clearCells_48_52
  have hS : kept [52] [] S0 S0 := kept.rf
  repeat' first
    | with_reducible exact Fr_none
    | (with_reducible refine Fr_some ?_; assumption)
    | with_reducible refine Fr_gd ?_
    | with_reducible refine Fr_if ?_ ?_
    | with_reducible refine Fr_nxS (kept.upF (by assumption) (by decide)) (fun _ _ => ?_)
    | with_reducible refine Fr_nxS (kept.upA (by assumption) (by decide)) (fun _ _ => ?_)
    | with_reducible refine Fr_nxI (fun _ => ?_)
    | with_reducible refine Fr_bdS1 ?_ (fun _ _ => ?_)
    | with_reducible refine Fr_bdI1 (fun _ => ?_)
    | with_reducible exact (fr_mX0_clearCells_48_52_3 _ _ _ _ _).to (by assumption) (by decide) (by decide)
theorem fr_mX0_clearRows_48_10 (v_1 : Int) (a1 : Int) : ∀ (f : Nat) (v1 : Int) (v2 : St), Fr [52] [] (fun o : St => o) v2 (mX0_clearRows_48_10 v_1 a1 f v1 v2) := by
  intro f
  induction f with
  | zero => intros; rw [mX0_clearRows_48_10]; exact Fr_none
  | succ f ih =>
    intro v1 v2
    rw [mX0_clearRows_48_10]
    have hS : kept [52] [] v2 v2 := kept.rf
    repeat' first
      | with_reducible exact Fr_none
      | (with_reducible refine Fr_some ?_; assumption)
      | with_reducible refine Fr_gd ?_
      | with_reducible refine Fr_if ?_ ?_
      | with_reducible refine Fr_nxS (kept.upF (by assumption) (by decide)) (fun _ _ => ?_)
      | with_reducible refine Fr_nxS (kept.upA (by assumption) (by decide)) (fun _ _ => ?_)
      | with_reducible refine Fr_nxI (fun _ => ?_)
      | with_reducible refine Fr_bdS1 ?_ (fun _ _ => ?_)
      | with_reducible refine Fr_bdI1 (fun _ => ?_)
      | with_reducible exact (fr_mX0_clearCells_48_52 _ _ _).to (by assumption) (by decide) (by decide)
      | with_reducible exact (ih _ _).to (by assumption) (fun _ h => h) (fun _ h => h)
theorem fr_mX0_clearRows_48_2 (a1 : Int) : ∀ (f : Nat) (v1 : Int) (v2 : St), Fr [52] [] (fun o : St => o) v2 (mX0_clearRows_48_2 a1 f v1 v2) := by
  intro f
  induction f with
  | zero => intros; rw [mX0_clearRows_48_2]; exact Fr_none
  | succ f ih =>
    intro v1 v2
    rw [mX0_clearRows_48_2]
    have hS : kept [52] [] v2 v2 := kept.rf
    repeat' first
      | with_reducible exact Fr_none
      | (with_reducible refine Fr_some ?_; assumption)
      | with_reducible refine Fr_gd ?_
      | with_reducible refine Fr_if ?_ ?_
      | with_reducible refine Fr_nxS (kept.upF (by assumption) (by decide)) (fun _ _ => ?_)
      | with_reducible refine Fr_nxS (kept.upA (by assumption) (by decide)) (fun _ _ => ?_)
      | with_reducible refine Fr_nxI (fun _ => ?_)
      | with_reducible refine Fr_bdS1 ?_ (fun _ _ => ?_)
      | with_reducible refine Fr_bdI1 (fun _ => ?_)
      | with_reducible exact (fr_mX0_clearRows_48_10 _ _ _ _ _).to (by assumption) (by decide) (by decide)
      | with_reducible exact (ih _ _).to (by assumption) (fun _ h => h) (fun _ h => h)
theorem fr_mX0_clearRows_48 (S0 : St) (a1 : Int) : Fr [52] [] (fun o : St => o) S0 (mX0_clearRows_48 S0 a1) := by
  unfold mX0_clearRows_48
  have hS : kept [52] [] S0 S0 := kept.rf
  repeat' first
    | with_reducible exact Fr_none
    | (with_reducible refine Fr_some ?_; assumption)
    | with_reducible refine Fr_gd ?_
    | with_reducible refine Fr_if ?_ ?_
    | with_reducible refine Fr_nxS (kept.upF (by assumption) (by decide)) (fun _ _ => ?_)
    | with_reducible refine Fr_nxS (kept.upA (by assumption) (by decide)) (fun _ _ => ?_)
    | with_reducible refine Fr_nxI (fun _ => ?_)
    | with_reducible refine Fr_bdS1 ?_ (fun _ _ => ?_)
    | with_reducible refine Fr_bdI1 (fun _ => ?_)
    | with_reducible exact (fr_mX0_clearRows_48_2 _ _ _ _).to (by assumption) (by decide) (by decide)
theorem fr_mX0_countSequence_48_185 (v_19 : Int) (x_3 : Int) (x_1 : Int) (a1 : Int) (a2 : Int) : ∀ (f : Nat) (v1 : Int) (v2 : St), Fr [49] [] (fun o : St => o) v2 (mX0_countSequence_48_185 v_19 x_3 x_1 a1 a2 f v1 v2) := by
  intro f
  induction f with
  | zero => intros; rw [mX0_countSequence_48_185]; exact Fr_none
  | succ f ih =>
    intro v1 v2
    rw [mX0_countSequence_48_185]
    have hS : kept [49] [] v2 v2 := kept.rf
    repeat' first
      | with_reducible exact Fr_none
      | (with_reducible refine Fr_some ?_; assumption)
      | with_reducible refine Fr_gd ?_
      | with_reducible refine Fr_if ?_ ?_
      | with_reducible refine Fr_nxS (kept.upF (by assumption) (by decide)) (fun _ _ => ?_)
      | with_reducible refine Fr_nxS (kept.upA (by assumption) (by decide)) (fun _ _ => ?_)
      | with_reducible refine Fr_nxI (fun _ => ?_)
      | with_reducible refine Fr_bdS1 ?_ (fun _ _ => ?_)
      | with_reducible refine Fr_bdI1 (fun _ => ?_)
      | with_reducible exact (ih _ _).to (by assumption) (fun _ h => h) (fun _ h => h)
theorem fr_mX0_countSequence_48_166 (x_3 : Int) (x_1 : Int) (a1 : Int) (a2 : Int) : ∀ (f : Nat) (v1 : Int) (v2 : St), Fr [49] [] (fun o : St => o) v2 (mX0_countSequence_48_166 x_3 x_1 a1 a2 f v1 v2) := by
  intro f
  induction f with
  | zero => intros; rw [mX0_countSequence_48_166]; exact Fr_none
  | succ f ih =>
    intro v1 v2
    rw [mX0_countSequence_48_166]
    have hS : kept [49] [] v2 v2 := kept.rf
    repeat' first
      | with_reducible exact Fr_none
      | (with_reducible refine Fr_some ?_; assumption)
      | with_reducible refine Fr_gd ?_
      | with_reducible refine Fr_if ?_ ?_
      | with_reducible refine Fr_nxS (kept.upF (by assumption) (by decide)) (fun _ _ => ?_)
      | with_reducible refine Fr_nxS (kept.upA (by assumption) (by decide)) (fun _ _ => ?_)
      | with_reducible refine Fr_nxI (fun _ => ?_)
      | with_reducible refine Fr_bdS1 ?_ (fun _ _ => ?_)
      | with_reducible refine Fr_bdI1 (fun _ => ?_)
      | with_reducible exact (fr_mX0_countSequence_48_185 _ _ _ _ _ _ _ _).to (by assumption) (by decide) (by decide)
      | with_reducible exact (ih _ _).to (by assumption) (fun _ h => h) (fun _ h => h)
theorem fr_mX0_countSequence_48 (S0 : St) (a1 : Int) (a2 : Int) : Fr [49, 52, 53] [] (fun o : St => o) S0 (mX0_countSequence_48 S0 a1 a2) := by
  unfold mX0_countSequence_48
  have hS : kept [49, 52, 53] [] S0 S0 := kept.rf
  repeat' first
    | with_reducible exact Fr_none
    | (with_reducible refine Fr_some ?_; assumption)
    | with_reducible refine Fr_gd ?_
    | with_reducible refine Fr_if ?_ ?_
    | with_reducible refine Fr_nxS (kept.upF (by assumption) (by decide)) (fun _ _ => ?_)
    | with_reducible refine Fr_nxS (kept.upA (by assumption) (by decide)) (fun _ _ => ?_)
    | with_reducible refine Fr_nxI (fun _ => ?_)
    | with_reducible refine Fr_bdS1 ?_ (fun _ _ => ?_)
    | with_reducible refine Fr_bdI1 (fun _ => ?_)
    | with_reducible exact (fr_mX0_clearCells_48_49 _ _ _).to (by assumption) (by decide) (by decide)
    | with_reducible exact (fr_mX0_clearRows_48 _ _).to (by assumption) (by decide) (by decide)
    | with_reducible exact (fr_mX0_keepStage_48 _ _ _).to (by assumption) (by decide) (by decide)
    | with_reducible exact (fr_mX0_copyCells_48_49_49 _ _ _ _).to (by assumption) (by decide) (by decide)
    | with_reducible exact (fr_mX0_growRows_48 _ _ _).to (by assumption) (by decide) (by decide)
    | with_reducible exact (fr_mX0_addClasses_48 _ _ _).to (by assumption) (by decide) (by decide)
    | with_reducible exact (fr_mX0_countSequence_48_166 _ _ _ _ _ _ _).to (by assumption) (by decide) (by decide)
theorem fr_mX0_copyCells_48_51_49_3 (a2 : Int) (a4 : Int) (a5 : Int) : ∀ (f : Nat) (v1 : Int) (v2 : St), Fr [49] [] (fun o : St => o) v2 (mX0_copyCells_48_51_49_3 a2 a4 a5 f v1 v2) := by
  intro f
  induction f with
  | zero => intros; rw [mX0_copyCells_48_51_49_3]; exact Fr_none
  | succ f ih =>
    intro v1 v2
    rw [mX0_copyCells_48_51_49_3]
    have hS : kept [49] [] v2 v2 := kept.rf
    repeat' first
      | with_reducible exact Fr_none
      | (with_reducible refine Fr_some ?_; assumption)
      | with_reducible refine Fr_gd ?_
      | with_reducible refine Fr_if ?_ ?_
      | with_reducible refine Fr_nxS (kept.upF (by assumption) (by decide)) (fun _ _ => ?_)
      | with_reducible refine Fr_nxS (kept.upA (by assumption) (by decide)) (fun _ _ => ?_)
      | with_reducible refine Fr_nxI (fun _ => ?_)
      | with_reducible refine Fr_bdS1 ?_ (fun _ _ => ?_)
      | with_reducible refine Fr_bdI1 (fun _ => ?_)
      | with_reducible exact (ih _ _).to (by assumption) (fun _ h => h) (fun _ h => h)
theorem fr_mX0_copyCells_48_51_49 (S0 : St) (a2 : Int) (a4 : Int) (a5 : Int) : Fr [49] [] (fun o : St => o) S0 (mX0_copyCells_48_51_49 S0 a2 a4 a5) := by
  unfold mX0_copyCells_48_51_49
  have hS : kept [49] [] S0 S0 := kept.rf
  repeat' first
    | with_reducible exact Fr_none
    | (with_reducible refine Fr_some ?_; assumption)
    | with_reducible refine Fr_gd ?_
    | with_reducible refine Fr_if ?_ ?_
    | with_reducible refine Fr_nxS (kept.upF (by assumption) (by decide)) (fun _ _ => ?_)
    | with_reducible refine Fr_nxS (kept.upA (by assumption) (by decide)) (fun _ _ => ?_)
    | with_reducible refine Fr_nxI (fun _ => ?_)
    | with_reducible refine Fr_bdS1 ?_ (fun _ _ => ?_)
    | with_reducible refine Fr_bdI1 (fun _ => ?_)
    | with_reducible exact (fr_mX0_copyCells_48_51_49_3 _ _ _ _ _ _).to (by assumption) (by decide) (by decide)
theorem fr_mX0_sumTerms_48_49_3 (a1 : Int) (a2 : Int) (a4 : Int) : ∀ (f : Nat) (v1 : Int) (v2 : St), Fr [49] [] (fun o : St => o) v2 (mX0_sumTerms_48_49_3 a1 a2 a4 f v1 v2) := by
  intro f
  induction f with
  | zero => intros; rw [mX0_sumTerms_48_49_3]; exact Fr_none
  | succ f ih =>
    intro v1 v2
    rw [mX0_sumTerms_48_49_3]
    have hS : kept [49] [] v2 v2 := kept.rf
    repeat' first
      | with_reducible exact Fr_none
      | (with_reducible refine Fr_some ?_; assumption)
      | with_reducible refine Fr_gd ?_
      | with_reducible refine Fr_if ?_ ?_
      | with_reducible refine Fr_nxS (kept.upF (by assumption) (by decide)) (fun _ _ => ?_)
      | with_reducible refine Fr_nxS (kept.upA (by assumption) (by decide)) (fun _ _ => ?_)
      | with_reducible refine Fr_nxI (fun _ => ?_)
      | with_reducible refine Fr_bdS1 ?_ (fun _ _ => ?_)
      | with_reducible refine Fr_bdI1 (fun _ => ?_)
      | with_reducible exact (ih _ _).to (by assumption) (fun _ h => h) (fun _ h => h)
theorem fr_mX0_sumTerms_48_49 (S0 : St) (a1 : Int) (a2 : Int) (a4 : Int) : Fr [49] [] (fun o : St => o) S0 (mX0_sumTerms_48_49 S0 a1 a2 a4) := by
  unfold mX0_sumTerms_48_49
  have hS : kept [49] [] S0 S0 := kept.rf
  repeat' first
    | with_reducible exact Fr_none
    | (with_reducible refine Fr_some ?_; assumption)
    | with_reducible refine Fr_gd ?_
    | with_reducible refine Fr_if ?_ ?_
    | with_reducible refine Fr_nxS (kept.upF (by assumption) (by decide)) (fun _ _ => ?_)
    | with_reducible refine Fr_nxS (kept.upA (by assumption) (by decide)) (fun _ _ => ?_)
    | with_reducible refine Fr_nxI (fun _ => ?_)
    | with_reducible refine Fr_bdS1 ?_ (fun _ _ => ?_)
    | with_reducible refine Fr_bdI1 (fun _ => ?_)
    | with_reducible exact (fr_mX0_sumTerms_48_49_3 _ _ _ _ _ _).to (by assumption) (by decide) (by decide)
theorem fr_mX0_countPart_48 (S0 : St) (a1 : Int) (a2 : Int) : Fr [49, 52, 53] [] (fun o : St => o) S0 (mX0_countPart_48 S0 a1 a2) := by
  unfold mX0_countPart_48
  have hS : kept [49, 52, 53] [] S0 S0 := kept.rf
  repeat' first
    | with_reducible exact Fr_none
    | (with_reducible refine Fr_some ?_; assumption)
    | with_reducible refine Fr_gd ?_
    | with_reducible refine Fr_if ?_ ?_
    | with_reducible refine Fr_nxS (kept.upF (by assumption) (by decide)) (fun _ _ => ?_)
    | with_reducible refine Fr_nxS (kept.upA (by assumption) (by decide)) (fun _ _ => ?_)
    | with_reducible refine Fr_nxI (fun _ => ?_)
    | with_reducible refine Fr_bdS1 ?_ (fun _ _ => ?_)
    | with_reducible refine Fr_bdI1 (fun _ => ?_)
    | with_reducible exact (fr_mX0_sumTerms_48_49 _ _ _ _).to (by assumption) (by decide) (by decide)
    | with_reducible exact (fr_mX0_copyCells_48_51_49 _ _ _ _).to (by assumption) (by decide) (by decide)
    | with_reducible exact (fr_mX0_clearCells_48_49 _ _ _).to (by assumption) (by decide) (by decide)
    | with_reducible exact (fr_mX0_countSequence_48 _ _ _).to (by assumption) (by decide) (by decide)
theorem fr_mX0_sumTerms_48_51_3 (a1 : Int) (a2 : Int) (a4 : Int) : ∀ (f : Nat) (v1 : Int) (v2 : St), Fr [51] [] (fun o : St => o) v2 (mX0_sumTerms_48_51_3 a1 a2 a4 f v1 v2) := by
  intro f
  induction f with
  | zero => intros; rw [mX0_sumTerms_48_51_3]; exact Fr_none
  | succ f ih =>
    intro v1 v2
    rw [mX0_sumTerms_48_51_3]
    have hS : kept [51] [] v2 v2 := kept.rf
    repeat' first
      | with_reducible exact Fr_none
      | (with_reducible refine Fr_some ?_; assumption)
      | with_reducible refine Fr_gd ?_
      | with_reducible refine Fr_if ?_ ?_
      | with_reducible refine Fr_nxS (kept.upF (by assumption) (by decide)) (fun _ _ => ?_)
      | with_reducible refine Fr_nxS (kept.upA (by assumption) (by decide)) (fun _ _ => ?_)
      | with_reducible refine Fr_nxI (fun _ => ?_)
      | with_reducible refine Fr_bdS1 ?_ (fun _ _ => ?_)
      | with_reducible refine Fr_bdI1 (fun _ => ?_)
      | with_reducible exact (ih _ _).to (by assumption) (fun _ h => h) (fun _ h => h)
theorem fr_mX0_sumTerms_48_51 (S0 : St) (a1 : Int) (a2 : Int) (a4 : Int) : Fr [51] [] (fun o : St => o) S0 (mX0_sumTerms_48_51 S0 a1 a2 a4) := by
  unfold mX0_sumTerms_48_51
  have hS : kept [51] [] S0 S0 := kept.rf
  repeat' first
    | with_reducible exact Fr_none
    | (with_reducible refine Fr_some ?_; assumption)
    | with_reducible refine Fr_gd ?_
    | with_reducible refine Fr_if ?_ ?_
    | with_reducible refine Fr_nxS (kept.upF (by assumption) (by decide)) (fun _ _ => ?_)
    | with_reducible refine Fr_nxS (kept.upA (by assumption) (by decide)) (fun _ _ => ?_)
    | with_reducible refine Fr_nxI (fun _ => ?_)
    | with_reducible refine Fr_bdS1 ?_ (fun _ _ => ?_)
    | with_reducible refine Fr_bdI1 (fun _ => ?_)
    | with_reducible exact (fr_mX0_sumTerms_48_51_3 _ _ _ _ _ _).to (by assumption) (by decide) (by decide)
theorem fr_mX0_take_48_59 (v_7 : Int) : ∀ (f : Nat) (v1 : Int) (v2 : St), Fr [49, 50, 51, 52, 53] [] (fun o : St => o) v2 (mX0_take_48_59 v_7 f v1 v2) := by
  intro f
  induction f with
  | zero => intros; rw [mX0_take_48_59]; exact Fr_none
  | succ f ih =>
    intro v1 v2
    rw [mX0_take_48_59]
    have hS : kept [49, 50, 51, 52, 53] [] v2 v2 := kept.rf
    repeat' first
      | with_reducible exact Fr_none
      | (with_reducible refine Fr_some ?_; assumption)
      | with_reducible refine Fr_gd ?_
      | with_reducible refine Fr_if ?_ ?_
      | with_reducible refine Fr_nxS (kept.upF (by assumption) (by decide)) (fun _ _ => ?_)
      | with_reducible refine Fr_nxS (kept.upA (by assumption) (by decide)) (fun _ _ => ?_)
      | with_reducible refine Fr_nxI (fun _ => ?_)
      | with_reducible refine Fr_bdS1 ?_ (fun _ _ => ?_)
      | with_reducible refine Fr_bdI1 (fun _ => ?_)
      | with_reducible exact (fr_mX0_countPart_48 _ _ _).to (by assumption) (by decide) (by decide)
      | with_reducible exact (fr_mX0_countTail_48 _ _ _).to (by assumption) (by decide) (by decide)
      | with_reducible exact (fr_mX0_sumTerms_48_51 _ _ _ _).to (by assumption) (by decide) (by decide)
      | with_reducible exact (ih _ _).to (by assumption) (fun _ h => h) (fun _ h => h)
theorem fr_mX0_take_48_46  : ∀ (f : Nat) (v1 : Int) (v2 : St), Fr [49, 50, 51, 52, 53] [] (fun o : St => o) v2 (mX0_take_48_46  f v1 v2) := by
  intro f
  induction f with
  | zero => intros; rw [mX0_take_48_46]; exact Fr_none
  | succ f ih =>
    intro v1 v2
    rw [mX0_take_48_46]
    have hS : kept [49, 50, 51, 52, 53] [] v2 v2 := kept.rf
    repeat' first
      | with_reducible exact Fr_none
      | (with_reducible refine Fr_some ?_; assumption)
      | with_reducible refine Fr_gd ?_
      | with_reducible refine Fr_if ?_ ?_
      | with_reducible refine Fr_nxS (kept.upF (by assumption) (by decide)) (fun _ _ => ?_)
      | with_reducible refine Fr_nxS (kept.upA (by assumption) (by decide)) (fun _ _ => ?_)
      | with_reducible refine Fr_nxI (fun _ => ?_)
      | with_reducible refine Fr_bdS1 ?_ (fun _ _ => ?_)
      | with_reducible refine Fr_bdI1 (fun _ => ?_)
      | with_reducible exact (fr_mX0_take_48_59 _ _ _ _).to (by assumption) (by decide) (by decide)
      | with_reducible exact (ih _ _).to (by assumption) (fun _ h => h) (fun _ h => h)
theorem fr_mX0_take_48_7  : ∀ (f : Nat) (v1 : Int) (v2 : St), Fr [49, 50] [] (fun o : St => o) v2 (mX0_take_48_7  f v1 v2) := by
  intro f
  induction f with
  | zero => intros; rw [mX0_take_48_7]; exact Fr_none
  | succ f ih =>
    intro v1 v2
    rw [mX0_take_48_7]
    have hS : kept [49, 50] [] v2 v2 := kept.rf
    repeat' first
      | with_reducible exact Fr_none
      | (with_reducible refine Fr_some ?_; assumption)
      | with_reducible refine Fr_gd ?_
      | with_reducible refine Fr_if ?_ ?_
      | with_reducible refine Fr_nxS (kept.upF (by assumption) (by decide)) (fun _ _ => ?_)
      | with_reducible refine Fr_nxS (kept.upA (by assumption) (by decide)) (fun _ _ => ?_)
      | with_reducible refine Fr_nxI (fun _ => ?_)
      | with_reducible exact (ih _ _).to (by assumption) (fun _ h => h) (fun _ h => h)
theorem fr_mX0_take_48 (S0 : St) (a1 : Int) : Fr [49, 50, 51, 52, 53] [(48, 1)] (fun o : St => o) S0 (mX0_take_48 S0 a1) := by
  unfold mX0_take_48
  have hS : kept [49, 50, 51, 52, 53] [(48, 1)] S0 S0 := kept.rf
  repeat' first
    | with_reducible exact Fr_none
    | (with_reducible refine Fr_some ?_; assumption)
    | with_reducible refine Fr_gd ?_
    | with_reducible refine Fr_if ?_ ?_
    | with_reducible refine Fr_nxS (kept.upF (by assumption) (by decide)) (fun _ _ => ?_)
    | with_reducible refine Fr_nxS (kept.upA (by assumption) (by decide)) (fun _ _ => ?_)
    | with_reducible refine Fr_nxI (fun _ => ?_)
    | with_reducible refine Fr_bdS1 ?_ (fun _ _ => ?_)
    | with_reducible refine Fr_bdI1 (fun _ => ?_)
    | with_reducible exact (fr_mX0_take_48_7 _ _ _).to (by assumption) (by decide) (by decide)
    | with_reducible exact (fr_mX0_take_48_46 _ _ _).to (by assumption) (by decide) (by decide)
theorem fr_mX4_keep_47_57_16 (v_1 : Int) (a2 : Int) : ∀ (f : Nat) (v1 : Int) (v2 : St), Fr [57] [] (fun o : St => o) v2 (mX4_keep_47_57_16 v_1 a2 f v1 v2) := by
  intro f
  induction f with
  | zero => intros; rw [mX4_keep_47_57_16]; exact Fr_none
  | succ f ih =>
    intro v1 v2
    rw [mX4_keep_47_57_16]
    have hS : kept [57] [] v2 v2 := kept.rf
    repeat' first
      | with_reducible exact Fr_none
      | (with_reducible refine Fr_some ?_; assumption)
      | with_reducible refine Fr_gd ?_
      | with_reducible refine Fr_if ?_ ?_
      | with_reducible refine Fr_nxS (kept.upF (by assumption) (by decide)) (fun _ _ => ?_)
      | with_reducible refine Fr_nxS (kept.upA (by assumption) (by decide)) (fun _ _ => ?_)
      | with_reducible refine Fr_nxI (fun _ => ?_)
      | with_reducible refine Fr_bdS1 ?_ (fun _ _ => ?_)
      | with_reducible refine Fr_bdI1 (fun _ => ?_)
      | with_reducible exact (ih _ _).to (by assumption) (fun _ h => h) (fun _ h => h)
theorem fr_mX4_keep_47_57_2 (a2 : Int) : ∀ (f : Nat) (v1 : Int) (v2 : St), Fr [57] [] (fun o : St => o) v2 (mX4_keep_47_57_2 a2 f v1 v2) := by
  intro f
  induction f with
  | zero => intros; rw [mX4_keep_47_57_2]; exact Fr_none
  | succ f ih =>
    intro v1 v2
    rw [mX4_keep_47_57_2]
    have hS : kept [57] [] v2 v2 := kept.rf
    repeat' first
      | with_reducible exact Fr_none
      | (with_reducible refine Fr_some ?_; assumption)
      | with_reducible refine Fr_gd ?_
      | with_reducible refine Fr_if ?_ ?_
      | with_reducible refine Fr_nxS (kept.upF (by assumption) (by decide)) (fun _ _ => ?_)
      | with_reducible refine Fr_nxS (kept.upA (by assumption) (by decide)) (fun _ _ => ?_)
      | with_reducible refine Fr_nxI (fun _ => ?_)
      | with_reducible refine Fr_bdS1 ?_ (fun _ _ => ?_)
      | with_reducible refine Fr_bdI1 (fun _ => ?_)
      | with_reducible exact (fr_mX4_keep_47_57_16 _ _ _ _ _).to (by assumption) (by decide) (by decide)
      | with_reducible exact (ih _ _).to (by assumption) (fun _ h => h) (fun _ h => h)
theorem fr_mX4_keep_47_57 (S0 : St) (a2 : Int) : Fr [57] [] (fun o : St => o) S0 (mX4_keep_47_57 S0 a2) := by
  unfold mX4_keep_47_57
  have hS : kept [57] [] S0 S0 := kept.rf
  repeat' first
    | with_reducible exact Fr_none
    | (with_reducible refine Fr_some ?_; assumption)
    | with_reducible refine Fr_gd ?_
    | with_reducible refine Fr_if ?_ ?_
    | with_reducible refine Fr_nxS (kept.upF (by assumption) (by decide)) (fun _ _ => ?_)
    | with_reducible refine Fr_nxS (kept.upA (by assumption) (by decide)) (fun _ _ => ?_)
    | with_reducible refine Fr_nxI (fun _ => ?_)
    | with_reducible refine Fr_bdS1 ?_ (fun _ _ => ?_)
    | with_reducible refine Fr_bdI1 (fun _ => ?_)
    | with_reducible exact (fr_mX4_keep_47_57_2 _ _ _ _).to (by assumption) (by decide) (by decide)
theorem fr_mX4_labelledThings (S0 : St) (a1 : Int) (a2 : Int) : Fr [49, 50, 51, 52, 53, 57] [(47, 2), (48, 1)] (fun o : Int × St => o.2) S0 (mX4_labelledThings S0 a1 a2) := by
  unfold mX4_labelledThings
  have hS : kept [49, 50, 51, 52, 53, 57] [(47, 2), (48, 1)] S0 S0 := kept.rf
  repeat' first
    | with_reducible exact Fr_none
    | (with_reducible refine Fr_some ?_; assumption)
    | with_reducible refine Fr_gd ?_
    | with_reducible refine Fr_if ?_ ?_
    | with_reducible refine Fr_nxS (kept.upF (by assumption) (by decide)) (fun _ _ => ?_)
    | with_reducible refine Fr_nxS (kept.upA (by assumption) (by decide)) (fun _ _ => ?_)
    | with_reducible refine Fr_nxI (fun _ => ?_)
    | with_reducible refine Fr_bdS1 ?_ (fun _ _ => ?_)
    | with_reducible refine Fr_bdI1 (fun _ => ?_)
    | with_reducible exact (fr_mX0_take_48 _ _).to (by assumption) (by decide) (by decide)
    | with_reducible exact (fr_mX4_keep_47_57 _ _).to (by assumption) (by decide) (by decide)
theorem fr_mX11_labelled (S0 : St) (a1 : Int) (a2 : Int) : Fr [49, 50, 51, 52, 53, 57] [(47, 2), (48, 1)] (fun o : Int × St => o.2) S0 (mX11_labelled S0 a1 a2) := by
  unfold mX11_labelled
  have hS : kept [49, 50, 51, 52, 53, 57] [(47, 2), (48, 1)] S0 S0 := kept.rf
  repeat' first
    | with_reducible exact Fr_none
    | (with_reducible refine Fr_some ?_; assumption)
    | with_reducible refine Fr_gd ?_
    | with_reducible refine Fr_if ?_ ?_
    | with_reducible refine Fr_nxS (kept.upF (by assumption) (by decide)) (fun _ _ => ?_)
    | with_reducible refine Fr_nxS (kept.upA (by assumption) (by decide)) (fun _ _ => ?_)
    | with_reducible refine Fr_nxI (fun _ => ?_)
    | with_reducible refine Fr_bdS1 ?_ (fun _ _ => ?_)
    | with_reducible refine Fr_bdI1 (fun _ => ?_)
    | with_reducible refine Fr_bdS2 ?_ (fun _ _ _ => ?_)
    | with_reducible refine Fr_bdI2 (fun _ _ => ?_)
    | with_reducible exact (fr_mX4_labelledThings _ _ _).to (by assumption) (by decide) (by decide)
theorem fr_mX4_keepMarks_29 (v_11 : Int) (v_1 : Int) (a1 : Int) : ∀ (f : Nat) (v1 : Int) (v2 : St), Fr [58] [] (fun o : St => o) v2 (mX4_keepMarks_29 v_11 v_1 a1 f v1 v2) := by
  intro f
  induction f with
  | zero => intros; rw [mX4_keepMarks_29]; exact Fr_none
  | succ f ih =>
    intro v1 v2
    rw [mX4_keepMarks_29]
    have hS : kept [58] [] v2 v2 := kept.rf
    repeat' first
      | with_reducible exact Fr_none
      | (with_reducible refine Fr_some ?_; assumption)
      | with_reducible refine Fr_gd ?_
      | with_reducible refine Fr_if ?_ ?_
      | with_reducible refine Fr_nxS (kept.upF (by assumption) (by decide)) (fun _ _ => ?_)
      | with_reducible refine Fr_nxS (kept.upA (by assumption) (by decide)) (fun _ _ => ?_)
      | with_reducible refine Fr_nxI (fun _ => ?_)
      | with_reducible refine Fr_bdS1 ?_ (fun _ _ => ?_)
      | with_reducible refine Fr_bdI1 (fun _ => ?_)
      | with_reducible exact (ih _ _).to (by assumption) (fun _ h => h) (fun _ h => h)
theorem fr_mX4_keepMarks_15 (v_1 : Int) (a1 : Int) : ∀ (f : Nat) (v1 : Int) (v2 : St), Fr [58] [] (fun o : St => o) v2 (mX4_keepMarks_15 v_1 a1 f v1 v2) := by
  intro f
  induction f with
  | zero => intros; rw [mX4_keepMarks_15]; exact Fr_none
  | succ f ih =>
    intro v1 v2
    rw [mX4_keepMarks_15]
    have hS : kept [58] [] v2 v2 := kept.rf
    repeat' first
      | with_reducible exact Fr_none
      | (with_reducible refine Fr_some ?_; assumption)
      | with_reducible refine Fr_gd ?_
      | with_reducible refine Fr_if ?_ ?_
      | with_reducible refine Fr_nxS (kept.upF (by assumption) (by decide)) (fun _ _ => ?_)
      | with_reducible refine Fr_nxS (kept.upA (by assumption) (by decide)) (fun _ _ => ?_)
      | with_reducible refine Fr_nxI (fun _ => ?_)
      | with_reducible refine Fr_bdS1 ?_ (fun _ _ => ?_)
      | with_reducible refine Fr_bdI1 (fun _ => ?_)
      | with_reducible exact (fr_mX4_keepMarks_29 _ _ _ _ _ _).to (by assumption) (by decide) (by decide)
      | with_reducible exact (ih _ _).to (by assumption) (fun _ h => h) (fun _ h => h)
theorem fr_mX4_keepMarks_2 (a1 : Int) : ∀ (f : Nat) (v1 : Int) (v2 : St), Fr [58] [] (fun o : St => o) v2 (mX4_keepMarks_2 a1 f v1 v2) := by
  intro f
  induction f with
  | zero => intros; rw [mX4_keepMarks_2]; exact Fr_none
  | succ f ih =>
    intro v1 v2
    rw [mX4_keepMarks_2]
    have hS : kept [58] [] v2 v2 := kept.rf
    repeat' first
      | with_reducible exact Fr_none
      | (with_reducible refine Fr_some ?_; assumption)
      | with_reducible refine Fr_gd ?_
      | with_reducible refine Fr_if ?_ ?_
      | with_reducible refine Fr_nxS (kept.upF (by assumption) (by decide)) (fun _ _ => ?_)
      | with_reducible refine Fr_nxS (kept.upA (by assumption) (by decide)) (fun _ _ => ?_)
      | with_reducible refine Fr_nxI (fun _ => ?_)
      | with_reducible refine Fr_bdS1 ?_ (fun _ _ => ?_)
      | with_reducible refine Fr_bdI1 (fun _ => ?_)
      | with_reducible exact (fr_mX4_keepMarks_15 _ _ _ _ _).to (by assumption) (by decide) (by decide)
      | with_reducible exact (ih _ _).to (by assumption) (fun _ h => h) (fun _ h => h)
theorem fr_mX4_keepMarks (S0 : St) (a1 : Int) : Fr [58] [] (fun o : St => o) S0 (mX4_keepMarks S0 a1) := by
  unfold mX4_keepMarks
  have hS : kept [58] [] S0 S0 := kept.rf
  repeat' first
    | with_reducible exact Fr_none
    | (with_reducible refine Fr_some ?_; assumption)
    | with_reducible refine Fr_gd ?_
    | with_reducible refine Fr_if ?_ ?_
    | with_reducible refine Fr_nxS (kept.upF (by assumption) (by decide)) (fun _ _ => ?_)
    | with_reducible refine Fr_nxS (kept.upA (by assumption) (by decide)) (fun _ _ => ?_)
    | with_reducible refine Fr_nxI (fun _ => ?_)
    | with_reducible refine Fr_bdS1 ?_ (fun _ _ => ?_)
    | with_reducible refine Fr_bdI1 (fun _ => ?_)
    | with_reducible exact (fr_mX4_keepMarks_2 _ _ _ _).to (by assumption) (by decide) (by decide)
theorem fr_mX4_markedThings (S0 : St) (a1 : Int) (a2 : Int) (a3 : Int) (a4 : Int) : Fr [49, 50, 51, 52, 53, 58] [(47, 3), (48, 1)] (fun o : Int × St => o.2) S0 (mX4_markedThings S0 a1 a2 a3 a4) := by
  unfold mX4_markedThings
  have hS : kept [49, 50, 51, 52, 53, 58] [(47, 3), (48, 1)] S0 S0 := kept.rf
  repeat' first
    | with_reducible exact Fr_none
    | (with_reducible refine Fr_some ?_; assumption)
    | with_reducible refine Fr_gd ?_
    | with_reducible refine Fr_if ?_ ?_
    | with_reducible refine Fr_nxS (kept.upF (by assumption) (by decide)) (fun _ _ => ?_)
    | with_reducible refine Fr_nxS (kept.upA (by assumption) (by decide)) (fun _ _ => ?_)
    | with_reducible refine Fr_nxI (fun _ => ?_)
    | with_reducible refine Fr_bdS1 ?_ (fun _ _ => ?_)
    | with_reducible refine Fr_bdI1 (fun _ => ?_)
    | with_reducible exact (fr_mX0_take_48 _ _).to (by assumption) (by decide) (by decide)
    | with_reducible exact (fr_mX4_keepMarks _ _).to (by assumption) (by decide) (by decide)
theorem fr_mX11_marked (S0 : St) (a1 : Int) (a2 : Int) (a3 : Int) (a4 : Int) : Fr [49, 50, 51, 52, 53, 58] [(47, 3), (48, 1)] (fun o : Int × St => o.2) S0 (mX11_marked S0 a1 a2 a3 a4) := by
  unfold mX11_marked
  have hS : kept [49, 50, 51, 52, 53, 58] [(47, 3), (48, 1)] S0 S0 := kept.rf
  repeat' first
    | with_reducible exact Fr_none
    | (with_reducible refine Fr_some ?_; assumption)
    | with_reducible refine Fr_gd ?_
    | with_reducible refine Fr_if ?_ ?_
    | with_reducible refine Fr_nxS (kept.upF (by assumption) (by decide)) (fun _ _ => ?_)
    | with_reducible refine Fr_nxS (kept.upA (by assumption) (by decide)) (fun _ _ => ?_)
    | with_reducible refine Fr_nxI (fun _ => ?_)
    | with_reducible refine Fr_bdS1 ?_ (fun _ _ => ?_)
    | with_reducible refine Fr_bdI1 (fun _ => ?_)
    | with_reducible refine Fr_bdS2 ?_ (fun _ _ _ => ?_)
    | with_reducible refine Fr_bdI2 (fun _ _ => ?_)
    | with_reducible exact (fr_mX4_markedThings _ _ _ _ _).to (by assumption) (by decide) (by decide)
theorem fr_mX4_keep_47_59_16 (v_1 : Int) (a2 : Int) : ∀ (f : Nat) (v1 : Int) (v2 : St), Fr [59] [] (fun o : St => o) v2 (mX4_keep_47_59_16 v_1 a2 f v1 v2) := by
  intro f
  induction f with
  | zero => intros; rw [mX4_keep_47_59_16]; exact Fr_none
  | succ f ih =>
    intro v1 v2
    rw [mX4_keep_47_59_16]
    have hS : kept [59] [] v2 v2 := kept.rf
    repeat' first
      | with_reducible exact Fr_none
      | (with_reducible refine Fr_some ?_; assumption)
      | with_reducible refine Fr_gd ?_
      | with_reducible refine Fr_if ?_ ?_
      | with_reducible refine Fr_nxS (kept.upF (by assumption) (by decide)) (fun _ _ => ?_)
      | with_reducible refine Fr_nxS (kept.upA (by assumption) (by decide)) (fun _ _ => ?_)
      | with_reducible refine Fr_nxI (fun _ => ?_)
      | with_reducible refine Fr_bdS1 ?_ (fun _ _ => ?_)
      | with_reducible refine Fr_bdI1 (fun _ => ?_)
      | with_reducible exact (ih _ _).to (by assumption) (fun _ h => h) (fun _ h => h)
theorem fr_mX4_keep_47_59_2 (a2 : Int) : ∀ (f : Nat) (v1 : Int) (v2 : St), Fr [59] [] (fun o : St => o) v2 (mX4_keep_47_59_2 a2 f v1 v2) := by
  intro f
  induction f with
  | zero => intros; rw [mX4_keep_47_59_2]; exact Fr_none
  | succ f ih =>
    intro v1 v2
    rw [mX4_keep_47_59_2]
    have hS : kept [59] [] v2 v2 := kept.rf
    repeat' first
      | with_reducible exact Fr_none
      | (with_reducible refine Fr_some ?_; assumption)
      | with_reducible refine Fr_gd ?_
      | with_reducible refine Fr_if ?_ ?_
      | with_reducible refine Fr_nxS (kept.upF (by assumption) (by decide)) (fun _ _ => ?_)
      | with_reducible refine Fr_nxS (kept.upA (by assumption) (by decide)) (fun _ _ => ?_)
      | with_reducible refine Fr_nxI (fun _ => ?_)
      | with_reducible refine Fr_bdS1 ?_ (fun _ _ => ?_)
      | with_reducible refine Fr_bdI1 (fun _ => ?_)
      | with_reducible exact (fr_mX4_keep_47_59_16 _ _ _ _ _).to (by assumption) (by decide) (by decide)
      | with_reducible exact (ih _ _).to (by assumption) (fun _ h => h) (fun _ h => h)
theorem fr_mX4_keep_47_59 (S0 : St) (a2 : Int) : Fr [59] [] (fun o : St => o) S0 (mX4_keep_47_59 S0 a2) := by
  unfold mX4_keep_47_59
  have hS : kept [59] [] S0 S0 := kept.rf
  repeat' first
    | with_reducible exact Fr_none
    | (with_reducible refine Fr_some ?_; assumption)
    | with_reducible refine Fr_gd ?_
    | with_reducible refine Fr_if ?_ ?_
    | with_reducible refine Fr_nxS (kept.upF (by assumption) (by decide)) (fun _ _ => ?_)
    | with_reducible refine Fr_nxS (kept.upA (by assumption) (by decide)) (fun _ _ => ?_)
    | with_reducible refine Fr_nxI (fun _ => ?_)
    | with_reducible refine Fr_bdS1 ?_ (fun _ _ => ?_)
    | with_reducible refine Fr_bdI1 (fun _ => ?_)
    | with_reducible exact (fr_mX4_keep_47_59_2 _ _ _ _).to (by assumption) (by decide) (by decide)
theorem fr_mX4_thingsWithout (S0 : St) (a1 : Int) (a2 : Int) (a3 : Int) (a4 : Int) : Fr [10, 49, 50, 51, 52, 53, 59] [(47, 4), (48, 1)] (fun o : Int × St => o.2) S0 (mX4_thingsWithout S0 a1 a2 a3 a4) := by
  unfold mX4_thingsWithout
  have hS : kept [10, 49, 50, 51, 52, 53, 59] [(47, 4), (48, 1)] S0 S0 := kept.rf
  repeat' first
    | with_reducible exact Fr_none
    | (with_reducible refine Fr_some ?_; assumption)
    | with_reducible refine Fr_gd ?_
    | with_reducible refine Fr_if ?_ ?_
    | with_reducible refine Fr_nxS (kept.upF (by assumption) (by decide)) (fun _ _ => ?_)
    | with_reducible refine Fr_nxS (kept.upA (by assumption) (by decide)) (fun _ _ => ?_)
    | with_reducible refine Fr_nxI (fun _ => ?_)
    | with_reducible refine Fr_bdS1 ?_ (fun _ _ => ?_)
    | with_reducible refine Fr_bdI1 (fun _ => ?_)
    | with_reducible exact (fr_mX2_flip_2 _ _ _).to (by assumption) (by decide) (by decide)
    | with_reducible exact (fr_mX0_take_48 _ _).to (by assumption) (by decide) (by decide)
    | with_reducible exact (fr_mX4_keep_47_59 _ _).to (by assumption) (by decide) (by decide)
theorem fr_mX11_without (S0 : St) (a1 : Int) (a2 : Int) (a3 : Int) (a4 : Int) : Fr [10, 49, 50, 51, 52, 53, 59] [(47, 4), (48, 1)] (fun o : Int × St => o.2) S0 (mX11_without S0 a1 a2 a3 a4) := by
  unfold mX11_without
  have hS : kept [10, 49, 50, 51, 52, 53, 59] [(47, 4), (48, 1)] S0 S0 := kept.rf
  repeat' first
    | with_reducible exact Fr_none
    | (with_reducible refine Fr_some ?_; assumption)
    | with_reducible refine Fr_gd ?_
    | with_reducible refine Fr_if ?_ ?_
    | with_reducible refine Fr_nxS (kept.upF (by assumption) (by decide)) (fun _ _ => ?_)
    | with_reducible refine Fr_nxS (kept.upA (by assumption) (by decide)) (fun _ _ => ?_)
    | with_reducible refine Fr_nxI (fun _ => ?_)
    | with_reducible refine Fr_bdS1 ?_ (fun _ _ => ?_)
    | with_reducible refine Fr_bdI1 (fun _ => ?_)
    | with_reducible refine Fr_bdS2 ?_ (fun _ _ _ => ?_)
    | with_reducible refine Fr_bdI2 (fun _ _ => ?_)
    | with_reducible exact (fr_mX4_thingsWithout _ _ _ _ _).to (by assumption) (by decide) (by decide)
theorem fr_mX11_hangs_60 (v_10 : Int) (x_7 : Int) (a1 : Int) (a2 : Int) : ∀ (f : Nat) (v1 : Int) (v2 : Int) (v3 : Int) (v4 : St), Fr [10, 49, 50, 51, 52, 53, 59] [(47, 4), (48, 1)] (fun o : Int × Int × St => o.2.2) v4 (mX11_hangs_60 v_10 x_7 a1 a2 f v1 v2 v3 v4) := by
  intro f
  induction f with
  | zero => intros; rw [mX11_hangs_60]; exact Fr_none
  | succ f ih =>
    intro v1 v2 v3 v4
    rw [mX11_hangs_60]
    have hS : kept [10, 49, 50, 51, 52, 53, 59] [(47, 4), (48, 1)] v4 v4 := kept.rf
    repeat' first
      | with_reducible exact Fr_none
      | (with_reducible refine Fr_some ?_; assumption)
      | with_reducible refine Fr_gd ?_
      | with_reducible refine Fr_if ?_ ?_
      | with_reducible refine Fr_nxS (kept.upF (by assumption) (by decide)) (fun _ _ => ?_)
      | with_reducible refine Fr_nxS (kept.upA (by assumption) (by decide)) (fun _ _ => ?_)
      | with_reducible refine Fr_nxI (fun _ => ?_)
      | with_reducible refine Fr_bdS1 ?_ (fun _ _ => ?_)
      | with_reducible refine Fr_bdI1 (fun _ => ?_)
      | with_reducible refine Fr_bdS2 ?_ (fun _ _ _ => ?_)
      | with_reducible refine Fr_bdI2 (fun _ _ => ?_)
      | with_reducible exact (fr_mX4_thingsWithout _ _ _ _ _).to (by assumption) (by decide) (by decide)
      | with_reducible exact (ih _ _ _ _).to (by assumption) (fun _ h => h) (fun _ h => h)
theorem fr_mX11_hangs_45 (x_7 : Int) (a1 : Int) (a2 : Int) : ∀ (f : Nat) (v1 : Int) (v2 : Int) (v3 : Int) (v4 : St), Fr [10, 49, 50, 51, 52, 53, 59] [(47, 4), (48, 1)] (fun o : Int × St => o.2) v4 (mX11_hangs_45 x_7 a1 a2 f v1 v2 v3 v4) := by
  intro f
  induction f with
  | zero => intros; rw [mX11_hangs_45]; exact Fr_none
  | succ f ih =>
    intro v1 v2 v3 v4
    rw [mX11_hangs_45]
    have hS : kept [10, 49, 50, 51, 52, 53, 59] [(47, 4), (48, 1)] v4 v4 := kept.rf
    repeat' first
      | with_reducible exact Fr_none
      | (with_reducible refine Fr_some ?_; assumption)
      | with_reducible refine Fr_gd ?_
      | with_reducible refine Fr_if ?_ ?_
      | with_reducible refine Fr_nxS (kept.upF (by assumption) (by decide)) (fun _ _ => ?_)
      | with_reducible refine Fr_nxS (kept.upA (by assumption) (by decide)) (fun _ _ => ?_)
      | with_reducible refine Fr_nxI (fun _ => ?_)
      | with_reducible refine Fr_bdS3 ?_ (fun _ _ _ _ => ?_)
      | with_reducible refine Fr_bdI3 (fun _ _ _ => ?_)
      | with_reducible exact (fr_mX11_hangs_60 _ _ _ _ _ _ _ _ _).to (by assumption) (by decide) (by decide)
      | with_reducible exact (ih _ _ _ _).to (by assumption) (fun _ h => h) (fun _ h => h)
