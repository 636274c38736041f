theorem fr_mX11_hangs (S0 : St) (a1 : Int) (a2 : Int) : Fr [10, 49, 50, 51, 52, 53, 59] [(47, 4), (48, 1)] (fun o : Int × St => o.2) S0 (mX11_hangs S0 a1 a2) := by
  unfold mX11_hangs
  have hS : kept [10, 49, 50, 51, 52, 53, 59] [(47, 4), (48, 1)] S0 S0 := kept.rf
  repeat' first
    | with_reducible exact Fr_none
    | (with_reducible refine Fr_some ?_; assumption)
    | with_reducible refine Fr_gd ?_
    | with_reducible refine Fr_if ?_ ?_
    | with_reducible refine Fr_nxS (kept.upF (by assumption) (by decide)) (fun _ _ => ?_)
    | with_reducible refine Fr_nxS (kept.upA (by assumption) (by decide)) (fun _ _ => ?_)
    | with_reducible refine Fr_nxI (fun _ => ?_)
    | with_reducible refine Fr_bdS1 ?_ (fun _ _ => ?_)
    | with_reducible refine Fr_bdI1 (fun _ => ?_)
    | with_reducible refine Fr_bdS2 ?_ (fun _ _ _ => ?_)
    | with_reducible refine Fr_bdI2 (fun _ _ => ?_)
    | with_reducible exact (fr_mX11_hangs_45 _ _ _ _ _ _ _ _).to (by assumption) (by decide) (by decide)
theorem fr_mX8_add (S0 : St) (a1 : Int) (a2 : Int) : Fr [62] [(61, 2)] (fun o : St => o) S0 (mX8_add S0 a1 a2) := by
  unfold mX8_add
  have hS : kept [62] [(61, 2)] S0 S0 := kept.rf
  repeat' first
    | with_reducible exact Fr_none
    | (with_reducible refine Fr_some ?_; assumption)
    | with_reducible refine Fr_gd ?_
    | with_reducible refine Fr_if ?_ ?_
    | with_reducible refine Fr_nxS (kept.upF (by assumption) (by decide)) (fun _ _ => ?_)
    | with_reducible refine Fr_nxS (kept.upA (by assumption) (by decide)) (fun _ _ => ?_)
    | with_reducible refine Fr_nxI (fun _ => ?_)
theorem fr_mX8_findRow_28 (a1 : Int) : ∀ (f : Nat) (v1 : Int) (v2 : Int) (v3 : Int) (v4 : St), Fr [62] [(61, 2)] (fun o : Int × St => o.2) v4 (mX8_findRow_28 a1 f v1 v2 v3 v4) := by
  intro f
  induction f with
  | zero => intros; rw [mX8_findRow_28]; exact Fr_none
  | succ f ih =>
    intro v1 v2 v3 v4
    rw [mX8_findRow_28]
    have hS : kept [62] [(61, 2)] v4 v4 := kept.rf
    repeat' first
      | with_reducible exact Fr_none
      | (with_reducible refine Fr_some ?_; assumption)
      | with_reducible refine Fr_gd ?_
      | with_reducible refine Fr_if ?_ ?_
      | with_reducible refine Fr_nxS (kept.upF (by assumption) (by decide)) (fun _ _ => ?_)
      | with_reducible refine Fr_nxS (kept.upA (by assumption) (by decide)) (fun _ _ => ?_)
      | with_reducible refine Fr_nxI (fun _ => ?_)
      | with_reducible refine Fr_bdS1 ?_ (fun _ _ => ?_)
      | with_reducible refine Fr_bdI1 (fun _ => ?_)
      | with_reducible refine Fr_bdS3 ?_ (fun _ _ _ _ => ?_)
      | with_reducible refine Fr_bdI3 (fun _ _ _ => ?_)
      | with_reducible exact (fr_mX8_add _ _ _).to (by assumption) (by decide) (by decide)
      | with_reducible exact (ih _ _ _ _).to (by assumption) (fun _ h => h) (fun _ h => h)
theorem fr_mX8_findRow (S0 : St) (a1 : Int) (a2 : Int) (a3 : Int) : Fr [62] [(61, 2), (61, 5)] (fun o : St => o) S0 (mX8_findRow S0 a1 a2 a3) := by
  unfold mX8_findRow
  have hS : kept [62] [(61, 2), (61, 5)] S0 S0 := kept.rf
  repeat' first
    | with_reducible exact Fr_none
    | (with_reducible refine Fr_some ?_; assumption)
    | with_reducible refine Fr_gd ?_
    | with_reducible refine Fr_if ?_ ?_
    | with_reducible refine Fr_nxS (kept.upF (by assumption) (by decide)) (fun _ _ => ?_)
    | with_reducible refine Fr_nxS (kept.upA (by assumption) (by decide)) (fun _ _ => ?_)
    | with_reducible refine Fr_nxI (fun _ => ?_)
    | with_reducible refine Fr_bdS2 ?_ (fun _ _ _ => ?_)
    | with_reducible refine Fr_bdI2 (fun _ _ => ?_)
    | with_reducible exact (fr_mX8_findRow_28 _ _ _ _ _ _).to (by assumption) (by decide) (by decide)
theorem fr_mX8_findBag_53 (a1 : Int) : ∀ (f : Nat) (v1 : Int) (v2 : Int) (v3 : Int) (v4 : Int) (v5 : St), Fr [62] [(61, 2)] (fun o : St => o) v5 (mX8_findBag_53 a1 f v1 v2 v3 v4 v5) := by
  intro f
  induction f with
  | zero => intros; rw [mX8_findBag_53]; exact Fr_none
  | succ f ih =>
    intro v1 v2 v3 v4 v5
    rw [mX8_findBag_53]
    have hS : kept [62] [(61, 2)] v5 v5 := kept.rf
    repeat' first
      | with_reducible exact Fr_none
      | (with_reducible refine Fr_some ?_; assumption)
      | with_reducible refine Fr_gd ?_
      | with_reducible refine Fr_if ?_ ?_
      | with_reducible refine Fr_nxS (kept.upF (by assumption) (by decide)) (fun _ _ => ?_)
      | with_reducible refine Fr_nxS (kept.upA (by assumption) (by decide)) (fun _ _ => ?_)
      | with_reducible refine Fr_nxI (fun _ => ?_)
      | with_reducible refine Fr_bdS1 ?_ (fun _ _ => ?_)
      | with_reducible refine Fr_bdI1 (fun _ => ?_)
      | with_reducible exact (fr_mX8_add _ _ _).to (by assumption) (by decide) (by decide)
      | with_reducible exact (ih _ _ _ _ _).to (by assumption) (fun _ h => h) (fun _ h => h)
theorem fr_mX8_findBag (S0 : St) (a1 : Int) (a2 : Int) (a3 : Int) : Fr [62] [(61, 2), (61, 5)] (fun o : St => o) S0 (mX8_findBag S0 a1 a2 a3) := by
  unfold mX8_findBag
  have hS : kept [62] [(61, 2), (61, 5)] S0 S0 := kept.rf
  repeat' first
    | with_reducible exact Fr_none
    | (with_reducible refine Fr_some ?_; assumption)
    | with_reducible refine Fr_gd ?_
    | with_reducible refine Fr_if ?_ ?_
    | with_reducible refine Fr_nxS (kept.upF (by assumption) (by decide)) (fun _ _ => ?_)
    | with_reducible refine Fr_nxS (kept.upA (by assumption) (by decide)) (fun _ _ => ?_)
    | with_reducible refine Fr_nxI (fun _ => ?_)
    | with_reducible refine Fr_bdS1 ?_ (fun _ _ => ?_)
    | with_reducible refine Fr_bdI1 (fun _ => ?_)
    | with_reducible exact (fr_mX8_add _ _ _).to (by assumption) (by decide) (by decide)
    | with_reducible exact (fr_mX8_findBag_53 _ _ _ _ _ _ _).to (by assumption) (by decide) (by decide)
theorem fr_mX10_mayAwait (S0 : St) (a1 : Int) : Fr [] [(67, 6)] (fun o : Int × St => o.2) S0 (mX10_mayAwait S0 a1) := by
  unfold mX10_mayAwait
  have hS : kept [] [(67, 6)] S0 S0 := kept.rf
  repeat' first
    | with_reducible exact Fr_none
    | (with_reducible refine Fr_some ?_; assumption)
    | with_reducible refine Fr_gd ?_
    | with_reducible refine Fr_if ?_ ?_
    | with_reducible refine Fr_nxS (kept.upF (by assumption) (by decide)) (fun _ _ => ?_)
    | with_reducible refine Fr_nxS (kept.upA (by assumption) (by decide)) (fun _ _ => ?_)
    | with_reducible refine Fr_nxI (fun _ => ?_)
theorem fr_mX10_readExpr_136 (y_20 : Int) : ∀ (f : Nat) (v1 : Int) (v2 : Int) (v3 : St), Fr [70] [] (fun o : St => o) v3 (mX10_readExpr_136 y_20 f v1 v2 v3) := by
  intro f
  induction f with
  | zero => intros; rw [mX10_readExpr_136]; exact Fr_none
  | succ f ih =>
    intro v1 v2 v3
    rw [mX10_readExpr_136]
    have hS : kept [70] [] v3 v3 := kept.rf
    repeat' first
      | with_reducible exact Fr_none
      | (with_reducible refine Fr_some ?_; assumption)
      | with_reducible refine Fr_gd ?_
      | with_reducible refine Fr_if ?_ ?_
      | with_reducible refine Fr_nxS (kept.upF (by assumption) (by decide)) (fun _ _ => ?_)
      | with_reducible refine Fr_nxS (kept.upA (by assumption) (by decide)) (fun _ _ => ?_)
      | with_reducible refine Fr_nxI (fun _ => ?_)
      | with_reducible exact (ih _ _ _).to (by assumption) (fun _ h => h) (fun _ h => h)
theorem fr_mX10_readExpr (S0 : St) (a1 : Int) : Fr [70] [(67, 4), (67, 6), (67, 8)] (fun o : St => o) S0 (mX10_readExpr S0 a1) := by
  unfold mX10_readExpr
  have hS : kept [70] [(67, 4), (67, 6), (67, 8)] S0 S0 := kept.rf
  repeat' first
    | with_reducible exact Fr_none
    | (with_reducible refine Fr_some ?_; assumption)
    | with_reducible refine Fr_gd ?_
    | with_reducible refine Fr_if ?_ ?_
    | with_reducible refine Fr_nxS (kept.upF (by assumption) (by decide)) (fun _ _ => ?_)
    | with_reducible refine Fr_nxS (kept.upA (by assumption) (by decide)) (fun _ _ => ?_)
    | with_reducible refine Fr_nxI (fun _ => ?_)
    | with_reducible refine Fr_bdS1 ?_ (fun _ _ => ?_)
    | with_reducible refine Fr_bdI1 (fun _ => ?_)
    | with_reducible refine Fr_bdS2 ?_ (fun _ _ _ => ?_)
    | with_reducible refine Fr_bdI2 (fun _ _ => ?_)
    | with_reducible exact (fr_mX10_mayAwait _ _).to (by assumption) (by decide) (by decide)
    | with_reducible exact (fr_mX10_readExpr_136 _ _ _ _ _).to (by assumption) (by decide) (by decide)
theorem fr_mX10_take (S0 : St) (a1 : Int) : Fr [] [(67, 4), (67, 6)] (fun o : St => o) S0 (mX10_take S0 a1) := by
  unfold mX10_take
  have hS : kept [] [(67, 4), (67, 6)] S0 S0 := kept.rf
  repeat' first
    | with_reducible exact Fr_none
    | (with_reducible refine Fr_some ?_; assumption)
    | with_reducible refine Fr_gd ?_
    | with_reducible refine Fr_if ?_ ?_
    | with_reducible refine Fr_nxS (kept.upF (by assumption) (by decide)) (fun _ _ => ?_)
    | with_reducible refine Fr_nxS (kept.upA (by assumption) (by decide)) (fun _ _ => ?_)
    | with_reducible refine Fr_nxI (fun _ => ?_)
    | with_reducible refine Fr_bdS1 ?_ (fun _ _ => ?_)
    | with_reducible refine Fr_bdI1 (fun _ => ?_)
theorem fr_mX10_readPart (S0 : St) (a1 : Int) : Fr [70, 72] [(67, 4), (67, 5), (67, 6), (67, 8), (67, 12)] (fun o : St => o) S0 (mX10_readPart S0 a1) := by
  unfold mX10_readPart
  have hS : kept [70, 72] [(67, 4), (67, 5), (67, 6), (67, 8), (67, 12)] S0 S0 := kept.rf
  repeat' first
    | with_reducible exact Fr_none
    | (with_reducible refine Fr_some ?_; assumption)
    | with_reducible refine Fr_gd ?_
    | with_reducible refine Fr_if ?_ ?_
    | with_reducible refine Fr_nxS (kept.upF (by assumption) (by decide)) (fun _ _ => ?_)
    | with_reducible refine Fr_nxS (kept.upA (by assumption) (by decide)) (fun _ _ => ?_)
    | with_reducible refine Fr_nxI (fun _ => ?_)
    | with_reducible refine Fr_bdS1 ?_ (fun _ _ => ?_)
    | with_reducible refine Fr_bdI1 (fun _ => ?_)
    | with_reducible refine Fr_bdS2 ?_ (fun _ _ _ => ?_)
    | with_reducible refine Fr_bdI2 (fun _ _ => ?_)
    | with_reducible exact (fr_mX10_take _ _).to (by assumption) (by decide) (by decide)
    | with_reducible exact (fr_mX10_readExpr _ _).to (by assumption) (by decide) (by decide)
    | with_reducible exact (fr_mX10_mayAwait _ _).to (by assumption) (by decide) (by decide)
theorem fr_mX10_placeOf_6 (a1 : Int) (a2 : Int) (a3 : Int) (a4 : Int) : ∀ (f : Nat) (v1 : Int) (v2 : Int) (v3 : St), Fr [] [(67, 6)] (fun o : Int × St => o.2) v3 (mX10_placeOf_6 a1 a2 a3 a4 f v1 v2 v3) := by
  intro f
  induction f with
  | zero => intros; rw [mX10_placeOf_6]; exact Fr_none
  | succ f ih =>
    intro v1 v2 v3
    rw [mX10_placeOf_6]
    have hS : kept [] [(67, 6)] v3 v3 := kept.rf
    repeat' first
      | with_reducible exact Fr_none
      | (with_reducible refine Fr_some ?_; assumption)
      | with_reducible refine Fr_gd ?_
      | with_reducible refine Fr_if ?_ ?_
      | with_reducible refine Fr_nxS (kept.upF (by assumption) (by decide)) (fun _ _ => ?_)
      | with_reducible refine Fr_nxS (kept.upA (by assumption) (by decide)) (fun _ _ => ?_)
      | with_reducible refine Fr_nxI (fun _ => ?_)
      | with_reducible refine Fr_bdS1 ?_ (fun _ _ => ?_)
      | with_reducible refine Fr_bdI1 (fun _ => ?_)
      | with_reducible exact (ih _ _ _).to (by assumption) (fun _ h => h) (fun _ h => h)
theorem fr_mX10_placeOf (S0 : St) (a1 : Int) (a2 : Int) (a3 : Int) (a4 : Int) : Fr [] [(67, 6)] (fun o : Int × St => o.2) S0 (mX10_placeOf S0 a1 a2 a3 a4) := by
  unfold mX10_placeOf
  have hS : kept [] [(67, 6)] S0 S0 := kept.rf
  repeat' first
    | with_reducible exact Fr_none
    | (with_reducible refine Fr_some ?_; assumption)
    | with_reducible refine Fr_gd ?_
    | with_reducible refine Fr_if ?_ ?_
    | with_reducible refine Fr_nxS (kept.upF (by assumption) (by decide)) (fun _ _ => ?_)
    | with_reducible refine Fr_nxS (kept.upA (by assumption) (by decide)) (fun _ _ => ?_)
    | with_reducible refine Fr_nxI (fun _ => ?_)
    | with_reducible refine Fr_bdS2 ?_ (fun _ _ _ => ?_)
    | with_reducible refine Fr_bdI2 (fun _ _ => ?_)
    | with_reducible exact (fr_mX10_placeOf_6 _ _ _ _ _ _ _ _).to (by assumption) (by decide) (by decide)
theorem fr_mX10_copyBack (S0 : St) (a1 : Int) (a2 : Int) : Fr [68] [] (fun o : St => o) S0 (mX10_copyBack S0 a1 a2) := by
  unfold mX10_copyBack
  have hS : kept [68] [] S0 S0 := kept.rf
  repeat' first
    | with_reducible exact Fr_none
    | (with_reducible refine Fr_some ?_; assumption)
    | with_reducible refine Fr_gd ?_
    | with_reducible refine Fr_if ?_ ?_
    | with_reducible refine Fr_nxS (kept.upF (by assumption) (by decide)) (fun _ _ => ?_)
    | with_reducible refine Fr_nxS (kept.upA (by assumption) (by decide)) (fun _ _ => ?_)
    | with_reducible refine Fr_nxS (kept.cpy (by assumption) (by decide)) (fun _ _ => ?_)
    | with_reducible refine Fr_nxI (fun _ => ?_)
theorem fr_mX10_sort_27 (v_3 : Int) (a1 : Int) (a2 : Int) (a3 : Int) : ∀ (f : Nat) (v1 : Int) (v2 : Int) (v3 : St), Fr [69] [(67, 6)] (fun o : Int × St => o.2) v3 (mX10_sort_27 v_3 a1 a2 a3 f v1 v2 v3) := by
  intro f
  induction f with
  | zero => intros; rw [mX10_sort_27]; exact Fr_none
  | succ f ih =>
    intro v1 v2 v3
    rw [mX10_sort_27]
    have hS : kept [69] [(67, 6)] v3 v3 := kept.rf
    repeat' first
      | with_reducible exact Fr_none
      | (with_reducible refine Fr_some ?_; assumption)
      | with_reducible refine Fr_gd ?_
      | with_reducible refine Fr_if ?_ ?_
      | with_reducible refine Fr_nxS (kept.upF (by assumption) (by decide)) (fun _ _ => ?_)
      | with_reducible refine Fr_nxS (kept.upA (by assumption) (by decide)) (fun _ _ => ?_)
      | with_reducible refine Fr_nxS (kept.cpy (by assumption) (by decide)) (fun _ _ => ?_)
      | with_reducible refine Fr_nxI (fun _ => ?_)
      | with_reducible refine Fr_bdS2 ?_ (fun _ _ _ => ?_)
      | with_reducible refine Fr_bdI2 (fun _ _ => ?_)
      | with_reducible exact (fr_mX10_placeOf _ _ _ _ _).to (by assumption) (by decide) (by decide)
      | with_reducible exact (ih _ _ _).to (by assumption) (fun _ h => h) (fun _ h => h)
theorem fr_mX10_sort_11 (a1 : Int) (a2 : Int) (a3 : Int) : ∀ (f : Nat) (v1 : Int) (v2 : Int) (v3 : St), Fr [69] [(67, 6)] (fun o : St => o) v3 (mX10_sort_11 a1 a2 a3 f v1 v2 v3) := by
  intro f
  induction f with
  | zero => intros; rw [mX10_sort_11]; exact Fr_none
  | succ f ih =>
    intro v1 v2 v3
    rw [mX10_sort_11]
    have hS : kept [69] [(67, 6)] v3 v3 := kept.rf
    repeat' first
      | with_reducible exact Fr_none
      | (with_reducible refine Fr_some ?_; assumption)
      | with_reducible refine Fr_gd ?_
      | with_reducible refine Fr_if ?_ ?_
      | with_reducible refine Fr_nxS (kept.upF (by assumption) (by decide)) (fun _ _ => ?_)
      | with_reducible refine Fr_nxS (kept.upA (by assumption) (by decide)) (fun _ _ => ?_)
      | with_reducible refine Fr_nxI (fun _ => ?_)
      | with_reducible refine Fr_bdS2 ?_ (fun _ _ _ => ?_)
      | with_reducible refine Fr_bdI2 (fun _ _ => ?_)
      | with_reducible exact (fr_mX10_sort_27 _ _ _ _ _ _ _ _).to (by assumption) (by decide) (by decide)
      | with_reducible exact (ih _ _ _).to (by assumption) (fun _ h => h) (fun _ h => h)
theorem fr_mX10_sort (S0 : St) (a1 : Int) (a2 : Int) (a3 : Int) : Fr [68, 69] [(67, 6)] (fun o : St => o) S0 (mX10_sort S0 a1 a2 a3) := by
  unfold mX10_sort
  have hS : kept [68, 69] [(67, 6)] S0 S0 := kept.rf
  repeat' first
    | with_reducible exact Fr_none
    | (with_reducible refine Fr_some ?_; assumption)
    | with_reducible refine Fr_gd ?_
    | with_reducible refine Fr_if ?_ ?_
    | with_reducible refine Fr_nxS (kept.upF (by assumption) (by decide)) (fun _ _ => ?_)
    | with_reducible refine Fr_nxS (kept.upA (by assumption) (by decide)) (fun _ _ => ?_)
    | with_reducible refine Fr_nxI (fun _ => ?_)
    | with_reducible refine Fr_bdS1 ?_ (fun _ _ => ?_)
    | with_reducible refine Fr_bdI1 (fun _ => ?_)
    | with_reducible exact (fr_mX10_sort_11 _ _ _ _ _ _ _).to (by assumption) (by decide) (by decide)
    | with_reducible exact (fr_mX10_copyBack _ _ _).to (by assumption) (by decide) (by decide)
theorem fr_mX10_turn_76 (x_4 : Int) (x_2 : Int) (a1 : Int) (a2 : Int) (y_7 : Int) : ∀ (f : Nat) (v1 : Int) (v2 : St), Fr [69] [] (fun o : St => o) v2 (mX10_turn_76 x_4 x_2 a1 a2 y_7 f v1 v2) := by
  intro f
  induction f with
  | zero => intros; rw [mX10_turn_76]; exact Fr_none
  | succ f ih =>
    intro v1 v2
    rw [mX10_turn_76]
    have hS : kept [69] [] v2 v2 := kept.rf
    repeat' first
      | with_reducible exact Fr_none
      | (with_reducible refine Fr_some ?_; assumption)
      | with_reducible refine Fr_gd ?_
      | with_reducible refine Fr_if ?_ ?_
      | with_reducible refine Fr_nxS (kept.upF (by assumption) (by decide)) (fun _ _ => ?_)
      | with_reducible refine Fr_nxS (kept.upA (by assumption) (by decide)) (fun _ _ => ?_)
      | with_reducible refine Fr_nxI (fun _ => ?_)
      | with_reducible exact (ih _ _).to (by assumption) (fun _ h => h) (fun _ h => h)
theorem fr_mX10_turn (S0 : St) (a1 : Int) (a2 : Int) : Fr [68, 69] [] (fun o : St => o) S0 (mX10_turn S0 a1 a2) := by
  unfold mX10_turn
  have hS : kept [68, 69] [] S0 S0 := kept.rf
  repeat' first
    | with_reducible exact Fr_none
    | (with_reducible refine Fr_some ?_; assumption)
    | with_reducible refine Fr_gd ?_
    | with_reducible refine Fr_if ?_ ?_
    | with_reducible refine Fr_nxS (kept.upF (by assumption) (by decide)) (fun _ _ => ?_)
    | with_reducible refine Fr_nxS (kept.upA (by assumption) (by decide)) (fun _ _ => ?_)
    | with_reducible refine Fr_nxI (fun _ => ?_)
    | with_reducible refine Fr_bdS1 ?_ (fun _ _ => ?_)
    | with_reducible refine Fr_bdI1 (fun _ => ?_)
    | with_reducible exact (fr_mX10_turn_76 _ _ _ _ _ _ _ _).to (by assumption) (by decide) (by decide)
    | with_reducible exact (fr_mX10_copyBack _ _ _).to (by assumption) (by decide) (by decide)
theorem fr_mX10_close (S0 : St) (a1 : Int) : Fr [68, 69, 71] [(67, 6), (67, 10), (67, 12)] (fun o : St => o) S0 (mX10_close S0 a1) := by
  unfold mX10_close
  have hS : kept [68, 69, 71] [(67, 6), (67, 10), (67, 12)] S0 S0 := kept.rf
  repeat' first
    | with_reducible exact Fr_none
    | (with_reducible refine Fr_some ?_; assumption)
    | with_reducible refine Fr_gd ?_
    | with_reducible refine Fr_if ?_ ?_
    | with_reducible refine Fr_nxS (kept.upF (by assumption) (by decide)) (fun _ _ => ?_)
    | with_reducible refine Fr_nxS (kept.upA (by assumption) (by decide)) (fun _ _ => ?_)
    | with_reducible refine Fr_nxI (fun _ => ?_)
    | with_reducible refine Fr_bdS1 ?_ (fun _ _ => ?_)
    | with_reducible refine Fr_bdI1 (fun _ => ?_)
    | with_reducible exact (fr_mX10_sort _ _ _ _).to (by assumption) (by decide) (by decide)
    | with_reducible exact (fr_mX10_turn _ _ _).to (by assumption) (by decide) (by decide)
theorem fr_mX10_goOn (S0 : St) (a1 : Int) : Fr [68, 69, 70, 71] [(67, 4), (67, 6), (67, 8), (67, 10), (67, 12)] (fun o : St => o) S0 (mX10_goOn S0 a1) := by
  unfold mX10_goOn
  have hS : kept [68, 69, 70, 71] [(67, 4), (67, 6), (67, 8), (67, 10), (67, 12)] S0 S0 := kept.rf
  repeat' first
    | with_reducible exact Fr_none
    | (with_reducible refine Fr_some ?_; assumption)
    | with_reducible refine Fr_gd ?_
    | with_reducible refine Fr_if ?_ ?_
    | with_reducible refine Fr_nxS (kept.upF (by assumption) (by decide)) (fun _ _ => ?_)
    | with_reducible refine Fr_nxS (kept.upA (by assumption) (by decide)) (fun _ _ => ?_)
    | with_reducible refine Fr_nxI (fun _ => ?_)
    | with_reducible refine Fr_bdS1 ?_ (fun _ _ => ?_)
    | with_reducible refine Fr_bdI1 (fun _ => ?_)
    | with_reducible refine Fr_bdS2 ?_ (fun _ _ _ => ?_)
    | with_reducible refine Fr_bdI2 (fun _ _ => ?_)
    | with_reducible exact (fr_mX10_close _ _).to (by assumption) (by decide) (by decide)
    | with_reducible exact (fr_mX10_mayAwait _ _).to (by assumption) (by decide) (by decide)
theorem fr_mX10_read_67_1_73  : ∀ (f : Nat) (v1 : Int) (v2 : St), Fr [68, 69, 70, 71, 72] [(67, 4), (67, 5), (67, 6), (67, 8), (67, 10), (67, 12)] (fun o : St => o) v2 (mX10_read_67_1_73  f v1 v2) := by
  intro f
  induction f with
  | zero => intros; rw [mX10_read_67_1_73]; exact Fr_none
  | succ f ih =>
    intro v1 v2
    rw [mX10_read_67_1_73]
    have hS : kept [68, 69, 70, 71, 72] [(67, 4), (67, 5), (67, 6), (67, 8), (67, 10), (67, 12)] v2 v2 := kept.rf
    repeat' first
      | with_reducible exact Fr_none
      | (with_reducible refine Fr_some ?_; assumption)
      | with_reducible refine Fr_gd ?_
      | with_reducible refine Fr_if ?_ ?_
      | with_reducible refine Fr_nxS (kept.upF (by assumption) (by decide)) (fun _ _ => ?_)
      | with_reducible refine Fr_nxS (kept.upA (by assumption) (by decide)) (fun _ _ => ?_)
      | with_reducible refine Fr_nxI (fun _ => ?_)
      | with_reducible refine Fr_bdS1 ?_ (fun _ _ => ?_)
      | with_reducible refine Fr_bdI1 (fun _ => ?_)
      | with_reducible exact (fr_mX10_readPart _ _).to (by assumption) (by decide) (by decide)
      | with_reducible exact (fr_mX10_goOn _ _).to (by assumption) (by decide) (by decide)
      | with_reducible exact (ih _ _).to (by assumption) (fun _ h => h) (fun _ h => h)
theorem fr_mX10_read_67_1 (S0 : St) (a1 : Int) (a3 : Int) : Fr [68, 69, 70, 71, 72] [(67, 3), (67, 4), (67, 5), (67, 6), (67, 8), (67, 10), (67, 12)] (fun o : Int × St => o.2) S0 (mX10_read_67_1 S0 a1 a3) := by
  unfold mX10_read_67_1
  have hS : kept [68, 69, 70, 71, 72] [(67, 3), (67, 4), (67, 5), (67, 6), (67, 8), (67, 10), (67, 12)] S0 S0 := kept.rf
  repeat' first
    | with_reducible exact Fr_none
    | (with_reducible refine Fr_some ?_; assumption)
    | with_reducible refine Fr_gd ?_
    | with_reducible refine Fr_if ?_ ?_
    | with_reducible refine Fr_nxS (kept.upF (by assumption) (by decide)) (fun _ _ => ?_)
    | with_reducible refine Fr_nxS (kept.upA (by assumption) (by decide)) (fun _ _ => ?_)
    | with_reducible refine Fr_nxS (kept.cpy (by assumption) (by decide)) (fun _ _ => ?_)
    | with_reducible refine Fr_nxI (fun _ => ?_)
    | with_reducible refine Fr_bdS1 ?_ (fun _ _ => ?_)
    | with_reducible refine Fr_bdI1 (fun _ => ?_)
    | with_reducible exact (fr_mX10_readExpr _ _).to (by assumption) (by decide) (by decide)
    | with_reducible exact (fr_mX10_read_67_1_73 _ _ _).to (by assumption) (by decide) (by decide)
theorem fr_mJ7_fill_53178_79_5 (a2 : Int) : ∀ (f : Nat) (v1 : Int) (v2 : St), Fr [79] [] (fun o : St => o) v2 (mJ7_fill_53178_79_5 a2 f v1 v2) := by
  intro f
  induction f with
  | zero => intros; rw [mJ7_fill_53178_79_5]; exact Fr_none
  | succ f ih =>
    intro v1 v2
    rw [mJ7_fill_53178_79_5]
    have hS : kept [79] [] v2 v2 := kept.rf
    repeat' first
      | with_reducible exact Fr_none
      | (with_reducible refine Fr_some ?_; assumption)
      | with_reducible refine Fr_gd ?_
      | with_reducible refine Fr_if ?_ ?_
      | with_reducible refine Fr_nxS (kept.upF (by assumption) (by decide)) (fun _ _ => ?_)
      | with_reducible refine Fr_nxS (kept.upA (by assumption) (by decide)) (fun _ _ => ?_)
      | with_reducible refine Fr_nxI (fun _ => ?_)
      | with_reducible exact (ih _ _).to (by assumption) (fun _ h => h) (fun _ h => h)
theorem fr_mJ7_fill_53178_79 (S0 : St) (a2 : Int) : Fr [79] [] (fun o : St => o) S0 (mJ7_fill_53178_79 S0 a2) := by
  unfold mJ7_fill_53178_79
  have hS : kept [79] [] S0 S0 := kept.rf
  repeat' first
    | with_reducible exact Fr_none
    | (with_reducible refine Fr_some ?_; assumption)
    | with_reducible refine Fr_gd ?_
    | with_reducible refine Fr_if ?_ ?_
    | with_reducible refine Fr_nxS (kept.upF (by assumption) (by decide)) (fun _ _ => ?_)
    | with_reducible refine Fr_nxS (kept.upA (by assumption) (by decide)) (fun _ _ => ?_)
    | with_reducible refine Fr_nxI (fun _ => ?_)
    | with_reducible refine Fr_bdS1 ?_ (fun _ _ => ?_)
    | with_reducible refine Fr_bdI1 (fun _ => ?_)
    | with_reducible exact (fr_mJ7_fill_53178_79_5 _ _ _ _).to (by assumption) (by decide) (by decide)
theorem fr_mJ7_rangeCheck_23922 (S0 : St) (a1 : Int) (a2 : Int) (a3 : Int) : Fr [] [] (fun o : St => o) S0 (mJ7_rangeCheck_23922 S0 a1 a2 a3) := by
  unfold mJ7_rangeCheck_23922
  have hS : kept [] [] S0 S0 := kept.rf
  repeat' first
    | with_reducible exact Fr_none
    | (with_reducible refine Fr_some ?_; assumption)
    | with_reducible refine Fr_gd ?_
    | with_reducible refine Fr_if ?_ ?_
    | with_reducible refine Fr_nxS (kept.upF (by assumption) (by decide)) (fun _ _ => ?_)
    | with_reducible refine Fr_nxS (kept.upA (by assumption) (by decide)) (fun _ _ => ?_)
    | with_reducible refine Fr_nxI (fun _ => ?_)
theorem fr_mJ7_fill_fda19_78_10 (a3 : Int) (a4 : Int) : ∀ (f : Nat) (v1 : Int) (v2 : St), Fr [78] [] (fun o : St => o) v2 (mJ7_fill_fda19_78_10 a3 a4 f v1 v2) := by
  intro f
  induction f with
  | zero => intros; rw [mJ7_fill_fda19_78_10]; exact Fr_none
  | succ f ih =>
    intro v1 v2
    rw [mJ7_fill_fda19_78_10]
    have hS : kept [78] [] v2 v2 := kept.rf
    repeat' first
      | with_reducible exact Fr_none
      | (with_reducible refine Fr_some ?_; assumption)
      | with_reducible refine Fr_gd ?_
      | with_reducible refine Fr_if ?_ ?_
      | with_reducible refine Fr_nxS (kept.upF (by assumption) (by decide)) (fun _ _ => ?_)
      | with_reducible refine Fr_nxS (kept.upA (by assumption) (by decide)) (fun _ _ => ?_)
      | with_reducible refine Fr_nxI (fun _ => ?_)
      | with_reducible exact (ih _ _).to (by assumption) (fun _ h => h) (fun _ h => h)
theorem fr_mJ7_fill_fda19_78 (S0 : St) (a2 : Int) (a3 : Int) (a4 : Int) : Fr [78] [] (fun o : St => o) S0 (mJ7_fill_fda19_78 S0 a2 a3 a4) := by
  unfold mJ7_fill_fda19_78
  have hS : kept [78] [] S0 S0 := kept.rf
  repeat' first
    | with_reducible exact Fr_none
    | (with_reducible refine Fr_some ?_; assumption)
    | with_reducible refine Fr_gd ?_
    | with_reducible refine Fr_if ?_ ?_
    | with_reducible refine Fr_nxS (kept.upF (by assumption) (by decide)) (fun _ _ => ?_)
    | with_reducible refine Fr_nxS (kept.upA (by assumption) (by decide)) (fun _ _ => ?_)
    | with_reducible refine Fr_nxI (fun _ => ?_)
    | with_reducible refine Fr_bdS1 ?_ (fun _ _ => ?_)
    | with_reducible refine Fr_bdI1 (fun _ => ?_)
    | with_reducible exact (fr_mJ7_rangeCheck_23922 _ _ _ _).to (by assumption) (by decide) (by decide)
    | with_reducible exact (fr_mJ7_fill_fda19_78_10 _ _ _ _ _).to (by assumption) (by decide) (by decide)
theorem fr_mX7_begin (S0 : St) (a1 : Int) : Fr [78, 79] [(73, 1), (73, 6), (73, 7)] (fun o : St => o) S0 (mX7_begin S0 a1) := by
  unfold mX7_begin
  have hS : kept [78, 79] [(73, 1), (73, 6), (73, 7)] S0 S0 := kept.rf
  repeat' first
    | with_reducible exact Fr_none
    | (with_reducible refine Fr_some ?_; assumption)
    | with_reducible refine Fr_gd ?_
    | with_reducible refine Fr_if ?_ ?_
    | with_reducible refine Fr_nxS (kept.upF (by assumption) (by decide)) (fun _ _ => ?_)
    | with_reducible refine Fr_nxS (kept.upA (by assumption) (by decide)) (fun _ _ => ?_)
    | with_reducible refine Fr_nxI (fun _ => ?_)
    | with_reducible refine Fr_bdS1 ?_ (fun _ _ => ?_)
    | with_reducible refine Fr_bdI1 (fun _ => ?_)
    | with_reducible exact (fr_mJ7_fill_53178_79 _ _).to (by assumption) (by decide) (by decide)
    | with_reducible exact (fr_mJ7_fill_fda19_78 _ _ _ _).to (by assumption) (by decide) (by decide)
theorem fr_mX7_countAtoms_2 (a1 : Int) (a2 : Int) : ∀ (f : Nat) (v1 : Int) (v2 : St), Fr [77, 78, 79] [] (fun o : St => o) v2 (mX7_countAtoms_2 a1 a2 f v1 v2) := by
  intro f
  induction f with
  | zero => intros; rw [mX7_countAtoms_2]; exact Fr_none
  | succ f ih =>
    intro v1 v2
    rw [mX7_countAtoms_2]
    have hS : kept [77, 78, 79] [] v2 v2 := kept.rf
    repeat' first
      | with_reducible exact Fr_none
      | (with_reducible refine Fr_some ?_; assumption)
      | with_reducible refine Fr_gd ?_
      | with_reducible refine Fr_if ?_ ?_
      | with_reducible refine Fr_nxS (kept.upF (by assumption) (by decide)) (fun _ _ => ?_)
      | with_reducible refine Fr_nxS (kept.upA (by assumption) (by decide)) (fun _ _ => ?_)
      | with_reducible refine Fr_nxI (fun _ => ?_)
      | with_reducible exact (ih _ _).to (by assumption) (fun _ h => h) (fun _ h => h)
theorem fr_mX7_countAtoms (S0 : St) (a1 : Int) (a2 : Int) : Fr [77, 78, 79] [] (fun o : St => o) S0 (mX7_countAtoms S0 a1 a2) := by
  unfold mX7_countAtoms
  have hS : kept [77, 78, 79] [] S0 S0 := kept.rf
  repeat' first
    | with_reducible exact Fr_none
    | (with_reducible refine Fr_some ?_; assumption)
    | with_reducible refine Fr_gd ?_
    | with_reducible refine Fr_if ?_ ?_
    | with_reducible refine Fr_nxS (kept.upF (by assumption) (by decide)) (fun _ _ => ?_)
    | with_reducible refine Fr_nxS (kept.upA (by assumption) (by decide)) (fun _ _ => ?_)
    | with_reducible refine Fr_nxI (fun _ => ?_)
    | with_reducible refine Fr_bdS1 ?_ (fun _ _ => ?_)
    | with_reducible refine Fr_bdI1 (fun _ => ?_)
    | with_reducible exact (fr_mX7_countAtoms_2 _ _ _ _ _).to (by assumption) (by decide) (by decide)
theorem fr_mX7_note (S0 : St) (a1 : Int) (a2 : Int) : Fr [75, 76, 77, 78, 79] [(73, 6), (73, 7)] (fun o : St => o) S0 (mX7_note S0 a1 a2) := by
  unfold mX7_note
  have hS : kept [75, 76, 77, 78, 79] [(73, 6), (73, 7)] S0 S0 := kept.rf
  repeat' first
    | with_reducible exact Fr_none
    | (with_reducible refine Fr_some ?_; assumption)
    | with_reducible refine Fr_gd ?_
    | with_reducible refine Fr_if ?_ ?_
    | with_reducible refine Fr_nxS (kept.upF (by assumption) (by decide)) (fun _ _ => ?_)
    | with_reducible refine Fr_nxS (kept.upA (by assumption) (by decide)) (fun _ _ => ?_)
    | with_reducible refine Fr_nxI (fun _ => ?_)
    | with_reducible refine Fr_bdS1 ?_ (fun _ _ => ?_)
    | with_reducible refine Fr_bdI1 (fun _ => ?_)
    | with_reducible exact (fr_mX7_countAtoms _ _ _).to (by assumption) (by decide) (by decide)
theorem fr_mX9_push (S0 : St) (a1 : Int) : Fr [66] [(60, 12)] (fun o : St => o) S0 (mX9_push S0 a1) := by
  unfold mX9_push
  have hS : kept [66] [(60, 12)] S0 S0 := kept.rf
  repeat' first
    | with_reducible exact Fr_none
    | (with_reducible refine Fr_some ?_; assumption)
    | with_reducible refine Fr_gd ?_
    | with_reducible refine Fr_if ?_ ?_
    | with_reducible refine Fr_nxS (kept.upF (by assumption) (by decide)) (fun _ _ => ?_)
    | with_reducible refine Fr_nxS (kept.upA (by assumption) (by decide)) (fun _ _ => ?_)
    | with_reducible refine Fr_nxI (fun _ => ?_)
theorem fr_mX9_pushTerm_66 (y_3 : Int) : ∀ (f : Nat) (v1 : Int) (v2 : Int) (v3 : Int) (v4 : Int) (v5 : St), Fr [66] [] (fun o : St => o) v5 (mX9_pushTerm_66 y_3 f v1 v2 v3 v4 v5) := by
  intro f
  induction f with
  | zero => intros; rw [mX9_pushTerm_66]; exact Fr_none
  | succ f ih =>
    intro v1 v2 v3 v4 v5
    rw [mX9_pushTerm_66]
    have hS : kept [66] [] v5 v5 := kept.rf
    repeat' first
      | with_reducible exact Fr_none
      | (with_reducible refine Fr_some ?_; assumption)
      | with_reducible refine Fr_gd ?_
      | with_reducible refine Fr_if ?_ ?_
      | with_reducible refine Fr_nxS (kept.upF (by assumption) (by decide)) (fun _ _ => ?_)
      | with_reducible refine Fr_nxS (kept.upA (by assumption) (by decide)) (fun _ _ => ?_)
      | with_reducible refine Fr_nxI (fun _ => ?_)
      | with_reducible refine Fr_bdS1 ?_ (fun _ _ => ?_)
      | with_reducible refine Fr_bdI1 (fun _ => ?_)
      | with_reducible refine Fr_bdS3 ?_ (fun _ _ _ _ => ?_)
      | with_reducible refine Fr_bdI3 (fun _ _ _ => ?_)
      | with_reducible exact (ih _ _ _ _ _).to (by assumption) (fun _ h => h) (fun _ h => h)
theorem fr_mX9_pushTerm (S0 : St) (a1 : Int) (a2 : Int) (a3 : Int) : Fr [66] [(60, 12)] (fun o : St => o) S0 (mX9_pushTerm S0 a1 a2 a3) := by
  unfold mX9_pushTerm
  have hS : kept [66] [(60, 12)] S0 S0 := kept.rf
  repeat' first
    | with_reducible exact Fr_none
    | (with_reducible refine Fr_some ?_; assumption)
    | with_reducible refine Fr_gd ?_
    | with_reducible refine Fr_if ?_ ?_
    | with_reducible refine Fr_nxS (kept.upF (by assumption) (by decide)) (fun _ _ => ?_)
    | with_reducible refine Fr_nxS (kept.upA (by assumption) (by decide)) (fun _ _ => ?_)
    | with_reducible refine Fr_nxI (fun _ => ?_)
    | with_reducible refine Fr_bdS1 ?_ (fun _ _ => ?_)
    | with_reducible refine Fr_bdI1 (fun _ => ?_)
    | with_reducible exact (fr_mX9_pushTerm_66 _ _ _ _ _ _ _).to (by assumption) (by decide) (by decide)
