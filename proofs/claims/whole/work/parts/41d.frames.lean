theorem fr_mX12_labels (S0 : St) (a1 : Int) (a2 : Int) (a3 : Int) : Fr [90, 91, 92, 96, 97, 98] [(83, 20), (83, 21), (83, 22), (83, 23), (83, 24), (83, 25), (83, 26), (83, 27), (83, 31), (83, 32)] (fun o : Int × St => o.2) S0 (mX12_labels S0 a1 a2 a3) := by
  unfold mX12_labels
  have hS : kept [90, 91, 92, 96, 97, 98] [(83, 20), (83, 21), (83, 22), (83, 23), (83, 24), (83, 25), (83, 26), (83, 27), (83, 31), (83, 32)] S0 S0 := kept.rf
  repeat' first
    | with_reducible exact Fr_none
    | (with_reducible refine Fr_some ?_; assumption)
    | with_reducible refine Fr_gd ?_
    | with_reducible refine Fr_if ?_ ?_
    | with_reducible refine Fr_nxS (kept.upF (by assumption) (by decide)) (fun _ _ => ?_)
    | with_reducible refine Fr_nxS (kept.upA (by assumption) (by decide)) (fun _ _ => ?_)
    | with_reducible refine Fr_nxI (fun _ => ?_)
    | with_reducible refine Fr_bdS1 ?_ (fun _ _ => ?_)
    | with_reducible refine Fr_bdI1 (fun _ => ?_)
    | with_reducible refine Fr_bdS2 ?_ (fun _ _ _ => ?_)
    | with_reducible refine Fr_bdI2 (fun _ _ => ?_)
    | with_reducible exact (fr_mX12_symmetries _ _ _ _).to (by assumption) (by decide) (by decide)
theorem fr_mX12_most_25 (a1 : Int) (a2 : Int) (a3 : Int) (a4 : Int) : ∀ (f : Nat) (v1 : Int) (v2 : Int) (v3 : Int) (v4 : St), Fr [96, 97, 98] [(83, 20), (83, 21), (83, 22), (83, 23), (83, 24), (83, 25), (83, 26), (83, 27), (83, 31), (83, 32)] (fun o : Int × St => o.2) v4 (mX12_most_25 a1 a2 a3 a4 f v1 v2 v3 v4) := by
  intro f
  induction f with
  | zero => intros; rw [mX12_most_25]; exact Fr_none
  | succ f ih =>
    intro v1 v2 v3 v4
    rw [mX12_most_25]
    have hS : kept [96, 97, 98] [(83, 20), (83, 21), (83, 22), (83, 23), (83, 24), (83, 25), (83, 26), (83, 27), (83, 31), (83, 32)] v4 v4 := kept.rf
    repeat' first
      | with_reducible exact Fr_none
      | (with_reducible refine Fr_some ?_; assumption)
      | with_reducible refine Fr_gd ?_
      | with_reducible refine Fr_if ?_ ?_
      | with_reducible refine Fr_nxS (kept.upF (by assumption) (by decide)) (fun _ _ => ?_)
      | with_reducible refine Fr_nxS (kept.upA (by assumption) (by decide)) (fun _ _ => ?_)
      | with_reducible refine Fr_nxI (fun _ => ?_)
      | with_reducible refine Fr_bdS1 ?_ (fun _ _ => ?_)
      | with_reducible refine Fr_bdI1 (fun _ => ?_)
      | with_reducible exact (fr_mX12_goes _ _ _ _ _ _).to (by assumption) (by decide) (by decide)
      | with_reducible exact (ih _ _ _ _).to (by assumption) (fun _ h => h) (fun _ h => h)
theorem fr_mX12_most (S0 : St) (a1 : Int) (a2 : Int) (a3 : Int) (a4 : Int) : Fr [90, 91, 92, 96, 97, 98] [(83, 20), (83, 21), (83, 22), (83, 23), (83, 24), (83, 25), (83, 26), (83, 27), (83, 31), (83, 32)] (fun o : Int × St => o.2) S0 (mX12_most S0 a1 a2 a3 a4) := by
  unfold mX12_most
  have hS : kept [90, 91, 92, 96, 97, 98] [(83, 20), (83, 21), (83, 22), (83, 23), (83, 24), (83, 25), (83, 26), (83, 27), (83, 31), (83, 32)] S0 S0 := kept.rf
  repeat' first
    | with_reducible exact Fr_none
    | (with_reducible refine Fr_some ?_; assumption)
    | with_reducible refine Fr_gd ?_
    | with_reducible refine Fr_if ?_ ?_
    | with_reducible refine Fr_nxS (kept.upF (by assumption) (by decide)) (fun _ _ => ?_)
    | with_reducible refine Fr_nxS (kept.upA (by assumption) (by decide)) (fun _ _ => ?_)
    | with_reducible refine Fr_nxI (fun _ => ?_)
    | with_reducible refine Fr_bdS2 ?_ (fun _ _ _ => ?_)
    | with_reducible refine Fr_bdI2 (fun _ _ => ?_)
    | with_reducible exact (fr_mX12_whyNone _ _ _).to (by assumption) (by decide) (by decide)
    | with_reducible exact (fr_mX12_most_25 _ _ _ _ _ _ _ _ _).to (by assumption) (by decide) (by decide)
theorem fr_mX12_deepest (S0 : St) (a1 : Int) (a2 : Int) : Fr [90, 91, 92, 96, 97, 98] [(83, 20), (83, 21), (83, 22), (83, 23), (83, 24), (83, 25), (83, 26), (83, 27), (83, 31), (83, 32)] (fun o : Int × St => o.2) S0 (mX12_deepest S0 a1 a2) := by
  unfold mX12_deepest
  have hS : kept [90, 91, 92, 96, 97, 98] [(83, 20), (83, 21), (83, 22), (83, 23), (83, 24), (83, 25), (83, 26), (83, 27), (83, 31), (83, 32)] S0 S0 := kept.rf
  repeat' first
    | with_reducible exact Fr_none
    | (with_reducible refine Fr_some ?_; assumption)
    | with_reducible refine Fr_gd ?_
    | with_reducible refine Fr_if ?_ ?_
    | with_reducible refine Fr_nxS (kept.upF (by assumption) (by decide)) (fun _ _ => ?_)
    | with_reducible refine Fr_nxS (kept.upA (by assumption) (by decide)) (fun _ _ => ?_)
    | with_reducible refine Fr_nxI (fun _ => ?_)
    | with_reducible refine Fr_bdS2 ?_ (fun _ _ _ => ?_)
    | with_reducible refine Fr_bdI2 (fun _ _ => ?_)
    | with_reducible exact (fr_mX12_most _ _ _ _ _).to (by assumption) (by decide) (by decide)
theorem fr_mX12_fullest (S0 : St) (a1 : Int) (a2 : Int) (a3 : Int) : Fr [90, 91, 92, 96, 97, 98] [(83, 20), (83, 21), (83, 22), (83, 23), (83, 24), (83, 25), (83, 26), (83, 27), (83, 31), (83, 32)] (fun o : Int × St => o.2) S0 (mX12_fullest S0 a1 a2 a3) := by
  unfold mX12_fullest
  have hS : kept [90, 91, 92, 96, 97, 98] [(83, 20), (83, 21), (83, 22), (83, 23), (83, 24), (83, 25), (83, 26), (83, 27), (83, 31), (83, 32)] S0 S0 := kept.rf
  repeat' first
    | with_reducible exact Fr_none
    | (with_reducible refine Fr_some ?_; assumption)
    | with_reducible refine Fr_gd ?_
    | with_reducible refine Fr_if ?_ ?_
    | with_reducible refine Fr_nxS (kept.upF (by assumption) (by decide)) (fun _ _ => ?_)
    | with_reducible refine Fr_nxS (kept.upA (by assumption) (by decide)) (fun _ _ => ?_)
    | with_reducible refine Fr_nxI (fun _ => ?_)
    | with_reducible refine Fr_bdS1 ?_ (fun _ _ => ?_)
    | with_reducible refine Fr_bdI1 (fun _ => ?_)
    | with_reducible refine Fr_bdS2 ?_ (fun _ _ _ => ?_)
    | with_reducible refine Fr_bdI2 (fun _ _ => ?_)
    | with_reducible exact (fr_mX12_most _ _ _ _ _).to (by assumption) (by decide) (by decide)
theorem fr_mX12_stiffest (S0 : St) (a1 : Int) (a2 : Int) : Fr [90, 91, 92, 96, 97, 98] [(83, 20), (83, 21), (83, 22), (83, 23), (83, 24), (83, 25), (83, 26), (83, 27), (83, 31), (83, 32)] (fun o : Int × St => o.2) S0 (mX12_stiffest S0 a1 a2) := by
  unfold mX12_stiffest
  have hS : kept [90, 91, 92, 96, 97, 98] [(83, 20), (83, 21), (83, 22), (83, 23), (83, 24), (83, 25), (83, 26), (83, 27), (83, 31), (83, 32)] S0 S0 := kept.rf
  repeat' first
    | with_reducible exact Fr_none
    | (with_reducible refine Fr_some ?_; assumption)
    | with_reducible refine Fr_gd ?_
    | with_reducible refine Fr_if ?_ ?_
    | with_reducible refine Fr_nxS (kept.upF (by assumption) (by decide)) (fun _ _ => ?_)
    | with_reducible refine Fr_nxS (kept.upA (by assumption) (by decide)) (fun _ _ => ?_)
    | with_reducible refine Fr_nxI (fun _ => ?_)
    | with_reducible refine Fr_bdS2 ?_ (fun _ _ _ => ?_)
    | with_reducible refine Fr_bdI2 (fun _ _ => ?_)
    | with_reducible exact (fr_mX12_most _ _ _ _ _).to (by assumption) (by decide) (by decide)
theorem fr_mX12_mean_50 (a1 : Int) (a2 : Int) (a3 : Int) (a4 : Int) : ∀ (f : Nat) (v1 : Int) (v2 : Int) (v3 : St), Fr [96, 97, 98] [(83, 20), (83, 21), (83, 22), (83, 23), (83, 24), (83, 25), (83, 26), (83, 27), (83, 31), (83, 32)] (fun o : Int × St => o.2) v3 (mX12_mean_50 a1 a2 a3 a4 f v1 v2 v3) := by
  intro f
  induction f with
  | zero => intros; rw [mX12_mean_50]; exact Fr_none
  | succ f ih =>
    intro v1 v2 v3
    rw [mX12_mean_50]
    have hS : kept [96, 97, 98] [(83, 20), (83, 21), (83, 22), (83, 23), (83, 24), (83, 25), (83, 26), (83, 27), (83, 31), (83, 32)] v3 v3 := kept.rf
    repeat' first
      | with_reducible exact Fr_none
      | (with_reducible refine Fr_some ?_; assumption)
      | with_reducible refine Fr_gd ?_
      | with_reducible refine Fr_if ?_ ?_
      | with_reducible refine Fr_nxS (kept.upF (by assumption) (by decide)) (fun _ _ => ?_)
      | with_reducible refine Fr_nxS (kept.upA (by assumption) (by decide)) (fun _ _ => ?_)
      | with_reducible refine Fr_nxI (fun _ => ?_)
      | with_reducible refine Fr_bdS1 ?_ (fun _ _ => ?_)
      | with_reducible refine Fr_bdI1 (fun _ => ?_)
      | with_reducible exact (fr_mX12_goes _ _ _ _ _ _).to (by assumption) (by decide) (by decide)
      | with_reducible exact (ih _ _ _).to (by assumption) (fun _ h => h) (fun _ h => h)
theorem fr_mX12_mean (S0 : St) (a1 : Int) (a2 : Int) (a3 : Int) (a4 : Int) : Fr [90, 91, 92, 96, 97, 98] [(83, 20), (83, 21), (83, 22), (83, 23), (83, 24), (83, 25), (83, 26), (83, 27), (83, 31), (83, 32)] (fun o : Int × St => o.2) S0 (mX12_mean S0 a1 a2 a3 a4) := by
  unfold mX12_mean
  have hS : kept [90, 91, 92, 96, 97, 98] [(83, 20), (83, 21), (83, 22), (83, 23), (83, 24), (83, 25), (83, 26), (83, 27), (83, 31), (83, 32)] S0 S0 := kept.rf
  repeat' first
    | with_reducible exact Fr_none
    | (with_reducible refine Fr_some ?_; assumption)
    | with_reducible refine Fr_gd ?_
    | with_reducible refine Fr_if ?_ ?_
    | with_reducible refine Fr_nxS (kept.upF (by assumption) (by decide)) (fun _ _ => ?_)
    | with_reducible refine Fr_nxS (kept.upA (by assumption) (by decide)) (fun _ _ => ?_)
    | with_reducible refine Fr_nxI (fun _ => ?_)
    | with_reducible refine Fr_bdS1 ?_ (fun _ _ => ?_)
    | with_reducible refine Fr_bdI1 (fun _ => ?_)
    | with_reducible refine Fr_bdS2 ?_ (fun _ _ _ => ?_)
    | with_reducible refine Fr_bdI2 (fun _ _ => ?_)
    | with_reducible exact (fr_mX12_whyNone _ _ _).to (by assumption) (by decide) (by decide)
    | with_reducible exact (fr_mX12_mean_50 _ _ _ _ _ _ _ _).to (by assumption) (by decide) (by decide)
theorem fr_mX12_readsMany_60 (rec : Nat → Int → St → Option (Int × St)) (hrec : ∀ (t : Nat) (y1 : Int) (S : St), Fr [99, 100, 101, 102, 103] [(83, 38), (83, 41)] (fun o : Int × St => o.2) S (rec t y1 S)) (r_13 : Int) (r_11 : Int) (x_2 : Int) (a1 : Int) : ∀ (f : Nat) (v1 : Int) (v2 : St), Fr [99, 100, 101, 102, 103] [(83, 38), (83, 41)] (fun o : Int × St => o.2) v2 (mX12_readsMany_60 rec r_13 r_11 x_2 a1 f v1 v2) := by
  intro f
  induction f with
  | zero => intros; rw [mX12_readsMany_60]; exact Fr_none
  | succ f ih =>
    intro v1 v2
    rw [mX12_readsMany_60]
    have hS : kept [99, 100, 101, 102, 103] [(83, 38), (83, 41)] v2 v2 := kept.rf
    repeat' first
      | with_reducible exact Fr_none
      | (with_reducible refine Fr_some ?_; assumption)
      | with_reducible refine Fr_gd ?_
      | with_reducible refine Fr_if ?_ ?_
      | with_reducible refine Fr_nxS (kept.upF (by assumption) (by decide)) (fun _ _ => ?_)
      | with_reducible refine Fr_nxS (kept.upA (by assumption) (by decide)) (fun _ _ => ?_)
      | with_reducible refine Fr_nxI (fun _ => ?_)
      | with_reducible refine Fr_bdS1 ?_ (fun _ _ => ?_)
      | with_reducible refine Fr_bdI1 (fun _ => ?_)
      | with_reducible refine Fr_bdS2 ?_ (fun _ _ _ => ?_)
      | with_reducible refine Fr_bdI2 (fun _ _ => ?_)
      | with_reducible exact (fr_mX12_comesBehind _ _ _ _ _).to (by assumption) (by decide) (by decide)
      | with_reducible exact (hrec _ _ _).to (by assumption) (fun _ h => h) (fun _ h => h)
      | with_reducible exact (ih _ _).to (by assumption) (fun _ h => h) (fun _ h => h)
theorem fr_bX12_readsMany (rec : Nat → Int → St → Option (Int × St)) (hrec : ∀ (t : Nat) (y1 : Int) (S : St), Fr [99, 100, 101, 102, 103] [(83, 38), (83, 41)] (fun o : Int × St => o.2) S (rec t y1 S)) (S0 : St) (a1 : Int) : Fr [99, 100, 101, 102, 103] [(83, 38), (83, 41)] (fun o : Int × St => o.2) S0 (bX12_readsMany rec S0 a1) := by
  unfold bX12_readsMany
  have hS : kept [99, 100, 101, 102, 103] [(83, 38), (83, 41)] S0 S0 := kept.rf
  repeat' first
    | with_reducible exact Fr_none
    | (with_reducible refine Fr_some ?_; assumption)
    | with_reducible refine Fr_gd ?_
    | with_reducible refine Fr_if ?_ ?_
    | with_reducible refine Fr_nxS (kept.upF (by assumption) (by decide)) (fun _ _ => ?_)
    | with_reducible refine Fr_nxS (kept.upA (by assumption) (by decide)) (fun _ _ => ?_)
    | with_reducible refine Fr_nxI (fun _ => ?_)
    | with_reducible refine Fr_bdS1 ?_ (fun _ _ => ?_)
    | with_reducible refine Fr_bdI1 (fun _ => ?_)
    | with_reducible refine Fr_bdS2 ?_ (fun _ _ _ => ?_)
    | with_reducible refine Fr_bdI2 (fun _ _ => ?_)
    | with_reducible exact (fr_mX12_node _ _ _ _).to (by assumption) (by decide) (by decide)
    | with_reducible exact (fr_mX12_readsMany_60 _ (by assumption) _ _ _ _ _ _ _).to (by assumption) (by decide) (by decide)
    | with_reducible exact (hrec _ _ _).to (by assumption) (fun _ h => h) (fun _ h => h)
theorem fr_mX12_readsTerm_97 (rec : Nat → Int → St → Option (Int × St)) (hrec : ∀ (t : Nat) (y1 : Int) (S : St), Fr [99, 100, 101, 102, 103] [(83, 38), (83, 41)] (fun o : Int × St => o.2) S (rec t y1 S)) (r_13 : Int) : ∀ (f : Nat) (v1 : Int) (v2 : Int) (v3 : St), Fr [99, 100, 101, 102, 103] [(83, 38), (83, 41)] (fun o : Int × St => o.2) v3 (mX12_readsTerm_97 rec r_13 f v1 v2 v3) := by
  intro f
  induction f with
  | zero => intros; rw [mX12_readsTerm_97]; exact Fr_none
  | succ f ih =>
    intro v1 v2 v3
    rw [mX12_readsTerm_97]
    have hS : kept [99, 100, 101, 102, 103] [(83, 38), (83, 41)] v3 v3 := kept.rf
    repeat' first
      | with_reducible exact Fr_none
      | (with_reducible refine Fr_some ?_; assumption)
      | with_reducible refine Fr_gd ?_
      | with_reducible refine Fr_if ?_ ?_
      | with_reducible refine Fr_nxS (kept.upF (by assumption) (by decide)) (fun _ _ => ?_)
      | with_reducible refine Fr_nxS (kept.upA (by assumption) (by decide)) (fun _ _ => ?_)
      | with_reducible refine Fr_nxI (fun _ => ?_)
      | with_reducible refine Fr_bdS2 ?_ (fun _ _ _ => ?_)
      | with_reducible refine Fr_bdI2 (fun _ _ => ?_)
      | with_reducible exact (fr_mX12_comesBehind _ _ _ _ _).to (by assumption) (by decide) (by decide)
      | with_reducible exact (hrec _ _ _).to (by assumption) (fun _ h => h) (fun _ h => h)
      | with_reducible exact (ih _ _ _).to (by assumption) (fun _ h => h) (fun _ h => h)
theorem fr_bX12_readsTerm (rec : Nat → Int → St → Option (Int × St)) (hrec : ∀ (t : Nat) (y1 : Int) (S : St), Fr [99, 100, 101, 102, 103] [(83, 38), (83, 41)] (fun o : Int × St => o.2) S (rec t y1 S)) (S0 : St) (a1 : Int) : Fr [99, 100, 101, 102, 103] [(83, 38), (83, 41)] (fun o : Int × St => o.2) S0 (bX12_readsTerm rec S0 a1) := by
  unfold bX12_readsTerm
  have hS : kept [99, 100, 101, 102, 103] [(83, 38), (83, 41)] S0 S0 := kept.rf
  repeat' first
    | with_reducible exact Fr_none
    | (with_reducible refine Fr_some ?_; assumption)
    | with_reducible refine Fr_gd ?_
    | with_reducible refine Fr_if ?_ ?_
    | with_reducible refine Fr_nxS (kept.upF (by assumption) (by decide)) (fun _ _ => ?_)
    | with_reducible refine Fr_nxS (kept.upA (by assumption) (by decide)) (fun _ _ => ?_)
    | with_reducible refine Fr_nxI (fun _ => ?_)
    | with_reducible refine Fr_bdS1 ?_ (fun _ _ => ?_)
    | with_reducible refine Fr_bdI1 (fun _ => ?_)
    | with_reducible refine Fr_bdS2 ?_ (fun _ _ _ => ?_)
    | with_reducible refine Fr_bdI2 (fun _ _ => ?_)
    | with_reducible refine Fr_bdS3 ?_ (fun _ _ _ _ => ?_)
    | with_reducible refine Fr_bdI3 (fun _ _ _ => ?_)
    | with_reducible exact (fr_mX12_node _ _ _ _).to (by assumption) (by decide) (by decide)
    | with_reducible exact (fr_mX12_readsTerm_97 _ (by assumption) _ _ _ _ _).to (by assumption) (by decide) (by decide)
    | with_reducible exact (hrec _ _ _).to (by assumption) (fun _ h => h) (fun _ h => h)
theorem fr_bX12_readsThing (rec : Nat → Int → St → Option (Int × St)) (hrec : ∀ (t : Nat) (y1 : Int) (S : St), Fr [99, 100, 101, 102, 103] [(83, 38), (83, 41)] (fun o : Int × St => o.2) S (rec t y1 S)) (S0 : St) (a1 : Int) : Fr [99, 100, 101, 102, 103] [(83, 38), (83, 41)] (fun o : Int × St => o.2) S0 (bX12_readsThing rec S0 a1) := by
  unfold bX12_readsThing
  have hS : kept [99, 100, 101, 102, 103] [(83, 38), (83, 41)] S0 S0 := kept.rf
  repeat' first
    | with_reducible exact Fr_none
    | (with_reducible refine Fr_some ?_; assumption)
    | with_reducible refine Fr_gd ?_
    | with_reducible refine Fr_if ?_ ?_
    | with_reducible refine Fr_nxS (kept.upF (by assumption) (by decide)) (fun _ _ => ?_)
    | with_reducible refine Fr_nxS (kept.upA (by assumption) (by decide)) (fun _ _ => ?_)
    | with_reducible refine Fr_nxI (fun _ => ?_)
    | with_reducible refine Fr_bdS1 ?_ (fun _ _ => ?_)
    | with_reducible refine Fr_bdI1 (fun _ => ?_)
    | with_reducible refine Fr_bdS2 ?_ (fun _ _ _ => ?_)
    | with_reducible refine Fr_bdI2 (fun _ _ => ?_)
    | with_reducible exact (fr_mX12_node _ _ _ _).to (by assumption) (by decide) (by decide)
    | with_reducible exact (hrec _ _ _).to (by assumption) (fun _ h => h) (fun _ h => h)
theorem fr_RX12_readsMany : ∀ (f t : Nat) (x1 : Int) (S : St), Fr [99, 100, 101, 102, 103] [(83, 38), (83, 41)] (fun o : Int × St => o.2) S (RX12_readsMany f t x1 S) := by
  intro f
  induction f with
  | zero => intros; rw [RX12_readsMany]; exact Fr_none
  | succ f ih =>
    intro t x1 S
    rw [RX12_readsMany]
    have hS : kept [99, 100, 101, 102, 103] [(83, 38), (83, 41)] S S := kept.rf
    repeat' first
      | with_reducible exact Fr_none
      | (with_reducible refine Fr_some ?_; assumption)
      | with_reducible refine Fr_gd ?_
      | with_reducible refine Fr_if ?_ ?_
      | with_reducible refine Fr_nxS (kept.upF (by assumption) (by decide)) (fun _ _ => ?_)
      | with_reducible refine Fr_nxS (kept.upA (by assumption) (by decide)) (fun _ _ => ?_)
      | with_reducible refine Fr_nxI (fun _ => ?_)
      | with_reducible exact (fr_bX12_readsMany _ (by assumption) _ _).to (by assumption) (by decide) (by decide)
      | with_reducible exact (fr_bX12_readsTerm _ (by assumption) _ _).to (by assumption) (by decide) (by decide)
      | with_reducible exact (fr_bX12_readsThing _ (by assumption) _ _).to (by assumption) (by decide) (by decide)
      | with_reducible exact (ih _ _ _).to (by assumption) (fun _ h => h) (fun _ h => h)
theorem fr_mX12_readsMany (S0 : St) (a1 : Int) : Fr [99, 100, 101, 102, 103] [(83, 38), (83, 41)] (fun o : Int × St => o.2) S0 (mX12_readsMany S0 a1) := by
  unfold mX12_readsMany
  have hS : kept [99, 100, 101, 102, 103] [(83, 38), (83, 41)] S0 S0 := kept.rf
  repeat' first
    | with_reducible exact Fr_none
    | (with_reducible refine Fr_some ?_; assumption)
    | with_reducible refine Fr_gd ?_
    | with_reducible refine Fr_if ?_ ?_
    | with_reducible refine Fr_nxS (kept.upF (by assumption) (by decide)) (fun _ _ => ?_)
    | with_reducible refine Fr_nxS (kept.upA (by assumption) (by decide)) (fun _ _ => ?_)
    | with_reducible refine Fr_nxI (fun _ => ?_)
    | with_reducible exact (fr_RX12_readsMany _ _ _ _).to (by assumption) (by decide) (by decide)
theorem fr_mX12_readsTerm (S0 : St) (a1 : Int) : Fr [99, 100, 101, 102, 103] [(83, 38), (83, 41)] (fun o : Int × St => o.2) S0 (mX12_readsTerm S0 a1) := by
  unfold mX12_readsTerm
  have hS : kept [99, 100, 101, 102, 103] [(83, 38), (83, 41)] S0 S0 := kept.rf
  repeat' first
    | with_reducible exact Fr_none
    | (with_reducible refine Fr_some ?_; assumption)
    | with_reducible refine Fr_gd ?_
    | with_reducible refine Fr_if ?_ ?_
    | with_reducible refine Fr_nxS (kept.upF (by assumption) (by decide)) (fun _ _ => ?_)
    | with_reducible refine Fr_nxS (kept.upA (by assumption) (by decide)) (fun _ _ => ?_)
    | with_reducible refine Fr_nxI (fun _ => ?_)
    | with_reducible exact (fr_RX12_readsMany _ _ _ _).to (by assumption) (by decide) (by decide)
theorem fr_mX12_readsThing (S0 : St) (a1 : Int) : Fr [99, 100, 101, 102, 103] [(83, 38), (83, 41)] (fun o : Int × St => o.2) S0 (mX12_readsThing S0 a1) := by
  unfold mX12_readsThing
  have hS : kept [99, 100, 101, 102, 103] [(83, 38), (83, 41)] S0 S0 := kept.rf
  repeat' first
    | with_reducible exact Fr_none
    | (with_reducible refine Fr_some ?_; assumption)
    | with_reducible refine Fr_gd ?_
    | with_reducible refine Fr_if ?_ ?_
    | with_reducible refine Fr_nxS (kept.upF (by assumption) (by decide)) (fun _ _ => ?_)
    | with_reducible refine Fr_nxS (kept.upA (by assumption) (by decide)) (fun _ _ => ?_)
    | with_reducible refine Fr_nxI (fun _ => ?_)
    | with_reducible exact (fr_RX12_readsMany _ _ _ _).to (by assumption) (by decide) (by decide)
theorem fr_mX12_readsWhole (S0 : St) (a1 : Int) : Fr [99, 100, 101, 102, 103] [(83, 38), (83, 41)] (fun o : Int × St => o.2) S0 (mX12_readsWhole S0 a1) := by
  unfold mX12_readsWhole
  have hS : kept [99, 100, 101, 102, 103] [(83, 38), (83, 41)] S0 S0 := kept.rf
  repeat' first
    | with_reducible exact Fr_none
    | (with_reducible refine Fr_some ?_; assumption)
    | with_reducible refine Fr_gd ?_
    | with_reducible refine Fr_if ?_ ?_
    | with_reducible refine Fr_nxS (kept.upF (by assumption) (by decide)) (fun _ _ => ?_)
    | with_reducible refine Fr_nxS (kept.upA (by assumption) (by decide)) (fun _ _ => ?_)
    | with_reducible refine Fr_nxI (fun _ => ?_)
    | with_reducible refine Fr_bdS1 ?_ (fun _ _ => ?_)
    | with_reducible refine Fr_bdI1 (fun _ => ?_)
    | with_reducible refine Fr_bdS2 ?_ (fun _ _ _ => ?_)
    | with_reducible refine Fr_bdI2 (fun _ _ => ?_)
    | with_reducible exact (fr_mX12_readsTerm _ _).to (by assumption) (by decide) (by decide)
theorem fr_mX12_tells_117 (x_29 : Int) (x_24 : Int) (r_19 : Int) (x_5 : Int) (a1 : Int) : ∀ (f : Nat) (v1 : Int) (v2 : St), Fr [96, 97, 98, 99, 100, 101, 102, 103, 104] [(83, 20), (83, 21), (83, 22), (83, 23), (83, 24), (83, 25), (83, 26), (83, 27), (83, 31), (83, 32), (83, 38), (83, 40), (83, 41)] (fun o : Int × Int × St => o.2.2) v2 (mX12_tells_117 x_29 x_24 r_19 x_5 a1 f v1 v2) := by
  intro f
  induction f with
  | zero => intros; rw [mX12_tells_117]; exact Fr_none
  | succ f ih =>
    intro v1 v2
    rw [mX12_tells_117]
    have hS : kept [96, 97, 98, 99, 100, 101, 102, 103, 104] [(83, 20), (83, 21), (83, 22), (83, 23), (83, 24), (83, 25), (83, 26), (83, 27), (83, 31), (83, 32), (83, 38), (83, 40), (83, 41)] v2 v2 := kept.rf
    repeat' first
      | with_reducible exact Fr_none
      | (with_reducible refine Fr_some ?_; assumption)
      | with_reducible refine Fr_gd ?_
      | with_reducible refine Fr_if ?_ ?_
      | with_reducible refine Fr_nxS (kept.upF (by assumption) (by decide)) (fun _ _ => ?_)
      | with_reducible refine Fr_nxS (kept.upA (by assumption) (by decide)) (fun _ _ => ?_)
      | with_reducible refine Fr_nxI (fun _ => ?_)
      | with_reducible refine Fr_bdS1 ?_ (fun _ _ => ?_)
      | with_reducible refine Fr_bdI1 (fun _ => ?_)
      | with_reducible refine Fr_bdS2 ?_ (fun _ _ _ => ?_)
      | with_reducible refine Fr_bdI2 (fun _ _ => ?_)
      | with_reducible exact (fr_mX12_goes _ _ _ _ _ _).to (by assumption) (by decide) (by decide)
      | with_reducible exact (fr_mX12_takesSpelled _).to (by assumption) (by decide) (by decide)
      | with_reducible exact (fr_mX12_readsWhole _ _).to (by assumption) (by decide) (by decide)
      | with_reducible exact (ih _ _).to (by assumption) (fun _ h => h) (fun _ h => h)
theorem fr_mX12_tells_32 (x_5 : Int) (a1 : Int) : ∀ (f : Nat) (v1 : Int) (v2 : St), Fr [104] [] (fun o : St => o) v2 (mX12_tells_32 x_5 a1 f v1 v2) := by
  intro f
  induction f with
  | zero => intros; rw [mX12_tells_32]; exact Fr_none
  | succ f ih =>
    intro v1 v2
    rw [mX12_tells_32]
    have hS : kept [104] [] v2 v2 := kept.rf
    repeat' first
      | with_reducible exact Fr_none
      | (with_reducible refine Fr_some ?_; assumption)
      | with_reducible refine Fr_gd ?_
      | with_reducible refine Fr_if ?_ ?_
      | with_reducible refine Fr_nxS (kept.upF (by assumption) (by decide)) (fun _ _ => ?_)
      | with_reducible refine Fr_nxS (kept.upA (by assumption) (by decide)) (fun _ _ => ?_)
      | with_reducible refine Fr_nxI (fun _ => ?_)
      | with_reducible exact (ih _ _).to (by assumption) (fun _ h => h) (fun _ h => h)
theorem fr_mX12_tells (S0 : St) (a1 : Int) : Fr [90, 91, 92, 96, 97, 98, 99, 100, 101, 102, 103, 104] [(83, 3), (83, 20), (83, 21), (83, 22), (83, 23), (83, 24), (83, 25), (83, 26), (83, 27), (83, 31), (83, 32), (83, 38), (83, 40), (83, 41), (83, 42), (83, 43)] (fun o : Int × St => o.2) S0 (mX12_tells S0 a1) := by
  unfold mX12_tells
  have hS : kept [90, 91, 92, 96, 97, 98, 99, 100, 101, 102, 103, 104] [(83, 3), (83, 20), (83, 21), (83, 22), (83, 23), (83, 24), (83, 25), (83, 26), (83, 27), (83, 31), (83, 32), (83, 38), (83, 40), (83, 41), (83, 42), (83, 43)] S0 S0 := kept.rf
  repeat' first
    | with_reducible exact Fr_none
    | (with_reducible refine Fr_some ?_; assumption)
    | with_reducible refine Fr_gd ?_
    | with_reducible refine Fr_if ?_ ?_
    | with_reducible refine Fr_nxS (kept.upF (by assumption) (by decide)) (fun _ _ => ?_)
    | with_reducible refine Fr_nxS (kept.upA (by assumption) (by decide)) (fun _ _ => ?_)
    | with_reducible refine Fr_nxI (fun _ => ?_)
    | with_reducible refine Fr_bdS1 ?_ (fun _ _ => ?_)
    | with_reducible refine Fr_bdI1 (fun _ => ?_)
    | with_reducible refine Fr_bdS2 ?_ (fun _ _ _ => ?_)
    | with_reducible refine Fr_bdI2 (fun _ _ => ?_)
    | with_reducible refine Fr_bdS3 ?_ (fun _ _ _ _ => ?_)
    | with_reducible refine Fr_bdI3 (fun _ _ _ => ?_)
    | with_reducible exact (fr_mX12_tells_32 _ _ _ _ _).to (by assumption) (by decide) (by decide)
    | with_reducible exact (fr_mX12_counts _ _).to (by assumption) (by decide) (by decide)
    | with_reducible exact (fr_mX12_readsWhole _ _).to (by assumption) (by decide) (by decide)
    | with_reducible exact (fr_mX12_tells_117 _ _ _ _ _ _ _ _).to (by assumption) (by decide) (by decide)
theorem fr_mX12_shared_36 (a1 : Int) (a2 : Int) (a3 : Int) : ∀ (f : Nat) (v1 : Int) (v2 : Int) (v3 : St), Fr [96, 97, 98, 99, 100, 101, 102, 103, 104] [(83, 20), (83, 21), (83, 22), (83, 23), (83, 24), (83, 25), (83, 26), (83, 27), (83, 31), (83, 32), (83, 38), (83, 40), (83, 41)] (fun o : Int × St => o.2) v3 (mX12_shared_36 a1 a2 a3 f v1 v2 v3) := by
  intro f
  induction f with
  | zero => intros; rw [mX12_shared_36]; exact Fr_none
  | succ f ih =>
    intro v1 v2 v3
    rw [mX12_shared_36]
    have hS : kept [96, 97, 98, 99, 100, 101, 102, 103, 104] [(83, 20), (83, 21), (83, 22), (83, 23), (83, 24), (83, 25), (83, 26), (83, 27), (83, 31), (83, 32), (83, 38), (83, 40), (83, 41)] v3 v3 := kept.rf
    repeat' first
      | with_reducible exact Fr_none
      | (with_reducible refine Fr_some ?_; assumption)
      | with_reducible refine Fr_gd ?_
      | with_reducible refine Fr_if ?_ ?_
      | with_reducible refine Fr_nxS (kept.upF (by assumption) (by decide)) (fun _ _ => ?_)
      | with_reducible refine Fr_nxS (kept.upA (by assumption) (by decide)) (fun _ _ => ?_)
      | with_reducible refine Fr_nxI (fun _ => ?_)
      | with_reducible refine Fr_bdS1 ?_ (fun _ _ => ?_)
      | with_reducible refine Fr_bdI1 (fun _ => ?_)
      | with_reducible refine Fr_bdS2 ?_ (fun _ _ _ => ?_)
      | with_reducible refine Fr_bdI2 (fun _ _ => ?_)
      | with_reducible exact (fr_mX12_goes _ _ _ _ _ _).to (by assumption) (by decide) (by decide)
      | with_reducible exact (fr_mX12_takesSpelled _).to (by assumption) (by decide) (by decide)
      | with_reducible exact (fr_mX12_readsWhole _ _).to (by assumption) (by decide) (by decide)
      | with_reducible exact (ih _ _ _).to (by assumption) (fun _ h => h) (fun _ h => h)
theorem fr_mX12_shared (S0 : St) (a1 : Int) (a2 : Int) (a3 : Int) : Fr [90, 91, 92, 96, 97, 98, 99, 100, 101, 102, 103, 104] [(83, 20), (83, 21), (83, 22), (83, 23), (83, 24), (83, 25), (83, 26), (83, 27), (83, 31), (83, 32), (83, 38), (83, 40), (83, 41)] (fun o : Int × St => o.2) S0 (mX12_shared S0 a1 a2 a3) := by
  unfold mX12_shared
  have hS : kept [90, 91, 92, 96, 97, 98, 99, 100, 101, 102, 103, 104] [(83, 20), (83, 21), (83, 22), (83, 23), (83, 24), (83, 25), (83, 26), (83, 27), (83, 31), (83, 32), (83, 38), (83, 40), (83, 41)] S0 S0 := kept.rf
  repeat' first
    | with_reducible exact Fr_none
    | (with_reducible refine Fr_some ?_; assumption)
    | with_reducible refine Fr_gd ?_
    | with_reducible refine Fr_if ?_ ?_
    | with_reducible refine Fr_nxS (kept.upF (by assumption) (by decide)) (fun _ _ => ?_)
    | with_reducible refine Fr_nxS (kept.upA (by assumption) (by decide)) (fun _ _ => ?_)
    | with_reducible refine Fr_nxI (fun _ => ?_)
    | with_reducible refine Fr_bdS1 ?_ (fun _ _ => ?_)
    | with_reducible refine Fr_bdI1 (fun _ => ?_)
    | with_reducible refine Fr_bdS2 ?_ (fun _ _ _ => ?_)
    | with_reducible refine Fr_bdI2 (fun _ _ => ?_)
    | with_reducible exact (fr_mX12_whyNone _ _ _).to (by assumption) (by decide) (by decide)
    | with_reducible exact (fr_mX12_shared_36 _ _ _ _ _ _ _).to (by assumption) (by decide) (by decide)
theorem fr_mJ7_fill_53178_19_5 (a2 : Int) : ∀ (f : Nat) (v1 : Int) (v2 : St), Fr [19] [] (fun o : St => o) v2 (mJ7_fill_53178_19_5 a2 f v1 v2) := by
  intro f
  induction f with
  | zero => intros; rw [mJ7_fill_53178_19_5]; exact Fr_none
  | succ f ih =>
    intro v1 v2
    rw [mJ7_fill_53178_19_5]
    have hS : kept [19] [] v2 v2 := kept.rf
    repeat' first
      | with_reducible exact Fr_none
      | (with_reducible refine Fr_some ?_; assumption)
      | with_reducible refine Fr_gd ?_
      | with_reducible refine Fr_if ?_ ?_
      | with_reducible refine Fr_nxS (kept.upF (by assumption) (by decide)) (fun _ _ => ?_)
      | with_reducible refine Fr_nxS (kept.upA (by assumption) (by decide)) (fun _ _ => ?_)
      | with_reducible refine Fr_nxI (fun _ => ?_)
      | with_reducible exact (ih _ _).to (by assumption) (fun _ h => h) (fun _ h => h)
theorem fr_mJ7_fill_53178_19 (S0 : St) (a2 : Int) : Fr [19] [] (fun o : St => o) S0 (mJ7_fill_53178_19 S0 a2) := by
  unfold mJ7_fill_53178_19
  have hS : kept [19] [] S0 S0 := kept.rf
  repeat' first
    | with_reducible exact Fr_none
    | (with_reducible refine Fr_some ?_; assumption)
    | with_reducible refine Fr_gd ?_
    | with_reducible refine Fr_if ?_ ?_
    | with_reducible refine Fr_nxS (kept.upF (by assumption) (by decide)) (fun _ _ => ?_)
    | with_reducible refine Fr_nxS (kept.upA (by assumption) (by decide)) (fun _ _ => ?_)
    | with_reducible refine Fr_nxI (fun _ => ?_)
    | with_reducible refine Fr_bdS1 ?_ (fun _ _ => ?_)
    | with_reducible refine Fr_bdI1 (fun _ => ?_)
    | with_reducible exact (fr_mJ7_fill_53178_19_5 _ _ _ _).to (by assumption) (by decide) (by decide)
theorem fr_mJ7_fill_53178_21_5 (a2 : Int) : ∀ (f : Nat) (v1 : Int) (v2 : St), Fr [21] [] (fun o : St => o) v2 (mJ7_fill_53178_21_5 a2 f v1 v2) := by
  intro f
  induction f with
  | zero => intros; rw [mJ7_fill_53178_21_5]; exact Fr_none
  | succ f ih =>
    intro v1 v2
    rw [mJ7_fill_53178_21_5]
    have hS : kept [21] [] v2 v2 := kept.rf
    repeat' first
      | with_reducible exact Fr_none
      | (with_reducible refine Fr_some ?_; assumption)
      | with_reducible refine Fr_gd ?_
      | with_reducible refine Fr_if ?_ ?_
      | with_reducible refine Fr_nxS (kept.upF (by assumption) (by decide)) (fun _ _ => ?_)
      | with_reducible refine Fr_nxS (kept.upA (by assumption) (by decide)) (fun _ _ => ?_)
      | with_reducible refine Fr_nxI (fun _ => ?_)
      | with_reducible exact (ih _ _).to (by assumption) (fun _ h => h) (fun _ h => h)
theorem fr_mJ7_fill_53178_21 (S0 : St) (a2 : Int) : Fr [21] [] (fun o : St => o) S0 (mJ7_fill_53178_21 S0 a2) := by
  unfold mJ7_fill_53178_21
  have hS : kept [21] [] S0 S0 := kept.rf
  repeat' first
    | with_reducible exact Fr_none
    | (with_reducible refine Fr_some ?_; assumption)
    | with_reducible refine Fr_gd ?_
    | with_reducible refine Fr_if ?_ ?_
    | with_reducible refine Fr_nxS (kept.upF (by assumption) (by decide)) (fun _ _ => ?_)
    | with_reducible refine Fr_nxS (kept.upA (by assumption) (by decide)) (fun _ _ => ?_)
    | with_reducible refine Fr_nxI (fun _ => ?_)
    | with_reducible refine Fr_bdS1 ?_ (fun _ _ => ?_)
    | with_reducible refine Fr_bdI1 (fun _ => ?_)
    | with_reducible exact (fr_mJ7_fill_53178_21_5 _ _ _ _).to (by assumption) (by decide) (by decide)
theorem fr_mX2_clear_13 (S0 : St) : Fr [19, 21] [(13, 0), (13, 1), (13, 2), (13, 3), (13, 4)] (fun o : St => o) S0 (mX2_clear_13 S0) := by
  unfold mX2_clear_13
  have hS : kept [19, 21] [(13, 0), (13, 1), (13, 2), (13, 3), (13, 4)] S0 S0 := kept.rf
  repeat' first
    | with_reducible exact Fr_none
    | (with_reducible refine Fr_some ?_; assumption)
    | with_reducible refine Fr_gd ?_
    | with_reducible refine Fr_if ?_ ?_
    | with_reducible refine Fr_nxS (kept.upF (by assumption) (by decide)) (fun _ _ => ?_)
    | with_reducible refine Fr_nxS (kept.upA (by assumption) (by decide)) (fun _ _ => ?_)
    | with_reducible refine Fr_nxI (fun _ => ?_)
    | with_reducible refine Fr_bdS1 ?_ (fun _ _ => ?_)
    | with_reducible refine Fr_bdI1 (fun _ => ?_)
    | with_reducible exact (fr_mJ7_fill_53178_19 _ _).to (by assumption) (by decide) (by decide)
    | with_reducible exact (fr_mJ7_fill_53178_21 _ _).to (by assumption) (by decide) (by decide)
theorem fr_mX5_advance_155  : ∀ (f : Nat) (v1 : St), Fr [] [(12, 6), (12, 9)] (fun o : St => o) v1 (mX5_advance_155  f v1) := by
  intro f
  induction f with
  | zero => intros; rw [mX5_advance_155]; exact Fr_none
  | succ f ih =>
    intro v1
    rw [mX5_advance_155]
    have hS : kept [] [(12, 6), (12, 9)] v1 v1 := kept.rf
    repeat' first
      | with_reducible exact Fr_none
      | (with_reducible refine Fr_some ?_; assumption)
      | with_reducible refine Fr_gd ?_
      | with_reducible refine Fr_if ?_ ?_
      | with_reducible refine Fr_nxS (kept.upF (by assumption) (by decide)) (fun _ _ => ?_)
      | with_reducible refine Fr_nxS (kept.upA (by assumption) (by decide)) (fun _ _ => ?_)
      | with_reducible refine Fr_nxI (fun _ => ?_)
      | with_reducible refine Fr_bdS1 ?_ (fun _ _ => ?_)
      | with_reducible refine Fr_bdI1 (fun _ => ?_)
      | with_reducible exact (ih _).to (by assumption) (fun _ h => h) (fun _ h => h)
theorem fr_mX5_advance_99  : ∀ (f : Nat) (v1 : St), Fr [] [(12, 6)] (fun o : St => o) v1 (mX5_advance_99  f v1) := by
  intro f
  induction f with
  | zero => intros; rw [mX5_advance_99]; exact Fr_none
  | succ f ih =>
    intro v1
    rw [mX5_advance_99]
    have hS : kept [] [(12, 6)] v1 v1 := kept.rf
    repeat' first
      | with_reducible exact Fr_none
      | (with_reducible refine Fr_some ?_; assumption)
      | with_reducible refine Fr_gd ?_
      | with_reducible refine Fr_if ?_ ?_
      | with_reducible refine Fr_nxS (kept.upF (by assumption) (by decide)) (fun _ _ => ?_)
      | with_reducible refine Fr_nxS (kept.upA (by assumption) (by decide)) (fun _ _ => ?_)
      | with_reducible refine Fr_nxI (fun _ => ?_)
      | with_reducible refine Fr_bdS1 ?_ (fun _ _ => ?_)
      | with_reducible refine Fr_bdI1 (fun _ => ?_)
      | with_reducible exact (ih _).to (by assumption) (fun _ h => h) (fun _ h => h)
theorem fr_mX5_advance_0  : ∀ (f : Nat) (v1 : St), Fr [] [(12, 6)] (fun o : St => o) v1 (mX5_advance_0  f v1) := by
  intro f
  induction f with
  | zero => intros; rw [mX5_advance_0]; exact Fr_none
  | succ f ih =>
    intro v1
    rw [mX5_advance_0]
    have hS : kept [] [(12, 6)] v1 v1 := kept.rf
    repeat' first
      | with_reducible exact Fr_none
      | (with_reducible refine Fr_some ?_; assumption)
      | with_reducible refine Fr_gd ?_
      | with_reducible refine Fr_if ?_ ?_
      | with_reducible refine Fr_nxS (kept.upF (by assumption) (by decide)) (fun _ _ => ?_)
      | with_reducible refine Fr_nxS (kept.upA (by assumption) (by decide)) (fun _ _ => ?_)
      | with_reducible refine Fr_nxI (fun _ => ?_)
      | with_reducible refine Fr_bdS1 ?_ (fun _ _ => ?_)
      | with_reducible refine Fr_bdI1 (fun _ => ?_)
      | with_reducible exact (ih _).to (by assumption) (fun _ h => h) (fun _ h => h)
theorem fr_mX5_advance (S0 : St) : Fr [] [(12, 6), (12, 7), (12, 8), (12, 9)] (fun o : St => o) S0 (mX5_advance S0) := by
  unfold mX5_advance
  have hS : kept [] [(12, 6), (12, 7), (12, 8), (12, 9)] S0 S0 := kept.rf
  repeat' first
    | with_reducible exact Fr_none
    | (with_reducible refine Fr_some ?_; assumption)
    | with_reducible refine Fr_gd ?_
    | with_reducible refine Fr_if ?_ ?_
    | with_reducible refine Fr_nxS (kept.upF (by assumption) (by decide)) (fun _ _ => ?_)
    | with_reducible refine Fr_nxS (kept.upA (by assumption) (by decide)) (fun _ _ => ?_)
    | with_reducible refine Fr_nxI (fun _ => ?_)
    | with_reducible refine Fr_bdS1 ?_ (fun _ _ => ?_)
    | with_reducible refine Fr_bdI1 (fun _ => ?_)
    | with_reducible exact (fr_mX5_advance_0 _ _).to (by assumption) (by decide) (by decide)
    | with_reducible exact (fr_mX5_advance_155 _ _).to (by assumption) (by decide) (by decide)
    | with_reducible exact (fr_mX5_advance_99 _ _).to (by assumption) (by decide) (by decide)
theorem fr_mX5_refuse (S0 : St) (a1 : Int) : Fr [] [(12, 1), (12, 2)] (fun o : St => o) S0 (mX5_refuse S0 a1) := by
  unfold mX5_refuse
  have hS : kept [] [(12, 1), (12, 2)] S0 S0 := kept.rf
  repeat' first
    | with_reducible exact Fr_none
    | (with_reducible refine Fr_some ?_; assumption)
    | with_reducible refine Fr_gd ?_
    | with_reducible refine Fr_if ?_ ?_
    | with_reducible refine Fr_nxS (kept.upF (by assumption) (by decide)) (fun _ _ => ?_)
    | with_reducible refine Fr_nxS (kept.upA (by assumption) (by decide)) (fun _ _ => ?_)
    | with_reducible refine Fr_nxI (fun _ => ?_)
theorem fr_mX5_expectWord_12_s (bs : List Int32) (S0 : St) : Fr [] [(12, 1), (12, 2), (12, 6), (12, 7), (12, 8), (12, 9)] (fun o : St => o) S0 (mX5_expectWord_12_s bs S0) := by
  unfold mX5_expectWord_12_s
  have hS : kept [] [(12, 1), (12, 2), (12, 6), (12, 7), (12, 8), (12, 9)] S0 S0 := kept.rf
  repeat' first
    | with_reducible exact Fr_none
    | (with_reducible refine Fr_some ?_; assumption)
    | with_reducible refine Fr_gd ?_
    | with_reducible refine Fr_if ?_ ?_
    | with_reducible refine Fr_nxS (kept.upF (by assumption) (by decide)) (fun _ _ => ?_)
    | with_reducible refine Fr_nxS (kept.upA (by assumption) (by decide)) (fun _ _ => ?_)
    | with_reducible refine Fr_nxI (fun _ => ?_)
    | with_reducible refine Fr_bdS1 ?_ (fun _ _ => ?_)
    | with_reducible refine Fr_bdI1 (fun _ => ?_)
    | with_reducible exact (fr_mX5_refuse _ _).to (by assumption) (by decide) (by decide)
    | with_reducible exact (fr_mX5_advance _).to (by assumption) (by decide) (by decide)
theorem fr_mX5_readName (S0 : St) : Fr [24, 25] [(12, 1), (12, 2), (12, 6), (12, 7), (12, 8), (12, 9), (13, 1)] (fun o : St => o) S0 (mX5_readName S0) := by
  unfold mX5_readName
  have hS : kept [24, 25] [(12, 1), (12, 2), (12, 6), (12, 7), (12, 8), (12, 9), (13, 1)] S0 S0 := kept.rf
  repeat' first
    | with_reducible exact Fr_none
    | (with_reducible refine Fr_some ?_; assumption)
    | with_reducible refine Fr_gd ?_
    | with_reducible refine Fr_if ?_ ?_
    | with_reducible refine Fr_nxS (kept.upF (by assumption) (by decide)) (fun _ _ => ?_)
    | with_reducible refine Fr_nxS (kept.upA (by assumption) (by decide)) (fun _ _ => ?_)
    | with_reducible refine Fr_nxI (fun _ => ?_)
    | with_reducible refine Fr_bdS1 ?_ (fun _ _ => ?_)
    | with_reducible refine Fr_bdI1 (fun _ => ?_)
    | with_reducible exact (fr_mX5_refuse _ _).to (by assumption) (by decide) (by decide)
    | with_reducible exact (fr_mX5_advance _).to (by assumption) (by decide) (by decide)
theorem fr_mX5_expectSign (S0 : St) (a1 : Int) : Fr [] [(12, 1), (12, 2), (12, 6), (12, 7), (12, 8), (12, 9)] (fun o : St => o) S0 (mX5_expectSign S0 a1) := by
  unfold mX5_expectSign
  have hS : kept [] [(12, 1), (12, 2), (12, 6), (12, 7), (12, 8), (12, 9)] S0 S0 := kept.rf
  repeat' first
    | with_reducible exact Fr_none
    | (with_reducible refine Fr_some ?_; assumption)
    | with_reducible refine Fr_gd ?_
    | with_reducible refine Fr_if ?_ ?_
    | with_reducible refine Fr_nxS (kept.upF (by assumption) (by decide)) (fun _ _ => ?_)
    | with_reducible refine Fr_nxS (kept.upA (by assumption) (by decide)) (fun _ _ => ?_)
    | with_reducible refine Fr_nxI (fun _ => ?_)
    | with_reducible refine Fr_bdS1 ?_ (fun _ _ => ?_)
    | with_reducible refine Fr_bdI1 (fun _ => ?_)
    | with_reducible exact (fr_mX5_advance _).to (by assumption) (by decide) (by decide)
    | with_reducible exact (fr_mX5_refuse _ _).to (by assumption) (by decide) (by decide)
theorem fr_mX5_readHead_66  : ∀ (f : Nat) (v1 : Int) (v2 : St), Fr [24, 25] [(12, 1), (12, 2), (12, 6), (12, 7), (12, 8), (12, 9), (13, 1)] (fun o : St => o) v2 (mX5_readHead_66  f v1 v2) := by
  intro f
  induction f with
  | zero => intros; rw [mX5_readHead_66]; exact Fr_none
  | succ f ih =>
    intro v1 v2
    rw [mX5_readHead_66]
    have hS : kept [24, 25] [(12, 1), (12, 2), (12, 6), (12, 7), (12, 8), (12, 9), (13, 1)] v2 v2 := kept.rf
    repeat' first
      | with_reducible exact Fr_none
      | (with_reducible refine Fr_some ?_; assumption)
      | with_reducible refine Fr_gd ?_
      | with_reducible refine Fr_if ?_ ?_
      | with_reducible refine Fr_nxS (kept.upF (by assumption) (by decide)) (fun _ _ => ?_)
      | with_reducible refine Fr_nxS (kept.upA (by assumption) (by decide)) (fun _ _ => ?_)
      | with_reducible refine Fr_nxI (fun _ => ?_)
      | with_reducible refine Fr_bdS1 ?_ (fun _ _ => ?_)
      | with_reducible refine Fr_bdI1 (fun _ => ?_)
      | with_reducible exact (fr_mX5_readName _).to (by assumption) (by decide) (by decide)
      | with_reducible exact (ih _ _).to (by assumption) (fun _ h => h) (fun _ h => h)
theorem fr_mX5_readHead (S0 : St) : Fr [24, 25] [(12, 1), (12, 2), (12, 6), (12, 7), (12, 8), (12, 9), (13, 0), (13, 1), (13, 2)] (fun o : St => o) S0 (mX5_readHead S0) := by
  unfold mX5_readHead
  have hS : kept [24, 25] [(12, 1), (12, 2), (12, 6), (12, 7), (12, 8), (12, 9), (13, 0), (13, 1), (13, 2)] S0 S0 := kept.rf
  repeat' first
    | with_reducible exact Fr_none
    | (with_reducible refine Fr_some ?_; assumption)
    | with_reducible refine Fr_gd ?_
    | with_reducible refine Fr_if ?_ ?_
    | with_reducible refine Fr_nxS (kept.upF (by assumption) (by decide)) (fun _ _ => ?_)
    | with_reducible refine Fr_nxS (kept.upA (by assumption) (by decide)) (fun _ _ => ?_)
    | with_reducible refine Fr_nxI (fun _ => ?_)
    | with_reducible refine Fr_bdS1 ?_ (fun _ _ => ?_)
    | with_reducible refine Fr_bdI1 (fun _ => ?_)
    | with_reducible exact (fr_mX5_expectWord_12_s _ _).to (by assumption) (by decide) (by decide)
    | with_reducible exact (fr_mX5_refuse _ _).to (by assumption) (by decide) (by decide)
    | with_reducible exact (fr_mX5_advance _).to (by assumption) (by decide) (by decide)
    | with_reducible exact (fr_mX5_readHead_66 _ _ _).to (by assumption) (by decide) (by decide)
    | with_reducible exact (fr_mX5_expectSign _ _).to (by assumption) (by decide) (by decide)
theorem fr_mX2_addPart_13 (S0 : St) (a1 : Int) (a2 : Int) : Fr [14, 15, 16, 17, 18] [(13, 3)] (fun o : Int × St => o.2) S0 (mX2_addPart_13 S0 a1 a2) := by
  unfold mX2_addPart_13
  have hS : kept [14, 15, 16, 17, 18] [(13, 3)] S0 S0 := kept.rf
  repeat' first
    | with_reducible exact Fr_none
    | (with_reducible refine Fr_some ?_; assumption)
    | with_reducible refine Fr_gd ?_
    | with_reducible refine Fr_if ?_ ?_
    | with_reducible refine Fr_nxS (kept.upF (by assumption) (by decide)) (fun _ _ => ?_)
    | with_reducible refine Fr_nxS (kept.upA (by assumption) (by decide)) (fun _ _ => ?_)
    | with_reducible refine Fr_nxI (fun _ => ?_)
theorem fr_mX5_readMany (S0 : St) (a1 : Int) : Fr [15] [(12, 1), (12, 2), (12, 6), (12, 7), (12, 8), (12, 9)] (fun o : St => o) S0 (mX5_readMany S0 a1) := by
  unfold mX5_readMany
  have hS : kept [15] [(12, 1), (12, 2), (12, 6), (12, 7), (12, 8), (12, 9)] S0 S0 := kept.rf
  repeat' first
    | with_reducible exact Fr_none
    | (with_reducible refine Fr_some ?_; assumption)
    | with_reducible refine Fr_gd ?_
    | with_reducible refine Fr_if ?_ ?_
    | with_reducible refine Fr_nxS (kept.upF (by assumption) (by decide)) (fun _ _ => ?_)
    | with_reducible refine Fr_nxS (kept.upA (by assumption) (by decide)) (fun _ _ => ?_)
    | with_reducible refine Fr_nxI (fun _ => ?_)
    | with_reducible refine Fr_bdS1 ?_ (fun _ _ => ?_)
    | with_reducible refine Fr_bdI1 (fun _ => ?_)
    | with_reducible exact (fr_mX5_refuse _ _).to (by assumption) (by decide) (by decide)
    | with_reducible exact (fr_mX5_advance _).to (by assumption) (by decide) (by decide)
theorem fr_mX5_readLetter (S0 : St) (a1 : Int) : Fr [15] [(12, 1), (12, 2), (12, 6), (12, 7), (12, 8), (12, 9)] (fun o : St => o) S0 (mX5_readLetter S0 a1) := by
  unfold mX5_readLetter
  have hS : kept [15] [(12, 1), (12, 2), (12, 6), (12, 7), (12, 8), (12, 9)] S0 S0 := kept.rf
  repeat' first
    | with_reducible exact Fr_none
    | (with_reducible refine Fr_some ?_; assumption)
    | with_reducible refine Fr_gd ?_
    | with_reducible refine Fr_if ?_ ?_
    | with_reducible refine Fr_nxS (kept.upF (by assumption) (by decide)) (fun _ _ => ?_)
    | with_reducible refine Fr_nxS (kept.upA (by assumption) (by decide)) (fun _ _ => ?_)
    | with_reducible refine Fr_nxI (fun _ => ?_)
    | with_reducible refine Fr_bdS1 ?_ (fun _ _ => ?_)
    | with_reducible refine Fr_bdI1 (fun _ => ?_)
    | with_reducible exact (fr_mX5_advance _).to (by assumption) (by decide) (by decide)
    | with_reducible exact (fr_mX5_refuse _ _).to (by assumption) (by decide) (by decide)
theorem fr_mX5_readExpr_2 (rec : Nat → Int → Int → St → Option (Int × St)) (hrec : ∀ (t : Nat) (y1 : Int) (y2 : Int) (S : St), Fr [14, 15, 16, 17, 18, 19, 20] [(12, 1), (12, 2), (12, 6), (12, 7), (12, 8), (12, 9), (13, 3)] (fun o : Int × St => o.2) S (rec t y1 y2 S)) (a1 : Int) (a2 : Int) : ∀ (f : Nat) (v1 : Int) (v2 : St), Fr [14, 15, 16, 17, 18, 19, 20] [(12, 1), (12, 2), (12, 6), (12, 7), (12, 8), (12, 9), (13, 3)] (fun o : Int × St => o.2) v2 (mX5_readExpr_2 rec a1 a2 f v1 v2) := by
  intro f
  induction f with
  | zero => intros; rw [mX5_readExpr_2]; exact Fr_none
  | succ f ih =>
    intro v1 v2
    rw [mX5_readExpr_2]
    have hS : kept [14, 15, 16, 17, 18, 19, 20] [(12, 1), (12, 2), (12, 6), (12, 7), (12, 8), (12, 9), (13, 3)] v2 v2 := kept.rf
    repeat' first
      | with_reducible exact Fr_none
      | (with_reducible refine Fr_some ?_; assumption)
      | with_reducible refine Fr_gd ?_
      | with_reducible refine Fr_if ?_ ?_
      | with_reducible refine Fr_nxS (kept.upF (by assumption) (by decide)) (fun _ _ => ?_)
      | with_reducible refine Fr_nxS (kept.upA (by assumption) (by decide)) (fun _ _ => ?_)
      | with_reducible refine Fr_nxI (fun _ => ?_)
      | with_reducible refine Fr_bdS1 ?_ (fun _ _ => ?_)
      | with_reducible refine Fr_bdI1 (fun _ => ?_)
      | with_reducible refine Fr_bdS2 ?_ (fun _ _ _ => ?_)
      | with_reducible refine Fr_bdI2 (fun _ _ => ?_)
      | with_reducible exact (fr_mX5_advance _).to (by assumption) (by decide) (by decide)
      | with_reducible exact (hrec _ _ _ _).to (by assumption) (fun _ h => h) (fun _ h => h)
      | with_reducible exact (ih _ _).to (by assumption) (fun _ h => h) (fun _ h => h)
theorem fr_bX5_readExpr (rec : Nat → Int → Int → St → Option (Int × St)) (hrec : ∀ (t : Nat) (y1 : Int) (y2 : Int) (S : St), Fr [14, 15, 16, 17, 18, 19, 20] [(12, 1), (12, 2), (12, 6), (12, 7), (12, 8), (12, 9), (13, 3)] (fun o : Int × St => o.2) S (rec t y1 y2 S)) (S0 : St) (a1 : Int) (a2 : Int) : Fr [14, 15, 16, 17, 18, 19, 20] [(12, 1), (12, 2), (12, 6), (12, 7), (12, 8), (12, 9), (13, 3)] (fun o : St => o) S0 (bX5_readExpr rec S0 a1 a2) := by
  unfold bX5_readExpr
  have hS : kept [14, 15, 16, 17, 18, 19, 20] [(12, 1), (12, 2), (12, 6), (12, 7), (12, 8), (12, 9), (13, 3)] S0 S0 := kept.rf
  repeat' first
    | with_reducible exact Fr_none
    | (with_reducible refine Fr_some ?_; assumption)
    | with_reducible refine Fr_gd ?_
    | with_reducible refine Fr_if ?_ ?_
    | with_reducible refine Fr_nxS (kept.upF (by assumption) (by decide)) (fun _ _ => ?_)
    | with_reducible refine Fr_nxS (kept.upA (by assumption) (by decide)) (fun _ _ => ?_)
    | with_reducible refine Fr_nxI (fun _ => ?_)
    | with_reducible refine Fr_bdS2 ?_ (fun _ _ _ => ?_)
    | with_reducible refine Fr_bdI2 (fun _ _ => ?_)
    | with_reducible exact (fr_mX5_readExpr_2 _ (by assumption) _ _ _ _ _).to (by assumption) (by decide) (by decide)
    | with_reducible exact (hrec _ _ _ _).to (by assumption) (fun _ h => h) (fun _ h => h)
theorem fr_bX5_readPart (rec : Nat → Int → Int → St → Option (Int × St)) (hrec : ∀ (t : Nat) (y1 : Int) (y2 : Int) (S : St), Fr [14, 15, 16, 17, 18, 19, 20] [(12, 1), (12, 2), (12, 6), (12, 7), (12, 8), (12, 9), (13, 3)] (fun o : Int × St => o.2) S (rec t y1 y2 S)) (S0 : St) (a1 : Int) (a2 : Int) : Fr [14, 15, 16, 17, 18, 19, 20] [(12, 1), (12, 2), (12, 6), (12, 7), (12, 8), (12, 9), (13, 3)] (fun o : Int × St => o.2) S0 (bX5_readPart rec S0 a1 a2) := by
  unfold bX5_readPart
  have hS : kept [14, 15, 16, 17, 18, 19, 20] [(12, 1), (12, 2), (12, 6), (12, 7), (12, 8), (12, 9), (13, 3)] S0 S0 := kept.rf
  repeat' first
    | with_reducible exact Fr_none
    | (with_reducible refine Fr_some ?_; assumption)
    | with_reducible refine Fr_gd ?_
    | with_reducible refine Fr_if ?_ ?_
    | with_reducible refine Fr_nxS (kept.upF (by assumption) (by decide)) (fun _ _ => ?_)
    | with_reducible refine Fr_nxS (kept.upA (by assumption) (by decide)) (fun _ _ => ?_)
    | with_reducible refine Fr_nxI (fun _ => ?_)
    | with_reducible refine Fr_bdS1 ?_ (fun _ _ => ?_)
    | with_reducible refine Fr_bdI1 (fun _ => ?_)
    | with_reducible refine Fr_bdS2 ?_ (fun _ _ _ => ?_)
    | with_reducible refine Fr_bdI2 (fun _ _ => ?_)
    | with_reducible exact (fr_mX2_addPart_13 _ _ _).to (by assumption) (by decide) (by decide)
    | with_reducible exact (fr_mX5_refuse _ _).to (by assumption) (by decide) (by decide)
    | with_reducible exact (fr_mX5_advance _).to (by assumption) (by decide) (by decide)
    | with_reducible exact (fr_mX5_readLetter _ _).to (by assumption) (by decide) (by decide)
    | with_reducible exact (fr_mX5_expectSign _ _).to (by assumption) (by decide) (by decide)
    | with_reducible exact (fr_mX5_readMany _ _).to (by assumption) (by decide) (by decide)
    | with_reducible exact (hrec _ _ _ _).to (by assumption) (fun _ h => h) (fun _ h => h)
theorem fr_mX5_readTerm_13 (rec : Nat → Int → Int → St → Option (Int × St)) (hrec : ∀ (t : Nat) (y1 : Int) (y2 : Int) (S : St), Fr [14, 15, 16, 17, 18, 19, 20] [(12, 1), (12, 2), (12, 6), (12, 7), (12, 8), (12, 9), (13, 3)] (fun o : Int × St => o.2) S (rec t y1 y2 S)) (r_2 : Int) (a1 : Int) : ∀ (f : Nat) (v1 : Int) (v2 : Int) (v3 : St), Fr [14, 15, 16, 17, 18, 19, 20] [(12, 1), (12, 2), (12, 6), (12, 7), (12, 8), (12, 9), (13, 3)] (fun o : St => o) v3 (mX5_readTerm_13 rec r_2 a1 f v1 v2 v3) := by
  intro f
  induction f with
  | zero => intros; rw [mX5_readTerm_13]; exact Fr_none
  | succ f ih =>
    intro v1 v2 v3
    rw [mX5_readTerm_13]
    have hS : kept [14, 15, 16, 17, 18, 19, 20] [(12, 1), (12, 2), (12, 6), (12, 7), (12, 8), (12, 9), (13, 3)] v3 v3 := kept.rf
    repeat' first
      | with_reducible exact Fr_none
      | (with_reducible refine Fr_some ?_; assumption)
      | with_reducible refine Fr_gd ?_
      | with_reducible refine Fr_if ?_ ?_
      | with_reducible refine Fr_nxS (kept.upF (by assumption) (by decide)) (fun _ _ => ?_)
      | with_reducible refine Fr_nxS (kept.upA (by assumption) (by decide)) (fun _ _ => ?_)
      | with_reducible refine Fr_nxI (fun _ => ?_)
      | with_reducible refine Fr_bdS1 ?_ (fun _ _ => ?_)
      | with_reducible refine Fr_bdI1 (fun _ => ?_)
      | with_reducible refine Fr_bdS2 ?_ (fun _ _ _ => ?_)
      | with_reducible refine Fr_bdI2 (fun _ _ => ?_)
      | with_reducible exact (fr_mX5_advance _).to (by assumption) (by decide) (by decide)
      | with_reducible exact (hrec _ _ _ _).to (by assumption) (fun _ h => h) (fun _ h => h)
      | with_reducible exact (ih _ _ _).to (by assumption) (fun _ h => h) (fun _ h => h)
theorem fr_bX5_readTerm (rec : Nat → Int → Int → St → Option (Int × St)) (hrec : ∀ (t : Nat) (y1 : Int) (y2 : Int) (S : St), Fr [14, 15, 16, 17, 18, 19, 20] [(12, 1), (12, 2), (12, 6), (12, 7), (12, 8), (12, 9), (13, 3)] (fun o : Int × St => o.2) S (rec t y1 y2 S)) (S0 : St) (a1 : Int) (a2 : Int) : Fr [14, 15, 16, 17, 18, 19, 20] [(12, 1), (12, 2), (12, 6), (12, 7), (12, 8), (12, 9), (13, 3)] (fun o : Int × St => o.2) S0 (bX5_readTerm rec S0 a1 a2) := by
  unfold bX5_readTerm
  have hS : kept [14, 15, 16, 17, 18, 19, 20] [(12, 1), (12, 2), (12, 6), (12, 7), (12, 8), (12, 9), (13, 3)] S0 S0 := kept.rf
  repeat' first
    | with_reducible exact Fr_none
    | (with_reducible refine Fr_some ?_; assumption)
    | with_reducible refine Fr_gd ?_
    | with_reducible refine Fr_if ?_ ?_
    | with_reducible refine Fr_nxS (kept.upF (by assumption) (by decide)) (fun _ _ => ?_)
    | with_reducible refine Fr_nxS (kept.upA (by assumption) (by decide)) (fun _ _ => ?_)
    | with_reducible refine Fr_nxI (fun _ => ?_)
    | with_reducible refine Fr_bdS1 ?_ (fun _ _ => ?_)
    | with_reducible refine Fr_bdI1 (fun _ => ?_)
    | with_reducible refine Fr_bdS2 ?_ (fun _ _ _ => ?_)
    | with_reducible refine Fr_bdI2 (fun _ _ => ?_)
    | with_reducible exact (fr_mX5_readTerm_13 _ (by assumption) _ _ _ _ _ _).to (by assumption) (by decide) (by decide)
    | with_reducible exact (hrec _ _ _ _).to (by assumption) (fun _ h => h) (fun _ h => h)
theorem fr_RX5_readExpr : ∀ (f t : Nat) (x1 : Int) (x2 : Int) (S : St), Fr [14, 15, 16, 17, 18, 19, 20] [(12, 1), (12, 2), (12, 6), (12, 7), (12, 8), (12, 9), (13, 3)] (fun o : Int × St => o.2) S (RX5_readExpr f t x1 x2 S) := by
  intro f
  induction f with
  | zero => intros; rw [RX5_readExpr]; exact Fr_none
  | succ f ih =>
    intro t x1 x2 S
    rw [RX5_readExpr]
    have hS : kept [14, 15, 16, 17, 18, 19, 20] [(12, 1), (12, 2), (12, 6), (12, 7), (12, 8), (12, 9), (13, 3)] S S := kept.rf
    repeat' first
      | with_reducible exact Fr_none
      | (with_reducible refine Fr_some ?_; assumption)
      | with_reducible refine Fr_gd ?_
      | with_reducible refine Fr_if ?_ ?_
      | with_reducible refine Fr_nxS (kept.upF (by assumption) (by decide)) (fun _ _ => ?_)
      | with_reducible refine Fr_nxS (kept.upA (by assumption) (by decide)) (fun _ _ => ?_)
      | with_reducible refine Fr_nxI (fun _ => ?_)
      | with_reducible refine Fr_bdS1 ?_ (fun _ _ => ?_)
      | with_reducible refine Fr_bdI1 (fun _ => ?_)
      | with_reducible exact (fr_bX5_readExpr _ (by assumption) _ _ _).to (by assumption) (by decide) (by decide)
      | with_reducible exact (fr_bX5_readPart _ (by assumption) _ _ _).to (by assumption) (by decide) (by decide)
      | with_reducible exact (fr_bX5_readTerm _ (by assumption) _ _ _).to (by assumption) (by decide) (by decide)
      | with_reducible exact (ih _ _ _ _).to (by assumption) (fun _ h => h) (fun _ h => h)
theorem fr_mX5_readExpr (S0 : St) (a1 : Int) (a2 : Int) : Fr [14, 15, 16, 17, 18, 19, 20] [(12, 1), (12, 2), (12, 6), (12, 7), (12, 8), (12, 9), (13, 3)] (fun o : St => o) S0 (mX5_readExpr S0 a1 a2) := by
  unfold mX5_readExpr
  have hS : kept [14, 15, 16, 17, 18, 19, 20] [(12, 1), (12, 2), (12, 6), (12, 7), (12, 8), (12, 9), (13, 3)] S0 S0 := kept.rf
  repeat' first
    | with_reducible exact Fr_none
    | (with_reducible refine Fr_some ?_; assumption)
    | with_reducible refine Fr_gd ?_
    | with_reducible refine Fr_if ?_ ?_
    | with_reducible refine Fr_nxS (kept.upF (by assumption) (by decide)) (fun _ _ => ?_)
    | with_reducible refine Fr_nxS (kept.upA (by assumption) (by decide)) (fun _ _ => ?_)
    | with_reducible refine Fr_nxI (fun _ => ?_)
    | with_reducible refine Fr_bdS2 ?_ (fun _ _ _ => ?_)
    | with_reducible refine Fr_bdI2 (fun _ _ => ?_)
    | with_reducible exact (fr_RX5_readExpr _ _ _ _ _).to (by assumption) (by decide) (by decide)
theorem fr_mX5_readPart (S0 : St) (a1 : Int) (a2 : Int) : Fr [14, 15, 16, 17, 18, 19, 20] [(12, 1), (12, 2), (12, 6), (12, 7), (12, 8), (12, 9), (13, 3)] (fun o : Int × St => o.2) S0 (mX5_readPart S0 a1 a2) := by
  unfold mX5_readPart
  have hS : kept [14, 15, 16, 17, 18, 19, 20] [(12, 1), (12, 2), (12, 6), (12, 7), (12, 8), (12, 9), (13, 3)] S0 S0 := kept.rf
  repeat' first
    | with_reducible exact Fr_none
    | (with_reducible refine Fr_some ?_; assumption)
    | with_reducible refine Fr_gd ?_
    | with_reducible refine Fr_if ?_ ?_
    | with_reducible refine Fr_nxS (kept.upF (by assumption) (by decide)) (fun _ _ => ?_)
    | with_reducible refine Fr_nxS (kept.upA (by assumption) (by decide)) (fun _ _ => ?_)
    | with_reducible refine Fr_nxI (fun _ => ?_)
    | with_reducible exact (fr_RX5_readExpr _ _ _ _ _).to (by assumption) (by decide) (by decide)
theorem fr_mX5_readTerm (S0 : St) (a1 : Int) (a2 : Int) : Fr [14, 15, 16, 17, 18, 19, 20] [(12, 1), (12, 2), (12, 6), (12, 7), (12, 8), (12, 9), (13, 3)] (fun o : Int × St => o.2) S0 (mX5_readTerm S0 a1 a2) := by
  unfold mX5_readTerm
  have hS : kept [14, 15, 16, 17, 18, 19, 20] [(12, 1), (12, 2), (12, 6), (12, 7), (12, 8), (12, 9), (13, 3)] S0 S0 := kept.rf
  repeat' first
    | with_reducible exact Fr_none
    | (with_reducible refine Fr_some ?_; assumption)
    | with_reducible refine Fr_gd ?_
    | with_reducible refine Fr_if ?_ ?_
    | with_reducible refine Fr_nxS (kept.upF (by assumption) (by decide)) (fun _ _ => ?_)
    | with_reducible refine Fr_nxS (kept.upA (by assumption) (by decide)) (fun _ _ => ?_)
    | with_reducible refine Fr_nxI (fun _ => ?_)
    | with_reducible exact (fr_RX5_readExpr _ _ _ _ _).to (by assumption) (by decide) (by decide)
theorem fr_mX5_readLine (S0 : St) : Fr [14, 15, 16, 17, 18, 19, 20] [(12, 1), (12, 2), (12, 6), (12, 7), (12, 8), (12, 9), (12, 10), (13, 2), (13, 3)] (fun o : St => o) S0 (mX5_readLine S0) := by
  unfold mX5_readLine
  have hS : kept [14, 15, 16, 17, 18, 19, 20] [(12, 1), (12, 2), (12, 6), (12, 7), (12, 8), (12, 9), (12, 10), (13, 2), (13, 3)] S0 S0 := kept.rf
  repeat' first
    | with_reducible exact Fr_none
    | (with_reducible refine Fr_some ?_; assumption)
    | with_reducible refine Fr_gd ?_
    | with_reducible refine Fr_if ?_ ?_
    | with_reducible refine Fr_nxS (kept.upF (by assumption) (by decide)) (fun _ _ => ?_)
    | with_reducible refine Fr_nxS (kept.upA (by assumption) (by decide)) (fun _ _ => ?_)
    | with_reducible refine Fr_nxI (fun _ => ?_)
    | with_reducible refine Fr_bdS1 ?_ (fun _ _ => ?_)
    | with_reducible refine Fr_bdI1 (fun _ => ?_)
    | with_reducible exact (fr_mX5_refuse _ _).to (by assumption) (by decide) (by decide)
    | with_reducible exact (fr_mX5_advance _).to (by assumption) (by decide) (by decide)
    | with_reducible exact (fr_mX5_expectSign _ _).to (by assumption) (by decide) (by decide)
    | with_reducible exact (fr_mX5_readExpr _ _ _).to (by assumption) (by decide) (by decide)
theorem fr_mX3_findEmpty_26_86 (x_17 : Int) (x_16 : Int) (v_3 : Int) : ∀ (f : Nat) (v1 : Int) (v2 : St), Fr [] [(26, 2)] (fun o : St => o) v2 (mX3_findEmpty_26_86 x_17 x_16 v_3 f v1 v2) := by
  intro f
  induction f with
  | zero => intros; rw [mX3_findEmpty_26_86]; exact Fr_none
  | succ f ih =>
    intro v1 v2
    rw [mX3_findEmpty_26_86]
    have hS : kept [] [(26, 2)] v2 v2 := kept.rf
    repeat' first
      | with_reducible exact Fr_none
      | (with_reducible refine Fr_some ?_; assumption)
      | with_reducible refine Fr_gd ?_
      | with_reducible refine Fr_if ?_ ?_
      | with_reducible refine Fr_nxS (kept.upF (by assumption) (by decide)) (fun _ _ => ?_)
      | with_reducible refine Fr_nxS (kept.upA (by assumption) (by decide)) (fun _ _ => ?_)
      | with_reducible refine Fr_nxI (fun _ => ?_)
      | with_reducible refine Fr_bdS1 ?_ (fun _ _ => ?_)
      | with_reducible refine Fr_bdI1 (fun _ => ?_)
      | with_reducible exact (ih _ _).to (by assumption) (fun _ h => h) (fun _ h => h)
theorem fr_mX3_findEmpty_26_46 (x_17 : Int) (x_16 : Int) (v_3 : Int) : ∀ (f : Nat) (v1 : Int) (v2 : St), Fr [] [(26, 1)] (fun o : St => o) v2 (mX3_findEmpty_26_46 x_17 x_16 v_3 f v1 v2) := by
  intro f
  induction f with
  | zero => intros; rw [mX3_findEmpty_26_46]; exact Fr_none
  | succ f ih =>
    intro v1 v2
    rw [mX3_findEmpty_26_46]
    have hS : kept [] [(26, 1)] v2 v2 := kept.rf
    repeat' first
      | with_reducible exact Fr_none
      | (with_reducible refine Fr_some ?_; assumption)
      | with_reducible refine Fr_gd ?_
      | with_reducible refine Fr_if ?_ ?_
      | with_reducible refine Fr_nxS (kept.upF (by assumption) (by decide)) (fun _ _ => ?_)
      | with_reducible refine Fr_nxS (kept.upA (by assumption) (by decide)) (fun _ _ => ?_)
      | with_reducible refine Fr_nxI (fun _ => ?_)
      | with_reducible refine Fr_bdS1 ?_ (fun _ _ => ?_)
      | with_reducible refine Fr_bdI1 (fun _ => ?_)
      | with_reducible exact (ih _ _).to (by assumption) (fun _ h => h) (fun _ h => h)
theorem fr_mX3_findEmpty_26_14  : ∀ (f : Nat) (v1 : Int) (v2 : Int) (v3 : St), Fr [] [(26, 1), (26, 2)] (fun o : St => o) v3 (mX3_findEmpty_26_14  f v1 v2 v3) := by
  intro f
  induction f with
  | zero => intros; rw [mX3_findEmpty_26_14]; exact Fr_none
  | succ f ih =>
    intro v1 v2 v3
    rw [mX3_findEmpty_26_14]
    have hS : kept [] [(26, 1), (26, 2)] v3 v3 := kept.rf
    repeat' first
      | with_reducible exact Fr_none
      | (with_reducible refine Fr_some ?_; assumption)
      | with_reducible refine Fr_gd ?_
      | with_reducible refine Fr_if ?_ ?_
      | with_reducible refine Fr_nxS (kept.upF (by assumption) (by decide)) (fun _ _ => ?_)
      | with_reducible refine Fr_nxS (kept.upA (by assumption) (by decide)) (fun _ _ => ?_)
      | with_reducible refine Fr_nxI (fun _ => ?_)
      | with_reducible refine Fr_bdS1 ?_ (fun _ _ => ?_)
      | with_reducible refine Fr_bdI1 (fun _ => ?_)
      | with_reducible exact (fr_mX3_findEmpty_26_46 _ _ _ _ _ _).to (by assumption) (by decide) (by decide)
      | with_reducible exact (fr_mX3_findEmpty_26_86 _ _ _ _ _ _).to (by assumption) (by decide) (by decide)
      | with_reducible exact (ih _ _ _).to (by assumption) (fun _ h => h) (fun _ h => h)
theorem fr_mX3_findEmpty_26 (S0 : St) : Fr [] [(26, 1), (26, 2)] (fun o : St => o) S0 (mX3_findEmpty_26 S0) := by
  unfold mX3_findEmpty_26
  have hS : kept [] [(26, 1), (26, 2)] S0 S0 := kept.rf
  repeat' first
    | with_reducible exact Fr_none
    | (with_reducible refine Fr_some ?_; assumption)
    | with_reducible refine Fr_gd ?_
    | with_reducible refine Fr_if ?_ ?_
    | with_reducible refine Fr_nxS (kept.upF (by assumption) (by decide)) (fun _ _ => ?_)
    | with_reducible refine Fr_nxS (kept.upA (by assumption) (by decide)) (fun _ _ => ?_)
    | with_reducible refine Fr_nxI (fun _ => ?_)
    | with_reducible refine Fr_bdS1 ?_ (fun _ _ => ?_)
    | with_reducible refine Fr_bdI1 (fun _ => ?_)
    | with_reducible exact (fr_mX3_findEmpty_26_14 _ _ _ _).to (by assumption) (by decide) (by decide)
theorem fr_mX3_studyPart_26 (S0 : St) (a1 : Int) : Fr [27, 28, 29] [] (fun o : St => o) S0 (mX3_studyPart_26 S0 a1) := by
  unfold mX3_studyPart_26
  have hS : kept [27, 28, 29] [] S0 S0 := kept.rf
  repeat' first
    | with_reducible exact Fr_none
    | (with_reducible refine Fr_some ?_; assumption)
    | with_reducible refine Fr_gd ?_
    | with_reducible refine Fr_if ?_ ?_
    | with_reducible refine Fr_nxS (kept.upF (by assumption) (by decide)) (fun _ _ => ?_)
    | with_reducible refine Fr_nxS (kept.upA (by assumption) (by decide)) (fun _ _ => ?_)
    | with_reducible refine Fr_nxI (fun _ => ?_)
    | with_reducible refine Fr_bdS1 ?_ (fun _ _ => ?_)
    | with_reducible refine Fr_bdI1 (fun _ => ?_)
theorem fr_mX3_study_26_31  : ∀ (f : Nat) (v1 : Int) (v2 : St), Fr [30, 31, 32] [] (fun o : St => o) v2 (mX3_study_26_31  f v1 v2) := by
  intro f
  induction f with
  | zero => intros; rw [mX3_study_26_31]; exact Fr_none
  | succ f ih =>
    intro v1 v2
    rw [mX3_study_26_31]
    have hS : kept [30, 31, 32] [] v2 v2 := kept.rf
    repeat' first
      | with_reducible exact Fr_none
      | (with_reducible refine Fr_some ?_; assumption)
      | with_reducible refine Fr_gd ?_
      | with_reducible refine Fr_if ?_ ?_
      | with_reducible refine Fr_nxS (kept.upF (by assumption) (by decide)) (fun _ _ => ?_)
      | with_reducible refine Fr_nxS (kept.upA (by assumption) (by decide)) (fun _ _ => ?_)
      | with_reducible refine Fr_nxI (fun _ => ?_)
      | with_reducible refine Fr_bdS1 ?_ (fun _ _ => ?_)
      | with_reducible refine Fr_bdI1 (fun _ => ?_)
      | with_reducible exact (ih _ _).to (by assumption) (fun _ h => h) (fun _ h => h)
theorem fr_mX3_study_26_14  : ∀ (f : Nat) (v1 : Int) (v2 : St), Fr [27, 28, 29] [] (fun o : St => o) v2 (mX3_study_26_14  f v1 v2) := by
  intro f
  induction f with
  | zero => intros; rw [mX3_study_26_14]; exact Fr_none
  | succ f ih =>
    intro v1 v2
    rw [mX3_study_26_14]
    have hS : kept [27, 28, 29] [] v2 v2 := kept.rf
    repeat' first
      | with_reducible exact Fr_none
      | (with_reducible refine Fr_some ?_; assumption)
      | with_reducible refine Fr_gd ?_
      | with_reducible refine Fr_if ?_ ?_
      | with_reducible refine Fr_nxS (kept.upF (by assumption) (by decide)) (fun _ _ => ?_)
      | with_reducible refine Fr_nxS (kept.upA (by assumption) (by decide)) (fun _ _ => ?_)
      | with_reducible refine Fr_nxI (fun _ => ?_)
      | with_reducible refine Fr_bdS1 ?_ (fun _ _ => ?_)
      | with_reducible refine Fr_bdI1 (fun _ => ?_)
      | with_reducible exact (fr_mX3_studyPart_26 _ _).to (by assumption) (by decide) (by decide)
      | with_reducible exact (ih _ _).to (by assumption) (fun _ h => h) (fun _ h => h)
theorem fr_mX3_study_26 (S0 : St) : Fr [27, 28, 29, 30, 31, 32] [(26, 1), (26, 2)] (fun o : St => o) S0 (mX3_study_26 S0) := by
  unfold mX3_study_26
  have hS : kept [27, 28, 29, 30, 31, 32] [(26, 1), (26, 2)] S0 S0 := kept.rf
  repeat' first
    | with_reducible exact Fr_none
    | (with_reducible refine Fr_some ?_; assumption)
    | with_reducible refine Fr_gd ?_
    | with_reducible refine Fr_if ?_ ?_
    | with_reducible refine Fr_nxS (kept.upF (by assumption) (by decide)) (fun _ _ => ?_)
    | with_reducible refine Fr_nxS (kept.upA (by assumption) (by decide)) (fun _ _ => ?_)
    | with_reducible refine Fr_nxI (fun _ => ?_)
    | with_reducible refine Fr_bdS1 ?_ (fun _ _ => ?_)
    | with_reducible refine Fr_bdI1 (fun _ => ?_)
    | with_reducible exact (fr_mX3_findEmpty_26 _).to (by assumption) (by decide) (by decide)
    | with_reducible exact (fr_mX3_study_26_14 _ _ _).to (by assumption) (by decide) (by decide)
    | with_reducible exact (fr_mX3_study_26_31 _ _ _).to (by assumption) (by decide) (by decide)
theorem fr_mX5_refuseMeaningless_2  : ∀ (f : Nat) (v1 : Int) (v2 : St), Fr [] [(12, 1), (12, 2)] (fun o : St => o) v2 (mX5_refuseMeaningless_2  f v1 v2) := by
  intro f
  induction f with
  | zero => intros; rw [mX5_refuseMeaningless_2]; exact Fr_none
  | succ f ih =>
    intro v1 v2
    rw [mX5_refuseMeaningless_2]
    have hS : kept [] [(12, 1), (12, 2)] v2 v2 := kept.rf
    repeat' first
      | with_reducible exact Fr_none
      | (with_reducible refine Fr_some ?_; assumption)
      | with_reducible refine Fr_gd ?_
      | with_reducible refine Fr_if ?_ ?_
      | with_reducible refine Fr_nxS (kept.upF (by assumption) (by decide)) (fun _ _ => ?_)
      | with_reducible refine Fr_nxS (kept.upA (by assumption) (by decide)) (fun _ _ => ?_)
      | with_reducible refine Fr_nxI (fun _ => ?_)
      | with_reducible refine Fr_bdS1 ?_ (fun _ _ => ?_)
      | with_reducible refine Fr_bdI1 (fun _ => ?_)
      | with_reducible exact (ih _ _).to (by assumption) (fun _ h => h) (fun _ h => h)
theorem fr_mX5_refuseMeaningless (S0 : St) : Fr [] [(12, 1), (12, 2)] (fun o : St => o) S0 (mX5_refuseMeaningless S0) := by
  unfold mX5_refuseMeaningless
  have hS : kept [] [(12, 1), (12, 2)] S0 S0 := kept.rf
  repeat' first
    | with_reducible exact Fr_none
    | (with_reducible refine Fr_some ?_; assumption)
    | with_reducible refine Fr_gd ?_
    | with_reducible refine Fr_if ?_ ?_
    | with_reducible refine Fr_nxS (kept.upF (by assumption) (by decide)) (fun _ _ => ?_)
    | with_reducible refine Fr_nxS (kept.upA (by assumption) (by decide)) (fun _ _ => ?_)
    | with_reducible refine Fr_nxI (fun _ => ?_)
    | with_reducible refine Fr_bdS1 ?_ (fun _ _ => ?_)
    | with_reducible refine Fr_bdI1 (fun _ => ?_)
    | with_reducible exact (fr_mX5_refuseMeaningless_2 _ _ _).to (by assumption) (by decide) (by decide)
theorem fr_mX3_layOrder_26_44 (v_2 : Int) : ∀ (f : Nat) (v1 : Int) (v2 : Int) (v3 : Int) (v4 : St), Fr [22] [(13, 4)] (fun o : Int × Int × St => o.2.2) v4 (mX3_layOrder_26_44 v_2 f v1 v2 v3 v4) := by
  intro f
  induction f with
  | zero => intros; rw [mX3_layOrder_26_44]; exact Fr_none
  | succ f ih =>
    intro v1 v2 v3 v4
    rw [mX3_layOrder_26_44]
    have hS : kept [22] [(13, 4)] v4 v4 := kept.rf
    repeat' first
      | with_reducible exact Fr_none
      | (with_reducible refine Fr_some ?_; assumption)
      | with_reducible refine Fr_gd ?_
      | with_reducible refine Fr_if ?_ ?_
      | with_reducible refine Fr_nxS (kept.upF (by assumption) (by decide)) (fun _ _ => ?_)
      | with_reducible refine Fr_nxS (kept.upA (by assumption) (by decide)) (fun _ _ => ?_)
      | with_reducible refine Fr_nxI (fun _ => ?_)
      | with_reducible refine Fr_bdS1 ?_ (fun _ _ => ?_)
      | with_reducible refine Fr_bdI1 (fun _ => ?_)
      | with_reducible exact (ih _ _ _ _).to (by assumption) (fun _ h => h) (fun _ h => h)
theorem fr_mX3_layOrder_26_15  : ∀ (f : Nat) (v1 : Int) (v2 : Int) (v3 : Int) (v4 : St), Fr [22] [(13, 4)] (fun o : St => o) v4 (mX3_layOrder_26_15  f v1 v2 v3 v4) := by
  intro f
  induction f with
  | zero => intros; rw [mX3_layOrder_26_15]; exact Fr_none
  | succ f ih =>
    intro v1 v2 v3 v4
    rw [mX3_layOrder_26_15]
    have hS : kept [22] [(13, 4)] v4 v4 := kept.rf
    repeat' first
      | with_reducible exact Fr_none
      | (with_reducible refine Fr_some ?_; assumption)
      | with_reducible refine Fr_gd ?_
      | with_reducible refine Fr_if ?_ ?_
      | with_reducible refine Fr_nxS (kept.upF (by assumption) (by decide)) (fun _ _ => ?_)
      | with_reducible refine Fr_nxS (kept.upA (by assumption) (by decide)) (fun _ _ => ?_)
      | with_reducible refine Fr_nxI (fun _ => ?_)
      | with_reducible refine Fr_bdS3 ?_ (fun _ _ _ _ => ?_)
      | with_reducible refine Fr_bdI3 (fun _ _ _ => ?_)
      | with_reducible exact (fr_mX3_layOrder_26_44 _ _ _ _ _ _).to (by assumption) (by decide) (by decide)
      | with_reducible exact (ih _ _ _ _).to (by assumption) (fun _ h => h) (fun _ h => h)
