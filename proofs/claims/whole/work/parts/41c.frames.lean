theorem fr_mX12_boxed (S0 : St) (a1 : Int) (a2 : Int) (a3 : Int) : Fr [90, 91, 92] [] (fun o : Int × St => o.2) S0 (mX12_boxed S0 a1 a2 a3) := by
  unfold mX12_boxed
  have hS : kept [90, 91, 92] [] S0 S0 := kept.rf
  repeat' first
    | with_reducible exact Fr_none
    | (with_reducible refine Fr_some ?_; assumption)
    | with_reducible refine Fr_gd ?_
    | with_reducible refine Fr_if ?_ ?_
    | with_reducible refine Fr_nxS (kept.upF (by assumption) (by decide)) (fun _ _ => ?_)
    | with_reducible refine Fr_nxS (kept.upA (by assumption) (by decide)) (fun _ _ => ?_)
    | with_reducible refine Fr_nxI (fun _ => ?_)
    | with_reducible refine Fr_bdS1 ?_ (fun _ _ => ?_)
    | with_reducible refine Fr_bdI1 (fun _ => ?_)
    | with_reducible exact (fr_mX12_counts _ _).to (by assumption) (by decide) (by decide)
theorem fr_mX12_inBox (S0 : St) (a1 : Int) (a2 : Int) (a3 : Int) (a4 : Int) : Fr [90, 91, 92] [] (fun o : Int × St => o.2) S0 (mX12_inBox S0 a1 a2 a3 a4) := by
  unfold mX12_inBox
  have hS : kept [90, 91, 92] [] S0 S0 := kept.rf
  repeat' first
    | with_reducible exact Fr_none
    | (with_reducible refine Fr_some ?_; assumption)
    | with_reducible refine Fr_gd ?_
    | with_reducible refine Fr_if ?_ ?_
    | with_reducible refine Fr_nxS (kept.upF (by assumption) (by decide)) (fun _ _ => ?_)
    | with_reducible refine Fr_nxS (kept.upA (by assumption) (by decide)) (fun _ _ => ?_)
    | with_reducible refine Fr_nxI (fun _ => ?_)
    | with_reducible refine Fr_bdS1 ?_ (fun _ _ => ?_)
    | with_reducible refine Fr_bdI1 (fun _ => ?_)
    | with_reducible exact (fr_mX12_counts _ _).to (by assumption) (by decide) (by decide)
theorem fr_mX12_bits (S0 : St) (a1 : Int) (a2 : Int) (a3 : Int) : Fr [90, 91, 92] [] (fun o : Int × St => o.2) S0 (mX12_bits S0 a1 a2 a3) := by
  unfold mX12_bits
  have hS : kept [90, 91, 92] [] S0 S0 := kept.rf
  repeat' first
    | with_reducible exact Fr_none
    | (with_reducible refine Fr_some ?_; assumption)
    | with_reducible refine Fr_gd ?_
    | with_reducible refine Fr_if ?_ ?_
    | with_reducible refine Fr_nxS (kept.upF (by assumption) (by decide)) (fun _ _ => ?_)
    | with_reducible refine Fr_nxS (kept.upA (by assumption) (by decide)) (fun _ _ => ?_)
    | with_reducible refine Fr_nxI (fun _ => ?_)
    | with_reducible refine Fr_bdS1 ?_ (fun _ _ => ?_)
    | with_reducible refine Fr_bdI1 (fun _ => ?_)
    | with_reducible refine Fr_bdS2 ?_ (fun _ _ _ => ?_)
    | with_reducible refine Fr_bdI2 (fun _ _ => ?_)
    | with_reducible exact (fr_mX12_inBox _ _ _ _ _).to (by assumption) (by decide) (by decide)
theorem fr_mX12_rankIn (S0 : St) (a1 : Int) (a2 : Int) (a3 : Int) : Fr [] [(83, 44)] (fun o : Int × St => o.2) S0 (mX12_rankIn S0 a1 a2 a3) := by
  unfold mX12_rankIn
  have hS : kept [] [(83, 44)] S0 S0 := kept.rf
  repeat' first
    | with_reducible exact Fr_none
    | (with_reducible refine Fr_some ?_; assumption)
    | with_reducible refine Fr_gd ?_
    | with_reducible refine Fr_if ?_ ?_
    | with_reducible refine Fr_nxS (kept.upF (by assumption) (by decide)) (fun _ _ => ?_)
    | with_reducible refine Fr_nxS (kept.upA (by assumption) (by decide)) (fun _ _ => ?_)
    | with_reducible refine Fr_nxI (fun _ => ?_)
    | with_reducible refine Fr_bdS2 ?_ (fun _ _ _ => ?_)
    | with_reducible refine Fr_bdI2 (fun _ _ => ?_)
theorem fr_mX12_drawn (S0 : St) (a1 : Int) (a2 : Int) (a3 : Int) (a4 : Int) (a5 : Int) : Fr [90, 91, 92] [(83, 44)] (fun o : Int × St => o.2) S0 (mX12_drawn S0 a1 a2 a3 a4 a5) := by
  unfold mX12_drawn
  have hS : kept [90, 91, 92] [(83, 44)] S0 S0 := kept.rf
  repeat' first
    | with_reducible exact Fr_none
    | (with_reducible refine Fr_some ?_; assumption)
    | with_reducible refine Fr_gd ?_
    | with_reducible refine Fr_if ?_ ?_
    | with_reducible refine Fr_nxS (kept.upF (by assumption) (by decide)) (fun _ _ => ?_)
    | with_reducible refine Fr_nxS (kept.upA (by assumption) (by decide)) (fun _ _ => ?_)
    | with_reducible refine Fr_nxI (fun _ => ?_)
    | with_reducible refine Fr_bdS1 ?_ (fun _ _ => ?_)
    | with_reducible refine Fr_bdI1 (fun _ => ?_)
    | with_reducible refine Fr_bdS2 ?_ (fun _ _ _ => ?_)
    | with_reducible refine Fr_bdI2 (fun _ _ => ?_)
    | with_reducible exact (fr_mX12_inBox _ _ _ _ _).to (by assumption) (by decide) (by decide)
    | with_reducible exact (fr_mX12_rankIn _ _ _ _).to (by assumption) (by decide) (by decide)
theorem fr_mX12_deal (S0 : St) (a1 : Int) (a2 : Int) (a3 : Int) (a4 : Int) : Fr [90, 91, 92] [(83, 45), (83, 46), (83, 47), (83, 48), (83, 49), (83, 50), (83, 51)] (fun o : Int × St => o.2) S0 (mX12_deal S0 a1 a2 a3 a4) := by
  unfold mX12_deal
  have hS : kept [90, 91, 92] [(83, 45), (83, 46), (83, 47), (83, 48), (83, 49), (83, 50), (83, 51)] S0 S0 := kept.rf
  repeat' first
    | with_reducible exact Fr_none
    | (with_reducible refine Fr_some ?_; assumption)
    | with_reducible refine Fr_gd ?_
    | with_reducible refine Fr_if ?_ ?_
    | with_reducible refine Fr_nxS (kept.upF (by assumption) (by decide)) (fun _ _ => ?_)
    | with_reducible refine Fr_nxS (kept.upA (by assumption) (by decide)) (fun _ _ => ?_)
    | with_reducible refine Fr_nxI (fun _ => ?_)
    | with_reducible refine Fr_bdS1 ?_ (fun _ _ => ?_)
    | with_reducible refine Fr_bdI1 (fun _ => ?_)
    | with_reducible refine Fr_bdS2 ?_ (fun _ _ _ => ?_)
    | with_reducible refine Fr_bdI2 (fun _ _ => ?_)
    | with_reducible exact (fr_mX12_inBox _ _ _ _ _).to (by assumption) (by decide) (by decide)
theorem fr_mX12_dealt_16  : ∀ (f : Nat) (v1 : St), Fr [] [(83, 51)] (fun o : St => o) v1 (mX12_dealt_16  f v1) := by
  intro f
  induction f with
  | zero => intros; rw [mX12_dealt_16]; exact Fr_none
  | succ f ih =>
    intro v1
    rw [mX12_dealt_16]
    have hS : kept [] [(83, 51)] v1 v1 := kept.rf
    repeat' first
      | with_reducible exact Fr_none
      | (with_reducible refine Fr_some ?_; assumption)
      | with_reducible refine Fr_gd ?_
      | with_reducible refine Fr_if ?_ ?_
      | with_reducible refine Fr_nxS (kept.upF (by assumption) (by decide)) (fun _ _ => ?_)
      | with_reducible refine Fr_nxS (kept.upA (by assumption) (by decide)) (fun _ _ => ?_)
      | with_reducible refine Fr_nxI (fun _ => ?_)
      | with_reducible exact (ih _).to (by assumption) (fun _ h => h) (fun _ h => h)
theorem fr_mX12_dealt (S0 : St) : Fr [90, 91, 92] [(83, 44), (83, 49), (83, 51)] (fun o : Int × St => o.2) S0 (mX12_dealt S0) := by
  unfold mX12_dealt
  have hS : kept [90, 91, 92] [(83, 44), (83, 49), (83, 51)] S0 S0 := kept.rf
  repeat' first
    | with_reducible exact Fr_none
    | (with_reducible refine Fr_some ?_; assumption)
    | with_reducible refine Fr_gd ?_
    | with_reducible refine Fr_if ?_ ?_
    | with_reducible refine Fr_nxS (kept.upF (by assumption) (by decide)) (fun _ _ => ?_)
    | with_reducible refine Fr_nxS (kept.upA (by assumption) (by decide)) (fun _ _ => ?_)
    | with_reducible refine Fr_nxI (fun _ => ?_)
    | with_reducible refine Fr_bdS1 ?_ (fun _ _ => ?_)
    | with_reducible refine Fr_bdI1 (fun _ => ?_)
    | with_reducible refine Fr_bdS2 ?_ (fun _ _ _ => ?_)
    | with_reducible refine Fr_bdI2 (fun _ _ => ?_)
    | with_reducible exact (fr_mX12_dealt_16 _ _).to (by assumption) (by decide) (by decide)
    | with_reducible exact (fr_mX12_counts _ _).to (by assumption) (by decide) (by decide)
    | with_reducible exact (fr_mX12_rankIn _ _ _ _).to (by assumption) (by decide) (by decide)
theorem fr_mX12_takes (S0 : St) (a1 : Int) (a2 : Int) : Fr [84] [(83, 45)] (fun o : Int × St => o.2) S0 (mX12_takes S0 a1 a2) := by
  unfold mX12_takes
  have hS : kept [84] [(83, 45)] S0 S0 := kept.rf
  repeat' first
    | with_reducible exact Fr_none
    | (with_reducible refine Fr_some ?_; assumption)
    | with_reducible refine Fr_gd ?_
    | with_reducible refine Fr_if ?_ ?_
    | with_reducible refine Fr_nxS (kept.upF (by assumption) (by decide)) (fun _ _ => ?_)
    | with_reducible refine Fr_nxS (kept.upA (by assumption) (by decide)) (fun _ _ => ?_)
    | with_reducible refine Fr_nxI (fun _ => ?_)
    | with_reducible refine Fr_bdS1 ?_ (fun _ _ => ?_)
    | with_reducible refine Fr_bdI1 (fun _ => ?_)
theorem fr_mX12_takesBack (S0 : St) : Fr [84] [(83, 45)] (fun o : St => o) S0 (mX12_takesBack S0) := by
  unfold mX12_takesBack
  have hS : kept [84] [(83, 45)] S0 S0 := kept.rf
  repeat' first
    | with_reducible exact Fr_none
    | (with_reducible refine Fr_some ?_; assumption)
    | with_reducible refine Fr_gd ?_
    | with_reducible refine Fr_if ?_ ?_
    | with_reducible refine Fr_nxS (kept.upF (by assumption) (by decide)) (fun _ _ => ?_)
    | with_reducible refine Fr_nxS (kept.upA (by assumption) (by decide)) (fun _ _ => ?_)
    | with_reducible refine Fr_nxI (fun _ => ?_)
theorem fr_mX12_undo (S0 : St) : Fr [84] [(83, 45)] (fun o : Int × St => o.2) S0 (mX12_undo S0) := by
  unfold mX12_undo
  have hS : kept [84] [(83, 45)] S0 S0 := kept.rf
  repeat' first
    | with_reducible exact Fr_none
    | (with_reducible refine Fr_some ?_; assumption)
    | with_reducible refine Fr_gd ?_
    | with_reducible refine Fr_if ?_ ?_
    | with_reducible refine Fr_nxS (kept.upF (by assumption) (by decide)) (fun _ _ => ?_)
    | with_reducible refine Fr_nxS (kept.upA (by assumption) (by decide)) (fun _ _ => ?_)
    | with_reducible refine Fr_nxI (fun _ => ?_)
    | with_reducible refine Fr_bdS1 ?_ (fun _ _ => ?_)
    | with_reducible refine Fr_bdI1 (fun _ => ?_)
    | with_reducible exact (fr_mX12_takesBack _).to (by assumption) (by decide) (by decide)
theorem fr_mX12_anew_19 (x_3 : Int) : ∀ (f : Nat) (v1 : St), Fr [84] [(83, 45)] (fun o : St => o) v1 (mX12_anew_19 x_3 f v1) := by
  intro f
  induction f with
  | zero => intros; rw [mX12_anew_19]; exact Fr_none
  | succ f ih =>
    intro v1
    rw [mX12_anew_19]
    have hS : kept [84] [(83, 45)] v1 v1 := kept.rf
    repeat' first
      | with_reducible exact Fr_none
      | (with_reducible refine Fr_some ?_; assumption)
      | with_reducible refine Fr_gd ?_
      | with_reducible refine Fr_if ?_ ?_
      | with_reducible refine Fr_nxS (kept.upF (by assumption) (by decide)) (fun _ _ => ?_)
      | with_reducible refine Fr_nxS (kept.upA (by assumption) (by decide)) (fun _ _ => ?_)
      | with_reducible refine Fr_nxI (fun _ => ?_)
      | with_reducible refine Fr_bdS1 ?_ (fun _ _ => ?_)
      | with_reducible refine Fr_bdI1 (fun _ => ?_)
      | with_reducible exact (fr_mX12_takesBack _).to (by assumption) (by decide) (by decide)
      | with_reducible exact (ih _).to (by assumption) (fun _ h => h) (fun _ h => h)
theorem fr_mX12_anew (S0 : St) : Fr [84] [(83, 45)] (fun o : Int × St => o.2) S0 (mX12_anew S0) := by
  unfold mX12_anew
  have hS : kept [84] [(83, 45)] S0 S0 := kept.rf
  repeat' first
    | with_reducible exact Fr_none
    | (with_reducible refine Fr_some ?_; assumption)
    | with_reducible refine Fr_gd ?_
    | with_reducible refine Fr_if ?_ ?_
    | with_reducible refine Fr_nxS (kept.upF (by assumption) (by decide)) (fun _ _ => ?_)
    | with_reducible refine Fr_nxS (kept.upA (by assumption) (by decide)) (fun _ _ => ?_)
    | with_reducible refine Fr_nxI (fun _ => ?_)
    | with_reducible refine Fr_bdS1 ?_ (fun _ _ => ?_)
    | with_reducible refine Fr_bdI1 (fun _ => ?_)
    | with_reducible exact (fr_mX12_anew_19 _ _ _).to (by assumption) (by decide) (by decide)
theorem fr_mX12_wrongKind (S0 : St) : Fr [89] [] (fun o : Int × St => o.2) S0 (mX12_wrongKind S0) := by
  unfold mX12_wrongKind
  have hS : kept [89] [] S0 S0 := kept.rf
  repeat' first
    | with_reducible exact Fr_none
    | (with_reducible refine Fr_some ?_; assumption)
    | with_reducible refine Fr_gd ?_
    | with_reducible refine Fr_if ?_ ?_
    | with_reducible refine Fr_nxS (kept.upF (by assumption) (by decide)) (fun _ _ => ?_)
    | with_reducible refine Fr_nxS (kept.upA (by assumption) (by decide)) (fun _ _ => ?_)
    | with_reducible refine Fr_nxI (fun _ => ?_)
    | with_reducible refine Fr_bdS1 ?_ (fun _ _ => ?_)
    | with_reducible refine Fr_bdI1 (fun _ => ?_)
    | with_reducible refine Fr_bdS2 ?_ (fun _ _ _ => ?_)
    | with_reducible refine Fr_bdI2 (fun _ _ => ?_)
    | with_reducible exact (fr_mX12_empties _).to (by assumption) (by decide) (by decide)
theorem fr_mX12_leans (S0 : St) (a1 : Int) : Fr [89] [] (fun o : Int × St => o.2) S0 (mX12_leans S0 a1) := by
  unfold mX12_leans
  have hS : kept [89] [] S0 S0 := kept.rf
  repeat' first
    | with_reducible exact Fr_none
    | (with_reducible refine Fr_some ?_; assumption)
    | with_reducible refine Fr_gd ?_
    | with_reducible refine Fr_if ?_ ?_
    | with_reducible refine Fr_nxS (kept.upF (by assumption) (by decide)) (fun _ _ => ?_)
    | with_reducible refine Fr_nxS (kept.upA (by assumption) (by decide)) (fun _ _ => ?_)
    | with_reducible refine Fr_nxI (fun _ => ?_)
    | with_reducible refine Fr_bdS1 ?_ (fun _ _ => ?_)
    | with_reducible refine Fr_bdI1 (fun _ => ?_)
    | with_reducible exact (fr_mX12_empties _).to (by assumption) (by decide) (by decide)
theorem fr_mX12_findsRow_53 (r_13 : Int) (v_2 : Int) (a1 : Int) : ∀ (f : Nat) (v1 : Int) (v2 : Int) (v3 : St), Fr [] [(83, 32)] (fun o : Int × St => o.2) v3 (mX12_findsRow_53 r_13 v_2 a1 f v1 v2 v3) := by
  intro f
  induction f with
  | zero => intros; rw [mX12_findsRow_53]; exact Fr_none
  | succ f ih =>
    intro v1 v2 v3
    rw [mX12_findsRow_53]
    have hS : kept [] [(83, 32)] v3 v3 := kept.rf
    repeat' first
      | with_reducible exact Fr_none
      | (with_reducible refine Fr_some ?_; assumption)
      | with_reducible refine Fr_gd ?_
      | with_reducible refine Fr_if ?_ ?_
      | with_reducible refine Fr_nxS (kept.upF (by assumption) (by decide)) (fun _ _ => ?_)
      | with_reducible refine Fr_nxS (kept.upA (by assumption) (by decide)) (fun _ _ => ?_)
      | with_reducible refine Fr_nxI (fun _ => ?_)
      | with_reducible refine Fr_bdS1 ?_ (fun _ _ => ?_)
      | with_reducible refine Fr_bdI1 (fun _ => ?_)
      | with_reducible exact (ih _ _ _).to (by assumption) (fun _ h => h) (fun _ h => h)
theorem fr_mX12_findsRow_6 (a1 : Int) : ∀ (f : Nat) (v1 : Int) (v2 : Int) (v3 : St), Fr [97, 98] [(83, 31), (83, 32)] (fun o : St => o) v3 (mX12_findsRow_6 a1 f v1 v2 v3) := by
  intro f
  induction f with
  | zero => intros; rw [mX12_findsRow_6]; exact Fr_none
  | succ f ih =>
    intro v1 v2 v3
    rw [mX12_findsRow_6]
    have hS : kept [97, 98] [(83, 31), (83, 32)] v3 v3 := kept.rf
    repeat' first
      | with_reducible exact Fr_none
      | (with_reducible refine Fr_some ?_; assumption)
      | with_reducible refine Fr_gd ?_
      | with_reducible refine Fr_if ?_ ?_
      | with_reducible refine Fr_nxS (kept.upF (by assumption) (by decide)) (fun _ _ => ?_)
      | with_reducible refine Fr_nxS (kept.upA (by assumption) (by decide)) (fun _ _ => ?_)
      | with_reducible refine Fr_nxI (fun _ => ?_)
      | with_reducible refine Fr_bdS1 ?_ (fun _ _ => ?_)
      | with_reducible refine Fr_bdI1 (fun _ => ?_)
      | with_reducible refine Fr_bdS2 ?_ (fun _ _ _ => ?_)
      | with_reducible refine Fr_bdI2 (fun _ _ => ?_)
      | with_reducible exact (fr_mX12_findsRow_53 _ _ _ _ _ _ _).to (by assumption) (by decide) (by decide)
      | with_reducible exact (fr_mX12_pushes _ _ _).to (by assumption) (by decide) (by decide)
      | with_reducible exact (ih _ _ _).to (by assumption) (fun _ h => h) (fun _ h => h)
theorem fr_mX12_findsRow (S0 : St) (a1 : Int) (a2 : Int) (a3 : Int) : Fr [97, 98] [(83, 31), (83, 32)] (fun o : St => o) S0 (mX12_findsRow S0 a1 a2 a3) := by
  unfold mX12_findsRow
  have hS : kept [97, 98] [(83, 31), (83, 32)] S0 S0 := kept.rf
  repeat' first
    | with_reducible exact Fr_none
    | (with_reducible refine Fr_some ?_; assumption)
    | with_reducible refine Fr_gd ?_
    | with_reducible refine Fr_if ?_ ?_
    | with_reducible refine Fr_nxS (kept.upF (by assumption) (by decide)) (fun _ _ => ?_)
    | with_reducible refine Fr_nxS (kept.upA (by assumption) (by decide)) (fun _ _ => ?_)
    | with_reducible refine Fr_nxI (fun _ => ?_)
    | with_reducible refine Fr_bdS1 ?_ (fun _ _ => ?_)
    | with_reducible refine Fr_bdI1 (fun _ => ?_)
    | with_reducible exact (fr_mX12_findsRow_6 _ _ _ _ _).to (by assumption) (by decide) (by decide)
theorem fr_mX12_findsBag_117 (z_40 : Int) (z_37 : Int) (x_43 : Int) (r_15 : Int) (v_1 : Int) (v_2 : Int) (v_4 : Int) (a1 : Int) (a4 : Int) : ∀ (f : Nat) (v1 : Int) (v2 : Int) (v3 : St), Fr [] [(83, 32)] (fun o : Int × St => o.2) v3 (mX12_findsBag_117 z_40 z_37 x_43 r_15 v_1 v_2 v_4 a1 a4 f v1 v2 v3) := by
  intro f
  induction f with
  | zero => intros; rw [mX12_findsBag_117]; exact Fr_none
  | succ f ih =>
    intro v1 v2 v3
    rw [mX12_findsBag_117]
    have hS : kept [] [(83, 32)] v3 v3 := kept.rf
    repeat' first
      | with_reducible exact Fr_none
      | (with_reducible refine Fr_some ?_; assumption)
      | with_reducible refine Fr_gd ?_
      | with_reducible refine Fr_if ?_ ?_
      | with_reducible refine Fr_nxS (kept.upF (by assumption) (by decide)) (fun _ _ => ?_)
      | with_reducible refine Fr_nxS (kept.upA (by assumption) (by decide)) (fun _ _ => ?_)
      | with_reducible refine Fr_nxI (fun _ => ?_)
      | with_reducible refine Fr_bdS1 ?_ (fun _ _ => ?_)
      | with_reducible refine Fr_bdI1 (fun _ => ?_)
      | with_reducible exact (ih _ _ _).to (by assumption) (fun _ h => h) (fun _ h => h)
theorem fr_mX12_findsBag_31 (r_15 : Int) (v_1 : Int) (v_2 : Int) (v_4 : Int) (a1 : Int) (a4 : Int) : ∀ (f : Nat) (v1 : Int) (v2 : Int) (v3 : St), Fr [] [(83, 32)] (fun o : Int × Int × St => o.2.2) v3 (mX12_findsBag_31 r_15 v_1 v_2 v_4 a1 a4 f v1 v2 v3) := by
  intro f
  induction f with
  | zero => intros; rw [mX12_findsBag_31]; exact Fr_none
  | succ f ih =>
    intro v1 v2 v3
    rw [mX12_findsBag_31]
    have hS : kept [] [(83, 32)] v3 v3 := kept.rf
    repeat' first
      | with_reducible exact Fr_none
      | (with_reducible refine Fr_some ?_; assumption)
      | with_reducible refine Fr_gd ?_
      | with_reducible refine Fr_if ?_ ?_
      | with_reducible refine Fr_nxS (kept.upF (by assumption) (by decide)) (fun _ _ => ?_)
      | with_reducible refine Fr_nxS (kept.upA (by assumption) (by decide)) (fun _ _ => ?_)
      | with_reducible refine Fr_nxI (fun _ => ?_)
      | with_reducible refine Fr_bdS1 ?_ (fun _ _ => ?_)
      | with_reducible refine Fr_bdI1 (fun _ => ?_)
      | with_reducible refine Fr_bdS2 ?_ (fun _ _ _ => ?_)
      | with_reducible refine Fr_bdI2 (fun _ _ => ?_)
      | with_reducible exact (fr_mX12_findsBag_117 _ _ _ _ _ _ _ _ _ _ _ _ _).to (by assumption) (by decide) (by decide)
      | with_reducible exact (ih _ _ _).to (by assumption) (fun _ h => h) (fun _ h => h)
theorem fr_mX12_findsBag_13 (a1 : Int) (a4 : Int) : ∀ (f : Nat) (v1 : Int) (v2 : Int) (v3 : Int) (v4 : Int) (v5 : St), Fr [97, 98] [(83, 31), (83, 32)] (fun o : St => o) v5 (mX12_findsBag_13 a1 a4 f v1 v2 v3 v4 v5) := by
  intro f
  induction f with
  | zero => intros; rw [mX12_findsBag_13]; exact Fr_none
  | succ f ih =>
    intro v1 v2 v3 v4 v5
    rw [mX12_findsBag_13]
    have hS : kept [97, 98] [(83, 31), (83, 32)] v5 v5 := kept.rf
    repeat' first
      | with_reducible exact Fr_none
      | (with_reducible refine Fr_some ?_; assumption)
      | with_reducible refine Fr_gd ?_
      | with_reducible refine Fr_if ?_ ?_
      | with_reducible refine Fr_nxS (kept.upF (by assumption) (by decide)) (fun _ _ => ?_)
      | with_reducible refine Fr_nxS (kept.upA (by assumption) (by decide)) (fun _ _ => ?_)
      | with_reducible refine Fr_nxI (fun _ => ?_)
      | with_reducible refine Fr_bdS1 ?_ (fun _ _ => ?_)
      | with_reducible refine Fr_bdI1 (fun _ => ?_)
      | with_reducible refine Fr_bdS3 ?_ (fun _ _ _ _ => ?_)
      | with_reducible refine Fr_bdI3 (fun _ _ _ => ?_)
      | with_reducible exact (fr_mX12_findsBag_31 _ _ _ _ _ _ _ _ _ _).to (by assumption) (by decide) (by decide)
      | with_reducible exact (fr_mX12_pushes _ _ _).to (by assumption) (by decide) (by decide)
      | with_reducible exact (ih _ _ _ _ _).to (by assumption) (fun _ h => h) (fun _ h => h)
theorem fr_mX12_findsBag (S0 : St) (a1 : Int) (a2 : Int) (a3 : Int) (a4 : Int) : Fr [97, 98] [(83, 31), (83, 32)] (fun o : St => o) S0 (mX12_findsBag S0 a1 a2 a3 a4) := by
  unfold mX12_findsBag
  have hS : kept [97, 98] [(83, 31), (83, 32)] S0 S0 := kept.rf
  repeat' first
    | with_reducible exact Fr_none
    | (with_reducible refine Fr_some ?_; assumption)
    | with_reducible refine Fr_gd ?_
    | with_reducible refine Fr_if ?_ ?_
    | with_reducible refine Fr_nxS (kept.upF (by assumption) (by decide)) (fun _ _ => ?_)
    | with_reducible refine Fr_nxS (kept.upA (by assumption) (by decide)) (fun _ _ => ?_)
    | with_reducible refine Fr_nxI (fun _ => ?_)
    | with_reducible refine Fr_bdS1 ?_ (fun _ _ => ?_)
    | with_reducible refine Fr_bdI1 (fun _ => ?_)
    | with_reducible exact (fr_mX12_findsBag_13 _ _ _ _ _ _ _ _).to (by assumption) (by decide) (by decide)
theorem fr_mX12_seeks_112 (rec : Nat → Int → Int → Int → Int → St → Option (Int × St)) (hrec : ∀ (t : Nat) (y1 : Int) (y2 : Int) (y3 : Int) (y4 : Int) (S : St), Fr [97, 98] [(83, 31), (83, 32)] (fun o : Int × St => o.2) S (rec t y1 y2 y3 y4 S)) (x_20 : Int) (v_3 : Int) (a1 : Int) (a2 : Int) (a3 : Int) (a4 : Int) : ∀ (f : Nat) (v1 : Int) (v2 : St), Fr [97, 98] [(83, 31), (83, 32)] (fun o : Int × St => o.2) v2 (mX12_seeks_112 rec x_20 v_3 a1 a2 a3 a4 f v1 v2) := by
  intro f
  induction f with
  | zero => intros; rw [mX12_seeks_112]; exact Fr_none
  | succ f ih =>
    intro v1 v2
    rw [mX12_seeks_112]
    have hS : kept [97, 98] [(83, 31), (83, 32)] v2 v2 := kept.rf
    repeat' first
      | with_reducible exact Fr_none
      | (with_reducible refine Fr_some ?_; assumption)
      | with_reducible refine Fr_gd ?_
      | with_reducible refine Fr_if ?_ ?_
      | with_reducible refine Fr_nxS (kept.upF (by assumption) (by decide)) (fun _ _ => ?_)
      | with_reducible refine Fr_nxS (kept.upA (by assumption) (by decide)) (fun _ _ => ?_)
      | with_reducible refine Fr_nxI (fun _ => ?_)
      | with_reducible refine Fr_bdS1 ?_ (fun _ _ => ?_)
      | with_reducible refine Fr_bdI1 (fun _ => ?_)
      | with_reducible refine Fr_bdS2 ?_ (fun _ _ _ => ?_)
      | with_reducible refine Fr_bdI2 (fun _ _ => ?_)
      | with_reducible exact (fr_mX12_pushes _ _ _).to (by assumption) (by decide) (by decide)
      | with_reducible exact (hrec _ _ _ _ _ _).to (by assumption) (fun _ h => h) (fun _ h => h)
      | with_reducible exact (ih _ _).to (by assumption) (fun _ h => h) (fun _ h => h)
theorem fr_mX12_seeks_55 (rec : Nat → Int → Int → Int → Int → St → Option (Int × St)) (hrec : ∀ (t : Nat) (y1 : Int) (y2 : Int) (y3 : Int) (y4 : Int) (S : St), Fr [97, 98] [(83, 31), (83, 32)] (fun o : Int × St => o.2) S (rec t y1 y2 y3 y4 S)) (a1 : Int) (a2 : Int) (a3 : Int) (a4 : Int) : ∀ (f : Nat) (v1 : Int) (v2 : St), Fr [97, 98] [(83, 31), (83, 32)] (fun o : Int × St => o.2) v2 (mX12_seeks_55 rec a1 a2 a3 a4 f v1 v2) := by
  intro f
  induction f with
  | zero => intros; rw [mX12_seeks_55]; exact Fr_none
  | succ f ih =>
    intro v1 v2
    rw [mX12_seeks_55]
    have hS : kept [97, 98] [(83, 31), (83, 32)] v2 v2 := kept.rf
    repeat' first
      | with_reducible exact Fr_none
      | (with_reducible refine Fr_some ?_; assumption)
      | with_reducible refine Fr_gd ?_
      | with_reducible refine Fr_if ?_ ?_
      | with_reducible refine Fr_nxS (kept.upF (by assumption) (by decide)) (fun _ _ => ?_)
      | with_reducible refine Fr_nxS (kept.upA (by assumption) (by decide)) (fun _ _ => ?_)
      | with_reducible refine Fr_nxI (fun _ => ?_)
      | with_reducible refine Fr_bdS1 ?_ (fun _ _ => ?_)
      | with_reducible refine Fr_bdI1 (fun _ => ?_)
      | with_reducible refine Fr_bdS2 ?_ (fun _ _ _ => ?_)
      | with_reducible refine Fr_bdI2 (fun _ _ => ?_)
      | with_reducible exact (fr_mX12_seeks_112 _ (by assumption) _ _ _ _ _ _ _ _ _).to (by assumption) (by decide) (by decide)
      | with_reducible exact (hrec _ _ _ _ _ _).to (by assumption) (fun _ h => h) (fun _ h => h)
      | with_reducible exact (ih _ _).to (by assumption) (fun _ h => h) (fun _ h => h)
theorem fr_bX12_seeks (rec : Nat → Int → Int → Int → Int → St → Option (Int × St)) (hrec : ∀ (t : Nat) (y1 : Int) (y2 : Int) (y3 : Int) (y4 : Int) (S : St), Fr [97, 98] [(83, 31), (83, 32)] (fun o : Int × St => o.2) S (rec t y1 y2 y3 y4 S)) (S0 : St) (a1 : Int) (a2 : Int) (a3 : Int) (a4 : Int) : Fr [97, 98] [(83, 31), (83, 32)] (fun o : Int × St => o.2) S0 (bX12_seeks rec S0 a1 a2 a3 a4) := by
  unfold bX12_seeks
  have hS : kept [97, 98] [(83, 31), (83, 32)] S0 S0 := kept.rf
  repeat' first
    | with_reducible exact Fr_none
    | (with_reducible refine Fr_some ?_; assumption)
    | with_reducible refine Fr_gd ?_
    | with_reducible refine Fr_if ?_ ?_
    | with_reducible refine Fr_nxS (kept.upF (by assumption) (by decide)) (fun _ _ => ?_)
    | with_reducible refine Fr_nxS (kept.upA (by assumption) (by decide)) (fun _ _ => ?_)
    | with_reducible refine Fr_nxI (fun _ => ?_)
    | with_reducible refine Fr_bdS1 ?_ (fun _ _ => ?_)
    | with_reducible refine Fr_bdI1 (fun _ => ?_)
    | with_reducible refine Fr_bdS2 ?_ (fun _ _ _ => ?_)
    | with_reducible refine Fr_bdI2 (fun _ _ => ?_)
    | with_reducible exact (fr_mX12_seeks_55 _ (by assumption) _ _ _ _ _ _ _).to (by assumption) (by decide) (by decide)
    | with_reducible exact (hrec _ _ _ _ _ _).to (by assumption) (fun _ h => h) (fun _ h => h)
theorem fr_RX12_seeks : ∀ (f t : Nat) (x1 : Int) (x2 : Int) (x3 : Int) (x4 : Int) (S : St), Fr [97, 98] [(83, 31), (83, 32)] (fun o : Int × St => o.2) S (RX12_seeks f t x1 x2 x3 x4 S) := by
  intro f
  induction f with
  | zero => intros; rw [RX12_seeks]; exact Fr_none
  | succ f ih =>
    intro t x1 x2 x3 x4 S
    rw [RX12_seeks]
    have hS : kept [97, 98] [(83, 31), (83, 32)] S S := kept.rf
    repeat' first
      | with_reducible exact Fr_none
      | (with_reducible refine Fr_some ?_; assumption)
      | with_reducible refine Fr_gd ?_
      | with_reducible refine Fr_if ?_ ?_
      | with_reducible refine Fr_nxS (kept.upF (by assumption) (by decide)) (fun _ _ => ?_)
      | with_reducible refine Fr_nxS (kept.upA (by assumption) (by decide)) (fun _ _ => ?_)
      | with_reducible refine Fr_nxI (fun _ => ?_)
      | with_reducible exact (fr_bX12_seeks _ (by assumption) _ _ _ _ _).to (by assumption) (by decide) (by decide)
      | with_reducible exact (ih _ _ _ _ _ _).to (by assumption) (fun _ h => h) (fun _ h => h)
theorem fr_mX12_seeks (S0 : St) (a1 : Int) (a2 : Int) (a3 : Int) (a4 : Int) : Fr [97, 98] [(83, 31), (83, 32)] (fun o : Int × St => o.2) S0 (mX12_seeks S0 a1 a2 a3 a4) := by
  unfold mX12_seeks
  have hS : kept [97, 98] [(83, 31), (83, 32)] S0 S0 := kept.rf
  repeat' first
    | with_reducible exact Fr_none
    | (with_reducible refine Fr_some ?_; assumption)
    | with_reducible refine Fr_gd ?_
    | with_reducible refine Fr_if ?_ ?_
    | with_reducible refine Fr_nxS (kept.upF (by assumption) (by decide)) (fun _ _ => ?_)
    | with_reducible refine Fr_nxS (kept.upA (by assumption) (by decide)) (fun _ _ => ?_)
    | with_reducible refine Fr_nxI (fun _ => ?_)
    | with_reducible exact (fr_RX12_seeks _ _ _ _ _ _ _).to (by assumption) (by decide) (by decide)
theorem fr_mX12_needsWord (S0 : St) (a1 : Int) : Fr [] [(83, 4), (83, 5), (83, 6), (83, 7), (83, 8), (83, 9), (83, 10)] (fun o : St => o) S0 (mX12_needsWord S0 a1) := by
  unfold mX12_needsWord
  have hS : kept [] [(83, 4), (83, 5), (83, 6), (83, 7), (83, 8), (83, 9), (83, 10)] S0 S0 := kept.rf
  repeat' first
    | with_reducible exact Fr_none
    | (with_reducible refine Fr_some ?_; assumption)
    | with_reducible refine Fr_gd ?_
    | with_reducible refine Fr_if ?_ ?_
    | with_reducible refine Fr_nxS (kept.upF (by assumption) (by decide)) (fun _ _ => ?_)
    | with_reducible refine Fr_nxS (kept.upA (by assumption) (by decide)) (fun _ _ => ?_)
    | with_reducible refine Fr_nxI (fun _ => ?_)
    | with_reducible refine Fr_bdS1 ?_ (fun _ _ => ?_)
    | with_reducible refine Fr_bdI1 (fun _ => ?_)
    | with_reducible refine Fr_bdS2 ?_ (fun _ _ _ => ?_)
    | with_reducible refine Fr_bdI2 (fun _ _ => ?_)
    | with_reducible exact (fr_mX12_faults _ _).to (by assumption) (by decide) (by decide)
    | with_reducible exact (fr_mX12_next _).to (by assumption) (by decide) (by decide)
theorem fr_mX12_readsName_92 (x_21 : Int) : ∀ (f : Nat) (v1 : Int) (v2 : St), Fr [87] [] (fun o : St => o) v2 (mX12_readsName_92 x_21 f v1 v2) := by
  intro f
  induction f with
  | zero => intros; rw [mX12_readsName_92]; exact Fr_none
  | succ f ih =>
    intro v1 v2
    rw [mX12_readsName_92]
    have hS : kept [87] [] v2 v2 := kept.rf
    repeat' first
      | with_reducible exact Fr_none
      | (with_reducible refine Fr_some ?_; assumption)
      | with_reducible refine Fr_gd ?_
      | with_reducible refine Fr_if ?_ ?_
      | with_reducible refine Fr_nxS (kept.upF (by assumption) (by decide)) (fun _ _ => ?_)
      | with_reducible refine Fr_nxS (kept.upA (by assumption) (by decide)) (fun _ _ => ?_)
      | with_reducible refine Fr_nxI (fun _ => ?_)
      | with_reducible exact (ih _ _).to (by assumption) (fun _ h => h) (fun _ h => h)
theorem fr_mX12_readsName (S0 : St) : Fr [84, 87, 88] [(83, 4), (83, 5), (83, 6), (83, 7), (83, 8), (83, 9), (83, 10)] (fun o : St => o) S0 (mX12_readsName S0) := by
  unfold mX12_readsName
  have hS : kept [84, 87, 88] [(83, 4), (83, 5), (83, 6), (83, 7), (83, 8), (83, 9), (83, 10)] S0 S0 := kept.rf
  repeat' first
    | with_reducible exact Fr_none
    | (with_reducible refine Fr_some ?_; assumption)
    | with_reducible refine Fr_gd ?_
    | with_reducible refine Fr_if ?_ ?_
    | with_reducible refine Fr_nxS (kept.upF (by assumption) (by decide)) (fun _ _ => ?_)
    | with_reducible refine Fr_nxS (kept.upA (by assumption) (by decide)) (fun _ _ => ?_)
    | with_reducible refine Fr_nxI (fun _ => ?_)
    | with_reducible refine Fr_bdS1 ?_ (fun _ _ => ?_)
    | with_reducible refine Fr_bdI1 (fun _ => ?_)
    | with_reducible refine Fr_bdS2 ?_ (fun _ _ _ => ?_)
    | with_reducible refine Fr_bdI2 (fun _ _ => ?_)
    | with_reducible exact (fr_mX12_faults _ _).to (by assumption) (by decide) (by decide)
    | with_reducible exact (fr_mX12_readsName_92 _ _ _ _).to (by assumption) (by decide) (by decide)
    | with_reducible exact (fr_mX12_next _).to (by assumption) (by decide) (by decide)
theorem fr_mX12_readsHead_72  : ∀ (f : Nat) (v1 : Int) (v2 : St), Fr [84, 87, 88] [(83, 4), (83, 5), (83, 6), (83, 7), (83, 8), (83, 9), (83, 10)] (fun o : St => o) v2 (mX12_readsHead_72  f v1 v2) := by
  intro f
  induction f with
  | zero => intros; rw [mX12_readsHead_72]; exact Fr_none
  | succ f ih =>
    intro v1 v2
    rw [mX12_readsHead_72]
    have hS : kept [84, 87, 88] [(83, 4), (83, 5), (83, 6), (83, 7), (83, 8), (83, 9), (83, 10)] v2 v2 := kept.rf
    repeat' first
      | with_reducible exact Fr_none
      | (with_reducible refine Fr_some ?_; assumption)
      | with_reducible refine Fr_gd ?_
      | with_reducible refine Fr_if ?_ ?_
      | with_reducible refine Fr_nxS (kept.upF (by assumption) (by decide)) (fun _ _ => ?_)
      | with_reducible refine Fr_nxS (kept.upA (by assumption) (by decide)) (fun _ _ => ?_)
      | with_reducible refine Fr_nxI (fun _ => ?_)
      | with_reducible refine Fr_bdS1 ?_ (fun _ _ => ?_)
      | with_reducible refine Fr_bdI1 (fun _ => ?_)
      | with_reducible exact (fr_mX12_readsName _).to (by assumption) (by decide) (by decide)
      | with_reducible exact (ih _ _).to (by assumption) (fun _ h => h) (fun _ h => h)
theorem fr_mX12_readsHead (S0 : St) : Fr [84, 87, 88] [(83, 4), (83, 5), (83, 6), (83, 7), (83, 8), (83, 9), (83, 10)] (fun o : St => o) S0 (mX12_readsHead S0) := by
  unfold mX12_readsHead
  have hS : kept [84, 87, 88] [(83, 4), (83, 5), (83, 6), (83, 7), (83, 8), (83, 9), (83, 10)] S0 S0 := kept.rf
  repeat' first
    | with_reducible exact Fr_none
    | (with_reducible refine Fr_some ?_; assumption)
    | with_reducible refine Fr_gd ?_
    | with_reducible refine Fr_if ?_ ?_
    | with_reducible refine Fr_nxS (kept.upF (by assumption) (by decide)) (fun _ _ => ?_)
    | with_reducible refine Fr_nxS (kept.upA (by assumption) (by decide)) (fun _ _ => ?_)
    | with_reducible refine Fr_nxI (fun _ => ?_)
    | with_reducible refine Fr_bdS1 ?_ (fun _ _ => ?_)
    | with_reducible refine Fr_bdI1 (fun _ => ?_)
    | with_reducible refine Fr_bdS2 ?_ (fun _ _ _ => ?_)
    | with_reducible refine Fr_bdI2 (fun _ _ => ?_)
    | with_reducible exact (fr_mX12_needsWord _ _).to (by assumption) (by decide) (by decide)
    | with_reducible exact (fr_mX12_next _).to (by assumption) (by decide) (by decide)
    | with_reducible exact (fr_mX12_readsHead_72 _ _ _).to (by assumption) (by decide) (by decide)
    | with_reducible exact (fr_mX12_faults _ _).to (by assumption) (by decide) (by decide)
theorem fr_mX12_readsExpr_118 (rec : Nat → Int → Int → Int → St → Option (Int × St)) (hrec : ∀ (t : Nat) (y1 : Int) (y2 : Int) (y3 : Int) (S : St), Fr [84] [(83, 4), (83, 5), (83, 6), (83, 7), (83, 8), (83, 9), (83, 10)] (fun o : Int × St => o.2) S (rec t y1 y2 y3 S)) (x_23 : Int) (a1 : Int) (a2 : Int) : ∀ (f : Nat) (v1 : Int) (v2 : St), Fr [84] [(83, 4), (83, 5), (83, 6), (83, 7), (83, 8), (83, 9), (83, 10)] (fun o : St => o) v2 (mX12_readsExpr_118 rec x_23 a1 a2 f v1 v2) := by
  intro f
  induction f with
  | zero => intros; rw [mX12_readsExpr_118]; exact Fr_none
  | succ f ih =>
    intro v1 v2
    rw [mX12_readsExpr_118]
    have hS : kept [84] [(83, 4), (83, 5), (83, 6), (83, 7), (83, 8), (83, 9), (83, 10)] v2 v2 := kept.rf
    repeat' first
      | with_reducible exact Fr_none
      | (with_reducible refine Fr_some ?_; assumption)
      | with_reducible refine Fr_gd ?_
      | with_reducible refine Fr_if ?_ ?_
      | with_reducible refine Fr_nxS (kept.upF (by assumption) (by decide)) (fun _ _ => ?_)
      | with_reducible refine Fr_nxS (kept.upA (by assumption) (by decide)) (fun _ _ => ?_)
      | with_reducible refine Fr_nxI (fun _ => ?_)
      | with_reducible refine Fr_bdS1 ?_ (fun _ _ => ?_)
      | with_reducible refine Fr_bdI1 (fun _ => ?_)
      | with_reducible refine Fr_bdS2 ?_ (fun _ _ _ => ?_)
      | with_reducible refine Fr_bdI2 (fun _ _ => ?_)
      | with_reducible exact (fr_mX12_next _).to (by assumption) (by decide) (by decide)
      | with_reducible exact (hrec _ _ _ _ _).to (by assumption) (fun _ h => h) (fun _ h => h)
      | with_reducible exact (ih _ _).to (by assumption) (fun _ h => h) (fun _ h => h)
theorem fr_mX12_readsExpr_5 (rec : Nat → Int → Int → Int → St → Option (Int × St)) (hrec : ∀ (t : Nat) (y1 : Int) (y2 : Int) (y3 : Int) (S : St), Fr [84] [(83, 4), (83, 5), (83, 6), (83, 7), (83, 8), (83, 9), (83, 10)] (fun o : Int × St => o.2) S (rec t y1 y2 y3 S)) (a1 : Int) (a2 : Int) : ∀ (f : Nat) (v1 : Int) (v2 : Int) (v3 : St), Fr [84] [(83, 4), (83, 5), (83, 6), (83, 7), (83, 8), (83, 9), (83, 10)] (fun o : Int × St => o.2) v3 (mX12_readsExpr_5 rec a1 a2 f v1 v2 v3) := by
  intro f
  induction f with
  | zero => intros; rw [mX12_readsExpr_5]; exact Fr_none
  | succ f ih =>
    intro v1 v2 v3
    rw [mX12_readsExpr_5]
    have hS : kept [84] [(83, 4), (83, 5), (83, 6), (83, 7), (83, 8), (83, 9), (83, 10)] v3 v3 := kept.rf
    repeat' first
      | with_reducible exact Fr_none
      | (with_reducible refine Fr_some ?_; assumption)
      | with_reducible refine Fr_gd ?_
      | with_reducible refine Fr_if ?_ ?_
      | with_reducible refine Fr_nxS (kept.upF (by assumption) (by decide)) (fun _ _ => ?_)
      | with_reducible refine Fr_nxS (kept.upA (by assumption) (by decide)) (fun _ _ => ?_)
      | with_reducible refine Fr_nxI (fun _ => ?_)
      | with_reducible refine Fr_bdS1 ?_ (fun _ _ => ?_)
      | with_reducible refine Fr_bdI1 (fun _ => ?_)
      | with_reducible refine Fr_bdS2 ?_ (fun _ _ _ => ?_)
      | with_reducible refine Fr_bdI2 (fun _ _ => ?_)
      | with_reducible exact (fr_mX12_readsExpr_118 _ (by assumption) _ _ _ _ _ _).to (by assumption) (by decide) (by decide)
      | with_reducible exact (fr_mX12_next _).to (by assumption) (by decide) (by decide)
      | with_reducible exact (hrec _ _ _ _ _).to (by assumption) (fun _ h => h) (fun _ h => h)
      | with_reducible exact (ih _ _ _).to (by assumption) (fun _ h => h) (fun _ h => h)
theorem fr_bX12_readsExpr (rec : Nat → Int → Int → Int → St → Option (Int × St)) (hrec : ∀ (t : Nat) (y1 : Int) (y2 : Int) (y3 : Int) (S : St), Fr [84] [(83, 4), (83, 5), (83, 6), (83, 7), (83, 8), (83, 9), (83, 10)] (fun o : Int × St => o.2) S (rec t y1 y2 y3 S)) (S0 : St) (a1 : Int) (a2 : Int) : Fr [84] [(83, 4), (83, 5), (83, 6), (83, 7), (83, 8), (83, 9), (83, 10)] (fun o : St => o) S0 (bX12_readsExpr rec S0 a1 a2) := by
  unfold bX12_readsExpr
  have hS : kept [84] [(83, 4), (83, 5), (83, 6), (83, 7), (83, 8), (83, 9), (83, 10)] S0 S0 := kept.rf
  repeat' first
    | with_reducible exact Fr_none
    | (with_reducible refine Fr_some ?_; assumption)
    | with_reducible refine Fr_gd ?_
    | with_reducible refine Fr_if ?_ ?_
    | with_reducible refine Fr_nxS (kept.upF (by assumption) (by decide)) (fun _ _ => ?_)
    | with_reducible refine Fr_nxS (kept.upA (by assumption) (by decide)) (fun _ _ => ?_)
    | with_reducible refine Fr_nxI (fun _ => ?_)
    | with_reducible refine Fr_bdS2 ?_ (fun _ _ _ => ?_)
    | with_reducible refine Fr_bdI2 (fun _ _ => ?_)
    | with_reducible exact (fr_mX12_readsExpr_5 _ (by assumption) _ _ _ _ _ _).to (by assumption) (by decide) (by decide)
    | with_reducible exact (hrec _ _ _ _ _).to (by assumption) (fun _ h => h) (fun _ h => h)
theorem fr_bX12_readsIn (rec : Nat → Int → Int → Int → St → Option (Int × St)) (hrec : ∀ (t : Nat) (y1 : Int) (y2 : Int) (y3 : Int) (S : St), Fr [84] [(83, 4), (83, 5), (83, 6), (83, 7), (83, 8), (83, 9), (83, 10)] (fun o : Int × St => o.2) S (rec t y1 y2 y3 S)) (S0 : St) (a1 : Int) (a2 : Int) (a3 : Int) : Fr [84] [(83, 4), (83, 5), (83, 6), (83, 7), (83, 8), (83, 9), (83, 10)] (fun o : St => o) S0 (bX12_readsIn rec S0 a1 a2 a3) := by
  unfold bX12_readsIn
  have hS : kept [84] [(83, 4), (83, 5), (83, 6), (83, 7), (83, 8), (83, 9), (83, 10)] S0 S0 := kept.rf
  repeat' first
    | with_reducible exact Fr_none
    | (with_reducible refine Fr_some ?_; assumption)
    | with_reducible refine Fr_gd ?_
    | with_reducible refine Fr_if ?_ ?_
    | with_reducible refine Fr_nxS (kept.upF (by assumption) (by decide)) (fun _ _ => ?_)
    | with_reducible refine Fr_nxS (kept.upA (by assumption) (by decide)) (fun _ _ => ?_)
    | with_reducible refine Fr_nxI (fun _ => ?_)
    | with_reducible refine Fr_bdS1 ?_ (fun _ _ => ?_)
    | with_reducible refine Fr_bdI1 (fun _ => ?_)
    | with_reducible refine Fr_bdS2 ?_ (fun _ _ _ => ?_)
    | with_reducible refine Fr_bdI2 (fun _ _ => ?_)
    | with_reducible exact (fr_mX12_next _).to (by assumption) (by decide) (by decide)
    | with_reducible exact (fr_mX12_faults _ _).to (by assumption) (by decide) (by decide)
    | with_reducible exact (hrec _ _ _ _ _).to (by assumption) (fun _ h => h) (fun _ h => h)
theorem fr_bX12_readsPart (rec : Nat → Int → Int → Int → St → Option (Int × St)) (hrec : ∀ (t : Nat) (y1 : Int) (y2 : Int) (y3 : Int) (S : St), Fr [84] [(83, 4), (83, 5), (83, 6), (83, 7), (83, 8), (83, 9), (83, 10)] (fun o : Int × St => o.2) S (rec t y1 y2 y3 S)) (S0 : St) (a1 : Int) (a2 : Int) : Fr [84] [(83, 4), (83, 5), (83, 6), (83, 7), (83, 8), (83, 9), (83, 10)] (fun o : Int × St => o.2) S0 (bX12_readsPart rec S0 a1 a2) := by
  unfold bX12_readsPart
  have hS : kept [84] [(83, 4), (83, 5), (83, 6), (83, 7), (83, 8), (83, 9), (83, 10)] S0 S0 := kept.rf
  repeat' first
    | with_reducible exact Fr_none
    | (with_reducible refine Fr_some ?_; assumption)
    | with_reducible refine Fr_gd ?_
    | with_reducible refine Fr_if ?_ ?_
    | with_reducible refine Fr_nxS (kept.upF (by assumption) (by decide)) (fun _ _ => ?_)
    | with_reducible refine Fr_nxS (kept.upA (by assumption) (by decide)) (fun _ _ => ?_)
    | with_reducible refine Fr_nxI (fun _ => ?_)
    | with_reducible refine Fr_bdS1 ?_ (fun _ _ => ?_)
    | with_reducible refine Fr_bdI1 (fun _ => ?_)
    | with_reducible refine Fr_bdS2 ?_ (fun _ _ _ => ?_)
    | with_reducible refine Fr_bdI2 (fun _ _ => ?_)
    | with_reducible exact (fr_mX12_faults _ _).to (by assumption) (by decide) (by decide)
    | with_reducible exact (fr_mX12_next _).to (by assumption) (by decide) (by decide)
    | with_reducible exact (fr_mX12_readsAtom _ _).to (by assumption) (by decide) (by decide)
    | with_reducible exact (fr_mX12_needs _ _).to (by assumption) (by decide) (by decide)
    | with_reducible exact (hrec _ _ _ _ _).to (by assumption) (fun _ h => h) (fun _ h => h)
theorem fr_RX12_readsExpr : ∀ (f t : Nat) (x1 : Int) (x2 : Int) (x3 : Int) (S : St), Fr [84] [(83, 4), (83, 5), (83, 6), (83, 7), (83, 8), (83, 9), (83, 10)] (fun o : Int × St => o.2) S (RX12_readsExpr f t x1 x2 x3 S) := by
  intro f
  induction f with
  | zero => intros; rw [RX12_readsExpr]; exact Fr_none
  | succ f ih =>
    intro t x1 x2 x3 S
    rw [RX12_readsExpr]
    have hS : kept [84] [(83, 4), (83, 5), (83, 6), (83, 7), (83, 8), (83, 9), (83, 10)] S S := kept.rf
    repeat' first
      | with_reducible exact Fr_none
      | (with_reducible refine Fr_some ?_; assumption)
      | with_reducible refine Fr_gd ?_
      | with_reducible refine Fr_if ?_ ?_
      | with_reducible refine Fr_nxS (kept.upF (by assumption) (by decide)) (fun _ _ => ?_)
      | with_reducible refine Fr_nxS (kept.upA (by assumption) (by decide)) (fun _ _ => ?_)
      | with_reducible refine Fr_nxI (fun _ => ?_)
      | with_reducible refine Fr_bdS1 ?_ (fun _ _ => ?_)
      | with_reducible refine Fr_bdI1 (fun _ => ?_)
      | with_reducible exact (fr_bX12_readsExpr _ (by assumption) _ _ _).to (by assumption) (by decide) (by decide)
      | with_reducible exact (fr_bX12_readsIn _ (by assumption) _ _ _ _).to (by assumption) (by decide) (by decide)
      | with_reducible exact (fr_bX12_readsPart _ (by assumption) _ _ _).to (by assumption) (by decide) (by decide)
      | with_reducible exact (ih _ _ _ _ _).to (by assumption) (fun _ h => h) (fun _ h => h)
theorem fr_mX12_readsExpr (S0 : St) (a1 : Int) (a2 : Int) : Fr [84] [(83, 4), (83, 5), (83, 6), (83, 7), (83, 8), (83, 9), (83, 10)] (fun o : St => o) S0 (mX12_readsExpr S0 a1 a2) := by
  unfold mX12_readsExpr
  have hS : kept [84] [(83, 4), (83, 5), (83, 6), (83, 7), (83, 8), (83, 9), (83, 10)] S0 S0 := kept.rf
  repeat' first
    | with_reducible exact Fr_none
    | (with_reducible refine Fr_some ?_; assumption)
    | with_reducible refine Fr_gd ?_
    | with_reducible refine Fr_if ?_ ?_
    | with_reducible refine Fr_nxS (kept.upF (by assumption) (by decide)) (fun _ _ => ?_)
    | with_reducible refine Fr_nxS (kept.upA (by assumption) (by decide)) (fun _ _ => ?_)
    | with_reducible refine Fr_nxI (fun _ => ?_)
    | with_reducible refine Fr_bdS2 ?_ (fun _ _ _ => ?_)
    | with_reducible refine Fr_bdI2 (fun _ _ => ?_)
    | with_reducible exact (fr_RX12_readsExpr _ _ _ _ _ _).to (by assumption) (by decide) (by decide)
theorem fr_mX12_readsIn (S0 : St) (a1 : Int) (a2 : Int) (a3 : Int) : Fr [84] [(83, 4), (83, 5), (83, 6), (83, 7), (83, 8), (83, 9), (83, 10)] (fun o : St => o) S0 (mX12_readsIn S0 a1 a2 a3) := by
  unfold mX12_readsIn
  have hS : kept [84] [(83, 4), (83, 5), (83, 6), (83, 7), (83, 8), (83, 9), (83, 10)] S0 S0 := kept.rf
  repeat' first
    | with_reducible exact Fr_none
    | (with_reducible refine Fr_some ?_; assumption)
    | with_reducible refine Fr_gd ?_
    | with_reducible refine Fr_if ?_ ?_
    | with_reducible refine Fr_nxS (kept.upF (by assumption) (by decide)) (fun _ _ => ?_)
    | with_reducible refine Fr_nxS (kept.upA (by assumption) (by decide)) (fun _ _ => ?_)
    | with_reducible refine Fr_nxI (fun _ => ?_)
    | with_reducible refine Fr_bdS2 ?_ (fun _ _ _ => ?_)
    | with_reducible refine Fr_bdI2 (fun _ _ => ?_)
    | with_reducible exact (fr_RX12_readsExpr _ _ _ _ _ _).to (by assumption) (by decide) (by decide)
theorem fr_mX12_readsPart (S0 : St) (a1 : Int) (a2 : Int) : Fr [84] [(83, 4), (83, 5), (83, 6), (83, 7), (83, 8), (83, 9), (83, 10)] (fun o : Int × St => o.2) S0 (mX12_readsPart S0 a1 a2) := by
  unfold mX12_readsPart
  have hS : kept [84] [(83, 4), (83, 5), (83, 6), (83, 7), (83, 8), (83, 9), (83, 10)] S0 S0 := kept.rf
  repeat' first
    | with_reducible exact Fr_none
    | (with_reducible refine Fr_some ?_; assumption)
    | with_reducible refine Fr_gd ?_
    | with_reducible refine Fr_if ?_ ?_
    | with_reducible refine Fr_nxS (kept.upF (by assumption) (by decide)) (fun _ _ => ?_)
    | with_reducible refine Fr_nxS (kept.upA (by assumption) (by decide)) (fun _ _ => ?_)
    | with_reducible refine Fr_nxI (fun _ => ?_)
    | with_reducible exact (fr_RX12_readsExpr _ _ _ _ _ _).to (by assumption) (by decide) (by decide)
theorem fr_mX12_readsKind (S0 : St) : Fr [84] [(83, 4), (83, 5), (83, 6), (83, 7), (83, 8), (83, 9), (83, 10)] (fun o : St => o) S0 (mX12_readsKind S0) := by
  unfold mX12_readsKind
  have hS : kept [84] [(83, 4), (83, 5), (83, 6), (83, 7), (83, 8), (83, 9), (83, 10)] S0 S0 := kept.rf
  repeat' first
    | with_reducible exact Fr_none
    | (with_reducible refine Fr_some ?_; assumption)
    | with_reducible refine Fr_gd ?_
    | with_reducible refine Fr_if ?_ ?_
    | with_reducible refine Fr_nxS (kept.upF (by assumption) (by decide)) (fun _ _ => ?_)
    | with_reducible refine Fr_nxS (kept.upA (by assumption) (by decide)) (fun _ _ => ?_)
    | with_reducible refine Fr_nxI (fun _ => ?_)
    | with_reducible refine Fr_bdS1 ?_ (fun _ _ => ?_)
    | with_reducible refine Fr_bdI1 (fun _ => ?_)
    | with_reducible refine Fr_bdS2 ?_ (fun _ _ _ => ?_)
    | with_reducible refine Fr_bdI2 (fun _ _ => ?_)
    | with_reducible exact (fr_mX12_faults _ _).to (by assumption) (by decide) (by decide)
    | with_reducible exact (fr_mX12_next _).to (by assumption) (by decide) (by decide)
    | with_reducible exact (fr_mX12_needs _ _).to (by assumption) (by decide) (by decide)
    | with_reducible exact (fr_mX12_readsExpr _ _ _).to (by assumption) (by decide) (by decide)
theorem fr_mX12_grammar_151  : ∀ (f : Nat) (v1 : Int) (v2 : St), Fr [84] [] (fun o : St => o) v2 (mX12_grammar_151  f v1 v2) := by
  intro f
  induction f with
  | zero => intros; rw [mX12_grammar_151]; exact Fr_none
  | succ f ih =>
    intro v1 v2
    rw [mX12_grammar_151]
    have hS : kept [84] [] v2 v2 := kept.rf
    repeat' first
      | with_reducible exact Fr_none
      | (with_reducible refine Fr_some ?_; assumption)
      | with_reducible refine Fr_gd ?_
      | with_reducible refine Fr_if ?_ ?_
      | with_reducible refine Fr_nxS (kept.upF (by assumption) (by decide)) (fun _ _ => ?_)
      | with_reducible refine Fr_nxS (kept.upA (by assumption) (by decide)) (fun _ _ => ?_)
      | with_reducible refine Fr_nxI (fun _ => ?_)
      | with_reducible exact (ih _ _).to (by assumption) (fun _ h => h) (fun _ h => h)
theorem fr_mX12_grammar_45  : ∀ (f : Nat) (v1 : St), Fr [84, 87, 88] [(83, 4), (83, 5), (83, 6), (83, 7), (83, 8), (83, 9), (83, 10)] (fun o : St => o) v1 (mX12_grammar_45  f v1) := by
  intro f
  induction f with
  | zero => intros; rw [mX12_grammar_45]; exact Fr_none
  | succ f ih =>
    intro v1
    rw [mX12_grammar_45]
    have hS : kept [84, 87, 88] [(83, 4), (83, 5), (83, 6), (83, 7), (83, 8), (83, 9), (83, 10)] v1 v1 := kept.rf
    repeat' first
      | with_reducible exact Fr_none
      | (with_reducible refine Fr_some ?_; assumption)
      | with_reducible refine Fr_gd ?_
      | with_reducible refine Fr_if ?_ ?_
      | with_reducible refine Fr_nxS (kept.upF (by assumption) (by decide)) (fun _ _ => ?_)
      | with_reducible refine Fr_nxS (kept.upA (by assumption) (by decide)) (fun _ _ => ?_)
      | with_reducible refine Fr_nxI (fun _ => ?_)
      | with_reducible refine Fr_bdS1 ?_ (fun _ _ => ?_)
      | with_reducible refine Fr_bdI1 (fun _ => ?_)
      | with_reducible exact (fr_mX12_readsHead _).to (by assumption) (by decide) (by decide)
      | with_reducible exact (fr_mX12_readsKind _).to (by assumption) (by decide) (by decide)
      | with_reducible exact (fr_mX12_needs _ _).to (by assumption) (by decide) (by decide)
      | with_reducible exact (ih _).to (by assumption) (fun _ h => h) (fun _ h => h)
theorem fr_mX12_grammar_2  : ∀ (f : Nat) (v1 : Int) (v2 : St), Fr [85] [] (fun o : St => o) v2 (mX12_grammar_2  f v1 v2) := by
  intro f
  induction f with
  | zero => intros; rw [mX12_grammar_2]; exact Fr_none
  | succ f ih =>
    intro v1 v2
    rw [mX12_grammar_2]
    have hS : kept [85] [] v2 v2 := kept.rf
    repeat' first
      | with_reducible exact Fr_none
      | (with_reducible refine Fr_some ?_; assumption)
      | with_reducible refine Fr_gd ?_
      | with_reducible refine Fr_if ?_ ?_
      | with_reducible refine Fr_nxS (kept.upF (by assumption) (by decide)) (fun _ _ => ?_)
      | with_reducible refine Fr_nxS (kept.upA (by assumption) (by decide)) (fun _ _ => ?_)
      | with_reducible refine Fr_nxI (fun _ => ?_)
      | with_reducible exact (ih _ _).to (by assumption) (fun _ h => h) (fun _ h => h)
theorem fr_mX12_grammar (S0 : St) : Fr [84, 85, 87, 88, 89] [(83, 3), (83, 4), (83, 5), (83, 6), (83, 7), (83, 8), (83, 9), (83, 10), (83, 45)] (fun o : Int × St => o.2) S0 (mX12_grammar S0) := by
  unfold mX12_grammar
  have hS : kept [84, 85, 87, 88, 89] [(83, 3), (83, 4), (83, 5), (83, 6), (83, 7), (83, 8), (83, 9), (83, 10), (83, 45)] S0 S0 := kept.rf
  repeat' first
    | with_reducible exact Fr_none
    | (with_reducible refine Fr_some ?_; assumption)
    | with_reducible refine Fr_gd ?_
    | with_reducible refine Fr_if ?_ ?_
    | with_reducible refine Fr_nxS (kept.upF (by assumption) (by decide)) (fun _ _ => ?_)
    | with_reducible refine Fr_nxS (kept.upA (by assumption) (by decide)) (fun _ _ => ?_)
    | with_reducible refine Fr_nxI (fun _ => ?_)
    | with_reducible refine Fr_bdS1 ?_ (fun _ _ => ?_)
    | with_reducible refine Fr_bdI1 (fun _ => ?_)
    | with_reducible refine Fr_bdS2 ?_ (fun _ _ _ => ?_)
    | with_reducible refine Fr_bdI2 (fun _ _ => ?_)
    | with_reducible exact (fr_mX12_grammar_2 _ _ _).to (by assumption) (by decide) (by decide)
    | with_reducible exact (fr_mX12_clears _).to (by assumption) (by decide) (by decide)
    | with_reducible exact (fr_mX12_next _).to (by assumption) (by decide) (by decide)
    | with_reducible exact (fr_mX12_grammar_45 _ _).to (by assumption) (by decide) (by decide)
    | with_reducible exact (fr_mX12_wrongKind _).to (by assumption) (by decide) (by decide)
    | with_reducible exact (fr_mX12_grammar_151 _ _ _).to (by assumption) (by decide) (by decide)
theorem fr_mX12_goesExpr_170 (rec : Nat → Int → Int → Int → Int → St → Option (St)) (hrec : ∀ (t : Nat) (y1 : Int) (y2 : Int) (y3 : Int) (y4 : Int) (S : St), Fr [96, 97, 98] [(83, 20), (83, 22), (83, 23), (83, 25), (83, 26), (83, 27), (83, 31), (83, 32)] (fun o : St => o) S (rec t y1 y2 y3 y4 S)) (a4 : Int) : ∀ (f : Nat) (v1 : Int) (v2 : Int) (v3 : Int) (v4 : St), Fr [96, 97, 98] [(83, 20), (83, 22), (83, 23), (83, 25), (83, 26), (83, 27), (83, 31), (83, 32)] (fun o : St => o) v4 (mX12_goesExpr_170 rec a4 f v1 v2 v3 v4) := by
  intro f
  induction f with
  | zero => intros; rw [mX12_goesExpr_170]; exact Fr_none
  | succ f ih =>
    intro v1 v2 v3 v4
    rw [mX12_goesExpr_170]
    have hS : kept [96, 97, 98] [(83, 20), (83, 22), (83, 23), (83, 25), (83, 26), (83, 27), (83, 31), (83, 32)] v4 v4 := kept.rf
    repeat' first
      | with_reducible exact Fr_none
      | (with_reducible refine Fr_some ?_; assumption)
      | with_reducible refine Fr_gd ?_
      | with_reducible refine Fr_if ?_ ?_
      | with_reducible refine Fr_nxS (kept.upF (by assumption) (by decide)) (fun _ _ => ?_)
      | with_reducible refine Fr_nxS (kept.upA (by assumption) (by decide)) (fun _ _ => ?_)
      | with_reducible refine Fr_nxI (fun _ => ?_)
      | with_reducible refine Fr_bdS1 ?_ (fun _ _ => ?_)
      | with_reducible refine Fr_bdI1 (fun _ => ?_)
      | with_reducible refine Fr_bdS2 ?_ (fun _ _ _ => ?_)
      | with_reducible refine Fr_bdI2 (fun _ _ => ?_)
      | with_reducible exact (hrec _ _ _ _ _ _).to (by assumption) (fun _ h => h) (fun _ h => h)
      | with_reducible exact (ih _ _ _ _).to (by assumption) (fun _ h => h) (fun _ h => h)
theorem fr_bX12_goesExpr (rec : Nat → Int → Int → Int → Int → St → Option (St)) (hrec : ∀ (t : Nat) (y1 : Int) (y2 : Int) (y3 : Int) (y4 : Int) (S : St), Fr [96, 97, 98] [(83, 20), (83, 22), (83, 23), (83, 25), (83, 26), (83, 27), (83, 31), (83, 32)] (fun o : St => o) S (rec t y1 y2 y3 y4 S)) (S0 : St) (a1 : Int) (a2 : Int) (a3 : Int) (a4 : Int) : Fr [96, 97, 98] [(83, 20), (83, 22), (83, 23), (83, 25), (83, 26), (83, 27), (83, 31), (83, 32)] (fun o : St => o) S0 (bX12_goesExpr rec S0 a1 a2 a3 a4) := by
  unfold bX12_goesExpr
  have hS : kept [96, 97, 98] [(83, 20), (83, 22), (83, 23), (83, 25), (83, 26), (83, 27), (83, 31), (83, 32)] S0 S0 := kept.rf
  repeat' first
    | with_reducible exact Fr_none
    | (with_reducible refine Fr_some ?_; assumption)
    | with_reducible refine Fr_gd ?_
    | with_reducible refine Fr_if ?_ ?_
    | with_reducible refine Fr_nxS (kept.upF (by assumption) (by decide)) (fun _ _ => ?_)
    | with_reducible refine Fr_nxS (kept.upA (by assumption) (by decide)) (fun _ _ => ?_)
    | with_reducible refine Fr_nxI (fun _ => ?_)
    | with_reducible refine Fr_bdS1 ?_ (fun _ _ => ?_)
    | with_reducible refine Fr_bdI1 (fun _ => ?_)
    | with_reducible refine Fr_bdS3 ?_ (fun _ _ _ _ => ?_)
    | with_reducible refine Fr_bdI3 (fun _ _ _ => ?_)
    | with_reducible exact (fr_mX12_signs _ _).to (by assumption) (by decide) (by decide)
    | with_reducible exact (fr_mX12_goesExpr_170 _ (by assumption) _ _ _ _ _ _).to (by assumption) (by decide) (by decide)
    | with_reducible exact (hrec _ _ _ _ _ _).to (by assumption) (fun _ h => h) (fun _ h => h)
theorem fr_mX12_goesIn_202 (rec : Nat → Int → Int → Int → Int → St → Option (St)) (hrec : ∀ (t : Nat) (y1 : Int) (y2 : Int) (y3 : Int) (y4 : Int) (S : St), Fr [96, 97, 98] [(83, 20), (83, 22), (83, 23), (83, 25), (83, 26), (83, 27), (83, 31), (83, 32)] (fun o : St => o) S (rec t y1 y2 y3 y4 S)) (x_14 : Int) (x_5 : Int) (x_4 : Int) (x_2 : Int) (a4 : Int) : ∀ (f : Nat) (v1 : Int) (v2 : St), Fr [96, 97, 98] [(83, 20), (83, 22), (83, 23), (83, 25), (83, 26), (83, 27), (83, 31), (83, 32)] (fun o : St => o) v2 (mX12_goesIn_202 rec x_14 x_5 x_4 x_2 a4 f v1 v2) := by
  intro f
  induction f with
  | zero => intros; rw [mX12_goesIn_202]; exact Fr_none
  | succ f ih =>
    intro v1 v2
    rw [mX12_goesIn_202]
    have hS : kept [96, 97, 98] [(83, 20), (83, 22), (83, 23), (83, 25), (83, 26), (83, 27), (83, 31), (83, 32)] v2 v2 := kept.rf
    repeat' first
      | with_reducible exact Fr_none
      | (with_reducible refine Fr_some ?_; assumption)
      | with_reducible refine Fr_gd ?_
      | with_reducible refine Fr_if ?_ ?_
      | with_reducible refine Fr_nxS (kept.upF (by assumption) (by decide)) (fun _ _ => ?_)
      | with_reducible refine Fr_nxS (kept.upA (by assumption) (by decide)) (fun _ _ => ?_)
      | with_reducible refine Fr_nxI (fun _ => ?_)
      | with_reducible refine Fr_bdS1 ?_ (fun _ _ => ?_)
      | with_reducible refine Fr_bdI1 (fun _ => ?_)
      | with_reducible exact (hrec _ _ _ _ _ _).to (by assumption) (fun _ h => h) (fun _ h => h)
      | with_reducible exact (ih _ _).to (by assumption) (fun _ h => h) (fun _ h => h)
theorem fr_bX12_goesIn (rec : Nat → Int → Int → Int → Int → St → Option (St)) (hrec : ∀ (t : Nat) (y1 : Int) (y2 : Int) (y3 : Int) (y4 : Int) (S : St), Fr [96, 97, 98] [(83, 20), (83, 22), (83, 23), (83, 25), (83, 26), (83, 27), (83, 31), (83, 32)] (fun o : St => o) S (rec t y1 y2 y3 y4 S)) (S0 : St) (a1 : Int) (a2 : Int) (a3 : Int) (a4 : Int) : Fr [96, 97, 98] [(83, 20), (83, 22), (83, 23), (83, 25), (83, 26), (83, 27), (83, 31), (83, 32)] (fun o : St => o) S0 (bX12_goesIn rec S0 a1 a2 a3 a4) := by
  unfold bX12_goesIn
  have hS : kept [96, 97, 98] [(83, 20), (83, 22), (83, 23), (83, 25), (83, 26), (83, 27), (83, 31), (83, 32)] S0 S0 := kept.rf
  repeat' first
    | with_reducible exact Fr_none
    | (with_reducible refine Fr_some ?_; assumption)
    | with_reducible refine Fr_gd ?_
    | with_reducible refine Fr_if ?_ ?_
    | with_reducible refine Fr_nxS (kept.upF (by assumption) (by decide)) (fun _ _ => ?_)
    | with_reducible refine Fr_nxS (kept.upA (by assumption) (by decide)) (fun _ _ => ?_)
    | with_reducible refine Fr_nxI (fun _ => ?_)
    | with_reducible refine Fr_bdS1 ?_ (fun _ _ => ?_)
    | with_reducible refine Fr_bdI1 (fun _ => ?_)
    | with_reducible refine Fr_bdS2 ?_ (fun _ _ _ => ?_)
    | with_reducible refine Fr_bdI2 (fun _ _ => ?_)
    | with_reducible exact (fr_mX12_findsRow _ _ _ _).to (by assumption) (by decide) (by decide)
    | with_reducible exact (fr_mX12_seeks _ _ _ _ _).to (by assumption) (by decide) (by decide)
    | with_reducible exact (fr_mX12_findsBag _ _ _ _ _).to (by assumption) (by decide) (by decide)
    | with_reducible exact (fr_mX12_signs _ _).to (by assumption) (by decide) (by decide)
    | with_reducible exact (fr_mX12_goesIn_202 _ (by assumption) _ _ _ _ _ _ _ _).to (by assumption) (by decide) (by decide)
    | with_reducible exact (hrec _ _ _ _ _ _).to (by assumption) (fun _ h => h) (fun _ h => h)
theorem fr_bX12_goesPart (rec : Nat → Int → Int → Int → Int → St → Option (St)) (hrec : ∀ (t : Nat) (y1 : Int) (y2 : Int) (y3 : Int) (y4 : Int) (S : St), Fr [96, 97, 98] [(83, 20), (83, 22), (83, 23), (83, 25), (83, 26), (83, 27), (83, 31), (83, 32)] (fun o : St => o) S (rec t y1 y2 y3 y4 S)) (S0 : St) (a1 : Int) (a2 : Int) (a3 : Int) (a4 : Int) : Fr [96, 97, 98] [(83, 20), (83, 22), (83, 23), (83, 25), (83, 26), (83, 27), (83, 31), (83, 32)] (fun o : St => o) S0 (bX12_goesPart rec S0 a1 a2 a3 a4) := by
  unfold bX12_goesPart
  have hS : kept [96, 97, 98] [(83, 20), (83, 22), (83, 23), (83, 25), (83, 26), (83, 27), (83, 31), (83, 32)] S0 S0 := kept.rf
  repeat' first
    | with_reducible exact Fr_none
    | (with_reducible refine Fr_some ?_; assumption)
    | with_reducible refine Fr_gd ?_
    | with_reducible refine Fr_if ?_ ?_
    | with_reducible refine Fr_nxS (kept.upF (by assumption) (by decide)) (fun _ _ => ?_)
    | with_reducible refine Fr_nxS (kept.upA (by assumption) (by decide)) (fun _ _ => ?_)
    | with_reducible refine Fr_nxI (fun _ => ?_)
    | with_reducible refine Fr_bdS1 ?_ (fun _ _ => ?_)
    | with_reducible refine Fr_bdI1 (fun _ => ?_)
    | with_reducible exact (fr_mX12_signs _ _).to (by assumption) (by decide) (by decide)
    | with_reducible exact (hrec _ _ _ _ _ _).to (by assumption) (fun _ h => h) (fun _ h => h)
theorem fr_RX12_goesExpr : ∀ (f t : Nat) (x1 : Int) (x2 : Int) (x3 : Int) (x4 : Int) (S : St), Fr [96, 97, 98] [(83, 20), (83, 22), (83, 23), (83, 25), (83, 26), (83, 27), (83, 31), (83, 32)] (fun o : St => o) S (RX12_goesExpr f t x1 x2 x3 x4 S) := by
  intro f
  induction f with
  | zero => intros; rw [RX12_goesExpr]; exact Fr_none
  | succ f ih =>
    intro t x1 x2 x3 x4 S
    rw [RX12_goesExpr]
    have hS : kept [96, 97, 98] [(83, 20), (83, 22), (83, 23), (83, 25), (83, 26), (83, 27), (83, 31), (83, 32)] S S := kept.rf
    repeat' first
      | with_reducible exact Fr_none
      | (with_reducible refine Fr_some ?_; assumption)
      | with_reducible refine Fr_gd ?_
      | with_reducible refine Fr_if ?_ ?_
      | with_reducible refine Fr_nxS (kept.upF (by assumption) (by decide)) (fun _ _ => ?_)
      | with_reducible refine Fr_nxS (kept.upA (by assumption) (by decide)) (fun _ _ => ?_)
      | with_reducible refine Fr_nxI (fun _ => ?_)
      | with_reducible exact (fr_bX12_goesExpr _ (by assumption) _ _ _ _ _).to (by assumption) (by decide) (by decide)
      | with_reducible exact (fr_bX12_goesIn _ (by assumption) _ _ _ _ _).to (by assumption) (by decide) (by decide)
      | with_reducible exact (fr_bX12_goesPart _ (by assumption) _ _ _ _ _).to (by assumption) (by decide) (by decide)
      | with_reducible exact (ih _ _ _ _ _ _).to (by assumption) (fun _ h => h) (fun _ h => h)
theorem fr_mX12_goesExpr (S0 : St) (a1 : Int) (a2 : Int) (a3 : Int) (a4 : Int) : Fr [96, 97, 98] [(83, 20), (83, 22), (83, 23), (83, 25), (83, 26), (83, 27), (83, 31), (83, 32)] (fun o : St => o) S0 (mX12_goesExpr S0 a1 a2 a3 a4) := by
  unfold mX12_goesExpr
  have hS : kept [96, 97, 98] [(83, 20), (83, 22), (83, 23), (83, 25), (83, 26), (83, 27), (83, 31), (83, 32)] S0 S0 := kept.rf
  repeat' first
    | with_reducible exact Fr_none
    | (with_reducible refine Fr_some ?_; assumption)
    | with_reducible refine Fr_gd ?_
    | with_reducible refine Fr_if ?_ ?_
    | with_reducible refine Fr_nxS (kept.upF (by assumption) (by decide)) (fun _ _ => ?_)
    | with_reducible refine Fr_nxS (kept.upA (by assumption) (by decide)) (fun _ _ => ?_)
    | with_reducible refine Fr_nxI (fun _ => ?_)
    | with_reducible exact (fr_RX12_goesExpr _ _ _ _ _ _ _).to (by assumption) (by decide) (by decide)
theorem fr_mX12_goesIn (S0 : St) (a1 : Int) (a2 : Int) (a3 : Int) (a4 : Int) : Fr [96, 97, 98] [(83, 20), (83, 22), (83, 23), (83, 25), (83, 26), (83, 27), (83, 31), (83, 32)] (fun o : St => o) S0 (mX12_goesIn S0 a1 a2 a3 a4) := by
  unfold mX12_goesIn
  have hS : kept [96, 97, 98] [(83, 20), (83, 22), (83, 23), (83, 25), (83, 26), (83, 27), (83, 31), (83, 32)] S0 S0 := kept.rf
  repeat' first
    | with_reducible exact Fr_none
    | (with_reducible refine Fr_some ?_; assumption)
    | with_reducible refine Fr_gd ?_
    | with_reducible refine Fr_if ?_ ?_
    | with_reducible refine Fr_nxS (kept.upF (by assumption) (by decide)) (fun _ _ => ?_)
    | with_reducible refine Fr_nxS (kept.upA (by assumption) (by decide)) (fun _ _ => ?_)
    | with_reducible refine Fr_nxI (fun _ => ?_)
    | with_reducible exact (fr_RX12_goesExpr _ _ _ _ _ _ _).to (by assumption) (by decide) (by decide)
theorem fr_mX12_goesPart (S0 : St) (a1 : Int) (a2 : Int) (a3 : Int) (a4 : Int) : Fr [96, 97, 98] [(83, 20), (83, 22), (83, 23), (83, 25), (83, 26), (83, 27), (83, 31), (83, 32)] (fun o : St => o) S0 (mX12_goesPart S0 a1 a2 a3 a4) := by
  unfold mX12_goesPart
  have hS : kept [96, 97, 98] [(83, 20), (83, 22), (83, 23), (83, 25), (83, 26), (83, 27), (83, 31), (83, 32)] S0 S0 := kept.rf
  repeat' first
    | with_reducible exact Fr_none
    | (with_reducible refine Fr_some ?_; assumption)
    | with_reducible refine Fr_gd ?_
    | with_reducible refine Fr_if ?_ ?_
    | with_reducible refine Fr_nxS (kept.upF (by assumption) (by decide)) (fun _ _ => ?_)
    | with_reducible refine Fr_nxS (kept.upA (by assumption) (by decide)) (fun _ _ => ?_)
    | with_reducible refine Fr_nxI (fun _ => ?_)
    | with_reducible exact (fr_RX12_goesExpr _ _ _ _ _ _ _).to (by assumption) (by decide) (by decide)
theorem fr_mX12_goes (S0 : St) (a1 : Int) (a2 : Int) (a3 : Int) (a4 : Int) (a5 : Int) : Fr [96, 97, 98] [(83, 20), (83, 21), (83, 22), (83, 23), (83, 24), (83, 25), (83, 26), (83, 27), (83, 31), (83, 32)] (fun o : St => o) S0 (mX12_goes S0 a1 a2 a3 a4 a5) := by
  unfold mX12_goes
  have hS : kept [96, 97, 98] [(83, 20), (83, 21), (83, 22), (83, 23), (83, 24), (83, 25), (83, 26), (83, 27), (83, 31), (83, 32)] S0 S0 := kept.rf
  repeat' first
    | with_reducible exact Fr_none
    | (with_reducible refine Fr_some ?_; assumption)
    | with_reducible refine Fr_gd ?_
    | with_reducible refine Fr_if ?_ ?_
    | with_reducible refine Fr_nxS (kept.upF (by assumption) (by decide)) (fun _ _ => ?_)
    | with_reducible refine Fr_nxS (kept.upA (by assumption) (by decide)) (fun _ _ => ?_)
    | with_reducible refine Fr_nxI (fun _ => ?_)
    | with_reducible refine Fr_bdS1 ?_ (fun _ _ => ?_)
    | with_reducible refine Fr_bdI1 (fun _ => ?_)
    | with_reducible exact (fr_mX12_goesExpr _ _ _ _ _).to (by assumption) (by decide) (by decide)
theorem fr_mX12_length (S0 : St) (a1 : Int) (a2 : Int) (a3 : Int) : Fr [90, 91, 92, 96, 97, 98] [(83, 20), (83, 21), (83, 22), (83, 23), (83, 24), (83, 25), (83, 26), (83, 27), (83, 31), (83, 32)] (fun o : Int × St => o.2) S0 (mX12_length S0 a1 a2 a3) := by
  unfold mX12_length
  have hS : kept [90, 91, 92, 96, 97, 98] [(83, 20), (83, 21), (83, 22), (83, 23), (83, 24), (83, 25), (83, 26), (83, 27), (83, 31), (83, 32)] S0 S0 := kept.rf
  repeat' first
    | with_reducible exact Fr_none
    | (with_reducible refine Fr_some ?_; assumption)
    | with_reducible refine Fr_gd ?_
    | with_reducible refine Fr_if ?_ ?_
    | with_reducible refine Fr_nxS (kept.upF (by assumption) (by decide)) (fun _ _ => ?_)
    | with_reducible refine Fr_nxS (kept.upA (by assumption) (by decide)) (fun _ _ => ?_)
    | with_reducible refine Fr_nxI (fun _ => ?_)
    | with_reducible refine Fr_bdS1 ?_ (fun _ _ => ?_)
    | with_reducible refine Fr_bdI1 (fun _ => ?_)
    | with_reducible refine Fr_bdS2 ?_ (fun _ _ _ => ?_)
    | with_reducible refine Fr_bdI2 (fun _ _ => ?_)
    | with_reducible exact (fr_mX12_whyNot _ _ _ _).to (by assumption) (by decide) (by decide)
    | with_reducible exact (fr_mX12_goes _ _ _ _ _ _).to (by assumption) (by decide) (by decide)
theorem fr_mX12_sign (S0 : St) (a1 : Int) (a2 : Int) (a3 : Int) (a4 : Int) : Fr [90, 91, 92, 96, 97, 98] [(83, 20), (83, 21), (83, 22), (83, 23), (83, 24), (83, 25), (83, 26), (83, 27), (83, 31), (83, 32)] (fun o : Int × St => o.2) S0 (mX12_sign S0 a1 a2 a3 a4) := by
  unfold mX12_sign
  have hS : kept [90, 91, 92, 96, 97, 98] [(83, 20), (83, 21), (83, 22), (83, 23), (83, 24), (83, 25), (83, 26), (83, 27), (83, 31), (83, 32)] S0 S0 := kept.rf
  repeat' first
    | with_reducible exact Fr_none
    | (with_reducible refine Fr_some ?_; assumption)
    | with_reducible refine Fr_gd ?_
    | with_reducible refine Fr_if ?_ ?_
    | with_reducible refine Fr_nxS (kept.upF (by assumption) (by decide)) (fun _ _ => ?_)
    | with_reducible refine Fr_nxS (kept.upA (by assumption) (by decide)) (fun _ _ => ?_)
    | with_reducible refine Fr_nxI (fun _ => ?_)
    | with_reducible refine Fr_bdS1 ?_ (fun _ _ => ?_)
    | with_reducible refine Fr_bdI1 (fun _ => ?_)
    | with_reducible refine Fr_bdS2 ?_ (fun _ _ _ => ?_)
    | with_reducible refine Fr_bdI2 (fun _ _ => ?_)
    | with_reducible exact (fr_mX12_whyNot _ _ _ _).to (by assumption) (by decide) (by decide)
    | with_reducible exact (fr_mX12_goes _ _ _ _ _ _).to (by assumption) (by decide) (by decide)
theorem fr_mX12_deep (S0 : St) (a1 : Int) (a2 : Int) (a3 : Int) : Fr [90, 91, 92, 96, 97, 98] [(83, 20), (83, 21), (83, 22), (83, 23), (83, 24), (83, 25), (83, 26), (83, 27), (83, 31), (83, 32)] (fun o : Int × St => o.2) S0 (mX12_deep S0 a1 a2 a3) := by
  unfold mX12_deep
  have hS : kept [90, 91, 92, 96, 97, 98] [(83, 20), (83, 21), (83, 22), (83, 23), (83, 24), (83, 25), (83, 26), (83, 27), (83, 31), (83, 32)] S0 S0 := kept.rf
  repeat' first
    | with_reducible exact Fr_none
    | (with_reducible refine Fr_some ?_; assumption)
    | with_reducible refine Fr_gd ?_
    | with_reducible refine Fr_if ?_ ?_
    | with_reducible refine Fr_nxS (kept.upF (by assumption) (by decide)) (fun _ _ => ?_)
    | with_reducible refine Fr_nxS (kept.upA (by assumption) (by decide)) (fun _ _ => ?_)
    | with_reducible refine Fr_nxI (fun _ => ?_)
    | with_reducible refine Fr_bdS1 ?_ (fun _ _ => ?_)
    | with_reducible refine Fr_bdI1 (fun _ => ?_)
    | with_reducible refine Fr_bdS2 ?_ (fun _ _ _ => ?_)
    | with_reducible refine Fr_bdI2 (fun _ _ => ?_)
    | with_reducible exact (fr_mX12_whyNot _ _ _ _).to (by assumption) (by decide) (by decide)
    | with_reducible exact (fr_mX12_goes _ _ _ _ _ _).to (by assumption) (by decide) (by decide)
theorem fr_mX12_atoms (S0 : St) (a1 : Int) (a2 : Int) (a3 : Int) (a4 : Int) : Fr [90, 91, 92, 96, 97, 98] [(83, 20), (83, 21), (83, 22), (83, 23), (83, 24), (83, 25), (83, 26), (83, 27), (83, 31), (83, 32)] (fun o : Int × St => o.2) S0 (mX12_atoms S0 a1 a2 a3 a4) := by
  unfold mX12_atoms
  have hS : kept [90, 91, 92, 96, 97, 98] [(83, 20), (83, 21), (83, 22), (83, 23), (83, 24), (83, 25), (83, 26), (83, 27), (83, 31), (83, 32)] S0 S0 := kept.rf
  repeat' first
    | with_reducible exact Fr_none
    | (with_reducible refine Fr_some ?_; assumption)
    | with_reducible refine Fr_gd ?_
    | with_reducible refine Fr_if ?_ ?_
    | with_reducible refine Fr_nxS (kept.upF (by assumption) (by decide)) (fun _ _ => ?_)
    | with_reducible refine Fr_nxS (kept.upA (by assumption) (by decide)) (fun _ _ => ?_)
    | with_reducible refine Fr_nxI (fun _ => ?_)
    | with_reducible refine Fr_bdS1 ?_ (fun _ _ => ?_)
    | with_reducible refine Fr_bdI1 (fun _ => ?_)
    | with_reducible refine Fr_bdS2 ?_ (fun _ _ _ => ?_)
    | with_reducible refine Fr_bdI2 (fun _ _ => ?_)
    | with_reducible exact (fr_mX12_whyNot _ _ _ _).to (by assumption) (by decide) (by decide)
    | with_reducible exact (fr_mX12_goes _ _ _ _ _ _).to (by assumption) (by decide) (by decide)
theorem fr_mX12_term (S0 : St) (a1 : Int) (a2 : Int) (a3 : Int) : Fr [90, 91, 92, 96, 97, 98] [(83, 20), (83, 21), (83, 22), (83, 23), (83, 24), (83, 25), (83, 26), (83, 27), (83, 31), (83, 32)] (fun o : Int × St => o.2) S0 (mX12_term S0 a1 a2 a3) := by
  unfold mX12_term
  have hS : kept [90, 91, 92, 96, 97, 98] [(83, 20), (83, 21), (83, 22), (83, 23), (83, 24), (83, 25), (83, 26), (83, 27), (83, 31), (83, 32)] S0 S0 := kept.rf
  repeat' first
    | with_reducible exact Fr_none
    | (with_reducible refine Fr_some ?_; assumption)
    | with_reducible refine Fr_gd ?_
    | with_reducible refine Fr_if ?_ ?_
    | with_reducible refine Fr_nxS (kept.upF (by assumption) (by decide)) (fun _ _ => ?_)
    | with_reducible refine Fr_nxS (kept.upA (by assumption) (by decide)) (fun _ _ => ?_)
    | with_reducible refine Fr_nxI (fun _ => ?_)
    | with_reducible refine Fr_bdS1 ?_ (fun _ _ => ?_)
    | with_reducible refine Fr_bdI1 (fun _ => ?_)
    | with_reducible refine Fr_bdS2 ?_ (fun _ _ _ => ?_)
    | with_reducible refine Fr_bdI2 (fun _ _ => ?_)
    | with_reducible exact (fr_mX12_whyNot _ _ _ _).to (by assumption) (by decide) (by decide)
    | with_reducible exact (fr_mX12_goes _ _ _ _ _ _).to (by assumption) (by decide) (by decide)
theorem fr_mX12_symmetries (S0 : St) (a1 : Int) (a2 : Int) (a3 : Int) : Fr [90, 91, 92, 96, 97, 98] [(83, 20), (83, 21), (83, 22), (83, 23), (83, 24), (83, 25), (83, 26), (83, 27), (83, 31), (83, 32)] (fun o : Int × St => o.2) S0 (mX12_symmetries S0 a1 a2 a3) := by
  unfold mX12_symmetries
  have hS : kept [90, 91, 92, 96, 97, 98] [(83, 20), (83, 21), (83, 22), (83, 23), (83, 24), (83, 25), (83, 26), (83, 27), (83, 31), (83, 32)] S0 S0 := kept.rf
  repeat' first
    | with_reducible exact Fr_none
    | (with_reducible refine Fr_some ?_; assumption)
    | with_reducible refine Fr_gd ?_
    | with_reducible refine Fr_if ?_ ?_
    | with_reducible refine Fr_nxS (kept.upF (by assumption) (by decide)) (fun _ _ => ?_)
    | with_reducible refine Fr_nxS (kept.upA (by assumption) (by decide)) (fun _ _ => ?_)
    | with_reducible refine Fr_nxI (fun _ => ?_)
    | with_reducible refine Fr_bdS1 ?_ (fun _ _ => ?_)
    | with_reducible refine Fr_bdI1 (fun _ => ?_)
    | with_reducible refine Fr_bdS2 ?_ (fun _ _ _ => ?_)
    | with_reducible refine Fr_bdI2 (fun _ _ => ?_)
    | with_reducible exact (fr_mX12_whyNot _ _ _ _).to (by assumption) (by decide) (by decide)
    | with_reducible exact (fr_mX12_goes _ _ _ _ _ _).to (by assumption) (by decide) (by decide)
