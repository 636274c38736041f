/-! links of a grammar, counted while the reference reads it -/
def Pc {β : Type} (x : Option β) (Q : β → Prop) : Prop := ∀ q, x = some q → Q q
theorem Pc_none {β : Type} {Q : β → Prop} : Pc none Q := fun _ h => by cases h
theorem Pc_some {β : Type} {a : β} {Q : β → Prop} (h : Q a) : Pc (some a) Q := fun _ e => by cases e; exact h
theorem Pc_gd {β : Type} {c : Prop} [Decidable c] {x : Option β} {Q : β → Prop} (h : c → Pc x Q) : Pc (gd c x) Q := fun q e => h (gd_some e).1 q (gd_some e).2
theorem Pc_if {β : Type} {c : Prop} [Decidable c] {x y : Option β} {Q : β → Prop} (h : c → Pc x Q) (k : ¬ c → Pc y Q) : Pc (if c then x else y) Q := fun q e => by
  by_cases hc : c
  · rw [if_pos hc] at e; exact h hc q e
  · rw [if_neg hc] at e; exact k hc q e
theorem Pc_nx {α β : Type} {v : α} {f : α → Option β} {Q : β → Prop} (h : Pc (f v) Q) : Pc (nx v f) Q := h
theorem Pc_bd1 {α β : Type} {x : Option α} {f : α → Option β} {Q : β → Prop} (h : Pc x (fun a => Pc (f a) Q)) : Pc (bd1 x f) Q := fun q e => by
  cases x with
  | none => cases e
  | some a => exact h a rfl q e
theorem Pc_bd2 {α β γ : Type} {x : Option (α × β)} {f : α → β → Option γ} {Q : γ → Prop} (h : Pc x (fun a => Pc (f a.1 a.2) Q)) : Pc (bd2 x f) Q := fun q e => by
  cases x with
  | none => cases e
  | some a => exact h a rfl q e
theorem Pc_bdI {α β : Type} {x : Option α} {f : α → Option β} {Q : β → Prop} (h : ∀ a, Pc (f a) Q) : Pc (bd1 x f) Q := Pc_bd1 fun a _ => h a
theorem Pc_any {β : Type} {x : Option β} {Q : β → Prop} (h : ∀ a, Q a) : Pc x Q := fun a _ => h a
theorem Pc_mono {β : Type} {x : Option β} {P Q : β → Prop} (h : Pc x P) (k : ∀ a, P a → Q a) : Pc x Q := fun a e => k a (h a e)
/-- so many links -/
def lkE (M : Int → Int) : Nat := sm 30 (fun e => (M (198 + (e : Int))).toNat)
def lkN (M : Int → Int) : Nat := sm 24 (fun p => if 0 ≤ M (96 + (p : Int)) then 1 else 0)
def lkS (M : Int → Int) : Nat := sm 24 (fun p => if 3 ≤ M (24 + (p : Int)) ∧ M (24 + (p : Int)) ≤ 6 then 1 else 0)
def lkc (M : Int → Int) : Nat := lkE M + lkN M + lkS M
def IB (M : Int → Int) : Prop := (0 ≤ M 2 ∧ M 2 ≤ 24) ∧ 0 ≤ M 5 ∧ M 5 ≤ M 2
def LKr (c : Int) (M M' : Int → Int) : Prop := IB M' ∧ (lkc M' : Int) - M' 2 ≤ (lkc M : Int) - M 2 - c ∧ M' 5 - M' 2 ≤ M 5 - M 2 - c
theorem LKr.trans {a b : Int} {M M' M'' : Int → Int} (h : LKr a M M') (k : LKr b M' M'') : LKr (a + b) M M'' := ⟨k.1, by have := h.2.1; have := k.2.1; omega, by have := h.2.2; have := k.2.2; omega⟩
theorem LKr.rf {M : Int → Int} (h : IB M) : LKr 0 M M := ⟨h, by omega, by omega⟩
theorem sm_w {n j : Nat} {f g : Nat → Nat} (h : ∀ i, i < n → i ≠ j → f i ≤ g i) (hj : f j ≤ g j + 1) : sm n f ≤ sm n g + 1 := by
  induction n with
  | zero => exact Nat.zero_le _
  | succ n ih =>
    rw [sm_s, sm_s]
    by_cases c : n = j
    · subst c
      have := sm_mono (n := n) (f := f) (g := g) (fun i hi => h i (by omega) (by omega))
      omega
    · have := ih (fun i hi => h i (by omega))
      have := h n (by omega) c
      omega
theorem lkE_eq {M M' : Int → Int} (h : ∀ k : Int, 198 ≤ k → k < 228 → M' k = M k) : lkE M' = lkE M := sm_congr fun i hi => by
  rw [h (198 + (i : Int)) (by omega) (by omega)]
theorem lkN_eq {M M' : Int → Int} (h : ∀ k : Int, 96 ≤ k → k < 120 → M' k = M k) : lkN M' = lkN M := sm_congr fun i hi => by
  rw [h (96 + (i : Int)) (by omega) (by omega)]
theorem lkS_eq {M M' : Int → Int} (h : ∀ k : Int, 24 ≤ k → k < 48 → M' k = M k) : lkS M' = lkS M := sm_congr fun i hi => by
  rw [h (24 + (i : Int)) (by omega) (by omega)]
theorem lkS_up {M M' : Int → Int} {z : Int} (h : ∀ k : Int, 24 ≤ k → k < 48 → k ≠ z → M' k = M k) : lkS M' ≤ lkS M + 1 := by
  refine sm_w (j := (z - 24).toNat) (fun i hi hj => ?_) ?_
  · try dsimp only
    rw [h (24 + (i : Int)) (by omega) (by omega) (by omega)]
    exact Nat.le_refl _
  · try dsimp only
    split <;> omega
theorem lkS_dn {M M' : Int → Int} {z : Int} (h : ∀ k : Int, 24 ≤ k → k < 48 → k ≠ z → M' k = M k) (hz : M' z < 3 ∨ 6 < M' z) : lkS M' ≤ lkS M := by
  refine sm_mono (fun i hi => ?_)
  try dsimp only
  by_cases c : 24 + (i : Int) = z
  · rw [c, if_neg (by omega)]; exact Nat.zero_le _
  · rw [h (24 + (i : Int)) (by omega) (by omega) c]
    exact Nat.le_refl _
theorem lkN_up {M M' : Int → Int} {z : Int} (h : ∀ k : Int, 96 ≤ k → k < 120 → k ≠ z → M' k = M k) : lkN M' ≤ lkN M + 1 := by
  refine sm_w (j := (z - 96).toNat) (fun i hi hj => ?_) ?_
  · try dsimp only
    rw [h (96 + (i : Int)) (by omega) (by omega) (by omega)]
    exact Nat.le_refl _
  · try dsimp only
    split <;> omega
theorem lkE_up {M M' : Int → Int} {z : Int} (h : ∀ k : Int, 198 ≤ k → k < 228 → k ≠ z → M' k = M k) (hz : 198 ≤ z) (hv : M' z = M z + 1) : lkE M' ≤ lkE M + 1 := by
  refine sm_w (j := (z - 198).toNat) (fun i hi hj => ?_) ?_
  · try dsimp only
    rw [h (198 + (i : Int)) (by omega) (by omega) (by omega)]
    exact Nat.le_refl _
  · try dsimp only
    rw [show 198 + (((z - 198).toNat : Nat) : Int) = z by omega, hv]
    omega
/-- a part's sort and number are written -/
theorem LKr.srt {M M' : Int → Int} {x : Int} (ib : IB M) (hx : 0 ≤ x ∧ x < 24) (h : ∀ k : Int, k ≠ 24 + x → k ≠ 48 + x → M' k = M k) (hv : M' (24 + x) < 3 ∨ 6 < M' (24 + x)) : LKr 0 M M' := by
  have e2 := h 2 (by omega) (by omega)
  have e5 := h 5 (by omega) (by omega)
  have a := lkE_eq (M := M) (M' := M') (fun k _ _ => h k (by omega) (by omega))
  have b := lkN_eq (M := M) (M' := M') (fun k _ _ => h k (by omega) (by omega))
  have c := lkS_dn (M := M) (M' := M') (z := 24 + x) (fun k _ _ n => h k n (by omega)) hv
  unfold LKr IB lkc at *
  rw [e2, e5]
  omega
theorem LKr.sq {M M' : Int → Int} {x : Int} (ib : IB M) (hx : 0 ≤ x ∧ x < 24) (h : ∀ k : Int, k ≠ 24 + x → k ≠ 48 + x → M' k = M k) : LKr (-1) M M' := by
  have e2 := h 2 (by omega) (by omega)
  have e5 := h 5 (by omega) (by omega)
  have a := lkE_eq (M := M) (M' := M') (fun k _ _ => h k (by omega) (by omega))
  have b := lkN_eq (M := M) (M' := M') (fun k _ _ => h k (by omega) (by omega))
  have c := lkS_up (M := M) (M' := M') (z := 24 + x) (fun k _ _ n => h k n (by omega))
  unfold LKr IB lkc at *
  rw [e2, e5]
  omega
theorem LKr.chd {M M' : Int → Int} {z : Int} (ib : IB M) (hz : 48 ≤ z ∧ z < 96) (h : ∀ k : Int, k ≠ z → M' k = M k) : LKr 0 M M' := by
  have e2 := h 2 (by omega)
  have e5 := h 5 (by omega)
  have a := lkE_eq (M := M) (M' := M') (fun k _ _ => h k (by omega))
  have b := lkN_eq (M := M) (M' := M') (fun k _ _ => h k (by omega))
  have c := lkS_eq (M := M) (M' := M') (fun k _ _ => h k (by omega))
  unfold LKr IB lkc at *
  rw [e2, e5]
  omega
theorem LKr.nxt {M M' : Int → Int} {z : Int} (ib : IB M) (hz : 96 ≤ z ∧ z < 120) (h : ∀ k : Int, k ≠ z → M' k = M k) : LKr (-1) M M' := by
  have e2 := h 2 (by omega)
  have e5 := h 5 (by omega)
  have a := lkE_eq (M := M) (M' := M') (fun k _ _ => h k (by omega))
  have b := lkN_up (M := M) (M' := M') (z := z) (fun k _ _ n => h k n)
  have c := lkS_eq (M := M) (M' := M') (fun k _ _ => h k (by omega))
  unfold LKr IB lkc at *
  rw [e2, e5]
  omega
theorem LKr.trm {M M' : Int → Int} {x z e : Int} (ib : IB M) (hx : x = M 5) (h5 : M 5 < M 2) (hz : 144 ≤ z ∧ z < 198) (he : 0 ≤ e) (h : ∀ k : Int, k ≠ 5 → k ≠ 120 + x → k ≠ z → k ≠ 198 + e → M' k = M k) (e5 : M' 5 = x + 1) (hv : M' (198 + e) = M (198 + e) + 1) : LKr (-1) M M' := by
  unfold IB at ib
  have e2 := h 2 (by omega) (by omega) (by omega) (by omega)
  have a := lkE_up (M := M) (M' := M') (z := 198 + e) (fun k _ _ n => h k (by omega) (by omega) (by omega) n) (by omega) hv
  have b := lkN_eq (M := M) (M' := M') (fun k _ _ => h k (by omega) (by omega) (by omega) (by omega))
  have c := lkS_eq (M := M) (M' := M') (fun k _ _ => h k (by omega) (by omega) (by omega) (by omega))
  unfold LKr IB lkc at *
  rw [e2, e5]
  omega
/-- a part begun -/
theorem LKr.prt {M M' : Int → Int} (ib : IB M) (h24 : ¬ M 2 = 24) (h : ∀ k : Int, k ≠ 2 → M' k = M k) (hv : M' 2 = M 2 + 1) : LKr 1 M M' := by
  have e5 := h 5 (by omega)
  have a := lkE_eq (M := M) (M' := M') (fun k _ _ => h k (by omega))
  have b := lkN_eq (M := M) (M' := M') (fun k _ _ => h k (by omega))
  have c := lkS_eq (M := M) (M' := M') (fun k _ _ => h k (by omega))
  unfold LKr IB lkc at *
  rw [hv, e5]
  omega
/-! the leaves -/
theorem Pf {T : St} {k : Int} : Pc (mX12_faults T k) (fun o => o.2 83 10 ≠ 0) := by
  unfold mX12_faults
  refine Pc_gd fun _ => Pc_if (fun _ => ?_) (fun h => Pc_some h)
  refine Pc_nx (Pc_nx (Pc_nx (Pc_some ?_)))
  show (1 : Int) ≠ 0
  decide
theorem Pf2 {T : St} {k : Int} {R : Int × St → Prop} : Pc (bd2 (mX12_faults T k) fun r S => some (r, S)) (fun o => o.2 83 10 = 0 → R o) := Pc_bd2 fun a ha => Pc_some fun z => absurd z (Pf a ha)
theorem Pf1 {T : St} {k : Int} {R : St → Prop} : Pc (bd2 (mX12_faults T k) fun _ S => some S) (fun o => o 83 10 = 0 → R o) := Pc_bd2 fun a ha => Pc_some fun z => absurd z (Pf a ha)
theorem Pn {T : St} : Pc (mX12_next T) (fun o => o 84 = T 84 ∧ o 83 10 = T 83 10) := fun o h => ⟨(fr_mX12_next T o h).cell 84 (by decide) (by decide), fr_mX12_next T o h 83 10 (by decide) (by decide)⟩
theorem Pnd {T : St} {c : Int} : Pc (mX12_needs T c) (fun o => o 84 = T 84) := fun o h => (fr_mX12_needs T c o h).cell 84 (by decide) (by decide)
theorem Pat {T : St} {x : Int} : Pc (mX12_readsAtom T x) (fun o => o 83 10 = 0 → (∀ k : Int, k ≠ 24 + x → k ≠ 48 + x → o 84 k = T 84 k) ∧ o 84 (24 + x) = 0) := by
  unfold mX12_readsAtom
  refine Pc_gd fun _ => Pc_nx (Pc_gd fun _ => Pc_if (fun _ => ?_) (fun _ => Pf1))
  refine Pc_gd fun _ => Pc_if (fun _ => ?_) (fun _ => Pf1)
  refine Pc_gd fun _ => Pc_gd fun _ => Pc_nx (Pc_bd1 fun S h => Pc_some fun _ => ?_)
  obtain ⟨e, _⟩ := Pn S h
  rw [e]
  refine ⟨fun k a b => ?_, ?_⟩
  · rw [up_nk b, up_nk a]
  · rw [up_nk (by omega), up_eq]
/-! the readers -/
def LKp (rec : Nat → Int → Int → Int → St → Option (Int × St)) : Prop := ∀ (L tm : Int) (T : St), IB (T 84) → Pc (rec 2 L tm 0 T) (fun o => o.2 83 10 = 0 → LKr 1 (T 84) (o.2 84) ∧ 0 ≤ o.1 ∧ o.1 < 24)
def LKi (rec : Nat → Int → Int → Int → St → Option (Int × St)) : Prop := ∀ (x s L : Int) (T : St), IB (T 84) → 0 ≤ x → x < 24 → Pc (rec 1 x s L T) (fun o => o.2 83 10 = 0 → LKr 0 (T 84) (o.2 84))
def LKx (rec : Nat → Int → Int → Int → St → Option (Int × St)) : Prop := ∀ (e L : Int) (T : St), IB (T 84) → 0 ≤ e → Pc (rec 0 e L 0 T) (fun o => o.2 83 10 = 0 → LKr 0 (T 84) (o.2 84))
theorem lk_X {rec : Nat → Int → Int → Int → St → Option (Int × St)} (hI : LKi rec) (hE : LKx rec) {T S_53 : St} {a1 z_1 z_4 r_8 : Int} (ib : IB (T 84)) (h24 : ¬ T 84 2 = 24) (e53 : S_53 84 = (up T 84 2 (T 84 2 + 1)) 84) : Pc (if r_8 = 0 then (if 0 ≤ z_1 then (if z_1 = 3 then (gd (0 ≤ (24 + T 84 2) ∧ (24 + T 84 2) < 228) <| nx (up S_53 84 (24 + T 84 2) 1) fun S_70 => some (S_70)) else (if z_1 = 2 then (bd1 (mX12_readsAtom S_53 (T 84 2)) fun S_68 => some (S_68)) else (bd2 (rec 1 (T 84 2) (z_1 - 3) a1 S_53) fun _ S_65 => some (S_65)))) else (gd (0 ≤ (24 + T 84 2) ∧ (24 + T 84 2) < 228) <| nx (up S_53 84 (24 + T 84 2) 2) fun S_72 => gd (0 ≤ (48 + T 84 2) ∧ (48 + T 84 2) < 228) <| nx (up S_72 84 (48 + T 84 2) z_4) fun S_74 => some (S_74))) else (gd (0 ≤ (24 + T 84 2) ∧ (24 + T 84 2) < 228) <| nx (up S_53 84 (24 + T 84 2) 7) fun S_76 => gd (0 ≤ (48 + T 84 2) ∧ (48 + T 84 2) < 228) <| nx (up S_76 84 (48 + T 84 2) (6 + T 84 2)) fun S_78 => bd2 (rec 0 (6 + T 84 2) (a1 + 1) 0 S_78) fun _ S_80 => gd (inI (S_80 83 10)) <| if (S_80 83 10) = 0 then (bd1 (mX12_needs S_80 41) fun S_85 => some (S_85)) else (some (S_80)))) (fun o => o 83 10 = 0 → LKr 1 (T 84) (o 84)) := by
  have hx : 0 ≤ T 84 2 ∧ T 84 2 < 24 := by unfold IB at ib; omega
  have p : LKr 1 (T 84) (S_53 84) := by
    rw [e53]
    exact LKr.prt ib h24 (fun k hk => up_nk hk) up_eq
  have fin : ∀ M : Int → Int, LKr 0 (S_53 84) M → LKr 1 (T 84) M := fun M h => p.trans h
  refine Pc_if (fun _ => Pc_if (fun _ => Pc_if (fun _ => ?_) (fun _ => Pc_if (fun _ => ?_) (fun _ => ?_))) (fun _ => ?_)) (fun _ => ?_)
  · refine Pc_gd fun _ => Pc_nx (Pc_some fun _ => fin _ (LKr.srt p.1 hx (fun k a _ => up_nk a) (by rw [up_eq]; omega)))
  · refine Pc_bd1 fun S h => Pc_some fun z => ?_
    obtain ⟨a, b⟩ := Pat S h z
    exact fin _ (LKr.srt p.1 hx a (by rw [b]; omega))
  · exact Pc_bd2 fun o h => Pc_some fun z => fin _ (hI _ _ _ _ p.1 hx.1 hx.2 o h z)
  · refine Pc_gd fun _ => Pc_nx (Pc_gd fun _ => Pc_nx (Pc_some fun _ => fin _ (LKr.srt p.1 hx (fun k a b => by rw [up_nk b, up_nk a]) (by rw [up_nk (by omega), up_eq]; omega))))
  · refine Pc_gd fun _ => Pc_nx (Pc_gd fun _ => Pc_nx (Pc_bd2 fun o h => Pc_gd fun _ => Pc_if (fun z => ?_) (fun z => Pc_some fun w => absurd w z)))
    have q : LKr 0 (S_53 84) ((up (up S_53 84 (24 + T 84 2) 7) 84 (48 + T 84 2) (6 + T 84 2)) 84) := LKr.srt p.1 hx (fun k a b => by rw [up_nk b, up_nk a]) (by rw [up_nk (by omega), up_eq]; omega)
    have r := hE _ _ _ q.1 (by omega) o h z
    refine Pc_bd1 fun S h' => Pc_some fun _ => ?_
    rw [Pnd S h']
    exact fin _ (q.trans r)
theorem lk_tl {X : Int → St → Option St} {T : St} (ib : IB (T 84)) (h24 : ¬ T 84 2 = 24) (hX : ∀ S_53 : St, S_53 84 = (up T 84 2 (T 84 2 + 1)) 84 → Pc (X (T 84 2) S_53) (fun o => o 83 10 = 0 → LKr 1 (T 84) (o 84))) : Pc (nx (T 84 2) fun x_50 => nx (up T 84 2 ((T 84 2) + 1)) fun S_51 => bd1 (mX12_next S_51) fun S_53 => bd1 (X x_50 S_53) fun S_54 => gd (inI (S_54 83 10)) <| if (S_54 83 10) = 0 then (some (x_50, S_54)) else (some ((-1), S_54))) (fun o : Int × St => o.2 83 10 = 0 → LKr 1 (T 84) (o.2 84) ∧ 0 ≤ o.1 ∧ o.1 < 24) := by
  have hx : 0 ≤ T 84 2 ∧ T 84 2 < 24 := by unfold IB at ib; omega
  refine Pc_nx (Pc_nx (Pc_bd1 fun S53 h => Pc_bd1 fun S54 k => Pc_gd fun _ => Pc_if (fun z => Pc_some fun _ => ⟨hX S53 (Pn S53 h).1 S54 k z, hx⟩) (fun z => Pc_some fun w => absurd w z)))
theorem lk_part {rec : Nat → Int → Int → Int → St → Option (Int × St)} (hI : LKi rec) (hE : LKx rec) {T : St} {L tm : Int} (ib : IB (T 84)) : Pc (bX12_readsPart rec T L tm) (fun o => o.2 83 10 = 0 → LKr 1 (T 84) (o.2 84) ∧ 0 ≤ o.1 ∧ o.1 < 24) := by
  unfold bX12_readsPart
  repeat' first
    | with_reducible exact Pf2
    | with_reducible refine lk_tl ib (by assumption) (fun S53 h53 => ?_)
    | with_reducible exact lk_X hI hE ib (by assumption) (by assumption)
    | with_reducible refine Pc_gd (fun _ => ?_)
    | with_reducible refine Pc_if (fun _ => ?_) (fun _ => ?_)
    | with_reducible refine Pc_bdI (fun _ => ?_)
theorem lk_in {rec : Nat → Int → Int → Int → St → Option (Int × St)} (hP : LKp rec) {T : St} {x s L : Int} (ib : IB (T 84)) (h0 : 0 ≤ x) (h1 : x < 24) : Pc (bX12_readsIn rec T x s L) (fun o => o 83 10 = 0 → LKr 0 (T 84) (o 84)) := by
  unfold bX12_readsIn
  refine Pc_gd fun _ => Pc_nx (Pc_bd2 ?_)
  have m : Pc (gd (inI ((up T 84 (24 + x) s) 83 8)) <| if ((up T 84 (24 + x) s) 83 8) = 2 then (gd (inI ((up T 84 (24 + x) s) 83 9)) <| bd1 (mX12_in ((up T 84 (24 + x) s) 83 9) 1 7) fun r_20 => gd (inI r_20) <| if r_20 = 0 then (some ((0 : Nat), (up T 84 (24 + x) s))) else (gd (0 ≤ (48 + x) ∧ (48 + x) < 228) <| nx (up (up T 84 (24 + x) s) 84 (48 + x) ((up T 84 (24 + x) s) 83 9)) fun S_24 => bd1 (mX12_next S_24) fun S_26 => some (1, S_26))) else (some (1, (up T 84 (24 + x) s)))) (fun o => o.1 ≠ 0 → LKr (-1) (T 84) (o.2 84)) := by
    refine Pc_gd fun _ => Pc_if (fun _ => ?_) (fun _ => Pc_some fun _ => show LKr (-1) (T 84) ((up T 84 (24 + x) s) 84) from LKr.sq ib ⟨h0, h1⟩ (fun k a _ => up_nk a))
    refine Pc_gd fun _ => Pc_bd1 fun _ _ => Pc_gd fun _ => Pc_if (fun _ => Pc_some fun w => absurd rfl w) (fun _ => ?_)
    refine Pc_gd fun _ => Pc_nx (Pc_bd1 fun S h => Pc_some fun _ => ?_)
    show LKr (-1) (T 84) (S 84)
    rw [(Pn S h).1]
    exact LKr.sq ib ⟨h0, h1⟩ (fun k a b => by rw [up_nk b, up_nk a])
  refine Pc_mono m fun o ho => Pc_if (fun _ => Pf1) (fun w => ?_)
  have a := ho w
  refine Pc_bd2 fun r hr => Pc_gd fun _ => Pc_nx (Pc_some fun z => ?_)
  have b := (hP _ _ _ a.1 r hr z).1
  have c : LKr 0 (r.2 84) ((up r.2 84 (72 + x) r.1) 84) := LKr.chd b.1 (by omega) (fun k hk => up_nk hk)
  exact (a.trans b).trans c
theorem lk_118 {rec : Nat → Int → Int → Int → St → Option (Int × St)} (hP : LKp rec) {x e L : Int} : ∀ (f : Nat) (v : Int) (T : St), IB (T 84) → 0 ≤ v → v < 24 → Pc (mX12_readsExpr_118 rec x e L f v T) (fun o => o 83 10 = 0 → LKr 0 (T 84) (o 84)) := by
  intro f
  induction f with
  | zero => intro v T _ _ _; rw [mX12_readsExpr_118]; exact Pc_none
  | succ f ih =>
    intro v T ib h0 h1
    have bad : ∀ (f : Nat) (v : Int) (T : St), T 83 10 ≠ 0 → Pc (mX12_readsExpr_118 rec x e L f v T) (fun o => o = T) := by
      intro f v T hb
      cases f with
      | zero => rw [mX12_readsExpr_118]; exact Pc_none
      | succ f =>
        rw [mX12_readsExpr_118]
        exact Pc_gd fun _ => Pc_if (fun w => absurd w hb) (fun _ => Pc_some rfl)
    rw [mX12_readsExpr_118]
    refine Pc_gd fun _ => Pc_if (fun _ => ?_) (fun w => Pc_some fun z => absurd z w)
    refine Pc_bd1 fun _ _ => Pc_gd fun _ => Pc_if (fun _ => Pc_some fun _ => LKr.rf ib) (fun _ => ?_)
    refine Pc_bd1 fun S h => Pc_bd2 fun r hr => Pc_gd fun _ => Pc_if (fun z => ?_) (fun z => ?_)
    · have eS := (Pn S h).1
      obtain ⟨a, b, c⟩ := hP _ _ _ (by rw [eS]; exact ib) r hr z
      rw [eS] at a
      refine Pc_gd fun _ => Pc_nx ?_
      have d : LKr (-1) (r.2 84) ((up r.2 84 (96 + v) r.1) 84) := LKr.nxt a.1 (by omega) (fun k hk => up_nk hk)
      exact Pc_mono (ih r.1 _ d.1 b c) fun o ho w => (a.trans d).trans (ho w)
    · exact Pc_mono (bad f v r.2 z) fun o ho w => absurd (by rw [← ho]; exact w) z
theorem lk_5 {rec : Nat → Int → Int → Int → St → Option (Int × St)} (hP : LKp rec) {e L : Int} (he : 0 ≤ e) : ∀ (f : Nat) (last more : Int) (T : St), IB (T 84) → last < 24 → Pc (mX12_readsExpr_5 rec e L f last more T) (fun o => o.2 83 10 = 0 → LKr 0 (T 84) (o.2 84)) := by
  intro f
  induction f with
  | zero => intro _ _ T _ _; rw [mX12_readsExpr_5]; exact Pc_none
  | succ f ih =>
    intro last more T ib hl
    rw [mX12_readsExpr_5]
    refine Pc_gd fun _ => Pc_if (fun _ => Pc_some fun _ => LKr.rf ib) (fun _ => ?_)
    refine Pc_gd fun g198 => Pc_bd1 fun _ _ => Pc_bd2 fun r hr => Pc_gd fun _ => Pc_if (fun z => ?_) (fun z => Pc_some fun w => absurd w z)
    obtain ⟨a, b, c⟩ := hP _ _ _ ib r hr z
    refine Pc_nx (Pc_nx (Pc_gd fun _ => Pc_nx (Pc_bd1 ?_)))
    have z27 : Pc (gd (inI last) <| if 0 ≤ last then (some ((144 + last))) else (some ((168 + e)))) (fun q => 144 ≤ q ∧ q < 198) := Pc_gd fun _ => Pc_if (fun _ => Pc_some ⟨by omega, by omega⟩) (fun _ => Pc_some ⟨by omega, by omega⟩)
    refine Pc_mono z27 fun q hq => Pc_gd fun _ => Pc_nx (Pc_nx (Pc_gd fun _ => Pc_nx ?_))
    have h52 : r.2 84 5 < r.2 84 2 := by
      have := a.2.2
      unfold IB at ib
      omega
    have ia := a.1
    have d : LKr (-1) (r.2 84) ((up (up (up (up r.2 84 5 (r.2 84 5 + 1)) 84 (120 + r.2 84 5) r.1) 84 q (r.2 84 5)) 84 (198 + e) ((up (up (up r.2 84 5 (r.2 84 5 + 1)) 84 (120 + r.2 84 5) r.1) 84 q (r.2 84 5)) 84 (198 + e) + 1)) 84) := by
      have i5 : 0 ≤ r.2 84 5 ∧ r.2 84 5 < 24 := by unfold IB at ia; omega
      refine LKr.trm (x := r.2 84 5) (z := q) (e := e) a.1 rfl h52 hq he (fun k k1 k2 k3 k4 => ?_) ?_ ?_
      · rw [up_nk k4, up_nk k3, up_nk k2, up_nk k1]
      · rw [up_nk (by omega), up_nk (by omega), up_nk (by omega), up_eq]
      · rw [up_eq, up_nk (by omega), up_nk (by omega), up_nk (by omega)]
    have i5 : r.2 84 5 < 24 := by unfold IB at ia; omega
    refine Pc_bd1 fun S37 h37 => Pc_gd fun _ => Pc_if (fun w => ?_) (fun w => ?_)
    · have g := lk_118 hP FU r.1 _ d.1 b c S37 h37 w
      have t := (a.trans d).trans g
      refine Pc_bd1 fun _ _ => Pc_gd fun _ => Pc_if (fun _ => ?_) (fun _ => Pc_bd1 fun S50 h50 => ?_)
      · exact Pc_mono (ih _ 0 S37 g.1 i5) fun o ho w => t.trans (ho w)
      · have e50 := (Pn S50 h50).1
        refine Pc_mono (ih _ 1 S50 (by rw [e50]; exact g.1) i5) fun o ho w => ?_
        have u := ho w
        rw [e50] at u
        exact t.trans u
    · cases f with
      | zero => rw [mX12_readsExpr_5]; exact Pc_none
      | succ f =>
        rw [mX12_readsExpr_5]
        exact Pc_gd fun _ => Pc_if (fun _ => Pc_some fun w' => absurd w' w) (fun w' => absurd rfl w')
theorem lk_RX : ∀ g : Nat, LKp (RX12_readsExpr g) ∧ LKi (RX12_readsExpr g) ∧ LKx (RX12_readsExpr g) := by
  intro g
  induction g with
  | zero => exact ⟨fun _ _ _ _ => by rw [RX12_readsExpr]; exact Pc_none, fun _ _ _ _ _ _ _ => by rw [RX12_readsExpr]; exact Pc_none, fun _ _ _ _ _ => by rw [RX12_readsExpr]; exact Pc_none⟩
  | succ g ih =>
    obtain ⟨i1, i2, i3⟩ := ih
    refine ⟨fun L tm T ib => ?_, fun x s L T ib h0 h1 => ?_, fun e L T ib he => ?_⟩
    · rw [RX12_readsExpr, if_neg (by decide), if_neg (by decide), if_pos rfl]
      exact lk_part i2 i3 ib
    · rw [RX12_readsExpr, if_neg (by decide), if_pos rfl]
      exact Pc_bd1 fun S h => Pc_some fun z => lk_in i1 ib h0 h1 S h z
    · rw [RX12_readsExpr, if_pos rfl]
      unfold bX12_readsExpr
      refine Pc_bd1 (Pc_bd2 fun o ho => Pc_if (fun _ => Pc_some (Pc_some fun z => ?_)) (fun _ => Pc_some (Pc_some fun z => ?_)))
      · exact lk_5 i1 he FU (-1) 1 T ib (by decide) o ho z
      · exact lk_5 i1 he FU (-1) 1 T ib (by decide) o ho z
