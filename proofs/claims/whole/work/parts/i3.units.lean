/-! units: what stands for their number is an int -/
def VU (M : Int → Int) : Prop := ∀ x : Int, 0 ≤ x → x < 24 → (x < M 2 ∧ M (24 + x) ≠ 1) ∨ inI (M (48 + x))
theorem VU.eq {M M' : Int → Int} (h : VU M) (k : ∀ z : Int, z = 2 ∨ (24 ≤ z ∧ z < 72) → M' z = M z) : VU M' := fun x a b => by
  rw [k 2 (Or.inl rfl), k (24 + x) (Or.inr (by omega)), k (48 + x) (Or.inr (by omega))]
  exact h x a b
theorem VU.srt {M M' : Int → Int} {x : Int} (h : VU M) (hx : 0 ≤ x ∧ x < 24) (h2 : x < M 2) (k : ∀ z : Int, z ≠ 24 + x → z ≠ 48 + x → M' z = M z) (hv : M' (24 + x) ≠ 1) : VU M' := fun y a b => by
  rw [k 2 (by omega) (by omega)]
  by_cases c : y = x
  · subst c; exact Or.inl ⟨h2, hv⟩
  · rw [k (24 + y) (by omega) (by omega), k (48 + y) (by omega) (by omega)]
    exact h y a b
theorem VU.prt {M M' : Int → Int} (h : VU M) (k : ∀ z : Int, z ≠ 2 → M' z = M z) (hv : M' 2 = M 2 + 1) : VU M' := fun y a b => by
  rw [k (24 + y) (by omega), k (48 + y) (by omega), hv]
  rcases h y a b with c | c
  · exact Or.inl ⟨by omega, c.2⟩
  · exact Or.inr c
theorem VU.unit {M M' : Int → Int} (h : VU M) (k : ∀ z : Int, z ≠ 2 → z ≠ 24 + M 2 → M' z = M z) (hv : M' 2 = M 2 + 1) (hx : 0 ≤ M 2 ∧ M 2 < 24) : VU M' := fun y a b => by
  rw [k (48 + y) (by omega) (by omega), hv]
  rcases h y a b with c | c
  · rw [k (24 + y) (by omega) (by omega)]
    exact Or.inl ⟨by omega, c.2⟩
  · exact Or.inr c
theorem Pc_bdE {α β : Type} {x : Option α} {f : α → Option β} {Q : β → Prop} (h : ∀ a, x = some a → Pc (f a) Q) : Pc (bd1 x f) Q := Pc_bd1 h
theorem z4_of {z r : Int} (h : mX12_in z 4 5 = some r) (h0 : r = 0) : z ≠ 4 := fun e => by
  subst e
  rw [h0] at h
  have k : mX12_in 4 4 5 = some 1 := by decide
  rw [k] at h
  cases h
def VUp (rec : Nat → Int → Int → Int → St → Option (Int × St)) : Prop := ∀ (L tm : Int) (T : St), IB (T 84) → VU (T 84) → Pc (rec 2 L tm 0 T) (fun o => o.2 83 10 = 0 → VU (o.2 84))
def VUi (rec : Nat → Int → Int → Int → St → Option (Int × St)) : Prop := ∀ (x s L : Int) (T : St), IB (T 84) → VU (T 84) → 0 ≤ x → x < T 84 2 → s ≠ 1 → Pc (rec 1 x s L T) (fun o => o.2 83 10 = 0 → VU (o.2 84))
def VUx (rec : Nat → Int → Int → Int → St → Option (Int × St)) : Prop := ∀ (e L : Int) (T : St), IB (T 84) → VU (T 84) → 0 ≤ e → Pc (rec 0 e L 0 T) (fun o => o.2 83 10 = 0 → VU (o.2 84))
theorem vu_X {rec : Nat → Int → Int → Int → St → Option (Int × St)} (hI : VUi rec) (hE : VUx rec) {T S_53 : St} {a1 z_1 z_4 r_8 : Int} (ib : IB (T 84)) (hu : VU (T 84)) (h24 : ¬ T 84 2 = 24) (e53 : S_53 84 = (up T 84 2 (T 84 2 + 1)) 84) (hz : z_1 ≠ 4) : Pc (if r_8 = 0 then (if 0 ≤ z_1 then (if z_1 = 3 then (gd (0 ≤ (24 + T 84 2) ∧ (24 + T 84 2) < 228) <| nx (up S_53 84 (24 + T 84 2) 1) fun S_70 => some (S_70)) else (if z_1 = 2 then (bd1 (mX12_readsAtom S_53 (T 84 2)) fun S_68 => some (S_68)) else (bd2 (rec 1 (T 84 2) (z_1 - 3) a1 S_53) fun _ S_65 => some (S_65)))) else (gd (0 ≤ (24 + T 84 2) ∧ (24 + T 84 2) < 228) <| nx (up S_53 84 (24 + T 84 2) 2) fun S_72 => gd (0 ≤ (48 + T 84 2) ∧ (48 + T 84 2) < 228) <| nx (up S_72 84 (48 + T 84 2) z_4) fun S_74 => some (S_74))) else (gd (0 ≤ (24 + T 84 2) ∧ (24 + T 84 2) < 228) <| nx (up S_53 84 (24 + T 84 2) 7) fun S_76 => gd (0 ≤ (48 + T 84 2) ∧ (48 + T 84 2) < 228) <| nx (up S_76 84 (48 + T 84 2) (6 + T 84 2)) fun S_78 => bd2 (rec 0 (6 + T 84 2) (a1 + 1) 0 S_78) fun _ S_80 => gd (inI (S_80 83 10)) <| if (S_80 83 10) = 0 then (bd1 (mX12_needs S_80 41) fun S_85 => some (S_85)) else (some (S_80)))) (fun o => o 83 10 = 0 → VU (o 84)) := by
  have hx : 0 ≤ T 84 2 ∧ T 84 2 < 24 := by unfold IB at ib; omega
  have p : LKr 1 (T 84) (S_53 84) := by
    rw [e53]
    exact LKr.prt ib h24 (fun k hk => up_nk hk) up_eq
  have v : VU (S_53 84) := by
    rw [e53]
    exact hu.prt (fun k hk => up_nk hk) up_eq
  have l2 : T 84 2 < S_53 84 2 := by
    rw [e53, up_eq]
    omega
  refine Pc_if (fun _ => Pc_if (fun _ => Pc_if (fun _ => ?_) (fun _ => Pc_if (fun _ => ?_) (fun _ => ?_))) (fun _ => ?_)) (fun _ => ?_)
  · refine Pc_gd fun _ => Pc_nx (Pc_some fun _ => hu.unit (fun k a b => ?_) ?_ hx)
    · rw [up_nk b, e53, up_nk a]
    · rw [up_nk (by omega), e53, up_eq]
  · refine Pc_bd1 fun S h => Pc_some fun z => ?_
    obtain ⟨a, b⟩ := Pat S h z
    exact v.srt hx l2 a (by rw [b]; decide)
  · exact Pc_bd2 fun o h => Pc_some fun z => hI _ _ _ _ p.1 v hx.1 l2 (by omega) o h z
  · refine Pc_gd fun _ => Pc_nx (Pc_gd fun _ => Pc_nx (Pc_some fun _ => v.srt hx l2 (fun k a b => by rw [up_nk b, up_nk a]) (by rw [up_nk (by omega), up_eq]; decide)))
  · refine Pc_gd fun _ => Pc_nx (Pc_gd fun _ => Pc_nx (Pc_bd2 fun o h => Pc_gd fun _ => Pc_if (fun z => ?_) (fun z => Pc_some fun w => absurd w z)))
    have q : LKr 0 (S_53 84) ((up (up S_53 84 (24 + T 84 2) 7) 84 (48 + T 84 2) (6 + T 84 2)) 84) := LKr.srt p.1 hx (fun k a b => by rw [up_nk b, up_nk a]) (by rw [up_nk (by omega), up_eq]; omega)
    have vq : VU ((up (up S_53 84 (24 + T 84 2) 7) 84 (48 + T 84 2) (6 + T 84 2)) 84) := v.srt hx l2 (fun k a b => by rw [up_nk b, up_nk a]) (by rw [up_nk (by omega), up_eq]; decide)
    have r := hE _ _ _ q.1 vq (by omega) o h z
    refine Pc_bd1 fun S h' => Pc_some fun _ => ?_
    rw [Pnd S h']
    exact r
theorem vu_tl {X : Int → St → Option St} {T : St} (hX : ∀ S_53 : St, S_53 84 = (up T 84 2 (T 84 2 + 1)) 84 → Pc (X (T 84 2) S_53) (fun o => o 83 10 = 0 → VU (o 84))) : Pc (nx (T 84 2) fun x_50 => nx (up T 84 2 ((T 84 2) + 1)) fun S_51 => bd1 (mX12_next S_51) fun S_53 => bd1 (X x_50 S_53) fun S_54 => gd (inI (S_54 83 10)) <| if (S_54 83 10) = 0 then (some (x_50, S_54)) else (some ((-1), S_54))) (fun o : Int × St => o.2 83 10 = 0 → VU (o.2 84)) := by
  refine Pc_nx (Pc_nx (Pc_bd1 fun S53 h => Pc_bd1 fun S54 k => Pc_gd fun _ => Pc_if (fun z => Pc_some fun _ => hX S53 (Pn S53 h).1 S54 k z) (fun z => Pc_some fun w => absurd w z)))
theorem vu_part {rec : Nat → Int → Int → Int → St → Option (Int × St)} (hI : VUi rec) (hE : VUx rec) {T : St} {L tm : Int} (ib : IB (T 84)) (hu : VU (T 84)) : Pc (bX12_readsPart rec T L tm) (fun o => o.2 83 10 = 0 → VU (o.2 84)) := by
  unfold bX12_readsPart
  repeat' first
    | with_reducible exact Pf2
    | with_reducible refine vu_tl (fun S53 h53 => ?_)
    | with_reducible exact vu_X hI hE ib hu (by assumption) (by assumption) (z4_of (by assumption) (by assumption))
    | with_reducible refine Pc_gd (fun _ => ?_)
    | with_reducible refine Pc_if (fun _ => ?_) (fun _ => ?_)
    | with_reducible refine Pc_bdE (fun _ _ => ?_)
theorem vu_in {rec : Nat → Int → Int → Int → St → Option (Int × St)} (hP : VUp rec) {T : St} {x s L : Int} (ib : IB (T 84)) (hu : VU (T 84)) (h0 : 0 ≤ x) (h2 : x < T 84 2) (hs : s ≠ 1) : Pc (bX12_readsIn rec T x s L) (fun o => o 83 10 = 0 → VU (o 84)) := by
  have h1 : x < 24 := by unfold IB at ib; omega
  unfold bX12_readsIn
  refine Pc_gd fun _ => Pc_nx (Pc_bd2 ?_)
  have m : Pc (gd (inI ((up T 84 (24 + x) s) 83 8)) <| if ((up T 84 (24 + x) s) 83 8) = 2 then (gd (inI ((up T 84 (24 + x) s) 83 9)) <| bd1 (mX12_in ((up T 84 (24 + x) s) 83 9) 1 7) fun r_20 => gd (inI r_20) <| if r_20 = 0 then (some ((0 : Nat), (up T 84 (24 + x) s))) else (gd (0 ≤ (48 + x) ∧ (48 + x) < 228) <| nx (up (up T 84 (24 + x) s) 84 (48 + x) ((up T 84 (24 + x) s) 83 9)) fun S_24 => bd1 (mX12_next S_24) fun S_26 => some (1, S_26))) else (some (1, (up T 84 (24 + x) s)))) (fun o => o.1 ≠ 0 → IB (o.2 84) ∧ VU (o.2 84)) := by
    refine Pc_gd fun _ => Pc_if (fun _ => ?_) (fun _ => Pc_some fun _ => show IB ((up T 84 (24 + x) s) 84) ∧ VU ((up T 84 (24 + x) s) 84) from ⟨(LKr.sq ib ⟨h0, h1⟩ (fun k a _ => up_nk a) : LKr (-1) (T 84) ((up T 84 (24 + x) s) 84)).1, hu.srt (x := x) ⟨h0, h1⟩ h2 (fun k a _ => up_nk a) (by rw [up_eq]; exact hs)⟩)
    refine Pc_gd fun _ => Pc_bd1 fun _ _ => Pc_gd fun _ => Pc_if (fun _ => Pc_some fun w => absurd rfl w) (fun _ => ?_)
    refine Pc_gd fun _ => Pc_nx (Pc_bd1 fun S h => Pc_some fun _ => ?_)
    show IB (S 84) ∧ VU (S 84)
    rw [(Pn S h).1]
    exact ⟨(LKr.sq ib ⟨h0, h1⟩ (fun k a b => by rw [up_nk b, up_nk a]) : LKr (-1) (T 84) ((up (up T 84 (24 + x) s) 84 (48 + x) ((up T 84 (24 + x) s) 83 9)) 84)).1, hu.srt (x := x) ⟨h0, h1⟩ h2 (fun k a b => by rw [up_nk b, up_nk a]) (by rw [up_nk (by omega), up_eq]; exact hs)⟩
  refine Pc_mono m fun o ho => Pc_if (fun _ => Pf1) (fun w => ?_)
  have a := ho w
  refine Pc_bd2 fun r hr => Pc_gd fun _ => Pc_nx (Pc_some fun z => ?_)
  have b := hP _ _ _ a.1 a.2 r hr z
  exact b.eq (M' := (up r.2 84 (72 + x) r.1) 84) (fun z hz => up_nk (by omega))
theorem vu_118 {rec : Nat → Int → Int → Int → St → Option (Int × St)} (lP : LKp rec) (hP : VUp rec) {x e L : Int} : ∀ (f : Nat) (v : Int) (T : St), IB (T 84) → VU (T 84) → 0 ≤ v → v < 24 → Pc (mX12_readsExpr_118 rec x e L f v T) (fun o => o 83 10 = 0 → VU (o 84)) := by
  intro f
  induction f with
  | zero => intro v T _ _ _ _; rw [mX12_readsExpr_118]; exact Pc_none
  | succ f ih =>
    intro v T ib hu h0 h1
    have bad : ∀ (f : Nat) (v : Int) (T : St), T 83 10 ≠ 0 → Pc (mX12_readsExpr_118 rec x e L f v T) (fun o => o = T) := by
      intro f v T hb
      cases f with
      | zero => rw [mX12_readsExpr_118]; exact Pc_none
      | succ f =>
        rw [mX12_readsExpr_118]
        exact Pc_gd fun _ => Pc_if (fun w => absurd w hb) (fun _ => Pc_some rfl)
    rw [mX12_readsExpr_118]
    refine Pc_gd fun _ => Pc_if (fun _ => ?_) (fun w => Pc_some fun z => absurd z w)
    refine Pc_bd1 fun _ _ => Pc_gd fun _ => Pc_if (fun _ => Pc_some fun _ => hu) (fun _ => ?_)
    refine Pc_bd1 fun S h => Pc_bd2 fun r hr => Pc_gd fun _ => Pc_if (fun z => ?_) (fun z => ?_)
    · have eS := (Pn S h).1
      obtain ⟨a, b, c⟩ := lP _ _ _ (by rw [eS]; exact ib) r hr z
      have vr := hP _ _ _ (by rw [eS]; exact ib) (by rw [eS]; exact hu) r hr z
      refine Pc_gd fun _ => Pc_nx ?_
      have d : LKr (-1) (r.2 84) ((up r.2 84 (96 + v) r.1) 84) := LKr.nxt a.1 (by omega) (fun k hk => up_nk hk)
      exact ih r.1 _ d.1 (vr.eq (M' := (up r.2 84 (96 + v) r.1) 84) (fun z hz => up_nk (by omega))) b c
    · exact Pc_mono (bad f v r.2 z) fun o ho w => absurd (by rw [← ho]; exact w) z
theorem vu_5 {rec : Nat → Int → Int → Int → St → Option (Int × St)} (lP : LKp rec) (hP : VUp rec) {e L : Int} (he : 0 ≤ e) : ∀ (f : Nat) (last more : Int) (T : St), IB (T 84) → VU (T 84) → last < 24 → Pc (mX12_readsExpr_5 rec e L f last more T) (fun o => o.2 83 10 = 0 → VU (o.2 84)) := by
  intro f
  induction f with
  | zero => intro _ _ T _ _ _; rw [mX12_readsExpr_5]; exact Pc_none
  | succ f ih =>
    intro last more T ib hu hl
    rw [mX12_readsExpr_5]
    refine Pc_gd fun _ => Pc_if (fun _ => Pc_some fun _ => hu) (fun _ => ?_)
    refine Pc_gd fun g198 => Pc_bd1 fun _ _ => Pc_bd2 fun r hr => Pc_gd fun _ => Pc_if (fun z => ?_) (fun z => Pc_some fun w => absurd w z)
    obtain ⟨a, b, c⟩ := lP _ _ _ ib r hr z
    have vr := hP _ _ _ ib hu r hr z
    refine Pc_nx (Pc_nx (Pc_gd fun _ => Pc_nx (Pc_bd1 ?_)))
    have z27 : Pc (gd (inI last) <| if 0 ≤ last then (some ((144 + last))) else (some ((168 + e)))) (fun q => 144 ≤ q ∧ q < 198) := Pc_gd fun _ => Pc_if (fun _ => Pc_some ⟨by omega, by omega⟩) (fun _ => Pc_some ⟨by omega, by omega⟩)
    refine Pc_mono z27 fun q hq => Pc_gd fun _ => Pc_nx (Pc_nx (Pc_gd fun _ => Pc_nx ?_))
    have h52 : r.2 84 5 < r.2 84 2 := by
      have := a.2.2
      unfold IB at ib
      omega
    have ia := a.1
    have i5 : 0 ≤ r.2 84 5 ∧ r.2 84 5 < 24 := by unfold IB at ia; omega
    have d : LKr (-1) (r.2 84) ((up (up (up (up r.2 84 5 (r.2 84 5 + 1)) 84 (120 + r.2 84 5) r.1) 84 q (r.2 84 5)) 84 (198 + e) ((up (up (up r.2 84 5 (r.2 84 5 + 1)) 84 (120 + r.2 84 5) r.1) 84 q (r.2 84 5)) 84 (198 + e) + 1)) 84) := by
      refine LKr.trm (x := r.2 84 5) (z := q) (e := e) a.1 rfl h52 hq he (fun k k1 k2 k3 k4 => ?_) ?_ ?_
      · rw [up_nk k4, up_nk k3, up_nk k2, up_nk k1]
      · rw [up_nk (by omega), up_nk (by omega), up_nk (by omega), up_eq]
      · rw [up_eq, up_nk (by omega), up_nk (by omega), up_nk (by omega)]
    have vd : VU ((up (up (up (up r.2 84 5 (r.2 84 5 + 1)) 84 (120 + r.2 84 5) r.1) 84 q (r.2 84 5)) 84 (198 + e) ((up (up (up r.2 84 5 (r.2 84 5 + 1)) 84 (120 + r.2 84 5) r.1) 84 q (r.2 84 5)) 84 (198 + e) + 1)) 84) := vr.eq (fun k hk => by rw [up_nk (by omega), up_nk (by omega), up_nk (by omega), up_nk (by omega)])
    refine Pc_bd1 fun S37 h37 => Pc_gd fun _ => Pc_if (fun w => ?_) (fun w => ?_)
    · have g := lk_118 lP FU r.1 _ d.1 b c S37 h37 w
      have vg := vu_118 lP hP FU r.1 _ d.1 vd b c S37 h37 w
      refine Pc_bd1 fun _ _ => Pc_gd fun _ => Pc_if (fun _ => ?_) (fun _ => Pc_bd1 fun S50 h50 => ?_)
      · exact ih _ 0 S37 g.1 vg i5.2
      · have e50 := (Pn S50 h50).1
        exact ih _ 1 S50 (by rw [e50]; exact g.1) (by rw [e50]; exact vg) i5.2
    · cases f with
      | zero => rw [mX12_readsExpr_5]; exact Pc_none
      | succ f =>
        rw [mX12_readsExpr_5]
        exact Pc_gd fun _ => Pc_if (fun _ => Pc_some fun w' => absurd w' w) (fun w' => absurd rfl w')
theorem vu_RX : ∀ g : Nat, VUp (RX12_readsExpr g) ∧ VUi (RX12_readsExpr g) ∧ VUx (RX12_readsExpr g) := by
  intro g
  induction g with
  | zero => exact ⟨fun _ _ _ _ _ => by rw [RX12_readsExpr]; exact Pc_none, fun _ _ _ _ _ _ _ _ _ => by rw [RX12_readsExpr]; exact Pc_none, fun _ _ _ _ _ _ => by rw [RX12_readsExpr]; exact Pc_none⟩
  | succ g ih =>
    obtain ⟨i1, i2, i3⟩ := ih
    have l1 := (lk_RX g).1
    refine ⟨fun L tm T ib hu => ?_, fun x s L T ib hu h0 h1 hs => ?_, fun e L T ib hu he => ?_⟩
    · rw [RX12_readsExpr, if_neg (by decide), if_neg (by decide), if_pos rfl]
      exact vu_part i2 i3 ib hu
    · rw [RX12_readsExpr, if_neg (by decide), if_pos rfl]
      exact Pc_bd1 fun S h => Pc_some fun z => vu_in i1 ib hu h0 h1 hs S h z
    · rw [RX12_readsExpr, if_pos rfl]
      unfold bX12_readsExpr
      refine Pc_bd1 (Pc_bd2 fun o ho => Pc_if (fun _ => Pc_some (Pc_some fun z => ?_)) (fun _ => Pc_some (Pc_some fun z => ?_)))
      · exact vu_5 l1 i1 he FU (-1) 1 T ib hu (by decide) o ho z
      · exact vu_5 l1 i1 he FU (-1) 1 T ib hu (by decide) o ho z
theorem vu_kind {T : St} (h : LKg (T 84)) (hu : VU (T 84)) : Pc (mX12_readsKind T) (fun o => o 83 10 = 0 → VU (o 84)) := by
  unfold mX12_readsKind
  refine Pc_gd fun _ => Pc_if (fun _ => ?_) (fun _ => Pf1)
  refine Pc_bd1 fun _ _ => Pc_gd fun _ => Pc_if (fun _ => ?_) (fun _ => Pf1)
  refine Pc_bd1 fun r _ => Pc_gd fun _ => Pc_if (fun _ => Pf1) (fun hr => ?_)
  refine Pc_gd fun _ => Pc_gd fun _ => Pc_if (fun _ => ?_) (fun _ => Pf1)
  refine Pc_bd1 fun S h1 => Pc_bd1 fun S2 h2 => Pc_gd fun _ => Pc_if (fun _ => ?_) (fun w => Pc_some fun z => absurd z w)
  have e : S2 84 = T 84 := (Pnd S2 h2).trans (Pn S h1).1
  refine Pc_bd1 fun S3 h3 => Pc_some fun z => ?_
  unfold mX12_readsExpr at h3
  have k : Pc (bd2 (RX12_readsExpr 40 0 r 0 0 S2) fun _ S1 => some S1) (fun o => o 83 10 = 0 → VU (o 84)) := Pc_bd2 fun o ho => Pc_some fun z => (vu_RX 40).2.2 r 0 S2 (by rw [e]; exact h.1) (by rw [e]; exact hu) (by omega) o ho z
  exact k S3 h3 z
theorem vu_45 : ∀ (f : Nat) (T : St), LKg (T 84) → VU (T 84) → Pc (mX12_grammar_45 f T) (fun o => o 83 10 = 0 → VU (o 84)) := by
  intro f
  induction f with
  | zero => intro T _ _; rw [mX12_grammar_45]; exact Pc_none
  | succ f ih =>
    intro T h hu
    rw [mX12_grammar_45]
    refine Pc_gd fun _ => Pc_if (fun _ => ?_) (fun w => Pc_some fun z => absurd z w)
    refine Pc_gd fun _ => Pc_if (fun _ => Pc_some fun _ => hu) (fun _ => Pc_bd1 ?_)
    have m : Pc (gd (inI (T 84 3)) <| if (T 84 3) = 0 then (bd1 (mX12_readsHead T) fun S_70 => some (S_70)) else (bd1 (mX12_readsKind T) fun S_68 => some (S_68))) (fun o => o 83 10 = 0 → LKg (o 84) ∧ VU (o 84)) := by
      refine Pc_gd fun _ => Pc_if (fun _ => ?_) (fun _ => ?_)
      · refine Pc_bd1 fun S hS => Pc_some fun _ => ?_
        have fr := fh_head T S hS
        have g : ∀ z : Int, z ≠ 0 → z ≠ 1 → S 84 z = T 84 z := fun z z0 z1 => fr 84 z (by decide) (by
          intro c
          simp only [List.mem_cons, Prod.mk.injEq, List.not_mem_nil, or_false] at c
          omega)
        exact ⟨h.eq fun z hz => g z (by omega) (by omega), hu.eq fun z hz => g z (by omega) (by omega)⟩
      · exact Pc_bd1 fun S hS => Pc_some fun z => ⟨lk_kind h S hS z, vu_kind h hu S hS z⟩
    refine Pc_mono m fun S hS => Pc_gd fun _ => Pc_if (fun z => ?_) (fun z => ?_)
    · refine Pc_bd1 fun S2 h2 => Pc_nx ?_
      obtain ⟨m1, m2⟩ := hS z
      refine ih _ ?_ ?_
      · refine m1.eq fun k hk => ?_
        rw [up_nk (by omega), Pnd S2 h2]
      · refine m2.eq fun k hk => ?_
        rw [up_nk (by omega), Pnd S2 h2]
    · cases f with
      | zero => rw [mX12_grammar_45]; exact Pc_none
      | succ f =>
        rw [mX12_grammar_45]
        exact Pc_gd fun _ => Pc_if (fun w => absurd w z) (fun _ => Pc_some fun w => absurd w z)
theorem vu_base {T : St} : VU ((flS T 84 228 M0) 84) := fun x a b => by
  have v : ∀ k : Int, 0 ≤ k → k < 228 → (flS T 84 228 M0) 84 k = M0 k := fun k a b => by
    show (if 84 = 84 then (fun k => if 0 ≤ k ∧ k < 228 then M0 k else T 84 k) else T 84) k = _
    rw [if_pos rfl]
    exact if_pos ⟨a, b⟩
  refine Or.inr ?_
  rw [v _ (by omega) (by omega)]
  unfold M0
  rw [if_neg (by omega)]
  decide
theorem vu_grammar {T : St} : Pc (mX12_grammar T) (fun o => 0 ≤ o.1 → VU (o.2 84)) := by
  unfold mX12_grammar
  refine Pc_bd1 fun S3 _ => Pc_bd1 fun S7 h7 => Pc_nx (Pc_nx (Pc_bd1 fun S11 h11 => Pc_bd1 fun S13 h13 => Pc_bd1 ?_))
  rw [e_clears] at h7
  cases h7
  have b : LKg (S11 84) := by
    rw [(Pn S11 h11).1]
    exact lk_base
  have bu : VU (S11 84) := by
    rw [(Pn S11 h11).1]
    exact vu_base
  have g := vu_45 FU S11 b bu S13 h13
  have m : Pc (gd (inI (S13 83 10)) <| if (S13 83 10) = 0 then (bd2 (mX12_wrongKind S13) fun r_40 S_41 => gd (inI r_40) <| if r_40 < 0 then (some (S_41)) else (nx (up S_41 83 10 1) fun S_44 => nx (up S_44 83 4 4) fun S_45 => bd2 (mX12_wrongKind S_45) fun r_47 S_48 => nx (up S_48 83 5 r_47) fun S_49 => some (S_49))) else (some (S13))) (fun o => o 83 10 = 0 → S13 83 10 = 0 ∧ o 84 = S13 84) := by
    refine Pc_gd fun _ => Pc_if (fun z => ?_) (fun z => Pc_some fun w => absurd w z)
    refine Pc_bd2 fun o ho => Pc_gd fun _ => ?_
    have f1 := (fr_mX12_wrongKind _ o ho).cell 84 (by decide) (by decide)
    refine Pc_if (fun _ => Pc_some fun _ => ⟨z, f1⟩) (fun _ => Pc_nx (Pc_nx (Pc_bd2 fun o2 h2 => Pc_nx (Pc_some fun _ => ⟨z, ?_⟩))))
    have f2 := (fr_mX12_wrongKind _ o2 h2).cell 84 (by decide) (by decide)
    show o2.2 84 = _
    exact f2.trans f1
  refine Pc_mono m fun S16 h16 => Pc_nx (Pc_gd fun _ => Pc_if (fun z => ?_) (fun _ => ?_))
  · obtain ⟨a, c⟩ := h16 z
    refine Pc_nx (Pc_nx (Pc_nx (Pc_some fun _ => ?_)))
    show VU (S16 84)
    rw [c]
    exact g a
  · exact Pc_bd1 fun S _ => Pc_some fun w => absurd w (show ¬ (0 : Int) ≤ -4 by decide)
theorem VU.same {M M' : Int → Int} (h : VU M) (s : same6 M M') : VU M' := h.eq fun z hz => s z (by omega)
/-- a part's number is an int -/
theorem hv_of {M : Int → Int} (w : WF M) (h : VU M) : ∀ p : Nat, (p : Int) < M 2 → inI (M (48 + (p : Int))) := fun p hp => by
  have hM0 := w.1
  have hM2 := w.2.2.1
  obtain ⟨ok1, ok2, ok3, ok4, ok5, ok6⟩ := w.2.2.2.1 p hp
  rcases h (p : Int) (by omega) (by omega) with c | c
  · have c2 := c.2
    by_cases t0 : M (24 + (p : Int)) = 0
    · have := ok3 t0
      unfold inI; omega
    · by_cases t2 : M (24 + (p : Int)) = 2
      · have := ok4 t2
        unfold inI; omega
      · by_cases t7 : M (24 + (p : Int)) = 7
        · have := (ok5 t7).1
          unfold inI; omega
        · have := (ok6 (by omega)).1
          unfold inI; omega
  · exact c
