/-! the reference: a bag found by its number -/
/-- those of a size that may be the greatest still -/
def mayS (c : Nat → Nat) (gr fi s : Nat) : Nat := if s = gr then fi else c s
theorem e_fb31 {c : Nat → Nat} {q n gr fi : Nat} {m o : Int} (hq : q < 30) (ho : o = 0 ∨ o = 1) (hn : n ≤ 7) (hgr : gr ≤ 8) (hfi : fi ≤ 1000000000000) (m1 : -1 ≤ lss m) (m7 : lss m ≤ 7) : ∀ (d s v f : Nat) (T : St), hasC T q c → s + d ≤ n → s + d ≤ gr → d + 1 < f → T 83 32 = (v : Int) → v ≤ 1000 → v < sm d (fun i => (fun s => sm (mayS c gr fi s) (bgG c (o == 1) m n s)) (s + 1 + i)) → sm d (fun i => (fun s => sm (mayS c gr fi s) (bgG c (o == 1) m n s)) (s + 1 + i)) ≤ 1000 → ∃ t w r u T', pkS (fun s => sm (mayS c gr fi s) (bgG c (o == 1) m n s)) d (s + 1) v = (t, w) ∧ pkS (bgG c (o == 1) m n t) (mayS c gr fi t) 0 w = (r, u) ∧ mX12_findsBag_31 (lss m) (fi : Int) (gr : Int) (n : Int) (q : Int) o f (-1) (s : Int) T = some ((t : Int), (r : Int), T') ∧ T' 83 32 = (u : Int) ∧ kept [] [(83, 32)] T T' := by
  intro d
  induction d with
  | zero => intro s v f T _ _ _ _ _ _ h _; exact absurd h (Nat.not_lt_zero _)
  | succ d ih =>
    intro s v f T hY hs hg hf hT hv h hB
    obtain ⟨f, rfl⟩ : ∃ f', f = f' + 1 := ⟨f - 1, by omega⟩
    have hvC : v < CC := by rw [CC_eq]; omega
    obtain ⟨y1, y2⟩ := hY (s + 1) (by omega)
    have bb := pl_lt2 (q := q) (s := s + 1) (i := 0) (N := 30) (B := 1920) hq (by omega) (by omega) (by decide)
    have z37 : (gd ((inI ((s : Int) + 1)) ∧ (inI (gr : Int))) <| if ((s : Int) + 1) = (gr : Int) then some (fi : Int) else bd1 (mX12_place (q : Int) ((s : Int) + 1) 0) fun r_86 => gd (0 ≤ r_86 ∧ r_86 < 1920) <| some (T 90 r_86)) = some ((mayS c gr fi (s + 1) : Nat) : Int) := by
      unfold mayS
      rw [gd_t ⟨by omega, by omega⟩]
      by_cases z : s + 1 = gr
      · rw [if_pos (by omega), if_pos z]
      · rw [if_neg (by omega), if_neg z, bd1_e e_place, show ((q : Int) * 8 + ((s : Int) + 1)) * 8 + 0 = ((pl q (s + 1) 0 : Nat) : Int) by unfold pl; omega, gd_t (by omega), y1]
    have mb : mayS c gr fi (s + 1) ≤ 1000000000000 := by unfold mayS; split <;> omega
    generalize hmay : mayS c gr fi (s + 1) = may at z37 mb
    have h := Nat.lt_of_lt_of_eq h (sm_sh (g := fun s => sm (mayS c gr fi s) (bgG c (o == 1) m n s)) (s := s + 1) d)
    have hB := Nat.le_trans (Nat.le_of_eq (sm_sh (g := fun s => sm (mayS c gr fi s) (bgG c (o == 1) m n s)) (s := s + 1) d).symm) hB
    try dsimp only at h hB
    rw [hmay] at h hB
    -- is there one at all with it
    have z40 : ∃ b : Nat, (gd (inL (may : Int)) <| if (may : Int) ≤ 0 then some (0 : Int) else bd1 (gd (inI o) <| if o = 0 then some (may : Int) else some ((may : Int) - 1)) fun z_74 => bd1 (mX12_bagsOf T (q : Int) ((n : Int) - ((s : Int) + 1)) (lss m) ((s : Int) + 1) z_74 o) fun r_78 => gd (inL r_78) <| if r_78 ≤ 0 then some 0 else some 1) = some (b : Int) ∧ ((b = 0 ∧ sm may (bgG c (o == 1) m n (s + 1)) = 0) ∨ (b = 1 ∧ may ≤ sm may (bgG c (o == 1) m n (s + 1)) + 7)) := by
      rw [gd_t ⟨by omega, by omega⟩]
      by_cases z : may = 0
      · exact ⟨0, by rw [if_pos (by omega)]; rfl, Or.inl ⟨rfl, by rw [z, sm_0]⟩⟩
      · have e74 : (gd (inI o) <| if o = 0 then some (may : Int) else some ((may : Int) - 1)) = some (((if (o == 1) then may - 1 else may : Nat) : Nat) : Int) := by
          rcases ho with rfl | rfl
          · rw [gd_t (by omega), if_pos rfl]; rfl
          · rw [gd_t (by omega), if_neg (by omega)]
            show some ((may : Int) - 1) = some (((may - 1 : Nat) : Nat) : Int)
            exact congrArg some (show (may : Int) - 1 = ((may - 1 : Nat) : Int) by omega)
        have zl : (if (o == 1) then may - 1 else may : Nat) ≤ 1000000000000 := by split <;> omega
        have cm := mCC_le (x := bgN c (o == 1) (s + 1) (lss m) (n - (s + 1)) (if (o == 1) then may - 1 else may))
        have hb : mX12_bagsOf T (q : Int) ((n : Int) - ((s : Int) + 1)) (lss m) ((s : Int) + 1) (((if (o == 1) then may - 1 else may : Nat) : Nat) : Int) o = some ((min CC (bgN c (o == 1) (s + 1) (lss m) (n - (s + 1)) (if (o == 1) then may - 1 else may)) : Nat) : Int) := by
          have := e_bagsOfF (T := T) (s := s + 1) (n := n - (s + 1)) (m := lss m) hq ho hY (by omega) (by omega) m1 m7 zl
          rw [show ((s + 1 : Nat) : Int) = (s : Int) + 1 by omega, show ((n - (s + 1) : Nat) : Int) = (n : Int) - ((s : Int) + 1) by omega] at this
          exact this
        by_cases y : bgN c (o == 1) (s + 1) (lss m) (n - (s + 1)) (if (o == 1) then may - 1 else may) = 0
        · refine ⟨0, ?_, Or.inl ⟨rfl, sm_zero fun i hi => ?_⟩⟩
          · rw [if_neg (by omega), bd1_e e74, bd1_e hb, y, gd_t (by omega), if_pos (by omega)]; rfl
          · refine Nat.le_zero.mp (Nat.le_trans ?_ (Nat.le_of_eq y))
            unfold bgG
            exact bgN_mo (by split <;> omega)
        · refine ⟨1, ?_, Or.inr ⟨rfl, bgG_few (Nat.pos_of_ne_zero y) hn⟩⟩
          rw [if_neg (by omega), bd1_e e74, bd1_e hb, gd_t (by omega), if_neg (by have := CC_pos; omega)]; rfl
    obtain ⟨b, hb, hb2⟩ := z40
    have st : ∀ (y47 : Int) (S48 : St), mX12_findsBag_117 (b : Int) (may : Int) ((s : Int) + 1) (lss m) (fi : Int) (gr : Int) (n : Int) (q : Int) o FU 0 (-1) T = some (y47, S48) → mX12_findsBag_31 (lss m) (fi : Int) (gr : Int) (n : Int) (q : Int) o (f + 1) (-1) (s : Int) T = mX12_findsBag_31 (lss m) (fi : Int) (gr : Int) (n : Int) (q : Int) o f y47 ((s : Int) + 1) S48 := by
      intro y47 S48 e
      rw [mX12_findsBag_31, gd_t (by omega), if_neg (by omega), bd1_e z37, bd1_e hb, nx_e, bd2_e e]
    -- the next size
    have nxt : ∀ S48 : St, ¬ v < sm may (bgG c (o == 1) m n (s + 1)) → mX12_findsBag_117 (b : Int) (may : Int) ((s : Int) + 1) (lss m) (fi : Int) (gr : Int) (n : Int) (q : Int) o FU 0 (-1) T = some (-1, S48) → S48 83 32 = ((v - sm may (bgG c (o == 1) m n (s + 1)) : Nat) : Int) → kept [] [(83, 32)] T S48 → ∃ t w r u T', pkS (fun s => sm (mayS c gr fi s) (bgG c (o == 1) m n s)) (d + 1) (s + 1) v = (t, w) ∧ pkS (bgG c (o == 1) m n t) (mayS c gr fi t) 0 w = (r, u) ∧ mX12_findsBag_31 (lss m) (fi : Int) (gr : Int) (n : Int) (q : Int) o (f + 1) (-1) (s : Int) T = some ((t : Int), (r : Int), T') ∧ T' 83 32 = (u : Int) ∧ kept [] [(83, 32)] T T' := by
      intro S48 hz e e2 k
      have d1 : 1 ≤ d := by
        rcases Nat.eq_zero_or_pos d with e | e
        · subst e; rw [sm_0] at h; omega
        · exact e
      obtain ⟨t, w, r, u, T', a1, a2, a3, a4, a5⟩ := ih (s + 1) (v - sm may (bgG c (o == 1) m n (s + 1))) f S48 (hY.of (k.cell 90 (by decide) (by decide))) (by omega) (by omega) (by omega) e2 (by omega) (by show _ < sm d (fun i => sm (mayS c gr fi (s + 1 + 1 + i)) (bgG c (o == 1) m n (s + 1 + 1 + i))); omega) (by show sm d (fun i => sm (mayS c gr fi (s + 1 + 1 + i)) (bgG c (o == 1) m n (s + 1 + 1 + i))) ≤ _; omega)
      refine ⟨t, w, r, u, T', ?_, a2, ?_, a4, k.trans a5⟩
      · rw [pq_ge (g := fun s => sm (mayS c gr fi s) (bgG c (o == 1) m n s)) (by rw [hmay]; exact hz)]
        try dsimp only
        rw [hmay]
        exact a1
      · rw [st _ _ e]
        rw [show ((s + 1 : Nat) : Int) = (s : Int) + 1 by omega] at a3
        exact a3
    rcases hb2 with ⟨b0, b1⟩ | ⟨b0, b1⟩
    · subst b0
      refine nxt T (by omega) ?_ (by rw [hT, b1]; omega) kept.rf
      rw [show FU = 1999999 + 1 from rfl, mX12_findsBag_117, gd_t (by omega), if_pos (by omega)]
    · subst b0
      obtain ⟨i1, i2⟩ := e_fb117 (f := FU) (x1 := (fi : Int)) (x2 := (gr : Int)) (s := s + 1) hq ho (by omega) hn m1 m7 (show may ≤ 1000000 by omega) may 0 v T hY (by omega) (by unfold FU; omega) hT hvC
      have e0 : sm may (fun i => bgG c (o == 1) m n (s + 1) (0 + i)) = sm may (bgG c (o == 1) m n (s + 1)) := sm_congr fun i _ => by rw [Nat.zero_add]
      rw [e0, show ((s + 1 : Nat) : Int) = (s : Int) + 1 by omega] at i1 i2
      by_cases z : v < sm may (bgG c (o == 1) m n (s + 1))
      · obtain ⟨r, u, T', a1, a2, a3, a4⟩ := i1 z
        obtain ⟨f, rfl⟩ : ∃ f', f = f' + 1 := ⟨f - 1, by omega⟩
        refine ⟨s + 1, v, r, u, T', ?_, by rw [hmay]; exact a1, ?_, a3, a4⟩
        · exact pq_lt (g := fun s => sm (mayS c gr fi s) (bgG c (o == 1) m n s)) (by rw [hmay]; exact z)
        · have rb : r < may := by
            obtain ⟨r', u', p1, p2, p3, p4, p5⟩ := pk_ok may 0 v (by rw [e0]; exact z)
            rw [a1] at p1
            cases p1
            omega
          rw [st _ _ a2, mX12_findsBag_31, gd_t (by omega), if_pos (by omega), show ((s + 1 : Nat) : Int) = (s : Int) + 1 by omega]
      · obtain ⟨T', a2, a3, a4⟩ := i2 z
        exact nxt T' z a2 a3 a4
/-- the greatest that may be, and how many of it: the rest's number lies below -/
def rsN (c : Nat → Nat) (once : Bool) (m : Int) (n gr fi : Nat) : Nat := sm (min gr n) (fun i => sm (mayS c gr fi (1 + i)) (bgG c once m n (1 + i)))
theorem rs_top {c : Nat → Nat} {once : Bool} {m : Int} {n fi : Nat} (hn : 1 ≤ n ∧ n ≤ 7) (m1 : -1 ≤ m) (m0 : m ≠ 0) : rsN c once m n 8 fi = bgN c once n m n (c n) := by
  unfold rsN
  rw [bg_tot hn.1 m1 m0 n (Nat.le_refl _), Nat.min_eq_right (by omega)]
  refine sm_congr fun i hi => ?_
  unfold mayS
  rw [if_neg (by omega)]
theorem rs_next {c : Nat → Nat} {once : Bool} {m : Int} {n t F : Nat} (hn : 1 ≤ n) (ht : 1 ≤ t) (m1 : -1 ≤ m) (m0 : m ≠ 0) : rsN c once m n t F = bgN c once t m n F := by
  unfold rsN
  by_cases z : t ≤ n
  · obtain ⟨s, rfl⟩ : ∃ s, t = s + 1 := ⟨t - 1, by omega⟩
    rw [Nat.min_eq_left z, sm_s, bg_sum z m1 m0, bg_tot hn m1 m0 s (by omega)]
    congr 1
    · refine sm_congr fun i hi => ?_
      unfold mayS
      rw [if_neg (by omega)]
    · unfold mayS
      rw [Nat.add_comm 1 s, if_pos rfl]
  · obtain ⟨d, rfl⟩ : ∃ d, t = n + d := ⟨t - n, by omega⟩
    rw [Nat.min_eq_right (by omega), bgN_big m1 d F (by omega), bg_tot hn m1 m0 n (Nat.le_refl _)]
    refine sm_congr fun i hi => ?_
    unfold mayS
    rw [if_neg (by omega)]
theorem pk_dom {G G' : Nat → Nat} : ∀ (f d s v t w : Nat), v < sm f (fun i => G (s + i)) → pkS G f s v = (t, w) → (∀ x, s ≤ x → x < t → G' x = G x) → G t ≤ G' t → pkS G' (f + d) s v = (t, w) := by
  intro f
  induction f with
  | zero => intro d s v t w h; exact absurd h (Nat.not_lt_zero _)
  | succ f ih =>
    intro d s v t w h e hx ht
    rw [show f + 1 + d = (f + d) + 1 by omega]
    by_cases c : v < G s
    · rw [pq_lt c] at e
      cases e
      exact pq_lt (by omega)
    · rw [pq_ge c] at e
      rw [sm_sh] at h
      obtain ⟨t', w', p1, p2, p3, p4, p5⟩ := pk_ok (g := G) f (s + 1) (v - G s) (by omega)
      rw [e] at p1
      cases p1
      have es := hx s (Nat.le_refl _) (by omega)
      rw [pq_ge (by omega), es]
      exact ih d (s + 1) (v - G s) t w (by omega) e (fun x a b => hx x (by omega) b) ht
theorem e_findsBag {c : Nat → Nat} {q : Nat} {o : Int} (hq : q < 30) (ho : o = 0 ∨ o = 1) : ∀ (k n v b f gr fi : Nat) (m : Int) (T : St), hasC T q c → n ≤ k → n ≤ 7 → -1 ≤ m → m ≤ 7 → k < f → T 83 32 = (v : Int) → T 83 31 = (b : Int) → b + n < 512 → (1 ≤ gr ∧ gr ≤ 8 ∧ fi ≤ 1000000000000 ∧ (gr ≤ 7 → fi ≤ c gr)) → (1 ≤ n → m ≠ 0 ∧ v < rsN c (o == 1) m n gr fi ∧ rsN c (o == 1) m n gr fi ≤ 1000) → ∃ T', mX12_findsBag_13 (q : Int) o f (fi : Int) (gr : Int) m (n : Int) T = some T' ∧ fdn T T' b (bgL c (o == 1) k m n v) := by
  intro k
  induction k with
  | zero =>
    intro n v b f gr fi m T _ hk _ _ _ hf _ hb _ _ _
    have : n = 0 := by omega
    subst this
    obtain ⟨f, rfl⟩ : ∃ f', f = f' + 1 := ⟨f - 1, by omega⟩
    refine ⟨T, ?_, fdn.nil hb kept.rf⟩
    rw [mX12_findsBag_13, gd_t (by omega), if_pos (by omega)]
  | succ k ih =>
    intro n v b f gr fi m T hY hk hn m1 m7 hf hT hb hb2 hg h
    obtain ⟨f, rfl⟩ : ∃ f', f = f' + 1 := ⟨f - 1, by omega⟩
    by_cases n0 : n = 0
    · subst n0
      refine ⟨T, ?_, by rw [bgL_0]; exact fdn.nil hb kept.rf⟩
      rw [mX12_findsBag_13, gd_t (by omega), if_pos (by omega)]
    obtain ⟨m0, h1, h2⟩ := h (by omega)
    obtain ⟨l1, l2⟩ := lss_b m1 m7 m0
    have er : rsN c (o == 1) m n gr fi = sm (min gr n) (fun i => (fun s => sm (mayS c gr fi s) (bgG c (o == 1) m n s)) (0 + 1 + i)) := rfl
    rw [er] at h1 h2
    obtain ⟨t, w, r, u, T1, a1, a2, a3, a4, a5⟩ := e_fb31 (f := FU) hq ho hn hg.2.1 hg.2.2.1 l1 l2 (min gr n) 0 v T hY (by omega) (by omega) (by unfold FU; omega) hT (by omega) h1 h2
    obtain ⟨t', w', p1, p2, p3, p4, p5⟩ := pk_ok (g := fun s => sm (mayS c gr fi s) (bgG c (o == 1) m n s)) (min gr n) (0 + 1) v h1
    rw [a1] at p1
    cases p1
    have mle : mayS c gr fi t ≤ c t := by
      unfold mayS
      split
      · rename_i e; rw [e]; exact hg.2.2.2 (by omega)
      · exact Nat.le_refl _
    have cle : c t ≤ 1000000000000 := (hY t (by omega)).2
    have e0 : sm (mayS c gr fi t) (fun i => bgG c (o == 1) m n t (0 + i)) = sm (mayS c gr fi t) (bgG c (o == 1) m n t) := sm_congr fun i _ => by rw [Nat.zero_add]
    have w1 : w < sm (mayS c gr fi t) (fun i => bgG c (o == 1) m n t (0 + i)) := by rw [e0]; exact p4
    obtain ⟨r', u', s1, s2, s3, s4, s5⟩ := pk_ok (mayS c gr fi t) 0 w w1
    rw [a2] at s1
    cases s1
    have smle : sm (mayS c gr fi t) (bgG c (o == 1) m n t) ≤ sm (c t) (bgG c (o == 1) m n t) := by
      obtain ⟨d, hd⟩ : ∃ d, c t = mayS c gr fi t + d := ⟨c t - mayS c gr fi t, by omega⟩
      rw [hd, sm_add]
      exact Nat.le_add_right _ _
    have b1 : pkS (fun s => sm (c s) (bgG c (o == 1) m n s)) n 1 v = (t, w) := by
      have := pk_dom (G' := fun s => sm (c s) (bgG c (o == 1) m n s)) (min gr n) (n - min gr n) (0 + 1) v t w h1 a1 (fun x x1 x2 => by unfold mayS; rw [if_neg (by omega)]) smle
      rw [show min gr n + (n - min gr n) = n by omega] at this
      exact this
    have b2 : pkS (bgG c (o == 1) m n t) (c t) 0 w = (r, u) := by
      have := pk_more (g := bgG c (o == 1) m n t) (mayS c gr fi t) (c t - mayS c gr fi t) 0 w w1
      rw [show mayS c gr fi t + (c t - mayS c gr fi t) = c t by omega] at this
      rw [this]; exact a2
    obtain ⟨T2, c1, c2, c3, c4, c5⟩ := e_pushes (T := T1) (s := t) (r := r) (b := b) ((a5 83 31 (by simp) (by simp)).trans hb) (by omega)
    have gle : bgG c (o == 1) m n t r ≤ sm (mayS c gr fi t) (bgG c (o == 1) m n t) := le_sm (by omega)
    have tle : sm (mayS c gr fi t) (bgG c (o == 1) m n t) ≤ 1000 := by
      refine Nat.le_trans ?_ h2
      have := le_sm (n := min gr n) (f := fun i => (fun s => sm (mayS c gr fi s) (bgG c (o == 1) m n s)) (0 + 1 + i)) (i := t - 1) (by omega)
      dsimp only at this
      rw [show 0 + 1 + (t - 1) = t by omega] at this
      exact this
    have rl : mayS c gr fi t ≤ 1007 := by
      have := bgG_few (may := mayS c gr fi t) (show 0 < bgN c (o == 1) t (lss m) (n - t) (if (o == 1) then r else r + 1) from Nat.lt_of_le_of_lt (Nat.zero_le _) s4) hn
      omega
    obtain ⟨T', u1, u2⟩ := ih (n - t) u (b + 1) f t (if (o == 1) then r else r + 1) (lss m) T2 (hY.of ((c5.cell 90 (by decide) (by decide)).trans (a5.cell 90 (by decide) (by decide)))) (by omega) (by omega) l1 l2 (by omega) ((c5 83 32 (by simp) (by simp)).trans a4) c2 (by omega) ⟨by omega, by omega, by split <;> omega, fun _ => by split <;> omega⟩ (fun z => by
      have m0' : lss m ≠ 0 := by
        intro e
        have : bgG c (o == 1) m n t r = 0 := by unfold bgG; rw [e]; exact bgN_m0 _ _ _ (by omega)
        omega
      have e := rs_next (c := c) (once := (o == 1)) (m := lss m) (n := n - t) (t := t) (F := if (o == 1) then r else r + 1) z (by omega) l1 m0'
      refine ⟨m0', ?_, ?_⟩
      · rw [e]; exact s4
      · rw [e]
        exact Nat.le_trans gle tle)
    refine ⟨T', ?_, ?_⟩
    · rw [mX12_findsBag_13, gd_t (by omega), if_neg (by omega), bd1_e (e_lss (by omega)), bd3_e (show mX12_findsBag_31 (lss m) (fi : Int) (gr : Int) (n : Int) (q : Int) o FU (-1) 0 T = _ from a3), bd1_e c1, nx_e, show (n : Int) - (t : Int) = ((n - t : Nat) : Int) by omega, gd_t (by omega)]
      rcases ho with rfl | rfl
      · rw [if_pos rfl, gd_t (by omega), nx_e]
        exact u1
      · rw [if_neg (by omega), gd_t (by omega)]
        exact u1
    · rw [bgL_s (by omega) b1 b2]
      refine fdn.cons u2 c3 (fun j hj => ?_) ((a5.mono (by simp) (by simp)).trans (c5.mono (by simp) (by simp)))
      rw [← a5.cell 97 (by decide) (by decide), ← a5.cell 98 (by decide) (by decide)]
      exact c4 j hj
