/-! the reference: bags counted, a bag found by its number -/
theorem bgN_up1 {c : Nat → Nat} {once : Bool} {s n f : Nat} {m : Int} : bgN c once s m n f ≤ bgN c once s m n (f + 1) := by
  cases s with
  | zero => exact Nat.le_refl _
  | succ s =>
    rw [bgN_e, bgN_e]
    refine sm_mono fun i _ => ?_
    by_cases q : i * (s + 1) ≤ n ∧ (m < 0 ∨ (i : Int) ≤ m)
    · rw [if_pos q, if_pos q]
      refine Nat.mul_le_mul_right _ ?_
      rcases Nat.eq_zero_or_pos i with z | z
      · subst z; rw [ch_0, ch_0]; exact Nat.le_refl _
      · rw [ch_pas z]; exact Nat.le_add_right _ _
    · rw [if_neg q, if_neg q]; exact Nat.le_refl _
theorem bgN_up {c : Nat → Nat} {once : Bool} {s n : Nat} {m : Int} : ∀ (d f : Nat), bgN c once s m n f ≤ bgN c once s m n (f + d) := by
  intro d
  induction d with
  | zero => intro f; exact Nat.le_refl _
  | succ d ih => intro f; exact Nat.le_trans (ih f) bgN_up1
theorem bgN_mo {c : Nat → Nat} {once : Bool} {s n f g : Nat} {m : Int} (h : f ≤ g) : bgN c once s m n f ≤ bgN c once s m n g := by
  have := bgN_up (c := c) (once := once) (s := s) (n := n) (m := m) (g - f) f
  rw [show f + (g - f) = g by omega] at this
  exact this
theorem ch_p {once : Bool} {r i : Nat} (h : i ≤ r) : 0 < ch once r i := by
  unfold ch
  by_cases z : i = 0
  · rw [if_pos z]; omega
  · rw [if_neg z]
    cases once with
    | true => exact cho_pos h
    | false => exact cho_pos (by omega)
/-- where there is one at all, there is one with few of the greatest size -/
theorem bgN_few {c : Nat → Nat} {once : Bool} {s n f r : Nat} {m : Int} (h : 0 < bgN c once s m n f) (hr : n ≤ r) : 0 < bgN c once s m n r := by
  cases s with
  | zero => exact h
  | succ s =>
    rw [bgN_e] at h ⊢
    obtain ⟨i, i1, i2⟩ := sm_pos h
    by_cases q : i * (s + 1) ≤ n ∧ (m < 0 ∨ (i : Int) ≤ m)
    · rw [if_pos q] at i2
      have b : 0 < bgN c once s (lsi m i) (n - i * (s + 1)) (c s) := Nat.pos_of_mul_pos_left i2
      refine Nat.lt_of_lt_of_le ?_ (le_sm (i := i) (by omega))
      show 0 < if i * (s + 1) ≤ n ∧ (m < 0 ∨ (i : Int) ≤ m) then ch once r i * bgN c once s (lsi m i) (n - i * (s + 1)) (c s) else 0
      rw [if_pos q]
      exact Nat.mul_pos (ch_p (by omega)) b
    · rw [if_neg q] at i2; omega
theorem sm_lo {g : Nat → Nat} {k : Nat} : ∀ n, (∀ r, k ≤ r → r < n → 1 ≤ g r) → n ≤ sm n g + k := by
  intro n
  induction n with
  | zero => intro _; exact Nat.zero_le _
  | succ n ih =>
    intro h
    have a := ih (fun r a b => h r a (by omega))
    rw [sm_s]
    by_cases z : k ≤ n
    · have := h n z (by omega)
      omega
    · omega
theorem bgG_few {c : Nat → Nat} {once : Bool} {m : Int} {n s F may : Nat} (h : 0 < bgN c once s (lss m) (n - s) F) (hn : n ≤ 7) : may ≤ sm may (bgG c once m n s) + 7 := sm_lo may (fun r a _ => by
  unfold bgG
  exact bgN_few h (by cases once <;> simp <;> omega))
theorem bgN_big {c : Nat → Nat} {once : Bool} {n : Nat} {m : Int} (hm : -1 ≤ m) : ∀ (d f : Nat), 1 ≤ d → bgN c once (n + d) m n f = bgN c once n m n (c n) := by
  intro d
  induction d with
  | zero => intro f h; omega
  | succ d ih =>
    intro f _
    have e : bgN c once (n + d + 1) m n f = bgN c once (n + d) m n (c (n + d)) := by
      rw [bgN_e, sm_split, if_pos ⟨by omega, by omega⟩, ch_0, Nat.one_mul, lsi_0 hm, Nat.zero_mul, Nat.sub_zero, sm_zero, Nat.add_zero]
      intro i hi
      have : n + d + 1 ≤ (i + 1) * (n + d + 1) := Nat.le_mul_of_pos_left _ (by omega)
      rw [if_neg (by omega)]
    rw [show n + (d + 1) = n + d + 1 by omega, e]
    rcases Nat.eq_zero_or_pos d with z | z
    · subst z; rfl
    · exact ih _ z
theorem e_bagsF {T : St} {c : Nat → Nat} {q : Nat} {o : Int} (hq : q < 30) (ho : o = 0 ∨ o = 1) (hY : hasC T q c) : ∀ (g s n F : Nat) (m : Int), s < g → s ≤ 7 → n ≤ 7 → -1 ≤ m → m ≤ 7 → F ≤ 1000000000000 → RX12_bagsOf g 0 (q : Int) (n : Int) m (s : Int) (F : Int) o T = some ((min CC (bgN c (o == 1) s m n F) : Nat) : Int) := by
  intro g
  induction g with
  | zero => intro s n F m h; omega
  | succ g ih =>
    intro s n F m hg hs hn m1 m7 hF
    show (if (0 : Nat) = 0 then bX12_bagsOf (RX12_bagsOf g) T (q : Int) (n : Int) m (s : Int) (F : Int) o else none) = _
    rw [if_pos rfl]
    unfold bX12_bagsOf
    rw [gd_t (by omega)]
    by_cases n0 : n = 0
    · subst n0
      rw [if_pos (show ((0 : Nat) : Int) = 0 from rfl), gd_t (by omega), bgN_n0]
      by_cases z : m ≤ 0
      · rw [if_neg (by omega), if_pos z]; rfl
      · rw [if_pos (by omega), if_neg z]; rfl
    rw [if_neg (by omega), gd_t (by omega)]
    cases s with
    | zero =>
      rw [if_pos (show ((0 : Nat) : Int) = 0 from rfl), show bgN c (o == 1) 0 m n F = 0 from if_neg (by omega)]; rfl
    | succ s =>
    rw [if_neg (by omega), gd_t (by omega)]
    by_cases m0 : m = 0
    · subst m0
      rw [if_pos rfl, bgN_m0 _ _ _ (by omega)]; rfl
    rw [if_neg m0]
    have L : ∀ d i f : Nat, i + d = n + 1 → d < f → mX12_bagsOf_31 (RX12_bagsOf g) T (q : Int) (n : Int) m ((s + 1 : Nat) : Int) (F : Int) o f (i : Int) ((min CC (sm i (fun i => if i * (s + 1) ≤ n ∧ (m < 0 ∨ (i : Int) ≤ m) then ch (o == 1) F i * bgN c (o == 1) s (lsi m i) (n - i * (s + 1)) (c s) else 0)) : Nat) : Int) = some ((min CC (bgN c (o == 1) (s + 1) m n F) : Nat) : Int) := by
      intro d
      induction d with
      | zero =>
        intro i f hi hf
        obtain ⟨f, rfl⟩ : ∃ f', f = f' + 1 := ⟨f - 1, by omega⟩
        have a : i ≤ i * (s + 1) := Nat.le_mul_of_pos_right _ (by omega)
        have b : i * (s + 1) ≤ 8 * 8 := Nat.mul_le_mul (by omega) (by omega)
        rw [mX12_bagsOf_31, ← Int.natCast_mul, gd_t (by omega), if_pos (by omega), show i = n + 1 by omega, bgN_e]
      | succ d ihd =>
        intro i f hi hf
        obtain ⟨f, rfl⟩ : ∃ f', f = f' + 1 := ⟨f - 1, by omega⟩
        have a : i ≤ i * (s + 1) := Nat.le_mul_of_pos_right _ (by omega)
        have b : i * (s + 1) ≤ 8 * 8 := Nat.mul_le_mul (by omega) (by omega)
        have stop : ¬ (i * (s + 1) ≤ n ∧ (m < 0 ∨ (i : Int) ≤ m)) → sm i (fun i => if i * (s + 1) ≤ n ∧ (m < 0 ∨ (i : Int) ≤ m) then ch (o == 1) F i * bgN c (o == 1) s (lsi m i) (n - i * (s + 1)) (c s) else 0) = bgN c (o == 1) (s + 1) m n F := by
          intro h
          rw [bgN_e]
          refine (sm_cut (by omega) (fun j h1 h2 => if_neg (fun w => h ⟨?_, by omega⟩))).symm
          exact Nat.le_trans (Nat.mul_le_mul_right _ h1) w.1
        rw [mX12_bagsOf_31, ← Int.natCast_mul, gd_t (by omega)]
        by_cases c1 : i * (s + 1) ≤ n
        · rw [if_neg (by omega)]
          by_cases c2 : m < 0 ∨ (i : Int) ≤ m
          · have t0 : (if m < 0 then some (0 : Nat) else gd (inI (i : Int)) <| if m < (i : Int) then some 1 else some 0) = some 0 := by
              by_cases z : m < 0
              · rw [if_pos z]
              · rw [if_neg z, gd_t (by omega), if_neg (by omega)]
            have ih' := ihd (i + 1) f (by omega) (by omega)
            rw [show ((i + 1 : Nat) : Int) = (i : Int) + 1 by omega, sm_s, if_pos ⟨c1, c2⟩] at ih'
            have cc := mCC_le (x := ch (o == 1) F i)
            rw [bd1_e t0, if_pos rfl, bd1_e (e_chosen hF (by omega) ho), gd_t (by omega)]
            by_cases z : ch (o == 1) F i = 0
            · rw [if_pos (by omega)]
              rw [z, Nat.zero_mul, Nat.add_zero] at ih'
              exact ih'
            · have zz : ¬ ((min CC (ch (o == 1) F i) : Nat) : Int) ≤ 0 := by have := CC_pos; omega
              obtain ⟨z24, hz24, hz3⟩ : ∃ z24 : Nat, (if ((s + 1 : Nat) : Int) = 1 then some (0 : Int) else bd1 (mX12_place (q : Int) (((s + 1 : Nat) : Int) - 1) 0) fun r_39 => gd (0 ≤ r_39 ∧ r_39 < 1920) <| some (T 90 r_39)) = some (z24 : Int) ∧ (bgN c (o == 1) s (lsi m i) (n - i * (s + 1)) z24 = bgN c (o == 1) s (lsi m i) (n - i * (s + 1)) (c s) ∧ z24 ≤ 1000000000000) := by
                cases s with
                | zero => exact ⟨0, by rw [if_pos (by omega)]; rfl, rfl, by omega⟩
                | succ s =>
                  obtain ⟨y1, y2⟩ := hY (s + 1) (by omega)
                  have bb := pl_lt2 (q := q) (s := s + 1) (i := 0) (N := 30) (B := 1920) hq (by omega) (by omega) (by decide)
                  refine ⟨c (s + 1), ?_, rfl, y2⟩
                  rw [if_neg (by omega), bd1_e e_place, show ((q : Int) * 8 + (((s + 1 + 1 : Nat) : Int) - 1)) * 8 + 0 = ((pl q (s + 1) 0 : Nat) : Int) by unfold pl; omega, gd_t (by omega), y1]
              have z27 : (if 0 ≤ m then some (m - (i : Int)) else some (-1)) = some (lsi m i) := by
                unfold lsi
                by_cases z : m < 0
                · rw [if_neg (by omega), if_pos z]
                · rw [if_pos (by omega), if_neg z]
              have l1 : -1 ≤ lsi m i ∧ lsi m i ≤ 7 := by unfold lsi; split <;> omega
              rw [if_neg zz, bd1_e hz24, bd1_e z27, show (n : Int) - ((i * (s + 1) : Nat) : Int) = ((n - i * (s + 1) : Nat) : Int) by omega, show ((s + 1 : Nat) : Int) - 1 = (s : Int) by omega, bd1_e (ih s (n - i * (s + 1)) z24 (lsi m i) (by omega) (by omega) (by omega) l1.1 l1.2 hz3.2), hz3.1, bd1_e (e_mulK (by omega) (by have := mCC_le (x := bgN c (o == 1) s (lsi m i) (n - i * (s + 1)) (c s)); omega)), mm_min, Nat.mul_comm, mm_min, Nat.mul_comm, bd1_e e_addK]
              exact ih'
          · have t1 : (if m < 0 then some (0 : Nat) else gd (inI (i : Int)) <| if m < (i : Int) then some 1 else some 0) = some 1 := by
              rw [if_neg (by omega), gd_t (by omega), if_pos (by omega)]
            rw [bd1_e t1, if_neg (by decide), stop (fun w => c2 w.2)]
        · rw [if_pos (by omega), stop (fun w => c1 w.1)]
    rw [bd1_e (show mX12_bagsOf_31 (RX12_bagsOf g) T (q : Int) (n : Int) m ((s + 1 : Nat) : Int) (F : Int) o FU 0 0 = _ from L (n + 1) 0 FU (by omega) (by unfold FU; omega))]
theorem e_bagsOfF {T : St} {c : Nat → Nat} {q s n F : Nat} {m o : Int} (hq : q < 30) (ho : o = 0 ∨ o = 1) (hY : hasC T q c) (hs : s ≤ 7) (hn : n ≤ 7) (m1 : -1 ≤ m) (m7 : m ≤ 7) (hF : F ≤ 1000000000000) : mX12_bagsOf T (q : Int) (n : Int) m (s : Int) (F : Int) o = some ((min CC (bgN c (o == 1) s m n F) : Nat) : Int) := e_bagsF hq ho hY 12 s n F m (by omega) hs hn m1 m7 hF
/-- the things of a bag, a set by its number, the greatest first -/
def bgL (c : Nat → Nat) (once : Bool) : Nat → Int → Nat → Nat → List (Nat × Nat)
  | 0, _, _, _ => []
  | f + 1, m, n, v => if n = 0 then [] else ((pkS (fun s => sm (c s) (bgG c once m n s)) n 1 v).1, (pkS (bgG c once m n (pkS (fun s => sm (c s) (bgG c once m n s)) n 1 v).1) (c (pkS (fun s => sm (c s) (bgG c once m n s)) n 1 v).1) 0 (pkS (fun s => sm (c s) (bgG c once m n s)) n 1 v).2).1) :: bgL c once f (lss m) (n - (pkS (fun s => sm (c s) (bgG c once m n s)) n 1 v).1) (pkS (bgG c once m n (pkS (fun s => sm (c s) (bgG c once m n s)) n 1 v).1) (c (pkS (fun s => sm (c s) (bgG c once m n s)) n 1 v).1) 0 (pkS (fun s => sm (c s) (bgG c once m n s)) n 1 v).2).2
theorem bgL_0 {c : Nat → Nat} {once : Bool} {f : Nat} {m : Int} {v : Nat} : bgL c once f m 0 v = [] := by cases f <;> rfl
theorem bgL_s {c : Nat → Nat} {once : Bool} {f : Nat} {m : Int} {n v t w r u : Nat} (hn : 1 ≤ n) (h : pkS (fun s => sm (c s) (bgG c once m n s)) n 1 v = (t, w)) (h2 : pkS (bgG c once m n t) (c t) 0 w = (r, u)) : bgL c once (f + 1) m n v = (t, r) :: bgL c once f (lss m) (n - t) u := by
  show (if n = 0 then [] else _) = _
  rw [if_neg (by omega), h]
  dsimp only
  rw [h2]
theorem e_fb117 {c : Nat → Nat} {q n s may : Nat} {m o x1 x2 : Int} (hq : q < 30) (ho : o = 0 ∨ o = 1) (hs : s ≤ n) (hn : n ≤ 7) (m1 : -1 ≤ lss m) (m7 : lss m ≤ 7) (hm : may ≤ 1000000) : ∀ (d r v f : Nat) (T : St), hasC T q c → r + d = may → d + 1 < f → T 83 32 = (v : Int) → v < CC → (v < sm d (fun i => bgG c (o == 1) m n s (r + i)) → ∃ t w T', pkS (bgG c (o == 1) m n s) d r v = (t, w) ∧ mX12_findsBag_117 1 (may : Int) (s : Int) (lss m) x1 x2 (n : Int) (q : Int) o f (r : Int) (-1) T = some ((t : Int), T') ∧ T' 83 32 = (w : Int) ∧ kept [] [(83, 32)] T T') ∧ (¬ v < sm d (fun i => bgG c (o == 1) m n s (r + i)) → ∃ T', mX12_findsBag_117 1 (may : Int) (s : Int) (lss m) x1 x2 (n : Int) (q : Int) o f (r : Int) (-1) T = some (-1, T') ∧ T' 83 32 = ((v - sm d (fun i => bgG c (o == 1) m n s (r + i)) : Nat) : Int) ∧ kept [] [(83, 32)] T T') := by
  intro d
  induction d with
  | zero =>
    intro r v f T hY hr hf hT hv
    obtain ⟨f, rfl⟩ : ∃ f', f = f' + 1 := ⟨f - 1, by omega⟩
    refine ⟨fun h => absurd h (Nat.not_lt_zero _), fun _ => ⟨T, ?_, by rw [hT, sm_0, Nat.sub_zero], kept.rf⟩⟩
    rw [mX12_findsBag_117, gd_t (by omega), if_neg (by omega), gd_t (by omega), gd_t ⟨by omega, by omega⟩, if_pos (by omega)]
  | succ d ih =>
    intro r v f T hY hr hf hT hv
    obtain ⟨f, rfl⟩ : ∃ f', f = f' + 1 := ⟨f - 1, by omega⟩
    have vC : v < 1000000000000 := hv
    have zz : (gd (inI o) <| if o = 0 then (gd (inI ((r : Int) + 1)) <| some ((r : Int) + 1)) else some (r : Int)) = some (((if (o == 1) then r else r + 1 : Nat) : Nat) : Int) := by
      rcases ho with rfl | rfl
      · rw [gd_t (by omega), if_pos rfl, gd_t (by omega)]; rfl
      · rw [gd_t (by omega), if_neg (by omega)]; rfl
    have zl : (if (o == 1) then r else r + 1 : Nat) ≤ 1000000000000 := by split <;> omega
    have cm := mCC_le (x := bgG c (o == 1) m n s r)
    have hb : mX12_bagsOf T (q : Int) ((n : Int) - (s : Int)) (lss m) (s : Int) (((if (o == 1) then r else r + 1 : Nat) : Nat) : Int) o = some ((min CC (bgG c (o == 1) m n s r) : Nat) : Int) := by
      rw [show (n : Int) - (s : Int) = ((n - s : Nat) : Int) by omega]
      exact e_bagsOfF hq ho hY (by omega) (by omega) m1 m7 zl
    rw [sm_sh]
    have st : mX12_findsBag_117 1 (may : Int) (s : Int) (lss m) x1 x2 (n : Int) (q : Int) o (f + 1) (r : Int) (-1) T = if ((min CC (bgG c (o == 1) m n s r) : Nat) : Int) ≤ T 83 32 then mX12_findsBag_117 1 (may : Int) (s : Int) (lss m) x1 x2 (n : Int) (q : Int) o f ((r : Int) + 1) (-1) (up T 83 32 (T 83 32 - ((min CC (bgG c (o == 1) m n s r) : Nat) : Int))) else mX12_findsBag_117 1 (may : Int) (s : Int) (lss m) x1 x2 (n : Int) (q : Int) o f ((r : Int) + 1) (r : Int) T := by
      rw [mX12_findsBag_117, gd_t (by omega), if_neg (by omega), gd_t (by omega), gd_t ⟨by omega, by omega⟩, if_neg (by omega), gd_t (by omega), if_neg (by omega), bd1_e zz, bd1_e hb, gd_t ⟨by rw [hT]; omega, by omega⟩]
      rfl
    by_cases z : v < bgG c (o == 1) m n s r
    · refine ⟨fun _ => ⟨r, v, T, pq_lt z, ?_, hT, kept.rf⟩, fun h => absurd (Nat.lt_of_lt_of_le z (Nat.le_add_right _ _)) h⟩
      obtain ⟨f, rfl⟩ : ∃ f', f = f' + 1 := ⟨f - 1, by omega⟩
      rw [st, if_neg (by have := lt_min (x := bgG c (o == 1) m n s r) hv; rw [hT]; omega), mX12_findsBag_117, gd_t (by omega), if_neg (by omega), gd_t (by omega), gd_t ⟨by omega, by omega⟩]
      by_cases y : (may : Int) ≤ (r : Int) + 1
      · rw [if_pos y]
      · rw [if_neg y, gd_t (by omega), if_pos (by omega)]
    · have mz : min CC (bgG c (o == 1) m n s r) = bgG c (o == 1) m n s r := by omega
      obtain ⟨i1, i2⟩ := ih (r + 1) (v - bgG c (o == 1) m n s r) f (up T 83 32 (T 83 32 - ((min CC (bgG c (o == 1) m n s r) : Nat) : Int))) (hY.of (up_n (by decide))) (by omega) (by omega) (by rw [up_eq, hT, mz]; omega) (by omega)
      rw [show ((r + 1 : Nat) : Int) = (r : Int) + 1 by omega] at i1 i2
      rw [st, if_pos (by have := lt_min (x := bgG c (o == 1) m n s r) hv; rw [hT]; omega)]
      refine ⟨fun h => ?_, fun h => ?_⟩
      · obtain ⟨t, w, T', a1, a2, a3, a4⟩ := i1 (by omega)
        exact ⟨t, w, T', (pq_ge z).trans a1, a2, a3, (kept.upF kept.rf (by simp)).trans a4⟩
      · obtain ⟨T', a2, a3, a4⟩ := i2 (by omega)
        exact ⟨T', a2, by rw [a3, Nat.sub_sub], (kept.upF kept.rf (by simp)).trans a4⟩
