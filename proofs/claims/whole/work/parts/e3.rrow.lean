/-! the reference: rows counted, a row found by its number -/
theorem e_mulK {a b : Nat} (ha : a ≤ 9223372036854775807) (hb : b ≤ 9223372036854775807) : mX12_mul (a : Int) (b : Int) 1000000000000 = some ((min CC (a * b) : Nat) : Int) := e_mulC ha hb
theorem mCC_le {x : Nat} : min CC x ≤ 1000000000000 := Nat.min_le_left _ _
theorem e_addK {x y : Nat} : mX12_add ((min CC x : Nat) : Int) ((min CC y : Nat) : Int) 1000000000000 = some ((min CC (x + y) : Nat) : Int) := by
  have a := mCC_le (x := x)
  have b := mCC_le (x := y)
  rw [e_addC (by omega), ← min_add (L := CC)]; rfl
theorem mm_min {x y : Nat} : min CC (x * min CC y) = min CC (x * y) := mulL (by rw [← Nat.min_assoc, Nat.min_self])
theorem lt_min {v x : Nat} (hv : v < CC) : v < min CC x ↔ v < x := by omega
theorem e_lss {m : Int} (h : inI m) : mX12_less m = some (lss m) := by
  rw [e_less h]
  unfold lss
  by_cases z : m < 0
  · rw [if_neg (by omega), if_pos z]
  · rw [if_pos (by omega), if_neg z]
theorem lss_b {m : Int} (h1 : -1 ≤ m) (h2 : m ≤ 7) (h0 : m ≠ 0) : -1 ≤ lss m ∧ lss m ≤ 7 := by unfold lss; split <;> omega
/-- a row of the table of things: c -/
def hasC (T : St) (q : Nat) (c : Nat → Nat) : Prop := ∀ s : Nat, s ≤ 7 → T 90 ((pl q s 0 : Nat) : Int) = ((c s : Nat) : Int) ∧ c s ≤ 1000000000000
theorem hasC.of {T T' : St} {q : Nat} {c : Nat → Nat} (h : hasC T q c) (e : T' 90 = T 90) : hasC T' q c := fun s hs => by rw [e]; exact h s hs
theorem e_rwF {T : St} {c : Nat → Nat} {q : Nat} (hq : q < 30) (hY : hasC T q c) : ∀ (g n : Nat) (m : Int), n < g → n ≤ 7 → -1 ≤ m → m ≤ 7 → RX12_rowsOf g 0 (q : Int) (n : Int) m T = some ((min CC (rwW c m n) : Nat) : Int) := by
  intro g
  induction g with
  | zero => intro n m h; omega
  | succ g ih =>
    intro n m hg hn m1 m7
    show (if (0 : Nat) = 0 then bX12_rowsOf (RX12_rowsOf g) T (q : Int) (n : Int) m else none) = _
    rw [if_pos rfl]
    unfold bX12_rowsOf
    rw [gd_t (by omega)]
    by_cases n0 : n = 0
    · subst n0
      rw [if_pos (show ((0 : Nat) : Int) = 0 from rfl), gd_t (by omega), rwW_0]
      by_cases z : m ≤ 0
      · rw [if_neg (by omega), if_pos z]; rfl
      · rw [if_pos (by omega), if_neg z]; rfl
    rw [if_neg (by omega), gd_t (by omega)]
    by_cases m0 : m = 0
    · subst m0
      rw [if_pos rfl, rwW_z (by omega)]; rfl
    rw [if_neg m0, rwW_s ⟨by omega, hn⟩ m0]
    obtain ⟨l1, l2⟩ := lss_b m1 m7 m0
    have L : ∀ d s f : Nat, s + d = n → d < f → mX12_rowsOf_26 (RX12_rowsOf g) T (q : Int) (n : Int) m f ((s : Int) + 1) ((min CC (sm s (fun i => c (i + 1) * rwW c (lss m) (n - (i + 1)))) : Nat) : Int) = some ((min CC (sm n (fun i => c (i + 1) * rwW c (lss m) (n - (i + 1)))) : Nat) : Int) := by
      intro d
      induction d with
      | zero =>
        intro s f hs hf
        obtain ⟨f, rfl⟩ : ∃ f', f = f' + 1 := ⟨f - 1, by omega⟩
        rw [mX12_rowsOf_26, gd_t (by omega), if_pos (by omega), show s = n by omega]
      | succ d ihd =>
        intro s f hs hf
        obtain ⟨f, rfl⟩ : ∃ f', f = f' + 1 := ⟨f - 1, by omega⟩
        obtain ⟨y1, y2⟩ := hY (s + 1) (by omega)
        have ih' := ihd (s + 1) f (by omega) (by omega)
        rw [show ((s + 1 : Nat) : Int) = (s : Int) + 1 by omega, sm_s] at ih'
        have ix : ((q : Int) * 8 + ((s : Int) + 1)) * 8 + 0 = ((pl q (s + 1) 0 : Nat) : Int) := by unfold pl; omega
        have b := pl_lt2 (q := q) (s := s + 1) (i := 0) (N := 30) (B := 1920) hq (by omega) (by omega) (by decide)
        rw [mX12_rowsOf_26, gd_t (by omega), if_neg (by omega), bd1_e e_place, ix, gd_t (by omega), gd_t (by omega), y1]
        by_cases z : c (s + 1) = 0
        · rw [if_pos (by omega)]
          rw [z, Nat.zero_mul, Nat.add_zero] at ih'
          exact ih'
        · rw [if_neg (by omega), bd1_e e_place, ix, gd_t (by omega), bd1_e (e_lss (by omega)), show (n : Int) - ((s : Int) + 1) = ((n - (s + 1) : Nat) : Int) by omega, bd1_e (ih _ _ (by omega) (by omega) l1 l2), y1, bd1_e (e_mulK (by omega) (by have := mCC_le (x := rwW c (lss m) (n - (s + 1))); omega)), mm_min, bd1_e e_addK]
          exact ih'
    rw [bd1_e (show mX12_rowsOf_26 (RX12_rowsOf g) T (q : Int) (n : Int) m FU 1 0 = _ from L n 0 FU (by omega) (by unfold FU; omega))]
theorem e_rowsOfF {T : St} {c : Nat → Nat} {q n : Nat} {m : Int} (hq : q < 30) (hY : hasC T q c) (hn : n ≤ 7) (m1 : -1 ≤ m) (m7 : m ≤ 7) : mX12_rowsOf T (q : Int) (n : Int) m = some ((min CC (rwW c m n) : Nat) : Int) := e_rwF hq hY 12 n m (by omega) hn m1 m7
/-! things by number, put one behind the other -/
def els (T : St) : Nat → List (Nat × Nat) → Prop
  | _, [] => True
  | b, x :: l => (T 97 (b : Int) = (x.1 : Int) ∧ T 98 (b : Int) = (x.2 : Int)) ∧ els T (b + 1) l
/-- what finding leaves -/
def fdn (T T' : St) (b : Nat) (L : List (Nat × Nat)) : Prop := els T' b L ∧ T' 83 31 = ((b + L.length : Nat) : Int) ∧ (∀ j : Nat, j < b → T' 97 (j : Int) = T 97 (j : Int) ∧ T' 98 (j : Int) = T 98 (j : Int)) ∧ kept [97, 98] [(83, 31), (83, 32)] T T'
theorem fdn.nil {T T' : St} {b : Nat} (h : T' 83 31 = (b : Int)) (k : kept [] [(83, 31), (83, 32)] T T') : fdn T T' b [] := by
  refine ⟨trivial, h, fun j _ => ⟨?_, ?_⟩, k.mono (by simp) (by simp)⟩
  · rw [k.cell 97 (by decide) (by decide)]
  · rw [k.cell 98 (by decide) (by decide)]
/-- one in front -/
theorem fdn.cons {T T1 T' : St} {b : Nat} {x : Nat × Nat} {L : List (Nat × Nat)} (h : fdn T1 T' (b + 1) L) (h1 : T1 97 (b : Int) = (x.1 : Int) ∧ T1 98 (b : Int) = (x.2 : Int)) (h2 : ∀ j : Nat, j < b → T1 97 (j : Int) = T 97 (j : Int) ∧ T1 98 (j : Int) = T 98 (j : Int)) (k : kept [97, 98] [(83, 31), (83, 32)] T T1) : fdn T T' b (x :: L) := by
  obtain ⟨a1, a2, a3, a4⟩ := h
  have q := a3 b (by omega)
  refine ⟨⟨⟨q.1.trans h1.1, q.2.trans h1.2⟩, a1⟩, ?_, fun j hj => ?_, k.trans a4⟩
  · rw [a2, List.length_cons]; congr 1; omega
  · have r := a3 j (by omega)
    have r2 := h2 j hj
    exact ⟨r.1.trans r2.1, r.2.trans r2.2⟩
theorem e_pushes {T : St} {b s r : Nat} (h : T 83 31 = (b : Int)) (hb : b < 512) : ∃ T1, mX12_pushes T (s : Int) (r : Int) = some T1 ∧ T1 83 31 = ((b + 1 : Nat) : Int) ∧ (T1 97 (b : Int) = (s : Int) ∧ T1 98 (b : Int) = (r : Int)) ∧ (∀ j : Nat, j < b → T1 97 (j : Int) = T 97 (j : Int) ∧ T1 98 (j : Int) = T 98 (j : Int)) ∧ kept [97, 98] [(83, 31)] T T1 := by
  refine ⟨up (up (up T 97 (b : Int) (s : Int)) 98 (b : Int) (r : Int)) 83 31 ((b : Int) + 1), ?_, ?_, ⟨?_, ?_⟩, fun j hj => ⟨?_, ?_⟩, ?_⟩
  · unfold mX12_pushes
    rw [h, gd_t (by omega), nx_e, up_n (by decide), h, gd_t (by omega), nx_e, up_n (by decide), up_n (by decide), h, nx_e]
  · rw [up_eq]; omega
  · rw [up_n (by decide), up_n (by decide), up_eq]
  · rw [up_n (by decide), up_eq]
  · rw [up_n (by decide), up_n (by decide), up_nk (by omega)]
  · rw [up_n (by decide), up_nk (by omega), up_n (by decide)]
  · exact kept.upF (kept.upA (kept.upA kept.rf (by simp)) (by simp)) (by simp)
/-- the things of a row by its number -/
def rwI (c : Nat → Nat) : Nat → Int → Nat → Nat → List (Nat × Nat)
  | 0, _, _, _ => []
  | f + 1, m, n, v => if n = 0 then [] else ((pkS (fun s => c s * rwW c (lss m) (n - s)) n 1 v).1, (pkS (fun s => c s * rwW c (lss m) (n - s)) n 1 v).2 / rwW c (lss m) (n - (pkS (fun s => c s * rwW c (lss m) (n - s)) n 1 v).1)) :: rwI c f (lss m) (n - (pkS (fun s => c s * rwW c (lss m) (n - s)) n 1 v).1) ((pkS (fun s => c s * rwW c (lss m) (n - s)) n 1 v).2 % rwW c (lss m) (n - (pkS (fun s => c s * rwW c (lss m) (n - s)) n 1 v).1))
theorem rwI_0 {c : Nat → Nat} {f : Nat} {m : Int} {v : Nat} : rwI c f m 0 v = [] := by cases f <;> rfl
theorem rwI_s {c : Nat → Nat} {f : Nat} {m : Int} {n v t w : Nat} (hn : 1 ≤ n) (h : pkS (fun s => c s * rwW c (lss m) (n - s)) n 1 v = (t, w)) : rwI c (f + 1) m n v = (t, w / rwW c (lss m) (n - t)) :: rwI c f (lss m) (n - t) (w % rwW c (lss m) (n - t)) := by
  show (if n = 0 then [] else _) = _
  rw [if_neg (by omega), h]
theorem rw_pk {c : Nat → Nat} {m : Int} {n v : Nat} (hn : 1 ≤ n ∧ n ≤ 7) (h0 : m ≠ 0) (hv : v < rwW c m n) : ∃ t w, pkS (fun s => c s * rwW c (lss m) (n - s)) n 1 v = (t, w) ∧ 1 ≤ t ∧ t ≤ n ∧ w < c t * rwW c (lss m) (n - t) ∧ w ≤ v := by
  rw [rwW_s hn h0, sm_congr (g := fun i => (fun s => c s * rwW c (lss m) (n - s)) (1 + i)) (fun i _ => by rw [Nat.add_comm 1 i])] at hv
  obtain ⟨t, w, a1, a2, a3, a4, a5⟩ := pk_ok (g := fun s => c s * rwW c (lss m) (n - s)) n 1 v hv
  exact ⟨t, w, a1, a2, by omega, a4, by omega⟩
theorem dm_lt {w a b : Nat} (h : w < a * b) : 0 < b ∧ w / b < a ∧ w % b < b := by
  have hb : 0 < b := Nat.pos_of_ne_zero (fun z => by rw [z, Nat.mul_zero] at h; omega)
  exact ⟨hb, (Nat.div_lt_iff_lt_mul hb).mpr h, Nat.mod_lt _ hb⟩
theorem e_fr53 {c : Nat → Nat} {q n : Nat} {m' : Int} (hq : q < 30) (hn : n ≤ 7) (m1 : -1 ≤ m') (m7 : m' ≤ 7) : ∀ (d s v f : Nat) (T : St), hasC T q c → 1 ≤ s → s + d = n + 1 → d < f → T 83 32 = (v : Int) → v < CC → v < sm d (fun i => (fun s => c s * rwW c m' (n - s)) (s + i)) → ∃ t w T', pkS (fun s => c s * rwW c m' (n - s)) d s v = (t, w) ∧ mX12_findsRow_53 m' (n : Int) (q : Int) f ((min CC (c s * rwW c m' (n - s)) : Nat) : Int) (s : Int) T = some ((t : Int), T') ∧ T' 83 32 = (w : Int) ∧ kept [] [(83, 32)] T T' := by
  intro d
  induction d with
  | zero => intro s v f T _ _ _ _ _ _ h; exact absurd h (Nat.not_lt_zero _)
  | succ d ih =>
    intro s v f T hY s1 hs hf hT hv h
    obtain ⟨f, rfl⟩ : ∃ f', f = f' + 1 := ⟨f - 1, by omega⟩
    have vC : v < 1000000000000 := hv
    have cm := mCC_le (x := c s * rwW c m' (n - s))
    by_cases z : v < c s * rwW c m' (n - s)
    · refine ⟨s, v, T, pq_lt (g := fun s => c s * rwW c m' (n - s)) z, ?_, hT, kept.rf⟩
      rw [mX12_findsRow_53, hT, gd_t ⟨by omega, by omega⟩, if_pos (by have := (lt_min (x := c s * rwW c m' (n - s)) hv).mpr z; omega)]
    · have h := Nat.lt_of_lt_of_eq h (sm_sh (g := fun s => c s * rwW c m' (n - s)) (s := s) d)
      try dsimp only at h
      have d1 : 1 ≤ d := by
        rcases Nat.eq_zero_or_pos d with e | e
        · subst e; rw [sm_0] at h; omega
        · exact e
      have mz : min CC (c s * rwW c m' (n - s)) = c s * rwW c m' (n - s) := by omega
      have hY' : hasC (up T 83 32 ((v : Int) - ((min CC (c s * rwW c m' (n - s)) : Nat) : Int))) q c := hY.of (up_n (by decide))
      obtain ⟨y1, y2⟩ := hY (s + 1) (by omega)
      obtain ⟨t, w, T', a1, a2, a3, a4⟩ := ih (s + 1) (v - c s * rwW c m' (n - s)) f _ hY' (by omega) (by omega) (by omega) (by rw [up_eq, mz]; omega) (by omega) (by show _ < sm d (fun i => c (s + 1 + i) * rwW c m' (n - (s + 1 + i))); omega)
      refine ⟨t, w, T', (pq_ge (g := fun s => c s * rwW c m' (n - s)) z).trans a1, ?_, a3, (kept.upF kept.rf (by simp)).trans a4⟩
      have ix : ((q : Int) * 8 + ((s : Int) + 1)) * 8 + 0 = ((pl q (s + 1) 0 : Nat) : Int) := by unfold pl; omega
      have b := pl_lt2 (q := q) (s := s + 1) (i := 0) (N := 30) (B := 1920) hq (by omega) (by omega) (by decide)
      rw [mX12_findsRow_53, hT, gd_t ⟨by omega, by omega⟩, if_neg (by have := (lt_min (x := c s * rwW c m' (n - s)) hv); omega), nx_e, bd1_e e_place, ix, gd_t (by omega), show (n : Int) - ((s : Int) + 1) = ((n - (s + 1) : Nat) : Int) by omega, bd1_e (e_rowsOfF hq hY' (by omega) m1 m7), up_n (by decide), y1, bd1_e (e_mulK (by omega) (by have := mCC_le (x := rwW c m' (n - (s + 1))); omega)), mm_min]
      rw [show ((s + 1 : Nat) : Int) = (s : Int) + 1 by omega] at a2
      exact a2
theorem e_findsRow {c : Nat → Nat} {q : Nat} (hq : q < 30) : ∀ (k n v b f : Nat) (m : Int) (T : St), hasC T q c → n ≤ k → n ≤ 7 → -1 ≤ m → m ≤ 7 → k < f → T 83 32 = (v : Int) → v < CC → T 83 31 = (b : Int) → b + n < 512 → v < rwW c m n → ∃ T', mX12_findsRow_6 (q : Int) f m (n : Int) T = some T' ∧ fdn T T' b (rwI c k m n v) := by
  intro k
  induction k with
  | zero =>
    intro n v b f m T _ hk _ _ _ hf _ _ hb _ _
    have : n = 0 := by omega
    subst this
    obtain ⟨f, rfl⟩ : ∃ f', f = f' + 1 := ⟨f - 1, by omega⟩
    refine ⟨T, ?_, fdn.nil hb kept.rf⟩
    rw [mX12_findsRow_6, gd_t (by omega), if_pos (by omega)]
  | succ k ih =>
    intro n v b f m T hY hk hn m1 m7 hf hT hv hb hb2 h
    obtain ⟨f, rfl⟩ : ∃ f', f = f' + 1 := ⟨f - 1, by omega⟩
    by_cases n0 : n = 0
    · subst n0
      refine ⟨T, ?_, by rw [rwI_0]; exact fdn.nil hb kept.rf⟩
      rw [mX12_findsRow_6, gd_t (by omega), if_pos (by omega)]
    have m0 : m ≠ 0 := by
      intro z; subst z
      rw [rwW_z (by omega)] at h
      omega
    obtain ⟨l1, l2⟩ := lss_b m1 m7 m0
    obtain ⟨t, w, p1, p2, p3, p4, p5⟩ := rw_pk ⟨by omega, hn⟩ m0 h
    obtain ⟨d1, d2, d3⟩ := dm_lt p4
    rw [rwW_s ⟨by omega, hn⟩ m0, sm_congr (g := fun i => (fun s => c s * rwW c (lss m) (n - s)) (1 + i)) (fun i _ => by rw [Nat.add_comm 1 i])] at h
    obtain ⟨t', w', T1, r1, r2, r3, r4⟩ := e_fr53 (f := FU) hq hn l1 l2 n 1 v T hY (by omega) (by omega) (by unfold FU; omega) hT hv h
    rw [p1] at r1
    cases r1
    have hY1 : hasC T1 q c := hY.of (r4.cell 90 (by decide) (by decide))
    obtain ⟨T2, s1, s2, s3, s4, s5⟩ := e_pushes (T := T1) (s := t) (r := w / rwW c (lss m) (n - t)) (b := b) ((r4 83 31 (by simp) (by simp)).trans hb) (by omega)
    have v32 : T2 83 32 = (w : Int) := (s5 83 32 (by simp) (by simp)).trans r3
    have hY2 : hasC (up T2 83 32 ((w % rwW c (lss m) (n - t) : Nat) : Int)) q c := (hY1.of (s5.cell 90 (by decide) (by decide))).of (up_n (by decide))
    have wm := Nat.mod_le w (rwW c (lss m) (n - t))
    obtain ⟨T', u1, u2⟩ := ih (n - t) (w % rwW c (lss m) (n - t)) (b + 1) f (lss m) (up T2 83 32 ((w % rwW c (lss m) (n - t) : Nat) : Int)) hY2 (by omega) (by omega) l1 l2 (by omega) up_eq (by omega) (by rw [up_nk (by decide)]; exact s2) (by omega) d3
    have ed : w / min CC (rwW c (lss m) (n - t)) = w / rwW c (lss m) (n - t) ∧ w % min CC (rwW c (lss m) (n - t)) = w % rwW c (lss m) (n - t) := ev_div ev_min (by omega)
    have bm : 0 < min CC (rwW c (lss m) (n - t)) := by have := CC_pos; omega
    have bm2 := mCC_le (x := rwW c (lss m) (n - t))
    have vC : v < 1000000000000 := hv
    obtain ⟨y1, y2⟩ := hY 1 (by omega)
    refine ⟨T', ?_, ?_⟩
    · have ix : ((q : Int) * 8 + 1) * 8 + 0 = ((pl q 1 0 : Nat) : Int) := by unfold pl; omega
      have bb := pl_lt2 (q := q) (s := 1) (i := 0) (N := 30) (B := 1920) hq (by omega) (by omega) (by decide)
      rw [mX12_findsRow_6, gd_t (by omega), if_neg (by omega), bd1_e (e_lss (by omega)), bd1_e e_place, ix, gd_t (by omega), show (n : Int) - 1 = ((n - 1 : Nat) : Int) by omega, bd1_e (e_rowsOfF hq hY (by omega) l1 l2), y1, bd1_e (e_mulK (by omega) (by have := mCC_le (x := rwW c (lss m) (n - 1)); omega)), mm_min]
      rw [bd2_e (show mX12_findsRow_53 (lss m) (n : Int) (q : Int) FU ((min CC (c 1 * rwW c (lss m) (n - 1)) : Nat) : Int) 1 T = _ from r2), show (n : Int) - (t : Int) = ((n - t : Nat) : Int) by omega, bd1_e (e_rowsOfF hq hY1 (by omega) l1 l2), r3, gd_t ⟨by omega, by omega⟩]
      rw [show (w : Int) / ((min CC (rwW c (lss m) (n - t)) : Nat) : Int) = ((w / rwW c (lss m) (n - t) : Nat) : Int) by rw [← ed.1]; rfl, bd1_e s1, v32, gd_t (by omega), nx_e, show (w : Int) % ((min CC (rwW c (lss m) (n - t)) : Nat) : Int) = ((w % rwW c (lss m) (n - t) : Nat) : Int) by rw [← ed.2]; rfl, nx_e]
      exact u1
    · rw [rwI_s (by omega) p1]
      refine fdn.cons u2 ?_ (fun j hj => ?_) ?_
      · rw [up_n (by decide), up_n (by decide)]; exact s3
      · rw [up_n (by decide), up_n (by decide), ← r4.cell 97 (by decide) (by decide), ← r4.cell 98 (by decide) (by decide)]
        exact s4 j hj
      · exact kept.upF (((r4.mono (by simp) (by simp)).trans (s5.mono (by simp) (by simp)))) (by simp)
