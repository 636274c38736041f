/-! each call keeps the invariant: those that spell -/
theorem mskG {S1 S2 : St} (k : kG S1 S2) : msk S2 S1 = S2 ∧ gle S1 S2 := ⟨msk_e (fun i hi => k.cell i (by simp <;> omega) (by simp <;> omega)) (k.cell 0 (by decide) (by decide)), gle_rf (k.cell 0 (by decide) (by decide))⟩
theorem st_c23 {n : Nat} {S : St} (g : INV n S) (hn : n ≤ 512) {x1 x2 x3 x4 x5 : Int} (h1 : inI x1) (h2 : inI x2) (h3 : inI x3) (h4 : inI x4) (h5 : inI x5) : ∃ S1, mL_23 x1 x2 x3 x4 x5 S = some S1 ∧ INV (n + 1) S1 := by
  have so := g.spo hn
  obtain ⟨r, S1, S2, a, b, c, q⟩ := s_length so h1 h2 h3
  obtain ⟨m1, m2⟩ := mskG q.2.2
  refine ⟨S2, ?_, g.spR q⟩
  unfold mL_23
  refine bdG2_e a q.1.2.1 ?_ m2
  rw [bd2_e b, nx_e, m1, gd_t ⟨c, c⟩, if_pos rfl]
theorem st_c24 {n : Nat} {S : St} (g : INV n S) (hn : n ≤ 512) {x1 x2 x3 x4 x5 : Int} (h1 : inI x1) (h2 : inI x2) (h3 : inI x3) (h4 : inI x4) (h5 : inI x5) : ∃ S1, mL_24 x1 x2 x3 x4 x5 S = some S1 ∧ INV (n + 1) S1 := by
  have so := g.spo hn
  obtain ⟨r, S1, S2, a, b, c, q⟩ := s_sign so h1 h2 h3 h4
  obtain ⟨m1, m2⟩ := mskG q.2.2
  refine ⟨S2, ?_, g.spR q⟩
  unfold mL_24
  refine bdG2_e a q.1.2.1 ?_ m2
  rw [bd2_e b, nx_e, m1, gd_t ⟨c, c⟩, if_pos rfl]
theorem st_c25 {n : Nat} {S : St} (g : INV n S) (hn : n ≤ 512) {x1 x2 x3 x4 x5 : Int} (h1 : inI x1) (h2 : inI x2) (h3 : inI x3) (h4 : inI x4) (h5 : inI x5) : ∃ S1, mL_25 x1 x2 x3 x4 x5 S = some S1 ∧ INV (n + 1) S1 := by
  have so := g.spo hn
  obtain ⟨r, S1, S2, a, b, c, q⟩ := s_deep so h1 h2 h3
  obtain ⟨m1, m2⟩ := mskG q.2.2
  refine ⟨S2, ?_, g.spR q⟩
  unfold mL_25
  refine bdG2_e a q.1.2.1 ?_ m2
  rw [bd2_e b, nx_e, m1, gd_t ⟨c, c⟩, if_pos rfl]
theorem st_c26 {n : Nat} {S : St} (g : INV n S) (hn : n ≤ 512) {x1 x2 x3 x4 x5 : Int} (h1 : inI x1) (h2 : inI x2) (h3 : inI x3) (h4 : inI x4) (h5 : inI x5) : ∃ S1, mL_26 x1 x2 x3 x4 x5 S = some S1 ∧ INV (n + 1) S1 := by
  have so := g.spo hn
  obtain ⟨r, S1, S2, a, b, c, q⟩ := s_atoms so h1 h2 h3 h4
  obtain ⟨m1, m2⟩ := mskG q.2.2
  refine ⟨S2, ?_, g.spR q⟩
  unfold mL_26
  refine bdG2_e a q.1.2.1 ?_ m2
  rw [bd2_e b, nx_e, m1, gd_t ⟨c, c⟩, if_pos rfl]
theorem st_c27 {n : Nat} {S : St} (g : INV n S) (hn : n ≤ 512) {x1 x2 x3 x4 x5 : Int} (h1 : inI x1) (h2 : inI x2) (h3 : inI x3) (h4 : inI x4) (h5 : inI x5) : ∃ S1, mL_27 x1 x2 x3 x4 x5 S = some S1 ∧ INV (n + 1) S1 := by
  have so := g.spo hn
  obtain ⟨r, S1, S2, a, b, c, q⟩ := s_term so h1 h2 h3
  obtain ⟨m1, m2⟩ := mskG q.2.2
  refine ⟨S2, ?_, g.spR q⟩
  unfold mL_27
  refine bdG2_e a q.1.2.1 ?_ m2
  rw [bd2_e b, nx_e, m1, gd_t ⟨c, c⟩, if_pos rfl]
theorem st_c28 {n : Nat} {S : St} (g : INV n S) (hn : n ≤ 512) {x1 x2 x3 x4 x5 : Int} (h1 : inI x1) (h2 : inI x2) (h3 : inI x3) (h4 : inI x4) (h5 : inI x5) : ∃ S1, mL_28 x1 x2 x3 x4 x5 S = some S1 ∧ INV (n + 1) S1 := by
  have so := g.spo hn
  obtain ⟨r, S1, S2, a, b, c, q⟩ := s_symmetries so h1 h2 h3
  obtain ⟨m1, m2⟩ := mskG q.2.2
  refine ⟨S2, ?_, g.spR q⟩
  unfold mL_28
  refine bdG2_e a q.1.2.1 ?_ m2
  rw [bd2_e b, nx_e, m1, gd_t ⟨c, c⟩, if_pos rfl]
theorem st_c29 {n : Nat} {S : St} (g : INV n S) (hn : n ≤ 512) {x1 x2 x3 x4 x5 : Int} (h1 : inI x1) (h2 : inI x2) (h3 : inI x3) (h4 : inI x4) (h5 : inI x5) : ∃ S1, mL_29 x1 x2 x3 x4 x5 S = some S1 ∧ INV (n + 1) S1 := by
  have so := g.spo hn
  obtain ⟨r, S1, S2, a, b, c, q⟩ := s_labels so h1 h2 h3
  obtain ⟨m1, m2⟩ := mskG q.2.2
  refine ⟨S2, ?_, g.spR q⟩
  unfold mL_29
  refine bdG2_e a q.1.2.1 ?_ m2
  rw [bd2_e b, nx_e, m1, gd_t ⟨c, c⟩, if_pos rfl]
theorem st_c33 {n : Nat} {S : St} (g : INV n S) (hn : n ≤ 512) {x1 x2 x3 x4 x5 : Int} (h1 : inI x1) (h2 : inI x2) (h3 : inI x3) (h4 : inI x4) (h5 : inI x5) : ∃ S1, mL_33 x1 x2 x3 x4 x5 S = some S1 ∧ INV (n + 1) S1 := by
  have so := g.spo hn
  have g' := g
  obtain ⟨_, _, _, _, _, rl, -⟩ := g'
  obtain ⟨r, S1, S2, a, b, c, q⟩ := s_deepest so rl h1 h2
  obtain ⟨m1, m2⟩ := mskG q.2.2
  refine ⟨S2, ?_, g.spQ q⟩
  unfold mL_33
  refine bdG2_e a q.1.2.1 ?_ m2
  rw [bd2_e b, nx_e, m1, gd_t ⟨c, c⟩, if_pos rfl]
theorem st_c34 {n : Nat} {S : St} (g : INV n S) (hn : n ≤ 512) {x1 x2 x3 x4 x5 : Int} (h1 : inI x1) (h2 : inI x2) (h3 : inI x3) (h4 : inI x4) (h5 : inI x5) : ∃ S1, mL_34 x1 x2 x3 x4 x5 S = some S1 ∧ INV (n + 1) S1 := by
  have so := g.spo hn
  have g' := g
  obtain ⟨_, _, _, _, _, rl, -⟩ := g'
  obtain ⟨r, S1, S2, a, b, c, q⟩ := s_fullest so rl h1 h2 h3
  obtain ⟨m1, m2⟩ := mskG q.2.2
  refine ⟨S2, ?_, g.spQ q⟩
  unfold mL_34
  refine bdG2_e a q.1.2.1 ?_ m2
  rw [bd2_e b, nx_e, m1, gd_t ⟨c, c⟩, if_pos rfl]
theorem st_c35 {n : Nat} {S : St} (g : INV n S) (hn : n ≤ 512) {x1 x2 x3 x4 x5 : Int} (h1 : inI x1) (h2 : inI x2) (h3 : inI x3) (h4 : inI x4) (h5 : inI x5) : ∃ S1, mL_35 x1 x2 x3 x4 x5 S = some S1 ∧ INV (n + 1) S1 := by
  have so := g.spo hn
  have g' := g
  obtain ⟨_, _, _, _, _, rl, -⟩ := g'
  obtain ⟨r, S1, S2, a, b, c, q⟩ := s_stiffest so rl h1 h2
  obtain ⟨m1, m2⟩ := mskG q.2.2
  refine ⟨S2, ?_, g.spQ q⟩
  unfold mL_35
  refine bdG2_e a q.1.2.1 ?_ m2
  rw [bd2_e b, nx_e, m1, gd_t ⟨c, c⟩, if_pos rfl]
theorem st_c37 {n : Nat} {S : St} (g : INV n S) (hn : n ≤ 512) {x1 x2 x3 x4 x5 : Int} (h1 : inI x1) (h2 : inI x2) (h3 : inI x3) (h4 : inI x4) (h5 : inI x5) : ∃ S1, mL_37 x1 x2 x3 x4 x5 S = some S1 ∧ INV (n + 1) S1 := by
  have so := g.spo hn
  have g' := g
  obtain ⟨_, _, _, _, _, rl, -⟩ := g'
  obtain ⟨r, S1, S2, a, b, c, q⟩ := s_mean so rl h1 h2 h3 h4
  obtain ⟨m1, m2⟩ := mskG q.2.2
  refine ⟨S2, ?_, g.spQ q⟩
  unfold mL_37
  refine bdG2_e a q.1.2.1 ?_ m2
  rw [bd2_e b, nx_e, m1, gd_t ⟨c, c⟩, if_pos rfl]
theorem mskW {S1 S2 : St} (k : RFw S1 S2) : msk S2 S1 = S2 ∧ gle S1 S2 := ⟨msk_e (fun i hi => k.1 i (by omega)) (k.1 0 (by omega)), gle_rf (k.1 0 (by omega))⟩
theorem st_c30 {n : Nat} {S : St} (g : INV n S) (hn : n ≤ 512) {x1 x2 x3 x4 x5 : Int} (h1 : inI x1) (h2 : inI x2) (h3 : inI x3) (h4 : inI x4) (h5 : inI x5) : ∃ S1, mL_30 x1 x2 x3 x4 x5 S = some S1 ∧ INV (n + 1) S1 := by
  have so := g.spo hn
  have g' := g
  obtain ⟨_, tp, _, _, _, rl, ⟨hb, hi⟩, -⟩ := g'
  obtain ⟨r, S1, S2, a, b, c, x, w, so1, hb1, hi2, tp2⟩ := s_tells so tp hb hi g.uq g.vu h1
  obtain ⟨m1, m2⟩ := mskW w
  refine ⟨S2, ?_, g.tell x w so1 hb1 hi2 tp2⟩
  unfold mL_30
  refine bdG2_e a x.2.1 ?_ m2
  rw [bd2_e b, nx_e, m1, gd_t ⟨c, c⟩, if_pos rfl]
theorem st_c32 {n : Nat} {S : St} (g : INV n S) (hn : n ≤ 512) {x1 x2 x3 x4 x5 : Int} (h1 : inI x1) (h2 : inI x2) (h3 : inI x3) (h4 : inI x4) (h5 : inI x5) : ∃ S1, mL_32 x1 x2 x3 x4 x5 S = some S1 ∧ INV (n + 1) S1 := by
  have so := g.spo hn
  have g' := g
  obtain ⟨_, tp, _, _, _, rl, ⟨hb, hi⟩, -⟩ := g'
  obtain ⟨r, S1, S2, a, b, c, x, w, so1, hb1, hi2⟩ := s_shared so hb hi g.uq g.vu h1 h2 h3
  obtain ⟨m1, m2⟩ := mskW w.w
  have e0 : S2 0 = S1 0 := w.1 0 (by omega)
  have c83 : ∀ z : Int, z < 20 ∨ 41 < z → S2 83 z = S 83 z := fun z hz => by
    rw [w.2 z (by omega) (by omega) (by omega) (by omega), x.cell (by decide) (by decide) (by decide) (by decide)]
  have cc : ∀ i, 0 < i → i < 60 ∨ i = 84 ∨ i = 86 → S2 i = S i := fun i h0 h => by
    rw [w.1 i (by omega)]
    exact x.cell (by omega) (by omega) (by omega) (by omega)
  have tp2 : TP S2 := tp.of (fun z a => by rw [e0]; exact x.1 0 z (by decide) (by decide) (by decide) (by omega)) (cc 1 (by decide) (by omega)) (cc 86 (by decide) (by omega)) (cc 84 (by decide) (by omega)) (fun z a => c83 z (by omega))
  refine ⟨S2, ?_, g.tell x.x w.w so1 hb1 hi2 tp2⟩
  unfold mL_32
  refine bdG2_e a x.2.1 ?_ m2
  rw [bd2_e b, nx_e, m1, gd_t ⟨c, c⟩, if_pos rfl]
