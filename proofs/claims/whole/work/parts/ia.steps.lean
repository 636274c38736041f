/-! each call keeps the invariant -/
theorem INV.kept83 {n : Nat} {S T : St} (g : INV n S) (hn : n ≤ 512) (k : kept [90, 91, 92] [(83, 44)] S T) : INV (n + 1) T := g.still hn ⟨fun i a => k.cell i (by simp <;> omega) (by simp <;> omega), fun q a => k 83 q (by decide) (by simp <;> omega)⟩ (fun i a => k.cell i (by simp <;> omega) (by simp <;> omega)) (fun q a b => k 83 q (by decide) (by simp <;> omega))
theorem st_c3 {n : Nat} {S : St} (g : INV n S) (hn : n ≤ 512) {x1 x2 x3 x4 x5 : Int} (h1 : inI x1) (h2 : inI x2) (h3 : inI x3) (h4 : inI x4) (h5 : inI x5) : ∃ S1, mL_3 x1 x2 x3 x4 x5 S = some S1 ∧ INV (n + 1) S1 := by
  have g' := g
  obtain ⟨gi, tp, nl, ⟨nex, lk, vu⟩, y0, rl, ⟨hb, hi⟩, s, rr⟩ := g'
  have gi' := gi
  obtain ⟨cor, stu, ce, ⟨d, dp⟩, hh, ⟨am, as, m3⟩, nk, l1, l2, l3, dl⟩ := gi'
  obtain ⟨r, a, b, c⟩ := s_fault tp h1
  refine ⟨S, ?_, g.more hn⟩
  unfold mL_3
  rw [bd1_e a, bd1_e b, gd_t ⟨c, c⟩, if_pos rfl]
theorem st_c4 {n : Nat} {S : St} (g : INV n S) (hn : n ≤ 512) {x1 x2 x3 x4 x5 : Int} (h1 : inI x1) (h2 : inI x2) (h3 : inI x3) (h4 : inI x4) (h5 : inI x5) : ∃ S1, mL_4 x1 x2 x3 x4 x5 S = some S1 ∧ INV (n + 1) S1 := by
  have g' := g
  obtain ⟨gi, tp, nl, ⟨nex, lk, vu⟩, y0, rl, ⟨hb, hi⟩, s, rr⟩ := g'
  have gi' := gi
  obtain ⟨cor, stu, ce, ⟨d, dp⟩, hh, ⟨am, as, m3⟩, nk, l1, l2, l3, dl⟩ := gi'
  obtain ⟨r, a, b, c⟩ := s_count cor tp m3 h1
  refine ⟨S, ?_, g.more hn⟩
  unfold mL_4
  rw [bd1_e a, bd1_e b, gd_t ⟨c, c⟩, if_pos rfl]
theorem st_c5 {n : Nat} {S : St} (g : INV n S) (hn : n ≤ 512) {x1 x2 x3 x4 x5 : Int} (h1 : inI x1) (h2 : inI x2) (h3 : inI x3) (h4 : inI x4) (h5 : inI x5) : ∃ S1, mL_5 x1 x2 x3 x4 x5 S = some S1 ∧ INV (n + 1) S1 := by
  have g' := g
  obtain ⟨gi, tp, nl, ⟨nex, lk, vu⟩, y0, rl, ⟨hb, hi⟩, s, rr⟩ := g'
  have gi' := gi
  obtain ⟨cor, stu, ce, ⟨d, dp⟩, hh, ⟨am, as, m3⟩, nk, l1, l2, l3, dl⟩ := gi'
  obtain ⟨r, a, b, c⟩ := s_terms cor h1
  refine ⟨S, ?_, g.more hn⟩
  unfold mL_5
  rw [bd1_e a, bd1_e b, gd_t ⟨c, c⟩, if_pos rfl]
theorem st_c6 {n : Nat} {S : St} (g : INV n S) (hn : n ≤ 512) {x1 x2 x3 x4 x5 : Int} (h1 : inI x1) (h2 : inI x2) (h3 : inI x3) (h4 : inI x4) (h5 : inI x5) : ∃ S1, mL_6 x1 x2 x3 x4 x5 S = some S1 ∧ INV (n + 1) S1 := by
  have g' := g
  obtain ⟨gi, tp, nl, ⟨nex, lk, vu⟩, y0, rl, ⟨hb, hi⟩, s, rr⟩ := g'
  have gi' := gi
  obtain ⟨cor, stu, ce, ⟨d, dp⟩, hh, ⟨am, as, m3⟩, nk, l1, l2, l3, dl⟩ := gi'
  obtain ⟨r, a, b, c⟩ := s_off cor h1
  refine ⟨S, ?_, g.more hn⟩
  unfold mL_6
  rw [bd1_e a, bd1_e b, gd_t ⟨c, c⟩, if_pos rfl]
theorem st_c7 {n : Nat} {S : St} (g : INV n S) (hn : n ≤ 512) {x1 x2 x3 x4 x5 : Int} (h1 : inI x1) (h2 : inI x2) (h3 : inI x3) (h4 : inI x4) (h5 : inI x5) : ∃ S1, mL_7 x1 x2 x3 x4 x5 S = some S1 ∧ INV (n + 1) S1 := by
  have g' := g
  obtain ⟨gi, tp, nl, ⟨nex, lk, vu⟩, y0, rl, ⟨hb, hi⟩, s, rr⟩ := g'
  have gi' := gi
  obtain ⟨cor, stu, ce, ⟨d, dp⟩, hh, ⟨am, as, m3⟩, nk, l1, l2, l3, dl⟩ := gi'
  obtain ⟨r, a, b, c⟩ := s_letters cor stu dp h1
  refine ⟨S, ?_, g.more hn⟩
  unfold mL_7
  rw [bd1_e a, bd1_e b, gd_t ⟨c, c⟩, if_pos rfl]
theorem st_c8 {n : Nat} {S : St} (g : INV n S) (hn : n ≤ 512) {x1 x2 x3 x4 x5 : Int} (h1 : inI x1) (h2 : inI x2) (h3 : inI x3) (h4 : inI x4) (h5 : inI x5) : ∃ S1, mL_8 x1 x2 x3 x4 x5 S = some S1 ∧ INV (n + 1) S1 := by
  have g' := g
  obtain ⟨gi, tp, nl, ⟨nex, lk, vu⟩, y0, rl, ⟨hb, hi⟩, s, rr⟩ := g'
  have gi' := gi
  obtain ⟨cor, stu, ce, ⟨d, dp⟩, hh, ⟨am, as, m3⟩, nk, l1, l2, l3, dl⟩ := gi'
  obtain ⟨r, a, b, c⟩ := s_uses cor stu dp h1
  refine ⟨S, ?_, g.more hn⟩
  unfold mL_8
  rw [bd1_e a, bd1_e b, gd_t ⟨c, c⟩, if_pos rfl]
theorem st_c9 {n : Nat} {S : St} (g : INV n S) (hn : n ≤ 512) {x1 x2 x3 x4 x5 : Int} (h1 : inI x1) (h2 : inI x2) (h3 : inI x3) (h4 : inI x4) (h5 : inI x5) : ∃ S1, mL_9 x1 x2 x3 x4 x5 S = some S1 ∧ INV (n + 1) S1 := by
  have g' := g
  obtain ⟨gi, tp, nl, ⟨nex, lk, vu⟩, y0, rl, ⟨hb, hi⟩, s, rr⟩ := g'
  have gi' := gi
  obtain ⟨cor, stu, ce, ⟨d, dp⟩, hh, ⟨am, as, m3⟩, nk, l1, l2, l3, dl⟩ := gi'
  obtain ⟨r, a, b, c⟩ := s_reaches cor stu dp h1
  refine ⟨S, ?_, g.more hn⟩
  unfold mL_9
  rw [bd1_e a, bd1_e b, gd_t ⟨c, c⟩, if_pos rfl]
theorem st_c31 {n : Nat} {S : St} (g : INV n S) (hn : n ≤ 512) {x1 x2 x3 x4 x5 : Int} (h1 : inI x1) (h2 : inI x2) (h3 : inI x3) (h4 : inI x4) (h5 : inI x5) : ∃ S1, mL_31 x1 x2 x3 x4 x5 S = some S1 ∧ INV (n + 1) S1 := by
  have g' := g
  obtain ⟨gi, tp, nl, ⟨nex, lk, vu⟩, y0, rl, ⟨hb, hi⟩, s, rr⟩ := g'
  have gi' := gi
  obtain ⟨cor, stu, ce, ⟨d, dp⟩, hh, ⟨am, as, m3⟩, nk, l1, l2, l3, dl⟩ := gi'
  obtain ⟨r, a, b, c⟩ := s_told tp h1
  refine ⟨S, ?_, g.more hn⟩
  unfold mL_31
  rw [bd1_e a, bd1_e b, gd_t ⟨c, c⟩, if_pos rfl]
theorem st_c43 {n : Nat} {S : St} (g : INV n S) (hn : n ≤ 512) {x1 x2 x3 x4 x5 : Int} (h1 : inI x1) (h2 : inI x2) (h3 : inI x3) (h4 : inI x4) (h5 : inI x5) : ∃ S1, mL_43 x1 x2 x3 x4 x5 S = some S1 ∧ INV (n + 1) S1 := by
  have g' := g
  obtain ⟨gi, tp, nl, ⟨nex, lk, vu⟩, y0, rl, ⟨hb, hi⟩, s, rr⟩ := g'
  have gi' := gi
  obtain ⟨cor, stu, ce, ⟨d, dp⟩, hh, ⟨am, as, m3⟩, nk, l1, l2, l3, dl⟩ := gi'
  obtain ⟨r, a, b, c⟩ := s_left dl
  refine ⟨S, ?_, g.more hn⟩
  unfold mL_43
  rw [bd1_e a, bd1_e b, gd_t ⟨c, c⟩, if_pos rfl]
theorem st_c10 {n : Nat} {S : St} (g : INV n S) (hn : n ≤ 512) {x1 x2 x3 x4 x5 : Int} (h1 : inI x1) (h2 : inI x2) (h3 : inI x3) (h4 : inI x4) (h5 : inI x5) : ∃ S1, mL_10 x1 x2 x3 x4 x5 S = some S1 ∧ INV (n + 1) S1 := by
  have g' := g
  obtain ⟨gi, tp, nl, ⟨nex, lk, vu⟩, y0, rl, ⟨hb, hi⟩, s, rr⟩ := g'
  have gi' := gi
  obtain ⟨cor, stu, ce, ⟨d, dp⟩, hh, ⟨am, as, m3⟩, nk, l1, l2, l3, dl⟩ := gi'
  obtain ⟨r, S2, a, b, c, q⟩ := s_empty cor stu h1
  refine ⟨S2, ?_, g.k89 hn q⟩
  have mk : msk S2 S = S2 := msk_e (fun i hi => q.cell i (by simp <;> omega) (by simp <;> omega)) (q.cell 0 (by decide) (by decide))
  unfold mL_10
  rw [bd1_e a, bd2_e b, nx_e, mk, gd_t ⟨c, c⟩, if_pos rfl]
theorem st_c11 {n : Nat} {S : St} (g : INV n S) (hn : n ≤ 512) {x1 x2 x3 x4 x5 : Int} (h1 : inI x1) (h2 : inI x2) (h3 : inI x3) (h4 : inI x4) (h5 : inI x5) : ∃ S1, mL_11 x1 x2 x3 x4 x5 S = some S1 ∧ INV (n + 1) S1 := by
  have g' := g
  obtain ⟨gi, tp, nl, ⟨nex, lk, vu⟩, y0, rl, ⟨hb, hi⟩, s, rr⟩ := g'
  have gi' := gi
  obtain ⟨cor, stu, ce, ⟨d, dp⟩, hh, ⟨am, as, m3⟩, nk, l1, l2, l3, dl⟩ := gi'
  obtain ⟨r, S2, a, b, c, q⟩ := s_leans cor stu dp h1
  refine ⟨S2, ?_, g.k89 hn q⟩
  have mk : msk S2 S = S2 := msk_e (fun i hi => q.cell i (by simp <;> omega) (by simp <;> omega)) (q.cell 0 (by decide) (by decide))
  unfold mL_11
  rw [bd1_e a, bd2_e b, nx_e, mk, gd_t ⟨c, c⟩, if_pos rfl]
theorem st_c12 {n : Nat} {S : St} (g : INV n S) (hn : n ≤ 512) {x1 x2 x3 x4 x5 : Int} (h1 : inI x1) (h2 : inI x2) (h3 : inI x3) (h4 : inI x4) (h5 : inI x5) : ∃ S1, mL_12 x1 x2 x3 x4 x5 S = some S1 ∧ INV (n + 1) S1 := by
  have g' := g
  obtain ⟨gi, tp, nl, ⟨nex, lk, vu⟩, y0, rl, ⟨hb, hi⟩, s, rr⟩ := g'
  have gi' := gi
  obtain ⟨cor, stu, ce, ⟨d, dp⟩, hh, ⟨am, as, m3⟩, nk, l1, l2, l3, dl⟩ := gi'
  obtain ⟨r, S2, a, b, c, q⟩ := s_blank cor m3
  refine ⟨S2, ?_, g.k90 hn q⟩
  have mk : msk S2 S = S2 := msk_e (fun i hi => q.cell i (by simp <;> omega) (by simp <;> omega)) (q.cell 0 (by decide) (by decide))
  unfold mL_12
  rw [bd1_e a, bd2_e b, nx_e, mk, gd_t ⟨c, c⟩, if_pos rfl]
theorem st_c13 {n : Nat} {S : St} (g : INV n S) (hn : n ≤ 512) {x1 x2 x3 x4 x5 : Int} (h1 : inI x1) (h2 : inI x2) (h3 : inI x3) (h4 : inI x4) (h5 : inI x5) : ∃ S1, mL_13 x1 x2 x3 x4 x5 S = some S1 ∧ INV (n + 1) S1 := by
  have g' := g
  obtain ⟨gi, tp, nl, ⟨nex, lk, vu⟩, y0, rl, ⟨hb, hi⟩, s, rr⟩ := g'
  have gi' := gi
  obtain ⟨cor, stu, ce, ⟨d, dp⟩, hh, ⟨am, as, m3⟩, nk, l1, l2, l3, dl⟩ := gi'
  obtain ⟨r, S2, a, b, c, q⟩ := s_least cor h1
  refine ⟨S2, ?_, g.k90 hn q⟩
  have mk : msk S2 S = S2 := msk_e (fun i hi => q.cell i (by simp <;> omega) (by simp <;> omega)) (q.cell 0 (by decide) (by decide))
  unfold mL_13
  rw [bd1_e a, bd2_e b, nx_e, mk, gd_t ⟨c, c⟩, if_pos rfl]
theorem st_c14 {n : Nat} {S : St} (g : INV n S) (hn : n ≤ 512) {x1 x2 x3 x4 x5 : Int} (h1 : inI x1) (h2 : inI x2) (h3 : inI x3) (h4 : inI x4) (h5 : inI x5) : ∃ S1, mL_14 x1 x2 x3 x4 x5 S = some S1 ∧ INV (n + 1) S1 := by
  have g' := g
  obtain ⟨gi, tp, nl, ⟨nex, lk, vu⟩, y0, rl, ⟨hb, hi⟩, s, rr⟩ := g'
  have gi' := gi
  obtain ⟨cor, stu, ce, ⟨d, dp⟩, hh, ⟨am, as, m3⟩, nk, l1, l2, l3, dl⟩ := gi'
  obtain ⟨r, S2, a, b, c, q⟩ := s_things cor h1 h2
  refine ⟨S2, ?_, g.k90 hn q⟩
  have mk : msk S2 S = S2 := msk_e (fun i hi => q.cell i (by simp <;> omega) (by simp <;> omega)) (q.cell 0 (by decide) (by decide))
  unfold mL_14
  rw [bd1_e a, bd2_e b, nx_e, mk, gd_t ⟨c, c⟩, if_pos rfl]
theorem st_c15 {n : Nat} {S : St} (g : INV n S) (hn : n ≤ 512) {x1 x2 x3 x4 x5 : Int} (h1 : inI x1) (h2 : inI x2) (h3 : inI x3) (h4 : inI x4) (h5 : inI x5) : ∃ S1, mL_15 x1 x2 x3 x4 x5 S = some S1 ∧ INV (n + 1) S1 := by
  have g' := g
  obtain ⟨gi, tp, nl, ⟨nex, lk, vu⟩, y0, rl, ⟨hb, hi⟩, s, rr⟩ := g'
  have gi' := gi
  obtain ⟨cor, stu, ce, ⟨d, dp⟩, hh, ⟨am, as, m3⟩, nk, l1, l2, l3, dl⟩ := gi'
  obtain ⟨r, S2, a, b, c, q⟩ := s_upto cor h1 h2
  refine ⟨S2, ?_, g.k90 hn q⟩
  have mk : msk S2 S = S2 := msk_e (fun i hi => q.cell i (by simp <;> omega) (by simp <;> omega)) (q.cell 0 (by decide) (by decide))
  unfold mL_15
  rw [bd1_e a, bd2_e b, nx_e, mk, gd_t ⟨c, c⟩, if_pos rfl]
theorem st_c19 {n : Nat} {S : St} (g : INV n S) (hn : n ≤ 512) {x1 x2 x3 x4 x5 : Int} (h1 : inI x1) (h2 : inI x2) (h3 : inI x3) (h4 : inI x4) (h5 : inI x5) : ∃ S1, mL_19 x1 x2 x3 x4 x5 S = some S1 ∧ INV (n + 1) S1 := by
  have g' := g
  obtain ⟨gi, tp, nl, ⟨nex, lk, vu⟩, y0, rl, ⟨hb, hi⟩, s, rr⟩ := g'
  have gi' := gi
  obtain ⟨cor, stu, ce, ⟨d, dp⟩, hh, ⟨am, as, m3⟩, nk, l1, l2, l3, dl⟩ := gi'
  obtain ⟨r, S2, a, b, c, q⟩ := s_by cor h1 h2 h3
  refine ⟨S2, ?_, g.k90 hn q⟩
  have mk : msk S2 S = S2 := msk_e (fun i hi => q.cell i (by simp <;> omega) (by simp <;> omega)) (q.cell 0 (by decide) (by decide))
  unfold mL_19
  rw [bd1_e a, bd2_e b, nx_e, mk, gd_t ⟨c, c⟩, if_pos rfl]
theorem st_c22 {n : Nat} {S : St} (g : INV n S) (hn : n ≤ 512) {x1 x2 x3 x4 x5 : Int} (h1 : inI x1) (h2 : inI x2) (h3 : inI x3) (h4 : inI x4) (h5 : inI x5) : ∃ S1, mL_22 x1 x2 x3 x4 x5 S = some S1 ∧ INV (n + 1) S1 := by
  have g' := g
  obtain ⟨gi, tp, nl, ⟨nex, lk, vu⟩, y0, rl, ⟨hb, hi⟩, s, rr⟩ := g'
  have gi' := gi
  obtain ⟨cor, stu, ce, ⟨d, dp⟩, hh, ⟨am, as, m3⟩, nk, l1, l2, l3, dl⟩ := gi'
  obtain ⟨r, S2, a, b, c, q⟩ := s_idle cor m3
  refine ⟨S2, ?_, g.k90 hn q⟩
  have mk : msk S2 S = S2 := msk_e (fun i hi => q.cell i (by simp <;> omega) (by simp <;> omega)) (q.cell 0 (by decide) (by decide))
  unfold mL_22
  rw [bd1_e a, bd2_e b, nx_e, mk, gd_t ⟨c, c⟩, if_pos rfl]
theorem st_c36 {n : Nat} {S : St} (g : INV n S) (hn : n ≤ 512) {x1 x2 x3 x4 x5 : Int} (h1 : inI x1) (h2 : inI x2) (h3 : inI x3) (h4 : inI x4) (h5 : inI x5) : ∃ S1, mL_36 x1 x2 x3 x4 x5 S = some S1 ∧ INV (n + 1) S1 := by
  have g' := g
  obtain ⟨gi, tp, nl, ⟨nex, lk, vu⟩, y0, rl, ⟨hb, hi⟩, s, rr⟩ := g'
  have gi' := gi
  obtain ⟨cor, stu, ce, ⟨d, dp⟩, hh, ⟨am, as, m3⟩, nk, l1, l2, l3, dl⟩ := gi'
  obtain ⟨r, S2, a, b, c, q⟩ := s_chance cor h1 h2 h3 h4
  refine ⟨S2, ?_, g.k90 hn q⟩
  have mk : msk S2 S = S2 := msk_e (fun i hi => q.cell i (by simp <;> omega) (by simp <;> omega)) (q.cell 0 (by decide) (by decide))
  unfold mL_36
  rw [bd1_e a, bd2_e b, nx_e, mk, gd_t ⟨c, c⟩, if_pos rfl]
theorem st_c38 {n : Nat} {S : St} (g : INV n S) (hn : n ≤ 512) {x1 x2 x3 x4 x5 : Int} (h1 : inI x1) (h2 : inI x2) (h3 : inI x3) (h4 : inI x4) (h5 : inI x5) : ∃ S1, mL_38 x1 x2 x3 x4 x5 S = some S1 ∧ INV (n + 1) S1 := by
  have g' := g
  obtain ⟨gi, tp, nl, ⟨nex, lk, vu⟩, y0, rl, ⟨hb, hi⟩, s, rr⟩ := g'
  have gi' := gi
  obtain ⟨cor, stu, ce, ⟨d, dp⟩, hh, ⟨am, as, m3⟩, nk, l1, l2, l3, dl⟩ := gi'
  obtain ⟨r, S2, a, b, c, q⟩ := s_boxed cor h1 h2 h3
  refine ⟨S2, ?_, g.k90 hn q⟩
  have mk : msk S2 S = S2 := msk_e (fun i hi => q.cell i (by simp <;> omega) (by simp <;> omega)) (q.cell 0 (by decide) (by decide))
  unfold mL_38
  rw [bd1_e a, bd2_e b, nx_e, mk, gd_t ⟨c, c⟩, if_pos rfl]
theorem st_c39 {n : Nat} {S : St} (g : INV n S) (hn : n ≤ 512) {x1 x2 x3 x4 x5 : Int} (h1 : inI x1) (h2 : inI x2) (h3 : inI x3) (h4 : inI x4) (h5 : inI x5) : ∃ S1, mL_39 x1 x2 x3 x4 x5 S = some S1 ∧ INV (n + 1) S1 := by
  have g' := g
  obtain ⟨gi, tp, nl, ⟨nex, lk, vu⟩, y0, rl, ⟨hb, hi⟩, s, rr⟩ := g'
  have gi' := gi
  obtain ⟨cor, stu, ce, ⟨d, dp⟩, hh, ⟨am, as, m3⟩, nk, l1, l2, l3, dl⟩ := gi'
  obtain ⟨r, S2, a, b, c, q⟩ := s_bits cor h1 h2 h3
  refine ⟨S2, ?_, g.k90 hn q⟩
  have mk : msk S2 S = S2 := msk_e (fun i hi => q.cell i (by simp <;> omega) (by simp <;> omega)) (q.cell 0 (by decide) (by decide))
  unfold mL_39
  rw [bd1_e a, bd2_e b, nx_e, mk, gd_t ⟨c, c⟩, if_pos rfl]
theorem st_c40 {n : Nat} {S : St} (g : INV n S) (hn : n ≤ 512) {x1 x2 x3 x4 x5 : Int} (h1 : inI x1) (h2 : inI x2) (h3 : inI x3) (h4 : inI x4) (h5 : inI x5) : ∃ S1, mL_40 x1 x2 x3 x4 x5 S = some S1 ∧ INV (n + 1) S1 := by
  have g' := g
  obtain ⟨gi, tp, nl, ⟨nex, lk, vu⟩, y0, rl, ⟨hb, hi⟩, s, rr⟩ := g'
  have gi' := gi
  obtain ⟨cor, stu, ce, ⟨d, dp⟩, hh, ⟨am, as, m3⟩, nk, l1, l2, l3, dl⟩ := gi'
  obtain ⟨r, S2, a, b, c, q⟩ := s_drawn cor h1 h2 h3 h4 h5
  refine ⟨S2, ?_, g.kept83 hn q⟩
  have mk : msk S2 S = S2 := msk_e (fun i hi => q.cell i (by simp <;> omega) (by simp <;> omega)) (q.cell 0 (by decide) (by decide))
  unfold mL_40
  rw [bd1_e a, bd2_e b, nx_e, mk, gd_t ⟨c, c⟩, if_pos rfl]
theorem st_c17 {n : Nat} {S : St} (g : INV n S) (hn : n ≤ 512) {x1 x2 x3 x4 x5 : Int} (h1 : inI x1) (h2 : inI x2) (h3 : inI x3) (h4 : inI x4) (h5 : inI x5) : ∃ S1, mL_17 x1 x2 x3 x4 x5 S = some S1 ∧ INV (n + 1) S1 := by
  have g' := g
  obtain ⟨gi, tp, nl, ⟨nex, lk, vu⟩, y0, rl, ⟨hb, hi⟩, s, rr⟩ := g'
  have gi' := gi
  obtain ⟨cor, stu, ce, ⟨d, dp⟩, hh, ⟨am, as, m3⟩, nk, l1, l2, l3, dl⟩ := gi'
  have lv : inL (lor (lsh x2 32) (lan x3 4294967295)) := i64_b _
  obtain ⟨r, S2, a, b, c, q⟩ := s_first cor h1 lv
  refine ⟨S2, ?_, g.k90 hn q⟩
  have mk : msk S2 S = S2 := msk_e (fun i hi => q.cell i (by simp <;> omega) (by simp <;> omega)) (q.cell 0 (by decide) (by decide))
  unfold mL_17
  rw [gd_t h2, gd_t h3, bd1_e a, bd2_e b, nx_e, mk, gd_t ⟨c, c⟩, if_pos rfl]
theorem st_c16 {n : Nat} {S : St} (g : INV n S) (hn : n ≤ 512) {x1 x2 x3 x4 x5 : Int} (h1 : inI x1) (h2 : inI x2) (h3 : inI x3) (h4 : inI x4) (h5 : inI x5) : ∃ S1, mL_16 x1 x2 x3 x4 x5 S = some S1 ∧ INV (n + 1) S1 := by
  have g' := g
  obtain ⟨gi, tp, nl, ⟨nex, lk, vu⟩, y0, rl, ⟨hb, hi⟩, s, rr⟩ := g'
  have gi' := gi
  obtain ⟨cor, stu, ce, ⟨d, dp⟩, hh, ⟨am, as, m3⟩, nk, l1, l2, l3, dl⟩ := gi'
  obtain ⟨r, S1, S2, a, b, c, q1, q2, nk', l1'⟩ := s_labelled cor nk l1 h1 h2
  have e1 : S1 84 = S 84 := q1.cell 84 (by decide) (by decide)
  have e2 : S2 84 = S1 84 := q2.cell 84 (by decide) (by decide)
  have m1 : msk S1 S = S1 := msk_e (fun i hi => q1.cell i (by simp <;> omega) (by simp <;> omega)) (q1.cell 0 (by decide) (by decide))
  have m2 : msk S2 S1 = S2 := msk_e (fun i hi => q2.cell i (by simp <;> omega) (by simp <;> omega)) (q2.cell 0 (by decide) (by decide))
  have qt : QT S S2 := ⟨fun i a => (q2.cell i (by simp <;> omega) (by simp <;> omega)).trans (q1.cell i (by simp <;> omega) (by simp <;> omega)), fun z a => (q2 83 z (by decide) (by simp)).trans (q1 83 z (by decide) (by simp))⟩
  have c2 : ∀ i, i < 89 → i ≠ 83 → S2 i = S1 i := fun i a b => q2.cell i (by simp <;> omega) (by simp <;> omega)
  refine ⟨S2, ?_, g.led hn qt (nk'.of (fun i a b => c2 i (by omega) (by omega))) (LG1.of (S := S1) l1' e2 (by rw [c2 47 (by decide) (by decide)]) (c2 57 (by decide) (by decide))) (LG2.of (S := S1) (l2.of e1 (q1 47 3 (by decide) (by decide)) (q1.cell 58 (by decide) (by decide))) e2 (by rw [c2 47 (by decide) (by decide)]) (c2 58 (by decide) (by decide))) (LG3.of (S := S1) (l3.of e1 (q1 47 4 (by decide) (by decide)) (q1.cell 59 (by decide) (by decide))) e2 (by rw [c2 47 (by decide) (by decide)]) (c2 59 (by decide) (by decide))) ((q2.cell 80 (by decide) (by decide)).trans (q1.cell 80 (by decide) (by decide))) (fun z a b => (q2 83 z (by decide) (by simp)).trans (q1 83 z (by decide) (by simp)))⟩
  unfold mL_16
  rw [bd2_e a, nx_e, m1, bd2_e b, nx_e, m2, gd_t ⟨c, c⟩, if_pos rfl]
theorem st_c18 {n : Nat} {S : St} (g : INV n S) (hn : n ≤ 512) {x1 x2 x3 x4 x5 : Int} (h1 : inI x1) (h2 : inI x2) (h3 : inI x3) (h4 : inI x4) (h5 : inI x5) : ∃ S1, mL_18 x1 x2 x3 x4 x5 S = some S1 ∧ INV (n + 1) S1 := by
  have g' := g
  obtain ⟨gi, tp, nl, ⟨nex, lk, vu⟩, y0, rl, ⟨hb, hi⟩, s, rr⟩ := g'
  have gi' := gi
  obtain ⟨cor, stu, ce, ⟨d, dp⟩, hh, ⟨am, as, m3⟩, nk, l1, l2, l3, dl⟩ := gi'
  obtain ⟨r, S1, S2, a, b, c, q1, q2, nk', l1'⟩ := s_marked cor nk l2 h1 h2 h3 h4
  have e1 : S1 84 = S 84 := q1.cell 84 (by decide) (by decide)
  have e2 : S2 84 = S1 84 := q2.cell 84 (by decide) (by decide)
  have m1 : msk S1 S = S1 := msk_e (fun i hi => q1.cell i (by simp <;> omega) (by simp <;> omega)) (q1.cell 0 (by decide) (by decide))
  have m2 : msk S2 S1 = S2 := msk_e (fun i hi => q2.cell i (by simp <;> omega) (by simp <;> omega)) (q2.cell 0 (by decide) (by decide))
  have qt : QT S S2 := ⟨fun i a => (q2.cell i (by simp <;> omega) (by simp <;> omega)).trans (q1.cell i (by simp <;> omega) (by simp <;> omega)), fun z a => (q2 83 z (by decide) (by simp)).trans (q1 83 z (by decide) (by simp))⟩
  have c2 : ∀ i, i < 89 → i ≠ 83 → S2 i = S1 i := fun i a b => q2.cell i (by simp <;> omega) (by simp <;> omega)
  refine ⟨S2, ?_, g.led hn qt (nk'.of (fun i a b => c2 i (by omega) (by omega))) (LG1.of (S := S1) (l1.of e1 (q1 47 2 (by decide) (by decide)) (q1.cell 57 (by decide) (by decide))) e2 (by rw [c2 47 (by decide) (by decide)]) (c2 57 (by decide) (by decide))) (LG2.of (S := S1) l1' e2 (by rw [c2 47 (by decide) (by decide)]) (c2 58 (by decide) (by decide))) (LG3.of (S := S1) (l3.of e1 (q1 47 4 (by decide) (by decide)) (q1.cell 59 (by decide) (by decide))) e2 (by rw [c2 47 (by decide) (by decide)]) (c2 59 (by decide) (by decide))) ((q2.cell 80 (by decide) (by decide)).trans (q1.cell 80 (by decide) (by decide))) (fun z a b => (q2 83 z (by decide) (by simp)).trans (q1 83 z (by decide) (by simp)))⟩
  unfold mL_18
  rw [bd2_e a, nx_e, m1, bd2_e b, nx_e, m2, gd_t ⟨c, c⟩, if_pos rfl]
theorem st_c20 {n : Nat} {S : St} (g : INV n S) (hn : n ≤ 512) {x1 x2 x3 x4 x5 : Int} (h1 : inI x1) (h2 : inI x2) (h3 : inI x3) (h4 : inI x4) (h5 : inI x5) : ∃ S1, mL_20 x1 x2 x3 x4 x5 S = some S1 ∧ INV (n + 1) S1 := by
  have g' := g
  obtain ⟨gi, tp, nl, ⟨nex, lk, vu⟩, y0, rl, ⟨hb, hi⟩, s, rr⟩ := g'
  have gi' := gi
  obtain ⟨cor, stu, ce, ⟨d, dp⟩, hh, ⟨am, as, m3⟩, nk, l1, l2, l3, dl⟩ := gi'
  obtain ⟨r, S1, S2, a, b, c, q1, q2, nk', l1'⟩ := s_without cor ce nk l3 h1 h2 h3 h4
  have e1 : S1 84 = S 84 := q1.cell 84 (by decide) (by decide)
  have e2 : S2 84 = S1 84 := q2.cell 84 (by decide) (by decide)
  have m1 : msk S1 S = S1 := msk_e (fun i hi => q1.cell i (by simp <;> omega) (by simp <;> omega)) (q1.cell 0 (by decide) (by decide))
  have m2 : msk S2 S1 = S2 := msk_e (fun i hi => q2.cell i (by simp <;> omega) (by simp <;> omega)) (q2.cell 0 (by decide) (by decide))
  have qt : QT S S2 := ⟨fun i a => (q2.cell i (by simp <;> omega) (by simp <;> omega)).trans (q1.cell i (by simp <;> omega) (by simp <;> omega)), fun z a => (q2 83 z (by decide) (by simp)).trans (q1 83 z (by decide) (by simp))⟩
  have c2 : ∀ i, i < 89 → i ≠ 83 → S2 i = S1 i := fun i a b => q2.cell i (by simp <;> omega) (by simp <;> omega)
  refine ⟨S2, ?_, g.led hn qt (nk'.of (fun i a b => c2 i (by omega) (by omega))) (LG1.of (S := S1) (l1.of e1 (q1 47 2 (by decide) (by decide)) (q1.cell 57 (by decide) (by decide))) e2 (by rw [c2 47 (by decide) (by decide)]) (c2 57 (by decide) (by decide))) (LG2.of (S := S1) (l2.of e1 (q1 47 3 (by decide) (by decide)) (q1.cell 58 (by decide) (by decide))) e2 (by rw [c2 47 (by decide) (by decide)]) (c2 58 (by decide) (by decide))) (LG3.of (S := S1) l1' e2 (by rw [c2 47 (by decide) (by decide)]) (c2 59 (by decide) (by decide))) ((q2.cell 80 (by decide) (by decide)).trans (q1.cell 80 (by decide) (by decide))) (fun z a b => (q2 83 z (by decide) (by simp)).trans (q1 83 z (by decide) (by simp)))⟩
  unfold mL_20
  rw [bd2_e a, nx_e, m1, bd2_e b, nx_e, m2, gd_t ⟨c, c⟩, if_pos rfl]
theorem st_c21 {n : Nat} {S : St} (g : INV n S) (hn : n ≤ 512) {x1 x2 x3 x4 x5 : Int} (h1 : inI x1) (h2 : inI x2) (h3 : inI x3) (h4 : inI x4) (h5 : inI x5) : ∃ S1, mL_21 x1 x2 x3 x4 x5 S = some S1 ∧ INV (n + 1) S1 := by
  have g' := g
  obtain ⟨gi, tp, nl, ⟨nex, lk, vu⟩, y0, rl, ⟨hb, hi⟩, s, rr⟩ := g'
  have gi' := gi
  obtain ⟨cor, stu, ce, ⟨d, dp⟩, hh, ⟨am, as, m3⟩, nk, l1, l2, l3, dl⟩ := gi'
  obtain ⟨r, S1, S2, a, b, c, q1, q2, nk', l1'⟩ := s_hangs cor ce nk l3 stu h1 h2
  have e1 : S1 84 = S 84 := q1.cell 84 (by decide) (by decide)
  have e2 : S2 84 = S1 84 := q2.cell 84 (by decide) (by decide)
  have m1 : msk S1 S = S1 := msk_e (fun i hi => q1.cell i (by simp <;> omega) (by simp <;> omega)) (q1.cell 0 (by decide) (by decide))
  have m2 : msk S2 S1 = S2 := msk_e (fun i hi => q2.cell i (by simp <;> omega) (by simp <;> omega)) (q2.cell 0 (by decide) (by decide))
  have qt : QT S S2 := ⟨fun i a => (q2.cell i (by simp <;> omega) (by simp <;> omega)).trans (q1.cell i (by simp <;> omega) (by simp <;> omega)), fun z a => (q2 83 z (by decide) (by simp)).trans (q1 83 z (by decide) (by simp))⟩
  have c2 : ∀ i, i < 89 → i ≠ 83 → S2 i = S1 i := fun i a b => q2.cell i (by simp <;> omega) (by simp <;> omega)
  refine ⟨S2, ?_, g.led hn qt (nk'.of (fun i a b => c2 i (by omega) (by omega))) (LG1.of (S := S1) (l1.of e1 (q1 47 2 (by decide) (by decide)) (q1.cell 57 (by decide) (by decide))) e2 (by rw [c2 47 (by decide) (by decide)]) (c2 57 (by decide) (by decide))) (LG2.of (S := S1) (l2.of e1 (q1 47 3 (by decide) (by decide)) (q1.cell 58 (by decide) (by decide))) e2 (by rw [c2 47 (by decide) (by decide)]) (c2 58 (by decide) (by decide))) (LG3.of (S := S1) l1' e2 (by rw [c2 47 (by decide) (by decide)]) (c2 59 (by decide) (by decide))) ((q2.cell 80 (by decide) (by decide)).trans (q1.cell 80 (by decide) (by decide))) (fun z a b => (q2 83 z (by decide) (by simp)).trans (q1 83 z (by decide) (by simp)))⟩
  unfold mL_21
  rw [bd2_e a, nx_e, m1, bd2_e b, nx_e, m2, gd_t ⟨c, c⟩, if_pos rfl]
theorem st_c41 {n : Nat} {S : St} (g : INV n S) (hn : n ≤ 512) {x1 x2 x3 x4 x5 : Int} (h1 : inI x1) (h2 : inI x2) (h3 : inI x3) (h4 : inI x4) (h5 : inI x5) : ∃ S1, mL_41 x1 x2 x3 x4 x5 S = some S1 ∧ INV (n + 1) S1 := by
  have g' := g
  obtain ⟨gi, tp, nl, ⟨nex, lk, vu⟩, y0, rl, ⟨hb, hi⟩, s, rr⟩ := g'
  have gi' := gi
  obtain ⟨cor, stu, ce, ⟨d, dp⟩, hh, ⟨am, as, m3⟩, nk, l1, l2, l3, dl⟩ := gi'
  obtain ⟨r, S1, S2, a, b, c, q1, q2, dl'⟩ := s_deal cor dl h1 h2 h3 h4
  have m1 : msk S1 S = S1 := msk_e (fun i hi => q1.cell i (by simp <;> omega) (by simp)) (q1.cell 0 (by decide) (by decide))
  have m2 : msk S2 S1 = S2 := msk_e (fun i hi => (q2.cell i (by simp <;> omega) (by simp <;> omega)).trans (q1.cell i (by simp <;> omega) (by simp)).symm) ((q2.cell 0 (by decide) (by decide)).trans (q1.cell 0 (by decide) (by decide)).symm)
  have qt : QT S S2 := ⟨fun i a => q2.cell i (by simp <;> omega) (by simp <;> omega), fun z a => q2 83 z (by decide) (by simp <;> omega)⟩
  refine ⟨S2, ?_, g.dea hn qt (fun i a => q2.cell i (by simp <;> omega) (by simp <;> omega)) dl'⟩
  unfold mL_41
  rw [bd2_e a, nx_e, m1, bd2_e b, nx_e, m2, gd_t ⟨c, c⟩, if_pos rfl]
theorem st_c42 {n : Nat} {S : St} (g : INV n S) (hn : n ≤ 512) {x1 x2 x3 x4 x5 : Int} (h1 : inI x1) (h2 : inI x2) (h3 : inI x3) (h4 : inI x4) (h5 : inI x5) : ∃ S1, mL_42 x1 x2 x3 x4 x5 S = some S1 ∧ INV (n + 1) S1 := by
  have g' := g
  obtain ⟨gi, tp, nl, ⟨nex, lk, vu⟩, y0, rl, ⟨hb, hi⟩, s, rr⟩ := g'
  have gi' := gi
  obtain ⟨cor, stu, ce, ⟨d, dp⟩, hh, ⟨am, as, m3⟩, nk, l1, l2, l3, dl⟩ := gi'
  obtain ⟨r, S1, S2, a, b, c, q1, q2, dl'⟩ := s_dealt cor dl
  have m1 : msk S1 S = S1 := msk_e (fun i hi => q1.cell i (by simp <;> omega) (by simp)) (q1.cell 0 (by decide) (by decide))
  have m2 : msk S2 S1 = S2 := msk_e (fun i hi => (q2.cell i (by simp <;> omega) (by simp <;> omega)).trans (q1.cell i (by simp <;> omega) (by simp)).symm) ((q2.cell 0 (by decide) (by decide)).trans (q1.cell 0 (by decide) (by decide)).symm)
  have qt : QT S S2 := ⟨fun i a => q2.cell i (by simp <;> omega) (by simp <;> omega), fun z a => q2 83 z (by decide) (by simp <;> omega)⟩
  refine ⟨S2, ?_, g.dea hn qt (fun i a => q2.cell i (by simp <;> omega) (by simp <;> omega)) dl'⟩
  unfold mL_42
  rw [bd2_e a, nx_e, m1, bd2_e b, nx_e, m2, gd_t ⟨c, c⟩, if_pos rfl]
