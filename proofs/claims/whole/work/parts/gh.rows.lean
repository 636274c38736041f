/-! both sides: length, depth, term, sign, atoms of a thing -/
theorem s_length {S : St} (h : SpO S) {a b c : Int} (ha : inI a) (hb : inI b) (hc : inI c) : ∃ (r : Int) (S1 S2 : St), mX11_length S a b c = some (r, S1) ∧ mX12_length S1 a b c = some (r, S2) ∧ inI r ∧ SpR S S1 S2 := by
  rcases e_asks (i := -1) (l := -1) h ha hb hc (by decide) (by decide) with ⟨e, n, v, S1, S3, S2, x1, x2, x3, x4, x5, x6, x7, x8⟩ | ⟨r, S2, r1, r2, r3, r4⟩
  · have ln := len_tX h.1.2.2 x1.1 x1.2.1 x1.2.2.1 x1.2.2.2
    refine ⟨((tX (S 84) e n v).length : Int), S1, S2, ?_, ?_, by omega, x8⟩
    · unfold mX11_length
      refine entG_e ?_ x8.1.2.1
      refine bdG2_e x3 x8.1.2.1 ?_ gle_rfl
      rw [gd_t (by decide), if_pos rfl, x4.1.2.1.1]
    · unfold mX12_length
      rw [bd2_e x5, gd_t (by decide), if_pos (by decide), bd1_e x6, x7.1.1]
  · refine ⟨r, S, S2, ?_, ?_, by omega, r4⟩
    · unfold mX11_length
      refine entG_e ?_ gle_rfl
      refine bdG2_e r2 gle_rfl ?_ gle_rfl
      rw [gd_t (by omega), if_neg (by omega)]
    · unfold mX12_length
      rw [bd2_e r3, gd_t (by omega), if_neg (by omega)]
theorem tD_le {S : St} (h : SpO S) {e n v : Nat} (x : isTh (S 84) e n v) : tD (S 84) e n v ≤ 1024 ∧ (∀ y ∈ exI (S 84) e n v, VN (S 84) y) ∧ (((tmP (S 84) e n v).1 : Nat) : Int) ≤ 10 := by
  obtain ⟨⟨h1, h2, h3⟩, -⟩ := h
  obtain ⟨k1, k2, k3, k4⟩ := x
  have wf := h1.wf
  have hM1 := wf.2.1
  obtain ⟨E', TE, rO, rT, rK, rk⟩ := h1.rks
  have e' : kM (S 84) e n = sm (cnE (S 84) e) (fun t => byM (S 84) e t n) := by
    rcases ev_to (k_terms h1 k1 (n := n) (by omega)) with q | ⟨q, _⟩
    · exact q
    · rw [CC_eq] at q; omega
  have oE := wf.2.2.2.2.1 e k1
  obtain ⟨tt, u, a1, a2, a3, a4, a5, a6, a7⟩ := exI_ok h1 rk (show (0 : Int) ≤ 0 by omega) oE k2 (by rw [← e']; exact k3) (by rw [← e']; exact k4)
  have vn : ∀ y ∈ exI (S 84) e n v, VN (S 84) y := fun y hy => (a7 y hy).1
  have hgB : hgL (exI (S 84) e n v) (hgN (S 84) 432) ≤ (exI (S 84) e n v).length + 1000 := hgL_le (fun y hy => (h3.1 y (vn y hy)).1)
  have dpB : mxl (exI (S 84) e n v) (dpN (S 84) 432) ≤ hgL (exI (S 84) e n v) (hgN (S 84) 432) := mxl_hgL (fun y _ => dp_hg 432 y)
  have b2 := (h3.2 e n v k1 k2 k3 k4).2.1
  have o1 := oE.1
  refine ⟨by unfold tD; omega, vn, ?_⟩
  rw [a1]
  show (tt : Int) ≤ 10
  omega
theorem s_deep {S : St} (h : SpO S) {a b c : Int} (ha : inI a) (hb : inI b) (hc : inI c) : ∃ (r : Int) (S1 S2 : St), mX11_deep S a b c = some (r, S1) ∧ mX12_deep S1 a b c = some (r, S2) ∧ inI r ∧ SpR S S1 S2 := by
  rcases e_asks (i := -1) (l := -1) h ha hb hc (by decide) (by decide) with ⟨e, n, v, S1, S3, S2, x1, x2, x3, x4, x5, x6, x7, x8⟩ | ⟨r, S2, r1, r2, r3, r4⟩
  · have ln := (tD_le h x1).1
    refine ⟨(tD (S 84) e n v : Int), S1, S2, ?_, ?_, by omega, x8⟩
    · unfold mX11_deep
      refine entG_e ?_ x8.1.2.1
      refine bdG2_e x3 x8.1.2.1 ?_ gle_rfl
      rw [gd_t (by decide), if_pos rfl, x4.2.1.1]
    · unfold mX12_deep
      rw [bd2_e x5, gd_t (by decide), if_pos (by decide), bd1_e x6, x7.2.1.1]
  · refine ⟨r, S, S2, ?_, ?_, by omega, r4⟩
    · unfold mX11_deep
      refine entG_e ?_ gle_rfl
      refine bdG2_e r2 gle_rfl ?_ gle_rfl
      rw [gd_t (by omega), if_neg (by omega)]
    · unfold mX12_deep
      rw [bd2_e r3, gd_t (by omega), if_neg (by omega)]
theorem s_term {S : St} (h : SpO S) {a b c : Int} (ha : inI a) (hb : inI b) (hc : inI c) : ∃ (r : Int) (S1 S2 : St), mX11_term S a b c = some (r, S1) ∧ mX12_term S1 a b c = some (r, S2) ∧ inI r ∧ SpR S S1 S2 := by
  rcases e_asks (i := -1) (l := -1) h ha hb hc (by decide) (by decide) with ⟨e, n, v, S1, S3, S2, x1, x2, x3, x4, x5, x6, x7, x8⟩ | ⟨r, S2, r1, r2, r3, r4⟩
  · have ln := (tD_le h x1).2.2
    refine ⟨(((tmP (S 84) e n v).1 : Nat) : Int), S1, S2, ?_, ?_, by omega, x8⟩
    · unfold mX11_term
      refine entG_e ?_ x8.1.2.1
      refine bdG2_e x3 x8.1.2.1 ?_ gle_rfl
      rw [gd_t (by decide), if_pos rfl, x4.2.1.2.2]
    · unfold mX12_term
      rw [bd2_e x5, gd_t (by decide), if_pos (by decide), bd1_e x6, x7.2.1.2.2.2]
  · refine ⟨r, S, S2, ?_, ?_, by omega, r4⟩
    · unfold mX11_term
      refine entG_e ?_ gle_rfl
      refine bdG2_e r2 gle_rfl ?_ gle_rfl
      rw [gd_t (by omega), if_neg (by omega)]
    · unfold mX12_term
      rw [bd2_e r3, gd_t (by omega), if_neg (by omega)]
theorem s_symmetries {S : St} (h : SpO S) {a b c : Int} (ha : inI a) (hb : inI b) (hc : inI c) : ∃ (r : Int) (S1 S2 : St), mX11_symmetries S a b c = some (r, S1) ∧ mX12_symmetries S1 a b c = some (r, S2) ∧ inI r ∧ SpR S S1 S2 := by
  rcases e_asks (i := -1) (l := -1) h ha hb hc (by decide) (by decide) with ⟨e, n, v, S1, S3, S2, x1, x2, x3, x4, x5, x6, x7, x8⟩ | ⟨r, S2, r1, r2, r3, r4⟩
  · have ln := (h.1.2.2.2 e n v x1.1 x1.2.1 x1.2.2.1 x1.2.2.2).2.2
    refine ⟨(tR (S 84) e n v : Int), S1, S2, ?_, ?_, by omega, x8⟩
    · unfold mX11_symmetries
      refine entG_e ?_ x8.1.2.1
      refine bdG2_e x3 x8.1.2.1 ?_ gle_rfl
      rw [gd_t (by decide), if_pos rfl, x4.2.1.2.1]
    · unfold mX12_symmetries
      rw [bd2_e x5, gd_t (by decide), if_pos (by decide), bd1_e x6, x7.2.1.2.2.1]
  · refine ⟨r, S, S2, ?_, ?_, by omega, r4⟩
    · unfold mX11_symmetries
      refine entG_e ?_ gle_rfl
      refine bdG2_e r2 gle_rfl ?_ gle_rfl
      rw [gd_t (by omega), if_neg (by omega)]
    · unfold mX12_symmetries
      rw [bd2_e r3, gd_t (by omega), if_neg (by omega)]
theorem cnI_le {a : Int} : ∀ w : List Int, cnI a w ≤ w.length := by
  intro w
  induction w with
  | nil => exact Nat.le_refl _
  | cons c w ih =>
    show (if c = a then 1 else 0) + cnI a w ≤ w.length + 1
    split <;> omega
theorem s_atoms {S : St} (h : SpO S) {a b c d : Int} (ha : inI a) (hb : inI b) (hc : inI c) (hd : inI d) : ∃ (r : Int) (S1 S2 : St), mX11_atoms S a b c d = some (r, S1) ∧ mX12_atoms S1 a b c d = some (r, S2) ∧ inI r ∧ SpR S S1 S2 := by
  have lt : mX11_lettered d = some (if 0 ≤ d ∧ d ≤ 25 then 1 else 0) := by
    unfold mX11_lettered
    rw [gd_t hd]
    by_cases z : d < 0
    · rw [if_pos z, if_neg (by omega)]
    · rw [if_neg z]
      by_cases y : 26 ≤ d
      · rw [if_pos y, if_neg (by omega)]
      · rw [if_neg y, if_pos (by omega)]
  have inn := e_in (v := d) (lo := 0) (hi := 25) (by omega) (by decide) (by decide)
  by_cases z : 0 ≤ d ∧ d ≤ 25
  · rw [if_pos z] at lt inn
    obtain ⟨q, rfl⟩ : ∃ q : Nat, d = (q : Int) := ⟨d.toNat, by omega⟩
    rcases e_asks (i := -1) (l := (q : Int)) h ha hb hc (by decide) (by omega) with ⟨e, n, v, S1, S3, S2, x1, x2, x3, x4, x5, x6, x7, x8⟩ | ⟨r, S2, r1, r2, r3, r4⟩
    · have ln := len_tX h.1.2.2 x1.1 x1.2.1 x1.2.2.1 x1.2.2.2
      have cl := cnI_le (a := 97 + (q : Int)) (tX (S 84) e n v)
      refine ⟨(cnI (97 + (q : Int)) (tX (S 84) e n v) : Int), S1, S2, ?_, ?_, by omega, x8⟩
      · unfold mX11_atoms
        refine entG_e ?_ x8.1.2.1
        rw [bd1_e lt, gd_t (by decide), if_neg (by decide)]
        refine bdG2_e x3 x8.1.2.1 ?_ gle_rfl
        rw [gd_t (by decide), if_pos rfl, gd_t (by omega), x4.2.2 q (by omega)]
      · unfold mX12_atoms
        rw [gd_t hd, bd1_e inn, gd_t (by decide), if_neg (by decide), bd2_e x5, bd2_s, gd_t (by decide), if_pos (by decide), bd1_e x6, x7.2.1.2.1]
    · refine ⟨r, S, S2, ?_, ?_, by omega, r4⟩
      · unfold mX11_atoms
        refine entG_e ?_ gle_rfl
        rw [bd1_e lt, gd_t (by decide), if_neg (by decide)]
        refine bdG2_e r2 gle_rfl ?_ gle_rfl
        rw [gd_t (by omega), if_neg (by omega)]
      · unfold mX12_atoms
        rw [gd_t hd, bd1_e inn, gd_t (by decide), if_neg (by decide), bd2_e r3, bd2_s, gd_t (by omega), if_neg (by omega)]
  · rw [if_neg z] at lt inn
    refine ⟨-2, S, S, ?_, ?_, by decide, GFr.rf, h, kept.rf⟩
    · unfold mX11_atoms
      refine entG_e ?_ gle_rfl
      rw [bd1_e lt, gd_t (by decide), if_pos rfl]
    · unfold mX12_atoms
      rw [gd_t hd, bd1_e inn, gd_t (by decide), if_pos rfl, bd2_s, gd_t (by decide), if_neg (by decide)]
theorem foF_at {x : Nat} : ∀ (w : List Int) (l : Nat) (f : Int), foF (x : Int) w (l : Int) f = if l ≤ x ∧ x < l + w.length then (w[x - l]?).getD f else f := by
  intro w
  induction w with
  | nil => intro l f; rw [if_neg (show ¬ (l ≤ x ∧ x < l + ([] : List Int).length) by rw [List.length_nil]; omega)]; rfl
  | cons c w ih =>
    intro l f
    show foF (x : Int) w ((l : Int) + 1) (if (l : Int) = (x : Int) then c else f) = _
    rw [show (l : Int) + 1 = ((l + 1 : Nat) : Int) by omega, ih, List.length_cons]
    by_cases y : l = x
    · subst y
      rw [if_neg (by omega), if_pos rfl, if_pos (by omega), Nat.sub_self]; rfl
    · rw [if_neg (show ¬ (l : Int) = (x : Int) by omega)]
      by_cases z : l + 1 ≤ x ∧ x < l + 1 + w.length
      · rw [if_pos z, if_pos (by omega), show x - l = (x - (l + 1)) + 1 by omega, List.getElem?_cons_succ]
      · rw [if_neg z, if_neg (by omega)]
theorem s_sign {S : St} (h : SpO S) {a b c d : Int} (ha : inI a) (hb : inI b) (hc : inI c) (hd : inI d) : ∃ (r : Int) (S1 S2 : St), mX11_sign S a b c d = some (r, S1) ∧ mX12_sign S1 a b c d = some (r, S2) ∧ inI r ∧ SpR S S1 S2 := by
  by_cases z : 0 ≤ d
  · obtain ⟨q, rfl⟩ : ∃ q : Nat, d = (q : Int) := ⟨d.toNat, by omega⟩
    rcases e_asks (i := (q : Int)) (l := -1) h ha hb hc hd (by decide) with ⟨e, n, v, S1, S3, S2, x1, x2, x3, x4, x5, x6, x7, x8⟩ | ⟨r, S2, r1, r2, r3, r4⟩
    · have ln := len_tX h.1.2.2 x1.1 x1.2.1 x1.2.2.1 x1.2.2.2
      obtain ⟨E, e1, e2, e3, e4⟩ := x4.1.e
      obtain ⟨⟨w1, w2, w3⟩, ⟨w4, w5⟩, w6, w7, w8⟩ := x4.1
      have rf : S2 83 22 = if q < (tX (S 84) e n v).length then ((tX (S 84) e n v)[q]?).getD (-1) else -1 := by
        have k := foF_at (x := q) (tX (S 84) e n v) 0 (-1)
        rw [x7.1.2.1]
        rw [show ((0 : Nat) : Int) = 0 from rfl] at k
        rw [k, Nat.sub_zero, Nat.zero_add]
        by_cases y : q < (tX (S 84) e n v).length
        · rw [if_pos ⟨Nat.zero_le _, y⟩, if_pos y]
        · rw [if_neg (fun u => y u.2), if_neg y]
      obtain ⟨r, hr⟩ : ∃ r, r = S2 83 22 := ⟨_, rfl⟩
      have sg : mX9_signAt S1 (q : Int) = some (r, S1) ∧ inI r := by
        unfold mX9_signAt
        by_cases y : q < (tX (S 84) e n v).length
        · obtain ⟨ch, hch⟩ : ∃ ch, (tX (S 84) e n v)[q]? = some ch := ⟨_, List.getElem?_eq_getElem y⟩
          rw [if_pos y, hch] at rf
          have r' : r = ch := hr.trans rf
          have val := w7 q ch hch
          have bd := w8 q (by omega)
          rw [val] at bd
          refine ⟨entG_e ?_ gle_rfl, by omega⟩
          rw [gd_t hd, if_neg (by omega), gd_t (by omega), if_neg (by omega), gd_t ⟨w1, by omega⟩, gd_t (by omega), if_neg (by omega), gd_t ⟨w1, by omega, by omega, by omega⟩, val, r']
        · rw [if_neg y] at rf
          refine ⟨entG_e ?_ gle_rfl, by omega⟩
          rw [gd_t hd, if_neg (by omega), gd_t (by omega), if_pos (by omega), hr, rf]
      refine ⟨r, S1, S2, ?_, ?_, sg.2, x8⟩
      · unfold mX11_sign
        refine entG_e ?_ x8.1.2.1
        rw [gd_t hd, if_pos z]
        refine bdG2_e x3 x8.1.2.1 ?_ gle_rfl
        rw [gd_t (by decide), if_pos rfl]
        exact bdG2_e sg.1 gle_rfl rfl gle_rfl
      · unfold mX12_sign
        rw [gd_t hd, if_pos z, bd2_e x5, bd2_s, gd_t (by decide), if_pos (by decide), bd1_e x6, hr]
    · refine ⟨r, S, S2, ?_, ?_, by omega, r4⟩
      · unfold mX11_sign
        refine entG_e ?_ gle_rfl
        rw [gd_t hd, if_pos z]
        refine bdG2_e r2 gle_rfl ?_ gle_rfl
        rw [gd_t (by omega), if_neg (by omega)]
      · unfold mX12_sign
        rw [gd_t hd, if_pos z, bd2_e r3, bd2_s, gd_t (by omega), if_neg (by omega)]
  · refine ⟨-2, S, S, ?_, ?_, by decide, GFr.rf, h, kept.rf⟩
    · unfold mX11_sign
      refine entG_e ?_ gle_rfl
      rw [gd_t hd, if_neg z]
    · unfold mX12_sign
      rw [gd_t hd, if_neg z, bd2_s, gd_t (by decide), if_neg (by decide)]
