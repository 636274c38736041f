/-! both sides: a thing asked for -/
def SpO (S : St) : Prop := (Cor S ∧ NEX (S 84) ∧ SPB (S 84)) ∧ (RC S ∧ SpC S) ∧ 105 ≤ nn S ∧ 0 ≤ S 0 16 ∧ S 0 16 ≤ 2147483647
/-- what the reference's going leaves as it is -/
abbrev kG (S T : St) : Prop := kept [90, 91, 92, 96, 97, 98] [(83, 20), (83, 21), (83, 22), (83, 23), (83, 24), (83, 25), (83, 26), (83, 27), (83, 31), (83, 32)] S T
theorem SpO.of {S T : St} (h : SpO S) (k : kG S T) : SpO T := by
  obtain ⟨⟨h1, h2, h3⟩, ⟨h4, ⟨⟨w, hw⟩, h13, h14⟩, h6, h7⟩, h8, h9, h10⟩ := h
  have c : ∀ i, i < 83 ∨ i = 84 ∨ 105 ≤ i → T i = S i := fun i hi => k.cell i (by simp; omega) (by simp; omega)
  have c84 := c 84 (Or.inr (Or.inl rfl))
  have c0 := c 0 (by omega)
  have c60 := c 60 (by omega)
  have c65 := c 65 (by omega)
  have wr : ∀ {u : List Int}, WR S u → WR T u := fun {u} hu => by
    obtain ⟨E, e1, e2, -⟩ := hu.e
    exact hu.of (by rw [c60]) (by rw [c60]) (by rw [c60]) (by rw [c0]; exact Int.le_refl _) (by rw [e1]; exact c E (by omega))
  refine ⟨⟨h1.of c84 (fun i a b => c i (by omega)) (fun i a b => c i (by omega)), by rw [c84]; exact h2, by rw [c84]; exact h3⟩, ⟨h4.of h8 (c 63 (by omega)) c84 (by rw [c0]) (Nat.le_of_eq (nn_of (S := S) (T := T) (by rw [c0])).symm) (fun i a _ _ => c i (by omega)), ⟨⟨w, wr hw⟩, by rw [c60]; exact h13, by rw [c60]; exact h14⟩, by rw [c60, c0]; exact h6, fun y => ?_⟩, by rw [nn_of (S := S) (T := T) (by rw [c0])]; exact h8, by rw [c0]; exact h9, by rw [c0]; exact h10⟩
  rw [c60, c0] at y
  obtain ⟨e, n, v, y1, y2, y3, y4, y5⟩ := h7 y
  exact ⟨e, n, v, by rw [c84]; exact y1, by rw [c60]; exact y2, by rw [c84]; exact wr y3, by rw [c84, c60]; exact y4, by rw [c84, c65]; exact y5⟩
/-- a call that spells: first the class, then the reference -/
def SpR (S S1 S2 : St) : Prop := GFr S S1 ∧ SpO S2 ∧ kG S1 S2
theorem e_spelling {S : St} (h : SpO S) {a b c : Int} (ha : inI a) (hb : inI b) (hc : inI c) : (∃ (e n v : Nat) (S1 : St), isTh (S 84) e n v ∧ (a = (e : Int) ∧ b = (n : Int) ∧ c = (v : Int)) ∧ mX11_spelling S a b c = some (0, S1) ∧ SpT (S 84) S1 e n v ∧ SpO S1 ∧ GFr S S1 ∧ ∀ T : St, T 84 = S 84 → ∃ T', mX12_whyNot T a b c = some (0, T') ∧ cnt (S 84) (-1) T' ∧ kept [90, 91, 92] [] T T') ∨ (∃ r : Int, (r = -2 ∨ r = -3) ∧ mX11_spelling S a b c = some (r, S) ∧ ∀ T : St, T 84 = S 84 → ∃ T', mX12_whyNot T a b c = some (r, T') ∧ kept [90, 91, 92] [] T T') := by
  obtain ⟨⟨h1, h2, h3⟩, ⟨h4, h5⟩, h8, h9, h10⟩ := h
  have w := h1.wf
  have hM1 := w.2.1
  have sz := e_sized h1 ha hb
  by_cases y : isK (S 84) a ∧ isN (S 84) b
  · rw [if_pos y] at sz
    obtain ⟨e, rfl⟩ : ∃ e : Nat, a = (e : Int) := ⟨a.toNat, by omega⟩
    obtain ⟨n, rfl⟩ : ∃ n : Nat, b = (n : Int) := ⟨b.toNat, by omega⟩
    have kb := h1.kle y.1.2 (n := n) (by omega)
    have ta := e_thingsAt h1 y.1.2 y.2.2
    have whyn : ∀ T : St, T 84 = S 84 → ∃ T', cnt (S 84) (-1) T' ∧ kept [90, 91, 92] [] T T' ∧ mX12_whyNot T (e : Int) (n : Int) c = (if kM (S 84) e n ≤ 200 then (if 0 ≤ c ∧ c < ((kM (S 84) e n : Nat) : Int) then some (0, T') else some (-2, T')) else some (-3, T')) := by
      intro T hT
      obtain ⟨T', s1, s2, s3⟩ := h1.cnt (T := T) (l := -1) (by decide) hT
      have km := e_kindMany w s2 y.1.2 (n := n) (by omega)
      refine ⟨T', s2, s3, ?_⟩
      have ik := e_ik h1 hT ha
      have is := e_isSize h1 hT hb
      rw [if_pos y.1] at ik
      rw [if_pos y.2] at is
      unfold mX12_whyNot
      rw [bd1_e ik, gd_t (by decide), if_neg (by decide), bd1_e is, gd_t (by decide), if_neg (by decide), bd1_e s1, bd1_e km, gd_t (by omega)]
      by_cases q : kM (S 84) e n ≤ 200
      · rw [if_pos (by omega), if_pos q, gd_t hc, bd1_e km, bd1_e (e_in (v := c) (lo := 0) (hi := ((kM (S 84) e n : Nat) : Int) - 1) (by omega) (by omega) (by omega))]
        by_cases z : 0 ≤ c ∧ c < ((kM (S 84) e n : Nat) : Int)
        · rw [if_pos (show 0 ≤ c ∧ c ≤ ((kM (S 84) e n : Nat) : Int) - 1 by omega), if_pos z, gd_t (by decide), if_neg (by decide)]
        · rw [if_neg (show ¬ (0 ≤ c ∧ c ≤ ((kM (S 84) e n : Nat) : Int) - 1) by omega), if_neg z, gd_t (by decide), if_pos rfl]
      · rw [if_neg (by omega), if_neg q]
    have li : mX11_listing S (e : Int) (n : Int) = some (if kM (S 84) e n ≤ 200 then 0 else -3) := by
      unfold mX11_listing
      rw [bd1_e sz, gd_t (by decide), if_neg (by decide), bd1_e ta, gd_t (by omega)]
      by_cases q : kM (S 84) e n ≤ 200
      · rw [if_pos (by omega), if_pos q]
      · rw [if_neg (by omega), if_neg q]
    by_cases q : kM (S 84) e n ≤ 200
    · rw [if_pos q] at li
      by_cases z : 0 ≤ c ∧ c < ((kM (S 84) e n : Nat) : Int)
      · obtain ⟨v, rfl⟩ : ∃ v : Nat, c = (v : Int) := ⟨c.toNat, by omega⟩
        have th : isTh (S 84) e n v := ⟨y.1.2, y.2.2, by omega, q⟩
        obtain ⟨S1, s1, s2, s3, s4, s5⟩ := c_spell h1 h2 h3 h4 h8 ⟨h9, h10⟩ h5 th
        have c84 := s5.cell (i := 84) (by decide) (Or.inr (by decide)) (by decide)
        have e16 := s5.1 0 16 (by decide) (Or.inl (by decide)) (Or.inr (by decide))
        refine Or.inl ⟨e, n, v, S1, th, ⟨rfl, rfl, rfl⟩, ?_, s2, ⟨⟨h1.of c84 (fun i a b => s5.cell (by omega) (by omega) (by omega)) (fun i a b => s5.cell (by omega) (by omega) (by omega)), by rw [c84]; exact h2, by rw [c84]; exact h3⟩, ⟨s4, s3⟩, Nat.le_trans h8 s5.2.1.1, by rw [e16]; exact h9, by rw [e16]; exact h10⟩, s5, fun T hT => ?_⟩
        · unfold mX11_spelling
          refine entG_e ?_ s5.2.1
          rw [bd1_e li, gd_t (by decide), if_pos rfl, gd_t hc, if_neg (by omega), bd1_e ta, gd_t (by omega), if_pos (by omega)]
          exact bdG1_e s1 s5.2.1 rfl gle_rfl
        · obtain ⟨T', t1, t2, t3⟩ := whyn T hT
          rw [if_pos q, if_pos z] at t3
          exact ⟨T', t3, t1, t2⟩
      · refine Or.inr ⟨-2, Or.inl rfl, ?_, fun T hT => ?_⟩
        · unfold mX11_spelling
          refine entG_e ?_ gle_rfl
          rw [bd1_e li, gd_t (by decide), if_pos rfl, gd_t hc]
          by_cases c0 : c < 0
          · rw [if_pos c0]
          · rw [if_neg c0, bd1_e ta, gd_t (by omega), if_neg (by omega)]
        · obtain ⟨T', t1, t2, t3⟩ := whyn T hT
          rw [if_pos q, if_neg z] at t3
          exact ⟨T', t3, t2⟩
    · rw [if_neg q] at li
      refine Or.inr ⟨-3, Or.inr rfl, ?_, fun T hT => ?_⟩
      · unfold mX11_spelling
        refine entG_e ?_ gle_rfl
        rw [bd1_e li, gd_t (by decide), if_neg (by decide)]
      · obtain ⟨T', t1, t2, t3⟩ := whyn T hT
        rw [if_neg q] at t3
        exact ⟨T', t3, t2⟩
  · rw [if_neg y] at sz
    refine Or.inr ⟨-2, Or.inl rfl, ?_, fun T hT => ?_⟩
    · unfold mX11_spelling mX11_listing
      refine entG_e ?_ gle_rfl
      rw [bd1_e sz, gd_t (by decide), if_pos rfl, bd1_e rfl, gd_t (by decide), if_neg (by decide)]
    · have ik := e_ik h1 hT ha
      have is := e_isSize h1 hT hb
      refine ⟨T, ?_, kept.rf⟩
      unfold mX12_whyNot
      rw [bd1_e ik]
      by_cases z : 0 ≤ a ∧ a < S 84 0
      · rw [if_pos z, gd_t (by decide), if_neg (by decide), bd1_e is, if_neg (fun q => y ⟨z, q⟩), gd_t (by decide), if_pos rfl]
      · rw [if_neg z, gd_t (by decide), if_pos rfl]
theorem e_asks {S : St} (h : SpO S) {a b c i l : Int} (ha : inI a) (hb : inI b) (hc : inI c) (hi : inI i) (hl : -1 ≤ l ∧ l ≤ 25) : (∃ (e n v : Nat) (S1 S3 S2 : St), isTh (S 84) e n v ∧ (a = (e : Int) ∧ b = (n : Int) ∧ c = (v : Int)) ∧ mX11_spelling S a b c = some (0, S1) ∧ SpT (S 84) S1 e n v ∧ mX12_whyNot S1 a b c = some (0, S3) ∧ mX12_goes S3 a b c i l = some S2 ∧ gone (S 84) S3 S2 e n v i l ∧ SpR S S1 S2) ∨ (∃ (r : Int) (S2 : St), (r = -2 ∨ r = -3) ∧ mX11_spelling S a b c = some (r, S) ∧ mX12_whyNot S a b c = some (r, S2) ∧ SpR S S S2) := by
  rcases e_spelling h ha hb hc with ⟨e, n, v, S1, x1, x2, x3, x4, x5, x6, x7⟩ | ⟨r, r1, r2, r3⟩
  · left
    have c84 := x6.cell (i := 84) (by decide) (Or.inr (by decide)) (by decide)
    obtain ⟨S3, s1, s2, s3⟩ := x7 S1 c84
    obtain ⟨rfl, rfl, rfl⟩ := x2
    have hx := x1
    obtain ⟨k1, k2, k3, k4⟩ := hx
    have e3 : S3 84 = S 84 := (s3.cell 84 (by decide) (by decide)).trans c84
    have cor3 : Cor S3 := x5.1.1.of (s3.cell 84 (by decide) (by decide)) (fun i a b => s3.cell i (by simp; omega) (by simp)) (fun i a b => s3.cell i (by simp; omega) (by simp))
    obtain ⟨S2, t1, t2⟩ := w_goes (S := S3) (T := S3) (e := e) (n := n) (v := v) (i := i) (a := l) cor3 (by rw [e3]; exact s2) (by rw [e3]; exact k1) (by rw [e3]; exact k2) (by rw [e3]; exact k3) (by rw [e3]; exact k4) hi hl (by rw [e3]; exact Nat.le_trans (len_tX h.1.2.2 k1 k2 k3 k4) (by decide))
    rw [e3] at t2
    have kk : kG S1 S2 := (s3.mono (by simp) (by simp)).trans (t2.2.2.mono (by simp) (by simp))
    exact ⟨e, n, v, S1, S3, S2, x1, ⟨rfl, rfl, rfl⟩, x3, x4, s1, t1, t2, x6, x5.of kk, kk⟩
  · right
    obtain ⟨T', t1, t2⟩ := r3 S rfl
    have kk : kG S T' := t2.mono (by simp) (by simp)
    exact ⟨r, T', r1, r2, t1, GFr.rf, h.of kk, kk⟩
