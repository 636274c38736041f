/-! the class: a thing spelled and read again -/
def RMx (S T : St) : Prop := gle S T ∧ 256 * nn T + dl S + 512 * Rn S ≤ 256 * nn S + dl T + 512 * Rn T ∧ zz T + 2 * dl S + 1603 * Rn S = zz S + 2 * dl T + 1603 * Rn T
def TFr (S T : St) : Prop := (∀ (i : Nat) (k : Int), i < 105 → (i < 60 ∨ 72 < i) → i ≠ 81 → (i ≠ 0 ∨ 0 ≤ k) → T i k = S i k) ∧ RMx S T
theorem RMx.rf {S : St} : RMx S S := ⟨gle_rfl, Nat.le_refl _, rfl⟩
theorem RMx.trans {S T U : St} (h : RMx S T) (k : RMx T U) : RMx S U := by
  obtain ⟨h4, h5, h6⟩ := h
  obtain ⟨k4, k5, k6⟩ := k
  exact ⟨⟨Nat.le_trans h4.1 k4.1, Nat.le_trans h4.2 k4.2⟩, by omega, by omega⟩
theorem TFr.rf {S : St} : TFr S S := ⟨fun _ _ _ _ _ _ => rfl, RMx.rf⟩
theorem TFr.trans {S T U : St} (h : TFr S T) (k : TFr T U) : TFr S U := ⟨fun i q a b c d => (k.1 i q a b c d).trans (h.1 i q a b c d), h.2.trans k.2⟩
theorem GFr.t {S T : St} (h : GFr S T) : TFr S T := ⟨fun i k a b _ c => h.1 i k a (by omega) c, h.2⟩
theorem TFr.cell {S T : St} (h : TFr S T) {i : Nat} (a : i < 105) (b : i < 60 ∨ 72 < i) (c : i ≠ 81) (d : i ≠ 0) : T i = S i := funext fun k => h.1 i k a b c (Or.inl d)
theorem SpO.eq' {S T : St} (h : SpO S) (c : ∀ i, (2 ≤ i ∧ i ≤ 11) ∨ (40 ≤ i ∧ i ≤ 46) ∨ (60 ≤ i ∧ i ≤ 66) ∨ i = 84 ∨ (105 ≤ i ∧ i < nn S) → T i = S i) (z1 : S 0 (-1) ≤ T 0 (-1)) (z16 : T 0 16 = S 0 16) : SpO T ∧ dl T = dl S ∧ Rn T = Rn S := by
  obtain ⟨⟨h1, h2, h3⟩, ⟨h4, ⟨⟨w, hw⟩, h13, h14⟩, h6, h7⟩, h8, h9, h10⟩ := h
  have c84 := c 84 (by omega)
  have c60 := c 60 (by omega)
  have c65 := c 65 (by omega)
  have n8 := h8
  unfold nn at n8
  have en : nn S ≤ nn T := by unfold nn; omega
  have eE : ∀ E : Nat, (E = 64 ∨ (105 ≤ E ∧ (E : Int) < S 0 (-1) ∧ S E (-1) = 3)) → T E = S E := fun E hE => c E (by unfold nn; omega)
  have wr : ∀ {u : List Int}, WR S u → WR T u := fun {u} hu => by
    obtain ⟨E, e1, e2, -⟩ := hu.e
    exact hu.of (by rw [c60]) (by rw [c60]) (by rw [c60]) z1 (by rw [e1]; exact eE E e2)
  have d : dl T = dl S := by
    obtain ⟨E, e1, e2, -⟩ := hw.e
    unfold dl
    rw [dl_of (S := S) (T := T) (by rw [c60]) (fun _ => by rw [e1]; rw [show T (Int.toNat (E : Int)) = S (Int.toNat (E : Int)) from eE E e2])]
  refine ⟨⟨⟨h1.of c84 (fun i a b => c i (by omega)) (fun i a b => c i (by omega)), by rw [c84]; exact h2, by rw [c84]; exact h3⟩, ⟨h4.of h8 (c 63 (by omega)) c84 z16 en (fun i a b _ => c i (by omega)), ⟨⟨w, wr hw⟩, by rw [c60]; exact h13, by rw [c60]; exact h14⟩, by rw [c60, z16]; exact h6, fun y => ?_⟩, by omega, by rw [z16]; exact h9, by rw [z16]; exact h10⟩, d, Rn_of (c 63 (by omega))⟩
  rw [c60, z16] at y
  obtain ⟨e, n, v, y1, y2, y3, y4, y5⟩ := h7 y
  exact ⟨e, n, v, by rw [c84]; exact y1, by rw [c60]; exact y2, by rw [c84]; exact wr y3, by rw [c84, c60]; exact y4, by rw [c84, c65]; exact y5⟩
theorem SpO.eq {S T : St} (h : SpO S) (c : ∀ i, (2 ≤ i ∧ i ≤ 11) ∨ (40 ≤ i ∧ i ≤ 46) ∨ (60 ≤ i ∧ i ≤ 66) ∨ i = 84 ∨ 105 ≤ i → T i = S i) (c0 : T 0 (-1) = S 0 (-1) ∧ T 0 (-2) = S 0 (-2) ∧ T 0 16 = S 0 16) : SpO T ∧ RMx S T := by
  obtain ⟨z1, z2, z16⟩ := c0
  have en := nn_of (S := S) (T := T) z1
  have ez := zz_of (S := S) (T := T) z2
  obtain ⟨a, b, d⟩ := h.eq' (T := T) (fun i hi => c i (by omega)) (by omega) z16
  exact ⟨a, ⟨by rw [en]; exact Nat.le_refl _, by rw [ez]; exact Nat.le_refl _⟩, by rw [b, en, d]; exact Nat.le_refl _, by rw [b, ez, d]⟩
theorem SpO.ofR {S T : St} (h : SpO S) (c : ∀ i, i < 67 ∨ (72 < i ∧ i ≠ 81) → T i = S i) : SpO T ∧ TFr S T := by
  have c0 := c 0 (by omega)
  obtain ⟨a, b⟩ := h.eq (T := T) (fun i hi => c i (by omega)) ⟨by rw [c0], by rw [c0], by rw [c0]⟩
  exact ⟨a, fun i k a e f g => by rw [c i (by omega)], b⟩
theorem KRw.c {S T : St} (h : KRw S T) : ∀ i, i < 67 ∨ (72 < i ∧ i ≠ 81) → T i = S i := fun i a => h.cell i (by simp; omega) (by simp; omega)
theorem c_spellO {S : St} (hS : SpO S) {a n v : Nat} (x : isTh (S 84) a n v) : ∃ S1, mX9_spell S (a : Int) (n : Int) (v : Int) (S 0 16) = some S1 ∧ SpT (S 84) S1 a n v ∧ SpO S1 ∧ GFr S S1 ∧ S1 84 = S 84 := by
  obtain ⟨S1, s1, s2, s3, s4, s5⟩ := c_spell hS.1.1 hS.1.2.1 hS.1.2.2 hS.2.1.1 hS.2.2.1 hS.2.2.2 hS.2.1.2 x
  have c84 := s5.cell (i := 84) (by decide) (Or.inr (by decide)) (by decide)
  have e16 := s5.1 0 16 (by decide) (Or.inl (by decide)) (Or.inr (by decide))
  exact ⟨S1, s1, s2, ⟨⟨hS.1.1.of c84 (fun i a b => s5.cell (by omega) (by omega) (by omega)) (fun i a b => s5.cell (by omega) (by omega) (by omega)), by rw [c84]; exact hS.1.2.1, by rw [c84]; exact hS.1.2.2⟩, ⟨s4, s3⟩, Nat.le_trans hS.2.2.1 s5.2.1.1, by rw [e16]; exact hS.2.2.2.1, by rw [e16]; exact hS.2.2.2.2⟩, s5, c84⟩
/-- spelled, then read by a kind -/
theorem c_look {S : St} (hS : SpO S) (hB : byR S) {a n v e : Nat} (x : isTh (S 84) a n v) (he : (e : Int) < S 84 0) : ∃ (S1 : St) (r : Int) (S2 : St), mX9_spell S (a : Int) (n : Int) (v : Int) (S 0 16) = some S1 ∧ SpT (S 84) S1 a n v ∧ mX10_read_67_dB S1 (e : Int) (S1 60 3) (((tX (S 84) a n v).length : Nat) : Int) = some (r, S2) ∧ (SpO S1 ∧ byR S1 ∧ TFr S S1 ∧ S1 81 = S 81 ∧ S1 84 = S 84) ∧ (SpO S2 ∧ byR S2 ∧ TFr S1 S2 ∧ S2 81 = S 81 ∧ S2 84 = S 84) ∧ ((∃ (c : List Int) (m : Nat), (tX (S 84) a n v).length ≤ 40 ∧ RDW (S 84) e (tX (S 84) a n v) c m ∧ r = (m : Int) ∧ txA S2 0 c) ∨ (((tX (S 84) a n v).length ≤ 40 → ∀ c m, ¬ RDW (S 84) e (tX (S 84) a n v) c m) ∧ r = -1)) := by
  obtain ⟨S1, s1, s2, s3, s4, s5⟩ := c_spellO hS x
  have b1 : byR S1 := hB.of (s4.cell (i := 68) (by decide) (by decide) (by decide))
  obtain ⟨E, TE, rO, rT, rK, rk⟩ := hS.1.1.rks
  have wf := hS.1.1.wf
  have hM0 := wf.1
  have lx := (thing_le hS x).2.2
  have gm : GM S1 (S 84) := by
    have := s3.1.1.gm
    rw [s5] at this
    exact this
  obtain ⟨r, S2, t1, t2, t3, t4⟩ := rd_text wf (rkx_of wf rk) gm (show e < 30 by omega) (show (0 : Int) ≤ 0 by omega) (wf.2.2.2.2.1 e he) b1 s2.1 (by omega)
  obtain ⟨o1, o2⟩ := s3.ofR (KRw.c t2)
  refine ⟨S1, r, S2, s1, s2, t1, ⟨s3, b1, s4.t, s4.cell (by decide) (by decide) (by decide), s5⟩, ⟨o1, t4, o2, ?_, ?_⟩, ?_⟩
  · exact (t2.cell 81 (by decide) (by decide)).trans (s4.cell (by decide) (by decide) (by decide))
  · exact (t2.cell 84 (by decide) (by decide)).trans s5
  · rcases t3 with ⟨c, m, y1, y2, y3, y4⟩ | ⟨y1, y2⟩
    · exact Or.inl ⟨c, m, y1.2, y2, y3, y4⟩
    · exact Or.inr ⟨fun l c m z => y1 ⟨by have := z.len; omega, l⟩ c m z, y2⟩
/-- how heavy -/
theorem cube_b {x : Int} (h : -128 ≤ x ∧ x ≤ 127) : -2097152 ≤ x * x * x ∧ x * x * x ≤ 2097152 := by
  have key : ∀ k : Nat, k < 256 → -2097152 ≤ ((k : Int) - 128) * ((k : Int) - 128) * ((k : Int) - 128) ∧ ((k : Int) - 128) * ((k : Int) - 128) * ((k : Int) - 128) ≤ 2097152 := by decide +kernel
  have := key (x + 128).toNat (by omega)
  rw [show (((x + 128).toNat : Nat) : Int) - 128 = x by omega] at this
  exact this
theorem wgt_b : ∀ w : List Int, (∀ x ∈ w, -128 ≤ x ∧ x ≤ 127) → -2097152 * ((w.length : Nat) : Int) ≤ wgt w ∧ wgt w ≤ 2097152 * ((w.length : Nat) : Int) := by
  intro w
  induction w with
  | nil => intro _; exact ⟨by show _ ≤ (0 : Int); decide, by show (0 : Int) ≤ _; decide⟩
  | cons x w ih =>
    intro h
    have a := cube_b (h x (List.mem_cons_self ..))
    have b := ih (fun y hy => h y (List.mem_cons_of_mem _ hy))
    rw [List.length_cons]
    show _ ≤ x * x * x + wgt w ∧ x * x * x + wgt w ≤ _
    omega
/-- two texts held against each other -/
theorem e_hold2 {S : St} {L : Nat} {c c' : List Int} (lc : c.length = L) (lc' : c'.length = L) (hL : L ≤ 40) (hb : byR S) (h8 : txA S 0 c') (h1 : ∀ (i : Nat) (x : Int), c[i]? = some x → S 81 (i : Int) = x) (hc : ∀ x ∈ c, -128 ≤ x ∧ x ≤ 127) : ∀ (d i f : Nat), i + d = L → d < f → ∃ z : Int, mX10_holds_67_81_2 S (L : Int) f (i : Int) = some z ∧ ((z = 1 ∧ c'.drop i = c.drop i) ∨ (z = 0 ∧ c' ≠ c)) := by
  intro d
  induction d with
  | zero =>
    intro i f hi hf
    obtain ⟨f, rfl⟩ : ∃ f', f = f' + 1 := ⟨f - 1, by omega⟩
    refine ⟨1, ?_, Or.inl ⟨rfl, ?_⟩⟩
    · rw [mX10_holds_67_81_2, gd_t (by omega), if_pos (by omega)]
    · rw [List.drop_eq_nil_of_le (by omega), List.drop_eq_nil_of_le (by omega)]
  | succ d ih =>
    intro i f hi hf
    obtain ⟨f, rfl⟩ : ∃ f', f = f' + 1 := ⟨f - 1, by omega⟩
    have e1 : c[i]? = some c[i] := List.getElem?_eq_getElem (by omega)
    have e2 : c'[i]? = some c'[i] := List.getElem?_eq_getElem (by omega)
    have v1 := h1 i _ e1
    have v2 := h8 i _ e2
    rw [Nat.zero_add] at v2
    have b1 := hc _ (List.mem_of_getElem? e1)
    have b2 := hb i (by omega)
    rw [mX10_holds_67_81_2, gd_t (by omega), if_neg (by omega), if_neg (by omega), if_neg (by omega), gd_t (by omega), gd_t ⟨by omega, by omega⟩, v1, v2]
    by_cases q : c'[i] = c[i]
    · rw [if_pos q]
      obtain ⟨z, z1, z2⟩ := ih (i + 1) f (by omega) (by omega)
      rw [show ((i + 1 : Nat) : Int) = (i : Int) + 1 by omega] at z1
      refine ⟨z, z1, ?_⟩
      rcases z2 with ⟨a, b⟩ | ⟨a, b⟩
      · refine Or.inl ⟨a, ?_⟩
        rw [List.drop_eq_getElem_cons (show i < c'.length by omega), List.drop_eq_getElem_cons (show i < c.length by omega), q, b]
      · exact Or.inr ⟨a, b⟩
    · rw [if_neg q]
      refine ⟨0, rfl, Or.inr ⟨rfl, fun e => q ?_⟩⟩
      have : c'[i]? = c[i]? := by rw [e]
      rw [e1, e2] at this
      exact Option.some.inj this
theorem e_holds {S : St} {L : Nat} {c c' : List Int} (lc : c.length = L) (lc' : c'.length = L) (hL : L ≤ 40) (hb : byR S) (h8 : txA S 0 c') (h1 : ∀ (i : Nat) (x : Int), c[i]? = some x → S 81 (i : Int) = x) (hc : ∀ x ∈ c, -128 ≤ x ∧ x ≤ 127) : ∃ z : Int, mX10_holds_67_81 S (L : Int) = some z ∧ ((z = 1 ∧ c' = c) ∨ (z = 0 ∧ c' ≠ c)) := by
  obtain ⟨z, z1, z2⟩ := e_hold2 lc lc' hL hb h8 h1 hc L 0 FU (by omega) (by unfold FU; omega)
  unfold mX10_holds_67_81
  rw [bd1_e (show mX10_holds_67_81_2 S (L : Int) FU 0 = some z from z1)]
  rcases z2 with ⟨a, b⟩ | ⟨a, b⟩
  · rw [a, if_neg (by decide)]
    rw [List.drop_zero, List.drop_zero] at b
    exact ⟨1, rfl, Or.inl ⟨rfl, b⟩⟩
  · rw [a, if_pos rfl]
    exact ⟨0, rfl, Or.inr ⟨rfl, b⟩⟩
