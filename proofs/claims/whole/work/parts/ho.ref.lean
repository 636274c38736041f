/-! the reference's reader: its small parts -/
theorem lnk_fr {S T : St} : ∀ {l : List Nat} {q : Int}, lnk S q l → (∀ j ∈ l, T 103 (j : Int) = S 103 (j : Int)) → lnk T q l := by
  intro l
  induction l with
  | nil => intro q h _; exact h
  | cons j l ih =>
    intro q h k
    obtain ⟨a, b, c⟩ := h
    refine ⟨a, b, ?_⟩
    rw [k j (List.mem_cons_self ..)]
    exact ih c (fun i hi => k i (List.mem_cons_of_mem _ hi))
theorem ch_mo {M : Int → Int} {D D' : Nat → Nat × List Int × Nat → Prop} : ∀ {l : List (Nat × List Int × Nat)} {q : Int}, chD M D q l → (∀ p x, x ∈ l → D p x → D' p x) → chD M D' q l := by
  intro l
  induction l with
  | nil => intro q h _; exact h
  | cons x l ih =>
    intro q h k
    obtain ⟨a, b, c⟩ := h
    exact ⟨a, k _ x (List.mem_cons_self ..) b, ih c (fun p y hy => k p y (List.mem_cons_of_mem _ hy))⟩
theorem ND.fr {M : Int → Int} {S T : St} {hi hi' : Nat} (hh : hi ≤ hi') : ∀ (f f' lo lo' p : Nat) (x : Nat × List Int × Nat), f ≤ f' → lo' ≤ lo → (∀ a j : Nat, 99 ≤ a → a ≤ 102 → lo ≤ j → j < hi → T a (j : Int) = S a (j : Int)) → (∀ j : Nat, lo ≤ j → j < hi → j ≠ x.1 → T 103 (j : Int) = S 103 (j : Int)) → ND M S hi f lo p x → ND M T hi' f' lo' p x := by
  intro f
  induction f with
  | zero => intro f' lo lo' p x _ _ _ _ h; exact h.elim
  | succ f ih =>
    intro f' lo lo' p x hf hl h1 h2 h
    obtain ⟨f', rfl⟩ : ∃ g, f' = g + 1 := ⟨f' - 1, by omega⟩
    obtain ⟨⟨a1, a2⟩, a3, a4, a5⟩ := h.c
    have kid : ∀ (q : Nat) (y : Nat × List Int × Nat), ND M S hi f (x.1 + 1) q y → ND M T hi' f' (x.1 + 1) q y := fun q y hy => ih f' (x.1 + 1) (x.1 + 1) q y (by omega) (Nat.le_refl _) (fun a j b1 b2 b3 b4 => h1 a j b1 b2 (by omega) b4) (fun j b3 b4 _ => h2 j (by omega) b4 (by omega)) hy
    have e9 := h1 99 x.1 (by omega) (by omega) a1 a2
    have e0 := h1 100 x.1 (by omega) (by omega) a1 a2
    have e1 := h1 101 x.1 (by omega) (by omega) a1 a2
    have e2 := h1 102 x.1 (by omega) (by omega) a1 a2
    refine ⟨⟨⟨by omega, by omega⟩, a3, a4, by rw [e1]; exact a5⟩, ?_⟩
    rcases h.2 with ⟨t, b1, b2, b3, b4⟩ | ⟨t, sg, b⟩ | ⟨t, sg, b1, t', l, b2, b3, b4, b5, b6⟩ | ⟨t, b1, l, b2, b3, b3', b4, b5, b6⟩
    · exact Or.inl ⟨t, by rw [e9]; exact b1, by rw [e0]; exact b2, by rw [e2]; exact b3, b4⟩
    · exact Or.inr (Or.inl ⟨t, sg, ih f' lo lo' _ x (by omega) hl h1 h2 b⟩)
    · refine Or.inr (Or.inr (Or.inl ⟨t, sg, by rw [e9]; exact b1, t', l, b2, by rw [e0]; exact b3, ?_, ch_mo b5 (fun q y _ hy => kid q y hy), b6⟩))
      rw [e2]
      refine lnk_fr b4 (fun j hj => ?_)
      obtain ⟨y, y1, y2⟩ := List.mem_map.mp hj
      obtain ⟨q, hq⟩ := ch_all b5 y y1
      obtain ⟨⟨c1, c2⟩, _⟩ := hq.c
      rw [← y2]
      exact h2 y.1 (by omega) c2 (by omega)
    · refine Or.inr (Or.inr (Or.inr ⟨t, by rw [e9]; exact b1, l, by rw [e0]; exact b2, b3, b3', ?_, fun y hy => ⟨kid _ y (b5 y hy).1, (b5 y hy).2⟩, b6⟩))
      rw [e2]
      refine lnk_fr b4 (fun j hj => ?_)
      obtain ⟨y, y1, y2⟩ := List.mem_map.mp hj
      obtain ⟨⟨c1, c2⟩, _⟩ := (b5 y y1).1.c
      rw [← y2]
      exact h2 y.1 (by omega) c2 (by omega)
/-- what is left of the text -/
def TXr (S : St) (w : List Int) : Prop := 0 ≤ S 83 41 ∧ S 83 41 + ((w.length : Nat) : Int) = S 83 40 ∧ S 83 40 ≤ 40 ∧ ∀ (i : Nat) (x : Int), w[i]? = some x → ∃ y : Int, S 104 (S 83 41 + (i : Int)) = y ∧ (0 ≤ y ∧ y < 256) ∧ x = sb y
theorem here_nil {S : St} (h : TXr S []) : mX12_here S = some (-1) := by
  obtain ⟨h1, h2, h3, _⟩ := h
  have h2' : S 83 41 + 0 = S 83 40 := h2
  unfold mX12_here
  rw [gd_t (by unfold inI; omega), if_pos (by omega)]
theorem here_c {S : St} {a : Int} {w : List Int} (h : TXr S (a :: w)) : ∃ y : Int, mX12_here S = some y ∧ (0 ≤ y ∧ y < 256) ∧ a = sb y := by
  obtain ⟨h1, h2, h3, h4⟩ := h
  have h2' : S 83 41 + ((w.length + 1 : Nat) : Int) = S 83 40 := h2
  obtain ⟨y, y1, y2, y3⟩ := h4 0 a rfl
  rw [show S 83 41 + ((0 : Nat) : Int) = S 83 41 by omega] at y1
  refine ⟨y, ?_, y2, y3⟩
  unfold mX12_here
  rw [gd_t (by unfold inI; omega), if_neg (by omega), gd_t (by omega), y1]
theorem TXr.nx {S : St} {a : Int} {w : List Int} (h : TXr S (a :: w)) : TXr (up S 83 41 (S 83 41 + 1)) w := by
  obtain ⟨h1, h2, h3, h4⟩ := h
  have h2' : S 83 41 + ((w.length + 1 : Nat) : Int) = S 83 40 := h2
  have e1 : (up S 83 41 (S 83 41 + 1)) 83 41 = S 83 41 + 1 := up_eq
  have e0 : (up S 83 41 (S 83 41 + 1)) 83 40 = S 83 40 := up_nk (by decide)
  have e4 : (up S 83 41 (S 83 41 + 1)) 104 = S 104 := up_n (by decide)
  unfold TXr
  rw [e1, e0, e4]
  refine ⟨by omega, by omega, h3, fun i x hx => ?_⟩
  obtain ⟨y, y1, y2, y3⟩ := h4 (i + 1) x hx
  refine ⟨y, ?_, y2, y3⟩
  rw [← y1]
  exact congrArg (S 104) (by omega)
theorem TXr.of {S T : St} {w : List Int} (h : TXr S w) (e1 : T 83 41 = S 83 41) (e0 : T 83 40 = S 83 40) (e4 : T 104 = S 104) : TXr T w := by
  unfold TXr
  rw [e1, e0, e4]
  exact h
theorem sb_eq {y z : Int} (h : 0 ≤ y ∧ y < 256) (k : 0 ≤ z ∧ z < 128) : sb y = z ↔ y = z := by
  unfold sb
  split <;> omega
theorem e_blank2 {T : St} {M : Int → Int} {p : Nat} (hT : cnt M (-1) T) (hp : (p : Int) < M 2) (h2 : M 2 ≤ 24) : ∀ (d n f : Nat), n + d = 8 → d < f → ∃ z : Nat, mX12_isBlank_2 T (p : Int) f (n : Int) = some (z : Int) ∧ ((z = 0 ∧ ∃ m, m ≤ 7 ∧ 1 ≤ yM M p m) ∨ (z = 1 ∧ ∀ m, n ≤ m → m ≤ 7 → yM M p m = 0)) := by
  intro d
  induction d with
  | zero =>
    intro n f hn hf
    obtain ⟨f, rfl⟩ : ∃ g, f = g + 1 := ⟨f - 1, by omega⟩
    refine ⟨1, ?_, Or.inr ⟨rfl, fun m a b => by omega⟩⟩
    rw [mX12_isBlank_2, gd_t (by unfold inI; omega), if_pos (by omega)]
    rfl
  | succ d ih =>
    intro n f hn hf
    obtain ⟨f, rfl⟩ : ∃ g, f = g + 1 := ⟨f - 1, by omega⟩
    have v := (hT.2.2.1 p n 0 hp (by omega) (by omega)).1
    obtain ⟨bx, b1, b2⟩ := hT.2.1.1 (pl p n 0) (by unfold pl; omega)
    have ep := e_pl (a := p) (n := n) (k := 0)
    rw [show ((0 : Nat) : Int) = 0 from rfl] at ep
    rw [mX12_isBlank_2, gd_t (by unfold inI; omega), if_neg (by omega), bd1_e ep, gd_t (by unfold pl; omega), gd_t (by unfold inL; omega)]
    have ey : T 90 ((pl p n 0 : Nat) : Int) = ((yM M p n : Nat) : Int) := v
    rw [ey]
    by_cases c : yM M p n = 0
    · rw [if_pos (by omega)]
      obtain ⟨z, z1, z2⟩ := ih (n + 1) f (by omega) (by omega)
      rw [show (n : Int) + 1 = ((n + 1 : Nat) : Int) by omega]
      refine ⟨z, z1, ?_⟩
      rcases z2 with ⟨e, q⟩ | ⟨e, q⟩
      · exact Or.inl ⟨e, q⟩
      · refine Or.inr ⟨e, fun m a b => ?_⟩
        by_cases em : m = n
        · rw [em]; exact c
        · exact q m (by omega) b
    · rw [if_neg (by omega)]
      exact ⟨0, rfl, Or.inl ⟨rfl, n, by omega, by omega⟩⟩
theorem e_blank {T : St} {M : Int → Int} {p : Nat} (hT : cnt M (-1) T) (hp : (p : Int) < M 2) (h2 : M 2 ≤ 24) : ∃ z : Int, mX12_isBlank T (p : Int) = some z ∧ ((z = 0 ∧ ∃ m, m ≤ 7 ∧ 1 ≤ yM M p m) ∨ (z = 1 ∧ ∀ m, m ≤ 7 → yM M p m = 0)) := by
  obtain ⟨z, z1, z2⟩ := e_blank2 hT hp h2 8 0 FU (by omega) (by unfold FU; omega)
  rw [show ((0 : Nat) : Int) = 0 from rfl] at z1
  unfold mX12_isBlank
  rw [bd1_e z1]
  rcases z2 with ⟨e, q⟩ | ⟨e, q⟩
  · rw [if_pos (by omega)]
    exact ⟨0, rfl, Or.inl ⟨rfl, q⟩⟩
  · rw [if_neg (by omega)]
    exact ⟨1, rfl, Or.inr ⟨rfl, fun m => q m (Nat.zero_le m)⟩⟩
/-- a part that is one other alone -/
def COL (M : Int → Int) : Nat → Nat → Nat → Prop
  | 0, p, p' => p = p'
  | k + 1, p, p' => ((M (24 + (p : Int)) = 2 ∨ M (24 + (p : Int)) = 7) ∧ sgl M (exN M p) ∧ offM M (exN M p) 0 = false ∧ 0 ≤ fpM M (exN M p) 0) ∧ COL M k (fpM M (exN M p) 0).toNat p'
theorem one_rd {M : Int → Int} {f p : Nat} {w : List Int} (t : M (24 + (p : Int)) = 2 ∨ M (24 + (p : Int)) = 7) (s : sgl M (exN M p)) (o : offM M (exN M p) 0 = false) (n : 0 ≤ fpM M (exN M p) 0) : rdP M (f + 1) p w = rdP M f (fpM M (exN M p) 0).toNat w := by
  rw [rdP_nm t]
  unfold rdE
  rw [if_pos (by have := s.1; omega), if_pos ⟨⟨s.1, o⟩, n⟩]
  rw [rdC, if_neg (by omega)]
  cases h : rdP M f (fpM M (exN M p) 0).toNat w with
  | none => rfl
  | some x =>
    have s2 := s.2
    show ((rdC M (rdP M f) 24 (M (96 + fpM M (exN M p) 0)) x.2.2).bind fun s => some ((x.1, x.2.1) :: s.1, s.2)).bind _ = _
    rw [rdC, if_pos s2]
    show some (fl1 [(x.1, x.2.1)], szs [(x.1, x.2.1)], x.2.2) = some x
    show some ((x.1 ++ ([] : List Int)), x.2.1 + 0, x.2.2) = some x
    rw [List.append_nil]
    rfl
theorem COL.rd {M : Int → Int} {w : List Int} {x : List Int × Nat × List Int} : ∀ {k p p' : Nat}, COL M k p p' → ((∃ f, rdP M f p w = some x) ↔ ∃ f, rdP M f p' w = some x) := by
  intro k
  induction k with
  | zero => intro p p' h; rw [show p = p' from h]
  | succ k ih =>
    intro p p' h
    obtain ⟨⟨t, s, o, n⟩, h'⟩ := h
    rw [← ih h']
    constructor
    · rintro ⟨f, hf⟩
      cases f with
      | zero => cases hf
      | succ f => rw [one_rd t s o n] at hf; exact ⟨f, hf⟩
    · rintro ⟨f, hf⟩
      exact ⟨f + 1, by rw [one_rd t s o n]; exact hf⟩
theorem COL.fx {M : Int → Int} {c : List Int} {n : Nat} : ∀ {k p p' : Nat}, COL M k p p' → FXD M p' c n → FXD M p c n := by
  intro k
  induction k with
  | zero => intro p p' h g; rw [show p = p' from h]; exact g
  | succ k ih =>
    intro p p' h g
    obtain ⟨⟨t, s, o, m⟩, h'⟩ := h
    obtain ⟨f, hf⟩ := ih h' g
    refine ⟨f + 1, fun x => ?_⟩
    rw [one_rd t s o m]
    exact hf x
theorem COL.nd {M : Int → Int} {S : St} {hi lo : Nat} {x : Nat × List Int × Nat} : ∀ {k p p' : Nat}, COL M k p p' → (∃ f, ND M S hi f lo p' x) → ∃ f, ND M S hi f lo p x := by
  intro k
  induction k with
  | zero => intro p p' h g; rw [show p = p' from h]; exact g
  | succ k ih =>
    intro p p' h g
    obtain ⟨⟨t, s, o, m⟩, h'⟩ := h
    obtain ⟨f, hf⟩ := ih h' g
    obtain ⟨a1, a2, a3, a4⟩ := hf.c
    exact ⟨f + 1, ⟨a1, COL.fx (k := 1) ⟨⟨t, s, o, m⟩, rfl⟩ a2, a3, a4⟩, Or.inr (Or.inl ⟨t, s, hf⟩)⟩
