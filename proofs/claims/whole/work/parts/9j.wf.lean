/-! what has been read is a grammar, the same on both sides -/
theorem GR_wf {S : St} {M : Int → Int} {nk P T : Nat} {d hm : Nat → Nat} (h : GR S M nk P T d hm) (hF : FR S M P T) (h0 : M 0 = (nk : Int)) (hk : nk ≤ 6) (h1 : 0 ≤ M 1 ∧ M 1 ≤ 7) (hoff : ∀ e : Nat, e < 6 → M (6 + (e : Int)) = 0) : WF M ∧ DP M d ∧ HM M hm := by
  obtain ⟨⟨f1, f2, f3, f4, f5⟩, fb, ft⟩ := hF
  obtain ⟨g1, g2, g3⟩ := h
  have exE : ∀ {lo e L : Nat}, EX S M d lo P 0 T e L → okE M (lo : Int) e := fun {lo e L} ex => by
    obtain ⟨⟨a1, a2, a3⟩, a4, a5⟩ := ex
    refine ⟨by omega, fun t ht => ?_, a5⟩
    obtain ⟨c1, c2, c3, c4⟩ := a4 t ht
    omega
  refine ⟨⟨by omega, h1, by omega, fun p hp => ?_, fun e he => ?_, fun e he => by rw [hoff e he]; omega⟩, ⟨fun e t he ht => ?_, fun p hp => ?_⟩, ⟨fun p hp s => ?_, fun e t he ht => ?_, fun p q hp hs => ?_, fun q hq => ?_⟩⟩
  · obtain ⟨-, pg, -⟩ := g1 p (by omega)
    obtain ⟨a, b, c, e, f, g, i⟩ := pg
    refine ⟨b, ?_, e.1, fun s => ?_, fun s => ?_, fun s => ?_⟩
    · rcases c with c | c
      · exact Or.inl c
      · exact Or.inr ⟨c.1, by omega⟩
    · have := e.2.1 s; omega
    · obtain ⟨f1, f2, f3, f4⟩ := f s
      refine ⟨f2, f3.1.1, ?_⟩
      have := exE f3
      rw [show ((p + 1 : Nat) : Int) = (p : Int) + 1 by omega] at this
      exact this
    · obtain ⟨g1, g2, g3⟩ := g s
      exact ⟨g1, by omega, by omega⟩
  · rcases g3 e (by omega) with ⟨_, a, b⟩ | ⟨_, ex, _⟩
    · refine ⟨by omega, fun t ht => by omega, ?_⟩
      rw [a]; exact b
    · exact exE ex
  · rcases g3 e (by omega) with ⟨_, a, b⟩ | ⟨_, ex, _⟩
    · omega
    · exact (ex.2.1 t ht).2.2.1
  · obtain ⟨-, pg, -⟩ := g1 p (by omega)
    obtain ⟨a, b, c, e, f, g, i⟩ := pg
    refine ⟨a.2.2.2.2, fun s => ⟨(f s).2.2.2, fun t ht => ((f s).2.2.1.2.1 t ht).2.2.1⟩, fun s => ⟨(g s).2.2.2.2.2, (g s).2.2.2.2.1⟩, fun s => ?_⟩
    rcases c with c | c
    · omega
    · exact c.2.2
  · exact ((g1 p (by omega)).2.1.2.2.2.2.2.1 s).2.2.2.1
  · rcases g3 e (by omega) with ⟨_, a, b⟩ | ⟨_, ex, x⟩
    · omega
    · exact x t ht
  · exact (g1 p (by omega)).2.2 q hs
  · rcases g2 q (by omega) with ⟨t, a, b⟩ | b
    · exact Or.inl ⟨by have := (g1 q (by omega)).1; omega, t, a, b⟩
    · exact Or.inr b
theorem GR_gm {S : St} {M : Int → Int} {nk P T : Nat} {d hm : Nat → Nat} (h : GR S M nk P T d hm) (hF : FR S M P T) (h0 : M 0 = (nk : Int)) (hk : nk ≤ 6) (s0 : S 13 0 = M 1) (s1 : S 13 1 = M 0) (s2 : S 13 2 = M 3) (hoff : ∀ e : Nat, e < 6 → M (6 + (e : Int)) = 0) (h21 : ∀ e : Nat, e < 30 → S 21 (e : Int) = 0) : GM (sh11 S) M := by
  obtain ⟨⟨f1, f2, f3, f4, f5⟩, fb, ft⟩ := hF
  have g := h
  obtain ⟨g1, g2, g3⟩ := h
  have cnt : ∀ e : Nat, e < 30 → S 19 (e : Int) = M (198 + (e : Int)) := fun e he => by
    by_cases c : e < 6
    · exact (g.cnt e c).1
    · by_cases c2 : e < 6 + P
      · have := (g1 (e - 6) (by omega)).2.1.1.2.2.2.1
        rw [show 6 + (e - 6) = e by omega] at this
        exact this
      · obtain ⟨-, -, b3, b4⟩ := fb (e - 6) (by omega) (by omega)
        rw [show 6 + (e - 6) = e by omega] at b3 b4
        rw [b3, b4]
  refine ⟨⟨s0, s1, s2, by show S 13 3 = _; rw [f1, f2]⟩, fun p hp => ?_, cnt, fun e t he ht => ?_, fun e he => ?_, fun e _ he => h21 e he⟩
  · obtain ⟨-, pg, -⟩ := g1 p (by omega)
    obtain ⟨a, b, c, e, f, g, i⟩ := pg
    exact ⟨a.1, a.2.1, fun s => (e.2.2 s).1, fun s => (f s).1, fun s => (g s).2.2.1, fun s => i s⟩
  · show S 20 _ = _
    by_cases c : e < 6
    · rcases g3 e c with ⟨_, a, b⟩ | ⟨_, ex, x⟩
      · omega
      · exact (ex.2.1 t ht).2.2.2
    · by_cases c2 : e < 6 + P
      · obtain ⟨-, pg, -⟩ := g1 (e - 6) (by omega)
        by_cases s : M (24 + ((e - 6 : Nat) : Int)) = 7
        · have := ((pg.2.2.2.2.1 s).2.2.1.2.1 t (by rw [show 6 + (e - 6) = e by omega]; exact ht)).2.2.2
          rw [show 6 + (e - 6) = e by omega] at this
          exact this
        · have := (pg.2.2.2.1.2.2 s).2
          rw [show 6 + (e - 6) = e by omega] at this
          omega
      · obtain ⟨-, -, b3, b4⟩ := fb (e - 6) (by omega) (by omega)
        rw [show 6 + (e - 6) = e by omega] at b4
        omega
  · show S 21 (e : Int) = _
    rw [h21 e (by omega), hoff e he]
theorem GR_home {S : St} {M : Int → Int} {nk P T : Nat} {d hm : Nat → Nat} (h : GR S M nk P T d hm) (hF : FR S M P T) (hk : nk ≤ 6) : ∀ p : Nat, (p : Int) < M 2 → S 18 (p : Int) = ((hm p : Nat) : Int) ∧ hm p < 6 := fun p hp => by
  have f2 := hF.1.2.1
  obtain ⟨a, pg, -⟩ := h.1 p (by omega)
  exact ⟨pg.1.2.2.1, by omega⟩
/-- an expression that is there, or has no terms -/
def CE (M : Int → Int) : Prop := ∀ e : Nat, e < 30 → okE M 0 e ∨ M (198 + (e : Int)) = 0
theorem GR_ce {S : St} {M : Int → Int} {nk P T : Nat} {d hm : Nat → Nat} (h : GR S M nk P T d hm) (hF : FR S M P T) : CE M := fun e he => by
  obtain ⟨⟨f1, f2, f3, f4, f5⟩, fb, ft⟩ := hF
  obtain ⟨g1, g2, g3⟩ := h
  have exE : ∀ {lo e L : Nat}, EX S M d lo P 0 T e L → okE M 0 e := fun {lo e L} ex => by
    obtain ⟨⟨a1, a2, a3⟩, a4, a5⟩ := ex
    refine ⟨by omega, fun t ht => ?_, a5⟩
    obtain ⟨c1, c2, c3, c4⟩ := a4 t ht
    omega
  by_cases c : e < 6
  · rcases g3 e c with ⟨_, a, b⟩ | ⟨_, ex, _⟩
    · exact Or.inr a
    · exact Or.inl (exE ex)
  · by_cases c2 : e < 6 + P
    · obtain ⟨-, pg, -⟩ := g1 (e - 6) (by omega)
      obtain ⟨a, b, c, e', f, g, i⟩ := pg
      by_cases s : M (24 + ((e - 6 : Nat) : Int)) = 7
      · have ex := (f s).2.2.1
        rw [show 6 + (e - 6) = e by omega] at ex
        exact Or.inl (exE ex)
      · have := (e'.2.2 s).2
        rw [show 6 + (e - 6) = e by omega] at this
        exact Or.inr this
    · obtain ⟨-, -, b3, b4⟩ := fb (e - 6) (by omega) (by omega)
      rw [show 6 + (e - 6) = e by omega] at b4
      exact Or.inr b4
/-- a grammar without a line -/
def noG (M : Int → Int) : Prop := M 0 = 0 ∧ M 1 = 0 ∧ M 2 = 0 ∧ M 3 = 0 ∧ (∀ k : Int, 0 ≤ k → k < 228 → M k = M0 k)
theorem noG_wf {M : Int → Int} (h : noG M) : WF M ∧ DP M (fun _ => 0) ∧ HM M (fun _ => 0) := by
  obtain ⟨a, b, c, e, f⟩ := h
  refine ⟨⟨by omega, by omega, by omega, fun p hp => by omega, fun e he => by omega, fun e he => ?_⟩, ⟨fun e t he ht => by omega, fun p hp => by omega⟩, ⟨fun p hp s => by omega, fun e t he ht => by omega, fun p q hp hs => by omega, fun q hq => by omega⟩⟩
  rw [f _ (by omega) (by omega)]
  unfold M0
  rw [if_neg (by omega)]
  omega
theorem noG_gm {S : St} {M : Int → Int} (h : noG M) (s0 : S 13 0 = 0 ∧ S 13 1 = 0 ∧ S 13 2 = 0 ∧ S 13 3 = 0) (h19 : ∀ k : Int, 0 ≤ k → k < 30 → S 19 k = 0 ∧ S 21 k = 0) : GM (sh11 S) M := by
  obtain ⟨a, b, c, e, f⟩ := h
  have z : ∀ x : Nat, x < 30 → M (198 + (x : Int)) = 0 := fun x hx => by
    rw [f _ (by omega) (by omega)]; unfold M0; rw [if_neg (by omega)]
  refine ⟨⟨?_, ?_, ?_, ?_⟩, fun p hp => by omega, fun x hx => ?_, fun x t hx ht => ?_, fun x hx => ?_, fun x _ hx => (h19 x (by omega) (by omega)).2⟩
  · show S 13 0 = _; rw [s0.1, b]
  · show S 13 1 = _; rw [s0.2.1, a]
  · show S 13 2 = _; rw [s0.2.2.1, e]
  · show S 13 3 = _; rw [s0.2.2.2, c]
  · show S 19 _ = _; rw [(h19 x (by omega) (by omega)).1, z x hx]
  · rw [z x hx] at ht; omega
  · show S 21 _ = _
    rw [(h19 x (by omega) (by omega)).2, f _ (by omega) (by omega)]; unfold M0; rw [if_neg (by omega)]
theorem noG_ce {M : Int → Int} (h : noG M) : CE M := fun e he => by
  right
  rw [h.2.2.2.2 _ (by omega) (by omega)]; unfold M0; rw [if_neg (by omega)]
theorem noG_ord {M : Int → Int} (h : noG M) : Ord M (fun _ => False) (fun _ => False) (fun _ => False) (fun _ => 0) (fun _ => 0) (fun _ => 0) := by
  obtain ⟨a, b, c, e, f⟩ := h
  exact ⟨fun p hp => by omega, fun e he => by omega, fun p hp => by omega, fun e he => by omega⟩
