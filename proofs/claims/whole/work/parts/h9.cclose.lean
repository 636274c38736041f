/-! the class reads a text: a sequence closed -/
theorem e_cl_tl {S : St} {base a0 : Nat} {es : List (List Int)} {ty : Int} (hty : 3 ≤ ty ∧ ty ≤ 6) (h : STs S base a0 es) (h6 : S 67 6 = 1) (ne : ∀ x ∈ es, 1 ≤ x.length) (h1 : ty = 6 → 1 ≤ es.length) : ∃ T, (bd1 (gd (inI ty) <| if ty = 4 then (some (0 : Nat)) else (if ty = 5 then (some (0)) else (some (1)))) fun t_18 => if t_18 = 0 then (gd (inI ty) <| if ty = 5 then (bd1 (mX10_sort S (base : Int) ((es.length : Nat) : Int) 1) fun S_26 => some (S_26)) else (bd1 (mX10_sort S (base : Int) ((es.length : Nat) : Int) 0) fun S_24 => some (S_24))) else (gd (inI ty) <| if ty = 6 then (bd1 (mX10_turn S (base : Int) ((es.length : Nat) : Int)) fun S_31 => some (S_31)) else (some (S)))) = some T ∧ kept [68, 69] [(67, 6)] S T ∧ ((ty = 5 ∧ ¬ ndp es = true ∧ T 67 6 = 0) ∨ ((ty = 5 → ndp es = true) ∧ T 67 6 = 1 ∧ txA T a0 (sqL ty es).flatten ∧ (∀ j : Int, (j < (a0 : Int) ∨ ((a0 + es.flatten.length : Nat) : Int) ≤ j) → T 68 j = S 68 j) ∧ ∀ i : Nat, i < 40 → -128 ≤ T 68 (i : Int) ∧ T 68 (i : Int) ≤ 127)) := by
  rw [gd_t (by omega)]
  rcases (show ty = 3 ∨ ty = 4 ∨ ty = 5 ∨ ty = 6 by omega) with q | q | q | q
  · rw [if_neg (by omega), if_neg (by omega), bd1_s, if_neg (by decide), gd_t (by omega), if_neg (by omega)]
    refine ⟨S, rfl, kept.rf, Or.inr ⟨fun e => by omega, h6, ?_, fun _ _ => rfl, h.2.2.2⟩⟩
    unfold sqL
    rw [if_pos q]
    exact h.2.1
  · rw [if_pos q, bd1_s, if_pos rfl, gd_t (by omega), if_neg (by omega)]
    obtain ⟨T, t1, t2, t3⟩ := e_sort (u := 0) (Or.inl rfl) h h6
    refine ⟨T, by rw [bd1_e t1], t2, ?_⟩
    rcases t3 with ⟨n, _⟩ | ⟨_, t4⟩
    · exact absurd rfl n
    · refine Or.inr ⟨fun e => by omega, ?_⟩
      unfold sqL
      rw [if_neg (by omega), if_neg (by omega)]
      exact t4
  · rw [if_neg (by omega), if_pos q, bd1_s, if_pos rfl, gd_t (by omega), if_pos q]
    obtain ⟨T, t1, t2, t3⟩ := e_sort (u := 1) (Or.inr rfl) h h6
    refine ⟨T, by rw [bd1_e t1], t2, ?_⟩
    rcases t3 with ⟨_, n, z⟩ | ⟨n, t4⟩
    · exact Or.inl ⟨q, n, z⟩
    · refine Or.inr ⟨fun _ => ?_, ?_⟩
      · rcases n with y | y
        · exact absurd y (by decide)
        · exact y
      · unfold sqL
        rw [if_neg (by omega), if_neg (by omega)]
        exact t4
  · rw [if_neg (by omega), if_neg (by omega), bd1_s, if_neg (by decide), gd_t (by omega), if_pos q]
    obtain ⟨T, t1, t2, t3, t4, t5⟩ := e_turn h h6 ne (h1 q)
    refine ⟨T, by rw [bd1_e t1], t2.mono (by decide) (by decide), Or.inr ⟨fun e => by omega, ?_, ?_, t4, t5⟩⟩
    · rw [t2.cell 67 (by decide) (by decide)]; exact h6
    · unfold sqL
      rw [if_neg (by omega), if_pos q]
      exact t3
/-- an open sequence: its things so far, where they begin -/
def FRs (S : St) (a oc sc base a0 : Nat) (es : List (List Int)) : Prop := (1 ≤ oc ∧ S 72 ((oc : Int) - 1) = (base : Int) ∧ sc = base + es.length ∧ a = a0 + es.flatten.length) ∧ (∀ i : Nat, i < es.length → S 71 ((base + i : Nat) : Int) = ((a0 + ((es.take i).flatten).length : Nat) : Int)) ∧ txA S a0 es.flatten ∧ ∀ x ∈ es, 1 ≤ x.length
theorem e_close {S : St} {M : Int → Int} {L a z t sc oc p base a0 : Nat} {es : List (List Int)} (wf : WF M) (g : GM S M) (h : CRs S L a z t sc oc) (hp : (p : Int) < M 2) (hs : 3 ≤ M (24 + (p : Int)) ∧ M (24 + (p : Int)) ≤ 6) (fr : FRs S a oc sc base a0 es) : ∃ T, mX10_close S (p : Int) = some T ∧ KRd S T ∧ T 67 4 = (a : Int) ∧ ((¬ okQ (M (24 + (p : Int))) (M (48 + (p : Int))) es ∧ T 67 6 = 0) ∨ (okQ (M (24 + (p : Int))) (M (48 + (p : Int))) es ∧ CRs T L a z t base (oc - 1) ∧ txA T a0 (sqL (M (24 + (p : Int))) es).flatten ∧ (∀ j : Int, (j < (a0 : Int) ∨ (a : Int) ≤ j) → T 68 j = S 68 j) ∧ T 70 = S 70 ∧ (∀ j : Int, j < (base : Int) → T 71 j = S 71 j) ∧ T 72 = S 72)) := by
  obtain ⟨⟨⟨h1, h2⟩, h3, h4, h5, h7, h8⟩, ⟨b1, b2, b3, b4, b5, b6⟩, hB⟩ := h
  obtain ⟨⟨f1, f2, f3, f4⟩, f5, f6, f7⟩ := fr
  have hM2 := wf.2.2.1
  have gp := g.2.1 p hp
  have nu := ((wf.2.2.2.1 p hp).2.2.2.2.2 hs).1
  have e4 : S 4 (p : Int) = M (48 + (p : Int)) := gp.2.2.1 (by omega)
  have e3 : S 3 (p : Int) = M (24 + (p : Int)) := gp.1
  have i1 : (up S 67 12 ((S 67 12) - 1)) 67 12 = ((oc - 1 : Nat) : Int) := by rw [up_eq, h8]; omega
  have i2 : (up S 67 12 ((S 67 12) - 1)) 67 10 = (sc : Int) := by rw [up_nk (by decide)]; exact h7
  have i3 : (up S 67 12 ((S 67 12) - 1)) 67 4 = (a : Int) := by rw [up_nk (by decide)]; exact h2
  obtain ⟨S1, hS1⟩ : ∃ S1 : St, S1 = up S 67 12 ((S 67 12) - 1) := ⟨_, rfl⟩
  rw [← hS1] at i1 i2 i3
  have c1 : ∀ i, i ≠ 67 → S1 i = S i := fun i hi => by rw [hS1]; exact up_n hi
  obtain ⟨S10, hS10⟩ : ∃ S10 : St, S10 = up (up S1 71 (S1 67 10) (S1 67 4)) 67 10 (S1 72 ((oc - 1 : Nat) : Int)) := ⟨_, rfl⟩
  have e72 : S1 72 ((oc - 1 : Nat) : Int) = (base : Int) := by
    rw [c1 72 (by decide), show ((oc - 1 : Nat) : Int) = (oc : Int) - 1 by omega]; exact f2
  have k10 : KRd S S10 := by
    rw [hS10, hS1]
    exact ((kept.rf.upF (by decide)).upA (by decide)).upF (by decide)
  have v71 : ∀ k : Int, S10 71 k = if k = (sc : Int) then (a : Int) else S 71 k := fun k => by
    rw [hS10]
    show (up S1 71 (S1 67 10) (S1 67 4)) 71 k = _
    rw [i2, i3, up_if, c1 71 (by decide)]
  have e68 : S10 68 = S 68 := by rw [hS10, hS1]; rfl
  have e70 : S10 70 = S 70 := by rw [hS10, hS1]; rfl
  have e72' : S10 72 = S 72 := by rw [hS10, hS1]; rfl
  have q67 : S10 67 3 = (L : Int) ∧ S10 67 4 = (a : Int) ∧ S10 67 5 = (z : Int) ∧ S10 67 6 = 1 ∧ S10 67 8 = (t : Int) ∧ S10 67 10 = (base : Int) ∧ S10 67 12 = ((oc - 1 : Nat) : Int) := by
    rw [hS10]
    refine ⟨?_, ?_, ?_, ?_, ?_, ?_, ?_⟩
    · rw [up_nk (by decide)]; show S1 67 3 = _; rw [hS1, up_nk (by decide)]; exact h1
    · rw [up_nk (by decide)]; exact i3
    · rw [up_nk (by decide)]; show S1 67 5 = _; rw [hS1, up_nk (by decide)]; exact h3
    · rw [up_nk (by decide)]; show S1 67 6 = _; rw [hS1, up_nk (by decide)]; exact h4
    · rw [up_nk (by decide)]; show S1 67 8 = _; rw [hS1, up_nk (by decide)]; exact h5
    · rw [up_eq]; exact e72
    · rw [up_nk (by decide)]; exact i1
  have st : STs S10 base a0 es := by
    refine ⟨fun i hi => ?_, fun i x hx => by rw [e68]; exact f6 i x hx, ⟨by omega, by omega⟩, fun i hi => by rw [e68]; exact hB i hi⟩
    rw [v71]
    by_cases c : i = es.length
    · subst c
      rw [if_pos (by omega), List.take_length, ← f4]
    · rw [if_neg (by omega)]; exact f5 i (by omega)
  have x4 : (S1 67 10) - (S1 72 ((oc - 1 : Nat) : Int)) = ((es.length : Nat) : Int) := by rw [i2, e72]; omega
  -- a state that is bad
  have bad : ¬ okQ (M (24 + (p : Int))) (M (48 + (p : Int))) es → ∃ T, some (up S10 67 6 0) = some T ∧ KRd S T ∧ T 67 4 = (a : Int) ∧ ((¬ okQ (M (24 + (p : Int))) (M (48 + (p : Int))) es ∧ T 67 6 = 0) ∨ (okQ (M (24 + (p : Int))) (M (48 + (p : Int))) es ∧ CRs T L a z t base (oc - 1) ∧ txA T a0 (sqL (M (24 + (p : Int))) es).flatten ∧ (∀ j : Int, (j < (a0 : Int) ∨ (a : Int) ≤ j) → T 68 j = S 68 j) ∧ T 70 = S 70 ∧ (∀ j : Int, j < (base : Int) → T 71 j = S 71 j) ∧ T 72 = S 72)) := fun n => ⟨_, rfl, k10.upF (by decide), by rw [up_nk (by decide)]; exact q67.2.1, Or.inl ⟨n, up_eq⟩⟩
  have good : (M (48 + (p : Int)) = 0 ∨ ((es.length : Nat) : Int) = M (48 + (p : Int))) → (M (24 + (p : Int)) = 6 → 1 ≤ es.length) → ∀ X : Option St, X = (bd1 (gd (inI (M (24 + (p : Int)))) <| if M (24 + (p : Int)) = 4 then (some (0 : Nat)) else (if M (24 + (p : Int)) = 5 then (some (0)) else (some (1)))) fun t_18 => if t_18 = 0 then (gd (inI (M (24 + (p : Int)))) <| if M (24 + (p : Int)) = 5 then (bd1 (mX10_sort S10 (base : Int) ((es.length : Nat) : Int) 1) fun S_26 => some (S_26)) else (bd1 (mX10_sort S10 (base : Int) ((es.length : Nat) : Int) 0) fun S_24 => some (S_24))) else (gd (inI (M (24 + (p : Int)))) <| if M (24 + (p : Int)) = 6 then (bd1 (mX10_turn S10 (base : Int) ((es.length : Nat) : Int)) fun S_31 => some (S_31)) else (some (S10)))) → ∃ T, X = some T ∧ KRd S T ∧ T 67 4 = (a : Int) ∧ ((¬ okQ (M (24 + (p : Int))) (M (48 + (p : Int))) es ∧ T 67 6 = 0) ∨ (okQ (M (24 + (p : Int))) (M (48 + (p : Int))) es ∧ CRs T L a z t base (oc - 1) ∧ txA T a0 (sqL (M (24 + (p : Int))) es).flatten ∧ (∀ j : Int, (j < (a0 : Int) ∨ (a : Int) ≤ j) → T 68 j = S 68 j) ∧ T 70 = S 70 ∧ (∀ j : Int, j < (base : Int) → T 71 j = S 71 j) ∧ T 72 = S 72)) := fun n1 n2 X hX => by
    obtain ⟨T, t1, t2, t3⟩ := e_cl_tl hs st q67.2.2.2.1 f7 n2
    refine ⟨T, hX.trans t1, k10.trans (t2.mono (by decide) (by decide)), by rw [t2 67 4 (by decide) (by decide)]; exact q67.2.1, ?_⟩
    rcases t3 with ⟨y1, y2, y3⟩ | ⟨y1, y2, y3, y4, y5⟩
    · exact Or.inl ⟨fun ok => y2 (ok.2.2 y1), y3⟩
    · refine Or.inr ⟨⟨n1, n2, y1⟩, ⟨⟨⟨?_, ?_⟩, ?_, y2, ?_, ?_, ?_⟩, by omega, y5⟩, y3, fun j hj => ?_, ?_, fun j hj => ?_, ?_⟩
      · rw [t2 67 3 (by decide) (by decide)]; exact q67.1
      · rw [t2 67 4 (by decide) (by decide)]; exact q67.2.1
      · rw [t2 67 5 (by decide) (by decide)]; exact q67.2.2.1
      · rw [t2 67 8 (by decide) (by decide)]; exact q67.2.2.2.2.1
      · rw [t2 67 10 (by decide) (by decide)]; exact q67.2.2.2.2.2.1
      · rw [t2 67 12 (by decide) (by decide)]; exact q67.2.2.2.2.2.2
      · rw [y4 j (by omega), e68]
      · rw [t2.cell 70 (by decide) (by decide), e70]
      · rw [t2.cell 71 (by decide) (by decide), v71, if_neg (by omega)]
      · rw [t2.cell 72 (by decide) (by decide), e72']
  unfold mX10_close
  rw [nx_e, ← hS1, i1, gd_t (by omega), nx_e, nx_e, gd_t (by omega), nx_e, nx_e, gd_t (by omega), nx_e, nx_e, ← hS10, x4, e72, show S1 4 (p : Int) = M (48 + (p : Int)) by rw [c1 4 (by decide)]; exact e4, show S1 3 (p : Int) = M (24 + (p : Int)) by rw [c1 3 (by decide)]; exact e3, gd_t (by omega)]
  by_cases n0 : M (48 + (p : Int)) ≤ 0
  · rw [if_pos n0]
    by_cases t6 : M (24 + (p : Int)) = 6
    · by_cases l1 : 1 ≤ es.length
      · have tt : (gd (inI (M (24 + (p : Int)))) <| if M (24 + (p : Int)) = 6 then (gd (inI ((es.length : Nat) : Int)) <| if 1 ≤ ((es.length : Nat) : Int) then (some (1 : Nat)) else (some (0))) else (some (1))) = some 1 := by rw [gd_t (by omega), if_pos t6, gd_t (by omega), if_pos (by omega)]
        refine good (Or.inl (by omega)) (fun _ => l1) _ ?_
        rw [bd1_e tt, if_neg (by decide)]
      · have tt : (gd (inI (M (24 + (p : Int)))) <| if M (24 + (p : Int)) = 6 then (gd (inI ((es.length : Nat) : Int)) <| if 1 ≤ ((es.length : Nat) : Int) then (some (1 : Nat)) else (some (0))) else (some (1))) = some 0 := by rw [gd_t (by omega), if_pos t6, gd_t (by omega), if_neg (by omega)]
        rw [bd1_e tt, if_pos rfl, nx_e]
        exact bad (fun ok => l1 (ok.2.1 t6))
    · have tt : (gd (inI (M (24 + (p : Int)))) <| if M (24 + (p : Int)) = 6 then (gd (inI ((es.length : Nat) : Int)) <| if 1 ≤ ((es.length : Nat) : Int) then (some (1 : Nat)) else (some (0))) else (some (1))) = some 1 := by rw [gd_t (by omega), if_neg t6]
      refine good (Or.inl (by omega)) (fun e => absurd e t6) _ ?_
      rw [bd1_e tt, if_neg (by decide)]
  · rw [if_neg n0, gd_t (by omega)]
    by_cases n1 : ((es.length : Nat) : Int) = M (48 + (p : Int))
    · rw [if_pos n1]
      have tt : (gd (inI (M (24 + (p : Int)))) <| if M (24 + (p : Int)) = 6 then (if 1 ≤ ((es.length : Nat) : Int) then (some (1 : Nat)) else (some (0))) else (some (1))) = some 1 := by
        rw [gd_t (by omega)]
        by_cases t6 : M (24 + (p : Int)) = 6
        · rw [if_pos t6, if_pos (by omega)]
        · rw [if_neg t6]
      refine good (Or.inr n1) (fun _ => by omega) _ ?_
      rw [bd1_e tt, if_neg (by decide)]
    · rw [if_neg n1, nx_e]
      exact bad (fun ok => by
        rcases ok.1 with y | y
        · omega
        · exact n1 y)
