/-! the class reads a text: its steps -/
theorem e_exo {S : St} {M : Int → Int} {p : Nat} (wf : WF M) (g : GM S M) (hp : (p : Int) < M 2) (ty : M (24 + (p : Int)) = 2 ∨ M (24 + (p : Int)) = 7) : mX2_exprOf_2 S (p : Int) = some ((exN M p : Nat) : Int) ∧ exN M p < 30 ∧ ∃ lo : Int, 0 ≤ lo ∧ okE M lo (exN M p) := by
  have hM0 := wf.1
  have hM2 := wf.2.2.1
  obtain ⟨ok1, ok2, ok3, ok4, ok5, ok6⟩ := wf.2.2.2.1 p hp
  obtain ⟨g1, g2, g3, g4, g5, g6⟩ := g.2.1 p hp
  unfold mX2_exprOf_2
  rw [gd_t (by omega), g1, gd_t (by omega)]
  by_cases t2 : M (24 + (p : Int)) = 2
  · have k := ok4 t2
    have ek : ((exN M p : Nat) : Int) = M (48 + (p : Int)) := by unfold exN; omega
    rw [if_pos t2, g3 (by omega), ek]
    exact ⟨rfl, by omega, 0, by omega, wf.2.2.2.2.1 _ (by omega)⟩
  · have t7 : M (24 + (p : Int)) = 7 := by omega
    obtain ⟨k1, k2, k3⟩ := ok5 t7
    have ek : exN M p = 6 + p := by unfold exN; omega
    rw [if_neg t2, ek]
    exact ⟨congrArg some (by omega), by omega, _, by omega, k3⟩
/-- what stays as it is while a part is read -/
def KPd (S T : St) (a t sc oc : Nat) : Prop := KRd S T ∧ (∀ j : Int, j < (a : Int) → T 68 j = S 68 j) ∧ (∀ j : Int, j < (t : Int) → T 70 j = S 70 j) ∧ (∀ j : Int, j < (sc : Int) → T 71 j = S 71 j) ∧ ∀ j : Int, j < (oc : Int) → T 72 j = S 72 j
theorem KPd.rf {S : St} {a t sc oc : Nat} : KPd S S a t sc oc := ⟨kept.rf, fun _ _ => rfl, fun _ _ => rfl, fun _ _ => rfl, fun _ _ => rfl⟩
theorem KPd.tr {S T U : St} {a t sc oc a' t' sc' oc' : Nat} (h : KPd S T a t sc oc) (k : KPd T U a' t' sc' oc') (ha : a ≤ a') (ht : t ≤ t') (hs : sc ≤ sc') (ho : oc ≤ oc') : KPd S U a t sc oc := ⟨h.1.trans k.1, fun j hj => (k.2.1 j (by omega)).trans (h.2.1 j hj), fun j hj => (k.2.2.1 j (by omega)).trans (h.2.2.1 j hj), fun j hj => (k.2.2.2.1 j (by omega)).trans (h.2.2.2.1 j hj), fun j hj => (k.2.2.2.2 j (by omega)).trans (h.2.2.2.2 j hj)⟩
theorem KPd.we {S T : St} {a t sc oc a' t' sc' oc' : Nat} (h : KPd S T a t sc oc) (ha : a' ≤ a) (ht : t' ≤ t) (hs : sc' ≤ sc) (ho : oc' ≤ oc) : KPd S T a' t' sc' oc' := ⟨h.1, fun j hj => h.2.1 j (by omega), fun j hj => h.2.2.1 j (by omega), fun j hj => h.2.2.2.1 j (by omega), fun j hj => h.2.2.2.2 j (by omega)⟩
theorem CRs.at1 {S : St} {L a z t sc oc : Nat} (h : CRs S L a z t sc oc) (hl : a < L) : CRs (up S 67 4 ((a : Int) + 1)) L (a + 1) z t sc oc := by
  obtain ⟨⟨⟨h1, h2⟩, h3, h4, h5, h6, h7⟩, hb, h8⟩ := h
  refine ⟨⟨⟨?_, ?_⟩, ?_, ?_, ?_, ?_, ?_⟩, by omega, h8⟩
  · rw [up_nk (by decide)]; exact h1
  · rw [up_eq]; omega
  · rw [up_nk (by decide)]; exact h3
  · rw [up_nk (by decide)]; exact h4
  · rw [up_nk (by decide)]; exact h5
  · rw [up_nk (by decide)]; exact h6
  · rw [up_nk (by decide)]; exact h7
/-- an atom, a unit -/
theorem e_rp_leaf {S : St} {M : Int → Int} {L a z t sc oc p : Nat} {w : List Int} (wf : WF M) (g : GM S M) (h : CRs S L a z t sc oc) (hw : txA S a w) (hl : a + w.length = L) (hz : (z : Int) ≤ M 1) (hp : (p : Int) < M 2) (ty : M (24 + (p : Int)) ≤ 1) : ∃ T, mX10_readPart S (p : Int) = some T ∧ ((BDs S T ∧ ∀ r, w = lfS M p :: r → M 1 < ((z + lfN M p : Nat) : Int)) ∨ ∃ r, w = lfS M p :: r ∧ ((z + lfN M p : Nat) : Int) ≤ M 1 ∧ CRs T L (a + 1) (z + lfN M p) t sc oc ∧ T 68 = S 68 ∧ KPd S T a t sc oc) := by
  have hM1 := wf.2.1
  have hM2 := wf.2.2.1
  obtain ⟨ok1, ok2, ok3, ok4, ok5, ok6⟩ := wf.2.2.2.1 p hp
  obtain ⟨g1, g2, g3, g4, g5, g6⟩ := g.2.1 p hp
  have g3' := g3 (by omega)
  have g0 := g.1.1
  unfold mX10_readPart
  rw [gd_t (by omega), nx_e, g1, gd_t (by omega)]
  by_cases t0 : M (24 + (p : Int)) = 0
  · have k3 := ok3 t0
    have el : lfS M p = 97 + M (48 + (p : Int)) := if_pos t0
    have en : lfN M p = 1 := if_pos t0
    rw [if_pos t0, g3', el, en]
    rcases e_take (c := 97 + M (48 + (p : Int))) h hw hl (by omega) with ⟨r, r1, r2⟩ | ⟨r1, r2⟩
    · have la : a < L := by rw [r1, List.length_cons] at hl; omega
      have h1 := h.at1 la
      obtain ⟨S1, hS1⟩ : ∃ S1 : St, S1 = up S 67 4 ((a : Int) + 1) := ⟨_, rfl⟩
      rw [← hS1] at h1
      have h5 := h1.1.2.1
      rw [bd1_e r2, ← hS1, nx_e, h5]
      have e6 : (up S1 67 5 ((z : Int) + 1)) 67 6 = 1 := by rw [up_nk (by decide)]; exact h1.1.2.2.1
      have e5 : (up S1 67 5 ((z : Int) + 1)) 67 5 = (z : Int) + 1 := up_eq
      have e20 : (up S1 67 5 ((z : Int) + 1)) 2 0 = M 1 := by
        show S1 2 0 = _
        rw [hS1]; exact g0
      rw [e6, gd_t (by decide), if_neg (by decide), e5, e20, gd_t (by have := h.2.1; omega)]
      have kr : KRd S (up S1 67 5 ((z : Int) + 1)) := by rw [hS1]; exact (kept.rf.upF (by decide)).upF (by decide)
      by_cases c : M 1 < (z : Int) + 1
      · rw [if_pos c, nx_e]
        exact ⟨_, rfl, Or.inl ⟨⟨up_eq, kr.upF (by decide)⟩, fun _ _ => by omega⟩⟩
      · rw [if_neg c, nx_e]
        refine ⟨_, rfl, Or.inr ⟨r, r1, by omega, ?_, ?_, kr.upF (by decide), fun j hj => ?_, fun j hj => ?_, fun j hj => ?_, fun j hj => ?_⟩⟩
        · obtain ⟨⟨⟨q1, q2⟩, q3, q4, q5, q6, q7⟩, qb, q8⟩ := h1
          refine ⟨⟨⟨?_, ?_⟩, ?_, up_eq, ?_, ?_, ?_⟩, by omega, q8⟩
          · rw [up_nk (by decide), up_nk (by decide)]; exact q1
          · rw [up_nk (by decide), up_nk (by decide)]; exact q2
          · rw [up_nk (by decide), up_eq]; omega
          · rw [up_nk (by decide), up_nk (by decide)]; exact q5
          · rw [up_nk (by decide), up_nk (by decide)]; exact q6
          · rw [up_nk (by decide), up_nk (by decide)]; exact q7
        · rw [hS1]; rfl
        · rw [hS1]; rfl
        · rw [hS1]; rfl
        · rw [hS1]; rfl
        · rw [hS1]; rfl
    · rw [bd1_e r2, nx_e]
      have e6 : ∀ v : Int, (up (up S 67 6 0) 67 5 v) 67 6 = 0 := fun v => by rw [up_nk (by decide), up_eq]
      rw [e6, gd_t (by decide), if_pos rfl, nx_e]
      exact ⟨_, rfl, Or.inl ⟨⟨up_eq, ((kept.rf.upF (by decide)).upF (by decide)).upF (by decide)⟩, fun r e => absurd e (r1 r)⟩⟩
  · have t1 : M (24 + (p : Int)) = 1 := by omega
    have el : lfS M p = 45 := if_neg t0
    have en : lfN M p = 0 := if_neg t0
    rw [if_neg t0, if_pos t1, el, en]
    rcases e_take (c := 45) h hw hl (by decide) with ⟨r, r1, r2⟩ | ⟨r1, r2⟩
    · have la : a < L := by rw [r1, List.length_cons] at hl; omega
      rw [bd1_e r2]
      exact ⟨_, rfl, Or.inr ⟨r, r1, by rw [Nat.add_zero]; exact hz, h.at1 la, rfl, kept.rf.upF (by decide), fun _ _ => rfl, fun _ _ => rfl, fun _ _ => rfl, fun _ _ => rfl⟩⟩
    · rw [bd1_e r2]
      exact ⟨_, rfl, Or.inl ⟨bd0, fun r e => absurd e (r1 r)⟩⟩
theorem opS_b {t : Int} : 1 ≤ opS t ∧ opS t ≤ 127 := by unfold opS; (repeat' split) <;> omega
theorem clS_b {t : Int} : 1 ≤ clS t ∧ clS t ≤ 127 := by unfold clS; (repeat' split) <;> omega
theorem e_openS {t : Int} (h : inI t) : mX11_openSign t = some (opS t) := by
  unfold mX11_openSign opS
  rw [gd_t h]
  (repeat' split) <;> rfl
theorem e_closeS {t : Int} (h : inI t) : mX11_closeSign t = some (clS t) := by
  unfold mX11_closeSign clS
  rw [gd_t h]
  (repeat' split) <;> rfl
/-- a sequence is opened -/
theorem e_rp_seq {S : St} {M : Int → Int} {L a z t sc oc p : Nat} {w : List Int} (wf : WF M) (g : GM S M) (h : CRs S L a z t sc oc) (hw : txA S a w) (hl : a + w.length = L) (ht : t + a < L) (hp : (p : Int) < M 2) (ty : 3 ≤ M (24 + (p : Int)) ∧ M (24 + (p : Int)) ≤ 6) : ∃ T, mX10_readPart S (p : Int) = some T ∧ ((BDs S T ∧ ∀ r, w = opS (M (24 + (p : Int))) :: r → r.length < t + 1) ∨ ∃ r, w = opS (M (24 + (p : Int))) :: r ∧ t + 1 ≤ r.length ∧ CRs T L (a + 1) z (t + 1) sc (oc + 1) ∧ T 68 = S 68 ∧ T 70 (t : Int) = -(p : Int) - 1 ∧ T 72 (oc : Int) = (sc : Int) ∧ KPd S T a t sc oc) := by
  have hM2 := wf.2.2.1
  obtain ⟨g1, g2, g3, g4, g5, g6⟩ := g.2.1 p hp
  have ob := opS_b (t := M (24 + (p : Int)))
  have hb0 := h.2.1
  unfold mX10_readPart
  rw [gd_t (by omega), nx_e, g1, gd_t (by omega), if_neg (by omega), if_neg (by omega), if_neg (by omega), if_neg (by omega), bd1_s, if_neg (by decide), bd1_e (e_openS (by omega))]
  rcases e_take (c := opS (M (24 + (p : Int)))) h hw hl ob with ⟨r, r1, r2⟩ | ⟨r1, r2⟩
  · have lw : r.length + 1 = w.length := by rw [r1, List.length_cons]
    have h1 := h.at1 (show a < L by omega)
    obtain ⟨S1, hS1⟩ : ∃ S1 : St, S1 = up S 67 4 ((a : Int) + 1) := ⟨_, rfl⟩
    rw [← hS1] at h1
    have ma := e_mayAwait (k := 1) h1 (by omega)
    have e6 := h1.1.2.2.1
    rw [show ((1 : Nat) : Int) = 1 from rfl] at ma
    rw [bd1_e r2, ← hS1, e6, gd_t (by decide), if_neg (by decide)]
    by_cases c : t + 1 + (a + 1) ≤ L
    · rw [if_pos c] at ma
      have hh := h1
      obtain ⟨⟨⟨q1, q2⟩, q3, q4, q5, q6, q7⟩, qb, q8⟩ := h1
      rw [bd2_e ma, gd_t (by decide), if_neg (by decide), q5, gd_t (by omega), nx_e]
      have a8 : (up S1 70 (t : Int) (-(p : Int) - 1)) 67 8 = (t : Int) := q5
      rw [a8, nx_e]
      obtain ⟨S2, hS2⟩ : ∃ S2 : St, S2 = up (up S1 70 (t : Int) (-(p : Int) - 1)) 67 8 ((t : Int) + 1) := ⟨_, rfl⟩
      have a12 : S2 67 12 = (oc : Int) := by rw [hS2, up_nk (by decide)]; exact q7
      have a10 : S2 67 10 = (sc : Int) := by rw [hS2, up_nk (by decide)]; exact q6
      rw [← hS2, a12, a10, gd_t (by omega), nx_e]
      have a12' : (up S2 72 (oc : Int) (sc : Int)) 67 12 = (oc : Int) := a12
      rw [a12', nx_e]
      have kr : KRd S (up (up S2 72 (oc : Int) (sc : Int)) 67 12 ((oc : Int) + 1)) := by
        rw [hS2, hS1]
        exact ((((kept.rf.upF (by decide)).upA (by decide)).upF (by decide)).upA (by decide)).upF (by decide)
      refine ⟨_, rfl, Or.inr ⟨r, r1, by omega, ⟨⟨⟨?_, ?_⟩, ?_, ?_, ?_, ?_, ?_⟩, by omega, ?_⟩, ?_, ?_, ?_, kr, fun j hj => ?_, fun j hj => ?_, fun j hj => ?_, fun j hj => ?_⟩⟩
      · rw [up_nk (by decide)]; show S2 67 3 = _; rw [hS2, up_nk (by decide)]; exact q1
      · rw [up_nk (by decide)]; show S2 67 4 = _; rw [hS2, up_nk (by decide)]; exact q2
      · rw [up_nk (by decide)]; show S2 67 5 = _; rw [hS2, up_nk (by decide)]; exact q3
      · rw [up_nk (by decide)]; show S2 67 6 = _; rw [hS2, up_nk (by decide)]; exact q4
      · rw [up_nk (by decide)]; show S2 67 8 = _; rw [hS2, up_eq]; omega
      · rw [up_nk (by decide)]; show S2 67 10 = _; exact a10
      · rw [up_eq]; omega
      · show ∀ i : Nat, i < 40 → -128 ≤ S2 68 (i : Int) ∧ S2 68 (i : Int) ≤ 127
        rw [hS2]; exact q8
      · show S2 68 = _; rw [hS2, hS1]; rfl
      · show S2 70 (t : Int) = _; rw [hS2]; show (up S1 70 (t : Int) (-(p : Int) - 1)) 70 (t : Int) = _; rw [up_eq]
      · show (up S2 72 (oc : Int) (sc : Int)) 72 (oc : Int) = _; rw [up_eq]
      · show S2 68 j = _; rw [hS2, hS1]; rfl
      · show S2 70 j = _; rw [hS2]; show (up S1 70 (t : Int) (-(p : Int) - 1)) 70 j = _; rw [up_nk (by omega), hS1]; rfl
      · show S2 71 j = _; rw [hS2, hS1]; rfl
      · show (up S2 72 (oc : Int) (sc : Int)) 72 j = _; rw [up_nk (by omega), hS2, hS1]; rfl
    · rw [if_neg c] at ma
      rw [bd2_e ma, gd_t (by decide), if_pos rfl]
      refine ⟨_, rfl, Or.inl ⟨⟨up_eq, ?_⟩, fun r' e => ?_⟩⟩
      · rw [hS1]; exact (kept.rf.upF (by decide)).upF (by decide)
      · rw [r1] at e
        rw [← (List.cons.inj e).2]; omega
  · rw [bd1_e r2, up_eq, gd_t (by decide), if_pos rfl]
    exact ⟨_, rfl, Or.inl ⟨bd0, fun r e => absurd e (r1 r)⟩⟩
/-- behind a thing of a sequence: one more is begun -/
theorem e_go_more {S : St} {M : Int → Int} {L a z t sc oc p : Nat} {w : List Int} (wf : WF M) (g : GM S M) (h : CRs S L a z t sc oc) (hw : txA S a w) (hl : a + w.length = L) (hp : (p : Int) < M 2) (hs : 3 ≤ M (24 + (p : Int)) ∧ M (24 + (p : Int)) ≤ 6) (nc : ∀ r, w ≠ clS (M (24 + (p : Int))) :: r) (hsc : sc + 1 ≤ a) : ∃ T, mX10_goOn S (p : Int) = some T ∧ ((BDs S T ∧ w.length < t + 2) ∨ (t + 2 ≤ w.length ∧ CRs T L a z (t + 2) (sc + 1) oc ∧ T 68 = S 68 ∧ T 70 (t : Int) = -(p : Int) - 1 ∧ T 70 ((t : Int) + 1) = ((chM M p : Nat) : Int) ∧ T 71 (sc : Int) = (a : Int) ∧ KPd S T a t sc oc)) := by
  have hM2 := wf.2.2.1
  obtain ⟨g1, g2, g3, g4, g5, g6⟩ := g.2.1 p hp
  have k6 := (wf.2.2.2.1 p hp).2.2.2.2.2 hs
  have cb := clS_b (t := M (24 + (p : Int)))
  have pk := e_peek h hw hl
  have ne : w.headD 0 ≠ clS (M (24 + (p : Int))) := fun e => by
    cases w with
    | nil =>
      have e' : (0 : Int) = clS (M (24 + (p : Int))) := e
      omega
    | cons x w =>
      have e' : x = clS (M (24 + (p : Int))) := e
      exact nc w (by rw [e'])
  have ih : inI (w.headD 0) := by
    cases w with
    | nil => show inI (0 : Int); decide
    | cons x w =>
      have b := h.2.2 a (by have := h.2.1; rw [List.length_cons] at hl; omega)
      rw [hw.hd] at b
      show inI x
      omega
  unfold mX10_goOn
  rw [bd1_e pk, gd_t (by omega), g1, bd1_e (e_closeS (by omega)), gd_t ⟨ih, by omega⟩, if_neg ne]
  have ma := e_mayAwait (k := 2) h (by omega)
  rw [show ((2 : Nat) : Int) = 2 from rfl] at ma
  by_cases c : t + 2 + a ≤ L
  · rw [if_pos c] at ma
    obtain ⟨⟨⟨q1, q2⟩, q3, q4, q5, q6, q7⟩, qb, q8⟩ := h
    rw [bd2_e ma, gd_t (by decide), if_neg (by decide), q6, q2, gd_t (by omega), nx_e]
    have a10 : (up S 71 (sc : Int) (a : Int)) 67 10 = (sc : Int) := q6
    rw [a10, nx_e]
    obtain ⟨S2, hS2⟩ : ∃ S2 : St, S2 = up (up S 71 (sc : Int) (a : Int)) 67 10 ((sc : Int) + 1) := ⟨_, rfl⟩
    have a8 : S2 67 8 = (t : Int) := by rw [hS2, up_nk (by decide)]; exact q5
    rw [← hS2, a8, gd_t (by omega), nx_e]
    have a8' : (up S2 70 (t : Int) (-(p : Int) - 1)) 67 8 = (t : Int) := a8
    have a5 : (up S2 70 (t : Int) (-(p : Int) - 1)) 5 (p : Int) = ((chM M p : Nat) : Int) := by
      show S2 5 (p : Int) = _
      rw [hS2]
      show S 5 (p : Int) = _
      rw [g5 hs]; unfold chM; omega
    rw [a8', a5, gd_t (by omega), nx_e]
    obtain ⟨S3, hS3⟩ : ∃ S3 : St, S3 = up (up S2 70 (t : Int) (-(p : Int) - 1)) 70 ((t : Int) + 1) ((chM M p : Nat) : Int) := ⟨_, rfl⟩
    have b8 : S3 67 8 = (t : Int) := by rw [hS3]; exact a8
    rw [← hS3, b8, nx_e]
    have kr : KRd S (up S3 67 8 ((t : Int) + 2)) := by
      rw [hS3, hS2]
      exact ((((kept.rf.upA (by decide)).upF (by decide)).upA (by decide)).upA (by decide)).upF (by decide)
    have e67 : S3 67 = S2 67 := by rw [hS3]; rfl
    refine ⟨_, rfl, Or.inr ⟨by omega, ⟨⟨⟨?_, ?_⟩, ?_, ?_, ?_, ?_, ?_⟩, by omega, ?_⟩, ?_, ?_, ?_, ?_, kr, fun j hj => ?_, fun j hj => ?_, fun j hj => ?_, fun j hj => ?_⟩⟩
    · rw [up_nk (by decide), e67, hS2, up_nk (by decide)]; exact q1
    · rw [up_nk (by decide), e67, hS2, up_nk (by decide)]; exact q2
    · rw [up_nk (by decide), e67, hS2, up_nk (by decide)]; exact q3
    · rw [up_nk (by decide), e67, hS2, up_nk (by decide)]; exact q4
    · rw [up_eq]; omega
    · rw [up_nk (by decide), e67, hS2, up_eq]; omega
    · rw [up_nk (by decide), e67, hS2, up_nk (by decide)]; exact q7
    · show ∀ i : Nat, i < 40 → -128 ≤ S3 68 (i : Int) ∧ S3 68 (i : Int) ≤ 127
      rw [hS3, hS2]; exact q8
    · show S3 68 = _; rw [hS3, hS2]; rfl
    · show S3 70 (t : Int) = _; rw [hS3, up_nk (by omega), up_eq]
    · show S3 70 ((t : Int) + 1) = _; rw [hS3, up_eq]
    · show S3 71 (sc : Int) = _; rw [hS3, hS2]; show (up S 71 (sc : Int) (a : Int)) 71 (sc : Int) = _; rw [up_eq]
    · show S3 68 j = _; rw [hS3, hS2]; rfl
    · show S3 70 j = _; rw [hS3, up_nk (by omega), up_nk (by omega), hS2]; rfl
    · show S3 71 j = _; rw [hS3, hS2]; show (up S 71 (sc : Int) (a : Int)) 71 j = _; rw [up_nk (by omega)]
    · show S3 72 j = _; rw [hS3, hS2]; rfl
  · rw [if_neg c] at ma
    rw [bd2_e ma, gd_t (by decide), if_pos rfl]
    exact ⟨_, rfl, Or.inl ⟨bd0, by omega⟩⟩
/-- the sequence's end -/
theorem e_go_close {S : St} {M : Int → Int} {L a z t sc oc p base a0 : Nat} {w : List Int} {es : List (List Int)} (wf : WF M) (g : GM S M) (h : CRs S L a z t sc oc) (hw : txA S a (clS (M (24 + (p : Int))) :: w)) (hl : a + (w.length + 1) = L) (hp : (p : Int) < M 2) (hs : 3 ≤ M (24 + (p : Int)) ∧ M (24 + (p : Int)) ≤ 6) (fr : FRs S a oc sc base a0 es) : ∃ T, mX10_goOn S (p : Int) = some T ∧ ((¬ okQ (M (24 + (p : Int))) (M (48 + (p : Int))) es ∧ BDs S T) ∨ (okQ (M (24 + (p : Int))) (M (48 + (p : Int))) es ∧ CRs T L (a + 1) z t base (oc - 1) ∧ txA T a0 ((sqL (M (24 + (p : Int))) es).flatten ++ [clS (M (24 + (p : Int)))]) ∧ (∀ j : Int, (j < (a0 : Int) ∨ (a : Int) < j) → T 68 j = S 68 j) ∧ KPd S T a0 t base (oc - 1))) := by
  obtain ⟨g1, g2, g3, g4, g5, g6⟩ := g.2.1 p hp
  have hM2 := wf.2.2.1
  have cb := clS_b (t := M (24 + (p : Int)))
  have pk := e_peek h hw hl
  obtain ⟨T, t1, t2, t3, t4⟩ := e_close wf g h hp hs fr
  unfold mX10_goOn
  rw [bd1_e pk, gd_t (by omega), g1, bd1_e (e_closeS (by omega)), show (clS (M (24 + (p : Int))) :: w).headD 0 = clS (M (24 + (p : Int))) from rfl, gd_t (by omega), if_pos rfl, bd1_e t1, t3, nx_e]
  have sl : (sqL (M (24 + (p : Int))) es).flatten.length = es.flatten.length := ((sqL_cq (M (24 + (p : Int))) es).pm.flatten).length_eq.symm
  refine ⟨_, rfl, ?_⟩
  rcases t4 with ⟨n, z0⟩ | ⟨o, c, x, y, y70, y71, y72⟩
  · exact Or.inl ⟨n, by rw [up_nk (by decide)]; exact z0, t2.upF (by decide)⟩
  · refine Or.inr ⟨o, c.at1 (by omega), ?_, fun j hj => ?_, t2.upF (by decide), fun j hj => ?_, fun j hj => ?_, fun j hj => ?_, fun j hj => ?_⟩
    · show txA T a0 _
      refine txA.app.mpr ⟨x, fun i v hv => ?_⟩
      have i0 : i = 0 := by
        have := (List.getElem?_eq_some_iff.mp hv).1
        have l1 : i < 1 := this
        omega
      subst i0
      have hv' : some (clS (M (24 + (p : Int)))) = some v := hv
      have fa := fr.1.2.2.2
      rw [sl, show ((a0 + es.flatten.length + 0 : Nat) : Int) = (a : Int) by omega, y _ (Or.inr (Int.le_refl _)), hw.hd]
      exact Option.some.inj hv'
    · show T 68 j = _
      exact y j (by omega)
    · show T 68 j = _
      exact y j (Or.inl hj)
    · show T 70 j = _; rw [y70]
    · show T 71 j = _; exact y71 j hj
    · show T 72 j = _; rw [y72]
