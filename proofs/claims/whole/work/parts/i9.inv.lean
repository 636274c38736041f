/-! what holds between calls -/
theorem msk_k {S T : St} (a : ∀ i, 105 ≤ i → T i = S i) (b : ∀ k : Int, k < 0 → T 0 k = S 0 k) : msk T S = T := by
  funext i
  unfold msk
  by_cases i1 : i < 105
  · rw [if_pos i1]
    by_cases i0 : i = 0
    · subst i0
      rw [if_pos rfl]
      funext k
      by_cases z : k < 0
      · rw [if_pos z, b k z]
      · rw [if_neg z]
    · rw [if_neg i0]
  · rw [if_neg i1, a i (by omega)]
def ROOM (n : Nat) (S : St) : Prop := 105 ≤ nn S ∧ 256 * nn S + 256 ≤ 26880 + dl S + 512 * Rn S + 256 * n ∧ zz S + 512 ≤ 74781 + 2 * dl S + 1603 * Rn S + 5 * n
def INV (n : Nat) (S : St) : Prop := GI S ∧ TP S ∧ nbL S ∧ (NEX (S 84) ∧ LK (S 84) ∧ VU (S 84)) ∧ (RC S ∧ SpC S) ∧ RLI S ∧ (byR S ∧ hIn S) ∧ (0 ≤ S 0 16 ∧ S 0 16 ≤ (n : Int)) ∧ ROOM n S
theorem INV.spo {n : Nat} {S : St} (g : INV n S) (hn : n ≤ 512) : SpO S := by
  obtain ⟨gi, tp, nl, ⟨nex, lk, vu⟩, ⟨rc, sc⟩, rl, ⟨hb, hi⟩, ⟨s1, s2⟩, rm⟩ := g
  obtain ⟨cor, st, ce, dp, hh, rest⟩ := gi
  exact ⟨⟨cor, nex, spb_all cor nex dp hh lk⟩, ⟨rc, sc⟩, rm.1, s1, by omega⟩
theorem INV.uq {n : Nat} {S : St} (g : INV n S) : UQ (S 84) := by
  obtain ⟨gi, tp, nl, ⟨nex, lk, vu⟩, -⟩ := g
  obtain ⟨cor, st, ce, dp, ⟨hm, hh⟩, rest⟩ := gi
  exact uq_of cor.wf hh lk
theorem INV.vu {n : Nat} {S : St} (g : INV n S) : VU (S 84) := by
  obtain ⟨gi, tp, nl, ⟨nex, lk, vu⟩, -⟩ := g
  exact vu
theorem INV.cor {n : Nat} {S : St} (g : INV n S) : Cor S := by
  obtain ⟨gi, -⟩ := g
  obtain ⟨cor, -⟩ := gi
  exact cor
def RMy (S T : St) : Prop := nn S ≤ nn T ∧ 256 * nn T + dl S + 512 * Rn S ≤ 256 * nn S + dl T + 512 * Rn T + 256 ∧ zz T + 2 * dl S + 1603 * Rn S ≤ zz S + 2 * dl T + 1603 * Rn T + 5
theorem RMx.y {S T : St} (h : RMx S T) : RMy S T := ⟨h.1.1, by have := h.2.1; omega, by have := h.2.2; omega⟩
theorem INV.stepY {n : Nat} {S T : St} (g : INV n S) (gi : GI T) (tp : TP T) (e84 : T 84 = S 84) (nl : nbL T) (so : SpO T) (rl : RLI T) (hb : byR T) (hi : hIn T) (e16 : T 0 16 = S 0 16) (rm : RMy S T) : INV (n + 1) T := by
  obtain ⟨gi0, tp0, nl0, x0, y0, rl0, z0, ⟨s1, s2⟩, ⟨r1, r2, r3⟩⟩ := g
  obtain ⟨m1, m2, m3⟩ := rm
  refine ⟨gi, tp, nl, by rw [e84]; exact x0, so.2.1, rl, ⟨hb, hi⟩, ⟨by rw [e16]; exact s1, by rw [e16]; omega⟩, so.2.2.1, by omega, by omega⟩
theorem INV.step {n : Nat} {S T : St} (g : INV n S) (gi : GI T) (tp : TP T) (e84 : T 84 = S 84) (nl : nbL T) (so : SpO T) (rl : RLI T) (hb : byR T) (hi : hIn T) (e16 : T 0 16 = S 0 16) (rm : RMx S T) : INV (n + 1) T := g.stepY gi tp e84 nl so rl hb hi e16 rm.y
/-- calls that leave nearly all as it is -/
def QT (S T : St) : Prop := (∀ i : Nat, i < 47 ∨ (59 < i ∧ i < 80) ∨ i = 81 ∨ i = 82 ∨ i = 84 ∨ i = 86 ∨ (98 < i ∧ i < 104) ∨ 104 < i → T i = S i) ∧ ∀ k : Int, (k < 20 ∨ k = 42 ∨ k = 43) → T 83 k = S 83 k
theorem QT.rf {S : St} : QT S S := ⟨fun _ _ => rfl, fun _ _ => rfl⟩
theorem QT.trans {S T U : St} (h : QT S T) (k : QT T U) : QT S U := ⟨fun i a => (k.1 i a).trans (h.1 i a), fun q a => (k.2 q a).trans (h.2 q a)⟩
theorem TP.of {S T : St} (h : TP S) (a0 : ∀ k : Int, k = 1 ∨ k = 4 ∨ k = 5 ∨ k = 15 ∨ k = 17 ∨ k = 18 → T 0 k = S 0 k) (a1 : T 1 = S 1) (a86 : T 86 = S 86) (a84 : T 84 = S 84) (a83 : ∀ k : Int, k = 3 ∨ k = 4 ∨ k = 5 ∨ k = 42 ∨ k = 43 → T 83 k = S 83 k) : TP T := by
  unfold TP at h ⊢
  rw [a0 1 (by omega), a0 4 (by omega), a0 5 (by omega), a0 15 (by omega), a0 17 (by omega), a0 18 (by omega), a1, a86, a84, a83 3 (by omega), a83 4 (by omega), a83 5 (by omega), a83 42 (by omega), a83 43 (by omega)]
  exact h
theorem hIn.of {S T : St} (h : hIn S) (k : ∀ i, 99 ≤ i → i ≤ 103 → T i = S i) : hIn T := fun c j a b d => by rw [k c a b]; exact h c j a b d
theorem INV.quiet {n : Nat} {S T : St} (g : INV n S) (hn : n ≤ 512) (q : QT S T) (gi : GI T) : INV (n + 1) T := by
  have so := g.spo hn
  have g' := g
  obtain ⟨gi0, tp0, nl0, x0, y0, rl0, ⟨hb, hi⟩, s, r⟩ := g'
  have c0 : T 0 = S 0 := q.1 0 (by omega)
  obtain ⟨so1, rm⟩ := so.eq (T := T) (fun i a => q.1 i (by omega)) ⟨by rw [c0], by rw [c0], by rw [c0]⟩
  exact g.step gi (tp0.of (fun k _ => by rw [c0]) (q.1 1 (by omega)) (q.1 86 (by omega)) (q.1 84 (by omega)) (fun k a => q.2 k (by omega))) (q.1 84 (by omega)) (nl0.of (fun i a b => q.1 i (by omega))) so1 (rl0.of (fun i a => q.1 i (by omega))) (hb.of (q.1 68 (by omega))) (hi.of (fun i a b => q.1 i (by omega))) (by rw [c0]) rm
/-- quiet, and the ledger, the dealer too -/
theorem INV.still {n : Nat} {S T : St} (g : INV n S) (hn : n ≤ 512) (q : QT S T) (k : ∀ i, (47 ≤ i ∧ i ≤ 59) ∨ i = 80 → T i = S i) (k83 : ∀ q : Int, 45 ≤ q → q ≤ 51 → T 83 q = S 83 q) : INV (n + 1) T := by
  have g' := g
  obtain ⟨gi0, -⟩ := g'
  refine g.quiet hn q (gi0.of (q.1 84 (by omega)) (fun i a => ?_) (by rw [q.1 0 (by omega)]) k83)
  by_cases c : (47 ≤ i ∧ i ≤ 59) ∨ i = 80
  · exact k i c
  · exact q.1 i (by omega)
theorem INV.more {n : Nat} {S : St} (g : INV n S) (hn : n ≤ 512) : INV (n + 1) S := g.still hn QT.rf (fun _ _ => rfl) (fun _ _ _ => rfl)
theorem INV.k90 {n : Nat} {S T : St} (g : INV n S) (hn : n ≤ 512) (k : kept [90, 91, 92] [] S T) : INV (n + 1) T := g.still hn ⟨fun i a => k.cell i (by simp <;> omega) (by simp), fun q a => k 83 q (by decide) (by simp)⟩ (fun i a => k.cell i (by simp <;> omega) (by simp)) (fun q a b => k 83 q (by decide) (by simp))
theorem INV.k89 {n : Nat} {S T : St} (g : INV n S) (hn : n ≤ 512) (k : kept [89] [] S T) : INV (n + 1) T := g.still hn ⟨fun i a => k.cell i (by simp <;> omega) (by simp), fun q a => k 83 q (by decide) (by simp)⟩ (fun i a => k.cell i (by simp <;> omega) (by simp)) (fun q a b => k 83 q (by decide) (by simp))
theorem GI.new {S T : St} (g : GI S) (e84 : T 84 = S 84) (k : ∀ i, (2 ≤ i ∧ i ≤ 11) ∨ (33 ≤ i ∧ i ≤ 46) ∨ i = 82 → T i = S i) (k0 : T 0 15 = S 0 15) (nk : nbK T) (l1 : LG1 T) (l2 : LG2 T) (l3 : LG3 T) (dl : DL T) : GI T := by
  obtain ⟨cor, st, ce, ⟨d, dp⟩, ⟨hm, hh⟩, ⟨am, as, m3⟩, -, -, -, -, -⟩ := g
  refine ⟨cor.of e84 (fun i _ _ => k i (by omega)) (fun i _ _ => k i (by omega)), ?_, ?_, ?_, ?_, ⟨?_, ?_, ?_⟩, nk, l1, l2, l3, dl⟩
  · rw [e84]; exact st.of (fun i _ _ => k i (by omega))
  · rw [e84]; exact ce
  · rw [e84]; exact ⟨d, dp⟩
  · rw [e84]; exact ⟨hm, hh⟩
  · rw [e84]; exact am
  · rw [e84]
    unfold AS at as ⊢
    rw [k0, k 82 (by omega)]; exact as
  · rw [e84]; exact m3
theorem LG1.of {S T : St} (h : LG1 S) (a : T 84 = S 84) (b : T 47 2 = S 47 2) (c : T 57 = S 57) : LG1 T := by
  unfold LG1 at h ⊢
  rw [a, b, c]; exact h
theorem LG2.of {S T : St} (h : LG2 S) (a : T 84 = S 84) (b : T 47 3 = S 47 3) (c : T 58 = S 58) : LG2 T := by
  unfold LG2 at h ⊢
  rw [a, b, c]; exact h
theorem LG3.of {S T : St} (h : LG3 S) (a : T 84 = S 84) (b : T 47 4 = S 47 4) (c : T 59 = S 59) : LG3 T := by
  unfold LG3 at h ⊢
  rw [a, b, c]; exact h
/-- the ledger changes -/
theorem INV.led {n : Nat} {S T : St} (g : INV n S) (hn : n ≤ 512) (q : QT S T) (nk : nbK T) (l1 : LG1 T) (l2 : LG2 T) (l3 : LG3 T) (k80 : T 80 = S 80) (k83 : ∀ q : Int, 45 ≤ q → q ≤ 51 → T 83 q = S 83 q) : INV (n + 1) T := by
  have g' := g
  obtain ⟨gi0, -⟩ := g'
  have gi1 := gi0
  obtain ⟨_, _, _, _, _, _, _, _, _, _, dl⟩ := gi1
  exact g.quiet hn q (gi0.new (q.1 84 (by omega)) (fun i a => q.1 i (by omega)) (by rw [q.1 0 (by omega)]) nk l1 l2 l3 (dl.of (q.1 84 (by omega)) k80 k83))
/-- the dealer changes -/
theorem INV.dea {n : Nat} {S T : St} (g : INV n S) (hn : n ≤ 512) (q : QT S T) (k : ∀ i, 47 ≤ i ∧ i ≤ 59 → T i = S i) (dl : DL T) : INV (n + 1) T := by
  have g' := g
  obtain ⟨gi0, -⟩ := g'
  have gi1 := gi0
  obtain ⟨_, _, _, _, _, _, nk, l1, l2, l3, _⟩ := gi1
  have e84 : T 84 = S 84 := q.1 84 (by omega)
  exact g.quiet hn q (gi0.new e84 (fun i a => q.1 i (by omega)) (by rw [q.1 0 (by omega)]) (nk.of (fun i a b => k i (by omega))) (l1.of e84 (by rw [k 47 (by omega)]) (k 57 (by omega))) (l2.of e84 (by rw [k 47 (by omega)]) (k 58 (by omega))) (l3.of e84 (by rw [k 47 (by omega)]) (k 59 (by omega))) dl)
/-- calls that spell -/
theorem INV.spell {n : Nat} {S S1 S2 : St} (g : INV n S) (q : QFr S S1) (so : SpO S2) (rl : RLI S2) (k : kG S1 S2) : INV (n + 1) S2 := by
  have g' := g
  obtain ⟨gi0, tp0, nl0, x0, y0, rl0, ⟨hb, hi⟩, s, r⟩ := g'
  have cc : ∀ i, 0 < i → i < 60 ∨ (66 < i ∧ i < 73) ∨ (79 < i ∧ i < 83) ∨ i = 84 ∨ i = 86 ∨ (98 < i ∧ i < 104) → S2 i = S i := fun i h0 h => by
    rw [k.cell i (by simp <;> omega) (by simp <;> omega)]
    exact funext fun z => q.1 i z (by omega) (by omega) (by omega) (Or.inl (by omega))
  have c0 : ∀ z : Int, 0 ≤ z → S2 0 z = S 0 z := fun z hz => by
    rw [k.cell 0 (by decide) (by decide)]
    exact q.1 0 z (by decide) (Or.inl (by decide)) (Or.inl (by decide)) (Or.inr hz)
  have c83 : ∀ z : Int, (z < 20 ∨ 32 < z) → S2 83 z = S 83 z := fun z hz => by
    rw [k 83 z (by decide) (by simp <;> omega)]
    exact q.1 83 z (by decide) (Or.inr (by decide)) (Or.inr (by decide)) (Or.inl (by decide))
  have e84 : S2 84 = S 84 := cc 84 (by decide) (by omega)
  have rm : RMx S S2 := by
    have z0 : S2 0 = S1 0 := k.cell 0 (by decide) (by decide)
    have n1 := nn_of (S := S1) (T := S2) (by rw [z0])
    have n2 := zz_of (S := S1) (T := S2) (by rw [z0])
    have n3 := Rn_of (S := S1) (T := S2) (k.cell 63 (by decide) (by decide))
    obtain ⟨w, hw⟩ := so.2.1.2.1.1
    have d : dl S2 = dl S1 := by
      obtain ⟨E, e1, e2, -⟩ := hw.e
      have e1' : S1 60 3 = (E : Int) := by rw [← k.cell 60 (by decide) (by decide)]; exact e1
      unfold dl
      rw [dl_of (S := S1) (T := S2) (by rw [k.cell 60 (by decide) (by decide)]) (fun _ => by rw [e1']; rw [show S2 (Int.toNat (E : Int)) = S1 (Int.toNat (E : Int)) from k.cell E (by simp <;> omega) (by simp <;> omega)])]
    obtain ⟨m1, m2, m3⟩ := q.2
    exact ⟨⟨by rw [n1]; exact m1.1, by rw [n2]; exact m1.2⟩, by rw [n1, n3, d]; exact m2, by rw [n2, n3, d]; exact m3⟩
  exact g.step (gi0.of e84 (fun i a => cc i (by omega) (by omega)) (c0 15 (by decide)) (fun z a b => c83 z (by omega))) (tp0.of (fun z a => c0 z (by omega)) (cc 1 (by decide) (by omega)) (cc 86 (by decide) (by omega)) e84 (fun z a => c83 z (by omega))) e84 (nl0.of (fun i a b => cc i (by omega) (by omega))) so rl (hb.of (cc 68 (by decide) (by omega))) (hi.of (fun i a b => cc i (by omega) (by omega))) (c0 16 (by decide)) rm
theorem INV.spR {n : Nat} {S S1 S2 : St} (g : INV n S) (h : SpR S S1 S2) : INV (n + 1) S2 := by
  have g' := g
  obtain ⟨gi0, tp0, nl0, x0, y0, rl0, -⟩ := g'
  obtain ⟨a, b, c⟩ := h
  refine g.spell a.q b (rl0.of (fun i hi => ?_)) c
  rw [c.cell i (by simp <;> omega) (by simp <;> omega)]
  exact a.cell (by omega) (by omega) (by omega)
theorem INV.spQ {n : Nat} {S S1 S2 : St} (g : INV n S) (h : SpQ S S1 S2) : INV (n + 1) S2 := g.spell h.1 h.2.1.1 h.2.1.2 h.2.2
/-- tells, shared -/
theorem INV.tell {n : Nat} {S S1 S2 : St} (g : INV n S) (x : XFr S S1) (r : RFw S1 S2) (so : SpO S1) (hb1 : byR S1) (hi : hIn S2) (tp : TP S2) : INV (n + 1) S2 := by
  have g' := g
  obtain ⟨gi0, tp0, nl0, x0, y0, rl0, ⟨hb, hi0⟩, s, rr⟩ := g'
  have cc : ∀ i, 0 < i → i < 60 ∨ (72 < i ∧ i < 81) ∨ i = 82 ∨ i = 84 → S2 i = S i := fun i h0 h => by
    rw [r.1 i (by omega)]
    exact x.cell (by omega) (by omega) (by omega) (by omega)
  have c0 : S2 0 = S1 0 := r.1 0 (by omega)
  have e84 : S2 84 = S 84 := cc 84 (by decide) (by omega)
  obtain ⟨so2, rm⟩ := so.eq (T := S2) (fun i a => r.1 i (by omega)) ⟨by rw [c0], by rw [c0], by rw [c0]⟩
  refine g.step (gi0.of e84 (fun i a => cc i (by omega) (by omega)) (by rw [c0]; exact x.1 0 15 (by decide) (by decide) (by decide) (by decide)) (fun z a b => ?_)) tp e84 (nl0.of (fun i a b => cc i (by omega) (by omega))) so2 (rl0.of (fun i a => cc i (by omega) (by omega))) (hb1.of (r.1 68 (by omega))) hi (by rw [c0]; exact x.1 0 16 (by decide) (by decide) (by decide) (by decide)) (x.2.trans rm)
  rw [r.2 z (by omega), x.cell (by decide) (by decide) (by decide) (by decide)]
