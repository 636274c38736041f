/-! layOrder: the loops; all is laid; the order -/
def LI (M : Int → Int) (F : Nat → Bool) (m st : Nat) (r : Nat → Nat) (S : St) : Prop := (S 13 4 = (st : Int) ∧ m < 2 ^ 54 ∧ st = pc 54 m) ∧ (∀ s : Nat, m.testBit s = true → (s : Int) < 6 + 2 * M 2 ∧ r s < st ∧ S 22 ((r s : Nat) : Int) = (s : Int) ∧ rdy M F (fun x => m.testBit x = true ∧ r x < r s) s) ∧ (∀ i : Nat, i < st → ∃ s : Nat, m.testBit s = true ∧ r s = i)
theorem LI_add {M : Int → Int} {F : Nat → Bool} {m st s : Nat} {r : Nat → Nat} {S : St} (hM : M 2 ≤ 24) (h : LI M F m st r S) (hb : m.testBit s = false) (hs : (s : Int) < 6 + 2 * M 2) (hr : rdy M F (fun x => m.testBit x = true) s) : st < 54 ∧ LI M F (m ||| 2 ^ s) (st + 1) (fun x => if x = s then st else r x) (up (up S 22 (st : Int) (s : Int)) 13 4 ((st : Int) + 1)) := by
  obtain ⟨⟨a1, a2, a3⟩, b, c⟩ := h
  have room := pc_room hb (show s < 54 by omega)
  have tb' : ∀ x, (m ||| 2 ^ s).testBit x = true ↔ m.testBit x = true ∨ x = s := fun x => by
    rw [Nat.testBit_or, Nat.testBit_two_pow, Bool.or_eq_true, decide_eq_true_eq]
    exact ⟨fun y => y.imp id Eq.symm, fun y => y.imp id Eq.symm⟩
  have ne : ∀ x, m.testBit x = true → x ≠ s := fun x hx e => by rw [e, hb] at hx; cases hx
  refine ⟨by omega, ⟨⟨rfl, (lset a2 (show s < 54 by omega)).2, ?_⟩, fun x hx => ?_, fun i hi => ?_⟩⟩
  · rw [pc_add hb 54, if_pos (by omega), a3]
  · rcases (tb' x).mp hx with hx' | hx'
    · obtain ⟨b1, b2, b3, b4⟩ := b x hx'
      have e1 : (fun x => if x = s then st else r x) x = r x := if_neg (ne x hx')
      refine ⟨b1, ?_, ?_, ?_⟩
      · rw [e1]; omega
      · rw [e1]
        show (up S 22 (st : Int) (s : Int)) 22 ((r x : Nat) : Int) = _
        rw [up_nk (by omega)]; exact b3
      · refine rdy_mono (fun y hy => ⟨(tb' y).mpr (Or.inl hy.1), ?_⟩) b4
        rw [e1]
        show (if y = s then st else r y) < r x
        rw [if_neg (ne y hy.1)]
        exact hy.2
    · subst hx'
      have e1 : (fun y => if y = x then st else r y) x = st := if_pos rfl
      refine ⟨hs, by rw [e1]; omega, ?_, ?_⟩
      · rw [e1]
        show (up S 22 (st : Int) (x : Int)) 22 (st : Int) = _
        rw [up_eq]
      · refine rdy_mono (fun y hy => ⟨(tb' y).mpr (Or.inl hy), ?_⟩) hr
        rw [e1]
        show (if y = x then st else r y) < st
        rw [if_neg (ne y hy)]
        exact (b y hy).2.1
  · by_cases e : i = st
    · exact ⟨s, (tb' s).mpr (Or.inr rfl), by show (if s = s then st else r s) = i; rw [if_pos rfl, e]⟩
    · obtain ⟨x, x1, x2⟩ := c i (by omega)
      exact ⟨x, (tb' x).mpr (Or.inl x1), by show (if x = s then st else r x) = i; rw [if_neg (ne x x1), x2]⟩
theorem GM_lay {S T : St} {M : Int → Int} (hG : GM (sh11 S) M) (hk : kept [22] [(13, 4)] S T) : GM (sh11 T) M := by
  have c : ∀ i, 14 ≤ i → i ≤ 21 → T i = S i := fun i a b => hk.cell i (by simp; omega) (by simp; omega)
  have f : ∀ k : Int, k ≠ 4 → T 13 k = S 13 k := fun k w => hk 13 k (by decide) (by simp; omega)
  obtain ⟨⟨a1, a2, a3, a4⟩, b, c1, c2, c3, c4⟩ := hG
  refine ⟨⟨(f 0 (by decide)).trans a1, (f 1 (by decide)).trans a2, (f 2 (by decide)).trans a3, (f 3 (by decide)).trans a4⟩, fun p hp => ?_, fun e he => ?_, fun e t he ht => ?_, fun e he => ?_, fun e x y => ?_⟩
  · have := b p hp
    show T 14 _ = _ ∧ T 17 _ = _ ∧ (_ → T 15 _ = _) ∧ (_ → T 15 _ = _) ∧ (_ → T 16 _ = _) ∧ (_ → T 16 _ = _)
    rw [c 14 (by decide) (by decide), c 15 (by decide) (by decide), c 16 (by decide) (by decide), c 17 (by decide) (by decide)]
    exact this
  · show T 19 _ = _
    rw [c 19 (by decide) (by decide)]; exact c1 e he
  · show T 20 _ = _
    rw [c 20 (by decide) (by decide)]; exact c2 e t he ht
  · show T 21 _ = _
    rw [c 21 (by decide) (by decide)]; exact c3 e he
  · show T 21 _ = _
    rw [c 21 (by decide) (by decide)]; exact c4 e x y
def clsd (M : Int → Int) (F : Nat → Bool) (m : Nat) : Prop := ∀ s : Nat, (s : Int) < 6 + 2 * M 2 → rdy M F (fun x => m.testBit x = true) s → m.testBit s = true
theorem lay44 {S0 : St} {M : Int → Int} {v2 : Int} {m0 st0 : Nat} (h : WF M) (hG : GM (sh11 S0) M) (hc : c0126 S0) : ∀ (n f m st : Nat) (r : Nat → Nat) (more : Int) (S : St), (n : Int) ≤ 6 + 2 * M 2 → n < f → kept [22] [(13, 4)] S0 S → LI M (cf26 S0) m st r S → ((more = 0 ∧ m = m0 ∧ st = st0 ∧ ∀ s : Nat, n ≤ s → (s : Int) < 6 + 2 * M 2 → rdy M (cf26 S0) (fun x => m0.testBit x = true) s → m0.testBit s = true) ∨ (more = 1 ∧ st0 < st)) → ∃ (m' st' : Nat) (r' : Nat → Nat) (more' : Int) (S' : St), mX3_layOrder_26_44 v2 f ((n : Int) - 1) more (m : Int) S = some ((m' : Int), more', S') ∧ kept [22] [(13, 4)] S0 S' ∧ LI M (cf26 S0) m' st' r' S' ∧ ((more' = 0 ∧ m' = m0 ∧ st' = st0 ∧ clsd M (cf26 S0) m0) ∨ (more' = 1 ∧ st0 < st')) := by
  have hM2 := h.2.2.1
  intro n
  induction n with
  | zero =>
    intro f m st r more S hn hf hk hL hI
    obtain ⟨g, rfl⟩ : ∃ g, f = g + 1 := ⟨f - 1, by omega⟩
    refine ⟨m, st, r, more, S, ?_, hk, hL, hI.imp (fun x => ⟨x.1, x.2.1, x.2.2.1, fun s a b => x.2.2.2 s (Nat.zero_le _) a b⟩) id⟩
    rw [mX3_layOrder_26_44, gd_t (by omega), if_pos (by omega)]
  | succ n ih =>
    intro f m st r more S hn hf hk hL hI
    obtain ⟨g, rfl⟩ : ∃ g, f = g + 1 := ⟨f - 1, by omega⟩
    have hm := hL.1.2.1
    have G' : GM (sh11 S) M := GM_lay hG hk
    have cc : c0126 S ∧ cf26 S = cf26 S0 := by
      have e := hk.cell 26 (by decide) (by decide)
      refine ⟨?_, ?_⟩
      · unfold c0126; rw [e]; exact hc
      · funext x; unfold cf26; rw [e]
    rw [mX3_layOrder_26_44, show ((n + 1 : Nat) : Int) - 1 = (n : Int) by omega, gd_t (by omega), if_neg (by omega), lbit hm (show n < 54 by omega)]
    have skip : (more = 0 → rdy M (cf26 S0) (fun x => m0.testBit x = true) n → m0.testBit n = true) → ∃ (m' st' : Nat) (r' : Nat → Nat) (more' : Int) (S' : St), mX3_layOrder_26_44 v2 g ((n : Int) - 1) more (m : Int) S = some ((m' : Int), more', S') ∧ kept [22] [(13, 4)] S0 S' ∧ LI M (cf26 S0) m' st' r' S' ∧ ((more' = 0 ∧ m' = m0 ∧ st' = st0 ∧ clsd M (cf26 S0) m0) ∨ (more' = 1 ∧ st0 < st')) := fun hh => by
      refine ih g m st r more S (by omega) (by omega) hk hL (hI.imp (fun x => ⟨x.1, x.2.1, x.2.2.1, fun s a b c => ?_⟩) id)
      by_cases e : s = n
      · subst e; exact hh x.1 c
      · exact x.2.2.2 s (by omega) b c
    cases hb : m.testBit n with
    | true =>
      rw [if_pos rfl, gd_t (by decide), if_neg (by decide)]
      refine skip (fun x _ => ?_)
      rcases hI with y | y
      · rw [← y.2.1]; exact hb
      · omega
    | false =>
      rw [if_neg (show ¬ (false = true) by decide), gd_t (by decide), if_pos rfl]
      obtain ⟨w, w1, w2, w3⟩ := e_isReady (s := n) h G' cc.1 hm (by omega)
      rw [cc.2] at w3
      rw [bd1_e w1]
      rcases w2 with w2 | w2
      · subst w2
        rw [gd_t (by decide), if_pos rfl]
        refine skip (fun x y => ?_)
        rcases hI with z | z
        · rw [z.2.1] at w3
          exact absurd (w3.mpr y) (by decide)
        · omega
      · subst w2
        obtain ⟨lt, L'⟩ := LI_add (by omega) hL hb (by omega) (w3.mp rfl)
        have s4 := hL.1.1
        rw [gd_t (by decide), if_neg (by decide), s4, gd_t (by omega), nx_e, show (up S 22 (st : Int) (n : Int)) 13 4 = (st : Int) from s4, nx_e, nx_e, (lset hm (show n < 54 by omega)).1]
        refine ih g (m ||| 2 ^ n) (st + 1) _ 1 _ (by omega) (by omega) ?_ L' (Or.inr ⟨rfl, ?_⟩)
        · exact (hk.upA (by decide)).upF (by decide)
        · rcases hI with z | z <;> omega
theorem bd3_e {α1 α2 α3 β : Type} {x : Option (α1 × α2 × α3)} {a : α1} {b : α2} {c : α3} {f : α1 → α2 → α3 → Option β} (h : x = some (a, b, c)) : bd3 x f = f a b c := by rw [h]; rfl
theorem lay15 {S0 : St} {M : Int → Int} (h : WF M) (hG : GM (sh11 S0) M) (hc : c0126 S0) : ∀ (n i f m st : Nat) (r : Nat → Nat) (more : Int) (S : St), i + n = 54 → n < f → kept [22] [(13, 4)] S0 S → LI M (cf26 S0) m st r S → ((more = 0 ∧ clsd M (cf26 S0) m) ∨ (more = 1 ∧ i ≤ st)) → ∃ (m' st' : Nat) (r' : Nat → Nat) (S' : St), mX3_layOrder_26_15 f (i : Int) more (m : Int) S = some S' ∧ kept [22] [(13, 4)] S0 S' ∧ LI M (cf26 S0) m' st' r' S' ∧ clsd M (cf26 S0) m' := by
  have hM2 := h.2.2.1
  intro n
  induction n with
  | zero =>
    intro i f m st r more S hi hf hk hL hI
    obtain ⟨g, rfl⟩ : ∃ g, f = g + 1 := ⟨f - 1, by omega⟩
    refine ⟨m, st, r, S, ?_, hk, hL, ?_⟩
    · rw [mX3_layOrder_26_15, gd_t (by omega), if_pos (by omega)]
    · rcases hI with x | x
      · exact x.2
      · intro s hs _
        cases hb : m.testBit s
        · have := pc_room hb (by omega)
          have := hL.1.2.2
          omega
        · rfl
  | succ n ih =>
    intro i f m st r more S hi hf hk hL hI
    obtain ⟨g, rfl⟩ : ∃ g, f = g + 1 := ⟨f - 1, by omega⟩
    rw [mX3_layOrder_26_15, gd_t (by omega), if_neg (by omega)]
    rcases hI with ⟨x, y⟩ | ⟨x, y⟩
    · refine ⟨m, st, r, S, ?_, hk, hL, y⟩
      rw [x, gd_t (by decide), if_pos rfl]
    · have g3 : S 13 3 = M 2 := (hk 13 3 (by decide) (by decide)).trans hG.1.2.2.2
      obtain ⟨m', st', r', more', S', w1, w2, w3, w4⟩ := lay44 (v2 := (i : Int)) (m0 := m) (st0 := st) h hG hc (6 + 2 * (M 2).toNat) FU m st r 0 S (by omega) (by unfold FU; omega) hk hL (Or.inl ⟨rfl, rfl, rfl, fun s a b => by omega⟩)
      rw [show (((6 + 2 * (M 2).toNat : Nat) : Int)) - 1 = 6 + 2 * M 2 - 1 by omega] at w1
      rw [x, gd_t (by decide), if_neg (by decide), nx_e, g3, bd3_e w1]
      have := ih (i + 1) g m' st' r' more' S' (by omega) (by omega) w2 w3 (by
        rcases w4 with z | z
        · exact Or.inl ⟨z.1, by rw [z.2.1]; exact z.2.2.2⟩
        · exact Or.inr ⟨z.1, by omega⟩)
      rw [show ((i + 1 : Nat) : Int) = (i : Int) + 1 by omega] at this
      exact this
theorem tE_fuel {M : Int → Int} {F : Nat → Bool} {a : Int} (h : WF M) : ∀ (f f' : Nat) (q : Int), okq M q → (24 - q ≤ (f : Int) ∨ q < 0) → (24 - q ≤ (f' : Int) ∨ q < 0) → tE M F a f q = tE M F a f' q := by
  have hM2 := h.2.2.1
  have neg : ∀ f q, q < 0 → tE M F a f q = true := fun f q hq => by
    cases f with
    | zero => rfl
    | succ f => unfold tE; rw [if_pos hq]
  intro f
  induction f with
  | zero =>
    intro f' q hq h1 h2
    have : q < 0 := by unfold okq at hq; omega
    rw [neg _ _ this, neg _ _ this]
  | succ f ih =>
    intro f' q hq h1 h2
    by_cases z : q < 0
    · rw [neg _ _ z, neg _ _ z]
    · obtain ⟨g, rfl⟩ : ∃ g, f' = g + 1 := ⟨f' - 1, by unfold okq at hq; omega⟩
      have o := (h.2.2.2.1 q.toNat (by unfold okq at hq; omega)).2.1
      rw [show ((q.toNat : Nat) : Int) = q by omega] at o
      unfold tE
      rw [if_neg z, if_neg z, ih g _ (okq_next h hq (by omega)) (by omega) (by omega)]
theorem tE_asd {M : Int → Int} {F : Nat → Bool} {a : Int} (h : WF M) : ∀ f q, okq M q → tE M F (-1) f q = true → tE M F a f q = true := by
  intro f
  induction f with
  | zero => intro q _ _; rfl
  | succ f ih =>
    intro q hq hT
    unfold tE at hT ⊢
    by_cases z : q < 0
    · rw [if_pos z]
    · rw [if_neg z, Bool.and_eq_true, Bool.or_eq_true] at hT ⊢
      refine ⟨Or.inr (hT.1.elim (fun x => ?_) id), ih _ (okq_next h hq (by omega)) hT.2⟩
      have := of_decide_eq_true x
      omega
theorem orN_bit {n t j : Nat} {f : Nat → Nat} (ht : t < n) (h : (f t).testBit j = true) : (orN n f).testBit j = true := by
  induction n with
  | zero => omega
  | succ n ih =>
    rw [orN_s, Nat.testBit_or, Bool.or_eq_true]
    by_cases e : t = n
    · subst e; exact Or.inr h
    · exact Or.inl (ih (by omega))
theorem layB {M : Int → Int} {F : Nat → Bool} {X : Nat → Nat} {m : Nat} (h : WF M) (hcl : clsd M F m) : ∀ (f q : Nat), (q : Int) < M 2 → 24 - q ≤ f → m.testBit (2 * q + 6) = false → ∃ r : Nat, q ≤ r ∧ (r : Int) < M 2 ∧ m.testBit (2 * r + 7) = false ∧ tE M F (r : Int) f (q : Int) = true ∧ ∀ (g : Int → Bool) (j : Nat), g (r : Int) = true → (X r).testBit j = true → (chO M X g f (q : Int)).testBit j = true := by
  have hM2 := h.2.2.1
  intro f
  induction f with
  | zero => intro q a b; omega
  | succ f ih =>
    intro q hq hf hu
    have o := (h.2.2.2.1 q hq).2.1
    have okn : okq M (M (96 + (q : Int))) := by unfold okq; omega
    have nr : ¬ rdT M F (fun x => m.testBit x = true) q := fun w => by
      have := hcl (2 * q + 6) (by omega) ⟨fun x => by omega, fun p hp => by omega, fun p hp => by rw [show p = q by omega]; exact w⟩
      rw [this] at hu; cases hu
    have z : ¬ (q : Int) < 0 := by omega
    by_cases A : tE M F (-1) 24 (M (96 + (q : Int))) = true ∧ m.testBit (2 * q + 7) = false
    · refine ⟨q, Nat.le_refl _, hq, A.2, ?_, fun g j hg hj => ?_⟩
      · unfold tE
        rw [if_neg z, Bool.and_eq_true]
        refine ⟨by simp, ?_⟩
        rw [tE_fuel h f 24 _ okn (by omega) (by omega)]
        exact tE_asd h 24 _ okn A.1
      · unfold chO
        rw [if_neg z, hg, Nat.testBit_or, Bool.or_eq_true]
        exact Or.inl hj
    · have B : 0 ≤ M (96 + (q : Int)) ∧ F q = true ∧ m.testBit (2 * (M (96 + (q : Int))).toNat + 6) = false := by
        refine Classical.byContradiction fun w => nr ⟨fun x => ?_, fun x y => ?_⟩
        · cases hb : m.testBit (2 * q + 7)
          · exact absurd ⟨x, hb⟩ A
          · exact hb
        · cases hb : m.testBit (2 * (M (96 + (q : Int))).toNat + 6)
          · exact absurd ⟨x, y, hb⟩ w
          · exact hb
      obtain ⟨r, r1, r2, r3, r4, r5⟩ := ih (M (96 + (q : Int))).toNat (by omega) (by omega) B.2.2
      rw [show (((M (96 + (q : Int))).toNat : Nat) : Int) = M (96 + (q : Int)) by omega] at r4 r5
      refine ⟨r, by omega, r2, r3, ?_, fun g j hg hj => ?_⟩
      · unfold tE
        rw [if_neg z, r4, show ((q : Int)).toNat = q from rfl, B.2.1]; simp
      · unfold chO
        rw [if_neg z, Nat.testBit_or, Bool.or_eq_true]
        exact Or.inr (r5 g j hg hj)
theorem layE {M : Int → Int} {F : Nat → Bool} {X : Nat → Nat} {m e lo t : Nat} (h : WF M) (hoff : ∀ e t, offM M e t = false) (hcl : clsd M F m) (hA : ∀ r : Nat, lo ≤ r → (r : Int) < M 2 → m.testBit (2 * r + 7) = false → ∃ k : Nat, (k : Int) < M 0 ∧ m.testBit k = false ∧ (X r).testBit k = true) (hE : okE M (lo : Int) e) (ht : (t : Int) < M (198 + (e : Int))) (hu : m.testBit (2 * (fpM M e t).toNat + 6) = false) : ∃ k : Nat, (k : Int) < M 0 ∧ m.testBit k = false ∧ (eO M X (gdL M F e) e).testBit k = true := by
  have hM2 := h.2.2.1
  have q := (hE.2.1 t ht).2
  obtain ⟨r, r1, r2, r3, r4, r5⟩ := layB (X := X) h hcl 24 (fpM M e t).toNat (by omega) (by omega) hu
  rw [show (((fpM M e t).toNat : Nat) : Int) = fpM M e t by omega] at r4 r5
  obtain ⟨k, k1, k2, k3⟩ := hA r (by omega) r2 r3
  refine ⟨k, k1, k2, orN_bit (t := t) (by omega) ?_⟩
  rw [hoff e t]
  exact r5 (gdL M F e t) k r4 k3
theorem layA {M : Int → Int} {F : Nat → Bool} {X : Nat → Nat} {m : Nat} (h : WF M) (hoff : ∀ e t, offM M e t = false) (hq : leaEq M F X) (hcl : clsd M F m) : ∀ (n p : Nat), (p : Int) < M 2 → 24 - p ≤ n → m.testBit (2 * p + 7) = false → ∃ k : Nat, (k : Int) < M 0 ∧ m.testBit k = false ∧ (X p).testBit k = true := by
  have hM2 := h.2.2.1
  intro n
  induction n with
  | zero => intro p a b; omega
  | succ n ih =>
    intro p hp hn hu
    obtain ⟨h1, h2, h3, h4, h5, h6⟩ := h.2.2.2.1 p hp
    have nr : ¬ rdO M (fun x => m.testBit x = true) p := fun w => by
      have := hcl (2 * p + 7) (by omega) ⟨fun x => by omega, fun q hq => by rw [show q = p by omega]; exact w, fun q hq => by omega⟩
      rw [this] at hu; cases hu
    rw [hq p hp]
    by_cases s7 : M (24 + (p : Int)) = 7
    · rw [if_pos s7]
      have q3 := (h5 s7).2.2
      rw [show (p : Int) + 1 = ((p + 1 : Nat) : Int) by omega] at q3
      have : ∃ t : Nat, (t : Int) < M (198 + ((6 + p : Nat) : Int)) ∧ m.testBit (2 * (fpM M (6 + p) t).toNat + 6) = false := by
        refine Classical.byContradiction fun w => nr ⟨fun x => by omega, fun _ t ht => ?_, fun x => by omega⟩
        cases hb : m.testBit (2 * (fpM M (6 + p) t).toNat + 6)
        · exact absurd ⟨t, ht, hb⟩ w
        · exact hb
      obtain ⟨t, t1, t2⟩ := this
      exact layE h hoff hcl (fun r a b c => ih r b (by omega) c) q3 t1 t2
    rw [if_neg s7]
    by_cases sq : 3 ≤ M (24 + (p : Int)) ∧ M (24 + (p : Int)) ≤ 6
    · rw [if_pos sq]
      have c := h6 sq
      by_cases w : M (48 + (p : Int)) ≤ 1
      · rw [if_pos w]
        refine ih _ (by omega) (by omega) ?_
        cases hb : m.testBit (2 * (M (72 + (p : Int))).toNat + 7)
        · rfl
        · exact absurd ⟨fun x => by omega, fun x => absurd x s7, fun _ _ => hb⟩ nr
      · exact absurd ⟨fun x => by omega, fun x => absurd x s7, fun _ x => absurd x w⟩ nr
    rw [if_neg sq]
    by_cases s2 : M (24 + (p : Int)) = 2
    · rw [if_pos s2]
      have k := h4 s2
      refine ⟨(M (48 + (p : Int))).toNat, by omega, ?_, by rw [Nat.testBit_two_pow]; simp⟩
      cases hb : m.testBit (M (48 + (p : Int))).toNat
      · rfl
      · exact absurd ⟨fun _ => hb, fun x => absurd x s7, fun x => absurd x sq⟩ nr
    · exact absurd ⟨fun x => absurd x s2, fun x => absurd x s7, fun x => absurd x sq⟩ nr
theorem lay_all {M : Int → Int} {F : Nat → Bool} {X : Nat → Nat} {m : Nat} (h : WF M) (hoff : ∀ e t, offM M e t = false) (hq : leaEq M F X) (hw : ∀ k : Nat, (k : Int) < M 0 → (clo (fun e => eO M X (gdL M F e) e) (M 0).toNat k).testBit k = false) (hcl : clsd M F m) : (∀ e : Nat, (e : Int) < M 0 → m.testBit e = true) ∧ (∀ p : Nat, (p : Int) < M 2 → m.testBit (2 * p + 7) = true ∧ m.testBit (2 * p + 6) = true) := by
  have hM0 := h.1
  have hM2 := h.2.2.1
  have kinds : ∀ e : Nat, (e : Int) < M 0 → m.testBit e = true := by
    intro e he
    refine Classical.byContradiction fun w => ?_
    have w' : m.testBit e = false := by cases hb : m.testBit e; · rfl
                                        · exact absurd hb w
    obtain ⟨u, u1, u2⟩ := clo_cycle (D := fun e => eO M X (gdL M F e) e) (n := (M 0).toNat) (U := fun u => (u : Int) < M 0 ∧ m.testBit u = false) (by omega) (fun j hj => leaD h hq (by omega)) (fun u hu => ⟨by have := hu.1; omega, by
      have : ∃ t : Nat, (t : Int) < M (198 + (u : Int)) ∧ m.testBit (2 * (fpM M u t).toNat + 6) = false := by
        refine Classical.byContradiction fun v => ?_
        have := hcl u (by have := hu.1; omega) ⟨fun _ => ⟨hu.1, fun t ht => by
          cases hb : m.testBit (2 * (fpM M u t).toNat + 6)
          · exact absurd ⟨t, ht, hb⟩ v
          · exact hb⟩, fun p hp => (by have := hu.1; omega), fun p hp => (by have := hu.1; omega)⟩
        rw [hu.2] at this; cases this
      obtain ⟨t, t1, t2⟩ := this
      obtain ⟨k, k1, k2, k3⟩ := layE (lo := 0) h hoff hcl (fun r _ b c => layA h hoff hq hcl 24 r b (by omega) c) (h.2.2.2.2.1 u hu.1) t1 t2
      exact ⟨k, ⟨k1, k2⟩, k3⟩⟩) ⟨e, he, w'⟩
    rw [hw u u1.1] at u2; cases u2
  have own : ∀ p : Nat, (p : Int) < M 2 → m.testBit (2 * p + 7) = true := fun p hp => by
    cases hb : m.testBit (2 * p + 7)
    · obtain ⟨k, k1, k2, _⟩ := layA h hoff hq hcl 24 p hp (by omega) hb
      rw [kinds k k1] at k2; cases k2
    · rfl
  refine ⟨kinds, fun p hp => ⟨own p hp, ?_⟩⟩
  cases hb : m.testBit (2 * p + 6)
  · obtain ⟨r, _, r2, r3, _⟩ := layB (X := X) h hcl 24 p hp (by omega) hb
    rw [own r r2] at r3; cases r3
  · rfl
/-- the order that layOrder lays -/
theorem w_layOrder {S : St} {M : Int → Int} {X : Nat → Nat} (h : WF M) (hG : GM (sh11 S) M) (hc : c0126 S) (hF : lfE M (cf26 S)) (hoff : ∀ e t, offM M e t = false) (hq : leaEq M (cf26 S) X) (hw : ∀ k : Nat, (k : Int) < M 0 → (clo (fun e => eO M X (gdL M (cf26 S) e) e) (M 0).toNat k).testBit k = false) : ∃ (S' : St) (rO rT rK : Nat → Nat) (st : Nat), mX3_layOrder_26 S = some S' ∧ kept [22] [(13, 4)] S S' ∧ OA (sh11 S') M rO rT rK st ∧ Ord M (fun p => cf26 S p = true) (fun p => tE M (cf26 S) (-1) 24 (p : Int) = true) (fun e => cf26 S (24 + e) = true) rO rT rK := by
  have hM0 := h.1
  have hM2 := h.2.2.1
  have k1 : kept [22] [(13, 4)] S (up S 13 4 0) := kept.rf.upF (by decide)
  have ccs : c0126 (up S 13 4 0) ∧ cf26 (up S 13 4 0) = cf26 S := ⟨hc, rfl⟩
  obtain ⟨m, st, r, S', a1, a2, a3, a4⟩ := lay15 (S0 := S) h hG hc 54 0 FU 0 0 (fun _ => 0) 1 (up S 13 4 0) (by omega) (by unfold FU; omega) k1 ⟨⟨rfl, by decide, by decide⟩, fun s hs => (by rw [Nat.zero_testBit] at hs; cases hs), fun i hi => (by omega)⟩ (Or.inr ⟨rfl, by omega⟩)
  obtain ⟨lk, lp⟩ := lay_all h hoff hq hw a4
  obtain ⟨⟨b1, b2, b3⟩, b4, b5⟩ := a3
  have st54 : st ≤ 54 := by rw [b3]; exact pc_le
  refine ⟨S', fun p => r (2 * p + 7), fun p => r (2 * p + 6), fun e => r e, st, ?_, a2, ⟨b1, st54, fun i hi => ?_, fun p hp => ?_, fun e he => ?_⟩, ⟨fun p hp => ?_, fun e he t ht hT => ?_, fun p hp => ?_, fun e he t ht => ?_⟩⟩
  · unfold mX3_layOrder_26
    rw [nx_e, bd1_e (show mX3_layOrder_26_15 FU 0 1 0 (up S 13 4 0) = _ from a1)]
  · obtain ⟨s, s1, s2⟩ := b5 i hi
    obtain ⟨c1, c2, c3, c4⟩ := b4 s s1
    rw [s2] at c3
    by_cases c6 : s < 6
    · exact Or.inl ⟨s, (c4.1 c6).1, c3, s2⟩
    · by_cases od : (s - 6) % 2 = 1
      · refine Or.inr (Or.inl ⟨(s - 7) / 2, by omega, ?_, ?_⟩)
        · show S' 22 (i : Int) = _
          rw [c3]; omega
        · show r (2 * ((s - 7) / 2) + 7) = i
          rw [show 2 * ((s - 7) / 2) + 7 = s by omega, s2]
      · refine Or.inr (Or.inr ⟨(s - 6) / 2, by omega, ?_, ?_⟩)
        · show S' 22 (i : Int) = _
          rw [c3]; omega
        · show r (2 * ((s - 6) / 2) + 6) = i
          rw [show 2 * ((s - 6) / 2) + 6 = s by omega, s2]
  · obtain ⟨u, v⟩ := lp p hp
    obtain ⟨c1, c2, c3, c4⟩ := b4 _ u
    obtain ⟨d1, d2, d3, d4⟩ := b4 _ v
    refine ⟨c2, ?_, d2, ?_⟩
    · show S' 22 _ = _
      rw [c3]; omega
    · show S' 22 _ = _
      rw [d3]; omega
  · obtain ⟨c1, c2, c3, c4⟩ := b4 _ (lk e he)
    exact ⟨c2, c3⟩
  · have vxp : vx M p := Or.inl ⟨by omega, hp⟩
    have hr : ruP M (cf26 S) p = true → cf26 S p = true := fun w => hF.1 p vxp (by unfold ru; rw [if_pos (by omega)]; exact w)
    obtain ⟨h1, h2, h3, h4, h5, h6⟩ := h.2.2.2.1 p hp
    have okn : okq M (M (96 + (p : Int))) := by unfold okq; omega
    refine ⟨fun s => hr ?_, fun s w => hr ?_, fun s t ht w => hr ?_, fun s => hr ?_, fun a b => ?_, fun a b c => ?_⟩
    · unfold ruP; rw [if_neg (by omega), if_pos s]
    · unfold ruP; rw [if_neg (by omega), if_neg (by omega), if_pos s]; exact w
    · have q := ((h5 s).2.2.2.1 t ht).2
      unfold ruP
      rw [if_neg (by omega), if_neg (by omega), if_neg (by omega), if_pos s]
      refine anyN_iff.mpr ⟨t, by omega, ?_⟩
      rw [hoff, Bool.and_eq_true]
      refine ⟨rfl, ?_⟩
      dsimp only at w
      rw [show (((fpM M (6 + p) t).toNat : Nat) : Int) = fpM M (6 + p) t by omega] at w
      exact w
    · unfold ruP
      rw [if_neg (by omega), if_neg (by omega), if_neg (by omega), if_neg (by omega), if_neg (by omega)]
      rw [decide_eq_true s.2.2]; rfl
    · show tE M (cf26 S) (-1) (23 + 1) (p : Int) = true
      unfold tE
      rw [if_neg (by omega), b, show ((p : Int)).toNat = p from rfl, a]
      simp [tE]
    · show tE M (cf26 S) (-1) (23 + 1) (p : Int) = true
      unfold tE
      rw [if_neg (by omega), show ((p : Int)).toNat = p from rfl, a, tE_fuel h 23 24 _ okn (by omega) (by omega)]
      dsimp only at c
      rw [show (((M (96 + (p : Int))).toNat : Nat) : Int) = M (96 + (p : Int)) by omega] at c
      rw [c]; simp
  · have q := ((h.2.2.2.2.1 e he).2.1 t ht).2
    refine hF.1 (24 + e) (Or.inr ⟨by omega, by omega⟩) ?_
    unfold ru
    rw [if_neg (by omega), show 24 + e - 24 = e by omega]
    refine anyN_iff.mpr ⟨t, by have := (h.2.2.2.2.1 e he).1; omega, ?_⟩
    rw [hoff, Bool.and_eq_true]
    refine ⟨rfl, ?_⟩
    dsimp only at hT
    rw [show (((fpM M e t).toNat : Nat) : Int) = fpM M e t by omega] at hT
    exact hT
  · obtain ⟨u, v⟩ := lp p hp
    obtain ⟨c1, c2, c3, c4⟩ := b4 _ u
    obtain ⟨d1, d2, d3, d4⟩ := b4 _ v
    obtain ⟨o1, o2, o3⟩ := c4.2.1 p rfl
    obtain ⟨t1, t2⟩ := d4.2.2 p rfl
    refine ⟨fun s => (o1 s).2, fun s t ht => (o2 s t ht).2, fun s => (o3 ⟨s.1, s.2.1⟩ s.2.2).2, fun s => (t1 (by rw [s]; rfl)).2, fun s w => (t1 ?_).2, fun s w => (t2 s w).2⟩
    dsimp only at w
    rw [show (((M (96 + (p : Int))).toNat : Nat) : Int) = M (96 + (p : Int)) by omega] at w
    exact w
  · obtain ⟨c1, c2, c3, c4⟩ := b4 _ (lk e he)
    exact ((c4.1 (by omega)).2 t ht).2
