/-! a text read: what is spelled there -/
def szs : List (List Int × Nat) → Nat
  | [] => 0
  | x :: l => x.2 + szs l
theorem szs_pm {l m : List (List Int × Nat)} (h : l.Perm m) : szs l = szs m := by
  induction h with
  | nil => rfl
  | cons x _ ih => show x.2 + _ = x.2 + _; rw [ih]
  | swap x y l => show y.2 + (x.2 + szs l) = x.2 + (y.2 + szs l); omega
  | trans _ _ a b => exact a.trans b
def fl1 (l : List (List Int × Nat)) : List Int := (l.map Prod.fst).flatten
def ndp : List (List Int) → Bool
  | [] => true
  | a :: l => if a ∈ l then false else ndp l
theorem ndp_iff : ∀ l : List (List Int), ndp l = true ↔ l.Nodup := by
  intro l
  induction l with
  | nil => exact ⟨fun _ => List.nodup_nil, fun _ => rfl⟩
  | cons a l ih =>
    rw [List.nodup_cons]
    show (if a ∈ l then false else ndp l) = true ↔ _
    by_cases c : a ∈ l
    · rw [if_pos c]; exact ⟨fun h => (by cases h), fun h => absurd c h.1⟩
    · rw [if_neg c, ih]; exact ⟨fun h => ⟨c, h⟩, fun h => h.2⟩
def okQ (ty nu : Int) (l : List (List Int)) : Prop := (nu = 0 ∨ (l.length : Int) = nu) ∧ (ty = 6 → 1 ≤ l.length) ∧ (ty = 5 → ndp l = true)
theorem okQ_pm {ty nu : Int} {l m : List (List Int)} (h : l.Perm m) (k : okQ ty nu l) : okQ ty nu m := by
  refine ⟨by rw [← h.length_eq]; exact k.1, fun e => by rw [← h.length_eq]; exact k.2.1 e, fun e => ?_⟩
  have := (ndp_iff l).mp (k.2.2 e)
  exact (ndp_iff m).mpr (h.nodup this)
def Rd : Type := List Int → Option (List Int × Nat × List Int)
def rdC (M : Int → Int) (rec : Nat → List Int → Option (List Int × Nat × List Int)) : Nat → Int → List Int → Option (List (List Int × Nat) × List Int)
  | 0, _, _ => none
  | k + 1, q, w => if q < 0 then some ([], w) else (rec q.toNat w).bind fun o => (rdC M rec k (M (96 + q)) o.2.2).bind fun s => some ((o.1, o.2.1) :: s.1, s.2)
def rdL (rec : List Int → Option (List Int × Nat × List Int)) (cl : Int) : Nat → List Int → Option (List (List Int × Nat) × List Int)
  | 0, _ => none
  | _ + 1, [] => none
  | k + 1, a :: w => if a = cl then some ([], w) else (rec (a :: w)).bind fun o => (rdL rec cl k o.2.2).bind fun s => some ((o.1, o.2.1) :: s.1, s.2)
def rdE (M : Int → Int) (rec : Nat → List Int → Option (List Int × Nat × List Int)) (e : Nat) (w : List Int) : Option (List Int × Nat × List Int) :=
  if cnE M e ≤ 1 then (if (cnE M e = 1 ∧ offM M e 0 = false) ∧ 0 ≤ fpM M e 0 then (rdC M rec 25 (fpM M e 0) w).bind fun s => some (fl1 s.1, szs s.1, s.2) else none)
  else match w with
    | [] => none
    | a :: w' => if ((48 ≤ a ∧ a < 48 + ((cnE M e : Nat) : Int)) ∧ offM M e (a - 48).toNat = false) ∧ 0 ≤ fpM M e (a - 48).toNat then (rdC M rec 25 (fpM M e (a - 48).toNat) w').bind fun s => some (a :: fl1 s.1, szs s.1, s.2) else none
def lfS (M : Int → Int) (p : Nat) : Int := if M (24 + (p : Int)) = 0 then 97 + M (48 + (p : Int)) else 45
def lfN (M : Int → Int) (p : Nat) : Nat := if M (24 + (p : Int)) = 0 then 1 else 0
noncomputable def rdB (M : Int → Int) (rec : Nat → List Int → Option (List Int × Nat × List Int)) (p : Nat) (w : List Int) : Option (List Int × Nat × List Int) :=
  if M (24 + (p : Int)) ≤ 1 then (match w with
    | [] => none
    | a :: r => if a = lfS M p then some ([a], lfN M p, r) else none)
  else if M (24 + (p : Int)) = 2 ∨ M (24 + (p : Int)) = 7 then rdE M rec (exN M p) w
  else (match w with
    | [] => none
    | a :: r => if a = opS (M (24 + (p : Int))) then (rdL (rec (chM M p)) (clS (M (24 + (p : Int)))) 64 r).bind fun s => @ite _ (okQ (M (24 + (p : Int))) (M (48 + (p : Int))) (s.1.map Prod.fst)) (Classical.propDecidable _) (some (a :: ((sqL (M (24 + (p : Int))) (s.1.map Prod.fst)).flatten ++ [clS (M (24 + (p : Int)))]), szs s.1, s.2)) none else none)
noncomputable def rdP (M : Int → Int) : Nat → Nat → List Int → Option (List Int × Nat × List Int)
  | 0, _, _ => none
  | f + 1, p, w => rdB M (rdP M f) p w
theorem rdP_0 {M : Int → Int} {p : Nat} {w : List Int} : rdP M 0 p w = none := rfl
theorem rdP_s {M : Int → Int} {f p : Nat} {w : List Int} : rdP M (f + 1) p w = rdB M (rdP M f) p w := rfl
/-- what a part read is: so much of the text, put in order, its first sign the same -/
def ate (w c r : List Int) : Prop := ∃ (a : Int) (u v : List Int), w = a :: (u ++ r) ∧ c = a :: v ∧ u.Perm v
theorem ate.len {w c r : List Int} (h : ate w c r) : w.length = c.length + r.length ∧ 1 ≤ c.length := by
  obtain ⟨a, u, v, h1, h2, h3⟩ := h
  rw [h1, h2, List.length_cons, List.length_append, List.length_cons, h3.length_eq]
  omega
/-- so for the loops -/
theorem rdC_ate {M : Int → Int} {rec : Nat → List Int → Option (List Int × Nat × List Int)} (hr : ∀ p w c n r, rec p w = some (c, n, r) → ate w c r) : ∀ (k : Nat) (q : Int) (w : List Int) (s : List (List Int × Nat)) (r : List Int), rdC M rec k q w = some (s, r) → ∃ u, w = u ++ r ∧ u.Perm (fl1 s) ∧ (0 ≤ q → ate w (fl1 s) r) := by
  intro k
  induction k with
  | zero => intro q w s r h; cases h
  | succ k ih =>
    intro q w s r h
    rw [rdC] at h
    by_cases c : q < 0
    · rw [if_pos c] at h
      cases h
      exact ⟨[], rfl, List.Perm.refl _, fun z => by omega⟩
    · rw [if_neg c] at h
      obtain ⟨⟨c1, n1, r1⟩, o1, o2⟩ := Option.bind_eq_some_iff.mp h
      obtain ⟨⟨s2, r2⟩, p1, p2⟩ := Option.bind_eq_some_iff.mp o2
      cases p2
      obtain ⟨a, u, v, h1, h2, h3⟩ := hr _ _ _ _ _ o1
      obtain ⟨u', g1, g2, g3⟩ := ih _ _ _ _ p1
      dsimp only at g1 g2
      have e : fl1 ((c1, n1) :: s2) = a :: (v ++ fl1 s2) := by
        show (c1 :: (s2.map Prod.fst)).flatten = _
        rw [List.flatten_cons, h2]; rfl
      refine ⟨a :: (u ++ u'), ?_, ?_, fun _ => ⟨a, u ++ u', v ++ fl1 s2, ?_, e, h3.append g2⟩⟩
      · rw [h1, g1, List.cons_append, List.append_assoc]
      · rw [e]; exact (h3.append g2).cons a
      · rw [h1, g1, List.append_assoc]
theorem rdL_ate {rec : List Int → Option (List Int × Nat × List Int)} {cl : Int} (hr : ∀ w c n r, rec w = some (c, n, r) → ate w c r) : ∀ (k : Nat) (w : List Int) (s : List (List Int × Nat)) (r : List Int), rdL rec cl k w = some (s, r) → (∃ u, w = u ++ cl :: r ∧ u.Perm (fl1 s)) ∧ s.length < k ∧ ∀ y ∈ s, ∃ (a : Int) (v : List Int), y.1 = a :: v ∧ a ≠ cl := by
  intro k
  induction k with
  | zero => intro w s r h; cases h
  | succ k ih =>
    intro w s r h
    cases w with
    | nil => cases h
    | cons a w =>
      rw [rdL] at h
      by_cases c : a = cl
      · rw [if_pos c] at h
        cases h
        refine ⟨⟨[], by rw [c]; rfl, List.Perm.refl _⟩, by show 0 < k + 1; omega, fun y hy => (by cases hy)⟩
      · rw [if_neg c] at h
        obtain ⟨⟨c1, n1, r1⟩, o1, o2⟩ := Option.bind_eq_some_iff.mp h
        obtain ⟨⟨s2, r2⟩, p1, p2⟩ := Option.bind_eq_some_iff.mp o2
        cases p2
        obtain ⟨a', u, v, h1, h2, h3⟩ := hr _ _ _ _ o1
        obtain ⟨⟨u', g1, g2⟩, g3, g4⟩ := ih _ _ _ p1
        dsimp only at g1 g2
        have ea : a = a' := (List.cons.inj h1).1
        have e : fl1 ((c1, n1) :: s2) = a' :: (v ++ fl1 s2) := by
          show (c1 :: (s2.map Prod.fst)).flatten = _
          rw [List.flatten_cons, h2]; rfl
        refine ⟨⟨a' :: (u ++ u'), ?_, ?_⟩, by show s2.length + 1 < k + 1; omega, fun y hy => ?_⟩
        · rw [h1, g1, List.cons_append, List.append_assoc]
        · rw [e]; exact (h3.append g2).cons a'
        · rcases List.mem_cons.mp hy with q | q
          · subst q; exact ⟨a', v, h2, by rw [← ea]; exact c⟩
          · exact g4 y q
theorem rdE_ate {M : Int → Int} {rec : Nat → List Int → Option (List Int × Nat × List Int)} (hr : ∀ p w c n r, rec p w = some (c, n, r) → ate w c r) {e : Nat} {w c r : List Int} {n : Nat} (h : rdE M rec e w = some (c, n, r)) : ate w c r := by
  unfold rdE at h
  split at h
  · split at h
    · next z =>
      obtain ⟨⟨s, r'⟩, o1, o2⟩ := Option.bind_eq_some_iff.mp h
      cases o2
      obtain ⟨u, _, _, g⟩ := rdC_ate hr _ _ _ _ _ o1
      exact g z.2
    · cases h
  · cases w with
    | nil => cases h
    | cons a w =>
      dsimp only at h
      split at h
      · obtain ⟨⟨s, r'⟩, o1, o2⟩ := Option.bind_eq_some_iff.mp h
        cases o2
        obtain ⟨u, g1, g2, _⟩ := rdC_ate hr _ _ _ _ _ o1
        exact ⟨a, u, fl1 s, by rw [g1], rfl, g2⟩
      · cases h
theorem rdP_ate {M : Int → Int} : ∀ (f p : Nat) (w c : List Int) (n : Nat) (r : List Int), rdP M f p w = some (c, n, r) → ate w c r := by
  intro f
  induction f with
  | zero => intro p w c n r h; cases h
  | succ f ih =>
    intro p w c n r h
    rw [rdP_s] at h
    unfold rdB at h
    split at h
    · cases w with
      | nil => cases h
      | cons a w =>
        dsimp only at h
        split at h
        · cases h; exact ⟨a, [], [], rfl, rfl, List.Perm.refl _⟩
        · cases h
    · split at h
      · next z => exact rdE_ate ih h
      · cases w with
        | nil => cases h
        | cons a w =>
          dsimp only at h
          split at h
          · obtain ⟨⟨s, r'⟩, o1, o2⟩ := Option.bind_eq_some_iff.mp h
            dsimp only at o2
            split at o2
            · cases o2
              obtain ⟨⟨u, g1, g2⟩, _, _⟩ := rdL_ate (fun w c n r => ih (chM M p) w c n r) _ _ _ _ o1
              refine ⟨a, u ++ [clS (M (24 + (p : Int)))], _, ?_, rfl, ?_⟩
              · rw [g1, List.append_assoc]; rfl
              · refine (g2.trans ?_).append (List.Perm.refl _)
                exact ((sqL_cq _ (s.map Prod.fst)).pm).flatten
            · cases o2
          · cases h
