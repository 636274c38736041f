/-! the reference's nodes: what one stands for; two of them compared -/
def lnk (S : St) : Int → List Nat → Prop
  | q, [] => q = -1
  | q, j :: l => q = (j : Int) ∧ j < 1024 ∧ lnk S (S 103 (j : Int)) l
def chD (M : Int → Int) (D : Nat → Nat × List Int × Nat → Prop) : Int → List (Nat × List Int × Nat) → Prop
  | q, [] => q < 0
  | q, x :: l => 0 ≤ q ∧ D q.toNat x ∧ chD M D (M (96 + q)) l
def flM (l : List (Nat × List Int × Nat)) : List Int := (l.map (fun x => x.2.1)).flatten
def sgl (M : Int → Int) (e : Nat) : Prop := cnE M e = 1 ∧ M (96 + fpM M e 0) < 0
def FXD (M : Int → Int) (p : Nat) (c : List Int) (n : Nat) : Prop := ∃ f, fxd (rdP M f p) (c, n)
theorem FXD.dec {M : Int → Int} {p : Nat} {c c' u u' : List Int} {n n' : Nat} (h : FXD M p c n) (k : FXD M p c' n') (e : c ++ u = c' ++ u') : c = c' ∧ n = n' ∧ u = u' := by
  obtain ⟨f, h1⟩ := h
  obtain ⟨g, k1⟩ := k
  have a := h1 u
  have b := k1 u'
  dsimp only at a b
  rw [← e] at b
  have := rdP_det a b
  obtain ⟨x, y⟩ := Prod.mk.inj this
  obtain ⟨y1, y2⟩ := Prod.mk.inj y
  exact ⟨x, y1, y2⟩
def dgT (M : Int → Int) (e t : Nat) : List Int := if cnE M e ≤ 1 then [] else [48 + ((t : Nat) : Int)]
/-- a node that stands for a text of a part -/
def ND (M : Int → Int) (S : St) (hi : Nat) : Nat → Nat → Nat → Nat × List Int × Nat → Prop
  | 0, _, _, _ => False
  | f + 1, lo, p, x => ((lo ≤ x.1 ∧ x.1 < hi) ∧ FXD M p x.2.1 x.2.2 ∧ 1 ≤ x.2.1.length ∧ S 101 (x.1 : Int) = (x.2.2 : Int)) ∧
    ((M (24 + (p : Int)) ≤ 1 ∧ S 99 (x.1 : Int) = M (24 + (p : Int)) ∧ S 100 (x.1 : Int) = M (48 + (p : Int)) ∧ S 102 (x.1 : Int) = -1 ∧ x.2.1 = [lfS M p]) ∨
    ((M (24 + (p : Int)) = 2 ∨ M (24 + (p : Int)) = 7) ∧ sgl M (exN M p) ∧ ND M S hi f lo (fpM M (exN M p) 0).toNat x) ∨
    ((M (24 + (p : Int)) = 2 ∨ M (24 + (p : Int)) = 7) ∧ ¬ sgl M (exN M p) ∧ S 99 (x.1 : Int) = 7 ∧ ∃ (t : Nat) (l : List (Nat × List Int × Nat)), t < cnE M (exN M p) ∧ S 100 (x.1 : Int) = (t : Int) ∧ lnk S (S 102 (x.1 : Int)) (l.map Prod.fst) ∧ chD M (ND M S hi f (x.1 + 1)) (fpM M (exN M p) t) l ∧ x.2.1 = dgT M (exN M p) t ++ flM l) ∨
    ((3 ≤ M (24 + (p : Int)) ∧ M (24 + (p : Int)) ≤ 6) ∧ S 99 (x.1 : Int) = M (24 + (p : Int)) ∧ ∃ l : List (Nat × List Int × Nat), S 100 (x.1 : Int) = ((l.length : Nat) : Int) ∧ l.length < 60 ∧ (M (24 + (p : Int)) = 6 → 1 ≤ l.length) ∧ lnk S (S 102 (x.1 : Int)) (l.map Prod.fst) ∧ (∀ y ∈ l, ND M S hi f (x.1 + 1) (chM M p) y ∧ ∃ (a : Int) (v : List Int), y.2.1 = a :: v ∧ a ≠ clS (M (24 + (p : Int)))) ∧ x.2.1 = opS (M (24 + (p : Int))) :: ((sqL (M (24 + (p : Int))) (l.map (fun y => y.2.1))).flatten ++ [clS (M (24 + (p : Int)))])))
theorem ND.c {M : Int → Int} {S : St} {hi f lo p : Nat} {x : Nat × List Int × Nat} (h : ND M S hi f lo p x) : (lo ≤ x.1 ∧ x.1 < hi) ∧ FXD M p x.2.1 x.2.2 ∧ 1 ≤ x.2.1.length ∧ S 101 (x.1 : Int) = (x.2.2 : Int) := by
  cases f with
  | zero => exact h.elim
  | succ f => exact h.1
/-- two nodes compared -/
def SMd (S : St) (g : Nat) (x y : Nat × List Int × Nat) : Prop := RX12_areSame g 0 (x.1 : Int) (y.1 : Int) 0 S = some (if x.2.1 = y.2.1 then 1 else 0)
/-- from here on, and round -/
def wrp (S : St) (b : Nat) : Int → List Nat → Prop
  | _, [] => True
  | q, j :: l => q = (j : Int) ∧ j < 1024 ∧ wrp S b (if 0 ≤ S 103 (j : Int) then S 103 (j : Int) else S 102 (b : Int)) l
theorem lnk.ge {S : St} {q : Int} {l : List Nat} (h : lnk S q l) : -1 ≤ q ∧ q < 1024 ∧ (l ≠ [] → 0 ≤ q) := by
  cases l with
  | nil => have h' : q = -1 := h; exact ⟨by omega, by omega, fun n => absurd rfl n⟩
  | cons j l => obtain ⟨a, b, _⟩ := h; exact ⟨by omega, by omega, fun _ => by omega⟩
theorem lnk.wrp {S : St} {b : Nat} : ∀ {l : List Nat} {q : Int} {m : List Nat}, lnk S q l → wrp S b (S 102 (b : Int)) m → wrp S b (if l = [] then S 102 (b : Int) else q) (l ++ m) := by
  intro l
  induction l with
  | nil => intro q m _ k; rw [if_pos rfl]; exact k
  | cons j l ih =>
    intro q m h k
    obtain ⟨h1, h2, h3⟩ := h
    rw [if_neg (by simp)]
    refine ⟨h1, h2, ?_⟩
    have i := ih h3 k
    have g := h3.ge
    by_cases e : l = []
    · rw [if_pos e] at i
      subst e
      have z : S 103 (j : Int) = -1 := h3
      rw [if_neg (by omega)]
      exact i
    · rw [if_neg e] at i
      rw [if_pos (g.2.2 e)]
      exact i
theorem wrp.nil {S : St} {b : Nat} {q : Int} : wrp S b q [] := trivial
/-- pairs, one after the other -/
def prE : List (Nat × List Int × Nat) → List (Nat × List Int × Nat) → Prop
  | [], _ => True
  | _ :: _, [] => False
  | x :: l, y :: m => x.2.1 = y.2.1 ∧ prE l m
theorem prE_iff : ∀ l m : List (Nat × List Int × Nat), l.length = m.length → (prE l m ↔ l.map (fun x => x.2.1) = m.map (fun x => x.2.1)) := by
  intro l
  induction l with
  | nil => intro m h; cases m with
    | nil => exact ⟨fun _ => rfl, fun _ => trivial⟩
    | cons y m => cases h
  | cons x l ih => intro m h; cases m with
    | nil => cases h
    | cons y m =>
      rw [List.map_cons, List.map_cons, List.cons.injEq]
      have h' : l.length + 1 = m.length + 1 := h
      exact and_congr_right fun _ => ih m (by omega)
theorem e_from11 {S : St} {g b : Nat} (i102 : inI (S 102 (b : Int))) (hb : b < 1024) : ∀ (l m : List (Nat × List Int × Nat)) (f : Nat) (q r : Int), l.length = m.length → l.length < f → lnk S q (l.map Prod.fst) → wrp S b r (m.map Prod.fst) → (∀ j : Nat, j < 1024 → inI (S 103 (j : Int))) → (∀ (k : Nat) x y, l[k]? = some x → m[k]? = some y → SMd S g x y) → ∃ z : Int, mX12_areSameFrom_11 (RX12_areSame g) S (b : Int) f q r = some z ∧ ((z = 1 ∧ prE l m) ∨ (z = 0 ∧ ¬ prE l m)) := by
  intro l
  induction l with
  | nil =>
    intro m f q r hl hf hq hr h3 hs
    obtain ⟨f, rfl⟩ : ∃ f', f = f' + 1 := ⟨f - 1, by have : 0 < f := hf; omega⟩
    have q1 : q = -1 := hq
    refine ⟨1, ?_, Or.inl ⟨rfl, trivial⟩⟩
    rw [mX12_areSameFrom_11, q1, gd_t (by decide), if_pos (by decide)]
  | cons x l ih =>
    intro m f q r hl hf hq hr h3 hs
    cases m with
    | nil => cases hl
    | cons y m =>
      have hl' : l.length + 1 = m.length + 1 := hl
      have hf' : l.length + 1 < f := hf
      obtain ⟨f, rfl⟩ : ∃ f', f = f' + 1 := ⟨f - 1, by omega⟩
      obtain ⟨a1, a2, a3⟩ := hq
      obtain ⟨b1, b2, b3⟩ := hr
      have s0 := hs 0 x y rfl rfl
      unfold SMd at s0
      rw [mX12_areSameFrom_11, a1, gd_t (by omega), if_neg (by omega), b1, bd1_e s0]
      by_cases c : x.2.1 = y.2.1
      · rw [if_pos c, gd_t (by decide), if_neg (by decide), gd_t (by omega)]
        have hz : (gd (inI (S 103 (y.1 : Int))) <| if 0 ≤ (S 103 (y.1 : Int)) then (some ((S 103 (y.1 : Int)))) else (gd (0 ≤ (b : Int) ∧ (b : Int) < 1024) <| some ((S 102 (b : Int))))) = some (if 0 ≤ S 103 (y.1 : Int) then S 103 (y.1 : Int) else S 102 (b : Int)) := by
          rw [gd_t (h3 y.1 b2)]
          by_cases z : 0 ≤ S 103 (y.1 : Int)
          · rw [if_pos z, if_pos z]
          · rw [if_neg z, if_neg z, gd_t (by omega)]
        rw [bd1_e hz, gd_t (by omega), nx_e]
        obtain ⟨z, z1, z2⟩ := ih m f _ _ (by omega) (by omega) a3 b3 h3 (fun k x y h1 h2 => hs (k + 1) x y h1 h2)
        refine ⟨z, z1, ?_⟩
        rcases z2 with ⟨e, p⟩ | ⟨e, p⟩
        · exact Or.inl ⟨e, c, p⟩
        · exact Or.inr ⟨e, fun w => p w.2⟩
      · rw [if_neg c, gd_t (by decide), if_pos rfl]
        exact ⟨0, rfl, Or.inr ⟨rfl, fun w => c w.1⟩⟩
theorem e_from {S : St} {g a b : Nat} (ha : a < 1024) (hb : b < 1024) (i102 : inI (S 102 (b : Int))) {l m : List (Nat × List Int × Nat)} {r : Int} (hl : l.length = m.length) (l60 : l.length < 60) (hq : lnk S (S 102 (a : Int)) (l.map Prod.fst)) (hr : wrp S b r (m.map Prod.fst)) (h3 : ∀ j : Nat, j < 1024 → inI (S 103 (j : Int))) (hs : ∀ (k : Nat) x y, l[k]? = some x → m[k]? = some y → SMd S g x y) : RX12_areSame (g + 1) 2 (a : Int) (b : Int) r S = some (if l.map (fun x => x.2.1) = m.map (fun x => x.2.1) then 1 else 0) := by
  obtain ⟨z, z1, z2⟩ := e_from11 i102 hb l m FU _ r hl (by unfold FU; omega) hq hr h3 hs
  show (if (2 : Nat) = 0 then _ else (if (2 : Nat) = 1 then _ else (if (2 : Nat) = 2 then (bX12_areSameFrom (RX12_areSame g) S (a : Int) (b : Int) r) else none))) = _
  rw [if_neg (by decide), if_neg (by decide), if_pos rfl]
  unfold bX12_areSameFrom
  rw [gd_t (by omega), nx_e, bd1_e z1]
  rw [prE_iff l m hl] at z2
  rcases z2 with ⟨e, p⟩ | ⟨e, p⟩
  · rw [if_neg (by omega), if_pos p]
  · rw [if_pos e, if_neg p]
