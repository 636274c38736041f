/-! Growing worlds: cells that come later are told by the state itself (tag at -1: 1 a RingList, 2 its codes, 3 bytes (how many at -2), else five ints); how many cells there are, how many slots came: at -1, -2 of cell 0 -/
abbrev nn (S : St) : Nat := (S 0 (-1)).toNat
abbrev zz (S : St) : Nat := (S 0 (-2)).toNat
abbrev gle (S T : St) : Prop := nn S ≤ nn T ∧ zz S ≤ zz T
theorem gle_rfl {S : St} : gle S S := ⟨Nat.le_refl _, Nat.le_refl _⟩
def dyE (b : Nat) (cy : Nat → ClassId) (g : Int → Int) : va_E :=
  if g (-1) = 1 then .inr (6, [.int (iI (g 0)), .int (iI (g 1)), .ref (b + ph (g 2).toNat)])
  else if g (-1) = 2 then cI cy 1600 (fun j => g j)
  else if g (-1) = 3 then cB cy (g (-2)).toNat (fun j => g j)
  else cI cy 5 (fun j => g j)
def XD (b : Nat) (cy : Nat → ClassId) (S : St) : Nat → va_E := fun i => dyE b cy (S (nu i))
def eG (b : Nat) (cy : Nat → ClassId) (S : St) : Nat → va_E := enc b cy (XD b cy S) S
/-- behind a call that knows nothing of later cells -/
def msk (T S : St) : St := fun i => if i < 105 then (if i = 0 then (fun k => if k < 0 then S 0 k else T 0 k) else T i) else S i
def gX (D : va_G) (cy : Nat → ClassId) (b : Nat) (s : State) (H : Heap) (locs : List Loc) (S : St) (ce sl : Nat) (S0 o : St) : Prop :=
  gW D cy b (nn S - 3) s H locs (eG b cy S) ∧ s.heap.size + ce = b + (nn S - 3) ∧ zz S0 + sl = zz S ∧ 102 ≤ nn S - 3 ∧ gle S o ∧ s.heap.size = b + (nn S0 - 3)
theorem encC_X {b : Nat} {cy : Nat → ClassId} {X Y : Nat → va_E} {j : Nat} {g : Int → Int} (h : 102 ≤ j → X j = Y j) : encC b cy X j g = encC b cy Y j g := by
  unfold encC
  by_cases hj : j < 102
  · rw [if_pos hj, if_pos hj]
  · rw [if_neg hj, if_neg hj, h (by omega)]
theorem encC_0 {b : Nat} {cy : Nat → ClassId} {X : Nat → va_E} {g g' : Int → Int} (h : ∀ k : Int, 0 ≤ k → g k = g' k) : encC b cy X 0 g = encC b cy X 0 g' := by
  rw [ec_0, ec_0]
  unfold fl0
  rw [h 1 (by decide), h 4 (by decide), h 5 (by decide), h 15 (by decide), h 16 (by decide), h 17 (by decide), h 18 (by decide)]
theorem encC_dy {b : Nat} {cy : Nat → ClassId} {X : Nat → va_E} {j : Nat} {g : Int → Int} (h : 102 ≤ j) : encC b cy X j g = X j := by
  unfold encC
  rw [if_neg (by omega)]
theorem eG_dy {b : Nat} {cy : Nat → ClassId} {S : St} {j : Nat} (h : 102 ≤ j) : eG b cy S j = dyE b cy (S (nu j)) := encC_dy h
theorem up_at {S : St} {i j : Nat} {k v q : Int} (h : j ≠ i ∨ q ≠ k) : up S i k v j q = S j q := by
  unfold up upI
  by_cases hj : j = i
  · subst hj
    rw [if_pos rfl, if_neg (by rcases h with h | h; exact absurd rfl h; exact h)]
  · rw [if_neg hj]
theorem nn_up {S : St} {i : Nat} {k v : Int} (h : i ≠ 0 ∨ 0 ≤ k) : nn (up S i k v) = nn S := by
  show (up S i k v 0 (-1)).toNat = _
  rw [up_at (by rcases h with h | h; exact Or.inl (Ne.symm h); exact Or.inr (by omega))]
theorem zz_up {S : St} {i : Nat} {k v : Int} (h : i ≠ 0 ∨ 0 ≤ k) : zz (up S i k v) = zz S := by
  show (up S i k v 0 (-2)).toNat = _
  rw [up_at (by rcases h with h | h; exact Or.inl (Ne.symm h); exact Or.inr (by omega))]
theorem eG_up {b : Nat} {cy : Nat → ClassId} {S : St} {i : Nat} {k v : Int} (hi : i < 105) : enc b cy (XD b cy S) (up S i k v) = eG b cy (up S i k v) := by
  funext j
  refine encC_X fun hj => ?_
  unfold XD
  rw [up_n (by rw [nu_hi hj]; omega)]
theorem eG_upD {b : Nat} {cy : Nat → ClassId} {S : St} {i w : Nat} {k v : Int} {x : va_E} (hw : nu i = w) (hi : 102 ≤ i) (hx : dyE b cy (upI (S w) k v) = x) : upE (eG b cy S) i x = eG b cy (up S w k v) := by
  subst hw
  funext j
  by_cases h : j = i
  · subst h
    rw [upE_s, eG_dy hi, up_s, hx]
  · have h2 : nu j ≠ nu i := fun e => h (nu_inj e)
    rw [upE_n h]
    show encC b cy (XD b cy S) j (S (nu j)) = encC b cy (XD b cy (up S (nu i) k v)) j (up S (nu i) k v (nu j))
    rw [up_n h2]
    refine encC_X fun hj => ?_
    unfold XD
    rw [up_n h2]
theorem eG_msk {b : Nat} {cy : Nat → ClassId} {S T : St} : enc b cy (XD b cy S) T = eG b cy (msk T S) := by
  funext j
  show encC b cy (XD b cy S) j (T (nu j)) = encC b cy (XD b cy (msk T S)) j (msk T S (nu j))
  by_cases h : j < 102
  · rw [encC_X (Y := XD b cy (msk T S)) (fun hj => by omega)]
    by_cases h0 : j = 0
    · subst h0
      refine encC_0 fun k hk => ?_
      show T 0 k = msk T S 0 k
      unfold msk
      rw [if_pos (by decide), if_pos rfl, if_neg (by omega)]
    · unfold msk
      rw [if_pos (nu_lo h), if_neg (fun e => h0 (nu_0 e))]
  · rw [encC_dy (by omega), encC_dy (by omega)]
    unfold XD msk
    rw [if_neg (by rw [nu_hi (by omega)]; omega)]
theorem nn_msk {S T : St} : nn (msk T S) = nn S := by
  show (msk T S 0 (-1)).toNat = _
  unfold msk
  rw [if_pos (by decide), if_pos rfl, if_pos (by decide)]
theorem zz_msk {S T : St} : zz (msk T S) = zz S := by
  show (msk T S 0 (-2)).toNat = _
  unfold msk
  rw [if_pos (by decide), if_pos rfl, if_pos (by decide)]
/-- a cell that came later: its number, its kind -/
abbrev dT (S : St) (e t : Int) : Prop := 105 ≤ e ∧ e < S 0 (-1) ∧ S e.toNat (-1) = t
abbrev dB (S : St) (e : Int) : Prop := e = 64 ∨ dT S e 3
def dlen (S : St) (e : Int) : Int := if e = 64 then 256 else S e.toNat (-2)
theorem dT_lt {S : St} {e t : Int} (h : dT S e t) : ph e.toNat < nn S - 3 := by
  have h1 := h.1
  have h2 := h.2.1
  rw [ph_hi (by omega)]
  show e.toNat - 3 < (S 0 (-1)).toNat - 3
  omega
theorem dT_ge {S : St} {e t : Int} (h : dT S e t) : 102 ≤ ph e.toNat := by
  have := h.1
  rw [ph_hi (by omega)]
  omega
theorem dT_nu {S : St} {e t : Int} (h : dT S e t) : nu (ph e.toNat) = e.toNat := nu_ph (by have := h.1; omega)
theorem eG_O {b : Nat} {cy : Nat → ClassId} {S : St} {e : Int} (h : dT S e 1) : eG b cy S (ph e.toNat) = .inr (6, [.int (iI (S e.toNat 0)), .int (iI (S e.toNat 1)), .ref (b + ph (S e.toNat 2).toNat)]) := by
  rw [eG_dy (dT_ge h), dT_nu h]; unfold dyE; rw [if_pos h.2.2]
theorem eG_I {b : Nat} {cy : Nat → ClassId} {S : St} {e : Int} (h : dT S e 2) : eG b cy S (ph e.toNat) = cI cy 1600 (fun j => S e.toNat j) := by
  rw [eG_dy (dT_ge h), dT_nu h]; unfold dyE; rw [if_neg (by rw [h.2.2]; decide), if_pos h.2.2]
theorem eG_5 {b : Nat} {cy : Nat → ClassId} {S : St} {e : Int} (h : dT S e 4) : eG b cy S (ph e.toNat) = cI cy 5 (fun j => S e.toNat j) := by
  rw [eG_dy (dT_ge h), dT_nu h]; unfold dyE; rw [if_neg (by rw [h.2.2]; decide), if_neg (by rw [h.2.2]; decide), if_neg (by rw [h.2.2]; decide)]
theorem eG_B {b : Nat} {cy : Nat → ClassId} {S : St} {e : Int} (h : dB S e) : eG b cy S (ph e.toNat) = cB cy (dlen S e).toNat (fun j => S e.toNat j) := by
  rcases h with rfl | h
  · exact ec_64 (b := b) (X := XD b cy S) _
  · rw [eG_dy (dT_ge h), dT_nu h]; unfold dyE dlen; rw [if_neg (by rw [h.2.2]; decide), if_neg (by rw [h.2.2]; decide), if_pos h.2.2, if_neg (by have := h.1; omega)]
theorem dB_lt {S : St} {e : Int} (h : dB S e) (hn : 102 ≤ nn S - 3) : ph e.toNat < nn S - 3 := by
  rcases h with rfl | h
  · exact Nat.lt_of_lt_of_le (by decide) hn
  · exact dT_lt h
section GX
variable {D : va_G} {cy : Nat → ClassId} {b : Nat} {s : State} {H H1 : Heap} {locs locs1 : List Loc} {S T S0 o : St} {ce sl : Nat}
theorem gX.start (h : gW D cy b (nn S0 - 3) s H locs (eG b cy S0)) (hz : s.heap.size = b + (nn S0 - 3)) (hn : 102 ≤ nn S0 - 3) (hc : gle S0 o) : gX D cy b s H locs S0 0 0 S0 o := ⟨h, hz, rfl, hn, hc, hz⟩
theorem gX.to (h : gX D cy b s H locs S ce sl S0 o) (e1 : nn T = nn S) (e2 : zz T = zz S) (hW : gW D cy b (nn S - 3) s H1 locs1 (eG b cy T)) : gX D cy b s H1 locs1 T ce sl S0 o :=
  ⟨by rw [e1]; exact hW, by rw [e1]; exact h.2.1, by rw [e2]; exact h.2.2.1, by rw [e1]; exact h.2.2.2.1, ⟨by rw [e1]; exact h.2.2.2.2.1.1, by rw [e2]; exact h.2.2.2.2.1.2⟩, h.2.2.2.2.2⟩
theorem gX.put {i : Nat} {k v : Int} (h : gX D cy b s H locs S ce sl S0 o) (e : T = up S i k v) (hW : gW D cy b (nn S - 3) s H1 locs1 (enc b cy (XD b cy S) T)) (hi : i < 105) (h0 : i ≠ 0 ∨ 0 ≤ k) : gX D cy b s H1 locs1 T ce sl S0 o := by
  subst e
  exact h.to (nn_up h0) (zz_up h0) (by rw [← eG_up hi]; exact hW)
theorem gX.putD {i w : Nat} {k v : Int} {x : va_E} (h : gX D cy b s H locs S ce sl S0 o) (hw : nu i = w) (hi : 102 ≤ i) (hx : dyE b cy (upI (S w) k v) = x) (hW : gW D cy b (nn S - 3) s H1 locs1 (upE (eG b cy S) i x)) : gX D cy b s H1 locs1 (up S w k v) ce sl S0 o :=
  have h0 : w ≠ 0 := by rw [← hw, nu_hi hi]; omega
  h.to (nn_up (Or.inl h0)) (zz_up (Or.inl h0)) (by rw [← eG_upD hw hi hx]; exact hW)
theorem gX.back (h : gX D cy b s H locs S ce sl S0 o) (hW : gW D cy b (nn S - 3) s H1 locs1 (enc b cy (XD b cy S) T)) : gX D cy b s H1 locs1 (msk T S) ce sl S0 o :=
  h.to nn_msk zz_msk (by rw [← eG_msk]; exact hW)
theorem gX.same (h : gX D cy b s H locs S ce sl S0 o) (hW : gW D cy b (nn S - 3) s H1 locs1 (enc b cy (XD b cy S) S)) : gX D cy b s H1 locs1 S ce sl S0 o := h.to rfl rfl hW
theorem gX.grow (h : gX D cy b s H locs S ce sl S0 o) (h1 : gle S T) (h2 : gle T o) (hW : gW D cy b (nn T - 3) s H1 locs1 (eG b cy T)) : gX D cy b s H1 locs1 T (ce + (nn T - nn S)) (sl + (zz T - zz S)) S0 o := by
  obtain ⟨-, a2, a3, a4, -, a6⟩ := h
  obtain ⟨b1, b2⟩ := h1
  exact ⟨hW, by omega, by omega, by omega, h2, a6⟩
theorem gX.rc (h : gX D cy b s H locs S ce sl S0 o) : ce + 0 ≤ nn o - nn S0 := by
  obtain ⟨-, a2, -, -, a5, a6⟩ := h
  have := a5.1
  omega
theorem gX.rs (h : gX D cy b s H locs S ce sl S0 o) : sl + 0 ≤ zz o - zz S0 := by
  obtain ⟨-, -, a3, -, a5, -⟩ := h
  have := a5.2
  omega
theorem gX.gc (h : gX D cy b s H locs S ce sl S0 o) (h1 : gle S T) (h2 : gle T o) : ce + (nn T - nn S) ≤ nn o - nn S0 := by
  obtain ⟨-, a2, -, a4, -, a6⟩ := h
  have := h1.1
  have := h2.1
  omega
theorem gX.gs (h : gX D cy b s H locs S ce sl S0 o) (h1 : gle S T) (h2 : gle T o) : sl + (zz T - zz S) ≤ zz o - zz S0 := by
  obtain ⟨-, -, a3, -, -, -⟩ := h
  have := h1.2
  have := h2.2
  omega
end GX
def entG {β : Type} (S : St) (pj : β → St) (x : Option β) : Option β := match x with | some o => if gle S (pj o) then some o else none | none => none
theorem entG_some {β : Type} {S : St} {pj : β → St} {x : Option β} {o : β} (h : entG S pj x = some o) : gle S (pj o) ∧ x = some o := by
  cases x with
  | none => cases h
  | some q =>
    unfold entG at h
    by_cases hc : gle S (pj q)
    · rw [show (match some q with | some o => if gle S (pj o) then some o else none | none => none) = (if gle S (pj q) then some q else none) from rfl, if_pos hc] at h
      cases h; exact ⟨hc, rfl⟩
    · rw [show (match some q with | some o => if gle S (pj o) then some o else none | none => none) = (if gle S (pj q) then some q else none) from rfl, if_neg hc] at h
      cases h
def bdG1 {β : Type} (S : St) (pj : β → St) (x : Option (St)) (f : St → Option β) : Option β := match x with | some a1 => if gle S a1 then entG a1 pj (f a1) else none | none => none
theorem bdG1_some {β : Type} {S : St} {pj : β → St} {x : Option (St)} {f : St → Option β} {o : β} (h : bdG1 S pj x f = some o) : ∃ a1, x = some a1 ∧ gle S a1 ∧ gle a1 (pj o) ∧ f a1 = some o := by
  cases x with
  | none => cases h
  | some q =>
    have h : bdG1 S pj (some q) f = some o := h
    have h : (if gle S q then entG q pj (f q) else none) = some o := h
    by_cases hc : gle S q
    · rw [if_pos hc] at h
      obtain ⟨h1, h2⟩ := entG_some h
      exact ⟨q, rfl, hc, h1, h2⟩
    · rw [if_neg hc] at h; cases h
def bdG2 {α1 β : Type} (S : St) (pj : β → St) (x : Option (α1 × St)) (f : α1 → St → Option β) : Option β := match x with | some (a1, a2) => if gle S a2 then entG a2 pj (f a1 a2) else none | none => none
theorem bdG2_some {α1 β : Type} {S : St} {pj : β → St} {x : Option (α1 × St)} {f : α1 → St → Option β} {o : β} (h : bdG2 S pj x f = some o) : ∃ a1 a2, x = some (a1, a2) ∧ gle S a2 ∧ gle a2 (pj o) ∧ f a1 a2 = some o := by
  cases x with
  | none => cases h
  | some q =>
    obtain ⟨a1, a2⟩ := q
    have h : (if gle S a2 then entG a2 pj (f a1 a2) else none) = some o := h
    by_cases hc : gle S a2
    · rw [if_pos hc] at h
      obtain ⟨h1, h2⟩ := entG_some h
      exact ⟨a1, a2, rfl, hc, h1, h2⟩
    · rw [if_neg hc] at h; cases h
def bdG3 {α1 α2 β : Type} (S : St) (pj : β → St) (x : Option (α1 × α2 × St)) (f : α1 → α2 → St → Option β) : Option β := match x with | some (a1, a2, a3) => if gle S a3 then entG a3 pj (f a1 a2 a3) else none | none => none
theorem bdG3_some {α1 α2 β : Type} {S : St} {pj : β → St} {x : Option (α1 × α2 × St)} {f : α1 → α2 → St → Option β} {o : β} (h : bdG3 S pj x f = some o) : ∃ a1 a2 a3, x = some (a1, a2, a3) ∧ gle S a3 ∧ gle a3 (pj o) ∧ f a1 a2 a3 = some o := by
  cases x with
  | none => cases h
  | some q =>
    obtain ⟨a1, a2, a3⟩ := q
    have h : (if gle S a3 then entG a3 pj (f a1 a2 a3) else none) = some o := h
    by_cases hc : gle S a3
    · rw [if_pos hc] at h
      obtain ⟨h1, h2⟩ := entG_some h
      exact ⟨a1, a2, a3, rfl, hc, h1, h2⟩
    · rw [if_neg hc] at h; cases h
def bdG4 {α1 α2 α3 β : Type} (S : St) (pj : β → St) (x : Option (α1 × α2 × α3 × St)) (f : α1 → α2 → α3 → St → Option β) : Option β := match x with | some (a1, a2, a3, a4) => if gle S a4 then entG a4 pj (f a1 a2 a3 a4) else none | none => none
theorem bdG4_some {α1 α2 α3 β : Type} {S : St} {pj : β → St} {x : Option (α1 × α2 × α3 × St)} {f : α1 → α2 → α3 → St → Option β} {o : β} (h : bdG4 S pj x f = some o) : ∃ a1 a2 a3 a4, x = some (a1, a2, a3, a4) ∧ gle S a4 ∧ gle a4 (pj o) ∧ f a1 a2 a3 a4 = some o := by
  cases x with
  | none => cases h
  | some q =>
    obtain ⟨a1, a2, a3, a4⟩ := q
    have h : (if gle S a4 then entG a4 pj (f a1 a2 a3 a4) else none) = some o := h
    by_cases hc : gle S a4
    · rw [if_pos hc] at h
      obtain ⟨h1, h2⟩ := entG_some h
      exact ⟨a1, a2, a3, a4, rfl, hc, h1, h2⟩
    · rw [if_neg hc] at h; cases h
def bdG5 {α1 α2 α3 α4 β : Type} (S : St) (pj : β → St) (x : Option (α1 × α2 × α3 × α4 × St)) (f : α1 → α2 → α3 → α4 → St → Option β) : Option β := match x with | some (a1, a2, a3, a4, a5) => if gle S a5 then entG a5 pj (f a1 a2 a3 a4 a5) else none | none => none
theorem bdG5_some {α1 α2 α3 α4 β : Type} {S : St} {pj : β → St} {x : Option (α1 × α2 × α3 × α4 × St)} {f : α1 → α2 → α3 → α4 → St → Option β} {o : β} (h : bdG5 S pj x f = some o) : ∃ a1 a2 a3 a4 a5, x = some (a1, a2, a3, a4, a5) ∧ gle S a5 ∧ gle a5 (pj o) ∧ f a1 a2 a3 a4 a5 = some o := by
  cases x with
  | none => cases h
  | some q =>
    obtain ⟨a1, a2, a3, a4, a5⟩ := q
    have h : (if gle S a5 then entG a5 pj (f a1 a2 a3 a4 a5) else none) = some o := h
    by_cases hc : gle S a5
    · rw [if_pos hc] at h
      obtain ⟨h1, h2⟩ := entG_some h
      exact ⟨a1, a2, a3, a4, a5, rfl, hc, h1, h2⟩
    · rw [if_neg hc] at h; cases h
def bdG6 {α1 α2 α3 α4 α5 β : Type} (S : St) (pj : β → St) (x : Option (α1 × α2 × α3 × α4 × α5 × St)) (f : α1 → α2 → α3 → α4 → α5 → St → Option β) : Option β := match x with | some (a1, a2, a3, a4, a5, a6) => if gle S a6 then entG a6 pj (f a1 a2 a3 a4 a5 a6) else none | none => none
theorem bdG6_some {α1 α2 α3 α4 α5 β : Type} {S : St} {pj : β → St} {x : Option (α1 × α2 × α3 × α4 × α5 × St)} {f : α1 → α2 → α3 → α4 → α5 → St → Option β} {o : β} (h : bdG6 S pj x f = some o) : ∃ a1 a2 a3 a4 a5 a6, x = some (a1, a2, a3, a4, a5, a6) ∧ gle S a6 ∧ gle a6 (pj o) ∧ f a1 a2 a3 a4 a5 a6 = some o := by
  cases x with
  | none => cases h
  | some q =>
    obtain ⟨a1, a2, a3, a4, a5, a6⟩ := q
    have h : (if gle S a6 then entG a6 pj (f a1 a2 a3 a4 a5 a6) else none) = some o := h
    by_cases hc : gle S a6
    · rw [if_pos hc] at h
      obtain ⟨h1, h2⟩ := entG_some h
      exact ⟨a1, a2, a3, a4, a5, a6, rfl, hc, h1, h2⟩
    · rw [if_neg hc] at h; cases h
def bdG7 {α1 α2 α3 α4 α5 α6 β : Type} (S : St) (pj : β → St) (x : Option (α1 × α2 × α3 × α4 × α5 × α6 × St)) (f : α1 → α2 → α3 → α4 → α5 → α6 → St → Option β) : Option β := match x with | some (a1, a2, a3, a4, a5, a6, a7) => if gle S a7 then entG a7 pj (f a1 a2 a3 a4 a5 a6 a7) else none | none => none
theorem bdG7_some {α1 α2 α3 α4 α5 α6 β : Type} {S : St} {pj : β → St} {x : Option (α1 × α2 × α3 × α4 × α5 × α6 × St)} {f : α1 → α2 → α3 → α4 → α5 → α6 → St → Option β} {o : β} (h : bdG7 S pj x f = some o) : ∃ a1 a2 a3 a4 a5 a6 a7, x = some (a1, a2, a3, a4, a5, a6, a7) ∧ gle S a7 ∧ gle a7 (pj o) ∧ f a1 a2 a3 a4 a5 a6 a7 = some o := by
  cases x with
  | none => cases h
  | some q =>
    obtain ⟨a1, a2, a3, a4, a5, a6, a7⟩ := q
    have h : (if gle S a7 then entG a7 pj (f a1 a2 a3 a4 a5 a6 a7) else none) = some o := h
    by_cases hc : gle S a7
    · rw [if_pos hc] at h
      obtain ⟨h1, h2⟩ := entG_some h
      exact ⟨a1, a2, a3, a4, a5, a6, a7, rfl, hc, h1, h2⟩
    · rw [if_neg hc] at h; cases h
def bdG8 {α1 α2 α3 α4 α5 α6 α7 β : Type} (S : St) (pj : β → St) (x : Option (α1 × α2 × α3 × α4 × α5 × α6 × α7 × St)) (f : α1 → α2 → α3 → α4 → α5 → α6 → α7 → St → Option β) : Option β := match x with | some (a1, a2, a3, a4, a5, a6, a7, a8) => if gle S a8 then entG a8 pj (f a1 a2 a3 a4 a5 a6 a7 a8) else none | none => none
theorem bdG8_some {α1 α2 α3 α4 α5 α6 α7 β : Type} {S : St} {pj : β → St} {x : Option (α1 × α2 × α3 × α4 × α5 × α6 × α7 × St)} {f : α1 → α2 → α3 → α4 → α5 → α6 → α7 → St → Option β} {o : β} (h : bdG8 S pj x f = some o) : ∃ a1 a2 a3 a4 a5 a6 a7 a8, x = some (a1, a2, a3, a4, a5, a6, a7, a8) ∧ gle S a8 ∧ gle a8 (pj o) ∧ f a1 a2 a3 a4 a5 a6 a7 a8 = some o := by
  cases x with
  | none => cases h
  | some q =>
    obtain ⟨a1, a2, a3, a4, a5, a6, a7, a8⟩ := q
    have h : (if gle S a8 then entG a8 pj (f a1 a2 a3 a4 a5 a6 a7 a8) else none) = some o := h
    by_cases hc : gle S a8
    · rw [if_pos hc] at h
      obtain ⟨h1, h2⟩ := entG_some h
      exact ⟨a1, a2, a3, a4, a5, a6, a7, a8, rfl, hc, h1, h2⟩
    · rw [if_neg hc] at h; cases h
def bdG9 {α1 α2 α3 α4 α5 α6 α7 α8 β : Type} (S : St) (pj : β → St) (x : Option (α1 × α2 × α3 × α4 × α5 × α6 × α7 × α8 × St)) (f : α1 → α2 → α3 → α4 → α5 → α6 → α7 → α8 → St → Option β) : Option β := match x with | some (a1, a2, a3, a4, a5, a6, a7, a8, a9) => if gle S a9 then entG a9 pj (f a1 a2 a3 a4 a5 a6 a7 a8 a9) else none | none => none
theorem bdG9_some {α1 α2 α3 α4 α5 α6 α7 α8 β : Type} {S : St} {pj : β → St} {x : Option (α1 × α2 × α3 × α4 × α5 × α6 × α7 × α8 × St)} {f : α1 → α2 → α3 → α4 → α5 → α6 → α7 → α8 → St → Option β} {o : β} (h : bdG9 S pj x f = some o) : ∃ a1 a2 a3 a4 a5 a6 a7 a8 a9, x = some (a1, a2, a3, a4, a5, a6, a7, a8, a9) ∧ gle S a9 ∧ gle a9 (pj o) ∧ f a1 a2 a3 a4 a5 a6 a7 a8 a9 = some o := by
  cases x with
  | none => cases h
  | some q =>
    obtain ⟨a1, a2, a3, a4, a5, a6, a7, a8, a9⟩ := q
    have h : (if gle S a9 then entG a9 pj (f a1 a2 a3 a4 a5 a6 a7 a8 a9) else none) = some o := h
    by_cases hc : gle S a9
    · rw [if_pos hc] at h
      obtain ⟨h1, h2⟩ := entG_some h
      exact ⟨a1, a2, a3, a4, a5, a6, a7, a8, a9, rfl, hc, h1, h2⟩
    · rw [if_neg hc] at h; cases h
def bdG10 {α1 α2 α3 α4 α5 α6 α7 α8 α9 β : Type} (S : St) (pj : β → St) (x : Option (α1 × α2 × α3 × α4 × α5 × α6 × α7 × α8 × α9 × St)) (f : α1 → α2 → α3 → α4 → α5 → α6 → α7 → α8 → α9 → St → Option β) : Option β := match x with | some (a1, a2, a3, a4, a5, a6, a7, a8, a9, a10) => if gle S a10 then entG a10 pj (f a1 a2 a3 a4 a5 a6 a7 a8 a9 a10) else none | none => none
theorem bdG10_some {α1 α2 α3 α4 α5 α6 α7 α8 α9 β : Type} {S : St} {pj : β → St} {x : Option (α1 × α2 × α3 × α4 × α5 × α6 × α7 × α8 × α9 × St)} {f : α1 → α2 → α3 → α4 → α5 → α6 → α7 → α8 → α9 → St → Option β} {o : β} (h : bdG10 S pj x f = some o) : ∃ a1 a2 a3 a4 a5 a6 a7 a8 a9 a10, x = some (a1, a2, a3, a4, a5, a6, a7, a8, a9, a10) ∧ gle S a10 ∧ gle a10 (pj o) ∧ f a1 a2 a3 a4 a5 a6 a7 a8 a9 a10 = some o := by
  cases x with
  | none => cases h
  | some q =>
    obtain ⟨a1, a2, a3, a4, a5, a6, a7, a8, a9, a10⟩ := q
    have h : (if gle S a10 then entG a10 pj (f a1 a2 a3 a4 a5 a6 a7 a8 a9 a10) else none) = some o := h
    by_cases hc : gle S a10
    · rw [if_pos hc] at h
      obtain ⟨h1, h2⟩ := entG_some h
      exact ⟨a1, a2, a3, a4, a5, a6, a7, a8, a9, a10, rfl, hc, h1, h2⟩
    · rw [if_neg hc] at h; cases h
def bdG11 {α1 α2 α3 α4 α5 α6 α7 α8 α9 α10 β : Type} (S : St) (pj : β → St) (x : Option (α1 × α2 × α3 × α4 × α5 × α6 × α7 × α8 × α9 × α10 × St)) (f : α1 → α2 → α3 → α4 → α5 → α6 → α7 → α8 → α9 → α10 → St → Option β) : Option β := match x with | some (a1, a2, a3, a4, a5, a6, a7, a8, a9, a10, a11) => if gle S a11 then entG a11 pj (f a1 a2 a3 a4 a5 a6 a7 a8 a9 a10 a11) else none | none => none
theorem bdG11_some {α1 α2 α3 α4 α5 α6 α7 α8 α9 α10 β : Type} {S : St} {pj : β → St} {x : Option (α1 × α2 × α3 × α4 × α5 × α6 × α7 × α8 × α9 × α10 × St)} {f : α1 → α2 → α3 → α4 → α5 → α6 → α7 → α8 → α9 → α10 → St → Option β} {o : β} (h : bdG11 S pj x f = some o) : ∃ a1 a2 a3 a4 a5 a6 a7 a8 a9 a10 a11, x = some (a1, a2, a3, a4, a5, a6, a7, a8, a9, a10, a11) ∧ gle S a11 ∧ gle a11 (pj o) ∧ f a1 a2 a3 a4 a5 a6 a7 a8 a9 a10 a11 = some o := by
  cases x with
  | none => cases h
  | some q =>
    obtain ⟨a1, a2, a3, a4, a5, a6, a7, a8, a9, a10, a11⟩ := q
    have h : (if gle S a11 then entG a11 pj (f a1 a2 a3 a4 a5 a6 a7 a8 a9 a10 a11) else none) = some o := h
    by_cases hc : gle S a11
    · rw [if_pos hc] at h
      obtain ⟨h1, h2⟩ := entG_some h
      exact ⟨a1, a2, a3, a4, a5, a6, a7, a8, a9, a10, a11, rfl, hc, h1, h2⟩
    · rw [if_neg hc] at h; cases h
def bdG12 {α1 α2 α3 α4 α5 α6 α7 α8 α9 α10 α11 β : Type} (S : St) (pj : β → St) (x : Option (α1 × α2 × α3 × α4 × α5 × α6 × α7 × α8 × α9 × α10 × α11 × St)) (f : α1 → α2 → α3 → α4 → α5 → α6 → α7 → α8 → α9 → α10 → α11 → St → Option β) : Option β := match x with | some (a1, a2, a3, a4, a5, a6, a7, a8, a9, a10, a11, a12) => if gle S a12 then entG a12 pj (f a1 a2 a3 a4 a5 a6 a7 a8 a9 a10 a11 a12) else none | none => none
theorem bdG12_some {α1 α2 α3 α4 α5 α6 α7 α8 α9 α10 α11 β : Type} {S : St} {pj : β → St} {x : Option (α1 × α2 × α3 × α4 × α5 × α6 × α7 × α8 × α9 × α10 × α11 × St)} {f : α1 → α2 → α3 → α4 → α5 → α6 → α7 → α8 → α9 → α10 → α11 → St → Option β} {o : β} (h : bdG12 S pj x f = some o) : ∃ a1 a2 a3 a4 a5 a6 a7 a8 a9 a10 a11 a12, x = some (a1, a2, a3, a4, a5, a6, a7, a8, a9, a10, a11, a12) ∧ gle S a12 ∧ gle a12 (pj o) ∧ f a1 a2 a3 a4 a5 a6 a7 a8 a9 a10 a11 a12 = some o := by
  cases x with
  | none => cases h
  | some q =>
    obtain ⟨a1, a2, a3, a4, a5, a6, a7, a8, a9, a10, a11, a12⟩ := q
    have h : (if gle S a12 then entG a12 pj (f a1 a2 a3 a4 a5 a6 a7 a8 a9 a10 a11 a12) else none) = some o := h
    by_cases hc : gle S a12
    · rw [if_pos hc] at h
      obtain ⟨h1, h2⟩ := entG_some h
      exact ⟨a1, a2, a3, a4, a5, a6, a7, a8, a9, a10, a11, a12, rfl, hc, h1, h2⟩
    · rw [if_neg hc] at h; cases h
section GY
variable {p : Program} {l : Launch} {e : Env} {R : Room} {s : State} {m : MethodId} {args : Array Value} {below : List Frame} {meth : Method} {c : Code} {H : Heap} {locs : List Loc} {Q : State → Prop} {cc : ByteArray} {pc nL : Nat} {ls : Array Slot} {rest : List Value} {own : String} {D : va_G} {cy : Nat → ClassId} {b n : Nat} {T S0 o : St} {ce sl index : Nat}
theorem n_put (S : CallFix p m c cc nL s args gT own) (hG : gX D cy b s H locs T ce sl S0 o) (i w k : Nat) (hw : nu i = w) (kz z : Int) {ci N : Nat} {C : String} {T0 : u_T} {ty : Nat → FieldType} {fl : (Int → Int) → List Value} {v : Value} (he : ∀ g : Int → Int, encC b cy (XD b cy T) i g = .inr (ci, fl g)) (P : cP ci C T0 N ty) (hlink : Cond.fieldLink own index (T0 k).1 (T0 k).2.1 (T0 k).2.2.1 ∈ gT) (hdg : decode cc pc = .ok (.putfield index, 3)) (hfs : ∀ g : Int → Int, (fl g).set k v = fl (upI g kz z)) (hi : i < 102 ∧ 0 ≤ kz) (hk : k < N) (hl : k < (fl (T w)).length) (hfin : (T0 k).2.2.2 = false) (hn : narrow (ty k) v = v) (hfit : fits (ty k) v = true)
    (kk : ∀ (H1 : Heap) (locs : List Loc) (T1 : St), T1 = up T w kz z → gX D cy b s H1 locs T1 ce sl S0 o → W p l e R s m args below meth c H1 locs ce sl Q (F0 m (pc + 3) ls rest)) : W p l e R s m args below meth c H locs ce sl Q (F0 m pc ls (v :: .ref (b + i) :: rest)) :=
  m_put S hG.1 i w k hw kz z he P hlink hdg hfs (Nat.lt_of_lt_of_le hi.1 hG.2.2.2.1) hk hl hfin hn hfit fun H1 l1 T1 e h => kk H1 l1 T1 e (hG.put e h (by rw [← hw]; exact nu_lo hi.1) (Or.inr hi.2))
theorem ni_ast (S : CallFix p m c cc nL s args gT own) (hG : gX D cy b s H locs T ce sl S0 o) (i w : Nat) (hw : nu i = w) {N : Nat} {a v : Int} (he : ∀ g : Int → Int, encC b cy (XD b cy T) i g = cI cy N (fun j => g j)) (hj : i < 102 ∧ i ≠ 0) (hdg : decode cc pc = .ok (.iastore, 1)) (hin : 0 ≤ a ∧ a < N) (hN : N ≤ 2147483647) 
    (kk : ∀ (H : Heap) (locs : List Loc) (T1 : St), T1 = up T w a v → gX D cy b s H locs T1 ce sl S0 o → W p l e R s m args below meth c H locs ce sl Q (F0 m (pc + 1) ls rest)) : W p l e R s m args below meth c H locs ce sl Q (F0 m pc ls (.int (iI v) :: .int (iI a) :: .ref (b + i) :: rest)) :=
  mi_ast S hG.1 i w hw he (Nat.lt_of_lt_of_le hj.1 hG.2.2.2.1) hdg hin hN fun H1 l1 T1 e h => kk H1 l1 T1 e (hG.put e h (by rw [← hw]; exact nu_lo hj.1) (Or.inl (fun e => hj.2 (nu_0 (hw.trans e)))))
theorem nz_ast (S : CallFix p m c cc nL s args gT own) (hG : gX D cy b s H locs T ce sl S0 o) (i w : Nat) (hw : nu i = w) {N : Nat} {a v : Int} (he : ∀ g : Int → Int, encC b cy (XD b cy T) i g = cZ cy N (fun j => g j)) (hj : i < 102 ∧ i ≠ 0) (hdg : decode cc pc = .ok (.bastore, 1)) (hin : 0 ≤ a ∧ a < N) (hN : N ≤ 2147483647) (hv : v = 0 ∨ v = 1) 
    (kk : ∀ (H : Heap) (locs : List Loc) (T1 : St), T1 = up T w a v → gX D cy b s H locs T1 ce sl S0 o → W p l e R s m args below meth c H locs ce sl Q (F0 m (pc + 1) ls rest)) : W p l e R s m args below meth c H locs ce sl Q (F0 m pc ls (.int (iI v) :: .int (iI a) :: .ref (b + i) :: rest)) :=
  mz_ast S hG.1 i w hw he (Nat.lt_of_lt_of_le hj.1 hG.2.2.2.1) hdg hin hN hv fun H1 l1 T1 e h => kk H1 l1 T1 e (hG.put e h (by rw [← hw]; exact nu_lo hj.1) (Or.inl (fun e => hj.2 (nu_0 (hw.trans e)))))
theorem nb_ast (S : CallFix p m c cc nL s args gT own) (hG : gX D cy b s H locs T ce sl S0 o) (i w : Nat) (hw : nu i = w) {N : Nat} {a v : Int} (he : ∀ g : Int → Int, encC b cy (XD b cy T) i g = cB cy N (fun j => g j)) (hj : i < 102 ∧ i ≠ 0) (hdg : decode cc pc = .ok (.bastore, 1)) (hin : 0 ≤ a ∧ a < N) (hN : N ≤ 2147483647) (hv : vp_nar .byte (iI v) = iI v) 
    (kk : ∀ (H : Heap) (locs : List Loc) (T1 : St), T1 = up T w a v → gX D cy b s H locs T1 ce sl S0 o → W p l e R s m args below meth c H locs ce sl Q (F0 m (pc + 1) ls rest)) : W p l e R s m args below meth c H locs ce sl Q (F0 m pc ls (.int (iI v) :: .int (iI a) :: .ref (b + i) :: rest)) :=
  mb_ast S hG.1 i w hw he (Nat.lt_of_lt_of_le hj.1 hG.2.2.2.1) hdg hin hN hv fun H1 l1 T1 e h => kk H1 l1 T1 e (hG.put e h (by rw [← hw]; exact nu_lo hj.1) (Or.inl (fun e => hj.2 (nu_0 (hw.trans e)))))
theorem nj_ast (S : CallFix p m c cc nL s args gT own) (hG : gX D cy b s H locs T ce sl S0 o) (i w : Nat) (hw : nu i = w) {N : Nat} {a v : Int} (he : ∀ g : Int → Int, encC b cy (XD b cy T) i g = cJ cy N (fun j => g j)) (hj : i < 102 ∧ i ≠ 0) (hdg : decode cc pc = .ok (.lastore, 1)) (hin : 0 ≤ a ∧ a < N) (hN : N ≤ 2147483647) 
    (kk : ∀ (H : Heap) (locs : List Loc) (T1 : St), T1 = up T w a v → gX D cy b s H locs T1 ce sl S0 o → W p l e R s m args below meth c H locs ce sl Q (F0 m (pc + 1) ls rest)) : W p l e R s m args below meth c H locs ce sl Q (F0 m pc ls (.long (jJ v) :: .int (iI a) :: .ref (b + i) :: rest)) :=
  mj_ast S hG.1 i w hw he (Nat.lt_of_lt_of_le hj.1 hG.2.2.2.1) hdg hin hN fun H1 l1 T1 e h => kk H1 l1 T1 e (hG.put e h (by rw [← hw]; exact nu_lo hj.1) (Or.inl (fun e => hj.2 (nu_0 (hw.trans e)))))
theorem nd_get (S : CallFix p m c cc nL s args gT own) (hG : gX D cy b s H locs T ce sl S0 o) {a : Int} (h : dT T a 1) (k : Nat) {v : Value} (hlink : Cond.fieldLink own index (TX6 k).1 (TX6 k).2.1 (TX6 k).2.2.1 ∈ gT) (hdg : decode cc pc = .ok (.getfield index, 3)) (hv : [Value.int (iI (T a.toNat 0)), .int (iI (T a.toNat 1)), .ref (b + ph (T a.toNat 2).toNat)][k]? = some v) (hk : k < 3)
    (kk : W p l e R s m args below meth c H locs ce sl Q (F0 m (pc + 3) ls (v :: rest))) : W p l e R s m args below meth c H locs ce sl Q (F0 m pc ls (.ref (b + ph a.toNat) :: rest)) :=
  g_get S hG.1 (ph a.toNat) k (eG_O h) cpX6 hlink hdg hv (dT_lt h) hk kk
theorem dyE_O {T : St} {i : Nat} {k v : Int} (h : T i (-1) = 1) (hk : k = 0 ∨ k = 1) : dyE b cy (upI (T i) k v) = .inr (6, [.int (iI (upI (T i) k v 0)), .int (iI (upI (T i) k v 1)), .ref (b + ph (T i 2).toNat)]) := by
  unfold dyE
  rw [if_pos (by unfold upI; rw [if_neg (by omega)]; exact h)]
  rw [show upI (T i) k v 2 = T i 2 by unfold upI; rw [if_neg (by omega)]]
theorem nd_put (S : CallFix p m c cc nL s args gT own) (hG : gX D cy b s H locs T ce sl S0 o) {a : Int} (h : dT T a 1) (k : Nat) (z : Int) (hk : (k : Int) = 0 ∨ (k : Int) = 1) (hlink : Cond.fieldLink own index (TX6 k).1 (TX6 k).2.1 (TX6 k).2.2.1 ∈ gT) (hdg : decode cc pc = .ok (.putfield index, 3)) (hn : narrow (tyX6 k) (.int (iI z)) = .int (iI z)) (hfit : fits (tyX6 k) (.int (iI z)) = true) (hfin : (TX6 k).2.2.2 = false)
    (kk : ∀ (H1 : Heap) (locs : List Loc) (T1 : St), T1 = up T a.toNat k z → gX D cy b s H1 locs T1 ce sl S0 o → W p l e R s m args below meth c H1 locs ce sl Q (F0 m (pc + 3) ls rest)) : W p l e R s m args below meth c H locs ce sl Q (F0 m pc ls (.int (iI z) :: .ref (b + ph a.toNat) :: rest)) := by
  refine g_put S hG.1 (ph a.toNat) k (eG_O h) cpX6 hlink hdg rfl (dT_lt h) (by omega) (by show k < 3; omega) hfin hn hfit fun H1 l1 h1 => ?_
  refine kk H1 l1 _ rfl (hG.putD (dT_nu h) (dT_ge h) (dyE_O h.2.2 hk) ?_)
  have e : ([Value.int (iI (T a.toNat 0)), .int (iI (T a.toNat 1)), .ref (b + ph (T a.toNat 2).toNat)] : List Value).set k (.int (iI z)) = [.int (iI (upI (T a.toNat) k z 0)), .int (iI (upI (T a.toNat) k z 1)), .ref (b + ph (T a.toNat 2).toNat)] := by
    rcases hk with hk | hk
    · have hk : k = 0 := by omega
      subst hk; rfl
    · have hk : k = 1 := by omega
      subst hk; rfl
  rw [e] at h1
  exact h1
theorem nd_iald (S : CallFix p m c cc nL s args gT own) (hG : gX D cy b s H locs T ce sl S0 o) {t : Int} {N : Nat} {q a : Int} (h : dT T q t) (ht : (t = 2 ∧ N = 1600) ∨ (t = 4 ∧ N = 5)) (hdg : decode cc pc = .ok (.iaload, 1)) (hin : 0 ≤ a ∧ a < N)
    (kk : W p l e R s m args below meth c H locs ce sl Q (F0 m (pc + 1) ls (.int (iI (T q.toNat a)) :: rest))) : W p l e R s m args below meth c H locs ce sl Q (F0 m pc ls (.int (iI a) :: .ref (b + ph q.toNat) :: rest)) := by
  have he : eG b cy T (ph q.toNat) = cI cy N (fun j => T q.toNat j) := by
    rcases ht with ⟨rfl, rfl⟩ | ⟨rfl, rfl⟩
    · exact eG_I h
    · exact eG_5 h
  exact gi_ald S hG.1 (ph q.toNat) he (dT_lt h) hdg hin (by omega) (gi_as (T q.toNat a) (by show iI (T q.toNat ((a.toNat : Nat) : Int)) = _; rw [Int.toNat_of_nonneg hin.1]) kk)
theorem dyE_I {T : St} {i : Nat} {t k v : Int} {N : Nat} (h : T i (-1) = t) (ht : (t = 2 ∧ N = 1600) ∨ (t = 4 ∧ N = 5)) (hk : 0 ≤ k) : dyE b cy (upI (T i) k v) = cI cy N (fun j => upI (T i) k v j) := by
  have e : upI (T i) k v (-1) = t := by unfold upI; rw [if_neg (by omega)]; exact h
  unfold dyE
  rw [e]
  rcases ht with ⟨rfl, rfl⟩ | ⟨rfl, rfl⟩
  · rw [if_neg (by decide), if_pos rfl]
  · rw [if_neg (by decide), if_neg (by decide), if_neg (by decide)]
theorem nd_iast (S : CallFix p m c cc nL s args gT own) (hG : gX D cy b s H locs T ce sl S0 o) {t : Int} {N : Nat} {q a v : Int} (h : dT T q t) (ht : (t = 2 ∧ N = 1600) ∨ (t = 4 ∧ N = 5)) (hdg : decode cc pc = .ok (.iastore, 1)) (hin : 0 ≤ a ∧ a < N)
    (kk : ∀ (H : Heap) (locs : List Loc) (T1 : St), T1 = up T q.toNat a v → gX D cy b s H locs T1 ce sl S0 o → W p l e R s m args below meth c H locs ce sl Q (F0 m (pc + 1) ls rest)) : W p l e R s m args below meth c H locs ce sl Q (F0 m pc ls (.int (iI v) :: .int (iI a) :: .ref (b + ph q.toNat) :: rest)) := by
  have he : eG b cy T (ph q.toNat) = cI cy N (fun j => T q.toNat j) := by
    rcases ht with ⟨rfl, rfl⟩ | ⟨rfl, rfl⟩
    · exact eG_I h
    · exact eG_5 h
  refine gi_ast S hG.1 (ph q.toNat) he (dT_lt h) hdg hin (by omega) fun H1 l1 h1 => kk H1 l1 _ rfl (hG.putD (dT_nu h) (dT_ge h) (dyE_I h.2.2 ht hin.1) ?_)
  rw [upI_Z hin.1] at h1
  exact h1
theorem nd_alen (S : CallFix p m c cc nL s args gT own) (hG : gX D cy b s H locs T ce sl S0 o) {q : Int} (h : dB T q ∧ 0 ≤ dlen T q) (hdg : decode cc pc = .ok (.arraylength, 1))
    (kk : W p l e R s m args below meth c H locs ce sl Q (F0 m (pc + 1) ls (.int (iI (dlen T q)) :: rest))) : W p l e R s m args below meth c H locs ce sl Q (F0 m pc ls (.ref (b + ph q.toNat) :: rest)) :=
  g_alen S hG.1 (ph q.toNat) 0 (eG_B h.1) rfl (dB_lt h.1 hG.2.2.2.1) hdg (by show Int32.ofNat (dlen T q).toNat = Int32.ofInt (dlen T q); rw [← Int32.ofInt_eq_ofNat, Int.toNat_of_nonneg h.2]) kk
theorem nd_bald (S : CallFix p m c cc nL s args gT own) (hG : gX D cy b s H locs T ce sl S0 o) {q a : Int} (h : dB T q ∧ 0 ≤ a ∧ a < dlen T q ∧ dlen T q ≤ 2147483647) (hdg : decode cc pc = .ok (.baload, 1))
    (kk : W p l e R s m args below meth c H locs ce sl Q (F0 m (pc + 1) ls (.int (iI (T q.toNat a)) :: rest))) : W p l e R s m args below meth c H locs ce sl Q (F0 m pc ls (.int (iI a) :: .ref (b + ph q.toNat) :: rest)) :=
  gb_ald S hG.1 (ph q.toNat) (eG_B h.1) (dB_lt h.1 hG.2.2.2.1) hdg ⟨h.2.1, by have := h.2.2.1; have := h.2.1; omega⟩ (by have := h.2.2.2; omega) (gi_as (T q.toNat a) (by show iI (T q.toNat ((a.toNat : Nat) : Int)) = _; rw [Int.toNat_of_nonneg h.2.1]) kk)
theorem dyE_B {T : St} {i : Nat} {k v : Int} (h : T i (-1) = 3) (hk : 0 ≤ k) : dyE b cy (upI (T i) k v) = cB cy (T i (-2)).toNat (fun j => upI (T i) k v j) := by
  have e : upI (T i) k v (-1) = 3 := by unfold upI; rw [if_neg (by omega)]; exact h
  have e2 : upI (T i) k v (-2) = T i (-2) := by unfold upI; rw [if_neg (by omega)]
  unfold dyE
  rw [e, e2, if_neg (by decide), if_neg (by decide), if_pos rfl]
theorem nd_bast (S : CallFix p m c cc nL s args gT own) (hG : gX D cy b s H locs T ce sl S0 o) {q a v : Int} (h : dB T q ∧ 0 ≤ a ∧ a < dlen T q ∧ dlen T q ≤ 2147483647) (hv : -128 ≤ v ∧ v ≤ 127) (hdg : decode cc pc = .ok (.bastore, 1))
    (kk : ∀ (H : Heap) (locs : List Loc) (T1 : St), T1 = up T q.toNat a v → gX D cy b s H locs T1 ce sl S0 o → W p l e R s m args below meth c H locs ce sl Q (F0 m (pc + 1) ls rest)) : W p l e R s m args below meth c H locs ce sl Q (F0 m pc ls (.int (iI v) :: .int (iI a) :: .ref (b + ph q.toNat) :: rest)) := by
  refine gb_ast S hG.1 (ph q.toNat) (eG_B h.1) (dB_lt h.1 hG.2.2.2.1) hdg ⟨h.2.1, by have := h.2.2.1; have := h.2.1; omega⟩ (by have := h.2.2.2; omega) (nar8 hv) fun H1 l1 h1 => kk H1 l1 _ rfl ?_
  rw [upI_Z h.2.1] at h1
  rcases h.1 with rfl | hd
  · refine hG.put rfl ?_ (by decide) (Or.inl (by decide))
    replace h1 : gW D cy b (nn T - 3) s H1 l1 (upE (enc b cy (XD b cy T) T) 62 (cB cy 256 (fun j => upI (T 64) a v j))) := h1
    rw [enc_up (b := b) (X := XD b cy T) (T := T) (i := 62) (w := 64) (hw := rfl) (x := cB cy 256 (fun j => upI (T 64) a v j)) (ec_64 _)] at h1
    exact h1
  · refine hG.putD (dT_nu hd) (dT_ge hd) (dyE_B hd.2.2 h.2.1) ?_
    rw [show dlen T q = T q.toNat (-2) from if_neg (by have := hd.1; omega)] at h1
    exact h1
/-- the row of RingLists -/
def qv (b : Nat) (e : Int) : Value := va_rf (if e < 0 then none else some (b + ph e.toNat))
theorem qv_n {b : Nat} {e : Int} (h : e < 0) : qv b e = .null := by unfold qv; rw [if_pos h]; rfl
theorem qv_p {b : Nat} {e : Int} (h : ¬ e < 0) : qv b e = .ref (b + ph e.toNat) := by unfold qv; rw [if_neg h]; rfl
theorem n_aald (S : CallFix p m c cc nL s args gT own) (hG : gX D cy b s H locs T ce sl S0 o) {a : Int} (hdg : decode cc pc = .ok (.aaload, 1)) (hin : 0 ≤ a ∧ a < 192)
    (kk : W p l e R s m args below meth c H locs ce sl Q (F0 m (pc + 1) ls (qv b (T 63 a) :: rest))) : W p l e R s m args below meth c H locs ce sl Q (F0 m pc ls (.int (iI a) :: .ref (b + 61) :: rest)) := by
  refine va_aldq S.1 S.2.1 hG.1.1.1 hG.1.2.1 61 4 (wd_at (Nat.lt_of_lt_of_le (by decide) hG.2.2.2.1) (ec_63 (b := b) (X := XD b cy T) (T 63))) rfl (n := 192) (i := iI a) (iI_in ⟨hin.1, by have := hin.2; omega⟩ (by have := hin.2; omega)) hdg ?_
  rw [iI_clamp hin.1 (by omega)]
  have ea : ((a.toNat : Nat) : Int) = a := Int.toNat_of_nonneg hin.1
  show W p l e R s m args below meth c H locs ce sl Q (F0 m (pc + 1) ls (va_rf (if T 63 ((a.toNat : Nat) : Int) < 0 then none else some (b + ph (T 63 ((a.toNat : Nat) : Int)).toNat)) :: rest))
  rw [ea]
  exact kk
theorem n_aast (S : CallFix p m c cc nL s args gT own) (hG : gX D cy b s H locs T ce sl S0 o) {a q : Int} (h : dT T q 1) (hdg : decode cc pc = .ok (.aastore, 1)) (hin : 0 ≤ a ∧ a < 192)
    (kk : ∀ (H : Heap) (locs : List Loc) (T1 : St), T1 = up T 63 a q → gX D cy b s H locs T1 ce sl S0 o → W p l e R s m args below meth c H locs ce sl Q (F0 m (pc + 1) ls rest)) : W p l e R s m args below meth c H locs ce sl Q (F0 m pc ls (.ref (b + ph q.toNat) :: .int (iI a) :: .ref (b + 61) :: rest)) := by
  have h63 : 61 < nn T - 3 := Nat.lt_of_lt_of_le (by decide) hG.2.2.2.1
  refine va_astq S.1 S.2.1 hG.1.1.1 hG.1.2.1 wd_D hG.1.2.2.1 61 4 (ph q.toNat) 6 (wd_at h63 (ec_63 (b := b) (X := XD b cy T) (T 63))) (r := (RX6, TX6, 3)) rfl (wd_at (dT_lt h) (eG_O h)) rfl (n := 192) (i := iI a) (iI_in ⟨hin.1, by have := hin.2; omega⟩ (by have := hin.2; omega)) hdg fun H1 l1 h1 _ h3 => ?_
  rw [wd_set h63] at h1
  refine kk H1 l1 _ rfl (hG.put rfl ⟨hG.1.1, ?_, h3, hG.1.2.2.2⟩ (by decide) (Or.inl (by decide)))
  rw [iI_clamp hin.1 (by omega)] at h1
  have e : upE (eG b cy T) 61 (.inl (cy 4, 192, .inr (.inr (.inr (.inr (va_up (fun j : Nat => if T 63 j < 0 then none else some (b + ph (T 63 j).toNat)) a.toNat (some (b + ph q.toNat)))))))) = enc b cy (XD b cy T) (up T 63 a q) := by
    refine enc_up (T := T) rfl ?_
    rw [ec_63]
    congr 7
    funext j
    unfold va_up upI
    by_cases hj : j = a.toNat
    · rw [if_pos (show (j : Int) = a by omega), if_pos hj, if_neg (by have := h.1; omega)]
    · rw [if_neg (show ¬ (j : Int) = a by omega), if_neg hj]
  rw [← e]
  exact h1
theorem gd_nm {q : Int} (k : ∀ x : Int, x = q → W p l e R s m args below meth c H locs ce sl Q (F0 m pc ls (.ref (b + ph (Int.toNat x)) :: rest))) : W p l e R s m args below meth c H locs ce sl Q (F0 m pc ls (.ref (b + ph (Int.toNat q)) :: rest)) := k q rfl
theorem gq_nm {q : Int} (k : ∀ x : Int, x = q → W p l e R s m args below meth c H locs ce sl Q (F0 m pc ls (qv b x :: rest))) : W p l e R s m args below meth c H locs ce sl Q (F0 m pc ls (qv b q :: rest)) := k q rfl
theorem wz {g : JFrame} (h : W p l e R s m args below meth c H locs ce sl Q g) : W p l e R s m args below meth c H locs (ce + 0) (sl + 0) Q g := h
/-- System.arraycopy out of bytes that may have come later -/
def cpyD (T : St) (i : Int) (j : Nat) (sp dp n : Int) : St := fun q => if q = j then (fun k => if dp ≤ k ∧ k < dp + n then T i.toNat (sp + (k - dp)) else T j k) else T q
theorem n_copyD (S : CallFix p m c cc nL s args gT own) (hG : gX D cy b s H locs T ce sl S0 o) (w1 : Cond.methodLink own index arraycopyName ∈ gT) (w2 : Cond.native arraycopyName ∈ gT) (w3 : Cond.static arraycopyName ∈ gT) (w4 : Cond.initialized "java/lang/System" ∈ gT) (hls : ls.size = nL) (i : Int) (j wj : Nat) (hwj : nu j = wj) {M : Nat} (hi : dB T i ∧ 0 ≤ dlen T i) (hej : ∀ g : Int → Int, encC b cy (XD b cy T) j g = .inl (cy 0, M, .inl (fun k => iI (g k)))) (hj : j < 102 ∧ j ≠ 0) {sp dp k : Int} (hg : 0 ≤ sp ∧ 0 ≤ dp ∧ 0 ≤ k ∧ sp + k ≤ dlen T i ∧ dp + k ≤ M) (hN : dlen T i ≤ 2147483647 ∧ M ≤ 2147483647) (hfit : ∀ q : Nat, q < k.toNat → fits .byte (.int (iI (T i.toNat (sp + q)))) = true)
    (hdg : decode cc pc = .ok (.invokestatic index, 3)) (hR : 1 ≤ R.frames ∧ (rest.map fun v => v.category).sum + (nativeFrameWords "java/lang/System" "arraycopy" 5 + 11) ≤ R.locals)
    (kk : ∀ (H1 : Heap) (locs1 : List Loc) (T1 : St), T1 = cpyD T i wj sp dp k → gX D cy b s H1 locs1 T1 ce sl S0 o → W p l e R s m args below meth c H1 locs1 ce sl Q (F0 m (pc + 3) ls rest)) : W p l e R s m args below meth c H locs ce sl Q (F0 m pc ls (.int (iI k) :: .int (iI dp) :: .ref (b + j) :: .int (iI sp) :: .ref (b + ph i.toNat) :: rest)) := by
  subst hwj
  obtain ⟨g1, g2, g3, g4, g5⟩ := hg
  have c1 : (iI sp).toNatClampNeg = sp.toNat := iI_clamp g1 (by omega)
  have c2 : (iI dp).toNatClampNeg = dp.toNat := iI_clamp g2 (by omega)
  have c3 : (iI k).toNatClampNeg = k.toNat := iI_clamp g3 (by omega)
  have nn0 : ∀ z : Int, 0 ≤ z → z ≤ 2147483647 → ¬ iI z < 0 := fun z h1 h2 h => by
    have := (iI_lt (a := z) (b := 0) (by omega) (by omega)).mp (by rw [iI_0]; exact h)
    omega
  have hjn : j < nn T - 3 := Nat.lt_of_lt_of_le hj.1 hG.2.2.2.1
  refine va_copyi S.1 S.2.1 (S.2.2.1.trans hls.symm) S.2.2.2.1 (S.2.2.2.2 _ w1) (S.2.2.2.2 _ w2) (S.2.2.2.2 _ w3) (S.2.2.2.2 _ w4) hG.1.1.1 hG.1.2.1 wd_D hG.1.2.2.1 (ph i.toNat) j 0 0 (wd_at (dB_lt hi.1 hG.2.2.2.1) (eG_B hi.1)) (wd_at hjn (hej (T (nu j)))) rfl rfl rfl (nn0 sp g1 (by omega)) (nn0 dp g2 (by omega)) (nn0 k g3 (by omega)) (by rw [c1, c3]; show _ ≤ (dlen T i).toNat; omega) (by rw [c2, c3]; omega) (fun q hq => by
    rw [c3] at hq
    have := hfit q hq
    rw [c1]
    show fits FieldType.byte (Value.int (iI (T i.toNat ((sp.toNat + q : Nat) : Int)))) = true
    rw [show ((sp.toNat + q : Nat) : Int) = sp + q by omega]
    exact this) hR.1 hR.2 hdg fun H1 l1 h1 _ h3 => ?_
  rw [wd_set hjn] at h1
  have e0 : ∀ q, cpyD T i (nu j) sp dp k 0 q = T 0 q := fun q => by unfold cpyD; rw [if_neg (fun e => hj.2 (nu_0 e.symm))]
  refine kk H1 l1 _ rfl (hG.to (congrArg Int.toNat (e0 (-1))) (congrArg Int.toNat (e0 (-2))) ⟨hG.1.1, ?_, h3, hG.1.2.2.2⟩)
  have he : upE (eG b cy T) j (.inl (cy 0, M, .inl (va_cpy (fun k => iI (T i.toNat k)) (fun k => iI (T (nu j) k)) (iI sp).toNatClampNeg (iI dp).toNatClampNeg (iI k).toNatClampNeg))) = eG b cy (cpyD T i (nu j) sp dp k) := by
    funext q
    by_cases h : q = j
    · subst h
      rw [upE_s]
      show _ = encC b cy (XD b cy _) q (cpyD T i (nu q) sp dp k (nu q))
      rw [encC_X (Y := XD b cy T) (fun hq => absurd hj.1 (by omega)), hej, c1, c2, c3]
      congr 4
      funext z
      unfold va_cpy cpyD
      rw [if_pos rfl]
      by_cases hz : dp.toNat ≤ z ∧ z < dp.toNat + k.toNat
      · rw [if_pos hz, if_pos (by omega)]
        show iI (T i.toNat ((sp.toNat + (z - dp.toNat) : Nat) : Int)) = _
        rw [show ((sp.toNat + (z - dp.toNat) : Nat) : Int) = sp + ((z : Int) - dp) by omega]
      · rw [if_neg hz, if_neg (by omega)]
    · rw [upE_n h]
      have eq : cpyD T i (nu j) sp dp k (nu q) = T (nu q) := by unfold cpyD; rw [if_neg (fun e => h (nu_inj e))]
      show encC b cy (XD b cy T) q (T (nu q)) = encC b cy (XD b cy (cpyD T i (nu j) sp dp k)) q (cpyD T i (nu j) sp dp k (nu q))
      rw [eq]
      refine encC_X fun _ => ?_
      unfold XD
      rw [eq]
  rw [← he]
  exact h1
end GY
