/-! Mirrors: methods as functions over numbers; a state is what its cells hold, by number and place -/
abbrev St : Type := Nat → Int → Int
def upI (g : Int → Int) (k v : Int) : Int → Int := fun j => if j = k then v else g j
def up (S : St) (i : Nat) (k v : Int) : St := fun j => if j = i then upI (S i) k v else S j
theorem up_s {S : St} {i : Nat} {k v : Int} : up S i k v i = upI (S i) k v := by simp [up]
theorem up_n {S : St} {i j : Nat} {k v : Int} (h : j ≠ i) : up S i k v j = S j := by simp [up, h]
def FU : Nat := 2000000
def gd {α : Type} (c : Prop) [Decidable c] (x : Option α) : Option α := if c then x else none
def nx {α β : Type} (x : α) (f : α → Option β) : Option β := f x
theorem gd_some {α : Type} {c : Prop} [Decidable c] {x : Option α} {o : α} (h : gd c x = some o) : c ∧ x = some o := by
  unfold gd at h
  by_cases hc : c
  · rw [if_pos hc] at h; exact ⟨hc, h⟩
  · rw [if_neg hc] at h; cases h
theorem nx_at {α β : Type} {x y : α} {f : α → Option β} {o : β} (h : nx x f = some o) (e : y = x) : f y = some o := by subst e; exact h
theorem ifp {α : Type} {c : Prop} [Decidable c] {x y : Option α} {o : α} (h : (if c then x else y) = some o) (hc : c) : x = some o := by rw [if_pos hc] at h; exact h
theorem ifn {α : Type} {c : Prop} [Decidable c] {x y : Option α} {o : α} (h : (if c then x else y) = some o) (hc : ¬ c) : y = some o := by rw [if_neg hc] at h; exact h
def bd1 {α1 β : Type} (x : Option (α1)) (f : α1 → Option β) : Option β := match x with | some a1 => f a1 | none => none
theorem bd1_some {α1 β : Type} {x : Option (α1)} {f : α1 → Option β} {o : β} (h : bd1 x f = some o) : ∃ a1, x = some a1 ∧ f a1 = some o := by
  cases x with
  | none => cases h
  | some q =>
    exact ⟨q, rfl, h⟩
def bd2 {α1 α2 β : Type} (x : Option (α1 × α2)) (f : α1 → α2 → Option β) : Option β := match x with | some (a1, a2) => f a1 a2 | none => none
theorem bd2_some {α1 α2 β : Type} {x : Option (α1 × α2)} {f : α1 → α2 → Option β} {o : β} (h : bd2 x f = some o) : ∃ a1 a2, x = some (a1, a2) ∧ f a1 a2 = some o := by
  cases x with
  | none => cases h
  | some q =>
    obtain ⟨a1, a2⟩ := q
    exact ⟨a1, a2, rfl, h⟩
def bd3 {α1 α2 α3 β : Type} (x : Option (α1 × α2 × α3)) (f : α1 → α2 → α3 → Option β) : Option β := match x with | some (a1, a2, a3) => f a1 a2 a3 | none => none
theorem bd3_some {α1 α2 α3 β : Type} {x : Option (α1 × α2 × α3)} {f : α1 → α2 → α3 → Option β} {o : β} (h : bd3 x f = some o) : ∃ a1 a2 a3, x = some (a1, a2, a3) ∧ f a1 a2 a3 = some o := by
  cases x with
  | none => cases h
  | some q =>
    obtain ⟨a1, a2, a3⟩ := q
    exact ⟨a1, a2, a3, rfl, h⟩
def bd4 {α1 α2 α3 α4 β : Type} (x : Option (α1 × α2 × α3 × α4)) (f : α1 → α2 → α3 → α4 → Option β) : Option β := match x with | some (a1, a2, a3, a4) => f a1 a2 a3 a4 | none => none
theorem bd4_some {α1 α2 α3 α4 β : Type} {x : Option (α1 × α2 × α3 × α4)} {f : α1 → α2 → α3 → α4 → Option β} {o : β} (h : bd4 x f = some o) : ∃ a1 a2 a3 a4, x = some (a1, a2, a3, a4) ∧ f a1 a2 a3 a4 = some o := by
  cases x with
  | none => cases h
  | some q =>
    obtain ⟨a1, a2, a3, a4⟩ := q
    exact ⟨a1, a2, a3, a4, rfl, h⟩
def bd5 {α1 α2 α3 α4 α5 β : Type} (x : Option (α1 × α2 × α3 × α4 × α5)) (f : α1 → α2 → α3 → α4 → α5 → Option β) : Option β := match x with | some (a1, a2, a3, a4, a5) => f a1 a2 a3 a4 a5 | none => none
theorem bd5_some {α1 α2 α3 α4 α5 β : Type} {x : Option (α1 × α2 × α3 × α4 × α5)} {f : α1 → α2 → α3 → α4 → α5 → Option β} {o : β} (h : bd5 x f = some o) : ∃ a1 a2 a3 a4 a5, x = some (a1, a2, a3, a4, a5) ∧ f a1 a2 a3 a4 a5 = some o := by
  cases x with
  | none => cases h
  | some q =>
    obtain ⟨a1, a2, a3, a4, a5⟩ := q
    exact ⟨a1, a2, a3, a4, a5, rfl, h⟩
def bd6 {α1 α2 α3 α4 α5 α6 β : Type} (x : Option (α1 × α2 × α3 × α4 × α5 × α6)) (f : α1 → α2 → α3 → α4 → α5 → α6 → Option β) : Option β := match x with | some (a1, a2, a3, a4, a5, a6) => f a1 a2 a3 a4 a5 a6 | none => none
theorem bd6_some {α1 α2 α3 α4 α5 α6 β : Type} {x : Option (α1 × α2 × α3 × α4 × α5 × α6)} {f : α1 → α2 → α3 → α4 → α5 → α6 → Option β} {o : β} (h : bd6 x f = some o) : ∃ a1 a2 a3 a4 a5 a6, x = some (a1, a2, a3, a4, a5, a6) ∧ f a1 a2 a3 a4 a5 a6 = some o := by
  cases x with
  | none => cases h
  | some q =>
    obtain ⟨a1, a2, a3, a4, a5, a6⟩ := q
    exact ⟨a1, a2, a3, a4, a5, a6, rfl, h⟩
def bd7 {α1 α2 α3 α4 α5 α6 α7 β : Type} (x : Option (α1 × α2 × α3 × α4 × α5 × α6 × α7)) (f : α1 → α2 → α3 → α4 → α5 → α6 → α7 → Option β) : Option β := match x with | some (a1, a2, a3, a4, a5, a6, a7) => f a1 a2 a3 a4 a5 a6 a7 | none => none
theorem bd7_some {α1 α2 α3 α4 α5 α6 α7 β : Type} {x : Option (α1 × α2 × α3 × α4 × α5 × α6 × α7)} {f : α1 → α2 → α3 → α4 → α5 → α6 → α7 → Option β} {o : β} (h : bd7 x f = some o) : ∃ a1 a2 a3 a4 a5 a6 a7, x = some (a1, a2, a3, a4, a5, a6, a7) ∧ f a1 a2 a3 a4 a5 a6 a7 = some o := by
  cases x with
  | none => cases h
  | some q =>
    obtain ⟨a1, a2, a3, a4, a5, a6, a7⟩ := q
    exact ⟨a1, a2, a3, a4, a5, a6, a7, rfl, h⟩
def bd8 {α1 α2 α3 α4 α5 α6 α7 α8 β : Type} (x : Option (α1 × α2 × α3 × α4 × α5 × α6 × α7 × α8)) (f : α1 → α2 → α3 → α4 → α5 → α6 → α7 → α8 → Option β) : Option β := match x with | some (a1, a2, a3, a4, a5, a6, a7, a8) => f a1 a2 a3 a4 a5 a6 a7 a8 | none => none
theorem bd8_some {α1 α2 α3 α4 α5 α6 α7 α8 β : Type} {x : Option (α1 × α2 × α3 × α4 × α5 × α6 × α7 × α8)} {f : α1 → α2 → α3 → α4 → α5 → α6 → α7 → α8 → Option β} {o : β} (h : bd8 x f = some o) : ∃ a1 a2 a3 a4 a5 a6 a7 a8, x = some (a1, a2, a3, a4, a5, a6, a7, a8) ∧ f a1 a2 a3 a4 a5 a6 a7 a8 = some o := by
  cases x with
  | none => cases h
  | some q =>
    obtain ⟨a1, a2, a3, a4, a5, a6, a7, a8⟩ := q
    exact ⟨a1, a2, a3, a4, a5, a6, a7, a8, rfl, h⟩
def bd9 {α1 α2 α3 α4 α5 α6 α7 α8 α9 β : Type} (x : Option (α1 × α2 × α3 × α4 × α5 × α6 × α7 × α8 × α9)) (f : α1 → α2 → α3 → α4 → α5 → α6 → α7 → α8 → α9 → Option β) : Option β := match x with | some (a1, a2, a3, a4, a5, a6, a7, a8, a9) => f a1 a2 a3 a4 a5 a6 a7 a8 a9 | none => none
theorem bd9_some {α1 α2 α3 α4 α5 α6 α7 α8 α9 β : Type} {x : Option (α1 × α2 × α3 × α4 × α5 × α6 × α7 × α8 × α9)} {f : α1 → α2 → α3 → α4 → α5 → α6 → α7 → α8 → α9 → Option β} {o : β} (h : bd9 x f = some o) : ∃ a1 a2 a3 a4 a5 a6 a7 a8 a9, x = some (a1, a2, a3, a4, a5, a6, a7, a8, a9) ∧ f a1 a2 a3 a4 a5 a6 a7 a8 a9 = some o := by
  cases x with
  | none => cases h
  | some q =>
    obtain ⟨a1, a2, a3, a4, a5, a6, a7, a8, a9⟩ := q
    exact ⟨a1, a2, a3, a4, a5, a6, a7, a8, a9, rfl, h⟩
def bd10 {α1 α2 α3 α4 α5 α6 α7 α8 α9 α10 β : Type} (x : Option (α1 × α2 × α3 × α4 × α5 × α6 × α7 × α8 × α9 × α10)) (f : α1 → α2 → α3 → α4 → α5 → α6 → α7 → α8 → α9 → α10 → Option β) : Option β := match x with | some (a1, a2, a3, a4, a5, a6, a7, a8, a9, a10) => f a1 a2 a3 a4 a5 a6 a7 a8 a9 a10 | none => none
theorem bd10_some {α1 α2 α3 α4 α5 α6 α7 α8 α9 α10 β : Type} {x : Option (α1 × α2 × α3 × α4 × α5 × α6 × α7 × α8 × α9 × α10)} {f : α1 → α2 → α3 → α4 → α5 → α6 → α7 → α8 → α9 → α10 → Option β} {o : β} (h : bd10 x f = some o) : ∃ a1 a2 a3 a4 a5 a6 a7 a8 a9 a10, x = some (a1, a2, a3, a4, a5, a6, a7, a8, a9, a10) ∧ f a1 a2 a3 a4 a5 a6 a7 a8 a9 a10 = some o := by
  cases x with
  | none => cases h
  | some q =>
    obtain ⟨a1, a2, a3, a4, a5, a6, a7, a8, a9, a10⟩ := q
    exact ⟨a1, a2, a3, a4, a5, a6, a7, a8, a9, a10, rfl, h⟩
def bd11 {α1 α2 α3 α4 α5 α6 α7 α8 α9 α10 α11 β : Type} (x : Option (α1 × α2 × α3 × α4 × α5 × α6 × α7 × α8 × α9 × α10 × α11)) (f : α1 → α2 → α3 → α4 → α5 → α6 → α7 → α8 → α9 → α10 → α11 → Option β) : Option β := match x with | some (a1, a2, a3, a4, a5, a6, a7, a8, a9, a10, a11) => f a1 a2 a3 a4 a5 a6 a7 a8 a9 a10 a11 | none => none
theorem bd11_some {α1 α2 α3 α4 α5 α6 α7 α8 α9 α10 α11 β : Type} {x : Option (α1 × α2 × α3 × α4 × α5 × α6 × α7 × α8 × α9 × α10 × α11)} {f : α1 → α2 → α3 → α4 → α5 → α6 → α7 → α8 → α9 → α10 → α11 → Option β} {o : β} (h : bd11 x f = some o) : ∃ a1 a2 a3 a4 a5 a6 a7 a8 a9 a10 a11, x = some (a1, a2, a3, a4, a5, a6, a7, a8, a9, a10, a11) ∧ f a1 a2 a3 a4 a5 a6 a7 a8 a9 a10 a11 = some o := by
  cases x with
  | none => cases h
  | some q =>
    obtain ⟨a1, a2, a3, a4, a5, a6, a7, a8, a9, a10, a11⟩ := q
    exact ⟨a1, a2, a3, a4, a5, a6, a7, a8, a9, a10, a11, rfl, h⟩
def bd12 {α1 α2 α3 α4 α5 α6 α7 α8 α9 α10 α11 α12 β : Type} (x : Option (α1 × α2 × α3 × α4 × α5 × α6 × α7 × α8 × α9 × α10 × α11 × α12)) (f : α1 → α2 → α3 → α4 → α5 → α6 → α7 → α8 → α9 → α10 → α11 → α12 → Option β) : Option β := match x with | some (a1, a2, a3, a4, a5, a6, a7, a8, a9, a10, a11, a12) => f a1 a2 a3 a4 a5 a6 a7 a8 a9 a10 a11 a12 | none => none
theorem bd12_some {α1 α2 α3 α4 α5 α6 α7 α8 α9 α10 α11 α12 β : Type} {x : Option (α1 × α2 × α3 × α4 × α5 × α6 × α7 × α8 × α9 × α10 × α11 × α12)} {f : α1 → α2 → α3 → α4 → α5 → α6 → α7 → α8 → α9 → α10 → α11 → α12 → Option β} {o : β} (h : bd12 x f = some o) : ∃ a1 a2 a3 a4 a5 a6 a7 a8 a9 a10 a11 a12, x = some (a1, a2, a3, a4, a5, a6, a7, a8, a9, a10, a11, a12) ∧ f a1 a2 a3 a4 a5 a6 a7 a8 a9 a10 a11 a12 = some o := by
  cases x with
  | none => cases h
  | some q =>
    obtain ⟨a1, a2, a3, a4, a5, a6, a7, a8, a9, a10, a11, a12⟩ := q
    exact ⟨a1, a2, a3, a4, a5, a6, a7, a8, a9, a10, a11, a12, rfl, h⟩
abbrev inI (a : Int) : Prop := -2147483648 ≤ a ∧ a ≤ 2147483647
abbrev inL (a : Int) : Prop := -9223372036854775808 ≤ a ∧ a ≤ 9223372036854775807
/-- where cells lie, and their names: the name of the cell at a place; the place of a name -/
def nu (j : Nat) : Nat := if j < 55 then j else if j < 72 then j + 2 else j + 3
def ph (c : Nat) : Nat := if c < 57 then c else if c < 75 then c - 2 else c - 3
theorem nu_inj {i j : Nat} (h : nu i = nu j) : i = j := by
  unfold nu at h
  repeat' split at h
  all_goals omega
theorem nu_hi {j : Nat} (h : 102 ≤ j) : nu j = j + 3 := by
  unfold nu
  repeat' split
  all_goals omega
theorem ph_hi {c : Nat} (h : 105 ≤ c) : ph c = c - 3 := by
  unfold ph
  repeat' split
  all_goals omega
theorem nu_ph {c : Nat} (h : 105 ≤ c) : nu (ph c) = c := by
  rw [ph_hi h, nu_hi (by omega)]; omega
theorem nu_lo {j : Nat} (h : j < 102) : nu j < 105 := by
  unfold nu
  repeat' split
  all_goals omega
theorem nu_0 {j : Nat} (h : nu j = 0) : j = 0 := nu_inj h
def fl0 (b : Nat) (g : Int → Int) : List Value := [.ref (b + 1), .int (iI (g 1)), .ref (b + 2), .ref (b + 12), .int (iI (g 4)), .int (iI (g 5)), .ref (b + 33), .ref (b + 40), .ref (b + 47), .ref (b + 58), .ref (b + 65), .ref (b + 71), .ref (b + 77), .ref (b + 78), .ref (b + 79), .int (iI (g 15)), .int (iI (g 16)), .int (iI (g 17)), .int (iI (g 18))]
def fl2 (b : Nat) (g : Int → Int) : List Value := [.int (iI (g 0)), .int (iI (g 1)), .int (iI (g 2)), .int (iI (g 3)), .int (iI (g 4)), .ref (b + 3), .ref (b + 4), .ref (b + 5), .ref (b + 6), .ref (b + 7), .ref (b + 8), .ref (b + 9), .ref (b + 10), .ref (b + 11)]
def fl12 (b : Nat) (g : Int → Int) : List Value := [.ref (b + 13), .int (iI (g 1)), .int (iI (g 2)), .ref (b + 26), .ref (b + ph (g 4).toNat), .int (iI (g 5)), .int (iI (g 6)), .int (iI (g 7)), .int (iI (g 8)), .int (iI (g 9)), .int (iI (g 10)), .ref (b + 24), .ref (b + 25)]
def fl13 (b : Nat) (g : Int → Int) : List Value := [.int (iI (g 0)), .int (iI (g 1)), .int (iI (g 2)), .int (iI (g 3)), .int (iI (g 4)), .ref (b + 14), .ref (b + 15), .ref (b + 16), .ref (b + 17), .ref (b + 18), .ref (b + 19), .ref (b + 20), .ref (b + 21), .ref (b + 22)]
def fl26 (b : Nat) (g : Int → Int) : List Value := [.ref (b + 13), .int (iI (g 1)), .int (iI (g 2)), .ref (b + 27), .ref (b + 28), .ref (b + 29), .ref (b + 30), .ref (b + 31), .ref (b + 32)]
def fl33 (b : Nat) (g : Int → Int) : List Value := [.ref (b + 2), .int (iI (g 1)), .int (iI (g 2)), .ref (b + 34), .ref (b + 35), .ref (b + 36), .ref (b + 37), .ref (b + 38), .ref (b + 39)]
def fl40 (b : Nat) (g : Int → Int) : List Value := [.ref (b + 2), .int (iI (g 1)), .ref (b + 41), .ref (b + 42), .ref (b + 43), .ref (b + 44), .ref (b + 45), .ref (b + 46)]
def fl47 (b : Nat) (g : Int → Int) : List Value := [.ref (b + 2), .ref (b + 48), .int (iI (g 2)), .int (iI (g 3)), .long (jJ (g 4)), .ref (b + 55), .ref (b + 56), .ref (b + 57)]
def fl48 (b : Nat) (g : Int → Int) : List Value := [.ref (b + 2), .int (iI (g 1)), .ref (b + 49), .ref (b + 50), .ref (b + 51), .ref (b + 52), .ref (b + 53), .ref (b + 54)]
def fl60 (b : Nat) (g : Int → Int) : List Value := [.ref (b + 2), .ref (b + 40), .ref (b + 59), .ref (b + ph (g 3).toNat), .int (iI (g 4)), .int (iI (g 5)), .int (iI (g 6)), .int (iI (g 7)), .int (iI (g 8)), .ref (b + 63), .int (iI (g 10)), .ref (b + 64), .int (iI (g 12)), .int (iI (g 13)), .int (iI (g 14))]
def fl61 (b : Nat) (g : Int → Int) : List Value := [.ref (b + 2), .ref (b + 40), .int (iI (g 2)), .ref (b + 60), .ref (b + 61), .int (iI (g 5))]
def fl67 (b : Nat) (g : Int → Int) : List Value := [.ref (b + 2), .ref (b + 66), .ref (b + 67), .int (iI (g 3)), .int (iI (g 4)), .int (iI (g 5)), .int (iI (g 6)), .ref (b + 68), .int (iI (g 8)), .ref (b + 69), .int (iI (g 10)), .ref (b + 70), .int (iI (g 12))]
def fl73 (b : Nat) (g : Int → Int) : List Value := [.ref (b + 58), .long (jJ (g 1)), .ref (b + 72), .ref (b + 73), .ref (b + 74), .ref (b + 75), .int (iI (g 6)), .int (iI (g 7)), .ref (b + 76)]
def fl80 (b : Nat) (g : Int → Int) : List Value := [.ref (b + 40), .int (iI (g 1)), .int (iI (g 2)), .int (iI (g 3)), .int (iI (g 4)), .int (iI (g 5)), .int (iI (g 6))]
def fl83 (b : Nat) (g : Int → Int) : List Value := [.ref (b + 81), .ref (b + 82), .ref (b + 83), .int (iI (g 3)), .int (iI (g 4)), .int (iI (g 5)), .int (iI (g 6)), .int (iI (g 7)), .int (iI (g 8)), .int (iI (g 9)), .int (iI (g 10)), .ref (b + 84), .ref (b + 85), .ref (b + 86), .ref (b + 87), .ref (b + 88), .ref (b + 89), .ref (b + 90), .ref (b + 91), .ref (b + 92), .int (iI (g 20)), .int (iI (g 21)), .int (iI (g 22)), .int (iI (g 23)), .int (iI (g 24)), .int (iI (g 25)), .int (iI (g 26)), .int (iI (g 27)), .ref (b + 93), .ref (b + 94), .ref (b + 95), .int (iI (g 31)), .long (jJ (g 32)), .ref (b + 96), .ref (b + 97), .ref (b + 98), .ref (b + 99), .ref (b + 100), .int (iI (g 38)), .ref (b + 101), .int (iI (g 40)), .int (iI (g 41)), .int (iI (g 42)), .int (iI (g 43)), .int (iI (g 44)), .int (iI (g 45)), .int (iI (g 46)), .int (iI (g 47)), .int (iI (g 48)), .int (iI (g 49)), .int (iI (g 50)), .int (iI (g 51))]
def encB0 (b : Nat) (cy : Nat → ClassId) (i : Nat) (g : Int → Int) : va_E := if i < 3 then (if i < 1 then (.inr (11, fl0 b g)) else (if i < 2 then (cB cy 400 (fun j => g j)) else (.inr (2, fl2 b g)))) else (if i < 5 then (if i < 4 then (cI cy 24 (fun j => g j)) else (cI cy 24 (fun j => g j))) else (if i < 6 then (cI cy 24 (fun j => g j)) else (cI cy 24 (fun j => g j))))
def encB7 (b : Nat) (cy : Nat → ClassId) (i : Nat) (g : Int → Int) : va_E := if i < 10 then (if i < 8 then (cI cy 24 (fun j => g j)) else (if i < 9 then (cI cy 30 (fun j => g j)) else (cI cy 300 (fun j => g j)))) else (if i < 12 then (if i < 11 then (cI cy 30 (fun j => g j)) else (cI cy 54 (fun j => g j))) else (if i < 13 then (.inr (5, fl12 b g)) else (.inr (2, fl13 b g))))
def encB14 (b : Nat) (cy : Nat → ClassId) (i : Nat) (g : Int → Int) : va_E := if i < 17 then (if i < 15 then (cI cy 24 (fun j => g j)) else (if i < 16 then (cI cy 24 (fun j => g j)) else (cI cy 24 (fun j => g j)))) else (if i < 19 then (if i < 18 then (cI cy 24 (fun j => g j)) else (cI cy 24 (fun j => g j))) else (if i < 20 then (cI cy 30 (fun j => g j)) else (cI cy 300 (fun j => g j))))
def encB21 (b : Nat) (cy : Nat → ClassId) (i : Nat) (g : Int → Int) : va_E := if i < 24 then (if i < 22 then (cI cy 30 (fun j => g j)) else (if i < 23 then (cI cy 54 (fun j => g j)) else (cB cy 0 (fun j => g j)))) else (if i < 26 then (if i < 25 then (cI cy 6 (fun j => g j)) else (cI cy 6 (fun j => g j))) else (if i < 27 then (.inr (3, fl26 b g)) else (cI cy 24 (fun j => g j))))
def encB28 (b : Nat) (cy : Nat → ClassId) (i : Nat) (g : Int → Int) : va_E := if i < 31 then (if i < 29 then (cI cy 24 (fun j => g j)) else (if i < 30 then (cI cy 24 (fun j => g j)) else (cI cy 6 (fun j => g j)))) else (if i < 33 then (if i < 32 then (cI cy 6 (fun j => g j)) else (cI cy 6 (fun j => g j))) else (if i < 34 then (.inr (3, fl33 b g)) else (cI cy 24 (fun j => g j))))
def encB35 (b : Nat) (cy : Nat → ClassId) (i : Nat) (g : Int → Int) : va_E := if i < 38 then (if i < 36 then (cI cy 24 (fun j => g j)) else (if i < 37 then (cI cy 24 (fun j => g j)) else (cI cy 6 (fun j => g j)))) else (if i < 40 then (if i < 39 then (cI cy 6 (fun j => g j)) else (cI cy 6 (fun j => g j))) else (if i < 41 then (.inr (0, fl40 b g)) else (cJ cy 1536 (fun j => g j))))
def encB42 (b : Nat) (cy : Nat → ClassId) (i : Nat) (g : Int → Int) : va_E := if i < 45 then (if i < 43 then (cJ cy 1536 (fun j => g j)) else (if i < 44 then (cJ cy 384 (fun j => g j)) else (cJ cy 12288 (fun j => g j)))) else (if i < 47 then (if i < 46 then (cJ cy 8 (fun j => g j)) else (cJ cy 12288 (fun j => g j))) else (if i < 48 then (.inr (4, fl47 b g)) else (.inr (0, fl48 b g))))
def encB49 (b : Nat) (cy : Nat → ClassId) (i : Nat) (g : Int → Int) : va_E := if i < 52 then (if i < 50 then (cJ cy 1536 (fun j => g j)) else (if i < 51 then (cJ cy 1536 (fun j => g j)) else (cJ cy 384 (fun j => g j)))) else (if i < 54 then (if i < 53 then (cJ cy 12288 (fun j => g j)) else (cJ cy 8 (fun j => g j))) else (if i < 55 then (cJ cy 0 (fun j => g j)) else (cJ cy 48 (fun j => g j))))
def encB56 (b : Nat) (cy : Nat → ClassId) (i : Nat) (g : Int → Int) : va_E := if i < 59 then (if i < 57 then (cJ cy 9984 (fun j => g j)) else (if i < 58 then (cJ cy 2880 (fun j => g j)) else (.inr (9, fl60 b g)))) else (if i < 61 then (if i < 60 then (.inr (8, fl61 b g)) else (cI cy 8 (fun j => g j))) else (if i < 62 then (.inl (cy 4, 192, .inr (.inr (.inr (.inr (fun j => if g j < 0 then none else some (b + ph (g j).toNat))))))) else (cB cy 256 (fun j => g j))))
def encB63 (b : Nat) (cy : Nat → ClassId) (i : Nat) (g : Int → Int) : va_E := if i < 66 then (if i < 64 then (cI cy 26 (fun j => g j)) else (if i < 65 then (cI cy 1100 (fun j => g j)) else (.inr (10, fl67 b g)))) else (if i < 68 then (if i < 67 then (cB cy 40 (fun j => g j)) else (cB cy 40 (fun j => g j))) else (if i < 69 then (cI cy 40 (fun j => g j)) else (cI cy 41 (fun j => g j))))
def encB70 (b : Nat) (cy : Nat → ClassId) (i : Nat) (g : Int → Int) : va_E := if i < 73 then (if i < 71 then (cI cy 40 (fun j => g j)) else (if i < 72 then (.inr (7, fl73 b g)) else (cI cy 48 (fun j => g j)))) else (if i < 75 then (if i < 74 then (cI cy 48 (fun j => g j)) else (cI cy 1248 (fun j => g j))) else (if i < 76 then (cI cy 1248 (fun j => g j)) else (cI cy 26 (fun j => g j))))
def encB77 (b : Nat) (cy : Nat → ClassId) (i : Nat) (g : Int → Int) : va_E := if i < 80 then (if i < 78 then (.inr (1, fl80 b g)) else (if i < 79 then (cB cy 40 (fun j => g j)) else (cI cy 10 (fun j => g j)))) else (if i < 82 then (if i < 81 then (.inr (12, fl83 b g)) else (cI cy 228 (fun j => g j))) else (if i < 83 then (cI cy 228 (fun j => g j)) else (cI cy 400 (fun j => g j))))
def encB84 (b : Nat) (cy : Nat → ClassId) (i : Nat) (g : Int → Int) : va_E := if i < 87 then (if i < 85 then (cI cy 48 (fun j => g j)) else (if i < 86 then (cI cy 6 (fun j => g j)) else (cZ cy 30 (fun j => g j)))) else (if i < 89 then (if i < 88 then (cJ cy 1920 (fun j => g j)) else (cJ cy 1536 (fun j => g j))) else (if i < 90 then (cJ cy 512 (fun j => g j)) else (cJ cy 240 (fun j => g j))))
def encB91 (b : Nat) (cy : Nat → ClassId) (i : Nat) (g : Int → Int) : va_E := if i < 94 then (if i < 92 then (cJ cy 192 (fun j => g j)) else (if i < 93 then (cJ cy 64 (fun j => g j)) else (cI cy 40 (fun j => g j)))) else (if i < 96 then (if i < 95 then (cI cy 512 (fun j => g j)) else (cI cy 512 (fun j => g j))) else (if i < 97 then (cI cy 1024 (fun j => g j)) else (cI cy 1024 (fun j => g j))))
def encB98 (b : Nat) (cy : Nat → ClassId) (i : Nat) (g : Int → Int) : va_E := if i < 100 then (if i < 99 then (cI cy 1024 (fun j => g j)) else (cI cy 1024 (fun j => g j))) else (if i < 101 then (cI cy 1024 (fun j => g j)) else (cI cy 40 (fun j => g j)))
def encC (b : Nat) (cy : Nat → ClassId) (X : Nat → va_E) (i : Nat) (g : Int → Int) : va_E := if i < 102 then (if i < 49 then (if i < 21 then (if i < 7 then (encB0 b cy i g) else (if i < 14 then (encB7 b cy i g) else (encB14 b cy i g))) else (if i < 35 then (if i < 28 then (encB21 b cy i g) else (encB28 b cy i g)) else (if i < 42 then (encB35 b cy i g) else (encB42 b cy i g)))) else (if i < 77 then (if i < 63 then (if i < 56 then (encB49 b cy i g) else (encB56 b cy i g)) else (if i < 70 then (encB63 b cy i g) else (encB70 b cy i g))) else (if i < 91 then (if i < 84 then (encB77 b cy i g) else (encB84 b cy i g)) else (if i < 98 then (encB91 b cy i g) else (encB98 b cy i g))))) else X i
def enc (b : Nat) (cy : Nat → ClassId) (X : Nat → va_E) (T : St) : Nat → va_E := fun i => encC b cy X i (T (nu i))
theorem ec_0 {b : Nat} {cy : Nat → ClassId} {X : Nat → va_E} (g : Int → Int) : encC b cy X 0 g = .inr (11, fl0 b g) := rfl
theorem ec_1 {b : Nat} {cy : Nat → ClassId} {X : Nat → va_E} (g : Int → Int) : encC b cy X 1 g = cB cy 400 (fun j => g j) := rfl
theorem ec_2 {b : Nat} {cy : Nat → ClassId} {X : Nat → va_E} (g : Int → Int) : encC b cy X 2 g = .inr (2, fl2 b g) := rfl
theorem ec_3 {b : Nat} {cy : Nat → ClassId} {X : Nat → va_E} (g : Int → Int) : encC b cy X 3 g = cI cy 24 (fun j => g j) := rfl
theorem ec_4 {b : Nat} {cy : Nat → ClassId} {X : Nat → va_E} (g : Int → Int) : encC b cy X 4 g = cI cy 24 (fun j => g j) := rfl
theorem ec_5 {b : Nat} {cy : Nat → ClassId} {X : Nat → va_E} (g : Int → Int) : encC b cy X 5 g = cI cy 24 (fun j => g j) := rfl
theorem ec_6 {b : Nat} {cy : Nat → ClassId} {X : Nat → va_E} (g : Int → Int) : encC b cy X 6 g = cI cy 24 (fun j => g j) := rfl
theorem ec_7 {b : Nat} {cy : Nat → ClassId} {X : Nat → va_E} (g : Int → Int) : encC b cy X 7 g = cI cy 24 (fun j => g j) := rfl
theorem ec_8 {b : Nat} {cy : Nat → ClassId} {X : Nat → va_E} (g : Int → Int) : encC b cy X 8 g = cI cy 30 (fun j => g j) := rfl
theorem ec_9 {b : Nat} {cy : Nat → ClassId} {X : Nat → va_E} (g : Int → Int) : encC b cy X 9 g = cI cy 300 (fun j => g j) := rfl
theorem ec_10 {b : Nat} {cy : Nat → ClassId} {X : Nat → va_E} (g : Int → Int) : encC b cy X 10 g = cI cy 30 (fun j => g j) := rfl
theorem ec_11 {b : Nat} {cy : Nat → ClassId} {X : Nat → va_E} (g : Int → Int) : encC b cy X 11 g = cI cy 54 (fun j => g j) := rfl
theorem ec_12 {b : Nat} {cy : Nat → ClassId} {X : Nat → va_E} (g : Int → Int) : encC b cy X 12 g = .inr (5, fl12 b g) := rfl
theorem ec_13 {b : Nat} {cy : Nat → ClassId} {X : Nat → va_E} (g : Int → Int) : encC b cy X 13 g = .inr (2, fl13 b g) := rfl
theorem ec_14 {b : Nat} {cy : Nat → ClassId} {X : Nat → va_E} (g : Int → Int) : encC b cy X 14 g = cI cy 24 (fun j => g j) := rfl
theorem ec_15 {b : Nat} {cy : Nat → ClassId} {X : Nat → va_E} (g : Int → Int) : encC b cy X 15 g = cI cy 24 (fun j => g j) := rfl
theorem ec_16 {b : Nat} {cy : Nat → ClassId} {X : Nat → va_E} (g : Int → Int) : encC b cy X 16 g = cI cy 24 (fun j => g j) := rfl
theorem ec_17 {b : Nat} {cy : Nat → ClassId} {X : Nat → va_E} (g : Int → Int) : encC b cy X 17 g = cI cy 24 (fun j => g j) := rfl
theorem ec_18 {b : Nat} {cy : Nat → ClassId} {X : Nat → va_E} (g : Int → Int) : encC b cy X 18 g = cI cy 24 (fun j => g j) := rfl
theorem ec_19 {b : Nat} {cy : Nat → ClassId} {X : Nat → va_E} (g : Int → Int) : encC b cy X 19 g = cI cy 30 (fun j => g j) := rfl
theorem ec_20 {b : Nat} {cy : Nat → ClassId} {X : Nat → va_E} (g : Int → Int) : encC b cy X 20 g = cI cy 300 (fun j => g j) := rfl
theorem ec_21 {b : Nat} {cy : Nat → ClassId} {X : Nat → va_E} (g : Int → Int) : encC b cy X 21 g = cI cy 30 (fun j => g j) := rfl
theorem ec_22 {b : Nat} {cy : Nat → ClassId} {X : Nat → va_E} (g : Int → Int) : encC b cy X 22 g = cI cy 54 (fun j => g j) := rfl
theorem ec_23 {b : Nat} {cy : Nat → ClassId} {X : Nat → va_E} (g : Int → Int) : encC b cy X 23 g = cB cy 0 (fun j => g j) := rfl
theorem ec_24 {b : Nat} {cy : Nat → ClassId} {X : Nat → va_E} (g : Int → Int) : encC b cy X 24 g = cI cy 6 (fun j => g j) := rfl
theorem ec_25 {b : Nat} {cy : Nat → ClassId} {X : Nat → va_E} (g : Int → Int) : encC b cy X 25 g = cI cy 6 (fun j => g j) := rfl
theorem ec_26 {b : Nat} {cy : Nat → ClassId} {X : Nat → va_E} (g : Int → Int) : encC b cy X 26 g = .inr (3, fl26 b g) := rfl
theorem ec_27 {b : Nat} {cy : Nat → ClassId} {X : Nat → va_E} (g : Int → Int) : encC b cy X 27 g = cI cy 24 (fun j => g j) := rfl
theorem ec_28 {b : Nat} {cy : Nat → ClassId} {X : Nat → va_E} (g : Int → Int) : encC b cy X 28 g = cI cy 24 (fun j => g j) := rfl
theorem ec_29 {b : Nat} {cy : Nat → ClassId} {X : Nat → va_E} (g : Int → Int) : encC b cy X 29 g = cI cy 24 (fun j => g j) := rfl
theorem ec_30 {b : Nat} {cy : Nat → ClassId} {X : Nat → va_E} (g : Int → Int) : encC b cy X 30 g = cI cy 6 (fun j => g j) := rfl
theorem ec_31 {b : Nat} {cy : Nat → ClassId} {X : Nat → va_E} (g : Int → Int) : encC b cy X 31 g = cI cy 6 (fun j => g j) := rfl
theorem ec_32 {b : Nat} {cy : Nat → ClassId} {X : Nat → va_E} (g : Int → Int) : encC b cy X 32 g = cI cy 6 (fun j => g j) := rfl
theorem ec_33 {b : Nat} {cy : Nat → ClassId} {X : Nat → va_E} (g : Int → Int) : encC b cy X 33 g = .inr (3, fl33 b g) := rfl
theorem ec_34 {b : Nat} {cy : Nat → ClassId} {X : Nat → va_E} (g : Int → Int) : encC b cy X 34 g = cI cy 24 (fun j => g j) := rfl
theorem ec_35 {b : Nat} {cy : Nat → ClassId} {X : Nat → va_E} (g : Int → Int) : encC b cy X 35 g = cI cy 24 (fun j => g j) := rfl
theorem ec_36 {b : Nat} {cy : Nat → ClassId} {X : Nat → va_E} (g : Int → Int) : encC b cy X 36 g = cI cy 24 (fun j => g j) := rfl
theorem ec_37 {b : Nat} {cy : Nat → ClassId} {X : Nat → va_E} (g : Int → Int) : encC b cy X 37 g = cI cy 6 (fun j => g j) := rfl
theorem ec_38 {b : Nat} {cy : Nat → ClassId} {X : Nat → va_E} (g : Int → Int) : encC b cy X 38 g = cI cy 6 (fun j => g j) := rfl
theorem ec_39 {b : Nat} {cy : Nat → ClassId} {X : Nat → va_E} (g : Int → Int) : encC b cy X 39 g = cI cy 6 (fun j => g j) := rfl
theorem ec_40 {b : Nat} {cy : Nat → ClassId} {X : Nat → va_E} (g : Int → Int) : encC b cy X 40 g = .inr (0, fl40 b g) := rfl
theorem ec_41 {b : Nat} {cy : Nat → ClassId} {X : Nat → va_E} (g : Int → Int) : encC b cy X 41 g = cJ cy 1536 (fun j => g j) := rfl
theorem ec_42 {b : Nat} {cy : Nat → ClassId} {X : Nat → va_E} (g : Int → Int) : encC b cy X 42 g = cJ cy 1536 (fun j => g j) := rfl
theorem ec_43 {b : Nat} {cy : Nat → ClassId} {X : Nat → va_E} (g : Int → Int) : encC b cy X 43 g = cJ cy 384 (fun j => g j) := rfl
theorem ec_44 {b : Nat} {cy : Nat → ClassId} {X : Nat → va_E} (g : Int → Int) : encC b cy X 44 g = cJ cy 12288 (fun j => g j) := rfl
theorem ec_45 {b : Nat} {cy : Nat → ClassId} {X : Nat → va_E} (g : Int → Int) : encC b cy X 45 g = cJ cy 8 (fun j => g j) := rfl
theorem ec_46 {b : Nat} {cy : Nat → ClassId} {X : Nat → va_E} (g : Int → Int) : encC b cy X 46 g = cJ cy 12288 (fun j => g j) := rfl
theorem ec_47 {b : Nat} {cy : Nat → ClassId} {X : Nat → va_E} (g : Int → Int) : encC b cy X 47 g = .inr (4, fl47 b g) := rfl
theorem ec_48 {b : Nat} {cy : Nat → ClassId} {X : Nat → va_E} (g : Int → Int) : encC b cy X 48 g = .inr (0, fl48 b g) := rfl
theorem ec_49 {b : Nat} {cy : Nat → ClassId} {X : Nat → va_E} (g : Int → Int) : encC b cy X 49 g = cJ cy 1536 (fun j => g j) := rfl
theorem ec_50 {b : Nat} {cy : Nat → ClassId} {X : Nat → va_E} (g : Int → Int) : encC b cy X 50 g = cJ cy 1536 (fun j => g j) := rfl
theorem ec_51 {b : Nat} {cy : Nat → ClassId} {X : Nat → va_E} (g : Int → Int) : encC b cy X 51 g = cJ cy 384 (fun j => g j) := rfl
theorem ec_52 {b : Nat} {cy : Nat → ClassId} {X : Nat → va_E} (g : Int → Int) : encC b cy X 52 g = cJ cy 12288 (fun j => g j) := rfl
theorem ec_53 {b : Nat} {cy : Nat → ClassId} {X : Nat → va_E} (g : Int → Int) : encC b cy X 53 g = cJ cy 8 (fun j => g j) := rfl
theorem ec_54 {b : Nat} {cy : Nat → ClassId} {X : Nat → va_E} (g : Int → Int) : encC b cy X 54 g = cJ cy 0 (fun j => g j) := rfl
theorem ec_57 {b : Nat} {cy : Nat → ClassId} {X : Nat → va_E} (g : Int → Int) : encC b cy X 55 g = cJ cy 48 (fun j => g j) := rfl
theorem ec_58 {b : Nat} {cy : Nat → ClassId} {X : Nat → va_E} (g : Int → Int) : encC b cy X 56 g = cJ cy 9984 (fun j => g j) := rfl
theorem ec_59 {b : Nat} {cy : Nat → ClassId} {X : Nat → va_E} (g : Int → Int) : encC b cy X 57 g = cJ cy 2880 (fun j => g j) := rfl
theorem ec_60 {b : Nat} {cy : Nat → ClassId} {X : Nat → va_E} (g : Int → Int) : encC b cy X 58 g = .inr (9, fl60 b g) := rfl
theorem ec_61 {b : Nat} {cy : Nat → ClassId} {X : Nat → va_E} (g : Int → Int) : encC b cy X 59 g = .inr (8, fl61 b g) := rfl
theorem ec_62 {b : Nat} {cy : Nat → ClassId} {X : Nat → va_E} (g : Int → Int) : encC b cy X 60 g = cI cy 8 (fun j => g j) := rfl
theorem ec_63 {b : Nat} {cy : Nat → ClassId} {X : Nat → va_E} (g : Int → Int) : encC b cy X 61 g = .inl (cy 4, 192, .inr (.inr (.inr (.inr (fun j => if g j < 0 then none else some (b + ph (g j).toNat)))))) := rfl
theorem ec_64 {b : Nat} {cy : Nat → ClassId} {X : Nat → va_E} (g : Int → Int) : encC b cy X 62 g = cB cy 256 (fun j => g j) := rfl
theorem ec_65 {b : Nat} {cy : Nat → ClassId} {X : Nat → va_E} (g : Int → Int) : encC b cy X 63 g = cI cy 26 (fun j => g j) := rfl
theorem ec_66 {b : Nat} {cy : Nat → ClassId} {X : Nat → va_E} (g : Int → Int) : encC b cy X 64 g = cI cy 1100 (fun j => g j) := rfl
theorem ec_67 {b : Nat} {cy : Nat → ClassId} {X : Nat → va_E} (g : Int → Int) : encC b cy X 65 g = .inr (10, fl67 b g) := rfl
theorem ec_68 {b : Nat} {cy : Nat → ClassId} {X : Nat → va_E} (g : Int → Int) : encC b cy X 66 g = cB cy 40 (fun j => g j) := rfl
theorem ec_69 {b : Nat} {cy : Nat → ClassId} {X : Nat → va_E} (g : Int → Int) : encC b cy X 67 g = cB cy 40 (fun j => g j) := rfl
theorem ec_70 {b : Nat} {cy : Nat → ClassId} {X : Nat → va_E} (g : Int → Int) : encC b cy X 68 g = cI cy 40 (fun j => g j) := rfl
theorem ec_71 {b : Nat} {cy : Nat → ClassId} {X : Nat → va_E} (g : Int → Int) : encC b cy X 69 g = cI cy 41 (fun j => g j) := rfl
theorem ec_72 {b : Nat} {cy : Nat → ClassId} {X : Nat → va_E} (g : Int → Int) : encC b cy X 70 g = cI cy 40 (fun j => g j) := rfl
theorem ec_73 {b : Nat} {cy : Nat → ClassId} {X : Nat → va_E} (g : Int → Int) : encC b cy X 71 g = .inr (7, fl73 b g) := rfl
theorem ec_75 {b : Nat} {cy : Nat → ClassId} {X : Nat → va_E} (g : Int → Int) : encC b cy X 72 g = cI cy 48 (fun j => g j) := rfl
theorem ec_76 {b : Nat} {cy : Nat → ClassId} {X : Nat → va_E} (g : Int → Int) : encC b cy X 73 g = cI cy 48 (fun j => g j) := rfl
theorem ec_77 {b : Nat} {cy : Nat → ClassId} {X : Nat → va_E} (g : Int → Int) : encC b cy X 74 g = cI cy 1248 (fun j => g j) := rfl
theorem ec_78 {b : Nat} {cy : Nat → ClassId} {X : Nat → va_E} (g : Int → Int) : encC b cy X 75 g = cI cy 1248 (fun j => g j) := rfl
theorem ec_79 {b : Nat} {cy : Nat → ClassId} {X : Nat → va_E} (g : Int → Int) : encC b cy X 76 g = cI cy 26 (fun j => g j) := rfl
theorem ec_80 {b : Nat} {cy : Nat → ClassId} {X : Nat → va_E} (g : Int → Int) : encC b cy X 77 g = .inr (1, fl80 b g) := rfl
theorem ec_81 {b : Nat} {cy : Nat → ClassId} {X : Nat → va_E} (g : Int → Int) : encC b cy X 78 g = cB cy 40 (fun j => g j) := rfl
theorem ec_82 {b : Nat} {cy : Nat → ClassId} {X : Nat → va_E} (g : Int → Int) : encC b cy X 79 g = cI cy 10 (fun j => g j) := rfl
theorem ec_83 {b : Nat} {cy : Nat → ClassId} {X : Nat → va_E} (g : Int → Int) : encC b cy X 80 g = .inr (12, fl83 b g) := rfl
theorem ec_84 {b : Nat} {cy : Nat → ClassId} {X : Nat → va_E} (g : Int → Int) : encC b cy X 81 g = cI cy 228 (fun j => g j) := rfl
theorem ec_85 {b : Nat} {cy : Nat → ClassId} {X : Nat → va_E} (g : Int → Int) : encC b cy X 82 g = cI cy 228 (fun j => g j) := rfl
theorem ec_86 {b : Nat} {cy : Nat → ClassId} {X : Nat → va_E} (g : Int → Int) : encC b cy X 83 g = cI cy 400 (fun j => g j) := rfl
theorem ec_87 {b : Nat} {cy : Nat → ClassId} {X : Nat → va_E} (g : Int → Int) : encC b cy X 84 g = cI cy 48 (fun j => g j) := rfl
theorem ec_88 {b : Nat} {cy : Nat → ClassId} {X : Nat → va_E} (g : Int → Int) : encC b cy X 85 g = cI cy 6 (fun j => g j) := rfl
theorem ec_89 {b : Nat} {cy : Nat → ClassId} {X : Nat → va_E} (g : Int → Int) : encC b cy X 86 g = cZ cy 30 (fun j => g j) := rfl
theorem ec_90 {b : Nat} {cy : Nat → ClassId} {X : Nat → va_E} (g : Int → Int) : encC b cy X 87 g = cJ cy 1920 (fun j => g j) := rfl
theorem ec_91 {b : Nat} {cy : Nat → ClassId} {X : Nat → va_E} (g : Int → Int) : encC b cy X 88 g = cJ cy 1536 (fun j => g j) := rfl
theorem ec_92 {b : Nat} {cy : Nat → ClassId} {X : Nat → va_E} (g : Int → Int) : encC b cy X 89 g = cJ cy 512 (fun j => g j) := rfl
theorem ec_93 {b : Nat} {cy : Nat → ClassId} {X : Nat → va_E} (g : Int → Int) : encC b cy X 90 g = cJ cy 240 (fun j => g j) := rfl
theorem ec_94 {b : Nat} {cy : Nat → ClassId} {X : Nat → va_E} (g : Int → Int) : encC b cy X 91 g = cJ cy 192 (fun j => g j) := rfl
theorem ec_95 {b : Nat} {cy : Nat → ClassId} {X : Nat → va_E} (g : Int → Int) : encC b cy X 92 g = cJ cy 64 (fun j => g j) := rfl
theorem ec_96 {b : Nat} {cy : Nat → ClassId} {X : Nat → va_E} (g : Int → Int) : encC b cy X 93 g = cI cy 40 (fun j => g j) := rfl
theorem ec_97 {b : Nat} {cy : Nat → ClassId} {X : Nat → va_E} (g : Int → Int) : encC b cy X 94 g = cI cy 512 (fun j => g j) := rfl
theorem ec_98 {b : Nat} {cy : Nat → ClassId} {X : Nat → va_E} (g : Int → Int) : encC b cy X 95 g = cI cy 512 (fun j => g j) := rfl
theorem ec_99 {b : Nat} {cy : Nat → ClassId} {X : Nat → va_E} (g : Int → Int) : encC b cy X 96 g = cI cy 1024 (fun j => g j) := rfl
theorem ec_100 {b : Nat} {cy : Nat → ClassId} {X : Nat → va_E} (g : Int → Int) : encC b cy X 97 g = cI cy 1024 (fun j => g j) := rfl
theorem ec_101 {b : Nat} {cy : Nat → ClassId} {X : Nat → va_E} (g : Int → Int) : encC b cy X 98 g = cI cy 1024 (fun j => g j) := rfl
theorem ec_102 {b : Nat} {cy : Nat → ClassId} {X : Nat → va_E} (g : Int → Int) : encC b cy X 99 g = cI cy 1024 (fun j => g j) := rfl
theorem ec_103 {b : Nat} {cy : Nat → ClassId} {X : Nat → va_E} (g : Int → Int) : encC b cy X 100 g = cI cy 1024 (fun j => g j) := rfl
theorem ec_104 {b : Nat} {cy : Nat → ClassId} {X : Nat → va_E} (g : Int → Int) : encC b cy X 101 g = cI cy 40 (fun j => g j) := rfl
theorem pf_0_1 {b : Nat} {z : Int} (g : Int → Int) : (fl0 b g).set 1 (.int (iI z)) = fl0 b (upI g 1 z) := rfl
theorem pf_0_4 {b : Nat} {z : Int} (g : Int → Int) : (fl0 b g).set 4 (.int (iI z)) = fl0 b (upI g 4 z) := rfl
theorem pf_0_5 {b : Nat} {z : Int} (g : Int → Int) : (fl0 b g).set 5 (.int (iI z)) = fl0 b (upI g 5 z) := rfl
theorem pf_0_15 {b : Nat} {z : Int} (g : Int → Int) : (fl0 b g).set 15 (.int (iI z)) = fl0 b (upI g 15 z) := rfl
theorem pf_0_16 {b : Nat} {z : Int} (g : Int → Int) : (fl0 b g).set 16 (.int (iI z)) = fl0 b (upI g 16 z) := rfl
theorem pf_0_17 {b : Nat} {z : Int} (g : Int → Int) : (fl0 b g).set 17 (.int (iI z)) = fl0 b (upI g 17 z) := rfl
theorem pf_0_18 {b : Nat} {z : Int} (g : Int → Int) : (fl0 b g).set 18 (.int (iI z)) = fl0 b (upI g 18 z) := rfl
theorem pf_2_0 {b : Nat} {z : Int} (g : Int → Int) : (fl2 b g).set 0 (.int (iI z)) = fl2 b (upI g 0 z) := rfl
theorem pf_2_1 {b : Nat} {z : Int} (g : Int → Int) : (fl2 b g).set 1 (.int (iI z)) = fl2 b (upI g 1 z) := rfl
theorem pf_2_2 {b : Nat} {z : Int} (g : Int → Int) : (fl2 b g).set 2 (.int (iI z)) = fl2 b (upI g 2 z) := rfl
theorem pf_2_3 {b : Nat} {z : Int} (g : Int → Int) : (fl2 b g).set 3 (.int (iI z)) = fl2 b (upI g 3 z) := rfl
theorem pf_2_4 {b : Nat} {z : Int} (g : Int → Int) : (fl2 b g).set 4 (.int (iI z)) = fl2 b (upI g 4 z) := rfl
theorem pf_12_1 {b : Nat} {z : Int} (g : Int → Int) : (fl12 b g).set 1 (.int (iI z)) = fl12 b (upI g 1 z) := rfl
theorem pf_12_2 {b : Nat} {z : Int} (g : Int → Int) : (fl12 b g).set 2 (.int (iI z)) = fl12 b (upI g 2 z) := rfl
theorem pf_12_4 {b : Nat} {z : Int} (g : Int → Int) : (fl12 b g).set 4 (.ref (b + ph z.toNat)) = fl12 b (upI g 4 z) := rfl
theorem pf_12_5 {b : Nat} {z : Int} (g : Int → Int) : (fl12 b g).set 5 (.int (iI z)) = fl12 b (upI g 5 z) := rfl
theorem pf_12_6 {b : Nat} {z : Int} (g : Int → Int) : (fl12 b g).set 6 (.int (iI z)) = fl12 b (upI g 6 z) := rfl
theorem pf_12_7 {b : Nat} {z : Int} (g : Int → Int) : (fl12 b g).set 7 (.int (iI z)) = fl12 b (upI g 7 z) := rfl
theorem pf_12_8 {b : Nat} {z : Int} (g : Int → Int) : (fl12 b g).set 8 (.int (iI z)) = fl12 b (upI g 8 z) := rfl
theorem pf_12_9 {b : Nat} {z : Int} (g : Int → Int) : (fl12 b g).set 9 (.int (iI z)) = fl12 b (upI g 9 z) := rfl
theorem pf_12_10 {b : Nat} {z : Int} (g : Int → Int) : (fl12 b g).set 10 (.int (iI z)) = fl12 b (upI g 10 z) := rfl
theorem pf_13_0 {b : Nat} {z : Int} (g : Int → Int) : (fl13 b g).set 0 (.int (iI z)) = fl13 b (upI g 0 z) := rfl
theorem pf_13_1 {b : Nat} {z : Int} (g : Int → Int) : (fl13 b g).set 1 (.int (iI z)) = fl13 b (upI g 1 z) := rfl
theorem pf_13_2 {b : Nat} {z : Int} (g : Int → Int) : (fl13 b g).set 2 (.int (iI z)) = fl13 b (upI g 2 z) := rfl
theorem pf_13_3 {b : Nat} {z : Int} (g : Int → Int) : (fl13 b g).set 3 (.int (iI z)) = fl13 b (upI g 3 z) := rfl
theorem pf_13_4 {b : Nat} {z : Int} (g : Int → Int) : (fl13 b g).set 4 (.int (iI z)) = fl13 b (upI g 4 z) := rfl
theorem pf_26_1 {b : Nat} {z : Int} (g : Int → Int) : (fl26 b g).set 1 (.int (iI z)) = fl26 b (upI g 1 z) := rfl
theorem pf_26_2 {b : Nat} {z : Int} (g : Int → Int) : (fl26 b g).set 2 (.int (iI z)) = fl26 b (upI g 2 z) := rfl
theorem pf_33_1 {b : Nat} {z : Int} (g : Int → Int) : (fl33 b g).set 1 (.int (iI z)) = fl33 b (upI g 1 z) := rfl
theorem pf_33_2 {b : Nat} {z : Int} (g : Int → Int) : (fl33 b g).set 2 (.int (iI z)) = fl33 b (upI g 2 z) := rfl
theorem pf_40_1 {b : Nat} {z : Int} (g : Int → Int) : (fl40 b g).set 1 (.int (iI z)) = fl40 b (upI g 1 z) := rfl
theorem pf_47_2 {b : Nat} {z : Int} (g : Int → Int) : (fl47 b g).set 2 (.int (iI z)) = fl47 b (upI g 2 z) := rfl
theorem pf_47_3 {b : Nat} {z : Int} (g : Int → Int) : (fl47 b g).set 3 (.int (iI z)) = fl47 b (upI g 3 z) := rfl
theorem pf_47_4 {b : Nat} {z : Int} (g : Int → Int) : (fl47 b g).set 4 (.long (jJ z)) = fl47 b (upI g 4 z) := rfl
theorem pf_48_1 {b : Nat} {z : Int} (g : Int → Int) : (fl48 b g).set 1 (.int (iI z)) = fl48 b (upI g 1 z) := rfl
theorem pf_60_3 {b : Nat} {z : Int} (g : Int → Int) : (fl60 b g).set 3 (.ref (b + ph z.toNat)) = fl60 b (upI g 3 z) := rfl
theorem pf_60_4 {b : Nat} {z : Int} (g : Int → Int) : (fl60 b g).set 4 (.int (iI z)) = fl60 b (upI g 4 z) := rfl
theorem pf_60_5 {b : Nat} {z : Int} (g : Int → Int) : (fl60 b g).set 5 (.int (iI z)) = fl60 b (upI g 5 z) := rfl
theorem pf_60_6 {b : Nat} {z : Int} (g : Int → Int) : (fl60 b g).set 6 (.int (iI z)) = fl60 b (upI g 6 z) := rfl
theorem pf_60_7 {b : Nat} {z : Int} (g : Int → Int) : (fl60 b g).set 7 (.int (iI z)) = fl60 b (upI g 7 z) := rfl
theorem pf_60_8 {b : Nat} {z : Int} (g : Int → Int) : (fl60 b g).set 8 (.int (iI z)) = fl60 b (upI g 8 z) := rfl
theorem pf_60_10 {b : Nat} {z : Int} (g : Int → Int) : (fl60 b g).set 10 (.int (iI z)) = fl60 b (upI g 10 z) := rfl
theorem pf_60_12 {b : Nat} {z : Int} (g : Int → Int) : (fl60 b g).set 12 (.int (iI z)) = fl60 b (upI g 12 z) := rfl
theorem pf_60_13 {b : Nat} {z : Int} (g : Int → Int) : (fl60 b g).set 13 (.int (iI z)) = fl60 b (upI g 13 z) := rfl
theorem pf_60_14 {b : Nat} {z : Int} (g : Int → Int) : (fl60 b g).set 14 (.int (iI z)) = fl60 b (upI g 14 z) := rfl
theorem pf_61_2 {b : Nat} {z : Int} (g : Int → Int) : (fl61 b g).set 2 (.int (iI z)) = fl61 b (upI g 2 z) := rfl
theorem pf_61_5 {b : Nat} {z : Int} (g : Int → Int) : (fl61 b g).set 5 (.int (iI z)) = fl61 b (upI g 5 z) := rfl
theorem pf_67_3 {b : Nat} {z : Int} (g : Int → Int) : (fl67 b g).set 3 (.int (iI z)) = fl67 b (upI g 3 z) := rfl
theorem pf_67_4 {b : Nat} {z : Int} (g : Int → Int) : (fl67 b g).set 4 (.int (iI z)) = fl67 b (upI g 4 z) := rfl
theorem pf_67_5 {b : Nat} {z : Int} (g : Int → Int) : (fl67 b g).set 5 (.int (iI z)) = fl67 b (upI g 5 z) := rfl
theorem pf_67_6 {b : Nat} {z : Int} (g : Int → Int) : (fl67 b g).set 6 (.int (iI z)) = fl67 b (upI g 6 z) := rfl
theorem pf_67_8 {b : Nat} {z : Int} (g : Int → Int) : (fl67 b g).set 8 (.int (iI z)) = fl67 b (upI g 8 z) := rfl
theorem pf_67_10 {b : Nat} {z : Int} (g : Int → Int) : (fl67 b g).set 10 (.int (iI z)) = fl67 b (upI g 10 z) := rfl
theorem pf_67_12 {b : Nat} {z : Int} (g : Int → Int) : (fl67 b g).set 12 (.int (iI z)) = fl67 b (upI g 12 z) := rfl
theorem pf_73_1 {b : Nat} {z : Int} (g : Int → Int) : (fl73 b g).set 1 (.long (jJ z)) = fl73 b (upI g 1 z) := rfl
theorem pf_73_6 {b : Nat} {z : Int} (g : Int → Int) : (fl73 b g).set 6 (.int (iI z)) = fl73 b (upI g 6 z) := rfl
theorem pf_73_7 {b : Nat} {z : Int} (g : Int → Int) : (fl73 b g).set 7 (.int (iI z)) = fl73 b (upI g 7 z) := rfl
theorem pf_80_1 {b : Nat} {z : Int} (g : Int → Int) : (fl80 b g).set 1 (.int (iI z)) = fl80 b (upI g 1 z) := rfl
theorem pf_80_2 {b : Nat} {z : Int} (g : Int → Int) : (fl80 b g).set 2 (.int (iI z)) = fl80 b (upI g 2 z) := rfl
theorem pf_80_3 {b : Nat} {z : Int} (g : Int → Int) : (fl80 b g).set 3 (.int (iI z)) = fl80 b (upI g 3 z) := rfl
theorem pf_80_4 {b : Nat} {z : Int} (g : Int → Int) : (fl80 b g).set 4 (.int (iI z)) = fl80 b (upI g 4 z) := rfl
theorem pf_80_5 {b : Nat} {z : Int} (g : Int → Int) : (fl80 b g).set 5 (.int (iI z)) = fl80 b (upI g 5 z) := rfl
theorem pf_80_6 {b : Nat} {z : Int} (g : Int → Int) : (fl80 b g).set 6 (.int (iI z)) = fl80 b (upI g 6 z) := rfl
theorem pf_83_3 {b : Nat} {z : Int} (g : Int → Int) : (fl83 b g).set 3 (.int (iI z)) = fl83 b (upI g 3 z) := rfl
theorem pf_83_4 {b : Nat} {z : Int} (g : Int → Int) : (fl83 b g).set 4 (.int (iI z)) = fl83 b (upI g 4 z) := rfl
theorem pf_83_5 {b : Nat} {z : Int} (g : Int → Int) : (fl83 b g).set 5 (.int (iI z)) = fl83 b (upI g 5 z) := rfl
theorem pf_83_6 {b : Nat} {z : Int} (g : Int → Int) : (fl83 b g).set 6 (.int (iI z)) = fl83 b (upI g 6 z) := rfl
theorem pf_83_7 {b : Nat} {z : Int} (g : Int → Int) : (fl83 b g).set 7 (.int (iI z)) = fl83 b (upI g 7 z) := rfl
theorem pf_83_8 {b : Nat} {z : Int} (g : Int → Int) : (fl83 b g).set 8 (.int (iI z)) = fl83 b (upI g 8 z) := rfl
theorem pf_83_9 {b : Nat} {z : Int} (g : Int → Int) : (fl83 b g).set 9 (.int (iI z)) = fl83 b (upI g 9 z) := rfl
theorem pf_83_10 {b : Nat} {z : Int} (g : Int → Int) : (fl83 b g).set 10 (.int (iI z)) = fl83 b (upI g 10 z) := rfl
theorem pf_83_20 {b : Nat} {z : Int} (g : Int → Int) : (fl83 b g).set 20 (.int (iI z)) = fl83 b (upI g 20 z) := rfl
theorem pf_83_21 {b : Nat} {z : Int} (g : Int → Int) : (fl83 b g).set 21 (.int (iI z)) = fl83 b (upI g 21 z) := rfl
theorem pf_83_22 {b : Nat} {z : Int} (g : Int → Int) : (fl83 b g).set 22 (.int (iI z)) = fl83 b (upI g 22 z) := rfl
theorem pf_83_23 {b : Nat} {z : Int} (g : Int → Int) : (fl83 b g).set 23 (.int (iI z)) = fl83 b (upI g 23 z) := rfl
theorem pf_83_24 {b : Nat} {z : Int} (g : Int → Int) : (fl83 b g).set 24 (.int (iI z)) = fl83 b (upI g 24 z) := rfl
theorem pf_83_25 {b : Nat} {z : Int} (g : Int → Int) : (fl83 b g).set 25 (.int (iI z)) = fl83 b (upI g 25 z) := rfl
theorem pf_83_26 {b : Nat} {z : Int} (g : Int → Int) : (fl83 b g).set 26 (.int (iI z)) = fl83 b (upI g 26 z) := rfl
theorem pf_83_27 {b : Nat} {z : Int} (g : Int → Int) : (fl83 b g).set 27 (.int (iI z)) = fl83 b (upI g 27 z) := rfl
theorem pf_83_31 {b : Nat} {z : Int} (g : Int → Int) : (fl83 b g).set 31 (.int (iI z)) = fl83 b (upI g 31 z) := rfl
theorem pf_83_32 {b : Nat} {z : Int} (g : Int → Int) : (fl83 b g).set 32 (.long (jJ z)) = fl83 b (upI g 32 z) := rfl
theorem pf_83_38 {b : Nat} {z : Int} (g : Int → Int) : (fl83 b g).set 38 (.int (iI z)) = fl83 b (upI g 38 z) := rfl
theorem pf_83_40 {b : Nat} {z : Int} (g : Int → Int) : (fl83 b g).set 40 (.int (iI z)) = fl83 b (upI g 40 z) := rfl
theorem pf_83_41 {b : Nat} {z : Int} (g : Int → Int) : (fl83 b g).set 41 (.int (iI z)) = fl83 b (upI g 41 z) := rfl
theorem pf_83_42 {b : Nat} {z : Int} (g : Int → Int) : (fl83 b g).set 42 (.int (iI z)) = fl83 b (upI g 42 z) := rfl
theorem pf_83_43 {b : Nat} {z : Int} (g : Int → Int) : (fl83 b g).set 43 (.int (iI z)) = fl83 b (upI g 43 z) := rfl
theorem pf_83_44 {b : Nat} {z : Int} (g : Int → Int) : (fl83 b g).set 44 (.int (iI z)) = fl83 b (upI g 44 z) := rfl
theorem pf_83_45 {b : Nat} {z : Int} (g : Int → Int) : (fl83 b g).set 45 (.int (iI z)) = fl83 b (upI g 45 z) := rfl
theorem pf_83_46 {b : Nat} {z : Int} (g : Int → Int) : (fl83 b g).set 46 (.int (iI z)) = fl83 b (upI g 46 z) := rfl
theorem pf_83_47 {b : Nat} {z : Int} (g : Int → Int) : (fl83 b g).set 47 (.int (iI z)) = fl83 b (upI g 47 z) := rfl
theorem pf_83_48 {b : Nat} {z : Int} (g : Int → Int) : (fl83 b g).set 48 (.int (iI z)) = fl83 b (upI g 48 z) := rfl
theorem pf_83_49 {b : Nat} {z : Int} (g : Int → Int) : (fl83 b g).set 49 (.int (iI z)) = fl83 b (upI g 49 z) := rfl
theorem pf_83_50 {b : Nat} {z : Int} (g : Int → Int) : (fl83 b g).set 50 (.int (iI z)) = fl83 b (upI g 50 z) := rfl
theorem pf_83_51 {b : Nat} {z : Int} (g : Int → Int) : (fl83 b g).set 51 (.int (iI z)) = fl83 b (upI g 51 z) := rfl
section GM3
variable {p : Program} {l : Launch} {e : Env} {R : Room} {s : State} {m : MethodId} {args : Array Value} {below : List Frame} {meth : Method} {c : Code} {H : Heap} {locs : List Loc} {cells slots : Nat} {Q : State → Prop} {cc : ByteArray} {pc nL : Nat} {ls : Array Slot} {rest : List Value} {own : String} {D : va_G} {cy : Nat → ClassId} {b n : Nat} {X : Nat → va_E} {T : St} {index : Nat}
theorem enc_up {i w : Nat} {k v : Int} {x : va_E} (hw : nu i = w) (hx : encC b cy X i (upI (T w) k v) = x) : upE (enc b cy X T) i x = enc b cy X (up T w k v) := by
  subst hw
  funext j
  by_cases h : j = i
  · subst h
    rw [upE_s]
    show x = encC b cy X j (up T (nu j) k v (nu j))
    rw [up_s, hx]
  · rw [upE_n h]
    show encC b cy X j (T (nu j)) = encC b cy X j (up T (nu i) k v (nu j))
    rw [up_n (fun e => h (nu_inj e))]
theorem upI_Z {g : Int → Int} {a v : Int} (h : 0 ≤ a) : (upZ (fun j : Nat => g j) a.toNat v) = fun j : Nat => upI g a v j := by
  funext j
  unfold upI upZ
  by_cases hj : j = a.toNat
  · rw [if_pos hj, if_pos (by omega)]
  · rw [if_neg hj, if_neg (by omega)]
theorem m_get (S : CallFix p m c cc nL s args gT own) (hG : gW D cy b n s H locs (enc b cy X T)) (i w k : Nat) (hw : nu i = w) {ci N : Nat} {C : String} {T0 : u_T} {ty : Nat → FieldType} {fl : (Int → Int) → List Value} {v : Value} (he : ∀ g : Int → Int, encC b cy X i g = .inr (ci, fl g)) (P : cP ci C T0 N ty) (hlink : Cond.fieldLink own index (T0 k).1 (T0 k).2.1 (T0 k).2.2.1 ∈ gT) (hdg : decode cc pc = .ok (.getfield index, 3)) (hv : (fl (T w))[k]? = some v) (hi : i < n) (hk : k < N)
    (kk : W p l e R s m args below meth c H locs cells slots Q (F0 m (pc + 3) ls (v :: rest))) : W p l e R s m args below meth c H locs cells slots Q (F0 m pc ls (.ref (b + i) :: rest)) :=
  by subst hw; exact g_get S hG i k (he (T (nu i))) P hlink hdg hv hi hk kk
theorem m_put (S : CallFix p m c cc nL s args gT own) (hG : gW D cy b n s H locs (enc b cy X T)) (i w k : Nat) (hw : nu i = w) (kz z : Int) {ci N : Nat} {C : String} {T0 : u_T} {ty : Nat → FieldType} {fl : (Int → Int) → List Value} {v : Value} (he : ∀ g : Int → Int, encC b cy X i g = .inr (ci, fl g)) (P : cP ci C T0 N ty) (hlink : Cond.fieldLink own index (T0 k).1 (T0 k).2.1 (T0 k).2.2.1 ∈ gT) (hdg : decode cc pc = .ok (.putfield index, 3)) (hfs : ∀ g : Int → Int, (fl g).set k v = fl (upI g kz z)) (hi : i < n) (hk : k < N) (hl : k < (fl (T w)).length) (hfin : (T0 k).2.2.2 = false) (hn : narrow (ty k) v = v) (hfit : fits (ty k) v = true)
    (kk : ∀ (H1 : Heap) (locs : List Loc) (T1 : St), T1 = up T w kz z → gW D cy b n s H1 locs (enc b cy X T1) → W p l e R s m args below meth c H1 locs cells slots Q (F0 m (pc + 3) ls rest)) : W p l e R s m args below meth c H locs cells slots Q (F0 m pc ls (v :: .ref (b + i) :: rest)) :=
  by subst hw; exact g_put S hG i k (he (T (nu i))) P hlink hdg (hfs (T (nu i))) hi hk hl hfin hn hfit fun H1 l1 h1 => kk H1 l1 _ rfl (by rw [enc_up rfl (he _)] at h1; exact h1)
theorem mi_ald (S : CallFix p m c cc nL s args gT own) (hG : gW D cy b n s H locs (enc b cy X T)) (i w : Nat) (hw : nu i = w) {N : Nat} {a : Int} (he : ∀ g : Int → Int, encC b cy X i g = cI cy N (fun j => g j)) (hj : i < n) (hdg : decode cc pc = .ok (.iaload, 1)) (hin : 0 ≤ a ∧ a < N) (hN : N ≤ 2147483647)
    (kk : W p l e R s m args below meth c H locs cells slots Q (F0 m (pc + 1) ls (.int (iI (T w a)) :: rest))) : W p l e R s m args below meth c H locs cells slots Q (F0 m pc ls (.int (iI a) :: .ref (b + i) :: rest)) :=
  by subst hw; exact gi_ald S hG i (he (T (nu i))) hj hdg hin hN (gi_as (T (nu i) a) (by show iI (T (nu i) ((a.toNat : Nat) : Int)) = _; rw [Int.toNat_of_nonneg hin.1]) kk)
theorem mb_ald (S : CallFix p m c cc nL s args gT own) (hG : gW D cy b n s H locs (enc b cy X T)) (i w : Nat) (hw : nu i = w) {N : Nat} {a : Int} (he : ∀ g : Int → Int, encC b cy X i g = cB cy N (fun j => g j)) (hj : i < n) (hdg : decode cc pc = .ok (.baload, 1)) (hin : 0 ≤ a ∧ a < N) (hN : N ≤ 2147483647)
    (kk : W p l e R s m args below meth c H locs cells slots Q (F0 m (pc + 1) ls (.int (iI (T w a)) :: rest))) : W p l e R s m args below meth c H locs cells slots Q (F0 m pc ls (.int (iI a) :: .ref (b + i) :: rest)) :=
  by subst hw; exact gb_ald S hG i (he (T (nu i))) hj hdg hin hN (gi_as (T (nu i) a) (by show iI (T (nu i) ((a.toNat : Nat) : Int)) = _; rw [Int.toNat_of_nonneg hin.1]) kk)
theorem mz_ald (S : CallFix p m c cc nL s args gT own) (hG : gW D cy b n s H locs (enc b cy X T)) (i w : Nat) (hw : nu i = w) {N : Nat} {a : Int} (he : ∀ g : Int → Int, encC b cy X i g = cZ cy N (fun j => g j)) (hj : i < n) (hdg : decode cc pc = .ok (.baload, 1)) (hin : 0 ≤ a ∧ a < N) (hN : N ≤ 2147483647)
    (kk : W p l e R s m args below meth c H locs cells slots Q (F0 m (pc + 1) ls (.int (iI (T w a)) :: rest))) : W p l e R s m args below meth c H locs cells slots Q (F0 m pc ls (.int (iI a) :: .ref (b + i) :: rest)) :=
  by subst hw; exact gz_ald S hG i (he (T (nu i))) hj hdg hin hN (gi_as (T (nu i) a) (by show iI (T (nu i) ((a.toNat : Nat) : Int)) = _; rw [Int.toNat_of_nonneg hin.1]) kk)
theorem mj_ald (S : CallFix p m c cc nL s args gT own) (hG : gW D cy b n s H locs (enc b cy X T)) (i w : Nat) (hw : nu i = w) {N : Nat} {a : Int} (he : ∀ g : Int → Int, encC b cy X i g = cJ cy N (fun j => g j)) (hj : i < n) (hdg : decode cc pc = .ok (.laload, 1)) (hin : 0 ≤ a ∧ a < N) (hN : N ≤ 2147483647)
    (kk : W p l e R s m args below meth c H locs cells slots Q (F0 m (pc + 1) ls (.long (jJ (T w a)) :: rest))) : W p l e R s m args below meth c H locs cells slots Q (F0 m pc ls (.int (iI a) :: .ref (b + i) :: rest)) :=
  by subst hw; exact gj_ald S hG i (he (T (nu i))) hj hdg hin hN (gj_as (T (nu i) a) (by show jJ (T (nu i) ((a.toNat : Nat) : Int)) = _; rw [Int.toNat_of_nonneg hin.1]) kk)
theorem mi_ast (S : CallFix p m c cc nL s args gT own) (hG : gW D cy b n s H locs (enc b cy X T)) (i w : Nat) (hw : nu i = w) {N : Nat} {a v : Int} (he : ∀ g : Int → Int, encC b cy X i g = cI cy N (fun j => g j)) (hj : i < n) (hdg : decode cc pc = .ok (.iastore, 1)) (hin : 0 ≤ a ∧ a < N) (hN : N ≤ 2147483647) 
    (kk : ∀ (H : Heap) (locs : List Loc) (T1 : St), T1 = up T w a v → gW D cy b n s H locs (enc b cy X T1) → W p l e R s m args below meth c H locs cells slots Q (F0 m (pc + 1) ls rest)) : W p l e R s m args below meth c H locs cells slots Q (F0 m pc ls (.int (iI v) :: .int (iI a) :: .ref (b + i) :: rest)) :=
  by subst hw; exact gi_ast S hG i (he (T (nu i))) hj hdg hin hN fun H1 l1 h1 => kk H1 l1 _ rfl (by rw [upI_Z hin.1, enc_up rfl (he _)] at h1; exact h1)
theorem mz_ast (S : CallFix p m c cc nL s args gT own) (hG : gW D cy b n s H locs (enc b cy X T)) (i w : Nat) (hw : nu i = w) {N : Nat} {a v : Int} (he : ∀ g : Int → Int, encC b cy X i g = cZ cy N (fun j => g j)) (hj : i < n) (hdg : decode cc pc = .ok (.bastore, 1)) (hin : 0 ≤ a ∧ a < N) (hN : N ≤ 2147483647) (hv : v = 0 ∨ v = 1) 
    (kk : ∀ (H : Heap) (locs : List Loc) (T1 : St), T1 = up T w a v → gW D cy b n s H locs (enc b cy X T1) → W p l e R s m args below meth c H locs cells slots Q (F0 m (pc + 1) ls rest)) : W p l e R s m args below meth c H locs cells slots Q (F0 m pc ls (.int (iI v) :: .int (iI a) :: .ref (b + i) :: rest)) :=
  by subst hw; exact gz_ast S hG i (he (T (nu i))) hj hdg hin hN hv fun H1 l1 h1 => kk H1 l1 _ rfl (by rw [upI_Z hin.1, enc_up rfl (he _)] at h1; exact h1)
theorem mb_ast (S : CallFix p m c cc nL s args gT own) (hG : gW D cy b n s H locs (enc b cy X T)) (i w : Nat) (hw : nu i = w) {N : Nat} {a v : Int} (he : ∀ g : Int → Int, encC b cy X i g = cB cy N (fun j => g j)) (hj : i < n) (hdg : decode cc pc = .ok (.bastore, 1)) (hin : 0 ≤ a ∧ a < N) (hN : N ≤ 2147483647) (hv : vp_nar .byte (iI v) = iI v) 
    (kk : ∀ (H : Heap) (locs : List Loc) (T1 : St), T1 = up T w a v → gW D cy b n s H locs (enc b cy X T1) → W p l e R s m args below meth c H locs cells slots Q (F0 m (pc + 1) ls rest)) : W p l e R s m args below meth c H locs cells slots Q (F0 m pc ls (.int (iI v) :: .int (iI a) :: .ref (b + i) :: rest)) :=
  by subst hw; exact gb_ast S hG i (he (T (nu i))) hj hdg hin hN hv fun H1 l1 h1 => kk H1 l1 _ rfl (by rw [upI_Z hin.1, enc_up rfl (he _)] at h1; exact h1)
theorem mj_ast (S : CallFix p m c cc nL s args gT own) (hG : gW D cy b n s H locs (enc b cy X T)) (i w : Nat) (hw : nu i = w) {N : Nat} {a v : Int} (he : ∀ g : Int → Int, encC b cy X i g = cJ cy N (fun j => g j)) (hj : i < n) (hdg : decode cc pc = .ok (.lastore, 1)) (hin : 0 ≤ a ∧ a < N) (hN : N ≤ 2147483647) 
    (kk : ∀ (H : Heap) (locs : List Loc) (T1 : St), T1 = up T w a v → gW D cy b n s H locs (enc b cy X T1) → W p l e R s m args below meth c H locs cells slots Q (F0 m (pc + 1) ls rest)) : W p l e R s m args below meth c H locs cells slots Q (F0 m pc ls (.long (jJ v) :: .int (iI a) :: .ref (b + i) :: rest)) :=
  by subst hw; exact gj_ast S hG i (he (T (nu i))) hj hdg hin hN fun H1 l1 h1 => kk H1 l1 _ rfl (by rw [upI_Z hin.1, enc_up rfl (he _)] at h1; exact h1)
theorem m_alen (S : CallFix p m c cc nL s args gT own) (hG : gW D cy b n s H locs (enc b cy X T)) (j t : Nat) {x : (Int → Int) → vp_A} {ty : FieldType} {N : Int} (he : ∀ g : Int → Int, encC b cy X j g = .inl (cy t, x g)) (ht : (gty cy)[t]? = some (cy t, ty)) (hj : j < n) (hdg : decode cc pc = .ok (.arraylength, 1)) (hv : Int32.ofNat (x (T (nu j))).1 = iI N)
    (kk : W p l e R s m args below meth c H locs cells slots Q (F0 m (pc + 1) ls (.int (iI N) :: rest))) : W p l e R s m args below meth c H locs cells slots Q (F0 m pc ls (.ref (b + j) :: rest)) :=
  g_alen S hG j t (he (T (nu j))) ht hj hdg hv kk
theorem nar8 {v : Int} (h : -128 ≤ v ∧ v ≤ 127) : vp_nar .byte (iI v) = iI v := by
  rw [vp_nar_byte]
  refine Int32.toInt_inj.mp ?_
  rw [Int8.toInt_toInt32, iI_toInt (by omega) (by omega)]
  show (Int32.toInt8 (Int32.ofInt v)).toInt = v
  rw [Int32.toInt8_ofInt, Int8.toInt_ofInt_of_le (by simpa using h.1) (by have : (2 : Int) ^ 7 = 128 := (by decide); omega)]
end GM3
def tx0 : List Int32 := [103, 114, 97, 109, 109, 97, 114]
theorem hs0 : isS 0 tx0 := ⟨_, rfl, rfl⟩
def tx1 : List Int32 := [109, 111, 115, 116]
theorem hs1 : isS 1 tx1 := ⟨_, rfl, rfl⟩
def tx2 : List Int32 := [97, 116, 111, 109]
theorem hs2 : isS 2 tx2 := ⟨_, rfl, rfl⟩
def tx3 : List Int32 := [117, 110, 105, 116]
theorem hs3 : isS 3 tx3 := ⟨_, rfl, rfl⟩
def tx4 : List Int32 := [114, 111, 119]
theorem hs4 : isS 4 tx4 := ⟨_, rfl, rfl⟩
def tx5 : List Int32 := [98, 97, 103]
theorem hs5 : isS 5 tx5 := ⟨_, rfl, rfl⟩
def tx6 : List Int32 := [115, 101, 116]
theorem hs6 : isS 6 tx6 := ⟨_, rfl, rfl⟩
def tx7 : List Int32 := [114, 105, 110, 103]
theorem hs7 : isS 7 tx7 := ⟨_, rfl, rfl⟩
def tx8 : List Int32 := [111, 114]
theorem hs8 : isS 8 tx8 := ⟨_, rfl, rfl⟩
def tx9 : List Int32 := [119, 105, 116, 104]
theorem hs9 : isS 9 tx9 := ⟨_, rfl, rfl⟩
def tx10 : List Int32 := [103, 114, 97, 109, 109, 97, 114]
theorem hs10 : isS 10 tx10 := ⟨_, rfl, rfl⟩
def tx11 : List Int32 := [109, 111, 115, 116]
theorem hs11 : isS 11 tx11 := ⟨_, rfl, rfl⟩
def tx12 : List Int32 := [97, 116, 111, 109]
theorem hs12 : isS 12 tx12 := ⟨_, rfl, rfl⟩
def tx13 : List Int32 := [117, 110, 105, 116]
theorem hs13 : isS 13 tx13 := ⟨_, rfl, rfl⟩
def tx14 : List Int32 := [111, 114]
theorem hs14 : isS 14 tx14 := ⟨_, rfl, rfl⟩
def tx15 : List Int32 := [119, 105, 116, 104]
theorem hs15 : isS 15 tx15 := ⟨_, rfl, rfl⟩
def tx16 : List Int32 := [114, 111, 119]
theorem hs16 : isS 16 tx16 := ⟨_, rfl, rfl⟩
def tx17 : List Int32 := [98, 97, 103]
theorem hs17 : isS 17 tx17 := ⟨_, rfl, rfl⟩
def tx18 : List Int32 := [115, 101, 116]
theorem hs18 : isS 18 tx18 := ⟨_, rfl, rfl⟩
def tx19 : List Int32 := [114, 105, 110, 103]
theorem hs19 : isS 19 tx19 := ⟨_, rfl, rfl⟩
def tx20 : List Int32 := [91, 123, 60, 40]
theorem hs20 : isS 20 tx20 := ⟨_, rfl, rfl⟩
def tx21 : List Int32 := [93, 125, 62, 41]
theorem hs21 : isS 21 tx21 := ⟨_, rfl, rfl⟩
def strB (r : Int) : Option (List Int32) := (gSC[r.toNat]?).map (fun q => q.2.2.2)
theorem strB_some {r : Int} {bs : List Int32} (h : strB r = some bs) : isS r.toNat bs := by
  unfold strB at h
  obtain ⟨q, h1, h2⟩ := Option.map_eq_some_iff.mp h
  exact ⟨q, h1, h2⟩
theorem nar_c {v : Int} (h : 0 ≤ v ∧ v ≤ 65535) : narrow .char (.int (iI v)) = .int (iI v) := by
  show Value.int ((iI v).toUInt32 % 65536).toInt32 = _
  congr 1
  refine Int32.toInt_inj.mp ?_
  obtain ⟨k, rfl⟩ := Int.eq_ofNat_of_zero_le h.1
  have e : (iI (k : Int)).toUInt32 = UInt32.ofNat k := by
    refine UInt32.toNat_inj.mp ?_
    show ((Int32.ofInt (k : Int)).toUInt32).toNat = _
    rw [show Int32.ofInt (k : Int) = Int32.ofNat k from rfl]
    rfl
  rw [e, iI_toInt (by omega) (by omega)]
  have e2 : UInt32.ofNat k % 65536 = UInt32.ofNat k := by
    refine UInt32.toNat_inj.mp ?_
    rw [UInt32.toNat_mod, UInt32.toNat_ofNat']
    have : (65536 : UInt32).toNat = 65536 := rfl
    rw [this]
    omega
  rw [e2]
  exact iI_toInt (a := (k : Int)) (by omega) (by omega)
theorem nar_b {v : Int} (h : -128 ≤ v ∧ v ≤ 127) : narrow .byte (.int (iI v)) = .int (iI v) := by
  have := nar8 h
  rw [vp_nar_byte] at this
  show Value.int _ = _
  exact congrArg Value.int this
theorem fit_b {v : Int} (h : -128 ≤ v ∧ v ≤ 127) : fits .byte (.int (iI v)) = true := by
  show (decide (-128 ≤ iI v) && decide (iI v ≤ 127)) = true
  have h1 : (-128 : Int32) ≤ iI v := by
    rw [show (-128 : Int32) = iI (-128) by decide]
    exact (iI_le (by omega) (by omega)).mpr h.1
  have h2 : iI v ≤ (127 : Int32) := by
    rw [show (127 : Int32) = iI 127 by decide]
    exact (iI_le (by omega) (by omega)).mpr h.2
  simp [h1, h2]
/-- System.arraycopy, of ints or bytes -/
def cpyS (T : St) (i j : Nat) (sp dp n : Int) : St := fun q => if q = j then (fun k => if dp ≤ k ∧ k < dp + n then T i (sp + (k - dp)) else T j k) else T q
section GM5
variable {p : Program} {l : Launch} {e : Env} {R : Room} {s : State} {m : MethodId} {args : Array Value} {below : List Frame} {meth : Method} {c : Code} {H : Heap} {locs : List Loc} {cells slots : Nat} {Q : State → Prop} {cc : ByteArray} {pc nL : Nat} {ls : Array Slot} {rest : List Value} {own : String} {D : va_G} {cy : Nat → ClassId} {b n : Nat} {X : Nat → va_E} {T : St} {index : Nat}
theorem m_copyi (S : CallFix p m c cc nL s args gT own) (hG : gW D cy b n s H locs (enc b cy X T)) (w1 : Cond.methodLink own index arraycopyName ∈ gT) (w2 : Cond.native arraycopyName ∈ gT) (w3 : Cond.static arraycopyName ∈ gT) (w4 : Cond.initialized "java/lang/System" ∈ gT) (hls : ls.size = nL) (i wi j wj t : Nat) (hwi : nu i = wi) (hwj : nu j = wj) {N M : Nat} {ty : FieldType} (hei : ∀ g : Int → Int, encC b cy X i g = .inl (cy t, N, .inl (fun k => iI (g k)))) (hej : ∀ g : Int → Int, encC b cy X j g = .inl (cy t, M, .inl (fun k => iI (g k)))) (htt : (gty cy)[t]? = some (cy t, ty)) (hprim : refKind ty = false) (hi : i < n) (hj : j < n) {sp dp k : Int} (hg : 0 ≤ sp ∧ 0 ≤ dp ∧ 0 ≤ k ∧ sp + k ≤ N ∧ dp + k ≤ M) (hN : N ≤ 2147483647 ∧ M ≤ 2147483647) (hfit : ∀ q : Nat, q < k.toNat → fits ty (.int (iI (T wi (sp + q)))) = true)
    (hdg : decode cc pc = .ok (.invokestatic index, 3)) (hR : 1 ≤ R.frames ∧ (rest.map fun v => v.category).sum + (nativeFrameWords "java/lang/System" "arraycopy" 5 + 11) ≤ R.locals)
    (kk : ∀ (H1 : Heap) (locs1 : List Loc) (T1 : St), T1 = cpyS T wi wj sp dp k → gW D cy b n s H1 locs1 (enc b cy X T1) → W p l e R s m args below meth c H1 locs1 cells slots Q (F0 m (pc + 3) ls rest)) : W p l e R s m args below meth c H locs cells slots Q (F0 m pc ls (.int (iI k) :: .int (iI dp) :: .ref (b + j) :: .int (iI sp) :: .ref (b + i) :: rest)) := by
  subst hwi hwj
  obtain ⟨g1, g2, g3, g4, g5⟩ := hg
  have c1 : (iI sp).toNatClampNeg = sp.toNat := iI_clamp g1 (by omega)
  have c2 : (iI dp).toNatClampNeg = dp.toNat := iI_clamp g2 (by omega)
  have c3 : (iI k).toNatClampNeg = k.toNat := iI_clamp g3 (by omega)
  have nn : ∀ z : Int, 0 ≤ z → z ≤ 2147483647 → ¬ iI z < 0 := fun z h1 h2 h => by
    have := (iI_lt (a := z) (b := 0) (by omega) (by omega)).mp (by rw [iI_0]; exact h)
    omega
  refine va_copyi S.1 S.2.1 (S.2.2.1.trans hls.symm) S.2.2.2.1 (S.2.2.2.2 _ w1) (S.2.2.2.2 _ w2) (S.2.2.2.2 _ w3) (S.2.2.2.2 _ w4) hG.1.1 hG.2.1 wd_D hG.2.2.1 i j t t (wd_at hi (hei (T (nu i)))) (wd_at hj (hej (T (nu j)))) htt htt hprim (nn sp g1 (by omega)) (nn dp g2 (by omega)) (nn k g3 (by omega)) (by rw [c1, c3]; omega) (by rw [c2, c3]; omega) (fun q hq => by
    rw [c3] at hq
    have := hfit q hq
    rw [c1]
    rw [show ((sp.toNat + q : Nat) : Int) = sp + q by omega]
    exact this) hR.1 hR.2 hdg fun H1 l1 h1 _ h3 => ?_
  rw [wd_set hj] at h1
  refine kk H1 l1 _ rfl ⟨hG.1, ?_, h3, hG.2.2.2⟩
  have he : upE (enc b cy X T) j (.inl (cy t, M, .inl (va_cpy (fun k => iI (T (nu i) k)) (fun k => iI (T (nu j) k)) (iI sp).toNatClampNeg (iI dp).toNatClampNeg (iI k).toNatClampNeg))) = enc b cy X (cpyS T (nu i) (nu j) sp dp k) := by
    funext q
    by_cases h : q = j
    · subst h
      rw [upE_s]
      show _ = encC b cy X q (cpyS T (nu i) (nu q) sp dp k (nu q))
      rw [hej, c1, c2, c3]
      congr 4
      funext z
      unfold va_cpy cpyS
      rw [if_pos rfl]
      by_cases hz : dp.toNat ≤ z ∧ z < dp.toNat + k.toNat
      · rw [if_pos hz, if_pos (by omega)]
        show iI (T (nu i) ((sp.toNat + (z - dp.toNat) : Nat) : Int)) = _
        rw [show ((sp.toNat + (z - dp.toNat) : Nat) : Int) = sp + ((z : Int) - dp) by omega]
      · rw [if_neg hz, if_neg (by omega)]
    · rw [upE_n h]
      show encC b cy X q (T (nu q)) = encC b cy X q (cpyS T (nu i) (nu j) sp dp k (nu q))
      unfold cpyS
      rw [if_neg (fun e => h (nu_inj e))]
  rw [← he]
  exact h1
end GM5
def lsh (a k : Int) : Int := (jJ a <<< ((iI k).toInt64 &&& 63)).toInt
def lshr (a k : Int) : Int := (jJ a >>> ((iI k).toInt64 &&& 63)).toInt
def lan (a k : Int) : Int := (jJ a &&& jJ k).toInt
def lor (a k : Int) : Int := (jJ a ||| jJ k).toInt
theorem dyn12 {b : Nat} {g : Int → Int} (h : g 4 = 1) : (fl12 b g)[4]? = some (.ref (b + 1)) := by
  show some (Value.ref (b + ph (g 4).toNat)) = _
  rw [h]; rfl
theorem iI_divT {a z : Int} (ha : inI a) (hz : 0 < z ∧ z ≤ 2147483647) : iI a / iI z = iI (Int.tdiv a z) := by
  refine Int32.toInt_inj.mp ?_
  have hr : -2147483648 ≤ Int.tdiv a z ∧ Int.tdiv a z ≤ 2147483647 := by
    rcases Int.le_total 0 a with h | h
    · rw [Int.tdiv_eq_ediv_of_nonneg h]
      have h1 : a / z ≤ a := Int.ediv_le_self z h
      have h0 : 0 ≤ a / z := Int.ediv_nonneg h (by omega)
      omega
    · have e : Int.tdiv a z = -((-a) / z) := by rw [← Int.tdiv_eq_ediv_of_nonneg (by omega), Int.neg_tdiv, Int.neg_neg]
      have h1 : (-a) / z ≤ -a := Int.ediv_le_self z (by omega)
      have h0 : 0 ≤ (-a) / z := Int.ediv_nonneg (by omega) (by omega)
      omega
  rw [Int32.toInt_div_of_ne_right _ _ (by intro q; have := (iI_eq (a := z) (b := -1) (by omega) (by omega)).mp (q.trans (by decide)); omega), iI_toInt ha.1 ha.2, iI_toInt (by omega) (by omega), iI_toInt hr.1 hr.2]
theorem iI_remT {a z : Int} (ha : inI a) (hz : 0 < z ∧ z ≤ 2147483647) : iI a - iI a / iI z * iI z = iI (Int.tmod a z) := by
  rw [iI_divT ha hz, iI_mul, iI_sub]
  congr 1
  rw [Int.mul_comm, Int.tmod_def]
section GM4
variable {p : Program} {l : Launch} {e : Env} {R : Room} {s : State} {m : MethodId} {args : Array Value} {below : List Frame} {meth : Method} {c : Code} {H : Heap} {locs : List Loc} {cells slots : Nat} {Q : State → Prop} {cc : ByteArray} {pc : Nat} {ls : Array Slot} {rest : List Value}
theorem gj_shl (hx : p.tables.exec = Jvm.exec) (hb : c.code = cc) {a z : Int} (hdg : decode cc pc = .ok (.lshl, 1)) (k : W p l e R s m args below meth c H locs cells slots Q (F0 m (pc + 1) ls (.long (jJ (lsh a z)) :: rest))) : W p l e R s m args below meth c H locs cells slots Q (F0 m pc ls (.int (iI z) :: .long (jJ a) :: rest)) := lv_lshl hx hb hdg (jJ_of _).symm k
theorem gj_shr (hx : p.tables.exec = Jvm.exec) (hb : c.code = cc) {a z : Int} (hdg : decode cc pc = .ok (.lshr, 1)) (k : W p l e R s m args below meth c H locs cells slots Q (F0 m (pc + 1) ls (.long (jJ (lshr a z)) :: rest))) : W p l e R s m args below meth c H locs cells slots Q (F0 m pc ls (.int (iI z) :: .long (jJ a) :: rest)) := lv_lshr hx hb hdg (jJ_of _).symm k
theorem gj_and (hx : p.tables.exec = Jvm.exec) (hb : c.code = cc) {a z : Int} (hdg : decode cc pc = .ok (.land, 1)) (k : W p l e R s m args below meth c H locs cells slots Q (F0 m (pc + 1) ls (.long (jJ (lan a z)) :: rest))) : W p l e R s m args below meth c H locs cells slots Q (F0 m pc ls (.long (jJ z) :: .long (jJ a) :: rest)) := lv_land hx hb hdg (gj_as _ (jJ_of _).symm k)
theorem gj_or (hx : p.tables.exec = Jvm.exec) (hb : c.code = cc) {a z : Int} (hdg : decode cc pc = .ok (.lor, 1)) (k : W p l e R s m args below meth c H locs cells slots Q (F0 m (pc + 1) ls (.long (jJ (lor a z)) :: rest))) : W p l e R s m args below meth c H locs cells slots Q (F0 m pc ls (.long (jJ z) :: .long (jJ a) :: rest)) := lv_lor hx hb hdg (gj_as _ (jJ_of _).symm k)
theorem gi_neg (hx : p.tables.exec = Jvm.exec) (hb : c.code = cc) {a : Int} (hdg : decode cc pc = .ok (.ineg, 1)) (k : W p l e R s m args below meth c H locs cells slots Q (F0 m (pc + 1) ls (.int (iI (-a)) :: rest))) : W p l e R s m args below meth c H locs cells slots Q (F0 m pc ls (.int (iI a) :: rest)) := lv_ineg hx hb hdg (gi_as _ (iI_neg a) k)
theorem gi_divT (hx : p.tables.exec = Jvm.exec) (hb : c.code = cc) {a z : Int} (hdg : decode cc pc = .ok (.idiv, 1)) (ha : inI a) (hz : 0 < z ∧ z ≤ 2147483647) (k : W p l e R s m args below meth c H locs cells slots Q (F0 m (pc + 1) ls (.int (iI (Int.tdiv a z)) :: rest))) : W p l e R s m args below meth c H locs cells slots Q (F0 m pc ls (.int (iI z) :: .int (iI a) :: rest)) := lv_idiv hx hb hdg (iI_ne hz) (gi_as _ (iI_divT ha hz) k)
theorem gi_remT (hx : p.tables.exec = Jvm.exec) (hb : c.code = cc) {a z : Int} (hdg : decode cc pc = .ok (.irem, 1)) (ha : inI a) (hz : 0 < z ∧ z ≤ 2147483647) (k : W p l e R s m args below meth c H locs cells slots Q (F0 m (pc + 1) ls (.int (iI (Int.tmod a z)) :: rest))) : W p l e R s m args below meth c H locs cells slots Q (F0 m pc ls (.int (iI z) :: .int (iI a) :: rest)) := lv_irem hx hb hdg (iI_ne hz) (gi_as _ (iI_remT ha hz) k)
end GM4
