/-! rows of things, as the reference's loops lay them -/
def mulC (m a z : Int) : Int := if a = 0 ∨ z = 0 then 0 else if m / z < a then m else a * z
theorem mulC_b {m a z : Int} (h : 0 ≤ a ∧ 0 ≤ z ∧ 0 < m) : 0 ≤ mulC m a z ∧ mulC m a z ≤ m := by
  unfold mulC
  split
  · omega
  · split
    · omega
    · exact ⟨Int.mul_nonneg (by omega) (by omega), mul_le_of_div (by omega) (by omega)⟩
def lrI (mn rw : Nat → Int) (pt j a k s : Int) : Nat → Int → Int → Int
  | 0, _, v => v
  | f + 1, i, v => if min s k < i then v else lrI mn rw pt j a k s f (i + 1) (min 100000000000000000 (v + mulC 100000000000000000 (mn ((pt * 8 + s) * 8 + i).toNat) (rw (((j - 1) * 8 + (a - s)) * 8 + (k - i)).toNat)))
def lrS (mn rw : Nat → Int) (pt j a k : Int) : Nat → Int → Int → Int
  | 0, _, v => v
  | f + 1, s, v => if a - j + 1 < s then v else lrS mn rw pt j a k f (s + 1) (lrI mn rw pt j a k s 9 0 v)
def lrK (mn : Nat → Int) (pt tp j a : Int) : Nat → Int → (Nat → Int) → (Nat → Int)
  | 0, _, rw => rw
  | f + 1, k, rw => if min a tp < k then rw else lrK mn pt tp j a f (k + 1) (upZ rw ((j * 8 + a) * 8 + k).toNat (lrS mn rw pt j a k 9 1 0))
def lrA (mn : Nat → Int) (pt n tp j : Int) : Nat → Int → (Nat → Int) → (Nat → Int)
  | 0, _, rw => rw
  | f + 1, a, rw => if n < a then rw else lrA mn pt n tp j f (a + 1) (lrK mn pt tp j a 9 0 rw)
def lrJ (mn : Nat → Int) (pt n tp : Int) : Nat → Int → (Nat → Int) → (Nat → Int)
  | 0, _, rw => rw
  | f + 1, j, rw => if n < j then rw else lrJ mn pt n tp f (j + 1) (lrA mn pt n tp j 9 j rw)
theorem upZ_bd {g : Nat → Int} {k : Nat} {v L : Int} (h : ∀ j, 0 ≤ g j ∧ g j ≤ L) (hv : 0 ≤ v ∧ v ≤ L) : ∀ j, 0 ≤ upZ g k v j ∧ upZ g k v j ≤ L := fun j => by
  unfold upZ
  split
  · exact hv
  · exact h j
