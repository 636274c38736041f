/-! functions that go as the loops of choosing, of common divisors go -/
def chG (al mm : Int) : Nat → Int → Int → Int
  | 0, _, v => min 1000000000000 v
  | k + 1, i, v => if 1000000000000 < v ∨ 9223372036854775807 / (al - mm + i) < v then 1000000000000 else chG al mm k (i + 1) (v * (al - mm + i) / i)
def piG (fr : Int) (un : Int) : Nat → Int → Int → Int
  | 0, _, v => v
  | k + 1, i, v => if (if un = 0 then fr + i - 1 else fr - i + 1) ≤ 0 then 0 else if 1000000000000000000 / (if un = 0 then fr + i - 1 else fr - i + 1) < v then 1000000000000000000 else piG fr un k (i + 1) (v * (if un = 0 then fr + i - 1 else fr - i + 1) / i)
def gcG : Nat → Int → Int → Int
  | 0, x, _ => x
  | k + 1, x, y => if y ≤ 0 then x else gcG k y (x % y)
theorem mul_le_of_div {v z L : Int} (h : v ≤ L / z) (hz : 0 < z) : v * z ≤ L := Int.mul_le_of_le_ediv hz h
