def st_0 : Int → Int := fun k => if k = -1 then 105 else if k = -2 then 74647 else if k = 5 then (-1) else if k = 17 then (-1) else if k = 18 then (-1) else 0
def st_2 : Int → Int := fun k => 0
def st_12 : Int → Int := fun k => if k = 2 then (-1) else if k = 4 then 23 else if k = 7 then 3 else 0
def st_13 : Int → Int := fun k => 0
def st_26 : Int → Int := fun k => 0
def st_33 : Int → Int := fun k => 0
def st_40 : Int → Int := fun k => if k = 1 then (-1) else 0
def st_47 : Int → Int := fun k => 0
def st_48 : Int → Int := fun k => if k = 1 then (-1) else 0
def st_60 : Int → Int := fun k => if k = 3 then 64 else if k = 6 then 1 else if k = 13 then (-1) else if k = 14 then (-1) else 0
def st_61 : Int → Int := fun k => 0
def st_63 : Int → Int := fun _ => -1
def st_67 : Int → Int := fun k => if k = 6 then 1 else 0
def st_73 : Int → Int := fun k => if k = 6 then (-1) else if k = 7 then (-1) else 0
def st_80 : Int → Int := fun k => 0
def st_83 : Int → Int := fun k => if k = 5 then (-1) else if k = 42 then (-1) else if k = 43 then (-1) else 0
def st_84 : Int → Int := fun k => if 96 ≤ k ∧ k < 198 then -1 else 0
/-- what stands in the cells when both are made -/
def stI : St := fun i => if i < 52 then (if i < 26 then (if i < 13 then (if i < 6 then (if i < 3 then (if i < 1 then (st_0) else (if i < 2 then (fun _ => 0) else (st_2))) else (fun _ => 0)) else (if i < 9 then (fun _ => 0) else (if i < 11 then (fun _ => 0) else (if i < 12 then (fun _ => 0) else (st_12))))) else (if i < 19 then (if i < 16 then (if i < 14 then (st_13) else (fun _ => 0)) else (fun _ => 0)) else (fun _ => 0))) else (if i < 39 then (if i < 32 then (if i < 29 then (if i < 27 then (st_26) else (fun _ => 0)) else (fun _ => 0)) else (if i < 35 then (if i < 33 then (fun _ => 0) else (if i < 34 then (st_33) else (fun _ => 0))) else (fun _ => 0))) else (if i < 45 then (if i < 42 then (if i < 40 then (fun _ => 0) else (if i < 41 then (st_40) else (fun _ => 0))) else (fun _ => 0)) else (if i < 48 then (if i < 46 then (fun _ => 0) else (if i < 47 then (fun _ => 0) else (st_47))) else (if i < 50 then (if i < 49 then (st_48) else (fun _ => 0)) else (fun _ => 0)))))) else (if i < 78 then (if i < 65 then (if i < 58 then (fun _ => 0) else (if i < 61 then (if i < 59 then (fun _ => 0) else (if i < 60 then (fun _ => 0) else (st_60))) else (if i < 63 then (if i < 62 then (st_61) else (fun _ => 0)) else (if i < 64 then (st_63) else (fun _ => 0))))) else (if i < 71 then (if i < 68 then (if i < 66 then (fun _ => 0) else (if i < 67 then (fun _ => 0) else (st_67))) else (fun _ => 0)) else (if i < 74 then (if i < 72 then (fun _ => 0) else (if i < 73 then (fun _ => 0) else (st_73))) else (fun _ => 0)))) else (if i < 91 then (if i < 84 then (if i < 81 then (if i < 79 then (fun _ => 0) else (if i < 80 then (fun _ => 0) else (st_80))) else (if i < 82 then (fun _ => 0) else (if i < 83 then (fun _ => 0) else (st_83)))) else (if i < 87 then (if i < 85 then (st_84) else (fun _ => 0)) else (fun _ => 0))) else (fun _ => 0)))
def OZ : St := fun _ _ => 0
def OM : St := fun _ k => if k = -1 then 600000 else 7302250
theorem nnOM : nn OM - nn OZ = 600000 := by decide
theorem zzOM : zz OM - zz OZ = 7302250 := by decide
section GLAW
variable {p : Program} {l : Launch} {e : Env} {R : Room} {s : State} {m : MethodId} {args : Array Value} {below : List Frame} {meth : Method} {c : Code} {H : Heap} {locs : List Loc} {Q : State → Prop} {pc : Nat} {ls : Array Slot} {rest : List Value} {D : va_G} {cy : Nat → ClassId} {b q0 L : Nat} {xs : Nat → Int32} {T S1 : St} {ce sl : Nat}
theorem gX.rcL (h : gX D cy b s H locs T ce sl OZ OM) : ce + 0 ≤ room_1.cells := Nat.le_trans h.rc (by rw [nnOM]; decide)
theorem gX.rsL (h : gX D cy b s H locs T ce sl OZ OM) : sl + 0 ≤ room_1.slots := Nat.le_trans h.rs (by rw [zzOM]; decide)
theorem gX.gcL (h : gX D cy b s H locs T ce sl OZ OM) (h1 : gle T S1) (h2 : gle S1 OM) : ce + (nn S1 - nn T) ≤ room_1.cells := Nat.le_trans (h.gc h1 h2) (by rw [nnOM]; decide)
theorem gX.gsL (h : gX D cy b s H locs T ce sl OZ OM) (h1 : gle T S1) (h2 : gle S1 OM) : sl + (zz S1 - zz T) ≤ room_1.slots := Nat.le_trans (h.gs h1 h2) (by rw [zzOM]; decide)
theorem n_sld (C0 : lw_At p s m meth c q0 L xs) (hbA : ¬ gA b q0) (hG : gX D cy b s H locs T ce sl OZ OM) {a x : Int} (hin : 0 ≤ a ∧ a < L ∧ a ≤ 2147483647) (hx : (xs a.toNat).toInt = x) (hdg : decode code pc = .ok (.iaload, 1))
    (kk : W p l e R s m args below meth c H locs ce sl Q (F0 m (pc + 1) ls (.int (iI x) :: rest))) : W p l e R s m args below meth c H locs ce sl Q (F0 m pc ls (.int (iI a) :: .ref q0 :: rest)) := by
  refine va_sld C0.1 C0.2.1 C0.2.2.2.2.2.2.1 C0.2.2.2.2.2.2.2.1 hbA hG.1.2.2.1 (iI_in ⟨hin.1, hin.2.1⟩ hin.2.2) hdg ?_
  rw [iI_clamp hin.1 hin.2.2]
  rw [show xs a.toNat = iI x by rw [← hx]; exact (iI_of _).symm]
  exact kk
end GLAW
