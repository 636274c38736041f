/-! more rows of the world by numbers: the same picture by another function, fewer cells, ends with makings -/
theorem upE_i {E : Nat → va_E} {i : Nat} {x y : va_E} : upE (upE E i x) i y = upE E i y := by funext j; by_cases h : j = i <;> simp [upE, h]
theorem upE_c {E : Nat → va_E} {i k : Nat} {x y : va_E} (h : i ≠ k) : upE (upE E i x) k y = upE (upE E k y) i x := by
  funext j
  by_cases h1 : j = i
  · subst h1; simp [upE, h]
  · by_cases h2 : j = k
    · subst h2; simp [upE, h1]
    · simp [upE, h1, h2]
theorem upE_same {E : Nat → va_E} {i : Nat} {x : va_E} (h : E i = x) : upE E i x = E := by funext j; by_cases h1 : j = i <;> simp [upE, h1, ← h]
theorem upE_2 {E : Nat → va_E} {i k : Nat} {x y z t : va_E} (h : i ≠ k) : upE (upE (upE (upE E i x) k y) i z) k t = upE (upE E i z) k t := by rw [upE_c (Ne.symm h), upE_i, upE_i]
theorem arrV_ext {cA : ClassId} {N : Nat} {f g : Nat → Value} (h : ∀ j, j < N → f j = g j) : arrV cA N f = arrV cA N g := by
  unfold arrV
  congr 1
  refine congrArg Array.ofFn (funext fun j => h j.val j.isLt)
section GD
variable {D : va_G} {cy : Nat → ClassId} {b n : Nat} {s : State} {H : Heap} {locs : List Loc} {E : Nat → va_E}
theorem gW_cell (h : gW D cy b n s H locs E) {i : Nat} {x : va_E} (hi : i < n) (hx : ∀ K : Heap, va_at D vwCl (b + i, E i) K → va_at D vwCl (b + i, x) K) : gW D cy b n s H locs (upE E i x) := by
  refine ⟨h.1, fun k q hk => ?_, h.2.2⟩
  · obtain ⟨h1, rfl⟩ := wd_inv hk
    by_cases hki : k = i
    · subst hki
      rw [upE_s]
      exact hx H (h.2.1 k _ (wd_get h1))
    · rw [upE_n hki]
      exact h.2.1 k _ (wd_get h1)
theorem gW_ci (h : gW D cy b n s H locs E) {i : Nat} {cA : ClassId} {N : Nat} {f g : Nat → Int32} (he : E i = .inl (cA, N, .inl f)) (hi : i < n) (hf : ∀ j, j < N → f j = g j) : gW D cy b n s H locs (upE E i (.inl (cA, N, .inl g))) :=
  gW_cell h hi fun K hK => by
    rw [he] at hK
    have e : vp_cell cA (N, .inl f) = vp_cell cA (N, .inl g) := by rw [vp_cell_i, vp_cell_i]; exact arrV_ext fun j hj => by rw [hf j hj]
    show K[b + i]? = some (vp_cell cA (N, .inl g))
    rw [← e]; exact hK
theorem gW_cj (h : gW D cy b n s H locs E) {i : Nat} {cA : ClassId} {N : Nat} {f g : Nat → Int64} (he : E i = .inl (cA, N, .inr (.inl f))) (hi : i < n) (hf : ∀ j, j < N → f j = g j) : gW D cy b n s H locs (upE E i (.inl (cA, N, .inr (.inl g)))) :=
  gW_cell h hi fun K hK => by
    rw [he] at hK
    have e : vp_cell cA (N, .inr (.inl f)) = vp_cell cA (N, .inr (.inl g)) := by rw [vp_cell_l, vp_cell_l]; exact arrV_ext fun j hj => by rw [hf j hj]
    show K[b + i]? = some (vp_cell cA (N, .inr (.inl g)))
    rw [← e]; exact hK
theorem gW_eq2 {n' : Nat} {E' : Nat → va_E} (h : gW D cy b n' s H locs E') (hn : n' = n) (he : E' = E) : gW D cy b n s H locs E := by subst hn; subst he; exact h
theorem gW_eq {E' : Nat → va_E} (h : gW D cy b n s H locs E) (he : E = E') : gW D cy b n s H locs E' := he ▸ h
end GD
abbrev gQI (D : va_G) (cy : Nat → ClassId) (b : Nat) (s : State) (args : Array Value) (below : List Frame) (mc ms : Nat) (post : Int32 → gU → Prop) : State → Prop := MQ below (va_Qi post (gB D cy b) (gA b)) args s mc ms (gA b)
abbrev gQL (D : va_G) (cy : Nat → ClassId) (b : Nat) (s : State) (args : Array Value) (below : List Frame) (mc ms : Nat) (post : Int64 → gU → Prop) : State → Prop := MQ below (va_Ql post (gB D cy b) (gA b)) args s mc ms (gA b)
abbrev gQV (D : va_G) (cy : Nat → ClassId) (b : Nat) (s : State) (args : Array Value) (below : List Frame) (mc ms : Nat) (post : gU → Prop) : State → Prop := MQ below (va_Qv post (gB D cy b) (gA b)) args s mc ms (gA b)
/-- numbers -/
theorem i32_k {k N : Nat} {M : Int32} (hM : nI N = M) (hk : k < 2 ^ 31) (hN : N < 2 ^ 31) : M ≤ nI k ↔ N ≤ k := by rw [← hM]; exact nI_leI hN hk
theorem i32_l {k N : Nat} {M : Int32} (hM : nI N = M) (hk : k < 2 ^ 31) (hN : N < 2 ^ 31) : nI k < M ↔ k < N := by rw [← hM]; exact nI_ltI hk hN
/-- what the reference's one row holds at first -/
def memI : Nat → Int32 := fun k => if 96 ≤ k ∧ k < 198 then -1 else 0
