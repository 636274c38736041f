/-! the reference: labelled, a part, a walk over the parts -/
def pvL (M : Int → Int) (Y R : Nat → Nat) (p n : Nat) : Nat :=
  if M (24 + (p : Int)) = 0 then (if n = 1 then 1 else 0)
  else if M (24 + (p : Int)) = 1 then (if n = 0 then 1 else 0)
  else if M (24 + (p : Int)) = 2 then Y ((24 + (M (48 + (p : Int))).toNat) * 8 + n)
  else if M (24 + (p : Int)) = 7 then xs M (fun q => R (q * 8 + n)) (6 + p)
  else nin (M (24 + (p : Int))) (M (48 + (p : Int))) (fun s => Y ((M (72 + (p : Int))).toNat * 8 + s)) n
theorem w_namedPart {S : St} {p n : Nat} (h : WF (S 84)) (hp : (p : Int) < S 84 2) (hn : n ≤ 7) (h93 : nb S 93 240 1000000000000) (h94 : nb S 94 192 1000000000000) : wp (mX12_namedPart S (p : Int) (n : Int)) (fun o => o.1 = ((min CC (pvL (S 84) (tb S 93) (tb S 94) p n) : Nat) : Int) ∧ kept [95] [] S o.2) := by
  have hM2 := h.2.2.1
  have hM0 := h.1
  obtain ⟨h1, h2, h3, h4, h5, h6⟩ := h.2.2.2.1 p hp
  unfold mX12_namedPart pvL
  rw [gd_t (by omega), nx_e, gd_t (by omega)]
  by_cases s0 : S 84 (24 + (p : Int)) = 0
  · rw [if_pos s0, if_pos s0, gd_t (by omega)]
    by_cases n1 : n = 1
    · rw [if_pos (by omega), if_pos n1, wp_some]; exact ⟨rfl, kept.rf⟩
    · rw [if_neg (by omega), if_neg n1, wp_some]; exact ⟨rfl, kept.rf⟩
  rw [if_neg s0, if_neg s0]
  by_cases s1 : S 84 (24 + (p : Int)) = 1
  · rw [if_pos s1, if_pos s1, gd_t (by omega)]
    by_cases n0 : n = 0
    · rw [if_pos (by omega), if_pos n0, wp_some]; exact ⟨rfl, kept.rf⟩
    · rw [if_neg (by omega), if_neg n0, wp_some]; exact ⟨rfl, kept.rf⟩
  rw [if_neg s1, if_neg s1]
  by_cases s2 : S 84 (24 + (p : Int)) = 2
  · have := h4 s2
    obtain ⟨q, hq⟩ : ∃ q : Nat, S 84 (48 + (p : Int)) = (q : Int) := ⟨(S 84 (48 + (p : Int))).toNat, by omega⟩
    have hy := h93.at (j := (24 + q) * 8 + n) (by omega)
    rw [if_pos s2, if_pos s2, gd_t (by omega), gd_t (by omega), wp_some, hq, show ((q : Int)).toNat = q from rfl]
    refine ⟨?_, kept.rf⟩
    show S 93 ((24 + (q : Int)) * 8 + (n : Int)) = _
    rw [show (24 + (q : Int)) * 8 + (n : Int) = (((24 + q) * 8 + n : Nat) : Int) by omega, hy.1]
    have := hy.2
    rw [show min CC (tb S 93 ((24 + q) * 8 + n)) = tb S 93 ((24 + q) * 8 + n) by rw [CC_eq]; omega]
  rw [if_neg s2, if_neg s2]
  by_cases s7 : S 84 (24 + (p : Int)) = 7
  · obtain ⟨q1, q2, q3⟩ := h5 s7
    rw [if_neg (by omega), if_neg (by omega), if_neg (by omega), if_neg (by omega), if_pos s7, if_pos s7, gd_t (by omega), q1, show (6 : Int) + (p : Int) = ((6 + p : Nat) : Int) by omega, bd1_e (e_namedExpr h (by omega) (by omega) q3 hn h94), wp_some]
    exact ⟨rfl, kept.rf⟩
  rw [if_neg s7]
  have h6' := h6 (by omega)
  obtain ⟨c, hc⟩ : ∃ c : Nat, S 84 (72 + (p : Int)) = (c : Int) := ⟨(S 84 (72 + (p : Int))).toNat, by omega⟩
  have hin := w_namedIn (S := S) (c := c) (n := n) (so := S 84 (24 + (p : Int))) (a2 := S 84 (48 + (p : Int))) (by omega) hn (by omega) (by omega) h93
  rw [hc, show ((c : Int)).toNat = c from rfl, if_neg s7]
  have fin : wp (bd2 (mX12_namedIn S (S 84 (24 + (p : Int))) (S 84 (48 + (p : Int))) (c : Int) (n : Int)) fun r S' => some (r, S')) (fun o => o.1 = ((min CC (nin (S 84 (24 + (p : Int))) (S 84 (48 + (p : Int))) (fun s => tb S 93 (c * 8 + s)) n) : Nat) : Int) ∧ kept [95] [] S o.2) := by
    rw [wp_bd2]
    refine wp_mono hin (fun o q => ?_)
    rw [wp_some]; exact q
  by_cases s3 : S 84 (24 + (p : Int)) = 3
  · rw [if_pos s3, gd_t (by omega), gd_t (by omega)]; exact fin
  rw [if_neg s3]
  by_cases s4 : S 84 (24 + (p : Int)) = 4
  · rw [if_pos s4, gd_t (by omega), gd_t (by omega)]; exact fin
  rw [if_neg s4]
  by_cases s5 : S 84 (24 + (p : Int)) = 5
  · rw [if_pos s5, gd_t (by omega), gd_t (by omega)]; exact fin
  rw [if_neg s5]
  by_cases s6 : S 84 (24 + (p : Int)) = 6
  · rw [if_pos s6, gd_t (by omega), gd_t (by omega)]; exact fin
  omega
theorem tl_cg {c c' : Nat → Nat} : ∀ j n, (∀ s, 1 ≤ s → s ≤ n → c s = c' s) → tl c j n = tl c' j n := by
  intro j
  induction j with
  | zero => intro n _; rfl
  | succ j ih =>
    intro n h
    refine sm_congr fun s hs => ?_
    rw [h (s + 1) (by omega) (by omega), ih (n - (s + 1)) (fun t a b => h t a (by omega))]
theorem tl_cl {c c' : Nat → Nat} {j n : Nat} (hj : 2 ≤ j) (h : ∀ s, 1 ≤ s → s < n → c s = c' s) : tl c j n = tl c' j n := by
  obtain ⟨m, rfl⟩ : ∃ m, j = m + 2 := ⟨j - 2, by omega⟩
  refine sm_congr fun s hs => ?_
  by_cases e : s + 1 = n
  · rw [tl_small (m + 1) (n - (s + 1)) (by omega), tl_small (m + 1) (n - (s + 1)) (by omega), Nat.mul_zero, Nat.mul_zero]
  · rw [h (s + 1) (by omega) (by omega), tl_cg (m + 1) (n - (s + 1)) (fun t a b => h t a (by omega))]
theorem lab_evB {c c' : Nat → Nat} {j n f : Nat} (hf : 1 ≤ f ∧ f ≤ fac j) (h : ∀ s, 1 ≤ s → s ≤ n → ev (c s) (c' s)) : ev (tl c j n / f) (tl c' j n / f) := by
  rw [tl_cg (c := c) (c' := fun s => if 1 ≤ s ∧ s ≤ n then c s else 0) j n (fun s a b => (if_pos ⟨a, b⟩).symm), tl_cg (c := c') (c' := fun s => if 1 ≤ s ∧ s ≤ n then c' s else 0) j n (fun s a b => (if_pos ⟨a, b⟩).symm)]
  refine lab_ev (fun s => ?_) hf
  by_cases w : 1 ≤ s ∧ s ≤ n
  · rw [if_pos w, if_pos w]; exact h s w.1 w.2
  · rw [if_neg w, if_neg w]; exact ev.rf
theorem lab_evC {c c' : Nat → Nat} {j n f : Nat} (hj : 2 ≤ j) (hf : 1 ≤ f ∧ f ≤ fac j) (h : ∀ s, 1 ≤ s → s < n → ev (c s) (c' s)) : ev (tl c j n / f) (tl c' j n / f) := by
  rw [tl_cl (c := c) (c' := fun s => if 1 ≤ s ∧ s < n then c s else 0) hj (fun s a b => (if_pos ⟨a, b⟩).symm), tl_cl (c := c') (c' := fun s => if 1 ≤ s ∧ s < n then c' s else 0) hj (fun s a b => (if_pos ⟨a, b⟩).symm)]
  refine lab_ev (fun s => ?_) hf
  by_cases w : 1 ≤ s ∧ s < n
  · rw [if_pos w, if_pos w]; exact h s w.1 w.2
  · rw [if_neg w, if_neg w]; exact ev.rf
theorem le_fac : ∀ v, v ≤ fac v := by
  intro v
  cases v with
  | zero => exact Nat.zero_le _
  | succ v => exact Nat.le_mul_of_pos_right _ (fac_pos v)
theorem dv_fac {so : Int} {v : Nat} : dv so v ≤ fac v := by
  unfold dv
  by_cases a : so = 3
  · rw [if_pos a]; exact fac_pos v
  · rw [if_neg a]
    by_cases b : so = 6
    · rw [if_pos b]; exact le_fac v
    · rw [if_neg b]; exact Nat.le_refl _
theorem nin_ev {so a2 : Int} {C C' : Nat → Nat} {n : Nat} (h : ∀ s, 1 ≤ s → s ≤ n → ev (C s) (C' s)) : ev (nin so a2 C n) (nin so a2 C' n) := by
  refine sm_ev fun v hv => ?_
  by_cases w : a2 = 0 ∨ a2 = (v : Int)
  · rw [if_pos w, if_pos w]
    rcases Nat.eq_zero_or_pos (dv so v) with z | z
    · rw [z, Nat.div_zero, Nat.div_zero]; exact ev.rf
    · exact lab_evB ⟨z, dv_fac⟩ h
  · rw [if_neg w, if_neg w]; exact ev.rf
theorem nin_evC {so a2 : Int} {C C' : Nat → Nat} {n : Nat} (ha : 2 ≤ a2) (h : ∀ s, 1 ≤ s → s < n → ev (C s) (C' s)) : ev (nin so a2 C n) (nin so a2 C' n) := by
  refine sm_ev fun v hv => ?_
  by_cases w : a2 = 0 ∨ a2 = (v : Int)
  · rw [if_pos w, if_pos w]
    rcases Nat.eq_zero_or_pos (dv so v) with z | z
    · rw [z, Nat.div_zero, Nat.div_zero]; exact ev.rf
    · exact lab_evC (by omega) ⟨z, dv_fac⟩ h
  · rw [if_neg w, if_neg w]; exact ev.rf
/-- the equations of a part at a size -/
def eqL (M : Int → Int) (n : Nat) (Y R : Nat → Nat) (p : Nat) : Prop := ev (Y (p * 8 + n)) (pvL M Y R p n) ∧ ev (R (p * 8 + n)) (nr Y R (M (96 + (p : Int))) p n)
theorem nin_cg {so a2 : Int} {C C' : Nat → Nat} {n : Nat} (h : ∀ s, 1 ≤ s → s ≤ n → C s = C' s) : nin so a2 C n = nin so a2 C' n := by
  refine sm_congr fun v hv => ?_
  rw [tl_cg v n h]
def alkL (N p : Nat) (Y Y' : Nat → Nat) : Prop := ∀ q s : Nat, p < q → q < N → s ≤ 7 → Y (q * 8 + s) = Y' (q * 8 + s)
theorem pvL_cg {M : Int → Int} {Y Y' R R' : Nat → Nat} {p n : Nat} (h : WF M) (hp : (p : Int) < M 2) (hn : n ≤ 7) (hY : ∀ q s : Nat, p < q → q < 30 → s ≤ n → Y (q * 8 + s) = Y' (q * 8 + s)) (hR : ∀ q s : Nat, p < q → q < 24 → s ≤ n → R (q * 8 + s) = R' (q * 8 + s)) : pvL M Y R p n = pvL M Y' R' p n := by
  have hM2 := h.2.2.1
  have hM0 := h.1
  obtain ⟨h1, h2, h3, h4, h5, h6⟩ := h.2.2.2.1 p hp
  unfold pvL
  by_cases s0 : M (24 + (p : Int)) = 0
  · rw [if_pos s0, if_pos s0]
  rw [if_neg s0, if_neg s0]
  by_cases s1 : M (24 + (p : Int)) = 1
  · rw [if_pos s1, if_pos s1]
  rw [if_neg s1, if_neg s1]
  by_cases s2 : M (24 + (p : Int)) = 2
  · have := h4 s2
    rw [if_pos s2, if_pos s2]
    exact hY _ n (by omega) (by omega) (Nat.le_refl _)
  rw [if_neg s2, if_neg s2]
  by_cases s7 : M (24 + (p : Int)) = 7
  · obtain ⟨q1, q2, q3⟩ := h5 s7
    rw [if_pos s7, if_pos s7]
    unfold xs
    refine sm_congr fun t ht => ?_
    have := q3.2.1 t (by omega)
    cases offM M (6 + p) t with
    | true => rfl
    | false =>
      simp only [Bool.false_eq_true, if_false]
      exact hR _ n (by omega) (by omega) (Nat.le_refl _)
  rw [if_neg s7, if_neg s7]
  have h6' := h6 (by omega)
  exact nin_cg (fun s a b => hY _ s (by omega) (by omega) b)
theorem nr_cg {Y Y' R R' : Nat → Nat} {q : Int} {p n : Nat} (hp : p < 30) (hq : q = -1 ∨ ((p : Int) < q ∧ q < 24)) (hn : n ≤ 7) (hY : ∀ s : Nat, s ≤ n → Y (p * 8 + s) = Y' (p * 8 + s)) (hR : ∀ r s : Nat, p < r → r < 24 → s ≤ n → R (r * 8 + s) = R' (r * 8 + s)) : nr Y R q p n = nr Y' R' q p n := by
  unfold nr
  by_cases z : q < 0
  · rw [if_pos z, if_pos z]; exact hY n (Nat.le_refl _)
  · rw [if_neg z, if_neg z]
    refine sm_congr fun s hs => ?_
    rw [hY s (by omega), hR q.toNat (n - s) (by omega) (by omega) (by omega)]
/-- what a walk over the parts leaves -/
def pstL (M : Int → Int) (n : Nat) (Y0 R0 Y R : Nat → Nat) (p : Nat) : Prop :=
  (∀ q, p ≤ q → (q : Int) < M 2 → eqL M n Y R q) ∧ (∀ j, j < 240 → (∀ q, p ≤ q → (q : Int) < M 2 → j ≠ q * 8 + n) → Y j = Y0 j) ∧ (∀ j, j < 192 → (∀ q, p ≤ q → (q : Int) < M 2 → j ≠ q * 8 + n) → R j = R0 j)
theorem ev_min {x : Nat} : ev (min CC x) x := by unfold ev; rw [← Nat.min_assoc, Nat.min_self]
theorem pstL_step {M : Int → Int} {n p : Nat} {Y0 R0 Y R Y1 R1 : Nat → Nat} (h : WF M) (hp : (p : Int) < M 2) (hn : n ≤ 7) (hS : pstL M n Y0 R0 Y R (p + 1)) (h1 : ∀ j, j < 240 → Y1 j = if j = p * 8 + n then min CC (pvL M Y R p n) else Y j) (h2 : ∀ j, j < 192 → R1 j = if j = p * 8 + n then min CC (nr Y1 R (M (96 + (p : Int))) p n) else R j) : pstL M n Y0 R0 Y1 R1 p := by
  have hM2 := h.2.2.1
  have aY : ∀ q s : Nat, q ≠ p → q < 30 → s ≤ 7 → Y (q * 8 + s) = Y1 (q * 8 + s) := fun q s a b c => by
    rw [h1 _ (by omega), if_neg (by omega)]
  have aR : ∀ q s : Nat, q ≠ p → q < 24 → s ≤ 7 → R (q * 8 + s) = R1 (q * 8 + s) := fun q s a b c => by
    rw [h2 _ (by omega), if_neg (by omega)]
  refine ⟨fun q q1 q2 => ?_, fun j hj hne => ?_, fun j hj hne => ?_⟩
  · have hq := (h.2.2.2.1 q q2).2.1
    by_cases e : q = p
    · subst e
      refine ⟨?_, ?_⟩
      · rw [h1 _ (by omega), if_pos rfl, pvL_cg h q2 hn (fun r s a b c => aY r s (by omega) b (by omega)) (fun r s a b c => aR r s (by omega) b (by omega))]
        exact ev_min
      · rw [h2 _ (by omega), if_pos rfl, nr_cg (Y := Y1) (Y' := Y1) (R := R) (R' := R1) (by omega) (by omega) hn (fun _ _ => rfl) (fun r s a b c => aR r s (by omega) b (by omega))]
        exact ev_min
    · obtain ⟨e1, e2⟩ := hS.1 q (by omega) q2
      refine ⟨?_, ?_⟩
      · rw [← aY q n (by omega) (by omega) hn, ← pvL_cg h q2 hn (fun r s a b c => aY r s (by omega) b (by omega)) (fun r s a b c => aR r s (by omega) b (by omega))]
        exact e1
      · rw [← aR q n (by omega) (by omega) hn, ← nr_cg (by omega) (by omega) hn (fun s a => aY q s (by omega) (by omega) (by omega)) (fun r s a b c => aR r s (by omega) b (by omega))]
        exact e2
  · rw [h1 j hj, if_neg (hne p (Nat.le_refl _) hp)]
    exact hS.2.1 j hj (fun q a b => hne q (by omega) b)
  · rw [h2 j hj, if_neg (hne p (Nat.le_refl _) hp)]
    exact hS.2.2 j hj (fun q a b => hne q (by omega) b)
theorem nm73 {M : Int → Int} {n : Nat} {Y0 R0 : Nat → Nat} (h : WF M) (hn : n ≤ 7) : ∀ (d f : Nat) (S : St) (v : Int), v = (d : Int) - 1 → v < M 2 → d < f → S 84 = M → nb S 93 240 1000000000000 → nb S 94 192 1000000000000 → pstL M n Y0 R0 (tb S 93) (tb S 94) d → wp (mX12_names_73 (n : Int) f v S) (fun S' => nb S' 93 240 1000000000000 ∧ nb S' 94 192 1000000000000 ∧ pstL M n Y0 R0 (tb S' 93) (tb S' 94) 0 ∧ kept [93, 94, 95] [] S S') := by
  have hM2 := h.2.2.1
  intro d
  induction d with
  | zero =>
    intro f S v hv hvM hf h84 h93 h94 hS
    obtain ⟨g, rfl⟩ : ∃ g, f = g + 1 := ⟨f - 1, by omega⟩
    rw [mX12_names_73, gd_t (by omega), if_pos (by omega), wp_some]
    exact ⟨h93, h94, hS, kept.rf⟩
  | succ d ih =>
    intro f S v hv hvM hf h84 h93 h94 hS
    obtain ⟨g, rfl⟩ : ∃ g, f = g + 1 := ⟨f - 1, by omega⟩
    have ev : v = (d : Int) := by omega
    subst ev
    have hq := (h.2.2.2.1 d hvM).2.1
    rw [mX12_names_73, gd_t (by omega), if_neg (by omega), wp_bd2]
    refine wp_mono (w_namedPart (S := S) (p := d) (n := n) (by rw [h84]; exact h) (by rw [h84]; exact hvM) hn h93 h94) (fun o q => ?_)
    obtain ⟨r, S1⟩ := o
    obtain ⟨q1, k1⟩ := q
    dsimp only at q1 k1 ⊢
    subst q1
    have e84 := k1.cell 84 (by decide) (by decide)
    have e93 := k1.cell 93 (by decide) (by decide)
    have e94 := k1.cell 94 (by decide) (by decide)
    rw [gd_t (by omega), nx_e, show (d : Int) * 8 + (n : Int) = ((d * 8 + n : Nat) : Int) by omega]
    have n93 : nb (up S1 93 ((d * 8 + n : Nat) : Int) ((min CC (pvL (S 84) (tb S 93) (tb S 94) d n) : Nat) : Int)) 93 240 1000000000000 := nb_up (by intro j hj; rw [e93]; exact h93 j hj) (Nat.min_le_left _ _)
    have n94 : nb (up S1 93 ((d * 8 + n : Nat) : Int) ((min CC (pvL (S 84) (tb S 93) (tb S 94) d n) : Nat) : Int)) 94 192 1000000000000 := by intro j hj; rw [up_n (by decide), e94]; exact h94 j hj
    rw [bd1_e (e_namesRest (q := M (96 + (d : Int))) (by omega) (by omega) (by rw [up_n (by decide), e84, h84]) hn n93 n94)]
    have t93 : tb (up S1 93 ((d * 8 + n : Nat) : Int) ((min CC (pvL (S 84) (tb S 93) (tb S 94) d n) : Nat) : Int)) 93 = fun j => if j = d * 8 + n then min CC (pvL M (tb S 93) (tb S 94) d n) else tb S 93 j := by
      funext j
      rw [tb_up, h84]
      by_cases w : j = d * 8 + n
      · rw [if_pos w, if_pos w]
      · rw [if_neg w, if_neg w]; unfold tb; rw [e93]
    have t94 : tb (up S1 93 ((d * 8 + n : Nat) : Int) ((min CC (pvL (S 84) (tb S 93) (tb S 94) d n) : Nat) : Int)) 94 = tb S 94 := by
      funext j; unfold tb; rw [up_n (by decide), e94]
    rw [t93, t94]
    generalize hU : up S1 93 ((d * 8 + n : Nat) : Int) ((min CC (pvL (S 84) (tb S 93) (tb S 94) d n) : Nat) : Int) = U at n93 n94 t93 t94 ⊢
    have kU : kept [93, 94, 95] [] S U := by rw [← hU]; exact kept.upA (k1.mono (by decide) (by decide)) (by decide)
    have u93 : ∀ a b, tb (up U 94 a b) 93 = tb U 93 := fun a b => by funext j; unfold tb; rw [up_n (by decide)]
    have st := pstL_step (M := M) (p := d) h hvM hn hS (Y1 := fun j => if j = d * 8 + n then min CC (pvL M (tb S 93) (tb S 94) d n) else tb S 93 j) (R1 := tb (up U 94 ((d * 8 + n : Nat) : Int) ((min CC (nr (fun j => if j = d * 8 + n then min CC (pvL M (tb S 93) (tb S 94) d n) else tb S 93 j) (tb S 94) (M (96 + (d : Int))) d n) : Nat) : Int)) 94) (fun j hj => rfl) (fun j hj => by rw [tb_up, t94])
    have := ih g (up U 94 ((d * 8 + n : Nat) : Int) ((min CC (nr (fun j => if j = d * 8 + n then min CC (pvL M (tb S 93) (tb S 94) d n) else tb S 93 j) (tb S 94) (M (96 + (d : Int))) d n) : Nat) : Int)) ((d : Int) - 1) (by omega) (by omega) (by omega) (by rw [up_n (by decide), ← hU, up_n (by decide), e84, h84]) (by intro j hj; rw [up_n (by decide)]; exact n93 j hj) (nb_up n94 (Nat.min_le_left _ _)) (by rw [u93, t93]; exact st)
    exact wp_mono this (fun S' q => ⟨q.1, q.2.1, q.2.2.1, kept.trans (kept.upA kU (by decide)) q.2.2.2⟩)
