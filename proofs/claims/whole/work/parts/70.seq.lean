/-! sequences, as the class counts them -/
theorem phi_sum : ∀ j : Nat, j ≤ 7 → sm j (fun d => if j % (d + 1) = 0 then phi (d + 1) else 0) ≤ 7 := by decide
def rgC (z : Nat) (V : Nat → Nat → Nat → Nat) (N n k : Nat) : Nat := sm z (fun d => if N % (d + 1) = 0 ∧ n % (d + 1) = 0 ∧ k % (d + 1) = 0 then phi (d + 1) * V (N / (d + 1)) (n / (d + 1)) (k / (d + 1)) else 0)
theorem rgC_le {z N n k : Nat} {V : Nat → Nat → Nat → Nat} (hz : z ≤ N) (hN : N ≤ 7) (hV : ∀ a b c, V a b c ≤ HH) : rgC z V N n k ≤ 7 * HH := by
  have a : rgC z V N n k ≤ sm z (fun d => (if N % (d + 1) = 0 then phi (d + 1) else 0) * HH) := by
    refine sm_mono fun d hd => ?_
    by_cases c : N % (d + 1) = 0 ∧ n % (d + 1) = 0 ∧ k % (d + 1) = 0
    · rw [if_pos c, if_pos c.1]; exact Nat.mul_le_mul_left _ (hV _ _ _)
    · rw [if_neg c]; exact Nat.zero_le _
  rw [← sm_mulr] at a
  refine Nat.le_trans a (Nat.mul_le_mul_right HH (Nat.le_trans ?_ (phi_sum N hN)))
  clear a
  induction N with
  | zero => rw [show z = 0 by omega]; exact Nat.le_refl _
  | succ N _ =>
    obtain ⟨d, hd⟩ : ∃ d, N + 1 = z + d := ⟨N + 1 - z, by omega⟩
    have up : ∀ (f : Nat → Nat) (a b : Nat), sm a f ≤ sm (a + b) f := fun f a b => by
      induction b with
      | zero => exact Nat.le_refl _
      | succ b ih => exact Nat.le_trans ih (Nat.le_add_right _ _)
    have := up (fun d => if (N + 1) % (d + 1) = 0 then phi (d + 1) else 0) z d
    rw [← hd] at this
    exact this
theorem min_divH {x z : Nat} (h1 : 1 ≤ z) (h2 : z ≤ 5040) : ev (min HH x / z) (x / z) := by
  unfold ev
  rcases Nat.le_total x HH with c | c
  · rw [Nat.min_eq_right c]
  · rw [Nat.min_eq_left c]
    have a : CC ≤ HH / z := (Nat.le_div_iff_mul_le h1).mpr (Nat.le_trans (Nat.mul_le_mul_left CC h2) (by decide))
    have b : CC ≤ x / z := Nat.le_trans a (Nat.div_le_div_right (by omega))
    rw [Nat.min_eq_left a, Nat.min_eq_left b]
def cls (lab : Bool) (M : Int → Int) (p : Nat) : Prop := lab = false ∧ (M (24 + (p : Int)) = 4 ∨ M (24 + (p : Int)) = 5)
def szM (M : Int → Int) (p n : Nat) : Nat := if M (48 + (p : Int)) = 0 then n else n - 1
/-- what stands in the rows of a sequence behind its step at a size -/
def seqOK (L lab : Bool) (M : Int → Int) (c : Nat → Nat → Nat) (R : Nat → Nat) (p n : Nat) : Prop :=
  (∀ s k : Nat, s ≤ (M 1).toNat → k ≤ topf L s → tab R p 0 s k = if s = 0 ∧ k = 0 then 1 else 0) ∧
  (M (48 + (p : Int)) ≠ 1 → cls lab M p → ∀ j s q : Nat, j ≤ lgM M p → s ≤ (M 1).toNat → q ≤ topf L s → ev (tab R p j s q) (bgS (M (24 + (p : Int)) == 5) c (topf L) (szM M p n) j s q)) ∧
  (M (48 + (p : Int)) ≠ 1 → ¬ cls lab M p → rowsOK L lab c R p (lgM M p) n ∧ ∀ j s k : Nat, 2 ≤ j → j ≤ lgM M p → n < s → s ≤ (M 1).toNat → k ≤ topf L s → tab R p j s k = 0)
theorem bgS_j0 {once : Bool} {c : Nat → Nat → Nat} {lt : Nat → Nat} : ∀ s n k, bgS once c lt s 0 n k = if n = 0 ∧ k = 0 then 1 else 0 := by
  have key : ∀ (s : Nat) (T : Nat → Nat → Nat → Nat) (i n k : Nat), bgI once c s T i 0 n k = T 0 n k := by
    intro s T i
    induction i with
    | zero => intro n k; rfl
    | succ i ih =>
      intro n k
      show addC (ch once (c s i)) s i (bgI once c s T i) 0 n k = _
      unfold addC
      rw [sm_s, sm_0, Nat.zero_add, if_pos (by omega), show ch once (c s i) 0 = 1 by unfold ch; rw [if_pos rfl], Nat.one_mul]
      simp only [Nat.zero_mul, Nat.sub_zero]
      exact ih n k
  intro s
  induction s with
  | zero => intro n k; show (if 0 = 0 ∧ n = 0 ∧ k = 0 then 1 else 0) = _; simp
  | succ s ih => intro n k; exact (key (s + 1) _ _ n k).trans (ih n k)
theorem bgS_top1 {once : Bool} {c : Nat → Nat → Nat} {lt : Nat → Nat} {j n k : Nat} (hj : 2 ≤ j) (hn : 1 ≤ n) : bgS once c lt n j n k = bgS once c lt (n - 1) j n k := by
  obtain ⟨m, rfl⟩ : ∃ m, n = m + 1 := ⟨n - 1, by omega⟩
  exact bgI_top (by omega) (bgS_small m) hj _ _
/-- a sequence's number, out of the things in it -/
def sqv (L lab : Bool) (M : Int → Int) (c : Nat → Nat → Nat) (p n k : Nat) : Nat :=
  if lab then nin (M (24 + (p : Int))) (M (48 + (p : Int))) (fun s => cut L c s 0) n
  else inT (M (24 + (p : Int)) == 6) (if M (24 + (p : Int)) = 3 then tr (cut L c) else bgS (M (24 + (p : Int)) == 5) c (topf L) n) (cut L c) (M (48 + (p : Int))).toNat n k
/-- its part of j things -/
def sq1 (L lab : Bool) (M : Int → Int) (c : Nat → Nat → Nat) (p j n k : Nat) : Nat :=
  if lab then tl (fun s => cut L c s 0) j n / dv (M (24 + (p : Int))) j
  else if M (24 + (p : Int)) = 6 then rgu (cut L c) j n k / j else if M (24 + (p : Int)) = 3 then tr (cut L c) j n k else bgS (M (24 + (p : Int)) == 5) c (topf L) n j n k
theorem sqv_sum {L lab : Bool} {M : Int → Int} {c : Nat → Nat → Nat} {p n k : Nat} (hs : 3 ≤ M (24 + (p : Int)) ∧ M (24 + (p : Int)) ≤ 6) (hn : 1 ≤ n) (hnum : M (48 + (p : Int)) = 0) : sqv L lab M c p n k = sm n (fun j => sq1 L lab M c p (j + 1) n k) := by
  have sh : ∀ (g : Nat → Nat) (N : Nat), g 0 = 0 → sm (N + 1) g = sm N (fun i => g (i + 1)) := by
    intro g N h0
    induction N with
    | zero => rw [sm_s, sm_0, h0]; rfl
    | succ N ih => rw [sm_s, ih, sm_s]
  unfold sqv sq1
  cases lab with
  | true =>
    simp only [if_true]
    unfold nin
    rw [sh]
    · refine sm_congr fun j hj => ?_
      rw [if_pos (Or.inl hnum)]
    · rw [if_pos (Or.inl hnum), show tl (fun s => cut L c s 0) 0 n = 0 from if_neg (by omega), Nat.zero_div]
  | false =>
    simp only [Bool.false_eq_true, if_false]
    unfold inT
    rw [if_pos (by omega)]
    by_cases s6 : M (24 + (p : Int)) = 6
    · rw [s6]
      simp only [beq_self_eq_true, if_true]
      rw [sh _ _ (by simp)]
      refine sm_congr fun j hj => ?_
      rw [if_neg (by omega)]
    · have b : (M (24 + (p : Int)) == 6) = false := by simp [s6]
      rw [b]
      simp only [Bool.false_eq_true, if_false]
      rw [sh]
      · refine sm_congr fun j hj => ?_
        by_cases s3 : M (24 + (p : Int)) = 3
        · rw [if_pos s3, if_neg s6, if_pos s3]
        · rw [if_neg s3, if_neg s6, if_neg s3]
      · by_cases s3 : M (24 + (p : Int)) = 3
        · rw [if_pos s3]; show (if n = 0 ∧ k = 0 then 1 else 0) = 0; rw [if_neg (by omega)]
        · rw [if_neg s3, bgS_j0, if_neg (by omega)]
theorem sqv_one {L lab : Bool} {M : Int → Int} {c : Nat → Nat → Nat} {p n k : Nat} (hs : 3 ≤ M (24 + (p : Int)) ∧ M (24 + (p : Int)) ≤ 6) (hnum : 1 ≤ M (48 + (p : Int))) : sqv L lab M c p n k = if lab = true ∧ (n : Int) < M (48 + (p : Int)) then 0 else sq1 L lab M c p (M (48 + (p : Int))).toNat n k := by
  unfold sqv sq1
  cases lab with
  | true =>
    simp only [if_true]
    unfold nin
    by_cases z : (n : Int) < M (48 + (p : Int))
    · rw [if_pos ⟨trivial, z⟩]
      exact sm_zero fun v hv => by rw [if_neg (by omega)]
    · rw [if_neg (by omega)]
      have one : ∀ (g : Nat → Nat) (N a : Nat), a < N → (∀ i, i < N → i ≠ a → g i = 0) → sm N g = g a := by
        intro g N
        induction N with
        | zero => intro a h; omega
        | succ N ih =>
          intro a h hz
          rw [sm_s]
          by_cases e : a = N
          · subst e
            rw [sm_zero (fun i hi => hz i (by omega) (by omega)), Nat.zero_add]
          · rw [ih a (by omega) (fun i hi => hz i (by omega)), hz N (by omega) (by omega), Nat.add_zero]
      rw [one _ _ (M (48 + (p : Int))).toNat (by omega) (fun i hi hne => by rw [if_neg (by omega)]), if_pos (by omega)]
  | false =>
    simp only [Bool.false_eq_true, if_false, false_and]
    unfold inT
    rw [if_neg (by omega)]
    by_cases s6 : M (24 + (p : Int)) = 6
    · rw [s6]; simp
    · have b : (M (24 + (p : Int)) == 6) = false := by simp [s6]
      rw [b]
      simp only [Bool.false_eq_true, if_false]
      rw [if_neg s6]
      by_cases s3 : M (24 + (p : Int)) = 3
      · rw [if_pos s3, if_pos s3]
      · rw [if_neg s3, if_neg s3]
/-! the class's census 48: rings, sequences of a number -/
theorem e_ringsOf48 {S : St} {m : Int} {p c j n k : Nat} (hm : inI m) (h1 : S 48 1 = m) (hp : p < 24) (hc : S 5 (p : Int) = (c : Int)) (hc2 : c < 24) (hj : 1 ≤ j ∧ j ≤ 7) (hn : n ≤ 7) (hk : k ≤ 7) (hO : nb S 49 1536 HH) (hR : nb S 52 12288 HH) : mX0_ringsOf_48 S (p : Int) (j : Int) (n : Int) (k : Int) = some ((rgC (if m = -2 then 1 else j) (rwv (tb S 49) (tb S 52) p c) j n k / j : Nat) : Int) := by
  have hz : (gd (inI (S 48 1)) <| if (S 48 1) = (-2) then (some (1 : Int)) else (some (j : Int))) = some (((if m = -2 then 1 else j : Nat)) : Int) := by
    rw [h1, gd_t hm]
    by_cases z : m = -2
    · rw [if_pos z, if_pos z]; rfl
    · rw [if_neg z, if_neg z]
  have zj : (if m = -2 then 1 else j) ≤ j := by split <;> omega
  have key : ∀ d v f : Nat, v + d = (if m = -2 then 1 else j) → d < f → mX0_ringsOf_48_6 S (p : Int) (j : Int) (n : Int) (k : Int) f ((v : Int) + 1) ((rgC v (rwv (tb S 49) (tb S 52) p c) j n k : Nat) : Int) = some ((rgC (if m = -2 then 1 else j) (rwv (tb S 49) (tb S 52) p c) j n k : Nat) : Int) := by
    intro d
    induction d with
    | zero =>
      intro v f hv hf
      obtain ⟨g, rfl⟩ : ∃ g, f = g + 1 := ⟨f - 1, by omega⟩
      rw [mX0_ringsOf_48_6, bd1_e hz, gd_t (by omega), if_pos (by omega), show v = (if m = -2 then 1 else j) by omega]
    | succ d ih =>
      intro v f hv hf
      obtain ⟨g, rfl⟩ : ∃ g, f = g + 1 := ⟨f - 1, by omega⟩
      have l := ih (v + 1) g (by omega) (by omega)
      rw [show ((v + 1 : Nat) : Int) + 1 = (v : Int) + 1 + 1 by omega] at l
      have l2 : rgC (v + 1) (rwv (tb S 49) (tb S 52) p c) j n k = rgC v (rwv (tb S 49) (tb S 52) p c) j n k + (if j % (v + 1) = 0 ∧ n % (v + 1) = 0 ∧ k % (v + 1) = 0 then phi (v + 1) * rwv (tb S 49) (tb S 52) p c (j / (v + 1)) (n / (v + 1)) (k / (v + 1)) else 0) := sm_s
      rw [l2] at l
      have m1 : (j : Int) % ((v : Int) + 1) = ((j % (v + 1) : Nat) : Int) := by rw [Int.natCast_emod]; rfl
      have m2 : (n : Int) % ((v : Int) + 1) = ((n % (v + 1) : Nat) : Int) := by rw [Int.natCast_emod]; rfl
      have m3 : (k : Int) % ((v : Int) + 1) = ((k % (v + 1) : Nat) : Int) := by rw [Int.natCast_emod]; rfl
      have d1 : (j : Int) / ((v : Int) + 1) = ((j / (v + 1) : Nat) : Int) := by rw [Int.natCast_ediv]; rfl
      have d2 : (n : Int) / ((v : Int) + 1) = ((n / (v + 1) : Nat) : Int) := by rw [Int.natCast_ediv]; rfl
      have d3 : (k : Int) / ((v : Int) + 1) = ((k / (v + 1) : Nat) : Int) := by rw [Int.natCast_ediv]; rfl
      have x1 : j % (v + 1) ≤ j := Nat.mod_le _ _
      have x2 : n % (v + 1) ≤ n := Nat.mod_le _ _
      have x3 : k % (v + 1) ≤ k := Nat.mod_le _ _
      have y1 : j / (v + 1) ≤ j := Nat.div_le_self _ _
      have y2 : n / (v + 1) ≤ n := Nat.div_le_self _ _
      have y3 : k / (v + 1) ≤ k := Nat.div_le_self _ _
      obtain ⟨r1, r1'⟩ := e_rowsOf48 (S := S) (p := p) (c := c) (j := j / (v + 1)) (n := n / (v + 1)) (k := k / (v + 1)) hp (fun _ => ⟨hc, hc2⟩) (by omega) (by omega) (by omega) hO hR
      have ph := phi_le (d := v + 1)
      have pt := phi_tab (v + 1) (by omega) (by omega)
      rw [show ((v + 1 : Nat) : Int) = (v : Int) + 1 by omega] at pt
      rw [mX0_ringsOf_48_6, bd1_e hz, gd_t (by omega), if_neg (by omega), m1, m2, m3, d1, d2, d3, pt]
      rw [gd_t (by omega), gd_t (by omega)]
      by_cases c1 : j % (v + 1) = 0
      · rw [if_pos (by omega), gd_t (by omega), gd_t (by omega)]
        by_cases c2 : n % (v + 1) = 0
        · rw [if_pos (by omega), gd_t (by omega), gd_t (by omega)]
          by_cases c3 : k % (v + 1) = 0
          · rw [if_pos (by omega), gd_t (by omega), gd_t (by omega), bd1_e r1, nx_e]
            rw [if_pos ⟨c1, c2, c3⟩, Int.natCast_add, Int.natCast_mul] at l
            exact l
          · rw [if_neg (by omega)]
            rw [if_neg (by omega), Nat.add_zero] at l
            exact l
        · rw [if_neg (by omega)]
          rw [if_neg (by omega), Nat.add_zero] at l
          exact l
      · rw [if_neg (by omega)]
        rw [if_neg (by omega), Nat.add_zero] at l
        exact l
  have l := key (if m = -2 then 1 else j) 0 FU (by omega) (by unfold FU; omega)
  have hV : ∀ a b d, rwv (tb S 49) (tb S 52) p c a b d ≤ 7 * HH ∨ True := fun _ _ _ => Or.inr trivial
  have bd : rgC (if m = -2 then 1 else j) (rwv (tb S 49) (tb S 52) p c) j n k ≤ 7 * HH := by
    have e : rgC (if m = -2 then 1 else j) (rwv (tb S 49) (tb S 52) p c) j n k = rgC (if m = -2 then 1 else j) (fun a b d => min HH (rwv (tb S 49) (tb S 52) p c a b d)) j n k := by
      refine sm_congr fun d hd => ?_
      have y1 : j / (d + 1) ≤ j := Nat.div_le_self _ _
      have y2 : n / (d + 1) ≤ n := Nat.div_le_self _ _
      have y3 : k / (d + 1) ≤ k := Nat.div_le_self _ _
      have r := (e_rowsOf48 (S := S) (p := p) (c := c) (j := j / (d + 1)) (n := n / (d + 1)) (k := k / (d + 1)) hp (fun _ => ⟨hc, hc2⟩) (by omega) (by omega) (by omega) hO hR).2
      dsimp only
      rw [Nat.min_eq_right r]
    rw [e]
    exact rgC_le zj hj.2 (fun _ _ _ => min_le')
  have bd' : rgC (if m = -2 then 1 else j) (rwv (tb S 49) (tb S 52) p c) j n k ≤ 7000000000000000000 := bd
  unfold mX0_ringsOf_48
  rw [bd1_e (show mX0_ringsOf_48_6 S (p : Int) (j : Int) (n : Int) (k : Int) FU 1 0 = _ from l), gd_t (by omega), if_pos (by omega), gd_t (by omega)]
  rfl
theorem e_inClasses48 {S : St} {M : Int → Int} {m : Int} {p : Nat} (h : WF M) (hG : GM S M) (hp2 : (p : Int) < M 2) (hm : inI m) (h1 : S 48 1 = m) : ∃ z : Int, mX0_inClasses_48 S (p : Int) = some z ∧ (z = 0 ∨ z = 1) ∧ (z = 0 ↔ ¬ cls (decide (m = -2)) M p) := by
  have hM2 := h.2.2.1
  have hh := (h.2.2.2.1 p hp2).1
  have g3 := (hG.2.1 p hp2).1
  unfold mX0_inClasses_48 cls
  rw [h1, gd_t hm]
  by_cases z : m = -2
  · rw [if_pos z]; exact ⟨0, rfl, Or.inl rfl, by simp [z]⟩
  · rw [if_neg z, gd_t (by omega), g3, gd_t (by omega)]
    by_cases c4 : M (24 + (p : Int)) = 4
    · rw [if_pos c4]; exact ⟨1, rfl, Or.inr rfl, by simp [z, c4]⟩
    · rw [if_neg c4]
      by_cases c5 : M (24 + (p : Int)) = 5
      · rw [if_pos c5]; exact ⟨1, rfl, Or.inr rfl, by simp [z, c5]⟩
      · rw [if_neg c5]; exact ⟨0, rfl, Or.inl rfl, by simp [c4, c5]⟩
theorem topf_div {L : Bool} {n k d : Nat} (h : k ≤ topf L n) : k / d ≤ topf L (n / d) := by
  unfold topf at h ⊢
  cases L with
  | true => simp at h ⊢; exact Nat.div_le_div_right h
  | false =>
    have h0 : k = 0 := by simpa using h
    rw [h0, Nat.zero_div]; exact Nat.zero_le _
/-- a row's number, where the rows stand as they should -/
theorem rwv_trw {L lab : Bool} {O R : Nat → Nat} {p c lg n : Nat} (hR : rowsOK L lab (fun s i => O (pl c s i)) R p lg n) (hO : ∀ s i : Nat, s ≤ 7 → i ≤ 7 → O (pl c s i) ≤ HH) {j s k : Nat} (hj : 1 ≤ j) (hjl : j ≤ lg) (hs : 1 ≤ s) (hsn : s ≤ n) (hn : n ≤ 7) (hk : k ≤ topf L s) : rwv O R p c j s k = min HH (trw lab (cut L (fun s i => O (pl c s i))) j s k) := by
  have t : topf L s ≤ s := topf_le
  unfold rwv
  by_cases z : j = 1
  · rw [if_pos z, z, trw_1 hs, wt_nn, Nat.one_mul, show cut L (fun s i => O (pl c s i)) s k = O (pl c s k) from if_pos hk, Nat.min_eq_right (hO s k (by omega) (by omega))]
  · rw [if_neg z]; exact hR j s k (by omega) hjl hsn hk
theorem w_seqOf48 {S : St} {M : Int → Int} {m : Int} {p c j n k : Nat} (h : WF M) (hG : GM S M) (hp2 : (p : Int) < M 2) (hsq : 3 ≤ M (24 + (p : Int)) ∧ M (24 + (p : Int)) ≤ 6) (hc : M (72 + (p : Int)) = (c : Int)) (hm : inI m) (h1 : S 48 1 = m) (hnum : M (48 + (p : Int)) ≠ 1) (hj : 1 ≤ j ∧ j ≤ lgM M p) (hjz : M (48 + (p : Int)) = 0 ∨ 2 ≤ j) (hn : 1 ≤ n ∧ (n : Int) ≤ M 1) (hk : k ≤ topf (decide (0 ≤ m)) n) (hO : nb S 49 1536 HH) (hR : nb S 52 12288 HH) (hQ : seqOK (decide (0 ≤ m)) (decide (m = -2)) M (fun s i => tb S 49 (pl c s i)) (tb S 52) p n) : ∃ X : Nat, mX0_sequencesOf_48 S (p : Int) (j : Int) (n : Int) (k : Int) = some (X : Int) ∧ X ≤ HH ∧ ev X (sq1 (decide (0 ≤ m)) (decide (m = -2)) M (fun s i => tb S 49 (pl c s i)) p j n k) := by
  have hM2 := h.2.2.1
  have hM1 := h.2.1
  have hl := lgM_le h hp2 hsq
  have hp : p < 24 := by omega
  have h6 := (h.2.2.2.1 p hp2).2.2.2.2.2 hsq
  have tn : topf (decide (0 ≤ m)) n ≤ n := topf_le
  have e5 : S 5 (p : Int) = (c : Int) := by rw [← hc]; exact (hG.2.1 p hp2).2.2.2.2.1 hsq
  have g3 := (hG.2.1 p hp2).1
  obtain ⟨z, z1, z2, z3⟩ := e_inClasses48 h hG hp2 hm h1
  have nO : ∀ s i : Nat, s ≤ 7 → i ≤ 7 → tb S 49 (pl c s i) ≤ HH := fun s i a b => (hO.at (pl_lt2 (N := 24) (by omega) a b (by decide))).2
  unfold mX0_sequencesOf_48
  rw [gd_t (by omega), nx_e, g3, bd1_e z1, gd_t (by omega)]
  unfold sq1
  by_cases cl : cls (decide (m = -2)) M p
  · have zz : z ≠ 0 := fun e => z3.mp e cl
    have b := hR.at (rb hp (show j ≤ 7 by omega) (show n ≤ 7 by omega) (show k ≤ 7 by omega))
    rw [if_neg zz, show (p : Int) * 512 + (j : Int) * 64 + (n : Int) * 8 + (k : Int) = ((p * 512 + pl j n k : Nat) : Int) by unfold pl; omega, gd_t (by unfold pl; omega), b.1]
    refine ⟨_, rfl, b.2, ?_⟩
    have q := hQ.2.1 hnum cl j n k hj.2 (by omega) hk
    rw [cl.1]
    simp only [Bool.false_eq_true, if_false]
    rw [if_neg (by have := cl.2; omega), if_neg (by have := cl.2; omega)]
    refine q.tr ?_
    unfold szM
    by_cases y : M (48 + (p : Int)) = 0
    · rw [if_pos y]; exact ev.rf
    · rw [if_neg y, bgS_top1 (by omega) hn.1]; exact ev.rf
  · have zz : z = 0 := z3.mpr cl
    have q := (hQ.2.2 hnum cl).1
    have V : ∀ j' s k' : Nat, 1 ≤ j' → j' ≤ lgM M p → 1 ≤ s → s ≤ n → k' ≤ topf (decide (0 ≤ m)) s → rwv (tb S 49) (tb S 52) p c j' s k' = min HH (trw (decide (m = -2)) (cut (decide (0 ≤ m)) (fun s i => tb S 49 (pl c s i))) j' s k') := fun j' s k' a b d e f' => rwv_trw q nO a b d e (by omega) f'
    rw [if_pos zz, gd_t (by omega)]
    by_cases s6 : M (24 + (p : Int)) = 6
    · rw [if_pos s6, bd1_e (e_ringsOf48 hm h1 hp e5 (by omega) (by omega) (by omega) (by omega) hO hR)]
      refine ⟨_, rfl, ?_, ?_⟩
      · have : rgC (if m = -2 then 1 else j) (rwv (tb S 49) (tb S 52) p c) j n k / j ≤ HH := by
          by_cases y : m = -2
          · rw [if_pos y]
            have : rgC 1 (rwv (tb S 49) (tb S 52) p c) j n k ≤ HH := by
              unfold rgC
              rw [sm_s, sm_0, Nat.zero_add, if_pos (by omega)]
              simp only [Nat.zero_add, Nat.div_one]
              rw [show phi 1 = 1 from rfl, Nat.one_mul, V j n k hj.1 hj.2 hn.1 (Nat.le_refl _) hk]
              exact min_le'
            exact Nat.le_trans (Nat.div_le_self _ _) this
          · rw [if_neg y]
            have e : rgC j (rwv (tb S 49) (tb S 52) p c) j n k ≤ j * HH := by
              have : ∀ N : Nat, 1 ≤ N → N ≤ 7 → sm N (fun d => if N % (d + 1) = 0 then phi (d + 1) else 0) ≤ N := by
                intro N a b
                rcases (show N = 1 ∨ N = 2 ∨ N = 3 ∨ N = 4 ∨ N = 5 ∨ N = 6 ∨ N = 7 by omega) with rfl | rfl | rfl | rfl | rfl | rfl | rfl <;> decide
              refine Nat.le_trans ?_ (Nat.mul_le_mul_right HH (this j hj.1 (by omega)))
              rw [sm_mulr]
              refine sm_mono fun d hd => ?_
              by_cases cc : j % (d + 1) = 0 ∧ n % (d + 1) = 0 ∧ k % (d + 1) = 0
              · have y1 : j / (d + 1) ≤ j := Nat.div_le_self _ _
                have y2 : n / (d + 1) ≤ n := Nat.div_le_self _ _
                have y3 : k / (d + 1) ≤ k := Nat.div_le_self _ _
                rw [if_pos cc, if_pos cc.1]
                exact Nat.mul_le_mul_left _ (e_rowsOf48 (S := S) (p := p) (c := c) (j := j / (d + 1)) (n := n / (d + 1)) (k := k / (d + 1)) hp (fun _ => ⟨e5, by omega⟩) (by omega) (by omega) (by omega) hO hR).2
              · rw [if_neg cc]; exact Nat.zero_le _
            exact Nat.div_le_of_le_mul e
        exact this
      · by_cases y : m = -2
        · rw [if_pos y]
          have e : rgC 1 (rwv (tb S 49) (tb S 52) p c) j n k = min HH (tl (fun s => cut (decide (0 ≤ m)) (fun s i => tb S 49 (pl c s i)) s 0) j n) := by
            unfold rgC
            rw [sm_s, sm_0, Nat.zero_add, if_pos (by omega)]
            simp only [Nat.zero_add, Nat.div_one]
            have k0 : k = 0 := by unfold topf at hk; simp [show ¬ (0 ≤ m) by omega] at hk; exact hk
            rw [show phi 1 = 1 from rfl, Nat.one_mul, V j n k hj.1 hj.2 hn.1 (Nat.le_refl _) hk, k0]
            rw [show decide (m = -2) = true by simp [y], trw_t]
          rw [e]
          simp only [y, decide_true, if_true]
          unfold dv
          rw [if_neg (by omega), if_pos s6]
          exact min_divH hj.1 (by omega)
        · rw [if_neg y]
          have e : rgC j (rwv (tb S 49) (tb S 52) p c) j n k = rgs HH (cut (decide (0 ≤ m)) (fun s i => tb S 49 (pl c s i))) j n k := by
            refine sm_congr fun d hd => ?_
            by_cases cc : j % (d + 1) = 0 ∧ n % (d + 1) = 0 ∧ k % (d + 1) = 0
            · have y1 : j / (d + 1) ≤ j := Nat.div_le_self _ _
              have y2 : n / (d + 1) ≤ n := Nat.div_le_self _ _
              have x1 := div_back cc.1
              have x2 := div_back cc.2.1
              have p1 : 1 ≤ j / (d + 1) := Nat.pos_of_ne_zero fun e => by rw [e, Nat.zero_mul] at x1; omega
              have p2 : 1 ≤ n / (d + 1) := Nat.pos_of_ne_zero fun e => by rw [e, Nat.zero_mul] at x2; omega
              rw [if_pos cc, if_pos cc, V _ _ _ p1 (by omega) p2 (by omega) (topf_div hk), show decide (m = -2) = false by simp [y], trw_f]
            · rw [if_neg cc, if_neg cc]
          rw [e]
          simp only [y, decide_false, Bool.false_eq_true, if_false]
          rw [if_pos s6]
          exact ring_cap ⟨hj.1, by omega⟩ (by decide)
    · rw [if_neg s6]
      obtain ⟨r1, r1'⟩ := e_rowsOf48 (S := S) (p := p) (c := c) (j := j) (n := n) (k := k) hp (fun _ => ⟨e5, by omega⟩) (by omega) (by omega) (by omega) hO hR
      have r2 := HH_in r1'
      rw [bd1_e r1]
      have ev0 := V j n k hj.1 hj.2 hn.1 (Nat.le_refl _) hk
      by_cases s3 : M (24 + (p : Int)) = 3
      · rw [if_pos s3, gd_t (by omega), Int.ediv_one]
        refine ⟨_, rfl, r1', ?_⟩
        rw [ev0]
        by_cases y : m = -2
        · have k0 : k = 0 := by unfold topf at hk; simp [show ¬ (0 ≤ m) by omega] at hk; exact hk
          simp only [y, decide_true, if_true]
          unfold dv
          rw [if_pos s3, Nat.div_one, k0, trw_t]
          exact ev_HH
        · simp only [y, decide_false, Bool.false_eq_true, if_false]
          rw [if_neg s6, if_pos s3, trw_f]
          exact ev_HH
      · have y : m = -2 := by
          rcases Classical.em (m = -2) with y | y
          · exact y
          · exact absurd ⟨by simp [y], by omega⟩ cl
        have ft := fac_tab j (by omega)
        have f7 := fac_7 (v := j) (by omega)
        have f1 := fac_pos j
        rw [if_neg s3, gd_t (by omega), ft, gd_t (by omega), gd_t (by omega), div_nat]
        refine ⟨_, rfl, Nat.le_trans (Nat.div_le_self _ _) r1', ?_⟩
        have k0 : k = 0 := by unfold topf at hk; simp [show ¬ (0 ≤ m) by omega] at hk; exact hk
        rw [ev0]
        simp only [y, decide_true, if_true]
        unfold dv
        rw [if_neg s3, if_neg s6, k0, trw_t]
        exact min_divH f1 f7
/-! the class's census 40: rings, sequences of a number -/
theorem e_ringsOf40 {S : St} {m : Int} {p c j n k : Nat} (hm : inI m) (h1 : S 40 1 = m) (hp : p < 24) (hc : S 5 (p : Int) = (c : Int)) (hc2 : c < 24) (hj : 1 ≤ j ∧ j ≤ 7) (hn : n ≤ 7) (hk : k ≤ 7) (hO : nb S 41 1536 HH) (hR : nb S 44 12288 HH) : mX0_ringsOf_40 S (p : Int) (j : Int) (n : Int) (k : Int) = some ((rgC (if m = -2 then 1 else j) (rwv (tb S 41) (tb S 44) p c) j n k / j : Nat) : Int) := by
  have hz : (gd (inI (S 40 1)) <| if (S 40 1) = (-2) then (some (1 : Int)) else (some (j : Int))) = some (((if m = -2 then 1 else j : Nat)) : Int) := by
    rw [h1, gd_t hm]
    by_cases z : m = -2
    · rw [if_pos z, if_pos z]; rfl
    · rw [if_neg z, if_neg z]
  have zj : (if m = -2 then 1 else j) ≤ j := by split <;> omega
  have key : ∀ d v f : Nat, v + d = (if m = -2 then 1 else j) → d < f → mX0_ringsOf_40_6 S (p : Int) (j : Int) (n : Int) (k : Int) f ((v : Int) + 1) ((rgC v (rwv (tb S 41) (tb S 44) p c) j n k : Nat) : Int) = some ((rgC (if m = -2 then 1 else j) (rwv (tb S 41) (tb S 44) p c) j n k : Nat) : Int) := by
    intro d
    induction d with
    | zero =>
      intro v f hv hf
      obtain ⟨g, rfl⟩ : ∃ g, f = g + 1 := ⟨f - 1, by omega⟩
      rw [mX0_ringsOf_40_6, bd1_e hz, gd_t (by omega), if_pos (by omega), show v = (if m = -2 then 1 else j) by omega]
    | succ d ih =>
      intro v f hv hf
      obtain ⟨g, rfl⟩ : ∃ g, f = g + 1 := ⟨f - 1, by omega⟩
      have l := ih (v + 1) g (by omega) (by omega)
      rw [show ((v + 1 : Nat) : Int) + 1 = (v : Int) + 1 + 1 by omega] at l
      have l2 : rgC (v + 1) (rwv (tb S 41) (tb S 44) p c) j n k = rgC v (rwv (tb S 41) (tb S 44) p c) j n k + (if j % (v + 1) = 0 ∧ n % (v + 1) = 0 ∧ k % (v + 1) = 0 then phi (v + 1) * rwv (tb S 41) (tb S 44) p c (j / (v + 1)) (n / (v + 1)) (k / (v + 1)) else 0) := sm_s
      rw [l2] at l
      have m1 : (j : Int) % ((v : Int) + 1) = ((j % (v + 1) : Nat) : Int) := by rw [Int.natCast_emod]; rfl
      have m2 : (n : Int) % ((v : Int) + 1) = ((n % (v + 1) : Nat) : Int) := by rw [Int.natCast_emod]; rfl
      have m3 : (k : Int) % ((v : Int) + 1) = ((k % (v + 1) : Nat) : Int) := by rw [Int.natCast_emod]; rfl
      have d1 : (j : Int) / ((v : Int) + 1) = ((j / (v + 1) : Nat) : Int) := by rw [Int.natCast_ediv]; rfl
      have d2 : (n : Int) / ((v : Int) + 1) = ((n / (v + 1) : Nat) : Int) := by rw [Int.natCast_ediv]; rfl
      have d3 : (k : Int) / ((v : Int) + 1) = ((k / (v + 1) : Nat) : Int) := by rw [Int.natCast_ediv]; rfl
      have x1 : j % (v + 1) ≤ j := Nat.mod_le _ _
      have x2 : n % (v + 1) ≤ n := Nat.mod_le _ _
      have x3 : k % (v + 1) ≤ k := Nat.mod_le _ _
      have y1 : j / (v + 1) ≤ j := Nat.div_le_self _ _
      have y2 : n / (v + 1) ≤ n := Nat.div_le_self _ _
      have y3 : k / (v + 1) ≤ k := Nat.div_le_self _ _
      obtain ⟨r1, r1'⟩ := e_rowsOf40 (S := S) (p := p) (c := c) (j := j / (v + 1)) (n := n / (v + 1)) (k := k / (v + 1)) hp (fun _ => ⟨hc, hc2⟩) (by omega) (by omega) (by omega) hO hR
      have ph := phi_le (d := v + 1)
      have pt := phi_tab (v + 1) (by omega) (by omega)
      rw [show ((v + 1 : Nat) : Int) = (v : Int) + 1 by omega] at pt
      rw [mX0_ringsOf_40_6, bd1_e hz, gd_t (by omega), if_neg (by omega), m1, m2, m3, d1, d2, d3, pt]
      rw [gd_t (by omega), gd_t (by omega)]
      by_cases c1 : j % (v + 1) = 0
      · rw [if_pos (by omega), gd_t (by omega), gd_t (by omega)]
        by_cases c2 : n % (v + 1) = 0
        · rw [if_pos (by omega), gd_t (by omega), gd_t (by omega)]
          by_cases c3 : k % (v + 1) = 0
          · rw [if_pos (by omega), gd_t (by omega), gd_t (by omega), bd1_e r1, nx_e]
            rw [if_pos ⟨c1, c2, c3⟩, Int.natCast_add, Int.natCast_mul] at l
            exact l
          · rw [if_neg (by omega)]
            rw [if_neg (by omega), Nat.add_zero] at l
            exact l
        · rw [if_neg (by omega)]
          rw [if_neg (by omega), Nat.add_zero] at l
          exact l
      · rw [if_neg (by omega)]
        rw [if_neg (by omega), Nat.add_zero] at l
        exact l
  have l := key (if m = -2 then 1 else j) 0 FU (by omega) (by unfold FU; omega)
  have hV : ∀ a b d, rwv (tb S 41) (tb S 44) p c a b d ≤ 7 * HH ∨ True := fun _ _ _ => Or.inr trivial
  have bd : rgC (if m = -2 then 1 else j) (rwv (tb S 41) (tb S 44) p c) j n k ≤ 7 * HH := by
    have e : rgC (if m = -2 then 1 else j) (rwv (tb S 41) (tb S 44) p c) j n k = rgC (if m = -2 then 1 else j) (fun a b d => min HH (rwv (tb S 41) (tb S 44) p c a b d)) j n k := by
      refine sm_congr fun d hd => ?_
      have y1 : j / (d + 1) ≤ j := Nat.div_le_self _ _
      have y2 : n / (d + 1) ≤ n := Nat.div_le_self _ _
      have y3 : k / (d + 1) ≤ k := Nat.div_le_self _ _
      have r := (e_rowsOf40 (S := S) (p := p) (c := c) (j := j / (d + 1)) (n := n / (d + 1)) (k := k / (d + 1)) hp (fun _ => ⟨hc, hc2⟩) (by omega) (by omega) (by omega) hO hR).2
      dsimp only
      rw [Nat.min_eq_right r]
    rw [e]
    exact rgC_le zj hj.2 (fun _ _ _ => min_le')
  have bd' : rgC (if m = -2 then 1 else j) (rwv (tb S 41) (tb S 44) p c) j n k ≤ 7000000000000000000 := bd
  unfold mX0_ringsOf_40
  rw [bd1_e (show mX0_ringsOf_40_6 S (p : Int) (j : Int) (n : Int) (k : Int) FU 1 0 = _ from l), gd_t (by omega), if_pos (by omega), gd_t (by omega)]
  rfl
theorem e_inClasses40 {S : St} {M : Int → Int} {m : Int} {p : Nat} (h : WF M) (hG : GM S M) (hp2 : (p : Int) < M 2) (hm : inI m) (h1 : S 40 1 = m) : ∃ z : Int, mX0_inClasses_40 S (p : Int) = some z ∧ (z = 0 ∨ z = 1) ∧ (z = 0 ↔ ¬ cls (decide (m = -2)) M p) := by
  have hM2 := h.2.2.1
  have hh := (h.2.2.2.1 p hp2).1
  have g3 := (hG.2.1 p hp2).1
  unfold mX0_inClasses_40 cls
  rw [h1, gd_t hm]
  by_cases z : m = -2
  · rw [if_pos z]; exact ⟨0, rfl, Or.inl rfl, by simp [z]⟩
  · rw [if_neg z, gd_t (by omega), g3, gd_t (by omega)]
    by_cases c4 : M (24 + (p : Int)) = 4
    · rw [if_pos c4]; exact ⟨1, rfl, Or.inr rfl, by simp [z, c4]⟩
    · rw [if_neg c4]
      by_cases c5 : M (24 + (p : Int)) = 5
      · rw [if_pos c5]; exact ⟨1, rfl, Or.inr rfl, by simp [z, c5]⟩
      · rw [if_neg c5]; exact ⟨0, rfl, Or.inl rfl, by simp [c4, c5]⟩
theorem w_seqOf40 {S : St} {M : Int → Int} {m : Int} {p c j n k : Nat} (h : WF M) (hG : GM S M) (hp2 : (p : Int) < M 2) (hsq : 3 ≤ M (24 + (p : Int)) ∧ M (24 + (p : Int)) ≤ 6) (hc : M (72 + (p : Int)) = (c : Int)) (hm : inI m) (h1 : S 40 1 = m) (hnum : M (48 + (p : Int)) ≠ 1) (hj : 1 ≤ j ∧ j ≤ lgM M p) (hjz : M (48 + (p : Int)) = 0 ∨ 2 ≤ j) (hn : 1 ≤ n ∧ (n : Int) ≤ M 1) (hk : k ≤ topf (decide (0 ≤ m)) n) (hO : nb S 41 1536 HH) (hR : nb S 44 12288 HH) (hQ : seqOK (decide (0 ≤ m)) (decide (m = -2)) M (fun s i => tb S 41 (pl c s i)) (tb S 44) p n) : ∃ X : Nat, mX0_sequencesOf_40 S (p : Int) (j : Int) (n : Int) (k : Int) = some (X : Int) ∧ X ≤ HH ∧ ev X (sq1 (decide (0 ≤ m)) (decide (m = -2)) M (fun s i => tb S 41 (pl c s i)) p j n k) := by
  have hM2 := h.2.2.1
  have hM1 := h.2.1
  have hl := lgM_le h hp2 hsq
  have hp : p < 24 := by omega
  have h6 := (h.2.2.2.1 p hp2).2.2.2.2.2 hsq
  have tn : topf (decide (0 ≤ m)) n ≤ n := topf_le
  have e5 : S 5 (p : Int) = (c : Int) := by rw [← hc]; exact (hG.2.1 p hp2).2.2.2.2.1 hsq
  have g3 := (hG.2.1 p hp2).1
  obtain ⟨z, z1, z2, z3⟩ := e_inClasses40 h hG hp2 hm h1
  have nO : ∀ s i : Nat, s ≤ 7 → i ≤ 7 → tb S 41 (pl c s i) ≤ HH := fun s i a b => (hO.at (pl_lt2 (N := 24) (by omega) a b (by decide))).2
  unfold mX0_sequencesOf_40
  rw [gd_t (by omega), nx_e, g3, bd1_e z1, gd_t (by omega)]
  unfold sq1
  by_cases cl : cls (decide (m = -2)) M p
  · have zz : z ≠ 0 := fun e => z3.mp e cl
    have b := hR.at (rb hp (show j ≤ 7 by omega) (show n ≤ 7 by omega) (show k ≤ 7 by omega))
    rw [if_neg zz, show (p : Int) * 512 + (j : Int) * 64 + (n : Int) * 8 + (k : Int) = ((p * 512 + pl j n k : Nat) : Int) by unfold pl; omega, gd_t (by unfold pl; omega), b.1]
    refine ⟨_, rfl, b.2, ?_⟩
    have q := hQ.2.1 hnum cl j n k hj.2 (by omega) hk
    rw [cl.1]
    simp only [Bool.false_eq_true, if_false]
    rw [if_neg (by have := cl.2; omega), if_neg (by have := cl.2; omega)]
    refine q.tr ?_
    unfold szM
    by_cases y : M (48 + (p : Int)) = 0
    · rw [if_pos y]; exact ev.rf
    · rw [if_neg y, bgS_top1 (by omega) hn.1]; exact ev.rf
  · have zz : z = 0 := z3.mpr cl
    have q := (hQ.2.2 hnum cl).1
    have V : ∀ j' s k' : Nat, 1 ≤ j' → j' ≤ lgM M p → 1 ≤ s → s ≤ n → k' ≤ topf (decide (0 ≤ m)) s → rwv (tb S 41) (tb S 44) p c j' s k' = min HH (trw (decide (m = -2)) (cut (decide (0 ≤ m)) (fun s i => tb S 41 (pl c s i))) j' s k') := fun j' s k' a b d e f' => rwv_trw q nO a b d e (by omega) f'
    rw [if_pos zz, gd_t (by omega)]
    by_cases s6 : M (24 + (p : Int)) = 6
    · rw [if_pos s6, bd1_e (e_ringsOf40 hm h1 hp e5 (by omega) (by omega) (by omega) (by omega) hO hR)]
      refine ⟨_, rfl, ?_, ?_⟩
      · have : rgC (if m = -2 then 1 else j) (rwv (tb S 41) (tb S 44) p c) j n k / j ≤ HH := by
          by_cases y : m = -2
          · rw [if_pos y]
            have : rgC 1 (rwv (tb S 41) (tb S 44) p c) j n k ≤ HH := by
              unfold rgC
              rw [sm_s, sm_0, Nat.zero_add, if_pos (by omega)]
              simp only [Nat.zero_add, Nat.div_one]
              rw [show phi 1 = 1 from rfl, Nat.one_mul, V j n k hj.1 hj.2 hn.1 (Nat.le_refl _) hk]
              exact min_le'
            exact Nat.le_trans (Nat.div_le_self _ _) this
          · rw [if_neg y]
            have e : rgC j (rwv (tb S 41) (tb S 44) p c) j n k ≤ j * HH := by
              have : ∀ N : Nat, 1 ≤ N → N ≤ 7 → sm N (fun d => if N % (d + 1) = 0 then phi (d + 1) else 0) ≤ N := by
                intro N a b
                rcases (show N = 1 ∨ N = 2 ∨ N = 3 ∨ N = 4 ∨ N = 5 ∨ N = 6 ∨ N = 7 by omega) with rfl | rfl | rfl | rfl | rfl | rfl | rfl <;> decide
              refine Nat.le_trans ?_ (Nat.mul_le_mul_right HH (this j hj.1 (by omega)))
              rw [sm_mulr]
              refine sm_mono fun d hd => ?_
              by_cases cc : j % (d + 1) = 0 ∧ n % (d + 1) = 0 ∧ k % (d + 1) = 0
              · have y1 : j / (d + 1) ≤ j := Nat.div_le_self _ _
                have y2 : n / (d + 1) ≤ n := Nat.div_le_self _ _
                have y3 : k / (d + 1) ≤ k := Nat.div_le_self _ _
                rw [if_pos cc, if_pos cc.1]
                exact Nat.mul_le_mul_left _ (e_rowsOf40 (S := S) (p := p) (c := c) (j := j / (d + 1)) (n := n / (d + 1)) (k := k / (d + 1)) hp (fun _ => ⟨e5, by omega⟩) (by omega) (by omega) (by omega) hO hR).2
              · rw [if_neg cc]; exact Nat.zero_le _
            exact Nat.div_le_of_le_mul e
        exact this
      · by_cases y : m = -2
        · rw [if_pos y]
          have e : rgC 1 (rwv (tb S 41) (tb S 44) p c) j n k = min HH (tl (fun s => cut (decide (0 ≤ m)) (fun s i => tb S 41 (pl c s i)) s 0) j n) := by
            unfold rgC
            rw [sm_s, sm_0, Nat.zero_add, if_pos (by omega)]
            simp only [Nat.zero_add, Nat.div_one]
            have k0 : k = 0 := by unfold topf at hk; simp [show ¬ (0 ≤ m) by omega] at hk; exact hk
            rw [show phi 1 = 1 from rfl, Nat.one_mul, V j n k hj.1 hj.2 hn.1 (Nat.le_refl _) hk, k0]
            rw [show decide (m = -2) = true by simp [y], trw_t]
          rw [e]
          simp only [y, decide_true, if_true]
          unfold dv
          rw [if_neg (by omega), if_pos s6]
          exact min_divH hj.1 (by omega)
        · rw [if_neg y]
          have e : rgC j (rwv (tb S 41) (tb S 44) p c) j n k = rgs HH (cut (decide (0 ≤ m)) (fun s i => tb S 41 (pl c s i))) j n k := by
            refine sm_congr fun d hd => ?_
            by_cases cc : j % (d + 1) = 0 ∧ n % (d + 1) = 0 ∧ k % (d + 1) = 0
            · have y1 : j / (d + 1) ≤ j := Nat.div_le_self _ _
              have y2 : n / (d + 1) ≤ n := Nat.div_le_self _ _
              have x1 := div_back cc.1
              have x2 := div_back cc.2.1
              have p1 : 1 ≤ j / (d + 1) := Nat.pos_of_ne_zero fun e => by rw [e, Nat.zero_mul] at x1; omega
              have p2 : 1 ≤ n / (d + 1) := Nat.pos_of_ne_zero fun e => by rw [e, Nat.zero_mul] at x2; omega
              rw [if_pos cc, if_pos cc, V _ _ _ p1 (by omega) p2 (by omega) (topf_div hk), show decide (m = -2) = false by simp [y], trw_f]
            · rw [if_neg cc, if_neg cc]
          rw [e]
          simp only [y, decide_false, Bool.false_eq_true, if_false]
          rw [if_pos s6]
          exact ring_cap ⟨hj.1, by omega⟩ (by decide)
    · rw [if_neg s6]
      obtain ⟨r1, r1'⟩ := e_rowsOf40 (S := S) (p := p) (c := c) (j := j) (n := n) (k := k) hp (fun _ => ⟨e5, by omega⟩) (by omega) (by omega) (by omega) hO hR
      have r2 := HH_in r1'
      rw [bd1_e r1]
      have ev0 := V j n k hj.1 hj.2 hn.1 (Nat.le_refl _) hk
      by_cases s3 : M (24 + (p : Int)) = 3
      · rw [if_pos s3, gd_t (by omega), Int.ediv_one]
        refine ⟨_, rfl, r1', ?_⟩
        rw [ev0]
        by_cases y : m = -2
        · have k0 : k = 0 := by unfold topf at hk; simp [show ¬ (0 ≤ m) by omega] at hk; exact hk
          simp only [y, decide_true, if_true]
          unfold dv
          rw [if_pos s3, Nat.div_one, k0, trw_t]
          exact ev_HH
        · simp only [y, decide_false, Bool.false_eq_true, if_false]
          rw [if_neg s6, if_pos s3, trw_f]
          exact ev_HH
      · have y : m = -2 := by
          rcases Classical.em (m = -2) with y | y
          · exact y
          · exact absurd ⟨by simp [y], by omega⟩ cl
        have ft := fac_tab j (by omega)
        have f7 := fac_7 (v := j) (by omega)
        have f1 := fac_pos j
        rw [if_neg s3, gd_t (by omega), ft, gd_t (by omega), gd_t (by omega), div_nat]
        refine ⟨_, rfl, Nat.le_trans (Nat.div_le_self _ _) r1', ?_⟩
        have k0 : k = 0 := by unfold topf at hk; simp [show ¬ (0 ≤ m) by omega] at hk; exact hk
        rw [ev0]
        simp only [y, decide_true, if_true]
        unfold dv
        rw [if_neg s3, if_neg s6, k0, trw_t]
        exact min_divH f1 f7
