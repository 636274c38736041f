/-! tokens: what both readers see of the tape -/
def isSp (x : Int) : Bool := decide (x = 32 ∨ x = 10)
def isLt (x : Int) : Bool := decide (97 ≤ x ∧ x ≤ 122)
def isDg (x : Int) : Bool := decide (48 ≤ x ∧ x ≤ 57)
def isSg (x : Int) : Bool := decide (x = 61 ∨ x = 59 ∨ x = 40 ∨ x = 41)
theorem isSp_t {x : Int} : isSp x = true ↔ x = 32 ∨ x = 10 := decide_eq_true_iff
theorem isLt_t {x : Int} : isLt x = true ↔ 97 ≤ x ∧ x ≤ 122 := decide_eq_true_iff
theorem isDg_t {x : Int} : isDg x = true ↔ 48 ≤ x ∧ x ≤ 57 := decide_eq_true_iff
theorem isSg_t {x : Int} : isSg x = true ↔ x = 61 ∨ x = 59 ∨ x = 40 ∨ x = 41 := decide_eq_true_iff
def runA (P : Int → Bool) (u : Int → Int) : Nat → Nat → Nat
  | 0, i => i
  | d + 1, i => if P (u (i : Int)) then runA P u d (i + 1) else i
theorem runA_s {P : Int → Bool} {u : Int → Int} {d i : Nat} : runA P u (d + 1) i = if P (u (i : Int)) then runA P u d (i + 1) else i := rfl
def nvA (u : Int → Int) : Nat → Nat → Nat → Nat
  | 0, _, v => v
  | d + 1, i, v => if isDg (u (i : Int)) then nvA u d (i + 1) (10 * v + ((u (i : Int)).toNat - 48)) else v
theorem nvA_s {u : Int → Int} {d i v : Nat} : nvA u (d + 1) i v = if isDg (u (i : Int)) then nvA u d (i + 1) (10 * v + ((u (i : Int)).toNat - 48)) else v := rfl
theorem runA_b {P : Int → Bool} {u : Int → Int} : ∀ d i, i ≤ runA P u d i ∧ runA P u d i ≤ i + d := by
  intro d
  induction d with
  | zero => intro i; exact ⟨Nat.le_refl _, Nat.le_refl _⟩
  | succ d ih =>
    intro i
    rw [runA_s]
    have := ih (i + 1)
    split <;> omega
theorem runA_in {P : Int → Bool} {u : Int → Int} : ∀ d i j, i ≤ j → j < runA P u d i → P (u (j : Int)) = true := by
  intro d
  induction d with
  | zero => intro i j a b; exact absurd b (by show ¬ j < i; omega)
  | succ d ih =>
    intro i j a b
    rw [runA_s] at b
    by_cases c : P (u (i : Int)) = true
    · rw [if_pos c] at b
      by_cases e : j = i
      · rw [e]; exact c
      · exact ih (i + 1) j (by omega) b
    · rw [if_neg c] at b; omega
def skA (u : Int → Int) (n i : Nat) : Nat := runA isSp u (n - i) i
def tk (u : Int → Int) (n a : Nat) : Int := if a = n then 0 else if isLt (u (a : Int)) then 1 else if isDg (u (a : Int)) then 2 else if isSg (u (a : Int)) then 3 else 4
def tkC (u : Int → Int) (n a : Nat) : Int := if a = n then 3 else if isLt (u (a : Int)) then 1 else if isDg (u (a : Int)) then 2 else if isSg (u (a : Int)) then u (a : Int) else 4
def en (u : Int → Int) (n a : Nat) : Nat := if a = n then a else if isLt (u (a : Int)) then runA isLt u (n - a) a else if isDg (u (a : Int)) then runA isDg u (n - a) a else a + 1
def vl (u : Int → Int) (n a : Nat) : Nat := nvA u (n - a) a 0
theorem en_b {u : Int → Int} {n a : Nat} (h : a ≤ n) : a ≤ en u n a ∧ en u n a ≤ n := by
  unfold en
  have p := runA_b (P := isLt) (u := u) (n - a) a
  have q := runA_b (P := isDg) (u := u) (n - a) a
  split
  · omega
  · split
    · omega
    · split <;> omega
theorem en_lt {u : Int → Int} {n a : Nat} (h : a < n) : a < en u n a := by
  unfold en
  rw [if_neg (by omega)]
  obtain ⟨d, hd⟩ : ∃ d, n - a = d + 1 := ⟨n - a - 1, by omega⟩
  have p := runA_b (P := isLt) (u := u) d (a + 1)
  have q := runA_b (P := isDg) (u := u) d (a + 1)
  split
  · rename_i c; rw [hd, runA_s, if_pos c]; omega
  · split
    · rename_i c; rw [hd, runA_s, if_pos c]; omega
    · omega
theorem en_let {u : Int → Int} {n a j : Nat} (h : tk u n a = 1) (h1 : a ≤ j) (h2 : j < en u n a) : isLt (u (j : Int)) = true := by
  unfold tk at h
  unfold en at h2
  by_cases c : a = n
  · rw [if_pos c] at h; cases h
  rw [if_neg c] at h h2
  by_cases d : isLt (u (a : Int)) = true
  · rw [if_pos d] at h2; exact runA_in _ _ _ h1 h2
  · rw [if_neg d] at h
    split at h
    · cases h
    · split at h <;> cases h
theorem skA_b {u : Int → Int} {n i : Nat} (h : i ≤ n) : i ≤ skA u n i ∧ skA u n i ≤ n := by
  have := runA_b (P := isSp) (u := u) (n - i) i
  unfold skA; omega
def sb (x : Int) : Int := if x < 128 then x else x - 256
def TC (S : St) (u : Int → Int) (n : Nat) : Prop := (S 12 4 = 1 ∧ S 12 5 = (n : Int) ∧ (n ≤ 400 ∧ S 12 2 = -1)) ∧ ∀ i : Nat, i < n → S 1 (i : Int) = sb (u (i : Int)) ∧ 0 ≤ u (i : Int) ∧ u (i : Int) ≤ 255
def TF (T : St) (u : Int → Int) (n : Nat) : Prop := (T 83 3 = (n : Int) ∧ n ≤ 400) ∧ ∀ i : Nat, i < n → T 86 (i : Int) = u (i : Int) ∧ 0 ≤ u (i : Int) ∧ u (i : Int) ≤ 255
theorem TC.of {S T : St} {u : Int → Int} {n : Nat} (h : TC S u n) (a : T 12 4 = S 12 4) (b : T 12 5 = S 12 5) (c : T 1 = S 1) (e : T 12 2 = S 12 2) : TC T u n := by
  unfold TC at h ⊢
  rw [a, b, c, e]; exact h
theorem TF.of {S T : St} {u : Int → Int} {n : Nat} (h : TF S u n) (a : T 83 3 = S 83 3) (c : T 86 = S 86) : TF T u n := by
  unfold TF at h ⊢
  rw [a, c]; exact h
theorem e_isLet {x : Int} (h0 : 0 ≤ x) (h1 : x ≤ 255) : mX5_isLetter (sb x) = some (if isLt x then 1 else 0) := by
  unfold mX5_isLetter sb
  by_cases c : 97 ≤ x ∧ x ≤ 122
  · rw [if_pos (show x < 128 by omega), gd_t (by omega), if_neg (by omega), if_neg (by omega), isLt_t.mpr c]; rfl
  · have : isLt x = false := by
      cases hb : isLt x
      · rfl
      · exact absurd (isLt_t.mp hb) c
    rw [this]
    by_cases d : x < 128
    · rw [if_pos d, gd_t (by omega)]
      by_cases e : x < 97
      · rw [if_pos e]; rfl
      · rw [if_neg e, if_pos (by omega)]; rfl
    · rw [if_neg d, gd_t (by omega), if_pos (by omega)]; rfl
theorem e_isDig {x : Int} (h0 : 0 ≤ x) (h1 : x ≤ 255) : mX5_isDigit (sb x) = some (if isDg x then 1 else 0) := by
  unfold mX5_isDigit sb
  by_cases c : 48 ≤ x ∧ x ≤ 57
  · rw [if_pos (show x < 128 by omega), gd_t (by omega), if_neg (by omega), if_neg (by omega), isDg_t.mpr c]; rfl
  · have : isDg x = false := by
      cases hb : isDg x
      · rfl
      · exact absurd (isDg_t.mp hb) c
    rw [this]
    by_cases d : x < 128
    · rw [if_pos d, gd_t (by omega)]
      by_cases e : x < 48
      · rw [if_pos e]; rfl
      · rw [if_neg e, if_pos (by omega)]; rfl
    · rw [if_neg d, gd_t (by omega), if_pos (by omega)]; rfl
theorem ad0 {u : Int → Int} {n : Nat} : ∀ (d i f : Nat) (S : St), i + d = n → d < f → TC S u n → S 12 6 = (i : Int) → wp (mX5_advance_0 f S) (fun S' => S' 12 6 = ((runA isSp u d i : Nat) : Int) ∧ kept [] [(12, 6)] S S') := by
  intro d
  induction d with
  | zero =>
    intro i f S hi hf h h6
    obtain ⟨g, rfl⟩ : ∃ g, f = g + 1 := ⟨f - 1, by omega⟩
    have h5 := h.1.2.1
    have h4 := h.1.2.2
    rw [mX5_advance_0, h6, h5, gd_t (by omega), if_pos (by omega)]
    exact wp_some.mpr ⟨h6, kept.rf⟩
  | succ d ih =>
    intro i f S hi hf h h6
    obtain ⟨g, rfl⟩ : ∃ g, f = g + 1 := ⟨f - 1, by omega⟩
    have h5 := h.1.2.1
    have h4 := h.1.2.2
    obtain ⟨v, v0, v1⟩ := h.2 i (by omega)
    have vb : -128 ≤ sb (u (i : Int)) ∧ sb (u (i : Int)) ≤ 127 := by unfold sb; split <;> omega
    rw [mX5_advance_0, h6, h5, gd_t (by omega), if_neg (by omega), gd_t h.1.1, gd_t (by omega), v, runA_s]
    have go := ih (i + 1) g (up S 12 6 ((i : Int) + 1)) (by omega) (by omega) (h.of rfl rfl rfl rfl) (by rw [up_eq]; omega)
    by_cases c : u (i : Int) = 32 ∨ u (i : Int) = 10
    · rw [if_pos (isSp_t.mpr c), bd1_e (show (gd (inI (sb (u (i : Int)))) <| if sb (u (i : Int)) = 32 then some (0 : Nat) else if sb (u (i : Int)) = 10 then some 0 else some 1) = some 0 by
        rw [gd_t (by omega)]
        rcases c with c | c <;> rw [c] <;> rfl), if_pos rfl, nx_e]
      exact wp_mono go (fun S' q => ⟨q.1, kept.trans (kept.rf.upF (by decide)) q.2⟩)
    · have nb : isSp (u (i : Int)) = false := by
        cases hb : isSp (u (i : Int))
        · rfl
        · exact absurd (isSp_t.mp hb) c
      rw [nb, bd1_e (show (gd (inI (sb (u (i : Int)))) <| if sb (u (i : Int)) = 32 then some (0 : Nat) else if sb (u (i : Int)) = 10 then some 0 else some 1) = some 1 by
        rw [gd_t (by omega), if_neg (by unfold sb; split <;> omega), if_neg (by unfold sb; split <;> omega)]), if_neg (by decide)]
      exact wp_some.mpr ⟨h6, kept.rf⟩
theorem ad99 {u : Int → Int} {n : Nat} : ∀ (d i f : Nat) (S : St), i + d = n → d < f → TC S u n → S 12 6 = (i : Int) → wp (mX5_advance_99 f S) (fun S' => S' 12 6 = ((runA isLt u d i : Nat) : Int) ∧ kept [] [(12, 6)] S S') := by
  intro d
  induction d with
  | zero =>
    intro i f S hi hf h h6
    obtain ⟨g, rfl⟩ : ∃ g, f = g + 1 := ⟨f - 1, by omega⟩
    have h5 := h.1.2.1
    have h4 := h.1.2.2
    rw [mX5_advance_99, h6, h5, gd_t (by omega), if_pos (by omega)]
    exact wp_some.mpr ⟨h6, kept.rf⟩
  | succ d ih =>
    intro i f S hi hf h h6
    obtain ⟨g, rfl⟩ : ∃ g, f = g + 1 := ⟨f - 1, by omega⟩
    have h5 := h.1.2.1
    have h4 := h.1.2.2
    obtain ⟨v, v0, v1⟩ := h.2 i (by omega)
    rw [mX5_advance_99, h6, h5, gd_t (by omega), if_neg (by omega), gd_t h.1.1, gd_t (by omega), v, runA_s, bd1_e (e_isLet v0 v1)]
    have go := ih (i + 1) g (up S 12 6 ((i : Int) + 1)) (by omega) (by omega) (h.of rfl rfl rfl rfl) (by rw [up_eq]; omega)
    cases isLt (u (i : Int)) with
    | true =>
      rw [if_pos rfl, if_pos rfl, gd_t (by decide), if_neg (by decide), nx_e]
      exact wp_mono go (fun S' q => ⟨q.1, kept.trans (kept.rf.upF (by decide)) q.2⟩)
    | false =>
      simp only [Bool.false_eq_true, if_false]
      rw [gd_t (by decide), if_pos trivial]
      exact wp_some.mpr ⟨h6, kept.rf⟩
theorem ad155 {u : Int → Int} {n : Nat} : ∀ (d i f v : Nat) (S : St), i + d = n → d < f → TC S u n → S 12 6 = (i : Int) → S 12 9 = ((min 8 v : Nat) : Int) → wp (mX5_advance_155 f S) (fun S' => S' 12 6 = ((runA isDg u d i : Nat) : Int) ∧ S' 12 9 = ((min 8 (nvA u d i v) : Nat) : Int) ∧ kept [] [(12, 6), (12, 9)] S S') := by
  intro d
  induction d with
  | zero =>
    intro i f v S hi hf h h6 h9
    obtain ⟨g, rfl⟩ : ∃ g, f = g + 1 := ⟨f - 1, by omega⟩
    have h5 := h.1.2.1
    have h4 := h.1.2.2
    rw [mX5_advance_155, h6, h5, gd_t (by omega), if_pos (by omega)]
    exact wp_some.mpr ⟨h6, h9, kept.rf⟩
  | succ d ih =>
    intro i f v S hi hf h h6 h9
    obtain ⟨g, rfl⟩ : ∃ g, f = g + 1 := ⟨f - 1, by omega⟩
    have h5 := h.1.2.1
    have h4 := h.1.2.2
    obtain ⟨w, v0, v1⟩ := h.2 i (by omega)
    rw [mX5_advance_155, h6, h5, gd_t (by omega), if_neg (by omega), gd_t h.1.1, gd_t (by omega), w, runA_s, nvA_s, bd1_e (e_isDig v0 v1)]
    cases hb : isDg (u (i : Int)) with
    | true =>
      have b := isDg_t.mp hb
      have sbe : sb (u (i : Int)) = u (i : Int) := by unfold sb; rw [if_pos (by omega)]
      rw [if_pos rfl, if_pos rfl, if_pos rfl, gd_t (by decide), if_neg (by decide), sbe, h9, gd_t (by omega), nx_e]
      have e9 : min 8 (((min 8 v : Nat) : Int) * 10 + u (i : Int) - 48) = ((min 8 (10 * v + ((u (i : Int)).toNat - 48)) : Nat) : Int) := by omega
      rw [e9]
      have h6' : up S 12 9 ((min 8 (10 * v + ((u (i : Int)).toNat - 48)) : Nat) : Int) 12 6 = (i : Int) := h6
      rw [h6', nx_e]
      have go := ih (i + 1) g (10 * v + ((u (i : Int)).toNat - 48)) (up (up S 12 9 ((min 8 (10 * v + ((u (i : Int)).toNat - 48)) : Nat) : Int)) 12 6 ((i : Int) + 1)) (by omega) (by omega) (h.of rfl rfl rfl rfl) (by rw [up_eq]; omega) (by rw [up_nk (by decide), up_eq])
      exact wp_mono go (fun S' q => ⟨q.1, q.2.1, kept.trans ((kept.rf.upF (by decide)).upF (by decide)) q.2.2⟩)
    | false =>
      simp only [Bool.false_eq_true, if_false]
      rw [gd_t (by decide), if_pos trivial]
      exact wp_some.mpr ⟨h6, h9, kept.rf⟩
/-- the class's reader at a token -/
def CL (S : St) (u : Int → Int) (n a : Nat) : Prop := a ≤ n ∧ S 12 8 = (a : Int) ∧ S 12 6 = ((en u n a : Nat) : Int) ∧ S 12 7 = tkC u n a ∧ (tk u n a = 2 → S 12 9 = ((min 8 (vl u n a) : Nat) : Int))
/-- the reference's -/
def FL (T : St) (u : Int → Int) (n a : Nat) : Prop := a ≤ n ∧ T 83 7 = (a : Int) ∧ T 83 6 = ((en u n a : Nat) : Int) ∧ T 83 8 = tk u n a ∧ (tk u n a = 2 → T 83 9 = ((min 9999 (vl u n a) : Nat) : Int))
theorem w_advance {S : St} {u : Int → Int} {n i : Nat} (h : TC S u n) (h6 : S 12 6 = (i : Int)) (hi : i ≤ n) : wp (mX5_advance S) (fun S' => CL S' u n (skA u n i) ∧ kept [] [(12, 6), (12, 7), (12, 8), (12, 9)] S S') := by
  have h4 := h.1.2.2
  have ab := skA_b (u := u) hi
  unfold mX5_advance
  rw [wp_bd1]
  refine wp_mono (ad0 (n - i) i FU S (by omega) (by unfold FU; omega) h h6) (fun S1 q1 => ?_)
  obtain ⟨a6, k1⟩ := q1
  have a6' : S1 12 6 = ((skA u n i : Nat) : Int) := a6
  have K : kept [] [(12, 6), (12, 7), (12, 8), (12, 9)] S S1 := k1.mono (by simp) (by simp)
  have T1 : TC S1 u n := h.of (k1 12 4 (by simp) (by simp)) (k1 12 5 (by simp) (by simp)) (k1.cell 1 (by simp) (by simp)) (k1 12 2 (by simp) (by simp))
  generalize skA u n i = a at ab a6' ⊢
  have h5 := T1.1.2.1
  rw [nx_e, a6']
  rw [show up S1 12 8 (a : Int) 12 6 = S1 12 6 from rfl, show up S1 12 8 (a : Int) 12 5 = S1 12 5 from rfl, show up S1 12 8 (a : Int) 12 4 = S1 12 4 from rfl, a6', h5, gd_t (by omega)]
  have K2 : kept [] [(12, 6), (12, 7), (12, 8), (12, 9)] S (up S1 12 8 (a : Int)) := K.upF (by decide)
  by_cases c : a = n
  · rw [if_neg (by omega), nx_e]
    refine wp_some.mpr ⟨⟨by omega, rfl, ?_, ?_, ?_⟩, K2.upF (by decide)⟩
    · show S1 12 6 = _
      rw [a6']; unfold en; rw [if_pos c]
    · show (3 : Int) = _
      unfold tkC; rw [if_pos c]
    · intro x; unfold tk at x; rw [if_pos c] at x; cases x
  · obtain ⟨v, v0, v1⟩ := T1.2 a (by omega)
    rw [if_pos (by omega), gd_t T1.1.1, gd_t (by omega), nx_e, show up S1 12 8 (a : Int) 1 (a : Int) = S1 1 (a : Int) from rfl, v, bd1_e (e_isLet v0 v1)]
    cases hL : isLt (u (a : Int)) with
    | true =>
      rw [if_pos rfl, gd_t (by decide), if_neg (by decide), nx_e, wp_bd1]
      refine wp_mono (ad99 (u := u) (n := n) (n - a) a FU (up (up S1 12 8 (a : Int)) 12 7 1) (by omega) (by unfold FU; omega) (T1.of rfl rfl rfl rfl) a6') (fun S2 q2 => ?_)
      refine wp_some.mpr ⟨⟨by omega, ?_, ?_, ?_, ?_⟩, kept.trans (K2.upF (by decide)) (q2.2.mono (by simp) (by simp))⟩
      · rw [q2.2 12 8 (by simp) (by simp)]; rfl
      · rw [q2.1]; unfold en; rw [if_neg c, if_pos hL]
      · rw [q2.2 12 7 (by simp) (by simp)]
        show (1 : Int) = _
        unfold tkC; rw [if_neg c, if_pos hL]
      · intro x; unfold tk at x; rw [if_neg c, if_pos hL] at x; cases x
    | false =>
      rw [if_neg (by decide), gd_t (by decide), if_pos rfl, bd1_e (e_isDig v0 v1)]
      cases hD : isDg (u (a : Int)) with
      | true =>
        rw [if_pos rfl, gd_t (by decide), if_neg (by decide), nx_e, nx_e, wp_bd1]
        refine wp_mono (ad155 (u := u) (n := n) (n - a) a FU 0 (up (up (up S1 12 8 (a : Int)) 12 7 2) 12 9 0) (by omega) (by unfold FU; omega) (T1.of rfl rfl rfl rfl) a6' rfl) (fun S2 q2 => ?_)
        refine wp_some.mpr ⟨⟨by omega, ?_, ?_, ?_, ?_⟩, kept.trans ((K2.upF (by decide)).upF (by decide)) (q2.2.2.mono (by simp) (by simp))⟩
        · rw [q2.2.2 12 8 (by simp) (by simp)]; rfl
        · rw [q2.1]; unfold en; rw [if_neg c, hL, if_neg (by decide), if_pos hD]
        · rw [q2.2.2 12 7 (by simp) (by simp)]
          show (2 : Int) = _
          unfold tkC; rw [if_neg c, hL, if_neg (by decide), if_pos hD]
        · intro _; exact q2.2.1
      | false =>
        have sbe : isSg (u (a : Int)) = true → sb (u (a : Int)) = u (a : Int) := fun x => by
          have := isSg_t.mp x
          unfold sb; rw [if_pos (by omega)]
        have z : (gd (inI (sb (u (a : Int)))) <| if sb (u (a : Int)) = 61 then some (sb (u (a : Int))) else if sb (u (a : Int)) = 59 then some (sb (u (a : Int))) else if sb (u (a : Int)) = 40 then some (sb (u (a : Int))) else if sb (u (a : Int)) = 41 then some (sb (u (a : Int))) else some 4) = some (if isSg (u (a : Int)) then u (a : Int) else 4) := by
          rw [gd_t (by unfold sb; split <;> omega)]
          cases hS : isSg (u (a : Int)) with
          | true =>
            rw [sbe hS, if_pos rfl]
            rcases isSg_t.mp hS with e | e | e | e <;> rw [e] <;> rfl
          | false =>
            have ne : ∀ y, (y = 61 ∨ y = 59 ∨ y = 40 ∨ y = 41) → sb (u (a : Int)) ≠ y := fun y hy e => by
              have : isSg (u (a : Int)) = true := isSg_t.mpr (by unfold sb at e; split at e <;> omega)
              rw [this] at hS; cases hS
            rw [if_neg (ne 61 (by omega)), if_neg (ne 59 (by omega)), if_neg (ne 40 (by omega)), if_neg (ne 41 (by omega)), if_neg (by decide)]
        rw [if_neg (by decide), gd_t (by decide), if_pos rfl, bd1_e z, nx_e]
        rw [show up (up S1 12 8 (a : Int)) 12 7 (if isSg (u (a : Int)) then u (a : Int) else 4) 12 6 = S1 12 6 from rfl, a6', nx_e]
        refine wp_some.mpr ⟨⟨by omega, rfl, ?_, ?_, ?_⟩, (K2.upF (by decide)).upF (by decide)⟩
        · rw [up_eq]; unfold en; rw [if_neg c, hL, hD]; simp
        · show (if isSg (u (a : Int)) then u (a : Int) else 4) = _
          unfold tkC; rw [if_neg c, hL, hD]; simp
        · intro x; unfold tk at x; rw [if_neg c, hL, hD] at x
          simp at x
          split at x <;> cases x
