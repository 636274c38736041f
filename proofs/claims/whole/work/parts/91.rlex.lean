/-! tokens: the reference's reader; words -/
theorem e_isAt {T : St} {u : Int → Int} {n i : Nat} {lo hi : Int} (h : TF T u n) (h6 : T 83 6 = (i : Int)) (hi' : i ≤ n) (hl : inI lo) (hh : inI hi) : mX12_isAt T lo hi = some (if i < n ∧ lo ≤ u (i : Int) ∧ u (i : Int) ≤ hi then 1 else 0) := by
  have h3 := h.1.1
  have h4 := h.1.2
  unfold mX12_isAt
  rw [h6, h3, gd_t (by omega)]
  by_cases c : i = n
  · rw [if_pos (by omega), if_neg (by omega)]
  · obtain ⟨v, v0, v1⟩ := h.2 i (by omega)
    rw [if_neg (by omega), gd_t (by omega), v, gd_t (by omega), gd_t hl, gd_t hh, bd1_e (e_in (by omega) (by omega) (by omega))]
    by_cases d : lo ≤ u (i : Int) ∧ u (i : Int) ≤ hi
    · rw [if_pos d, if_pos (show i < n ∧ lo ≤ u (i : Int) ∧ u (i : Int) ≤ hi from ⟨by omega, d⟩)]; rfl
    · rw [if_neg d, if_neg (show ¬ (i < n ∧ lo ≤ u (i : Int) ∧ u (i : Int) ≤ hi) from fun x => d x.2)]; rfl
theorem ne0 {u : Int → Int} {n : Nat} : ∀ (d i f : Nat) (T : St), i + d = n → d < f → TF T u n → T 83 6 = (i : Int) → wp (mX12_next_0 f T) (fun T' => T' 83 6 = ((runA isSp u d i : Nat) : Int) ∧ kept [] [(83, 6)] T T') := by
  intro d
  induction d with
  | zero =>
    intro i f T hi hf h h6
    obtain ⟨g, rfl⟩ : ∃ g, f = g + 1 := ⟨f - 1, by omega⟩
    rw [mX12_next_0, bd1_e (e_isAt h h6 (by omega) (by decide) (by decide)), if_neg (by omega)]
    rw [bd1_e (show (gd (inI 0) <| if (0 : Int) = 0 then (bd1 (mX12_isAt T 10 10) fun r_77 => gd (inI r_77) <| if r_77 = 0 then (some (1 : Nat)) else (some (0))) else (some (0))) = some 1 by rw [gd_t (by decide), if_pos rfl, bd1_e (e_isAt h h6 (by omega) (by decide) (by decide)), if_neg (by omega)]; rfl), if_neg (by decide)]
    exact wp_some.mpr ⟨h6, kept.rf⟩
  | succ d ih =>
    intro i f T hi hf h h6
    obtain ⟨g, rfl⟩ : ∃ g, f = g + 1 := ⟨f - 1, by omega⟩
    have go := ih (i + 1) g (up T 83 6 ((i : Int) + 1)) (by omega) (by omega) (h.of rfl rfl) (by rw [up_eq]; omega)
    rw [mX12_next_0, bd1_e (e_isAt h h6 (by omega) (by decide) (by decide)), runA_s]
    by_cases c : u (i : Int) = 32 ∨ u (i : Int) = 10
    · have z : (gd (inI (if i < n ∧ 32 ≤ u (i : Int) ∧ u (i : Int) ≤ 32 then (1 : Int) else 0)) <| if (if i < n ∧ 32 ≤ u (i : Int) ∧ u (i : Int) ≤ 32 then (1 : Int) else 0) = 0 then (bd1 (mX12_isAt T 10 10) fun r_77 => gd (inI r_77) <| if r_77 = 0 then (some (1 : Nat)) else (some (0))) else (some (0))) = some 0 := by
        by_cases c1 : u (i : Int) = 32
        · rw [if_pos (show i < n ∧ 32 ≤ u (i : Int) ∧ u (i : Int) ≤ 32 by omega)]; rfl
        · rw [if_neg (show ¬ (i < n ∧ 32 ≤ u (i : Int) ∧ u (i : Int) ≤ 32) by omega), gd_t (by decide), if_pos rfl, bd1_e (e_isAt h h6 (by omega) (by decide) (by decide)), if_pos (show i < n ∧ 10 ≤ u (i : Int) ∧ u (i : Int) ≤ 10 by omega)]; rfl
      rw [if_pos (isSp_t.mpr c), bd1_e z, if_pos rfl, h6, nx_e]
      exact wp_mono go (fun S' q => ⟨q.1, kept.trans (kept.rf.upF (by decide)) q.2⟩)
    · have nb : isSp (u (i : Int)) = false := by
        cases hb : isSp (u (i : Int))
        · rfl
        · exact absurd (isSp_t.mp hb) c
      rw [nb, if_neg (show ¬ (i < n ∧ 32 ≤ u (i : Int) ∧ u (i : Int) ≤ 32) by omega)]
      rw [bd1_e (show (gd (inI 0) <| if (0 : Int) = 0 then (bd1 (mX12_isAt T 10 10) fun r_77 => gd (inI r_77) <| if r_77 = 0 then (some (1 : Nat)) else (some (0))) else (some (0))) = some 1 by rw [gd_t (by decide), if_pos rfl, bd1_e (e_isAt h h6 (by omega) (by decide) (by decide)), if_neg (by omega)]; rfl), if_neg (by decide)]
      exact wp_some.mpr ⟨h6, kept.rf⟩
theorem ne83 {u : Int → Int} {n : Nat} : ∀ (d i f : Nat) (T : St), i + d = n → d < f → TF T u n → T 83 6 = (i : Int) → wp (mX12_next_83 f T) (fun T' => T' 83 6 = ((runA isLt u d i : Nat) : Int) ∧ kept [] [(83, 6)] T T') := by
  intro d
  induction d with
  | zero =>
    intro i f T hi hf h h6
    obtain ⟨g, rfl⟩ : ∃ g, f = g + 1 := ⟨f - 1, by omega⟩
    rw [mX12_next_83, bd1_e (e_isAt h h6 (by omega) (by decide) (by decide)), if_neg (by omega), gd_t (by decide), if_pos rfl]
    exact wp_some.mpr ⟨h6, kept.rf⟩
  | succ d ih =>
    intro i f T hi hf h h6
    obtain ⟨g, rfl⟩ : ∃ g, f = g + 1 := ⟨f - 1, by omega⟩
    have go := ih (i + 1) g (up T 83 6 ((i : Int) + 1)) (by omega) (by omega) (h.of rfl rfl) (by rw [up_eq]; omega)
    rw [mX12_next_83, bd1_e (e_isAt h h6 (by omega) (by decide) (by decide)), runA_s]
    by_cases c : 97 ≤ u (i : Int) ∧ u (i : Int) ≤ 122
    · rw [if_pos (isLt_t.mpr c), if_pos ⟨by omega, c⟩, gd_t (by decide), if_neg (by decide), h6, nx_e]
      exact wp_mono go (fun S' q => ⟨q.1, kept.trans (kept.rf.upF (by decide)) q.2⟩)
    · rw [if_neg (fun x => c (isLt_t.mp x)), if_neg (fun x => c x.2), gd_t (by decide), if_pos rfl]
      exact wp_some.mpr ⟨h6, kept.rf⟩
theorem ne123 {u : Int → Int} {n : Nat} : ∀ (d i f v : Nat) (T : St), i + d = n → d < f → TF T u n → T 83 6 = (i : Int) → T 83 9 = ((min 9999 v : Nat) : Int) → wp (mX12_next_123 f T) (fun T' => T' 83 6 = ((runA isDg u d i : Nat) : Int) ∧ T' 83 9 = ((min 9999 (nvA u d i v) : Nat) : Int) ∧ kept [] [(83, 6), (83, 9)] T T') := by
  intro d
  induction d with
  | zero =>
    intro i f v T hi hf h h6 h9
    obtain ⟨g, rfl⟩ : ∃ g, f = g + 1 := ⟨f - 1, by omega⟩
    rw [mX12_next_123, bd1_e (e_isAt h h6 (by omega) (by decide) (by decide)), if_neg (by omega), gd_t (by decide), if_pos rfl]
    exact wp_some.mpr ⟨h6, h9, kept.rf⟩
  | succ d ih =>
    intro i f v T hi hf h h6 h9
    obtain ⟨g, rfl⟩ : ∃ g, f = g + 1 := ⟨f - 1, by omega⟩
    have h4 := h.1.2
    obtain ⟨w, v0, v1⟩ := h.2 i (by omega)
    rw [mX12_next_123, bd1_e (e_isAt h h6 (by omega) (by decide) (by decide)), runA_s, nvA_s]
    by_cases c : 48 ≤ u (i : Int) ∧ u (i : Int) ≤ 57
    · rw [if_pos (isDg_t.mpr c), if_pos (isDg_t.mpr c), if_pos ⟨by omega, c⟩, gd_t (by decide), if_neg (by decide), h6, gd_t (by omega), w, h9, gd_t (by omega), nx_e]
      have e9 : min 9999 (10 * ((min 9999 v : Nat) : Int) + u (i : Int) - 48) = ((min 9999 (10 * v + ((u (i : Int)).toNat - 48)) : Nat) : Int) := by omega
      rw [e9]
      have h6' : up T 83 9 ((min 9999 (10 * v + ((u (i : Int)).toNat - 48)) : Nat) : Int) 83 6 = (i : Int) := h6
      rw [h6', nx_e]
      have go := ih (i + 1) g (10 * v + ((u (i : Int)).toNat - 48)) (up (up T 83 9 ((min 9999 (10 * v + ((u (i : Int)).toNat - 48)) : Nat) : Int)) 83 6 ((i : Int) + 1)) (by omega) (by omega) (h.of rfl rfl) (by rw [up_eq]; omega) (by rw [up_nk (by decide), up_eq])
      exact wp_mono go (fun S' q => ⟨q.1, q.2.1, kept.trans ((kept.rf.upF (by decide)).upF (by decide)) q.2.2⟩)
    · rw [if_neg (fun x => c (isDg_t.mp x)), if_neg (fun x => c (isDg_t.mp x)), if_neg (fun x => c x.2), gd_t (by decide), if_pos rfl]
      exact wp_some.mpr ⟨h6, h9, kept.rf⟩
theorem w_next {T : St} {u : Int → Int} {n i : Nat} (h : TF T u n) (h6 : T 83 6 = (i : Int)) (hi : i ≤ n) : wp (mX12_next T) (fun T' => FL T' u n (skA u n i) ∧ kept [] [(83, 6), (83, 7), (83, 8), (83, 9)] T T') := by
  have h4 := h.1.2
  have ab := skA_b (u := u) hi
  unfold mX12_next
  rw [wp_bd1]
  refine wp_mono (ne0 (n - i) i FU T (by omega) (by unfold FU; omega) h h6) (fun S1 q1 => ?_)
  obtain ⟨a6, k1⟩ := q1
  have a6' : S1 83 6 = ((skA u n i : Nat) : Int) := a6
  have K : kept [] [(83, 6), (83, 7), (83, 8), (83, 9)] T S1 := k1.mono (by simp) (by simp)
  have T1 : TF S1 u n := h.of (k1 83 3 (by simp) (by simp)) (k1.cell 86 (by simp) (by simp))
  generalize skA u n i = a at ab a6' ⊢
  have h5 := T1.1.1
  rw [nx_e, a6', nx_e]
  have K2 : kept [] [(83, 6), (83, 7), (83, 8), (83, 9)] T (up (up S1 83 7 (a : Int)) 83 9 0) := (K.upF (by decide)).upF (by decide)
  have T2 : TF (up (up S1 83 7 (a : Int)) 83 9 0) u n := T1.of rfl rfl
  have s6 : (up (up S1 83 7 (a : Int)) 83 9 0) 83 6 = (a : Int) := a6'
  have s3 : (up (up S1 83 7 (a : Int)) 83 9 0) 83 3 = (n : Int) := h5
  have s7 : (up (up S1 83 7 (a : Int)) 83 9 0) 83 7 = (a : Int) := rfl
  have s9 : (up (up S1 83 7 (a : Int)) 83 9 0) 83 9 = 0 := rfl
  generalize up (up S1 83 7 (a : Int)) 83 9 0 = S2 at K2 T2 s6 s3 s7 s9 ⊢
  rw [s6, s3, gd_t (by omega)]
  by_cases c : a = n
  · rw [if_pos (by omega), nx_e]
    refine wp_some.mpr ⟨⟨by omega, s7, ?_, ?_, ?_⟩, K2.upF (by decide)⟩
    · show S2 83 6 = _
      rw [s6]; unfold en; rw [if_pos c]
    · show (0 : Int) = _
      unfold tk; rw [if_pos c]
    · intro x; unfold tk at x; rw [if_pos c] at x; cases x
  · obtain ⟨v, v0, v1⟩ := T2.2 a (by omega)
    have at' : ∀ lo hi : Int, inI lo → inI hi → mX12_isAt S2 lo hi = some (if lo ≤ u (a : Int) ∧ u (a : Int) ≤ hi then 1 else 0) := fun lo hi x y => by
      rw [e_isAt T2 s6 (by omega) x y]
      by_cases d : lo ≤ u (a : Int) ∧ u (a : Int) ≤ hi
      · rw [if_pos d, if_pos ⟨by omega, d⟩]
      · rw [if_neg d, if_neg (fun x => d x.2)]
    rw [if_neg (by omega), bd1_e (at' 97 122 (by decide) (by decide))]
    by_cases hL : 97 ≤ u (a : Int) ∧ u (a : Int) ≤ 122
    · have hL' := isLt_t.mpr hL
      rw [if_pos hL, gd_t (by decide), if_neg (by decide), nx_e, wp_bd1]
      refine wp_mono (ne83 (u := u) (n := n) (n - a) a FU (up S2 83 8 1) (by omega) (by unfold FU; omega) (T2.of rfl rfl) s6) (fun S3 q2 => ?_)
      refine wp_some.mpr ⟨⟨by omega, ?_, ?_, ?_, ?_⟩, kept.trans (K2.upF (by decide)) (q2.2.mono (by simp) (by simp))⟩
      · rw [q2.2 83 7 (by simp) (by simp)]; exact s7
      · rw [q2.1]; unfold en; rw [if_neg c, if_pos hL']
      · rw [q2.2 83 8 (by simp) (by simp)]
        show (1 : Int) = _
        unfold tk; rw [if_neg c, if_pos hL']
      · intro x; unfold tk at x; rw [if_neg c, if_pos hL'] at x; cases x
    · have hL' : ¬ isLt (u (a : Int)) = true := fun x => hL (isLt_t.mp x)
      rw [if_neg hL, gd_t (by decide), if_pos rfl, bd1_e (at' 48 57 (by decide) (by decide))]
      by_cases hD : 48 ≤ u (a : Int) ∧ u (a : Int) ≤ 57
      · have hD' := isDg_t.mpr hD
        rw [if_pos hD, gd_t (by decide), if_neg (by decide), nx_e, wp_bd1]
        refine wp_mono (ne123 (u := u) (n := n) (n - a) a FU 0 (up S2 83 8 2) (by omega) (by unfold FU; omega) (T2.of rfl rfl) s6 s9) (fun S3 q2 => ?_)
        refine wp_some.mpr ⟨⟨by omega, ?_, ?_, ?_, ?_⟩, kept.trans (K2.upF (by decide)) (q2.2.2.mono (by simp) (by simp))⟩
        · rw [q2.2.2 83 7 (by simp) (by simp)]; exact s7
        · rw [q2.1]; unfold en; rw [if_neg c, if_neg hL', if_pos hD']
        · rw [q2.2.2 83 8 (by simp) (by simp)]
          show (2 : Int) = _
          unfold tk; rw [if_neg c, if_neg hL', if_pos hD']
        · intro _; exact q2.2.1
      · have hD' : ¬ isDg (u (a : Int)) = true := fun x => hD (isDg_t.mp x)
        rw [if_neg hD, gd_t (by decide), if_pos rfl, bd1_e (at' 61 61 (by decide) (by decide))]
        have z : (gd (inI (if 61 ≤ u (a : Int) ∧ u (a : Int) ≤ 61 then (1 : Int) else 0)) <| if (if 61 ≤ u (a : Int) ∧ u (a : Int) ≤ 61 then (1 : Int) else 0) = 0 then (bd1 (mX12_isAt S2 59 59) fun r_27 => gd (inI r_27) <| if r_27 = 0 then (bd1 (mX12_isAt S2 40 41) fun r_31 => gd (inI r_31) <| if r_31 = 0 then (some (4 : Int)) else (some (3))) else (some (3))) else (some (3))) = some (if isSg (u (a : Int)) then 3 else 4) := by
          rw [at' 59 59 (by decide) (by decide), at' 40 41 (by decide) (by decide)]
          by_cases x1 : u (a : Int) = 61
          · rw [if_pos (by omega), if_pos (isSg_t.mpr (by omega))]; rfl
          rw [if_neg (show ¬ (61 ≤ u (a : Int) ∧ u (a : Int) ≤ 61) by omega), gd_t (by decide), if_pos rfl]
          by_cases x2 : u (a : Int) = 59
          · rw [if_pos (show 59 ≤ u (a : Int) ∧ u (a : Int) ≤ 59 by omega), if_pos (isSg_t.mpr (by omega))]; rfl
          rw [if_neg (show ¬ (59 ≤ u (a : Int) ∧ u (a : Int) ≤ 59) by omega), bd1_e rfl, gd_t (by decide), if_pos rfl]
          by_cases x3 : 40 ≤ u (a : Int) ∧ u (a : Int) ≤ 41
          · rw [if_pos x3, if_pos (isSg_t.mpr (by omega))]; rfl
          · rw [if_neg x3, if_neg (fun x => by have := isSg_t.mp x; omega)]; rfl
        rw [bd1_e z, nx_e]
        rw [show up S2 83 8 (if isSg (u (a : Int)) then (3 : Int) else 4) 83 6 = S2 83 6 from rfl, s6, nx_e]
        refine wp_some.mpr ⟨⟨by omega, s7, ?_, ?_, ?_⟩, (K2.upF (by decide)).upF (by decide)⟩
        · rw [up_eq]; unfold en; rw [if_neg c, if_neg hL', if_neg hD']; omega
        · show (if isSg (u (a : Int)) then (3 : Int) else 4) = _
          unfold tk; rw [if_neg c, if_neg hL', if_neg hD']
        · intro x; unfold tk at x; rw [if_neg c, if_neg hL', if_neg hD'] at x
          split at x <;> cases x
