/-! the reference: a part's own number -/
def topf (L : Bool) (n : Nat) : Nat := if L then n else 0
theorem tr_top {c : Nat → Nat → Nat} {L : Bool} (hc : ∀ s i, s ≤ 7 → topf L s < i → i ≤ 7 → c s i = 0) : ∀ j a k, a ≤ 7 → topf L a < k → k ≤ 7 → tr c j a k = 0 := by
  intro j
  induction j with
  | zero =>
    intro a k _ h _
    show (if a = 0 ∧ k = 0 then 1 else 0) = 0
    rw [if_neg (by omega)]
  | succ j ih =>
    intro a k ha h hk
    refine s2_zero fun s i h1 h2 h3 => ?_
    by_cases q : topf L s < i
    · rw [hc s i (by omega) q (by omega), Nat.zero_mul]
    · rw [ih (a - s) (k - i) (by omega) (by unfold topf at h q ⊢; cases L <;> simp at h q ⊢ <;> omega) (by omega), Nat.mul_zero]
theorem topf_min {L : Bool} {a n : Nat} (h : a ≤ n) : min a (topf L n) = topf L a := by
  unfold topf; cases L <;> simp <;> omega
theorem topf_le {L : Bool} {n : Nat} : topf L n ≤ n := by unfold topf; cases L <;> simp
/-- a part's own number, uncapped, out of the tables -/
def pvT (M : Int → Int) (lett : Int) (Y R : Nat → Nat) (p n k top : Nat) : Nat :=
  if M (24 + (p : Int)) = 0 then (if n = 1 then (if lett = M (48 + (p : Int)) then (if k = 1 then 1 else 0) else (if k = 0 then 1 else 0)) else 0)
  else if M (24 + (p : Int)) = 1 then (if n = 0 then 1 else 0)
  else if M (24 + (p : Int)) = 2 then Y (pl (24 + (M (48 + (p : Int))).toNat) n k)
  else if M (24 + (p : Int)) = 7 then xs M (fun q => R (pl q n k)) (6 + p)
  else inT (M (24 + (p : Int)) == 6) (if M (24 + (p : Int)) = 3 then tr (fun s i => Y (pl (M (72 + (p : Int))).toNat s i)) else bgS (M (24 + (p : Int)) == 5) (fun s i => Y (pl (M (72 + (p : Int))).toNat s i)) (fun s => min s top) n) (fun s i => Y (pl (M (72 + (p : Int))).toNat s i)) (M (48 + (p : Int))).toNat n k
/-- what laysRows, laysBags leave for a part -/
def laid (S : St) (M : Int → Int) (Y : Nat → Nat) (p n top : Nat) : Prop :=
  (M (24 + (p : Int)) = 6 ∨ M (24 + (p : Int)) = 3 → ∀ j a k : Nat, j ≤ 7 → a ≤ n → k ≤ 7 → S 92 ((pl j a k : Nat) : Int) = ((min LL (tr (fun s i => Y (pl (M (72 + (p : Int))).toNat s i)) j a k) : Nat) : Int)) ∧
  (M (24 + (p : Int)) = 4 ∨ M (24 + (p : Int)) = 5 → ∀ j k : Nat, j ≤ 7 → k ≤ top → ∃ x : Nat, S 92 ((pl j n k : Nat) : Int) = (x : Int) ∧ x ≤ LL ∧ min CC x = min CC (bgS (M (24 + (p : Int)) == 5) (fun s i => Y (pl (M (72 + (p : Int))).toNat s i)) (fun s => min s top) n j n k))
theorem bg_small {once : Bool} {c : Nat → Nat → Nat} {s : Nat} {T : Nat → Nat → Nat → Nat} (hs : 1 ≤ s) (hT : ∀ j n k, n < j → T j n k = 0) : ∀ i j n k, n < j → bgI once c s T i j n k = 0 := by
  intro i
  induction i with
  | zero => exact hT
  | succ i ih =>
    intro j n k h
    show addC (ch once (c s i)) s i (bgI once c s T i) j n k = 0
    refine sm_zero fun m hm => ?_
    by_cases q : m * s ≤ n ∧ m * i ≤ k
    · have : m ≤ m * s := Nat.le_mul_of_pos_right _ hs
      rw [if_pos q, ih (j - m) (n - m * s) (k - m * i) (by omega), Nat.mul_zero]
    · rw [if_neg q]
theorem bgS_small {once : Bool} {c : Nat → Nat → Nat} {lt : Nat → Nat} : ∀ s j n k, n < j → bgS once c lt s j n k = 0 := by
  intro s
  induction s with
  | zero =>
    intro j n k h
    show (if j = 0 ∧ n = 0 ∧ k = 0 then 1 else 0) = 0
    rw [if_neg (by omega)]
  | succ s ih => intro j n k h; exact bg_small (by omega) ih _ j n k h
theorem cp_val {S : St} {p n k top : Nat} {lett : Int} {Y : Nat → Nat} (h : WF (S 84)) (hp : (p : Int) < S 84 2) (hn : n ≤ 7) (hk : k ≤ 7) (hkt : k ≤ top) (hl : inI lett) (h90 : ∀ j : Nat, j < 1920 → (∀ k' : Nat, k' < k → j ≠ pl p n k') → S 90 (j : Int) = ((Y j : Nat) : Int)) (hY : ∀ j, j < 1920 → Y j ≤ 1000000000000) (h91 : nb S 91 1536 1000000000000) (hL : laid S (S 84) Y p n top) {α : Type} {F : Int → Option α} : bd1 (if S 84 (24 + (p : Int)) = 0 then (gd (inI (n : Int)) <| if (n : Int) = 1 then (gd (0 ≤ (48 + (p : Int)) ∧ (48 + (p : Int)) < 228) <| gd ((inI lett) ∧ (inI (S 84 (48 + (p : Int))))) <| if lett = (S 84 (48 + (p : Int))) then (if (k : Int) = 1 then (some (1)) else (some (0))) else (if (k : Int) = 0 then (some (1)) else (some (0)))) else (some (0))) else (if S 84 (24 + (p : Int)) = 1 then (gd (inI (n : Int)) <| if (n : Int) = 0 then (some (1)) else (some (0))) else (if S 84 (24 + (p : Int)) = 2 then (gd (0 ≤ (48 + (p : Int)) ∧ (48 + (p : Int)) < 228) <| bd1 (mX12_place (24 + (S 84 (48 + (p : Int)))) (n : Int) (k : Int)) fun r_38 => gd (0 ≤ r_38 ∧ r_38 < 1920) <| nx (S 90 r_38) fun x_40 => some (x_40)) else (if S 84 (24 + (p : Int)) = 3 then (gd (0 ≤ (48 + (p : Int)) ∧ (48 + (p : Int)) < 228) <| bd1 (mX12_inMany S (S 84 (24 + (p : Int))) (S 84 (48 + (p : Int))) (n : Int) (k : Int)) fun r_43 => some (r_43)) else (if S 84 (24 + (p : Int)) = 4 then (gd (0 ≤ (48 + (p : Int)) ∧ (48 + (p : Int)) < 228) <| bd1 (mX12_inMany S (S 84 (24 + (p : Int))) (S 84 (48 + (p : Int))) (n : Int) (k : Int)) fun r_46 => some (r_46)) else (if S 84 (24 + (p : Int)) = 5 then (gd (0 ≤ (48 + (p : Int)) ∧ (48 + (p : Int)) < 228) <| bd1 (mX12_inMany S (S 84 (24 + (p : Int))) (S 84 (48 + (p : Int))) (n : Int) (k : Int)) fun r_49 => some (r_49)) else (if S 84 (24 + (p : Int)) = 6 then (gd (0 ≤ (48 + (p : Int)) ∧ (48 + (p : Int)) < 228) <| bd1 (mX12_inMany S (S 84 (24 + (p : Int))) (S 84 (48 + (p : Int))) (n : Int) (k : Int)) fun r_52 => some (r_52)) else (if S 84 (24 + (p : Int)) = 7 then (gd (0 ≤ (48 + (p : Int)) ∧ (48 + (p : Int)) < 228) <| bd1 (mX12_exprMany S (S 84 (48 + (p : Int))) (n : Int) (k : Int)) fun r_55 => some (r_55)) else (gd (0 ≤ (48 + (p : Int)) ∧ (48 + (p : Int)) < 228) <| bd1 (mX12_inMany S (S 84 (24 + (p : Int))) (S 84 (48 + (p : Int))) (n : Int) (k : Int)) fun r_58 => some (r_58)))))))))) F = F ((min CC (pvT (S 84) lett Y (tb S 91) p n k top) : Nat) : Int) := by
  have hM2 := h.2.2.1
  have hM0 := h.1
  obtain ⟨h1, h2, h3, h4, h5, h6⟩ := h.2.2.2.1 p hp
  have c1 : min CC 1 = 1 := by decide
  have c0 : min CC 0 = 0 := by decide
  refine bd1_e ?_
  unfold pvT
  by_cases s0 : S 84 (24 + (p : Int)) = 0
  · have := h3 s0
    rw [if_pos s0, if_pos s0, gd_t (by omega)]
    by_cases n1 : n = 1
    · rw [if_pos (by omega), if_pos n1, gd_t (by omega), gd_t ⟨hl, by omega⟩]
      by_cases e : lett = S 84 (48 + (p : Int))
      · rw [if_pos e, if_pos e]
        by_cases k1 : k = 1
        · rw [if_pos (by omega), if_pos k1]; rfl
        · rw [if_neg (by omega), if_neg k1]; rfl
      · rw [if_neg e, if_neg e]
        by_cases k1 : k = 0
        · rw [if_pos (by omega), if_pos k1]; rfl
        · rw [if_neg (by omega), if_neg k1]; rfl
    · rw [if_neg (by omega), if_neg n1]; rfl
  rw [if_neg s0, if_neg s0]
  by_cases s1 : S 84 (24 + (p : Int)) = 1
  · rw [if_pos s1, if_pos s1, gd_t (by omega)]
    by_cases n0 : n = 0
    · rw [if_pos (by omega), if_pos n0]; rfl
    · rw [if_neg (by omega), if_neg n0]; rfl
  rw [if_neg s1, if_neg s1]
  by_cases s2 : S 84 (24 + (p : Int)) = 2
  · have := h4 s2
    obtain ⟨q, hq⟩ : ∃ q : Nat, S 84 (48 + (p : Int)) = (q : Int) := ⟨(S 84 (48 + (p : Int))).toNat, by omega⟩
    have b : pl (24 + q) n k < 1920 := Nat.lt_of_lt_of_le (pl_lt (by omega) (by omega) (show 24 + q < 30 by omega)) (by decide)
    have hy := hY _ b
    rw [if_pos s2, if_pos s2, gd_t (by omega), hq, show (24 : Int) + (q : Int) = ((24 + q : Nat) : Int) by omega, bd1_e e_pl, gd_t (by omega), nx_e, h90 _ b (fun k' hk' e => by
      have := (pl_inj e (by omega) (by omega) (by omega) (by omega)).1
      omega), show ((q : Int)).toNat = q from rfl]
    congr 2
    rw [CC_eq]; omega
  rw [if_neg s2, if_neg s2]
  by_cases s7 : S 84 (24 + (p : Int)) = 7
  · obtain ⟨q1, q2, q3⟩ := h5 s7
    rw [if_neg (by omega), if_neg (by omega), if_neg (by omega), if_neg (by omega), if_pos s7, if_pos s7, gd_t (by omega), q1, show (6 : Int) + (p : Int) = ((6 + p : Nat) : Int) by omega, bd1_e (e_exprMany h (by omega) (by omega) q3 hn hk h91)]
  rw [if_neg s7]
  have h6' := h6 (by omega)
  obtain ⟨m, hm⟩ : ∃ m : Nat, S 84 (48 + (p : Int)) = (m : Int) := ⟨(S 84 (48 + (p : Int))).toNat, by omega⟩
  obtain ⟨s, hs⟩ : ∃ s : Nat, S 84 (24 + (p : Int)) = (s : Int) := ⟨(S 84 (24 + (p : Int))).toNat, by omega⟩
  have hin : mX12_inMany S (s : Int) (m : Int) (n : Int) (k : Int) = some ((min CC (inT (s == 6) (if (s : Int) = 3 then tr (fun s i => Y (pl (S 84 (72 + (p : Int))).toNat s i)) else bgS ((s : Int) == 5) (fun s i => Y (pl (S 84 (72 + (p : Int))).toNat s i)) (fun s => min s top) n) (fun s i => Y (pl (S 84 (72 + (p : Int))).toNat s i)) m n k) : Nat) : Int) := by
    refine e_inMany hn hk (by omega) (by omega) (fun e j a q j1 a1 q1 => hL.1 (by omega) j a q j1 a1 q1) (fun e j j1 => ?_)
    by_cases s3 : (s : Int) = 3
    · rw [if_pos s3]
      refine ⟨_, hL.1 (by omega) j n k j1 (Nat.le_refl _) hk, Nat.min_le_left _ _, ?_⟩
      rw [← Nat.min_assoc, Nat.min_eq_left (show CC ≤ LL by decide)]
    · rw [if_neg s3]
      have := hL.2 (by omega) j k j1 hkt
      rw [hs] at this
      exact this
  have e6 : ((s : Int) == 6) = (s == 6) := by
    rw [Bool.eq_iff_iff, beq_iff_eq, beq_iff_eq]
    omega
  rw [hs, hm, e6, show ((m : Int)).toNat = m from rfl]
  rw [hs] at s0 s1 s2 s7
  by_cases s3 : (s : Int) = 3
  · rw [if_pos s3, gd_t (by omega), bd1_e hin, if_neg s7]
  rw [if_neg s3]
  by_cases s4 : (s : Int) = 4
  · rw [if_pos s4, gd_t (by omega), bd1_e hin, if_neg s7]
  rw [if_neg s4]
  by_cases s5 : (s : Int) = 5
  · rw [if_pos s5, gd_t (by omega), bd1_e hin, if_neg s7]
  rw [if_neg s5]
  by_cases s6 : (s : Int) = 6
  · rw [if_pos s6, gd_t (by omega), bd1_e hin, if_neg s7]
  omega
