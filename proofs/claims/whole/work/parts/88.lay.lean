/-! the order of a census: all steps are laid -/
def rdK (M : Int → Int) (L : Nat → Prop) (e : Nat) : Prop := (e : Int) < M 0 ∧ ∀ t : Nat, (t : Int) < M (198 + (e : Int)) → L (2 * (fpM M e t).toNat + 6)
def rdO (M : Int → Int) (L : Nat → Prop) (p : Nat) : Prop := (M (24 + (p : Int)) = 2 → L (M (48 + (p : Int))).toNat) ∧ (M (24 + (p : Int)) = 7 → ∀ t : Nat, (t : Int) < M (198 + ((6 + p : Nat) : Int)) → L (2 * (fpM M (6 + p) t).toNat + 6)) ∧ ((3 ≤ M (24 + (p : Int)) ∧ M (24 + (p : Int)) ≤ 6) → M (48 + (p : Int)) ≤ 1 → L (2 * (M (72 + (p : Int))).toNat + 7))
def rdT (M : Int → Int) (F : Nat → Bool) (L : Nat → Prop) (p : Nat) : Prop := (tE M F (-1) 24 (M (96 + (p : Int))) = true → L (2 * p + 7)) ∧ (0 ≤ M (96 + (p : Int)) → F p = true → L (2 * (M (96 + (p : Int))).toNat + 6))
def rdy (M : Int → Int) (F : Nat → Bool) (L : Nat → Prop) (s : Nat) : Prop := (s < 6 → rdK M L s) ∧ (∀ p, s = 2 * p + 7 → rdO M L p) ∧ (∀ p, s = 2 * p + 6 → rdT M F L p)
theorem rdy_mono {M : Int → Int} {F : Nat → Bool} {L L' : Nat → Prop} {s : Nat} (hL : ∀ x, L x → L' x) (h : rdy M F L s) : rdy M F L' s := by
  obtain ⟨a, b, c⟩ := h
  refine ⟨fun x => ⟨(a x).1, fun t ht => hL _ ((a x).2 t ht)⟩, fun p hp => ?_, fun p hp => ?_⟩
  · obtain ⟨b1, b2, b3⟩ := b p hp
    exact ⟨fun x => hL _ (b1 x), fun x t ht => hL _ (b2 x t ht), fun x y => hL _ (b3 x y)⟩
  · obtain ⟨c1, c2⟩ := c p hp
    exact ⟨fun x => hL _ (c1 x), fun x y => hL _ (c2 x y)⟩
theorem e_hasOwn {m p : Nat} (hm : m < 2 ^ 54) (hp : p < 24) : mX3_hasOwn (m : Int) (p : Int) = some (if m.testBit (2 * p + 7) then 1 else 0) := by
  unfold mX3_hasOwn
  rw [show (6 + 2 * (p : Int)) + 1 = ((2 * p + 7 : Nat) : Int) by omega, lbit hm (by omega)]
  cases m.testBit (2 * p + 7) <;> rfl
theorem e_hasTail {m p : Nat} (hm : m < 2 ^ 54) (hp : p < 24) : mX3_hasTail (m : Int) (p : Int) = some (if m.testBit (2 * p + 6) then 1 else 0) := by
  unfold mX3_hasTail
  rw [show (6 + 2 * (p : Int)) = ((2 * p + 6 : Nat) : Int) by omega, lbit hm (by omega)]
  cases m.testBit (2 * p + 6) <;> rfl
theorem tells_b {b : Bool} {P : Prop} (h : b = true ↔ P) : tells (some (if b then 1 else 0)) P := by
  cases b with
  | true => exact ⟨1, rfl, Or.inr rfl, ⟨fun _ => h.mp rfl, fun _ => rfl⟩⟩
  | false => exact ⟨0, rfl, Or.inl rfl, ⟨fun x => by omega, fun x => by have := h.mpr x; cases this⟩⟩
theorem e_termsLaid {S : St} {M : Int → Int} {m e : Nat} {lo : Int} (h : WF M) (hG : GM (sh11 S) M) (hm : m < 2 ^ 54) (he : e < 30) (hlo : 0 ≤ lo) (hE : okE M lo e) : tells (mX3_termsLaid_26 S (e : Int) (m : Int)) (∀ t : Nat, (t : Int) < M (198 + (e : Int)) → m.testBit (2 * (fpM M e t).toNat + 6) = true) := by
  have hM2 := h.2.2.1
  have hm' := hE.1
  have g8 : S 19 (e : Int) = M (198 + (e : Int)) := hG.2.2.1 e he
  have key : ∀ k t f : Nat, (t : Int) + k = M (198 + (e : Int)) → k < f → ∃ r : Int, mX3_termsLaid_26_3 S (e : Int) (m : Int) f (t : Int) = some r ∧ (r = 0 ∨ r = 1) ∧ (r = 1 ↔ ∀ t' : Nat, t ≤ t' → (t' : Int) < M (198 + (e : Int)) → m.testBit (2 * (fpM M e t').toNat + 6) = true) := by
    intro k
    induction k with
    | zero =>
      intro t f ht hf
      obtain ⟨g, rfl⟩ : ∃ g, f = g + 1 := ⟨f - 1, by omega⟩
      refine ⟨1, ?_, by omega, ⟨fun _ t' a b => by omega, fun _ => rfl⟩⟩
      rw [mX3_termsLaid_26_3, g8, gd_t (by omega), gd_t (by omega), if_pos (by omega)]
    | succ k ih =>
      intro t f ht hf
      obtain ⟨g, rfl⟩ : ∃ g, f = g + 1 := ⟨f - 1, by omega⟩
      obtain ⟨s1, s2, s3⟩ := e_start13 hlo hG he hE (t := t) (by omega)
      rw [mX3_termsLaid_26_3, g8, gd_t (by omega), gd_t (by omega), if_neg (by omega), bd1_e s1, bd1_e (e_hasTail hm (show (fpM M e t).toNat < 24 by omega))]
      obtain ⟨r, r1, r2, r3⟩ := ih (t + 1) g (by omega) (by omega)
      rw [show ((t + 1 : Nat) : Int) = (t : Int) + 1 by omega] at r1
      cases hb : m.testBit (2 * (fpM M e t).toNat + 6) with
      | true =>
        refine ⟨r, by rw [if_pos rfl, gd_t (by decide), if_neg (by decide), r1], r2, r3.trans ⟨fun x t' a b => ?_, fun x t' a b => x t' (by omega) b⟩⟩
        by_cases w : t' = t
        · subst w; exact hb
        · exact x t' (by omega) b
      | false =>
        refine ⟨0, by rw [if_neg (show ¬ (false = true) by decide), gd_t (by decide), if_pos rfl], by omega, ⟨fun x => by omega, fun x => ?_⟩⟩
        rw [x t (Nat.le_refl _) (by omega)] at hb; cases hb
  obtain ⟨r, r1, r2, r3⟩ := key (M (198 + (e : Int))).toNat 0 FU (by omega) (by unfold FU; omega)
  refine ⟨r, ?_, r2, r3.trans ⟨fun x t b => x t (Nat.zero_le _) b, fun x t _ b => x t b⟩⟩
  unfold mX3_termsLaid_26
  rw [bd1_e (show mX3_termsLaid_26_3 S (e : Int) (m : Int) FU 0 = _ from r1)]
  rcases r2 with r2 | r2 <;> rw [r2] <;> rfl
theorem e_partReady {S : St} {M : Int → Int} {m p : Nat} (h : WF M) (hG : GM (sh11 S) M) (hm : m < 2 ^ 54) (hp : (p : Int) < M 2) : tells (mX3_partReady_26 S (p : Int) (m : Int)) (rdO M (fun x => m.testBit x = true) p) := by
  have hM2 := h.2.2.1
  have hM0 := h.1
  obtain ⟨h1, h2, h3, h4, h5, h6⟩ := h.2.2.2.1 p hp
  obtain ⟨g1, g2, g3, g4, g5, g6⟩ := hG.2.1 p hp
  have t1 : S 14 (p : Int) = M (24 + (p : Int)) := g1
  have t3 : M (24 + (p : Int)) ≠ 7 → S 15 (p : Int) = M (48 + (p : Int)) := g3
  have t5 : 3 ≤ M (24 + (p : Int)) ∧ M (24 + (p : Int)) ≤ 6 → S 16 (p : Int) = M (72 + (p : Int)) := g5
  have t6 : ¬ (3 ≤ M (24 + (p : Int)) ∧ M (24 + (p : Int)) ≤ 6) → S 16 (p : Int) = -1 := g6
  unfold mX3_partReady_26 rdO
  rw [gd_t (by omega), nx_e, t1, gd_t (by omega)]
  by_cases s2 : M (24 + (p : Int)) = 2
  · have q := h4 s2
    obtain ⟨k, hk⟩ : ∃ k : Nat, M (48 + (p : Int)) = (k : Int) := ⟨(M (48 + (p : Int))).toNat, by omega⟩
    rw [if_pos s2, t3 (by omega), hk, lbit hm (by omega)]
    have : (gd (inL (if m.testBit k then (1 : Int) else 0)) <| if (if m.testBit k then (1 : Int) else 0) = 0 then some (0 : Int) else some 1) = some (if m.testBit k then 1 else 0) := by cases m.testBit k <;> rfl
    rw [this]
    exact tells_b ⟨fun x => ⟨fun _ => x, fun y => by omega, fun y => by omega⟩, fun x => x.1 s2⟩
  rw [if_neg s2]
  by_cases s7 : M (24 + (p : Int)) = 7
  · obtain ⟨r, r1, r2, r3⟩ := e_termsLaid (e := 6 + p) h hG hm (by omega) (show 0 ≤ (p : Int) + 1 by omega) (h5 s7).2.2
    rw [if_pos s7, show (6 : Int) + (p : Int) = ((6 + p : Nat) : Int) by omega, bd1_e r1, gd_t r2]
    exact ⟨r, rfl, r2, r3.trans ⟨fun x => ⟨fun y => absurd y s2, fun _ => x, fun y => by omega⟩, fun x => x.2.1 s7⟩⟩
  rw [if_neg s7, nx_e]
  by_cases sq : 3 ≤ M (24 + (p : Int)) ∧ M (24 + (p : Int)) ≤ 6
  · have q := h6 sq
    obtain ⟨c, hc⟩ : ∃ c : Nat, M (72 + (p : Int)) = (c : Int) := ⟨(M (72 + (p : Int))).toNat, by omega⟩
    rw [t5 sq, hc, gd_t (by omega), if_neg (by omega), t3 s7, gd_t (by omega)]
    by_cases w : M (48 + (p : Int)) ≤ 1
    · rw [if_neg (by omega), bd1_e (e_hasOwn hm (show c < 24 by omega))]
      have : (gd (inI (if m.testBit (2 * c + 7) then (1 : Int) else 0)) <| if (if m.testBit (2 * c + 7) then (1 : Int) else 0) = 0 then some (0 : Int) else some 1) = some (if m.testBit (2 * c + 7) then 1 else 0) := by cases m.testBit (2 * c + 7) <;> rfl
      rw [this]
      exact tells_b ⟨fun x => ⟨fun y => absurd y s2, fun y => absurd y s7, fun _ _ => x⟩, fun x => x.2.2 sq w⟩
    · rw [if_pos (by omega)]
      exact ⟨1, rfl, Or.inr rfl, ⟨fun _ => ⟨fun y => absurd y s2, fun y => absurd y s7, fun _ y => absurd y w⟩, fun _ => rfl⟩⟩
  · rw [t6 sq, gd_t (by decide), if_pos rfl]
    exact ⟨1, rfl, Or.inr rfl, ⟨fun _ => ⟨fun y => absurd y s2, fun y => absurd y s7, fun y _ => absurd y sq⟩, fun _ => rfl⟩⟩
theorem e_isReady {S : St} {M : Int → Int} {m s : Nat} (h : WF M) (hG : GM (sh11 S) M) (hc : c0126 S) (hm : m < 2 ^ 54) (hs : (s : Int) < 6 + 2 * M 2) : tells (mX3_isReady_26 S (s : Int) (m : Int)) (rdy M (cf26 S) (fun x => m.testBit x = true) s) := by
  have hM2 := h.2.2.1
  have hM0 := h.1
  unfold mX3_isReady_26 rdy
  rw [gd_t (by omega)]
  by_cases c6 : s < 6
  · rw [if_neg (by omega), show S 13 1 = M 0 from hG.1.2.1, gd_t (by omega)]
    have no : ∀ P : Prop, ((s < 6 → rdK M (fun x => m.testBit x = true) s) ∧ (∀ p, s = 2 * p + 7 → rdO M (fun x => m.testBit x = true) p) ∧ (∀ p, s = 2 * p + 6 → rdT M (cf26 S) (fun x => m.testBit x = true) p)) ↔ rdK M (fun x => m.testBit x = true) s := fun _ => ⟨fun x => x.1 c6, fun x => ⟨fun _ => x, fun p hp => by omega, fun p hp => by omega⟩⟩
    by_cases c : M 0 ≤ (s : Int)
    · rw [if_pos c]
      exact ⟨0, rfl, Or.inl rfl, ⟨fun x => by omega, fun x => by have := ((no True).mp x).1; omega⟩⟩
    · rw [if_neg c]
      obtain ⟨r, r1, r2, r3⟩ := e_termsLaid (e := s) h hG hm (by omega) (Int.le_refl 0) (h.2.2.2.2.1 s (by omega))
      rw [bd1_e r1]
      refine ⟨r, ?_, r2, r3.trans (Iff.trans ⟨fun x => ⟨by omega, x⟩, fun x => x.2⟩ (no True).symm)⟩
      rcases r2 with r2 | r2 <;> rw [r2] <;> rfl
  · obtain ⟨p, hp⟩ : ∃ p : Nat, p = (s - 6) / 2 := ⟨_, rfl⟩
    have x4 : ((s : Int) - 6) / 2 = (p : Int) := by omega
    rw [if_pos (by omega), gd_t (by omega), nx_e, x4, gd_t (by omega)]
    by_cases od : ((s : Int) - 6) % 2 = 1
    · have sp : s = 2 * p + 7 := by omega
      obtain ⟨r, r1, r2, r3⟩ := e_partReady (p := p) h hG hm (by omega)
      rw [if_pos od, bd1_e r1, gd_t r2]
      exact ⟨r, rfl, r2, r3.trans ⟨fun x => ⟨fun y => absurd y c6, fun q hq => by rw [show q = p by omega]; exact x, fun q hq => by omega⟩, fun x => x.2.1 p sp⟩⟩
    · have sp : s = 2 * p + 6 := by omega
      have hp' : (p : Int) < M 2 := by omega
      have o := (h.2.2.2.1 p hp').2.1
      have g6 : S 17 (p : Int) = M (96 + (p : Int)) := (hG.2.1 p hp').2.1
      have okn : okq M (M (96 + (p : Int))) := by unfold okq; omega
      have no : ((s < 6 → rdK M (fun x => m.testBit x = true) s) ∧ (∀ p, s = 2 * p + 7 → rdO M (fun x => m.testBit x = true) p) ∧ (∀ p, s = 2 * p + 6 → rdT M (cf26 S) (fun x => m.testBit x = true) p)) ↔ rdT M (cf26 S) (fun x => m.testBit x = true) p := ⟨fun x => x.2.2 p sp, fun x => ⟨fun y => absurd y c6, fun q hq => by omega, fun q hq => by rw [show q = p by omega]; exact x⟩⟩
      have ae := e_allEmpty26 (a := -1) (q := M (96 + (p : Int))) h hG hc (by decide) okn
      have ow := e_hasOwn (p := p) hm (by omega)
      have em := e_isEmpty26 (p := p) hc (by omega)
      rw [if_neg od, gd_t (by omega), nx_e, g6, bd1_e ae]
      have zz : (gd (inI (M (96 + (p : Int)))) <| if M (96 + (p : Int)) = (-1) then (some (0 : Int)) else (bd1 (mX3_isEmpty_26 S (p : Int)) fun r_35 => gd (inI r_35) <| if r_35 = 0 then (some (0)) else (some (1)))) = some (if decide (0 ≤ M (96 + (p : Int))) && cf26 S p then 1 else 0) := by
        rw [gd_t (by omega)]
        by_cases z : M (96 + (p : Int)) = -1
        · rw [if_pos z, z]; rfl
        · rw [if_neg z, bd1_e em, decide_eq_true (show 0 ≤ M (96 + (p : Int)) by omega)]
          cases cf26 S p <;> rfl
      have rd : rdT M (cf26 S) (fun x => m.testBit x = true) p ↔ ((tE M (cf26 S) (-1) 24 (M (96 + (p : Int))) = true → m.testBit (2 * p + 7) = true) ∧ ((decide (0 ≤ M (96 + (p : Int))) && cf26 S p) = true → m.testBit (2 * (M (96 + (p : Int))).toNat + 6) = true)) := by
        unfold rdT
        constructor
        · rintro ⟨a, b⟩
          refine ⟨a, fun x => ?_⟩
          rw [Bool.and_eq_true, decide_eq_true_eq] at x
          exact b x.1 x.2
        · rintro ⟨a, b⟩
          exact ⟨a, fun x y => b (by rw [Bool.and_eq_true, decide_eq_true_eq]; exact ⟨x, y⟩)⟩
      rw [bd1_e zz]
      have ht : (decide (0 ≤ M (96 + (p : Int))) && cf26 S p) = true → mX3_hasTail (m : Int) (M (96 + (p : Int))) = some (if m.testBit (2 * (M (96 + (p : Int))).toNat + 6) then 1 else 0) := fun x => by
        rw [Bool.and_eq_true, decide_eq_true_eq] at x
        have := e_hasTail (p := (M (96 + (p : Int))).toNat) hm (by omega)
        rw [show (((M (96 + (p : Int))).toNat : Nat) : Int) = M (96 + (p : Int)) by omega] at this
        exact this
      have rd' := no.trans rd
      clear no rd zz
      cases hA : tE M (cf26 S) (-1) 24 (M (96 + (p : Int))) <;> cases hZ : (decide (0 ≤ M (96 + (p : Int))) && cf26 S p)
      · rw [hA, hZ] at rd'
        exact ⟨1, rfl, Or.inr rfl, ⟨fun _ => rd'.mpr ⟨fun x => (by cases x), fun x => (by cases x)⟩, fun _ => rfl⟩⟩
      · rw [hA, hZ] at rd'
        have t := ht hZ
        rw [if_neg (show ¬ (false = true) by decide), if_pos rfl, gd_t (by decide), if_pos rfl, gd_t (by decide), if_neg (by decide), bd1_e t]
        cases hT : m.testBit (2 * (M (96 + (p : Int))).toNat + 6)
        · rw [hT] at rd'
          exact ⟨0, rfl, Or.inl rfl, ⟨fun x => by omega, fun x => by have := (rd'.mp x).2 rfl; cases this⟩⟩
        · rw [hT] at rd'
          exact ⟨1, rfl, Or.inr rfl, ⟨fun _ => rd'.mpr ⟨fun x => (by cases x), fun _ => rfl⟩, fun _ => rfl⟩⟩
      · rw [hA, hZ] at rd'
        rw [if_pos rfl, if_neg (show ¬ (false = true) by decide), gd_t (by decide), if_neg (by decide), bd1_e ow]
        cases hO : m.testBit (2 * p + 7)
        · rw [hO] at rd'
          exact ⟨0, rfl, Or.inl rfl, ⟨fun x => by omega, fun x => by have := (rd'.mp x).1 rfl; cases this⟩⟩
        · rw [hO] at rd'
          exact ⟨1, rfl, Or.inr rfl, ⟨fun _ => rd'.mpr ⟨fun _ => rfl, fun x => by cases x⟩, fun _ => rfl⟩⟩
      · rw [hA, hZ] at rd'
        have t := ht hZ
        rw [if_pos rfl, gd_t (by decide), if_neg (by decide), bd1_e ow]
        cases hO : m.testBit (2 * p + 7)
        · rw [hO] at rd'
          exact ⟨0, rfl, Or.inl rfl, ⟨fun x => by omega, fun x => by have := (rd'.mp x).1 rfl; cases this⟩⟩
        · rw [hO] at rd'
          rw [if_pos rfl, gd_t (by decide), if_neg (by decide), gd_t (by decide), if_neg (by decide), bd1_e t]
          cases hT : m.testBit (2 * (M (96 + (p : Int))).toNat + 6)
          · rw [hT] at rd'
            exact ⟨0, rfl, Or.inl rfl, ⟨fun x => by omega, fun x => by have := (rd'.mp x).2 rfl; cases this⟩⟩
          · rw [hT] at rd'
            exact ⟨1, rfl, Or.inr rfl, ⟨fun _ => rd'.mpr ⟨fun _ => rfl, fun _ => rfl⟩, fun _ => rfl⟩⟩
