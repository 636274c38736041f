/-! what stands in parts, on what they lean: equations, and the reference's recursion -/
def orN : Nat → (Nat → Nat) → Nat
  | 0, _ => 0
  | n + 1, f => orN n f ||| f n
theorem orN_s {n : Nat} {f : Nat → Nat} : orN (n + 1) f = orN n f ||| f n := rfl
theorem orN_lt {B n : Nat} {f : Nat → Nat} (h : ∀ i, i < n → f i < 2 ^ B) : orN n f < 2 ^ B := by
  induction n with
  | zero => exact Nat.two_pow_pos B
  | succ n ih => exact Nat.or_lt_two_pow (ih fun i hi => h i (by omega)) (h n (by omega))
/-- over a chain of parts -/
def chO (M : Int → Int) (X : Nat → Nat) (g : Int → Bool) : Nat → Int → Nat
  | 0, _ => 0
  | f + 1, q => if q < 0 then 0 else ((if g q then X q.toNat else 0) ||| chO M X g f (M (96 + q)))
/-- over an expression's terms -/
def eO (M : Int → Int) (X : Nat → Nat) (g : Nat → Int → Bool) (e : Nat) : Nat := orN (M (198 + (e : Int))).toNat (fun t => if offM M e t then 0 else chO M X (g t) 24 (fpM M e t))
def bX (M : Int → Int) (X : Nat → Nat) : Prop := ∀ p : Nat, (p : Int) < M 2 → X p < 2 ^ 30
theorem chO_lt {M : Int → Int} {X : Nat → Nat} {g : Int → Bool} (h : WF M) (hX : bX M X) : ∀ f q, okq M q → chO M X g f q < 2 ^ 30 := by
  have hM2 := h.2.2.1
  intro f
  induction f with
  | zero => intro q _; exact Nat.two_pow_pos 30
  | succ f ih =>
    intro q hq
    have hq0 := hq
    unfold okq at hq
    unfold chO
    by_cases z : q < 0
    · rw [if_pos z]; exact Nat.two_pow_pos 30
    · rw [if_neg z]
      refine Nat.or_lt_two_pow ?_ (ih _ (okq_next h hq0 (by omega)))
      split
      · exact hX _ (by omega)
      · exact Nat.two_pow_pos 30
theorem eO_lt {M : Int → Int} {X : Nat → Nat} {g : Nat → Int → Bool} {e : Nat} {lo : Int} (h : WF M) (hX : bX M X) (hlo : 0 ≤ lo) (hE : okE M lo e) : eO M X g e < 2 ^ 30 := by
  refine orN_lt fun t ht => ?_
  have q := hE.2.1 t (by omega)
  split
  · exact Nat.two_pow_pos 30
  · exact chO_lt h hX 24 _ (Or.inr ⟨by omega, q.2.2⟩)
def gdT (_ : Nat) (_ : Int) : Bool := true
def gdL (M : Int → Int) (F : Nat → Bool) (e : Nat) (t : Nat) (q : Int) : Bool := tE M F q 24 (fpM M e t)
/-- letters (sort 0), kinds (sort 2) in a part -/
def hasEq (M : Int → Int) (sort : Int) (X : Nat → Nat) : Prop := ∀ p : Nat, (p : Int) < M 2 → X p = if M (24 + (p : Int)) = 7 then eO M X gdT (6 + p) else if 3 ≤ M (24 + (p : Int)) ∧ M (24 + (p : Int)) ≤ 6 then X (M (72 + (p : Int))).toNat else if M (24 + (p : Int)) = sort then 2 ^ (M (48 + (p : Int))).toNat else 0
/-- kinds that a part leans on -/
def leaEq (M : Int → Int) (F : Nat → Bool) (X : Nat → Nat) : Prop := ∀ p : Nat, (p : Int) < M 2 → X p = if M (24 + (p : Int)) = 7 then eO M X (gdL M F (6 + p)) (6 + p) else if 3 ≤ M (24 + (p : Int)) ∧ M (24 + (p : Int)) ≤ 6 then (if M (48 + (p : Int)) ≤ 1 then X (M (72 + (p : Int))).toNat else 0) else if M (24 + (p : Int)) = 2 then 2 ^ (M (48 + (p : Int))).toNat else 0
/-- levels of parts -/
def DP (M : Int → Int) (d : Nat → Nat) : Prop := (∀ e t : Nat, (e : Int) < M 0 → (t : Int) < M (198 + (e : Int)) → d (fpM M e t).toNat = 0) ∧ (∀ p : Nat, (p : Int) < M 2 → d p ≤ 6 ∧ (M (24 + (p : Int)) = 7 → d p ≤ 5 ∧ ∀ t : Nat, (t : Int) < M (198 + ((6 + p : Nat) : Int)) → d (fpM M (6 + p) t).toNat = d p + 1) ∧ (3 ≤ M (24 + (p : Int)) ∧ M (24 + (p : Int)) ≤ 6 → d p ≤ 5 ∧ d (M (72 + (p : Int))).toNat = d p + 1) ∧ (0 ≤ M (96 + (p : Int)) → d (M (96 + (p : Int))).toNat = d p))
theorem st48 {S : St} {rec : Nat → Int → Int → St → Option Int} {X : Nat → Nat} {d : Nat → Nat} {L : Nat} {v3 v4 a1 sort : Int} (h : WF (S 84)) (hX : bX (S 84) X) (hd : DP (S 84) d) (hr : ∀ p : Nat, (p : Int) < S 84 2 → d p = L → rec 1 (p : Int) sort S = some ((X p : Nat) : Int)) : ∀ (n f : Nat) (q : Int) (acc : Nat), okq (S 84) q → 24 - q ≤ n ∨ q < 0 → n < f → acc < 2 ^ 30 → (0 ≤ q → d q.toNat = L) → mX12_stands_48 rec S v3 v4 a1 sort f q (acc : Int) = some ((acc ||| chO (S 84) X (fun _ => true) n q : Nat) : Int) := by
  have hM2 := h.2.2.1
  intro n
  induction n with
  | zero =>
    intro f q acc hq hn hf ha hl
    obtain ⟨g, rfl⟩ : ∃ g, f = g + 1 := ⟨f - 1, by omega⟩
    unfold okq at hq
    rw [mX12_stands_48, gd_t (by omega), if_pos (by omega)]
    show some (acc : Int) = some ((acc ||| 0 : Nat) : Int)
    rw [Nat.or_zero]
  | succ n ih =>
    intro f q acc hq hn hf ha hl
    obtain ⟨g, rfl⟩ : ∃ g, f = g + 1 := ⟨f - 1, by omega⟩
    have hq0 := hq
    unfold okq at hq
    rw [mX12_stands_48, gd_t (by omega)]
    unfold chO
    by_cases z : q < 0
    · rw [if_pos z, if_pos z, Nat.or_zero]
    · obtain ⟨p, rfl⟩ := Int.eq_ofNat_of_zero_le (show 0 ≤ q by omega)
      have o := (h.2.2.2.1 p (by omega)).2.1
      have lv := hl (by omega)
      rw [show ((p : Int)).toNat = p from rfl] at lv ⊢
      have b := hX p (by omega)
      have o2 : acc ||| X p < 2 ^ 30 := Nat.or_lt_two_pow ha b
      rw [if_neg z, if_neg z, bd1_e (hr p (by omega) lv), nx_e, orr_nat (Nat.lt_trans ha (by decide)) (Nat.lt_trans b (by decide)), gd_t (by omega), nx_e]
      rw [ih g (S 84 (96 + (p : Int))) (acc ||| X p) (okq_next h hq0 (by omega)) (by omega) (by omega) o2 (fun x => by rw [(hd.2 p (by omega)).2.2.2 x]; exact lv), Nat.or_assoc]
      rfl
theorem st17 {S : St} {rec : Nat → Int → Int → St → Option Int} {X : Nat → Nat} {d : Nat → Nat} {L e : Nat} {lo sort : Int} (h : WF (S 84)) (hX : bX (S 84) X) (hd : DP (S 84) d) (he : e < 30) (hlo : 0 ≤ lo) (hE : okE (S 84) lo e) (hl : ∀ t : Nat, (t : Int) < S 84 (198 + (e : Int)) → d (fpM (S 84) e t).toNat = L) (hr : ∀ p : Nat, (p : Int) < S 84 2 → d p = L → rec 1 (p : Int) sort S = some ((X p : Nat) : Int)) : bX12_stands rec S (e : Int) sort = some ((eO (S 84) X gdT e : Nat) : Int) := by
  have hm := hE.1
  have key : ∀ k t f : Nat, (t : Int) + k = S 84 (198 + (e : Int)) → k < f → mX12_stands_17 rec S (e : Int) sort f (tlM (S 84) e t) (t : Int) ((orN t (fun t => if offM (S 84) e t then 0 else chO (S 84) X (gdT t) 24 (fpM (S 84) e t)) : Nat) : Int) = some ((eO (S 84) X gdT e : Nat) : Int) := by
    intro k
    induction k with
    | zero =>
      intro t f ht hf
      obtain ⟨g, rfl⟩ : ∃ g, f = g + 1 := ⟨f - 1, by omega⟩
      have e1 : t = (S 84 (198 + (e : Int))).toNat := by omega
      have e2 := hE.2.2
      rw [← e1] at e2
      rw [mX12_stands_17, e2, gd_t (by decide), if_pos (by decide)]
      unfold eO
      rw [← e1]
    | succ k ih =>
      intro t f ht hf
      obtain ⟨g, rfl⟩ : ∃ g, f = g + 1 := ⟨f - 1, by omega⟩
      have q := hE.2.1 t (by omega)
      have acc : orN t (fun t => if offM (S 84) e t then 0 else chO (S 84) X (gdT t) 24 (fpM (S 84) e t)) < 2 ^ 30 := orN_lt fun t' ht' => by
        have q' := hE.2.1 t' (by omega)
        split
        · exact Nat.two_pow_pos 30
        · exact chO_lt h hX 24 _ (Or.inr ⟨by omega, q'.2.2⟩)
      have l := ih (t + 1) g (by omega) (by omega)
      rw [show ((t + 1 : Nat) : Int) = (t : Int) + 1 by omega] at l
      rw [mX12_stands_17, gd_t (by omega), if_neg (by omega), bd1_e (e_isOff h he (by omega))]
      cases ho : offM (S 84) e t with
      | true =>
        rw [show orN (t + 1) (fun t => if offM (S 84) e t then 0 else chO (S 84) X (gdT t) 24 (fpM (S 84) e t)) = orN t (fun t => if offM (S 84) e t then 0 else chO (S 84) X (gdT t) 24 (fpM (S 84) e t)) by rw [orN_s]; simp only [ho]; simp] at l
        have s := st48 (v3 := tlM (S 84) e t) (v4 := (t : Int)) (a1 := (e : Int)) (L := L) h hX hd hr 24 FU (-1) _ (Or.inl rfl) (Or.inr (by decide)) (by unfold FU; omega) acc (fun x => by omega)
        rw [show chO (S 84) X (fun _ => true) 24 (-1) = 0 from rfl, Nat.or_zero] at s
        rw [bd1_e (show (gd (inI (if true = true then (1 : Int) else 0)) <| if (if true = true then (1 : Int) else 0) = 0 then _ else (some (-1 : Int))) = some (-1) by rw [gd_t (by decide), if_neg (by decide)]), bd1_e s, gd_t (by omega), nx_e]
        exact l
      | false =>
        rw [show orN (t + 1) (fun t => if offM (S 84) e t then 0 else chO (S 84) X (gdT t) 24 (fpM (S 84) e t)) = orN t (fun t => if offM (S 84) e t then 0 else chO (S 84) X (gdT t) 24 (fpM (S 84) e t)) ||| chO (S 84) X (gdT t) 24 (fpM (S 84) e t) by rw [orN_s]; simp only [ho]; simp] at l
        have s := st48 (v3 := tlM (S 84) e t) (v4 := (t : Int)) (a1 := (e : Int)) (L := L) h hX hd hr 24 FU (fpM (S 84) e t) _ (Or.inr ⟨by omega, q.2.2⟩) (by omega) (by unfold FU; omega) acc (fun x => hl t (by omega))
        rw [bd1_e (show (gd (inI (if false = true then (1 : Int) else 0)) <| if (if false = true then (1 : Int) else 0) = 0 then (gd (0 ≤ (120 + tlM (S 84) e t) ∧ (120 + tlM (S 84) e t) < 228) <| some (S 84 (120 + tlM (S 84) e t))) else (some (-1 : Int))) = some (fpM (S 84) e t) by rw [gd_t (by decide), if_pos (by decide), gd_t (by omega)]; rfl), bd1_e s, gd_t (by omega), nx_e]
        exact l
  have l := key (S 84 (198 + (e : Int))).toNat 0 FU (by omega) (by unfold FU; omega)
  unfold bX12_stands
  rw [gd_t (by omega), nx_e, bd1_e (show mX12_stands_17 rec S (e : Int) sort FU (S 84 (168 + (e : Int))) 0 0 = _ from l)]
/-- standsIn by the equations -/
theorem e_standsIn {S : St} {X : Nat → Nat} {d : Nat → Nat} {sort : Int} (h : WF (S 84)) (hs : sort = 0 ∨ sort = 2) (hX : bX (S 84) X) (hq : hasEq (S 84) sort X) (hd : DP (S 84) d) : ∀ (k p f : Nat), (p : Int) < S 84 2 → 6 - d p ≤ k → 2 * k + 1 ≤ f → RX12_stands f 1 (p : Int) sort S = some ((X p : Nat) : Int) := by
  have hM2 := h.2.2.1
  intro k
  induction k using Nat.strongRecOn with
  | ind k ih =>
    intro p f hp hk hf
    obtain ⟨g, rfl⟩ : ∃ g, f = g + 1 := ⟨f - 1, by omega⟩
    show (if (1 : Nat) = 0 then _ else (if (1 : Nat) = 1 then bX12_standsIn (RX12_stands g) S (p : Int) sort else none)) = _
    rw [if_neg (by decide), if_pos rfl]
    unfold bX12_standsIn
    -- down to what is no sequence
    have down : ∀ (n f p : Nat), (p : Int) < S 84 2 → 24 - p ≤ n → n < f → ∃ y : Nat, (y : Int) < S 84 2 ∧ d p ≤ d y ∧ X y = X p ∧ ¬ (3 ≤ S 84 (24 + (y : Int)) ∧ S 84 (24 + (y : Int)) ≤ 6) ∧ mX12_standsIn_2 (RX12_stands g) S sort f (p : Int) = some (y : Int) := by
      intro n
      induction n with
      | zero => intro f p a b; omega
      | succ n jh =>
        intro f p a b c
        obtain ⟨f', rfl⟩ : ∃ f', f = f' + 1 := ⟨f - 1, by omega⟩
        obtain ⟨h1, h2, h3, h4, h5, h6⟩ := h.2.2.2.1 p a
        by_cases sq : 3 ≤ S 84 (24 + (p : Int)) ∧ S 84 (24 + (p : Int)) ≤ 6
        · have h6' := h6 sq
          obtain ⟨y, y1, y2, y3, y4, y5⟩ := jh f' (S 84 (72 + (p : Int))).toNat (by omega) (by omega) (by omega)
          refine ⟨y, y1, ?_, ?_, y4, ?_⟩
          · have := ((hd.2 p a).2.2.1 sq).2; omega
          · rw [y3, hq p a, if_neg (by omega), if_pos sq]
          · rw [mX12_standsIn_2, gd_t (by omega), gd_t (by omega), e_in (by omega) (by decide) (by decide), if_pos sq]
            rw [bd1_e rfl, gd_t (by decide), if_neg (by decide), gd_t (by omega), nx_e]
            rw [show S 84 (72 + (p : Int)) = (((S 84 (72 + (p : Int))).toNat : Nat) : Int) by omega]
            exact y5
        · refine ⟨p, a, Nat.le_refl _, rfl, sq, ?_⟩
          rw [mX12_standsIn_2, gd_t (by omega), gd_t (by omega), e_in (by omega) (by decide) (by decide), if_neg sq]
          rw [bd1_e rfl, gd_t (by decide), if_pos rfl]
    obtain ⟨y, y1, y2, y3, y4, y5⟩ := down 24 FU p hp (by omega) (by unfold FU; omega)
    obtain ⟨h1, h2, h3, h4, h5, h6⟩ := h.2.2.2.1 y y1
    rw [bd1_e y5, gd_t (by omega), gd_t (by omega), ← y3, hq y y1]
    by_cases s7 : S 84 (24 + (y : Int)) = 7
    · obtain ⟨q1, q2, q3⟩ := h5 s7
      obtain ⟨z1, z2⟩ := (hd.2 y y1).2.1 s7
      obtain ⟨g2, rfl⟩ : ∃ g2, g = g2 + 1 := ⟨g - 1, by omega⟩
      have : RX12_stands (g2 + 1) 0 ((6 + y : Nat) : Int) sort S = some ((eO (S 84) X gdT (6 + y) : Nat) : Int) := by
        show (if (0 : Nat) = 0 then bX12_stands (RX12_stands g2) S ((6 + y : Nat) : Int) sort else _) = _
        rw [if_pos rfl]
        exact st17 (L := d y + 1) h hX hd (by omega) (by omega) q3 z2 (fun p' a b => ih (k - 1) (by omega) p' g2 a (by omega) (by omega))
      rw [if_pos s7, if_pos s7, gd_t (by omega), q1, show (6 : Int) + (y : Int) = ((6 + y : Nat) : Int) by omega, bd1_e this]
    · rw [if_neg s7, if_neg s7, if_neg y4, gd_t (by omega)]
      by_cases e : S 84 (24 + (y : Int)) = sort
      · have b : 0 ≤ S 84 (48 + (y : Int)) ∧ S 84 (48 + (y : Int)) ≤ 25 := by
          rcases hs with r | r
          · exact h3 (by omega)
          · have := h4 (by omega); have := h.1; omega
        rw [if_pos e, if_pos e, gd_t (by omega), show S 84 (48 + (y : Int)) = (((S 84 (48 + (y : Int))).toNat : Nat) : Int) by omega, shl1 (by omega), Int.toNat_natCast]
      · rw [if_neg e, if_neg e]; rfl
theorem e_stands {S : St} {X : Nat → Nat} {d : Nat → Nat} {sort : Int} {e : Nat} (h : WF (S 84)) (hs : sort = 0 ∨ sort = 2) (hX : bX (S 84) X) (hq : hasEq (S 84) sort X) (hd : DP (S 84) d) (he : (e : Int) < S 84 0) : mX12_stands S (e : Int) sort = some ((eO (S 84) X gdT e : Nat) : Int) := by
  have hM0 := h.1
  unfold mX12_stands
  show (if (0 : Nat) = 0 then bX12_stands (RX12_stands 23) S (e : Int) sort else _) = _
  rw [if_pos rfl]
  exact st17 (L := 0) h hX hd (by omega) (by omega) (h.2.2.2.2.1 e he) (fun t ht => hd.1 e t he ht) (fun p' a b => e_standsIn h hs hX hq hd 6 p' 23 a (by omega) (by omega))
