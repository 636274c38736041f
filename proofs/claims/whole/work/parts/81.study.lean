/-! the class's study: tables that satisfy the same equations -/
def B30 : Nat := 1073741823
theorem nb30 {S : St} {i N p : Nat} (h : nb S i N B30) (hp : p < N) : tb S i p < 2 ^ 30 := by
  have := (h.at hp).2
  unfold B30 at this
  omega
theorem bX_nb {S : St} {M : Int → Int} {i : Nat} (hW : WF M) (h : nb S i 24 B30) : bX M (tb S i) := fun p hp => nb30 h (by have := hW.2.2.1; omega)
theorem le30 {x : Nat} (h : x < 2 ^ 30) : x ≤ B30 := by unfold B30; omega
theorem chO_cg {M : Int → Int} {X X' : Nat → Nat} {g g' : Int → Bool} {lo : Nat} (h : WF M) (hX : ∀ p : Nat, lo ≤ p → (p : Int) < M 2 → X p = X' p) (hg : ∀ q : Int, g q = g' q) : ∀ f q, okq M q → (0 ≤ q → (lo : Int) ≤ q) → chO M X g f q = chO M X' g' f q := by
  have hM2 := h.2.2.1
  intro f
  induction f with
  | zero => intro q _ _; rfl
  | succ f ih =>
    intro q hq hl
    have hq0 := hq
    unfold okq at hq
    unfold chO
    by_cases z : q < 0
    · rw [if_pos z, if_pos z]
    · have o := (h.2.2.2.1 q.toNat (by omega)).2.1
      rw [show ((q.toNat : Nat) : Int) = q by omega] at o
      rw [if_neg z, if_neg z, hg q, hX q.toNat (by omega) (by omega), ih _ (okq_next h hq0 (by omega)) (by omega)]
theorem orN_congr {n : Nat} {f g : Nat → Nat} (h : ∀ i, i < n → f i = g i) : orN n f = orN n g := by
  induction n with
  | zero => rfl
  | succ n ih => rw [orN_s, orN_s, ih fun i hi => h i (by omega), h n (by omega)]
theorem eO_cg {M : Int → Int} {X X' : Nat → Nat} {g g' : Nat → Int → Bool} {e lo : Nat} (h : WF M) (hE : okE M (lo : Int) e) (hX : ∀ p : Nat, lo ≤ p → (p : Int) < M 2 → X p = X' p) (hg : ∀ t q, g t q = g' t q) : eO M X g e = eO M X' g' e := by
  refine orN_congr fun t ht => ?_
  have q := hE.2.1 t (by omega)
  cases offM M e t with
  | true => rfl
  | false =>
    simp only [Bool.false_eq_true, if_false]
    exact chO_cg h hX (hg t) 24 _ (Or.inr ⟨by omega, q.2.2⟩) (fun _ => q.2.1)
theorem eh33_35 {S : St} {M : Int → Int} {e : Nat} {lo : Int} (h : WF M) (hG : GM S M) (hN : nb S 35 24 B30) (he : e < 30) (hlo : 0 ≤ lo) (hE : okE M lo e) : mX3_exprHas_33_35 S (e : Int) = some ((eO M (tb S 35) gdT e : Nat) : Int) := by
  have hM2 := h.2.2.1
  have hm := hE.1
  have hX := bX_nb h hN
  have g8 : S 8 (e : Int) = M (198 + (e : Int)) := hG.2.2.1 e he
  have in51 : ∀ (d i f : Nat) (q v1 : Int) (acc : Nat), i + d = 24 → d < f → okq M q → acc < 2 ^ 30 → mX3_exprHas_33_35_51 S v1 (e : Int) f (i : Int) q (acc : Int) = some ((acc ||| chO M (tb S 35) (fun _ => true) d q : Nat) : Int) := by
    intro d
    induction d with
    | zero =>
      intro i f q v1 acc hi hf hq ha
      obtain ⟨g, rfl⟩ : ∃ g, f = g + 1 := ⟨f - 1, by omega⟩
      rw [mX3_exprHas_33_35_51, gd_t (by omega), if_pos (by omega)]
      show some (acc : Int) = some ((acc ||| 0 : Nat) : Int)
      rw [Nat.or_zero]
    | succ d ih =>
      intro i f q v1 acc hi hf hq ha
      obtain ⟨g, rfl⟩ : ∃ g, f = g + 1 := ⟨f - 1, by omega⟩
      have hq0 := hq
      unfold okq at hq
      rw [mX3_exprHas_33_35_51, gd_t (by omega), if_neg (by omega), gd_t (by omega)]
      by_cases z : q = -1
      · rw [if_pos z]; subst z
        show some (acc : Int) = some ((acc ||| 0 : Nat) : Int)
        rw [Nat.or_zero]
      · obtain ⟨p, rfl⟩ := Int.eq_ofNat_of_zero_le (show 0 ≤ q by omega)
        have g6 : S 6 (p : Int) = M (96 + (p : Int)) := (hG.2.1 p (by omega)).2.1
        have v := (hN.at (show p < 24 by omega)).1
        have b := hX p (by omega)
        unfold chO
        rw [if_neg z, gd_t (by omega), nx_e, nx_e, g6, v, orr_nat (Nat.lt_trans ha (by decide)) (Nat.lt_trans b (by decide)), if_neg (show ¬ (p : Int) < 0 by omega), show (i : Int) + 1 = ((i + 1 : Nat) : Int) by omega, ih (i + 1) g (M (96 + (p : Int))) v1 (acc ||| tb S 35 p) (by omega) (by omega) (okq_next h hq0 (by omega)) (Nat.or_lt_two_pow ha b), Nat.or_assoc]
        rfl
  have key : ∀ k t f : Nat, (t : Int) + k = M (198 + (e : Int)) → k < f → mX3_exprHas_33_35_5 S (e : Int) f (t : Int) ((orN t (fun t => if offM M e t then 0 else chO M (tb S 35) (gdT t) 24 (fpM M e t)) : Nat) : Int) = some ((eO M (tb S 35) gdT e : Nat) : Int) := by
    intro k
    induction k with
    | zero =>
      intro t f ht hf
      obtain ⟨g, rfl⟩ : ∃ g, f = g + 1 := ⟨f - 1, by omega⟩
      rw [mX3_exprHas_33_35_5, gd_t (by omega), g8, gd_t (by omega), if_pos (by omega)]
      unfold eO
      rw [show (M (198 + (e : Int))).toNat = t by omega]
    | succ k ih =>
      intro t f ht hf
      obtain ⟨g, rfl⟩ : ∃ g, f = g + 1 := ⟨f - 1, by omega⟩
      obtain ⟨q1, q2, q3⟩ := e_start2 (t := t) hlo hG he hE (by omega)
      have acc : orN t (fun t => if offM M e t then 0 else chO M (tb S 35) (gdT t) 24 (fpM M e t)) < 2 ^ 30 := orN_lt fun t' ht' => by
        have q' := hE.2.1 t' (by omega)
        split
        · exact Nat.two_pow_pos 30
        · exact chO_lt h hX 24 _ (Or.inr ⟨by omega, q'.2.2⟩)
      have l := ih (t + 1) g (by omega) (by omega)
      rw [show ((t + 1 : Nat) : Int) = (t : Int) + 1 by omega] at l
      rw [mX3_exprHas_33_35_5, gd_t (by omega), g8, gd_t (by omega), if_neg (by omega), bd1_e (e_isOff2 h hG he (by omega))]
      cases ho : offM M e t with
      | true =>
        rw [show orN (t + 1) (fun t => if offM M e t then 0 else chO M (tb S 35) (gdT t) 24 (fpM M e t)) = orN t (fun t => if offM M e t then 0 else chO M (tb S 35) (gdT t) 24 (fpM M e t)) by rw [orN_s]; simp only [ho]; simp] at l
        have s := in51 24 0 FU (-1) (t : Int) _ (by omega) (by unfold FU; omega) (Or.inl rfl) acc
        rw [show chO M (tb S 35) (fun _ => true) 24 (-1) = 0 from rfl, Nat.or_zero] at s
        rw [bd1_e (show (gd (inI (if true = true then (1 : Int) else 0)) <| if (if true = true then (1 : Int) else 0) = 0 then _ else (some (-1 : Int))) = some (-1) by rw [gd_t (by decide), if_neg (by decide)]), bd1_e (show mX3_exprHas_33_35_51 S (t : Int) (e : Int) FU 0 (-1) _ = _ from s)]
        exact l
      | false =>
        rw [show orN (t + 1) (fun t => if offM M e t then 0 else chO M (tb S 35) (gdT t) 24 (fpM M e t)) = orN t (fun t => if offM M e t then 0 else chO M (tb S 35) (gdT t) 24 (fpM M e t)) ||| chO M (tb S 35) (gdT t) 24 (fpM M e t) by rw [orN_s]; simp only [ho]; simp] at l
        have s := in51 24 0 FU (fpM M e t) (t : Int) _ (by omega) (by unfold FU; omega) (Or.inr ⟨by omega, q3⟩) acc
        rw [Int.toNat_of_nonneg (by omega)] at q1
        rw [bd1_e (show (gd (inI (if false = true then (1 : Int) else 0)) <| if (if false = true then (1 : Int) else 0) = 0 then (bd1 (mX2_start_2 S (e : Int) (t : Int)) fun r_36 => some r_36) else (some (-1 : Int))) = some (fpM M e t) by rw [gd_t (by decide), if_pos (by decide), bd1_e q1]), bd1_e (show mX3_exprHas_33_35_51 S (t : Int) (e : Int) FU 0 (fpM M e t) _ = _ from s)]
        exact l
  have l := key (M (198 + (e : Int))).toNat 0 FU (by omega) (by unfold FU; omega)
  unfold mX3_exprHas_33_35
  rw [bd1_e (show mX3_exprHas_33_35_5 S (e : Int) FU 0 0 = _ from l)]
theorem eh33_36 {S : St} {M : Int → Int} {e : Nat} {lo : Int} (h : WF M) (hG : GM S M) (hN : nb S 36 24 B30) (he : e < 30) (hlo : 0 ≤ lo) (hE : okE M lo e) : mX3_exprHas_33_36 S (e : Int) = some ((eO M (tb S 36) gdT e : Nat) : Int) := by
  have hM2 := h.2.2.1
  have hm := hE.1
  have hX := bX_nb h hN
  have g8 : S 8 (e : Int) = M (198 + (e : Int)) := hG.2.2.1 e he
  have in51 : ∀ (d i f : Nat) (q v1 : Int) (acc : Nat), i + d = 24 → d < f → okq M q → acc < 2 ^ 30 → mX3_exprHas_33_36_51 S v1 (e : Int) f (i : Int) q (acc : Int) = some ((acc ||| chO M (tb S 36) (fun _ => true) d q : Nat) : Int) := by
    intro d
    induction d with
    | zero =>
      intro i f q v1 acc hi hf hq ha
      obtain ⟨g, rfl⟩ : ∃ g, f = g + 1 := ⟨f - 1, by omega⟩
      rw [mX3_exprHas_33_36_51, gd_t (by omega), if_pos (by omega)]
      show some (acc : Int) = some ((acc ||| 0 : Nat) : Int)
      rw [Nat.or_zero]
    | succ d ih =>
      intro i f q v1 acc hi hf hq ha
      obtain ⟨g, rfl⟩ : ∃ g, f = g + 1 := ⟨f - 1, by omega⟩
      have hq0 := hq
      unfold okq at hq
      rw [mX3_exprHas_33_36_51, gd_t (by omega), if_neg (by omega), gd_t (by omega)]
      by_cases z : q = -1
      · rw [if_pos z]; subst z
        show some (acc : Int) = some ((acc ||| 0 : Nat) : Int)
        rw [Nat.or_zero]
      · obtain ⟨p, rfl⟩ := Int.eq_ofNat_of_zero_le (show 0 ≤ q by omega)
        have g6 : S 6 (p : Int) = M (96 + (p : Int)) := (hG.2.1 p (by omega)).2.1
        have v := (hN.at (show p < 24 by omega)).1
        have b := hX p (by omega)
        unfold chO
        rw [if_neg z, gd_t (by omega), nx_e, nx_e, g6, v, orr_nat (Nat.lt_trans ha (by decide)) (Nat.lt_trans b (by decide)), if_neg (show ¬ (p : Int) < 0 by omega), show (i : Int) + 1 = ((i + 1 : Nat) : Int) by omega, ih (i + 1) g (M (96 + (p : Int))) v1 (acc ||| tb S 36 p) (by omega) (by omega) (okq_next h hq0 (by omega)) (Nat.or_lt_two_pow ha b), Nat.or_assoc]
        rfl
  have key : ∀ k t f : Nat, (t : Int) + k = M (198 + (e : Int)) → k < f → mX3_exprHas_33_36_5 S (e : Int) f (t : Int) ((orN t (fun t => if offM M e t then 0 else chO M (tb S 36) (gdT t) 24 (fpM M e t)) : Nat) : Int) = some ((eO M (tb S 36) gdT e : Nat) : Int) := by
    intro k
    induction k with
    | zero =>
      intro t f ht hf
      obtain ⟨g, rfl⟩ : ∃ g, f = g + 1 := ⟨f - 1, by omega⟩
      rw [mX3_exprHas_33_36_5, gd_t (by omega), g8, gd_t (by omega), if_pos (by omega)]
      unfold eO
      rw [show (M (198 + (e : Int))).toNat = t by omega]
    | succ k ih =>
      intro t f ht hf
      obtain ⟨g, rfl⟩ : ∃ g, f = g + 1 := ⟨f - 1, by omega⟩
      obtain ⟨q1, q2, q3⟩ := e_start2 (t := t) hlo hG he hE (by omega)
      have acc : orN t (fun t => if offM M e t then 0 else chO M (tb S 36) (gdT t) 24 (fpM M e t)) < 2 ^ 30 := orN_lt fun t' ht' => by
        have q' := hE.2.1 t' (by omega)
        split
        · exact Nat.two_pow_pos 30
        · exact chO_lt h hX 24 _ (Or.inr ⟨by omega, q'.2.2⟩)
      have l := ih (t + 1) g (by omega) (by omega)
      rw [show ((t + 1 : Nat) : Int) = (t : Int) + 1 by omega] at l
      rw [mX3_exprHas_33_36_5, gd_t (by omega), g8, gd_t (by omega), if_neg (by omega), bd1_e (e_isOff2 h hG he (by omega))]
      cases ho : offM M e t with
      | true =>
        rw [show orN (t + 1) (fun t => if offM M e t then 0 else chO M (tb S 36) (gdT t) 24 (fpM M e t)) = orN t (fun t => if offM M e t then 0 else chO M (tb S 36) (gdT t) 24 (fpM M e t)) by rw [orN_s]; simp only [ho]; simp] at l
        have s := in51 24 0 FU (-1) (t : Int) _ (by omega) (by unfold FU; omega) (Or.inl rfl) acc
        rw [show chO M (tb S 36) (fun _ => true) 24 (-1) = 0 from rfl, Nat.or_zero] at s
        rw [bd1_e (show (gd (inI (if true = true then (1 : Int) else 0)) <| if (if true = true then (1 : Int) else 0) = 0 then _ else (some (-1 : Int))) = some (-1) by rw [gd_t (by decide), if_neg (by decide)]), bd1_e (show mX3_exprHas_33_36_51 S (t : Int) (e : Int) FU 0 (-1) _ = _ from s)]
        exact l
      | false =>
        rw [show orN (t + 1) (fun t => if offM M e t then 0 else chO M (tb S 36) (gdT t) 24 (fpM M e t)) = orN t (fun t => if offM M e t then 0 else chO M (tb S 36) (gdT t) 24 (fpM M e t)) ||| chO M (tb S 36) (gdT t) 24 (fpM M e t) by rw [orN_s]; simp only [ho]; simp] at l
        have s := in51 24 0 FU (fpM M e t) (t : Int) _ (by omega) (by unfold FU; omega) (Or.inr ⟨by omega, q3⟩) acc
        rw [Int.toNat_of_nonneg (by omega)] at q1
        rw [bd1_e (show (gd (inI (if false = true then (1 : Int) else 0)) <| if (if false = true then (1 : Int) else 0) = 0 then (bd1 (mX2_start_2 S (e : Int) (t : Int)) fun r_36 => some r_36) else (some (-1 : Int))) = some (fpM M e t) by rw [gd_t (by decide), if_pos (by decide), bd1_e q1]), bd1_e (show mX3_exprHas_33_36_51 S (t : Int) (e : Int) FU 0 (fpM M e t) _ = _ from s)]
        exact l
  have l := key (M (198 + (e : Int))).toNat 0 FU (by omega) (by unfold FU; omega)
  unfold mX3_exprHas_33_36
  rw [bd1_e (show mX3_exprHas_33_36_5 S (e : Int) FU 0 0 = _ from l)]
theorem el33 {S : St} {M : Int → Int} {e : Nat} {lo : Int} (h : WF M) (hG : GM S M) (hc : c0133 S) (hN : nb S 34 24 B30) (he : e < 30) (hlo : 0 ≤ lo) (hE : okE M lo e) : mX3_exprLeans_33 S (e : Int) = some ((eO M (tb S 34) (gdL M (cf33 S) e) e : Nat) : Int) := by
  have hM2 := h.2.2.1
  have hm := hE.1
  have hX := bX_nb h hN
  have g8 : S 8 (e : Int) = M (198 + (e : Int)) := hG.2.2.1 e he
  have in51 : ∀ (t : Nat), (t : Int) < M (198 + (e : Int)) → ∀ (d i f : Nat) (q v1 : Int) (acc : Nat), i + d = 24 → d < f → okq M q → acc < 2 ^ 30 → mX3_exprLeans_33_51 S (fpM M e t) v1 (e : Int) f (i : Int) q (acc : Int) = some ((acc ||| chO M (tb S 34) (gdL M (cf33 S) e t) d q : Nat) : Int) := by
    intro t ht d
    have qt := hE.2.1 t ht
    induction d with
    | zero =>
      intro i f q v1 acc hi hf hq ha
      obtain ⟨g, rfl⟩ : ∃ g, f = g + 1 := ⟨f - 1, by omega⟩
      rw [mX3_exprLeans_33_51, gd_t (by omega), if_pos (by omega)]
      show some (acc : Int) = some ((acc ||| 0 : Nat) : Int)
      rw [Nat.or_zero]
    | succ d ih =>
      intro i f q v1 acc hi hf hq ha
      obtain ⟨g, rfl⟩ : ∃ g, f = g + 1 := ⟨f - 1, by omega⟩
      have hq0 := hq
      unfold okq at hq
      rw [mX3_exprLeans_33_51, gd_t (by omega), if_neg (by omega), gd_t (by omega)]
      by_cases z : q = -1
      · rw [if_pos z]; subst z
        show some (acc : Int) = some ((acc ||| 0 : Nat) : Int)
        rw [Nat.or_zero]
      · obtain ⟨p, rfl⟩ := Int.eq_ofNat_of_zero_le (show 0 ≤ q by omega)
        have g6 : S 6 (p : Int) = M (96 + (p : Int)) := (hG.2.1 p (by omega)).2.1
        have v := (hN.at (show p < 24 by omega)).1
        have b := hX p (by omega)
        have ae := e_allEmpty33 (a := (p : Int)) (q := fpM M e t) h hG hc (by omega) (Or.inr ⟨by omega, qt.2.2⟩)
        have gv : gdL M (cf33 S) e t (p : Int) = tE M (cf33 S) (p : Int) 24 (fpM M e t) := rfl
        unfold chO
        rw [if_neg z, bd1_e ae, if_neg (show ¬ (p : Int) < 0 by omega), gv, show ((p : Int)).toNat = p from rfl]
        have go : ∀ y : Nat, y < 2 ^ 30 → (nx (orr (acc : Int) (y : Int)) fun x_37 => gd (0 ≤ (p : Int) ∧ (p : Int) < 24) <| nx (S 6 (p : Int)) fun x_39 => mX3_exprLeans_33_51 S (fpM M e t) v1 (e : Int) g ((i : Int) + 1) x_39 x_37) = some ((acc ||| (y ||| chO M (tb S 34) (gdL M (cf33 S) e t) d (M (96 + (p : Int)))) : Nat) : Int) := by
          intro y hy
          rw [nx_e, gd_t (by omega), nx_e, g6, orr_nat (Nat.lt_trans ha (by decide)) (Nat.lt_trans hy (by decide)), show (i : Int) + 1 = ((i + 1 : Nat) : Int) by omega, ih (i + 1) g (M (96 + (p : Int))) v1 (acc ||| y) (by omega) (by omega) (okq_next h hq0 (by omega)) (Nat.or_lt_two_pow ha hy), Nat.or_assoc]
        cases hb : tE M (cf33 S) (p : Int) 24 (fpM M e t) with
        | true =>
          rw [bd1_e (show (gd (inI (if true = true then (1 : Int) else 0)) <| if (if true = true then (1 : Int) else 0) = 0 then (some (0 : Int)) else (gd (0 ≤ (p : Int) ∧ (p : Int) < 24) <| some (S 34 (p : Int)))) = some ((tb S 34 p : Nat) : Int) by rw [gd_t (by decide), if_neg (by decide), gd_t (by omega), v])]
          exact go _ b
        | false =>
          rw [bd1_e (show (gd (inI (if false = true then (1 : Int) else 0)) <| if (if false = true then (1 : Int) else 0) = 0 then (some (0 : Int)) else (gd (0 ≤ (p : Int) ∧ (p : Int) < 24) <| some (S 34 (p : Int)))) = some ((0 : Nat) : Int) by rw [gd_t (by decide), if_pos (by decide)]; rfl)]
          exact go 0 (Nat.two_pow_pos 30)
  have key : ∀ k t f : Nat, (t : Int) + k = M (198 + (e : Int)) → k < f → mX3_exprLeans_33_4 S (e : Int) f (t : Int) ((orN t (fun t => if offM M e t then 0 else chO M (tb S 34) (gdL M (cf33 S) e t) 24 (fpM M e t)) : Nat) : Int) = some ((eO M (tb S 34) (gdL M (cf33 S) e) e : Nat) : Int) := by
    intro k
    induction k with
    | zero =>
      intro t f ht hf
      obtain ⟨g, rfl⟩ : ∃ g, f = g + 1 := ⟨f - 1, by omega⟩
      rw [mX3_exprLeans_33_4, gd_t (by omega), g8, gd_t (by omega), if_pos (by omega)]
      unfold eO
      rw [show (M (198 + (e : Int))).toNat = t by omega]
    | succ k ih =>
      intro t f ht hf
      obtain ⟨g, rfl⟩ : ∃ g, f = g + 1 := ⟨f - 1, by omega⟩
      obtain ⟨q1, q2, q3⟩ := e_start2 (t := t) hlo hG he hE (by omega)
      rw [Int.toNat_of_nonneg (by omega)] at q1
      have acc : orN t (fun t => if offM M e t then 0 else chO M (tb S 34) (gdL M (cf33 S) e t) 24 (fpM M e t)) < 2 ^ 30 := orN_lt fun t' ht' => by
        have q' := hE.2.1 t' (by omega)
        split
        · exact Nat.two_pow_pos 30
        · exact chO_lt h hX 24 _ (Or.inr ⟨by omega, q'.2.2⟩)
      have l := ih (t + 1) g (by omega) (by omega)
      rw [show ((t + 1 : Nat) : Int) = (t : Int) + 1 by omega] at l
      rw [mX3_exprLeans_33_4, gd_t (by omega), g8, gd_t (by omega), if_neg (by omega), bd1_e q1, bd1_e (e_isOff2 h hG he (by omega))]
      cases ho : offM M e t with
      | true =>
        rw [show orN (t + 1) (fun t => if offM M e t then 0 else chO M (tb S 34) (gdL M (cf33 S) e t) 24 (fpM M e t)) = orN t (fun t => if offM M e t then 0 else chO M (tb S 34) (gdL M (cf33 S) e t) 24 (fpM M e t)) by rw [orN_s]; simp only [ho]; simp] at l
        have s := in51 t (by omega) 24 0 FU (-1) (t : Int) _ (by omega) (by unfold FU; omega) (Or.inl rfl) acc
        rw [show chO M (tb S 34) (gdL M (cf33 S) e t) 24 (-1) = 0 from rfl, Nat.or_zero] at s
        rw [bd1_e (show (gd (inI (if true = true then (1 : Int) else 0)) <| if (if true = true then (1 : Int) else 0) = 0 then (some (fpM M e t)) else (some (-1 : Int))) = some (-1) by rw [gd_t (by decide), if_neg (by decide)]), bd1_e (show mX3_exprLeans_33_51 S (fpM M e t) (t : Int) (e : Int) FU 0 (-1) _ = _ from s)]
        exact l
      | false =>
        rw [show orN (t + 1) (fun t => if offM M e t then 0 else chO M (tb S 34) (gdL M (cf33 S) e t) 24 (fpM M e t)) = orN t (fun t => if offM M e t then 0 else chO M (tb S 34) (gdL M (cf33 S) e t) 24 (fpM M e t)) ||| chO M (tb S 34) (gdL M (cf33 S) e t) 24 (fpM M e t) by rw [orN_s]; simp only [ho]; simp] at l
        have s := in51 t (by omega) 24 0 FU (fpM M e t) (t : Int) _ (by omega) (by unfold FU; omega) (Or.inr ⟨by omega, q3⟩) acc
        rw [bd1_e (show (gd (inI (if false = true then (1 : Int) else 0)) <| if (if false = true then (1 : Int) else 0) = 0 then (some (fpM M e t)) else (some (-1 : Int))) = some (fpM M e t) by rw [gd_t (by decide), if_pos (by decide)]), bd1_e (show mX3_exprLeans_33_51 S (fpM M e t) (t : Int) (e : Int) FU 0 (fpM M e t) _ = _ from s)]
        exact l
  have l := key (M (198 + (e : Int))).toNat 0 FU (by omega) (by unfold FU; omega)
  unfold mX3_exprLeans_33
  rw [bd1_e (show mX3_exprLeans_33_4 S (e : Int) FU 0 0 = _ from l)]
theorem eh26_28 {S : St} {M : Int → Int} {e : Nat} {lo : Int} (h : WF M) (hG : GM (sh11 S) M) (hN : nb S 28 24 B30) (he : e < 30) (hlo : 0 ≤ lo) (hE : okE M lo e) : mX3_exprHas_26_28 S (e : Int) = some ((eO M (tb S 28) gdT e : Nat) : Int) := by
  have hM2 := h.2.2.1
  have hm := hE.1
  have hX := bX_nb h hN
  have g8 : S 19 (e : Int) = M (198 + (e : Int)) := hG.2.2.1 e he
  have in51 : ∀ (d i f : Nat) (q v1 : Int) (acc : Nat), i + d = 24 → d < f → okq M q → acc < 2 ^ 30 → mX3_exprHas_26_28_51 S v1 (e : Int) f (i : Int) q (acc : Int) = some ((acc ||| chO M (tb S 28) (fun _ => true) d q : Nat) : Int) := by
    intro d
    induction d with
    | zero =>
      intro i f q v1 acc hi hf hq ha
      obtain ⟨g, rfl⟩ : ∃ g, f = g + 1 := ⟨f - 1, by omega⟩
      rw [mX3_exprHas_26_28_51, gd_t (by omega), if_pos (by omega)]
      show some (acc : Int) = some ((acc ||| 0 : Nat) : Int)
      rw [Nat.or_zero]
    | succ d ih =>
      intro i f q v1 acc hi hf hq ha
      obtain ⟨g, rfl⟩ : ∃ g, f = g + 1 := ⟨f - 1, by omega⟩
      have hq0 := hq
      unfold okq at hq
      rw [mX3_exprHas_26_28_51, gd_t (by omega), if_neg (by omega), gd_t (by omega)]
      by_cases z : q = -1
      · rw [if_pos z]; subst z
        show some (acc : Int) = some ((acc ||| 0 : Nat) : Int)
        rw [Nat.or_zero]
      · obtain ⟨p, rfl⟩ := Int.eq_ofNat_of_zero_le (show 0 ≤ q by omega)
        have g6 : S 17 (p : Int) = M (96 + (p : Int)) := (hG.2.1 p (by omega)).2.1
        have v := (hN.at (show p < 24 by omega)).1
        have b := hX p (by omega)
        unfold chO
        rw [if_neg z, gd_t (by omega), nx_e, nx_e, g6, v, orr_nat (Nat.lt_trans ha (by decide)) (Nat.lt_trans b (by decide)), if_neg (show ¬ (p : Int) < 0 by omega), show (i : Int) + 1 = ((i + 1 : Nat) : Int) by omega, ih (i + 1) g (M (96 + (p : Int))) v1 (acc ||| tb S 28 p) (by omega) (by omega) (okq_next h hq0 (by omega)) (Nat.or_lt_two_pow ha b), Nat.or_assoc]
        rfl
  have key : ∀ k t f : Nat, (t : Int) + k = M (198 + (e : Int)) → k < f → mX3_exprHas_26_28_5 S (e : Int) f (t : Int) ((orN t (fun t => if offM M e t then 0 else chO M (tb S 28) (gdT t) 24 (fpM M e t)) : Nat) : Int) = some ((eO M (tb S 28) gdT e : Nat) : Int) := by
    intro k
    induction k with
    | zero =>
      intro t f ht hf
      obtain ⟨g, rfl⟩ : ∃ g, f = g + 1 := ⟨f - 1, by omega⟩
      rw [mX3_exprHas_26_28_5, gd_t (by omega), g8, gd_t (by omega), if_pos (by omega)]
      unfold eO
      rw [show (M (198 + (e : Int))).toNat = t by omega]
    | succ k ih =>
      intro t f ht hf
      obtain ⟨g, rfl⟩ : ∃ g, f = g + 1 := ⟨f - 1, by omega⟩
      obtain ⟨q1, q2, q3⟩ := e_start13 (t := t) hlo hG he hE (by omega)
      have acc : orN t (fun t => if offM M e t then 0 else chO M (tb S 28) (gdT t) 24 (fpM M e t)) < 2 ^ 30 := orN_lt fun t' ht' => by
        have q' := hE.2.1 t' (by omega)
        split
        · exact Nat.two_pow_pos 30
        · exact chO_lt h hX 24 _ (Or.inr ⟨by omega, q'.2.2⟩)
      have l := ih (t + 1) g (by omega) (by omega)
      rw [show ((t + 1 : Nat) : Int) = (t : Int) + 1 by omega] at l
      rw [mX3_exprHas_26_28_5, gd_t (by omega), g8, gd_t (by omega), if_neg (by omega), bd1_e (e_isOff13 h hG he (by omega))]
      cases ho : offM M e t with
      | true =>
        rw [show orN (t + 1) (fun t => if offM M e t then 0 else chO M (tb S 28) (gdT t) 24 (fpM M e t)) = orN t (fun t => if offM M e t then 0 else chO M (tb S 28) (gdT t) 24 (fpM M e t)) by rw [orN_s]; simp only [ho]; simp] at l
        have s := in51 24 0 FU (-1) (t : Int) _ (by omega) (by unfold FU; omega) (Or.inl rfl) acc
        rw [show chO M (tb S 28) (fun _ => true) 24 (-1) = 0 from rfl, Nat.or_zero] at s
        rw [bd1_e (show (gd (inI (if true = true then (1 : Int) else 0)) <| if (if true = true then (1 : Int) else 0) = 0 then _ else (some (-1 : Int))) = some (-1) by rw [gd_t (by decide), if_neg (by decide)]), bd1_e (show mX3_exprHas_26_28_51 S (t : Int) (e : Int) FU 0 (-1) _ = _ from s)]
        exact l
      | false =>
        rw [show orN (t + 1) (fun t => if offM M e t then 0 else chO M (tb S 28) (gdT t) 24 (fpM M e t)) = orN t (fun t => if offM M e t then 0 else chO M (tb S 28) (gdT t) 24 (fpM M e t)) ||| chO M (tb S 28) (gdT t) 24 (fpM M e t) by rw [orN_s]; simp only [ho]; simp] at l
        have s := in51 24 0 FU (fpM M e t) (t : Int) _ (by omega) (by unfold FU; omega) (Or.inr ⟨by omega, q3⟩) acc
        rw [Int.toNat_of_nonneg (by omega)] at q1
        rw [bd1_e (show (gd (inI (if false = true then (1 : Int) else 0)) <| if (if false = true then (1 : Int) else 0) = 0 then (bd1 (mX2_start_13 S (e : Int) (t : Int)) fun r_36 => some r_36) else (some (-1 : Int))) = some (fpM M e t) by rw [gd_t (by decide), if_pos (by decide), bd1_e q1]), bd1_e (show mX3_exprHas_26_28_51 S (t : Int) (e : Int) FU 0 (fpM M e t) _ = _ from s)]
        exact l
  have l := key (M (198 + (e : Int))).toNat 0 FU (by omega) (by unfold FU; omega)
  unfold mX3_exprHas_26_28
  rw [bd1_e (show mX3_exprHas_26_28_5 S (e : Int) FU 0 0 = _ from l)]
theorem eh26_29 {S : St} {M : Int → Int} {e : Nat} {lo : Int} (h : WF M) (hG : GM (sh11 S) M) (hN : nb S 29 24 B30) (he : e < 30) (hlo : 0 ≤ lo) (hE : okE M lo e) : mX3_exprHas_26_29 S (e : Int) = some ((eO M (tb S 29) gdT e : Nat) : Int) := by
  have hM2 := h.2.2.1
  have hm := hE.1
  have hX := bX_nb h hN
  have g8 : S 19 (e : Int) = M (198 + (e : Int)) := hG.2.2.1 e he
  have in51 : ∀ (d i f : Nat) (q v1 : Int) (acc : Nat), i + d = 24 → d < f → okq M q → acc < 2 ^ 30 → mX3_exprHas_26_29_51 S v1 (e : Int) f (i : Int) q (acc : Int) = some ((acc ||| chO M (tb S 29) (fun _ => true) d q : Nat) : Int) := by
    intro d
    induction d with
    | zero =>
      intro i f q v1 acc hi hf hq ha
      obtain ⟨g, rfl⟩ : ∃ g, f = g + 1 := ⟨f - 1, by omega⟩
      rw [mX3_exprHas_26_29_51, gd_t (by omega), if_pos (by omega)]
      show some (acc : Int) = some ((acc ||| 0 : Nat) : Int)
      rw [Nat.or_zero]
    | succ d ih =>
      intro i f q v1 acc hi hf hq ha
      obtain ⟨g, rfl⟩ : ∃ g, f = g + 1 := ⟨f - 1, by omega⟩
      have hq0 := hq
      unfold okq at hq
      rw [mX3_exprHas_26_29_51, gd_t (by omega), if_neg (by omega), gd_t (by omega)]
      by_cases z : q = -1
      · rw [if_pos z]; subst z
        show some (acc : Int) = some ((acc ||| 0 : Nat) : Int)
        rw [Nat.or_zero]
      · obtain ⟨p, rfl⟩ := Int.eq_ofNat_of_zero_le (show 0 ≤ q by omega)
        have g6 : S 17 (p : Int) = M (96 + (p : Int)) := (hG.2.1 p (by omega)).2.1
        have v := (hN.at (show p < 24 by omega)).1
        have b := hX p (by omega)
        unfold chO
        rw [if_neg z, gd_t (by omega), nx_e, nx_e, g6, v, orr_nat (Nat.lt_trans ha (by decide)) (Nat.lt_trans b (by decide)), if_neg (show ¬ (p : Int) < 0 by omega), show (i : Int) + 1 = ((i + 1 : Nat) : Int) by omega, ih (i + 1) g (M (96 + (p : Int))) v1 (acc ||| tb S 29 p) (by omega) (by omega) (okq_next h hq0 (by omega)) (Nat.or_lt_two_pow ha b), Nat.or_assoc]
        rfl
  have key : ∀ k t f : Nat, (t : Int) + k = M (198 + (e : Int)) → k < f → mX3_exprHas_26_29_5 S (e : Int) f (t : Int) ((orN t (fun t => if offM M e t then 0 else chO M (tb S 29) (gdT t) 24 (fpM M e t)) : Nat) : Int) = some ((eO M (tb S 29) gdT e : Nat) : Int) := by
    intro k
    induction k with
    | zero =>
      intro t f ht hf
      obtain ⟨g, rfl⟩ : ∃ g, f = g + 1 := ⟨f - 1, by omega⟩
      rw [mX3_exprHas_26_29_5, gd_t (by omega), g8, gd_t (by omega), if_pos (by omega)]
      unfold eO
      rw [show (M (198 + (e : Int))).toNat = t by omega]
    | succ k ih =>
      intro t f ht hf
      obtain ⟨g, rfl⟩ : ∃ g, f = g + 1 := ⟨f - 1, by omega⟩
      obtain ⟨q1, q2, q3⟩ := e_start13 (t := t) hlo hG he hE (by omega)
      have acc : orN t (fun t => if offM M e t then 0 else chO M (tb S 29) (gdT t) 24 (fpM M e t)) < 2 ^ 30 := orN_lt fun t' ht' => by
        have q' := hE.2.1 t' (by omega)
        split
        · exact Nat.two_pow_pos 30
        · exact chO_lt h hX 24 _ (Or.inr ⟨by omega, q'.2.2⟩)
      have l := ih (t + 1) g (by omega) (by omega)
      rw [show ((t + 1 : Nat) : Int) = (t : Int) + 1 by omega] at l
      rw [mX3_exprHas_26_29_5, gd_t (by omega), g8, gd_t (by omega), if_neg (by omega), bd1_e (e_isOff13 h hG he (by omega))]
      cases ho : offM M e t with
      | true =>
        rw [show orN (t + 1) (fun t => if offM M e t then 0 else chO M (tb S 29) (gdT t) 24 (fpM M e t)) = orN t (fun t => if offM M e t then 0 else chO M (tb S 29) (gdT t) 24 (fpM M e t)) by rw [orN_s]; simp only [ho]; simp] at l
        have s := in51 24 0 FU (-1) (t : Int) _ (by omega) (by unfold FU; omega) (Or.inl rfl) acc
        rw [show chO M (tb S 29) (fun _ => true) 24 (-1) = 0 from rfl, Nat.or_zero] at s
        rw [bd1_e (show (gd (inI (if true = true then (1 : Int) else 0)) <| if (if true = true then (1 : Int) else 0) = 0 then _ else (some (-1 : Int))) = some (-1) by rw [gd_t (by decide), if_neg (by decide)]), bd1_e (show mX3_exprHas_26_29_51 S (t : Int) (e : Int) FU 0 (-1) _ = _ from s)]
        exact l
      | false =>
        rw [show orN (t + 1) (fun t => if offM M e t then 0 else chO M (tb S 29) (gdT t) 24 (fpM M e t)) = orN t (fun t => if offM M e t then 0 else chO M (tb S 29) (gdT t) 24 (fpM M e t)) ||| chO M (tb S 29) (gdT t) 24 (fpM M e t) by rw [orN_s]; simp only [ho]; simp] at l
        have s := in51 24 0 FU (fpM M e t) (t : Int) _ (by omega) (by unfold FU; omega) (Or.inr ⟨by omega, q3⟩) acc
        rw [Int.toNat_of_nonneg (by omega)] at q1
        rw [bd1_e (show (gd (inI (if false = true then (1 : Int) else 0)) <| if (if false = true then (1 : Int) else 0) = 0 then (bd1 (mX2_start_13 S (e : Int) (t : Int)) fun r_36 => some r_36) else (some (-1 : Int))) = some (fpM M e t) by rw [gd_t (by decide), if_pos (by decide), bd1_e q1]), bd1_e (show mX3_exprHas_26_29_51 S (t : Int) (e : Int) FU 0 (fpM M e t) _ = _ from s)]
        exact l
  have l := key (M (198 + (e : Int))).toNat 0 FU (by omega) (by unfold FU; omega)
  unfold mX3_exprHas_26_29
  rw [bd1_e (show mX3_exprHas_26_29_5 S (e : Int) FU 0 0 = _ from l)]
theorem el26 {S : St} {M : Int → Int} {e : Nat} {lo : Int} (h : WF M) (hG : GM (sh11 S) M) (hc : c0126 S) (hN : nb S 27 24 B30) (he : e < 30) (hlo : 0 ≤ lo) (hE : okE M lo e) : mX3_exprLeans_26 S (e : Int) = some ((eO M (tb S 27) (gdL M (cf26 S) e) e : Nat) : Int) := by
  have hM2 := h.2.2.1
  have hm := hE.1
  have hX := bX_nb h hN
  have g8 : S 19 (e : Int) = M (198 + (e : Int)) := hG.2.2.1 e he
  have in51 : ∀ (t : Nat), (t : Int) < M (198 + (e : Int)) → ∀ (d i f : Nat) (q v1 : Int) (acc : Nat), i + d = 24 → d < f → okq M q → acc < 2 ^ 30 → mX3_exprLeans_26_51 S (fpM M e t) v1 (e : Int) f (i : Int) q (acc : Int) = some ((acc ||| chO M (tb S 27) (gdL M (cf26 S) e t) d q : Nat) : Int) := by
    intro t ht d
    have qt := hE.2.1 t ht
    induction d with
    | zero =>
      intro i f q v1 acc hi hf hq ha
      obtain ⟨g, rfl⟩ : ∃ g, f = g + 1 := ⟨f - 1, by omega⟩
      rw [mX3_exprLeans_26_51, gd_t (by omega), if_pos (by omega)]
      show some (acc : Int) = some ((acc ||| 0 : Nat) : Int)
      rw [Nat.or_zero]
    | succ d ih =>
      intro i f q v1 acc hi hf hq ha
      obtain ⟨g, rfl⟩ : ∃ g, f = g + 1 := ⟨f - 1, by omega⟩
      have hq0 := hq
      unfold okq at hq
      rw [mX3_exprLeans_26_51, gd_t (by omega), if_neg (by omega), gd_t (by omega)]
      by_cases z : q = -1
      · rw [if_pos z]; subst z
        show some (acc : Int) = some ((acc ||| 0 : Nat) : Int)
        rw [Nat.or_zero]
      · obtain ⟨p, rfl⟩ := Int.eq_ofNat_of_zero_le (show 0 ≤ q by omega)
        have g6 : S 17 (p : Int) = M (96 + (p : Int)) := (hG.2.1 p (by omega)).2.1
        have v := (hN.at (show p < 24 by omega)).1
        have b := hX p (by omega)
        have ae := e_allEmpty26 (a := (p : Int)) (q := fpM M e t) h hG hc (by omega) (Or.inr ⟨by omega, qt.2.2⟩)
        have gv : gdL M (cf26 S) e t (p : Int) = tE M (cf26 S) (p : Int) 24 (fpM M e t) := rfl
        unfold chO
        rw [if_neg z, bd1_e ae, if_neg (show ¬ (p : Int) < 0 by omega), gv, show ((p : Int)).toNat = p from rfl]
        have go : ∀ y : Nat, y < 2 ^ 30 → (nx (orr (acc : Int) (y : Int)) fun x_37 => gd (0 ≤ (p : Int) ∧ (p : Int) < 24) <| nx (S 17 (p : Int)) fun x_39 => mX3_exprLeans_26_51 S (fpM M e t) v1 (e : Int) g ((i : Int) + 1) x_39 x_37) = some ((acc ||| (y ||| chO M (tb S 27) (gdL M (cf26 S) e t) d (M (96 + (p : Int)))) : Nat) : Int) := by
          intro y hy
          rw [nx_e, gd_t (by omega), nx_e, g6, orr_nat (Nat.lt_trans ha (by decide)) (Nat.lt_trans hy (by decide)), show (i : Int) + 1 = ((i + 1 : Nat) : Int) by omega, ih (i + 1) g (M (96 + (p : Int))) v1 (acc ||| y) (by omega) (by omega) (okq_next h hq0 (by omega)) (Nat.or_lt_two_pow ha hy), Nat.or_assoc]
        cases hb : tE M (cf26 S) (p : Int) 24 (fpM M e t) with
        | true =>
          rw [bd1_e (show (gd (inI (if true = true then (1 : Int) else 0)) <| if (if true = true then (1 : Int) else 0) = 0 then (some (0 : Int)) else (gd (0 ≤ (p : Int) ∧ (p : Int) < 24) <| some (S 27 (p : Int)))) = some ((tb S 27 p : Nat) : Int) by rw [gd_t (by decide), if_neg (by decide), gd_t (by omega), v])]
          exact go _ b
        | false =>
          rw [bd1_e (show (gd (inI (if false = true then (1 : Int) else 0)) <| if (if false = true then (1 : Int) else 0) = 0 then (some (0 : Int)) else (gd (0 ≤ (p : Int) ∧ (p : Int) < 24) <| some (S 27 (p : Int)))) = some ((0 : Nat) : Int) by rw [gd_t (by decide), if_pos (by decide)]; rfl)]
          exact go 0 (Nat.two_pow_pos 30)
  have key : ∀ k t f : Nat, (t : Int) + k = M (198 + (e : Int)) → k < f → mX3_exprLeans_26_4 S (e : Int) f (t : Int) ((orN t (fun t => if offM M e t then 0 else chO M (tb S 27) (gdL M (cf26 S) e t) 24 (fpM M e t)) : Nat) : Int) = some ((eO M (tb S 27) (gdL M (cf26 S) e) e : Nat) : Int) := by
    intro k
    induction k with
    | zero =>
      intro t f ht hf
      obtain ⟨g, rfl⟩ : ∃ g, f = g + 1 := ⟨f - 1, by omega⟩
      rw [mX3_exprLeans_26_4, gd_t (by omega), g8, gd_t (by omega), if_pos (by omega)]
      unfold eO
      rw [show (M (198 + (e : Int))).toNat = t by omega]
    | succ k ih =>
      intro t f ht hf
      obtain ⟨g, rfl⟩ : ∃ g, f = g + 1 := ⟨f - 1, by omega⟩
      obtain ⟨q1, q2, q3⟩ := e_start13 (t := t) hlo hG he hE (by omega)
      rw [Int.toNat_of_nonneg (by omega)] at q1
      have acc : orN t (fun t => if offM M e t then 0 else chO M (tb S 27) (gdL M (cf26 S) e t) 24 (fpM M e t)) < 2 ^ 30 := orN_lt fun t' ht' => by
        have q' := hE.2.1 t' (by omega)
        split
        · exact Nat.two_pow_pos 30
        · exact chO_lt h hX 24 _ (Or.inr ⟨by omega, q'.2.2⟩)
      have l := ih (t + 1) g (by omega) (by omega)
      rw [show ((t + 1 : Nat) : Int) = (t : Int) + 1 by omega] at l
      rw [mX3_exprLeans_26_4, gd_t (by omega), g8, gd_t (by omega), if_neg (by omega), bd1_e q1, bd1_e (e_isOff13 h hG he (by omega))]
      cases ho : offM M e t with
      | true =>
        rw [show orN (t + 1) (fun t => if offM M e t then 0 else chO M (tb S 27) (gdL M (cf26 S) e t) 24 (fpM M e t)) = orN t (fun t => if offM M e t then 0 else chO M (tb S 27) (gdL M (cf26 S) e t) 24 (fpM M e t)) by rw [orN_s]; simp only [ho]; simp] at l
        have s := in51 t (by omega) 24 0 FU (-1) (t : Int) _ (by omega) (by unfold FU; omega) (Or.inl rfl) acc
        rw [show chO M (tb S 27) (gdL M (cf26 S) e t) 24 (-1) = 0 from rfl, Nat.or_zero] at s
        rw [bd1_e (show (gd (inI (if true = true then (1 : Int) else 0)) <| if (if true = true then (1 : Int) else 0) = 0 then (some (fpM M e t)) else (some (-1 : Int))) = some (-1) by rw [gd_t (by decide), if_neg (by decide)]), bd1_e (show mX3_exprLeans_26_51 S (fpM M e t) (t : Int) (e : Int) FU 0 (-1) _ = _ from s)]
        exact l
      | false =>
        rw [show orN (t + 1) (fun t => if offM M e t then 0 else chO M (tb S 27) (gdL M (cf26 S) e t) 24 (fpM M e t)) = orN t (fun t => if offM M e t then 0 else chO M (tb S 27) (gdL M (cf26 S) e t) 24 (fpM M e t)) ||| chO M (tb S 27) (gdL M (cf26 S) e t) 24 (fpM M e t) by rw [orN_s]; simp only [ho]; simp] at l
        have s := in51 t (by omega) 24 0 FU (fpM M e t) (t : Int) _ (by omega) (by unfold FU; omega) (Or.inr ⟨by omega, q3⟩) acc
        rw [bd1_e (show (gd (inI (if false = true then (1 : Int) else 0)) <| if (if false = true then (1 : Int) else 0) = 0 then (some (fpM M e t)) else (some (-1 : Int))) = some (fpM M e t) by rw [gd_t (by decide), if_pos (by decide)]), bd1_e (show mX3_exprLeans_26_51 S (fpM M e t) (t : Int) (e : Int) FU 0 (fpM M e t) _ = _ from s)]
        exact l
  have l := key (M (198 + (e : Int))).toNat 0 FU (by omega) (by unfold FU; omega)
  unfold mX3_exprLeans_26
  rw [bd1_e (show mX3_exprLeans_26_4 S (e : Int) FU 0 0 = _ from l)]
