/-! on what parts lean: the reference's recursion -/
theorem le46 {S : St} {rec : Nat → Int → St → Option Int} {X : Nat → Nat} {d : Nat → Nat} {L e t : Nat} {v4 lo : Int} (h : WF (S 84)) (h01 : e01 S) (hX : bX (S 84) X) (hd : DP (S 84) d) (hlo : 0 ≤ lo) (hE : okE (S 84) lo e) (ht : (t : Int) < S 84 (198 + (e : Int))) (hr : ∀ p : Nat, (p : Int) < S 84 2 → d p = L → rec 0 (p : Int) S = some ((X p : Nat) : Int)) : ∀ (n f : Nat) (q : Int) (acc : Nat), okq (S 84) q → 24 - q ≤ n ∨ q < 0 → n < f → acc < 2 ^ 30 → (0 ≤ q → d q.toNat = L) → mX12_leansOf_46 rec S (tlM (S 84) e t) v4 (e : Int) f q (acc : Int) = some ((acc ||| chO (S 84) X (gdL (S 84) (eb S) e t) n q : Nat) : Int) := by
  have hM2 := h.2.2.1
  intro n
  induction n with
  | zero =>
    intro f q acc hq hn hf ha hl
    obtain ⟨g, rfl⟩ : ∃ g, f = g + 1 := ⟨f - 1, by omega⟩
    unfold okq at hq
    rw [mX12_leansOf_46, gd_t (by omega), if_pos (by omega)]
    show some (acc : Int) = some ((acc ||| 0 : Nat) : Int)
    rw [Nat.or_zero]
  | succ n ih =>
    intro f q acc hq hn hf ha hl
    obtain ⟨g, rfl⟩ : ∃ g, f = g + 1 := ⟨f - 1, by omega⟩
    have hq0 := hq
    unfold okq at hq
    rw [mX12_leansOf_46, gd_t (by omega)]
    unfold chO
    by_cases z : q < 0
    · rw [if_pos z, if_pos z, Nat.or_zero]
    · obtain ⟨p, rfl⟩ := Int.eq_ofNat_of_zero_le (show 0 ≤ q by omega)
      have o := (h.2.2.2.1 p (by omega)).2.1
      have lv := hl (by omega)
      rw [show ((p : Int)).toNat = p from rfl] at lv ⊢
      have b := hX p (by omega)
      have tm := e_isEmptyTerm (a := (p : Int)) (t := t) h h01 (by omega) hlo hE ht
      have gv : gdL (S 84) (eb S) e t (p : Int) = tE (S 84) (eb S) (p : Int) 24 (fpM (S 84) e t) := rfl
      rw [if_neg z, if_neg z, bd1_e tm, gv]
      have go : ∀ y : Nat, y < 2 ^ 30 → (nx (orr (acc : Int) (y : Int)) fun x_36 => gd (0 ≤ (96 + (p : Int)) ∧ (96 + (p : Int)) < 228) <| nx (S 84 (96 + (p : Int))) fun x_38 => mX12_leansOf_46 rec S (tlM (S 84) e t) v4 (e : Int) g x_38 x_36) = some ((acc ||| (y ||| chO (S 84) X (gdL (S 84) (eb S) e t) n (S 84 (96 + (p : Int)))) : Nat) : Int) := by
        intro y hy
        rw [nx_e, orr_nat (Nat.lt_trans ha (by decide)) (Nat.lt_trans hy (by decide)), gd_t (by omega), nx_e, ih g (S 84 (96 + (p : Int))) (acc ||| y) (okq_next h hq0 (by omega)) (by omega) (by omega) (Nat.or_lt_two_pow ha hy) (fun x => by rw [(hd.2 p (by omega)).2.2.2 x]; exact lv), Nat.or_assoc]
      cases hb : tE (S 84) (eb S) (p : Int) 24 (fpM (S 84) e t) with
      | true =>
        rw [bd1_e (show (gd (inI (if true = true then (1 : Int) else 0)) <| if (if true = true then (1 : Int) else 0) = 0 then (some (0 : Int)) else (bd1 (rec 0 (p : Int) S) fun r_42 => some r_42)) = some ((X p : Nat) : Int) by rw [gd_t (by decide), if_neg (by decide), bd1_e (hr p (by omega) lv)])]
        exact go (X p) b
      | false =>
        rw [bd1_e (show (gd (inI (if false = true then (1 : Int) else 0)) <| if (if false = true then (1 : Int) else 0) = 0 then (some (0 : Int)) else (bd1 (rec 0 (p : Int) S) fun r_42 => some r_42)) = some ((0 : Nat) : Int) by rw [gd_t (by decide), if_pos (by decide)]; rfl)]
        exact go 0 (Nat.two_pow_pos 30)
theorem le16 {S : St} {rec : Nat → Int → St → Option Int} {X : Nat → Nat} {d : Nat → Nat} {L e : Nat} {lo : Int} (h : WF (S 84)) (h01 : e01 S) (hX : bX (S 84) X) (hd : DP (S 84) d) (he : e < 30) (hlo : 0 ≤ lo) (hE : okE (S 84) lo e) (hl : ∀ t : Nat, (t : Int) < S 84 (198 + (e : Int)) → d (fpM (S 84) e t).toNat = L) (hr : ∀ p : Nat, (p : Int) < S 84 2 → d p = L → rec 0 (p : Int) S = some ((X p : Nat) : Int)) : bX12_leansOf rec S (e : Int) = some ((eO (S 84) X (gdL (S 84) (eb S) e) e : Nat) : Int) := by
  have hm := hE.1
  have key : ∀ k t f : Nat, (t : Int) + k = S 84 (198 + (e : Int)) → k < f → mX12_leansOf_16 rec S (e : Int) f (tlM (S 84) e t) (t : Int) ((orN t (fun t => if offM (S 84) e t then 0 else chO (S 84) X (gdL (S 84) (eb S) e t) 24 (fpM (S 84) e t)) : Nat) : Int) = some ((eO (S 84) X (gdL (S 84) (eb S) e) e : Nat) : Int) := by
    intro k
    induction k with
    | zero =>
      intro t f ht hf
      obtain ⟨g, rfl⟩ : ∃ g, f = g + 1 := ⟨f - 1, by omega⟩
      have e1 : t = (S 84 (198 + (e : Int))).toNat := by omega
      have e2 := hE.2.2
      rw [← e1] at e2
      rw [mX12_leansOf_16, e2, gd_t (by decide), if_pos (by decide)]
      unfold eO
      rw [← e1]
    | succ k ih =>
      intro t f ht hf
      obtain ⟨g, rfl⟩ : ∃ g, f = g + 1 := ⟨f - 1, by omega⟩
      have q := hE.2.1 t (by omega)
      have acc : orN t (fun t => if offM (S 84) e t then 0 else chO (S 84) X (gdL (S 84) (eb S) e t) 24 (fpM (S 84) e t)) < 2 ^ 30 := orN_lt fun t' ht' => by
        have q' := hE.2.1 t' (by omega)
        split
        · exact Nat.two_pow_pos 30
        · exact chO_lt h hX 24 _ (Or.inr ⟨by omega, q'.2.2⟩)
      have l := ih (t + 1) g (by omega) (by omega)
      rw [show ((t + 1 : Nat) : Int) = (t : Int) + 1 by omega] at l
      rw [mX12_leansOf_16, gd_t (by omega), if_neg (by omega), bd1_e (e_isOff h he (by omega))]
      cases ho : offM (S 84) e t with
      | true =>
        rw [show orN (t + 1) (fun t => if offM (S 84) e t then 0 else chO (S 84) X (gdL (S 84) (eb S) e t) 24 (fpM (S 84) e t)) = orN t (fun t => if offM (S 84) e t then 0 else chO (S 84) X (gdL (S 84) (eb S) e t) 24 (fpM (S 84) e t)) by rw [orN_s]; simp only [ho]; simp] at l
        have s := le46 (v4 := (t : Int)) (t := t) (L := L) h h01 hX hd hlo hE (by omega) hr 24 FU (-1) _ (Or.inl rfl) (Or.inr (by decide)) (by unfold FU; omega) acc (fun x => by omega)
        rw [show chO (S 84) X (gdL (S 84) (eb S) e t) 24 (-1) = 0 from rfl, Nat.or_zero] at s
        rw [bd1_e (show (gd (inI (if true = true then (1 : Int) else 0)) <| if (if true = true then (1 : Int) else 0) = 0 then _ else (some (-1 : Int))) = some (-1) by rw [gd_t (by decide), if_neg (by decide)]), bd1_e s, gd_t (by omega), nx_e]
        exact l
      | false =>
        rw [show orN (t + 1) (fun t => if offM (S 84) e t then 0 else chO (S 84) X (gdL (S 84) (eb S) e t) 24 (fpM (S 84) e t)) = orN t (fun t => if offM (S 84) e t then 0 else chO (S 84) X (gdL (S 84) (eb S) e t) 24 (fpM (S 84) e t)) ||| chO (S 84) X (gdL (S 84) (eb S) e t) 24 (fpM (S 84) e t) by rw [orN_s]; simp only [ho]; simp] at l
        have s := le46 (v4 := (t : Int)) (t := t) (L := L) h h01 hX hd hlo hE (by omega) hr 24 FU (fpM (S 84) e t) _ (Or.inr ⟨by omega, q.2.2⟩) (by omega) (by unfold FU; omega) acc (fun x => hl t (by omega))
        rw [bd1_e (show (gd (inI (if false = true then (1 : Int) else 0)) <| if (if false = true then (1 : Int) else 0) = 0 then (gd (0 ≤ (120 + tlM (S 84) e t) ∧ (120 + tlM (S 84) e t) < 228) <| some (S 84 (120 + tlM (S 84) e t))) else (some (-1 : Int))) = some (fpM (S 84) e t) by rw [gd_t (by decide), if_pos (by decide), gd_t (by omega)]; rfl), bd1_e s, gd_t (by omega), nx_e]
        exact l
  have l := key (S 84 (198 + (e : Int))).toNat 0 FU (by omega) (by unfold FU; omega)
  unfold bX12_leansOf
  rw [gd_t (by omega), nx_e, bd1_e (show mX12_leansOf_16 rec S (e : Int) FU (S 84 (168 + (e : Int))) 0 0 = _ from l)]
theorem e_leansIn {S : St} {X : Nat → Nat} {d : Nat → Nat} (h : WF (S 84)) (h01 : e01 S) (hX : bX (S 84) X) (hq : leaEq (S 84) (eb S) X) (hd : DP (S 84) d) : ∀ (k p f : Nat), (p : Int) < S 84 2 → 6 - d p ≤ k → 2 * k + 1 ≤ f → RX12_leansIn f 0 (p : Int) S = some ((X p : Nat) : Int) := by
  have hM2 := h.2.2.1
  have hM0 := h.1
  intro k
  induction k using Nat.strongRecOn with
  | ind k ih =>
    intro p f hp hk hf
    obtain ⟨g, rfl⟩ : ∃ g, f = g + 1 := ⟨f - 1, by omega⟩
    show (if (0 : Nat) = 0 then bX12_leansIn (RX12_leansIn g) S (p : Int) else _) = _
    rw [if_pos rfl]
    unfold bX12_leansIn
    have down : ∀ (n f p : Nat), (p : Int) < S 84 2 → 24 - p ≤ n → n < f → (∃ y : Nat, X p = 0 ∧ mX12_leansIn_2 (RX12_leansIn g) S f (p : Int) = some (0, (y : Int))) ∨ (∃ y : Nat, (y : Int) < S 84 2 ∧ d p ≤ d y ∧ X y = X p ∧ ¬ (3 ≤ S 84 (24 + (y : Int)) ∧ S 84 (24 + (y : Int)) ≤ 6) ∧ mX12_leansIn_2 (RX12_leansIn g) S f (p : Int) = some (1, (y : Int))) := by
      intro n
      induction n with
      | zero => intro f p a b; omega
      | succ n jh =>
        intro f p a b c
        obtain ⟨f', rfl⟩ : ∃ f', f = f' + 1 := ⟨f - 1, by omega⟩
        obtain ⟨h1, h2, h3, h4, h5, h6⟩ := h.2.2.2.1 p a
        by_cases sq : 3 ≤ S 84 (24 + (p : Int)) ∧ S 84 (24 + (p : Int)) ≤ 6
        · have h6' := h6 sq
          by_cases w : S 84 (48 + (p : Int)) ≤ 1
          · have xe : X (S 84 (72 + (p : Int))).toNat = X p := by rw [hq p a, if_neg (by omega), if_pos sq, if_pos w]
            have un : mX12_leansIn_2 (RX12_leansIn g) S (f' + 1) (p : Int) = mX12_leansIn_2 (RX12_leansIn g) S f' (((S 84 (72 + (p : Int))).toNat : Nat) : Int) := by
              rw [mX12_leansIn_2, gd_t (by omega), gd_t (by omega), e_in (by omega) (by decide) (by decide), if_pos sq]
              rw [bd1_e rfl, gd_t (by decide), if_neg (by decide), gd_t (by omega), gd_t (by omega), if_pos w, gd_t (by omega), nx_e]
              rw [show S 84 (72 + (p : Int)) = (((S 84 (72 + (p : Int))).toNat : Nat) : Int) by omega]
              rw [Int.toNat_natCast]
            rw [un]
            rcases jh f' (S 84 (72 + (p : Int))).toNat (by omega) (by omega) (by omega) with ⟨y, y1, y2⟩ | ⟨y, y1, y2, y3, y4, y5⟩
            · exact Or.inl ⟨y, by rw [← xe]; exact y1, y2⟩
            · refine Or.inr ⟨y, y1, ?_, by rw [y3, xe], y4, y5⟩
              have := ((hd.2 p a).2.2.1 sq).2; omega
          · refine Or.inl ⟨p, by rw [hq p a, if_neg (by omega), if_pos sq, if_neg w], ?_⟩
            rw [mX12_leansIn_2, gd_t (by omega), gd_t (by omega), e_in (by omega) (by decide) (by decide), if_pos sq]
            rw [bd1_e rfl, gd_t (by decide), if_neg (by decide), gd_t (by omega), gd_t (by omega), if_neg w]
        · refine Or.inr ⟨p, a, Nat.le_refl _, rfl, sq, ?_⟩
          rw [mX12_leansIn_2, gd_t (by omega), gd_t (by omega), e_in (by omega) (by decide) (by decide), if_neg sq]
          rw [bd1_e rfl, gd_t (by decide), if_pos rfl]
    rcases down 24 FU p hp (by omega) (by unfold FU; omega) with ⟨y, y1, y2⟩ | ⟨y, y1, y2, y3, y4, y5⟩
    · rw [bd2_e y2, if_pos rfl, y1]; rfl
    obtain ⟨h1, h2, h3, h4, h5, h6⟩ := h.2.2.2.1 y y1
    rw [bd2_e y5, if_neg (by decide), gd_t (by omega), gd_t (by omega), ← y3, hq y y1]
    by_cases s7 : S 84 (24 + (y : Int)) = 7
    · obtain ⟨q1, q2, q3⟩ := h5 s7
      obtain ⟨z1, z2⟩ := (hd.2 y y1).2.1 s7
      obtain ⟨g2, rfl⟩ : ∃ g2, g = g2 + 1 := ⟨g - 1, by omega⟩
      have : RX12_leansIn (g2 + 1) 1 ((6 + y : Nat) : Int) S = some ((eO (S 84) X (gdL (S 84) (eb S) (6 + y)) (6 + y) : Nat) : Int) := by
        show (if (1 : Nat) = 0 then _ else (if (1 : Nat) = 1 then bX12_leansOf (RX12_leansIn g2) S ((6 + y : Nat) : Int) else _)) = _
        rw [if_neg (by decide), if_pos rfl]
        exact le16 (L := d y + 1) h h01 hX hd (by omega) (by omega) q3 z2 (fun p' a b => ih (k - 1) (by omega) p' g2 a (by omega) (by omega))
      rw [if_neg (by omega), if_pos s7, if_pos s7, gd_t (by omega), q1, show (6 : Int) + (y : Int) = ((6 + y : Nat) : Int) by omega, bd1_e this]
    · rw [if_neg s7, if_neg s7, if_neg y4]
      by_cases e : S 84 (24 + (y : Int)) = 2
      · have b := h4 e
        rw [if_pos e, if_pos e, gd_t (by omega), show S 84 (48 + (y : Int)) = (((S 84 (48 + (y : Int))).toNat : Nat) : Int) by omega, shl1 (by omega), Int.toNat_natCast]
      · rw [if_neg e, if_neg e]; rfl
theorem e_leansOf {S : St} {X : Nat → Nat} {d : Nat → Nat} {e : Nat} (h : WF (S 84)) (h01 : e01 S) (hX : bX (S 84) X) (hq : leaEq (S 84) (eb S) X) (hd : DP (S 84) d) (he : (e : Int) < S 84 0) : mX12_leansOf S (e : Int) = some ((eO (S 84) X (gdL (S 84) (eb S) e) e : Nat) : Int) := by
  have hM0 := h.1
  unfold mX12_leansOf
  show (if (1 : Nat) = 0 then _ else (if (1 : Nat) = 1 then bX12_leansOf (RX12_leansIn 23) S (e : Int) else _)) = _
  rw [if_neg (by decide), if_pos rfl]
  exact le16 (L := 0) h h01 hX hd (by omega) (by omega) (h.2.2.2.2.1 e he) (fun t ht => hd.1 e t he ht) (fun p' a b => e_leansIn h h01 hX hq hd 6 p' 23 a (by omega) (by omega))
