/-! kinds reached: bounds, congruences; the reference's loops -/
theorem orr_0 {m : Nat} (h : m < 2147483648) : orr (m : Int) 0 = (m : Int) := by
  have := orr_nat (n := 0) h (by decide)
  rw [Nat.or_zero] at this
  exact this
theorem chO_ltB {M : Int → Int} {X : Nat → Nat} {g : Int → Bool} {lo B : Nat} (h : WF M) (hX : ∀ p : Nat, lo ≤ p → (p : Int) < M 2 → X p < 2 ^ B) : ∀ f q, okq M q → (0 ≤ q → (lo : Int) ≤ q) → chO M X g f q < 2 ^ B := by
  have hM2 := h.2.2.1
  intro f
  induction f with
  | zero => intro q _ _; exact Nat.two_pow_pos B
  | succ f ih =>
    intro q hq hl
    have hq0 := hq
    unfold okq at hq
    unfold chO
    by_cases z : q < 0
    · rw [if_pos z]; exact Nat.two_pow_pos B
    · have o := (h.2.2.2.1 q.toNat (by omega)).2.1
      rw [show ((q.toNat : Nat) : Int) = q by omega] at o
      rw [if_neg z]
      refine Nat.or_lt_two_pow ?_ (ih _ (okq_next h hq0 (by omega)) (by omega))
      split
      · exact hX _ (by omega) (by omega)
      · exact Nat.two_pow_pos B
theorem eO_ltB {M : Int → Int} {X : Nat → Nat} {g : Nat → Int → Bool} {e lo B : Nat} (h : WF M) (hE : okE M (lo : Int) e) (hX : ∀ p : Nat, lo ≤ p → (p : Int) < M 2 → X p < 2 ^ B) : eO M X g e < 2 ^ B := by
  refine orN_lt fun t ht => ?_
  have q := hE.2.1 t (by omega)
  split
  · exact Nat.two_pow_pos B
  · exact chO_ltB h hX 24 _ (Or.inr ⟨by omega, q.2.2⟩) (fun _ => q.2.1)
theorem has_lt {M : Int → Int} {X : Nat → Nat} (h : WF M) (hq : hasEq M 2 X) : ∀ p : Nat, (p : Int) < M 2 → X p < 2 ^ (M 0).toNat := by
  have hM2 := h.2.2.1
  have hM0 := h.1
  have key : ∀ n p : Nat, 24 - p ≤ n → (p : Int) < M 2 → X p < 2 ^ (M 0).toNat := by
    intro n
    induction n with
    | zero => intro p a b; omega
    | succ n ih =>
      intro p a b
      obtain ⟨h1, h2, h3, h4, h5, h6⟩ := h.2.2.2.1 p b
      rw [hq p b]
      by_cases s7 : M (24 + (p : Int)) = 7
      · rw [if_pos s7]
        have q3 := (h5 s7).2.2
        rw [show (p : Int) + 1 = ((p + 1 : Nat) : Int) by omega] at q3
        exact eO_ltB h q3 (fun p' a' b' => ih p' (by omega) b')
      rw [if_neg s7]
      by_cases sq : 3 ≤ M (24 + (p : Int)) ∧ M (24 + (p : Int)) ≤ 6
      · rw [if_pos sq]
        have := h6 sq
        exact ih _ (by omega) (by omega)
      rw [if_neg sq]
      by_cases s2 : M (24 + (p : Int)) = 2
      · rw [if_pos s2]
        have := h4 s2
        exact Nat.pow_lt_pow_right (by decide) (by omega)
      · rw [if_neg s2]; exact Nat.two_pow_pos _
  exact fun p hp => key 24 p (by omega) hp
theorem lea_lt {M : Int → Int} {F : Nat → Bool} {X : Nat → Nat} (h : WF M) (hq : leaEq M F X) : ∀ p : Nat, (p : Int) < M 2 → X p < 2 ^ (M 0).toNat := by
  have hM2 := h.2.2.1
  have hM0 := h.1
  have key : ∀ n p : Nat, 24 - p ≤ n → (p : Int) < M 2 → X p < 2 ^ (M 0).toNat := by
    intro n
    induction n with
    | zero => intro p a b; omega
    | succ n ih =>
      intro p a b
      obtain ⟨h1, h2, h3, h4, h5, h6⟩ := h.2.2.2.1 p b
      rw [hq p b]
      by_cases s7 : M (24 + (p : Int)) = 7
      · rw [if_pos s7]
        have q3 := (h5 s7).2.2
        rw [show (p : Int) + 1 = ((p + 1 : Nat) : Int) by omega] at q3
        exact eO_ltB h q3 (fun p' a' b' => ih p' (by omega) b')
      rw [if_neg s7]
      by_cases sq : 3 ≤ M (24 + (p : Int)) ∧ M (24 + (p : Int)) ≤ 6
      · rw [if_pos sq]
        have := h6 sq
        split
        · exact ih _ (by omega) (by omega)
        · exact Nat.two_pow_pos _
      rw [if_neg sq]
      by_cases s2 : M (24 + (p : Int)) = 2
      · rw [if_pos s2]
        have := h4 s2
        exact Nat.pow_lt_pow_right (by decide) (by omega)
      · rw [if_neg s2]; exact Nat.two_pow_pos _
  exact fun p hp => key 24 p (by omega) hp
theorem hasD {M : Int → Int} {X : Nat → Nat} (h : WF M) (hq : hasEq M 2 X) {e : Nat} (he : (e : Int) < M 0) : eO M X gdT e < 2 ^ (M 0).toNat := eO_ltB (lo := 0) h (h.2.2.2.2.1 e he) (fun p _ hp => has_lt h hq p hp)
theorem leaD {M : Int → Int} {F : Nat → Bool} {X : Nat → Nat} (h : WF M) (hq : leaEq M F X) {e : Nat} (he : (e : Int) < M 0) : eO M X (gdL M F e) e < 2 ^ (M 0).toNat := eO_ltB (lo := 0) h (h.2.2.2.2.1 e he) (fun p _ hp => lea_lt h hq p hp)
theorem tE_cg {M : Int → Int} {F G : Nat → Bool} (h : WF M) (hl : ∀ x, vx M x → F x = G x) {a : Int} : ∀ f q, okq M q → tE M F a f q = tE M G a f q := by
  intro f q hq
  have u := tE_mono (a := a) h (fun x hx hF => by rw [← hl x hx]; exact hF : leF M F G) f q hq
  have v := tE_mono (a := a) h (fun x hx hF => by rw [hl x hx]; exact hF : leF M G F) f q hq
  cases hF : tE M F a f q <;> cases hG : tE M G a f q
  · rfl
  · rw [hG] at v; rw [v rfl] at hF; cases hF
  · rw [hF] at u; rw [u rfl] at hG; cases hG
  · rfl
theorem eO_cgt {M : Int → Int} {X : Nat → Nat} {g g' : Nat → Int → Bool} {e : Nat} {lo : Int} (h : WF M) (hlo : 0 ≤ lo) (hE : okE M lo e) (hg : ∀ (t : Nat) q, (t : Int) < M (198 + (e : Int)) → g t q = g' t q) : eO M X g e = eO M X g' e := by
  refine orN_congr fun t ht => ?_
  have q := hE.2.1 t (by omega)
  cases offM M e t with
  | true => rfl
  | false =>
    simp only [Bool.false_eq_true, if_false]
    exact chO_cg (lo := 0) h (fun _ _ _ => rfl) (fun r => hg t r (by omega)) 24 _ (Or.inr ⟨by omega, q.2.2⟩) (fun x => x)
theorem leO_cg {M : Int → Int} {F G : Nat → Bool} {X : Nat → Nat} {e : Nat} {lo : Int} (h : WF M) (hl : ∀ x, vx M x → F x = G x) (hlo : 0 ≤ lo) (hE : okE M lo e) : eO M X (gdL M F e) e = eO M X (gdL M G e) e :=
  eO_cgt h hlo hE (fun t q ht => tE_cg h hl 24 _ (Or.inr ⟨by have := (hE.2.1 t ht).2.1; omega, (hE.2.1 t ht).2.2⟩))
theorem leaEq_cg {M : Int → Int} {F G : Nat → Bool} {X : Nat → Nat} (h : WF M) (hl : ∀ x, vx M x → F x = G x) (hq : leaEq M F X) : leaEq M G X := by
  intro p hp
  have := hq p hp
  by_cases s7 : M (24 + (p : Int)) = 7
  · rw [if_pos s7] at this ⊢
    rw [this]
    exact leO_cg h hl (by omega) ((h.2.2.2.1 p hp).2.2.2.2.1 s7).2.2
  · rw [if_neg s7] at this ⊢
    exact this
theorem clI_s {D : Nat → Nat} {n a : Nat} : clI D (n + 1) a = if (clI D n a).testBit n then clI D n a ||| D n else clI D n a := rfl
theorem clI_cg {D D' : Nat → Nat} : ∀ n a, (∀ j, j < n → D j = D' j) → clI D n a = clI D' n a := by
  intro n
  induction n with
  | zero => intro a _; rfl
  | succ n ih =>
    intro a h
    unfold clI
    rw [ih a (fun j hj => h j (by omega)), h n (by omega)]
theorem clo_cg {D D' : Nat → Nat} {n u : Nat} (h : ∀ j, j < n → D j = D' j) (hu : u < n) : clo D n u = clo D' n u := by
  have key : ∀ r, clR D n r (D u) = clR D' n r (D' u) := by
    intro r
    induction r with
    | zero => exact h u hu
    | succ r ih =>
      show clI D n (clR D n r (D u)) = clI D' n (clR D' n r (D' u))
      rw [ih, clI_cg n _ h]
  exact key 6
/-- the class's closure over six kinds is that over the kinds there are -/
theorem clo_six {D D' : Nat → Nat} {n u : Nat} (hn : n ≤ 6) (h : ∀ j, j < n → D j = D' j) (hD : ∀ j, j < n → D' j < 2 ^ n) (hu : u < n) : clo D 6 u = clo D' n u := by
  rw [clo_6 hn (fun j hj => by rw [h j hj]; exact hD j hj) hu, clo_cg h hu]
theorem e_reach20 {S : St} {X : Nat → Nat} {d : Nat → Nat} {k : Nat} (h : WF (S 84))  (hX : bX (S 84) X) (hq : hasEq (S 84) 2 X) (hd : DP (S 84) d) (hk : (k : Int) < S 84 0) : mX12_reaches_20 S FU 0 (((fun e => eO (S 84) X gdT e) k : Nat) : Int) = some ((clo ((fun e => eO (S 84) X gdT e)) (S 84 0).toNat k : Nat) : Int) := by
  have hM0 := h.1
  obtain ⟨n, hn⟩ : ∃ n : Nat, S 84 0 = (n : Int) := ⟨(S 84 0).toNat, by omega⟩
  have hD : ∀ j, j < n → ((fun e => eO (S 84) X gdT e)) j < 2 ^ 30 := fun j hj => eO_lt h hX (Int.le_refl 0) (h.2.2.2.2.1 j (by omega))
  have inn : ∀ (d' i f a : Nat) (v : Int), i + d' = n → d' < f → a < 2 ^ 30 → mX12_reaches_29 S v f (i : Int) ((clI ((fun e => eO (S 84) X gdT e)) i a : Nat) : Int) = some ((clI ((fun e => eO (S 84) X gdT e)) n a : Nat) : Int) := by
    intro d'
    induction d' with
    | zero =>
      intro i f a v hi hf ha
      obtain ⟨g, rfl⟩ : ∃ g, f = g + 1 := ⟨f - 1, by omega⟩
      rw [mX12_reaches_29, gd_t (by omega), if_pos (by omega), show i = n by omega]
    | succ d' ih =>
      intro i f a v hi hf ha
      obtain ⟨g, rfl⟩ : ∃ g, f = g + 1 := ⟨f - 1, by omega⟩
      have b := clI_lt i a (fun j hj => hD j (by omega)) ha
      have l := ih (i + 1) g a v (by omega) (by omega) ha
      rw [show ((i + 1 : Nat) : Int) = (i : Int) + 1 by omega] at l
      have st := e_stands h (Or.inr rfl) hX hq hd (e := i) (by omega)
      rw [mX12_reaches_29, gd_t (by omega), if_neg (by omega), bd1_e (e_has (by omega) (by omega) (by omega) (by omega)), bt_nat]
      rw [clI_s] at l
      cases hb : (clI ((fun e => eO (S 84) X gdT e)) i a).testBit i with
      | true =>
        rw [hb, if_pos rfl] at l
        rw [if_pos rfl, gd_t (by decide), if_neg (by decide), bd1_e st, nx_e, orr_nat (Nat.lt_trans b (by decide)) (Nat.lt_trans (hD i (by omega)) (by decide))]
        exact l
      | false =>
        rw [hb, if_neg (by decide)] at l
        rw [if_neg (by decide), gd_t (by decide), if_pos rfl, nx_e, orr_0 (Nat.lt_trans b (by decide))]
        exact l
  have out : ∀ (d' r f : Nat), r + d' = 6 → d' < f → mX12_reaches_20 S f (r : Int) ((clR ((fun e => eO (S 84) X gdT e)) n r (((fun e => eO (S 84) X gdT e)) k) : Nat) : Int) = some ((clo ((fun e => eO (S 84) X gdT e)) n k : Nat) : Int) := by
    intro d'
    induction d' with
    | zero =>
      intro r f hi hf
      obtain ⟨g, rfl⟩ : ∃ g, f = g + 1 := ⟨f - 1, by omega⟩
      rw [mX12_reaches_20, gd_t (by omega), if_pos (by omega), show r = 6 by omega]
      rfl
    | succ d' ih =>
      intro r f hi hf
      obtain ⟨g, rfl⟩ : ∃ g, f = g + 1 := ⟨f - 1, by omega⟩
      have b := clR_lt hD r (((fun e => eO (S 84) X gdT e)) k) (hD k (by omega))
      have l := ih (r + 1) g (by omega) (by omega)
      rw [show ((r + 1 : Nat) : Int) = (r : Int) + 1 by omega] at l
      rw [mX12_reaches_20, gd_t (by omega), if_neg (by omega), bd1_e (show mX12_reaches_29 S (r : Int) FU 0 ((clR ((fun e => eO (S 84) X gdT e)) n r (((fun e => eO (S 84) X gdT e)) k) : Nat) : Int) = _ from inn n 0 FU _ (r : Int) (by omega) (by unfold FU; omega) b)]
      exact l
  rw [show (S 84 0).toNat = n by omega]
  exact out 6 0 FU (by omega) (by unfold FU; omega)
theorem e_wrong24 {S : St} {X : Nat → Nat} {d : Nat → Nat} {k : Nat} (h : WF (S 84)) (h01 : e01 S) {v3 : Int} (hX : bX (S 84) X) (hq : leaEq (S 84) (eb S) X) (hd : DP (S 84) d) (hk : (k : Int) < S 84 0) : mX12_wrongKind_24 S v3 FU 0 (((fun e => eO (S 84) X (gdL (S 84) (eb S) e) e) k : Nat) : Int) = some ((clo ((fun e => eO (S 84) X (gdL (S 84) (eb S) e) e)) (S 84 0).toNat k : Nat) : Int) := by
  have hM0 := h.1
  obtain ⟨n, hn⟩ : ∃ n : Nat, S 84 0 = (n : Int) := ⟨(S 84 0).toNat, by omega⟩
  have hD : ∀ j, j < n → ((fun e => eO (S 84) X (gdL (S 84) (eb S) e) e)) j < 2 ^ 30 := fun j hj => eO_lt h hX (Int.le_refl 0) (h.2.2.2.2.1 j (by omega))
  have inn : ∀ (d' i f a : Nat) (v : Int), i + d' = n → d' < f → a < 2 ^ 30 → mX12_wrongKind_33 S v v3 f (i : Int) ((clI ((fun e => eO (S 84) X (gdL (S 84) (eb S) e) e)) i a : Nat) : Int) = some ((clI ((fun e => eO (S 84) X (gdL (S 84) (eb S) e) e)) n a : Nat) : Int) := by
    intro d'
    induction d' with
    | zero =>
      intro i f a v hi hf ha
      obtain ⟨g, rfl⟩ : ∃ g, f = g + 1 := ⟨f - 1, by omega⟩
      rw [mX12_wrongKind_33, gd_t (by omega), if_pos (by omega), show i = n by omega]
    | succ d' ih =>
      intro i f a v hi hf ha
      obtain ⟨g, rfl⟩ : ∃ g, f = g + 1 := ⟨f - 1, by omega⟩
      have b := clI_lt i a (fun j hj => hD j (by omega)) ha
      have l := ih (i + 1) g a v (by omega) (by omega) ha
      rw [show ((i + 1 : Nat) : Int) = (i : Int) + 1 by omega] at l
      have st := e_leansOf h h01 hX hq hd (e := i) (by omega)
      rw [mX12_wrongKind_33, gd_t (by omega), if_neg (by omega), bd1_e (e_has (by omega) (by omega) (by omega) (by omega)), bt_nat]
      rw [clI_s] at l
      cases hb : (clI ((fun e => eO (S 84) X (gdL (S 84) (eb S) e) e)) i a).testBit i with
      | true =>
        rw [hb, if_pos rfl] at l
        rw [if_pos rfl, gd_t (by decide), if_neg (by decide), bd1_e st, nx_e, orr_nat (Nat.lt_trans b (by decide)) (Nat.lt_trans (hD i (by omega)) (by decide))]
        exact l
      | false =>
        rw [hb, if_neg (by decide)] at l
        rw [if_neg (by decide), gd_t (by decide), if_pos rfl, nx_e, orr_0 (Nat.lt_trans b (by decide))]
        exact l
  have out : ∀ (d' r f : Nat), r + d' = 6 → d' < f → mX12_wrongKind_24 S v3 f (r : Int) ((clR ((fun e => eO (S 84) X (gdL (S 84) (eb S) e) e)) n r (((fun e => eO (S 84) X (gdL (S 84) (eb S) e) e)) k) : Nat) : Int) = some ((clo ((fun e => eO (S 84) X (gdL (S 84) (eb S) e) e)) n k : Nat) : Int) := by
    intro d'
    induction d' with
    | zero =>
      intro r f hi hf
      obtain ⟨g, rfl⟩ : ∃ g, f = g + 1 := ⟨f - 1, by omega⟩
      rw [mX12_wrongKind_24, gd_t (by omega), if_pos (by omega), show r = 6 by omega]
      rfl
    | succ d' ih =>
      intro r f hi hf
      obtain ⟨g, rfl⟩ : ∃ g, f = g + 1 := ⟨f - 1, by omega⟩
      have b := clR_lt hD r (((fun e => eO (S 84) X (gdL (S 84) (eb S) e) e)) k) (hD k (by omega))
      have l := ih (r + 1) g (by omega) (by omega)
      rw [show ((r + 1 : Nat) : Int) = (r : Int) + 1 by omega] at l
      rw [mX12_wrongKind_24, gd_t (by omega), if_neg (by omega), bd1_e (show mX12_wrongKind_33 S (r : Int) v3 FU 0 ((clR ((fun e => eO (S 84) X (gdL (S 84) (eb S) e) e)) n r (((fun e => eO (S 84) X (gdL (S 84) (eb S) e) e)) k) : Nat) : Int) = _ from inn n 0 FU _ (r : Int) (by omega) (by unfold FU; omega) b)]
      exact l
  rw [show (S 84 0).toNat = n by omega]
  exact out 6 0 FU (by omega) (by unfold FU; omega)
theorem e_isKind {S : St} {k : Int} (h : WF (S 84)) (hk : inI k) : mX12_isKind S k = some (if 0 ≤ k ∧ k < S 84 0 then 1 else 0) := by
  have hM0 := h.1
  unfold mX12_isKind
  rw [gd_t hk, gd_t (by omega), bd1_e (e_in (by omega) (by decide) (by omega))]
  by_cases c : 0 ≤ k ∧ k < S 84 0
  · rw [if_pos c, if_pos (show 0 ≤ k ∧ k ≤ S 84 0 - 1 by omega), gd_t (by decide)]
  · rw [if_neg c, if_neg (show ¬ (0 ≤ k ∧ k ≤ S 84 0 - 1) by omega), gd_t (by decide)]
theorem e_reaches {S : St} {X : Nat → Nat} {d : Nat → Nat} {k : Nat} (h : WF (S 84)) (hX : bX (S 84) X) (hq : hasEq (S 84) 2 X) (hd : DP (S 84) d) (hk : (k : Int) < S 84 0) : mX12_reaches S (k : Int) = some ((clo (fun e => eO (S 84) X gdT e) (S 84 0).toNat k : Nat) : Int) := by
  have hM0 := h.1
  unfold mX12_reaches
  rw [bd1_e (e_isKind h (by omega)), if_pos ⟨by omega, hk⟩, gd_t (by decide), if_neg (by decide), bd1_e (e_stands h (Or.inr rfl) hX hq hd hk), bd1_e (e_reach20 h hX hq hd hk)]
