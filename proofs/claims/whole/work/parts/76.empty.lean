/-! what may be empty: one set on both sides -/
/-- a chain of parts but one: all in a set -/
def tE (M : Int → Int) (F : Nat → Bool) (a : Int) : Nat → Int → Bool
  | 0, _ => true
  | f + 1, q => if q < 0 then true else ((decide (q = a) || F q.toNat) && tE M F a f (M (96 + q)))
def anyN : Nat → (Nat → Bool) → Bool
  | 0, _ => false
  | n + 1, f => anyN n f || f n
theorem anyN_iff {n : Nat} {f : Nat → Bool} : anyN n f = true ↔ ∃ i, i < n ∧ f i = true := by
  induction n with
  | zero => exact ⟨fun h => (by cases h), fun ⟨i, h, _⟩ => (by omega)⟩
  | succ n ih =>
    show (anyN n f || f n) = true ↔ _
    rw [Bool.or_eq_true, ih]
    constructor
    · rintro (⟨i, a, b⟩ | h)
      · exact ⟨i, by omega, b⟩
      · exact ⟨n, by omega, h⟩
    · rintro ⟨i, a, b⟩
      by_cases e : i = n
      · subst e; exact Or.inr b
      · exact Or.inl ⟨i, by omega, b⟩
def xE (M : Int → Int) (F : Nat → Bool) (e : Nat) : Bool := anyN (M (198 + (e : Int))).toNat (fun t => !offM M e t && tE M F (-1) 24 (fpM M e t))
def ruP (M : Int → Int) (F : Nat → Bool) (p : Nat) : Bool :=
  if M (24 + (p : Int)) = 0 then false else if M (24 + (p : Int)) = 1 then true else if M (24 + (p : Int)) = 2 then F (24 + (M (48 + (p : Int))).toNat)
  else if M (24 + (p : Int)) = 7 then xE M F (6 + p) else if M (24 + (p : Int)) = 6 then F (M (72 + (p : Int))).toNat else (decide (M (48 + (p : Int)) = 0) || F (M (72 + (p : Int))).toNat)
def ru (M : Int → Int) (F : Nat → Bool) (x : Nat) : Bool := if x < 24 then ruP M F x else xE M F (x - 24)
def vx (M : Int → Int) (x : Nat) : Prop := (x < 24 ∧ (x : Int) < M 2) ∨ (24 ≤ x ∧ ((x - 24 : Nat) : Int) < M 0)
def leF (M : Int → Int) (F G : Nat → Bool) : Prop := ∀ x, vx M x → F x = true → G x = true
/-- parts that one may go on to -/
def okq (M : Int → Int) (q : Int) : Prop := q = -1 ∨ (0 ≤ q ∧ q < M 2)
theorem okq_next {M : Int → Int} (h : WF M) {q : Int} (hq : okq M q) (h0 : 0 ≤ q) : okq M (M (96 + q)) := by
  have hM2 := h.2.2.1
  rcases hq with e | e
  · omega
  · have o := (h.2.2.2.1 q.toNat (by omega)).2.1
    rw [show ((q.toNat : Nat) : Int) = q by omega] at o
    unfold okq; omega
theorem tE_mono {M : Int → Int} {F G : Nat → Bool} (h : WF M) (hl : leF M F G) {a : Int} : ∀ f q, okq M q → tE M F a f q = true → tE M G a f q = true := by
  have hM2 := h.2.2.1
  intro f
  induction f with
  | zero => intro q _ _; rfl
  | succ f ih =>
    intro q hq hF
    unfold tE at hF ⊢
    by_cases z : q < 0
    · rw [if_pos z]
    · rw [if_neg z] at hF ⊢
      rw [Bool.and_eq_true, Bool.or_eq_true] at hF ⊢
      have hq' : 0 ≤ q ∧ q < M 2 := by unfold okq at hq; omega
      refine ⟨hF.1.imp id (fun x => hl _ (Or.inl ⟨by omega, by omega⟩) x), ih _ (okq_next h hq (by omega)) hF.2⟩
theorem xE_mono {M : Int → Int} {F G : Nat → Bool} {e : Nat} {lo : Int} (h : WF M) (hlo : 0 ≤ lo) (hE : okE M lo e) (hl : leF M F G) (hF : xE M F e = true) : xE M G e = true := by
  unfold xE at hF ⊢
  rw [anyN_iff] at hF ⊢
  obtain ⟨t, h1, h2⟩ := hF
  have q := hE.2.1 t (by omega)
  rw [Bool.and_eq_true] at h2
  refine ⟨t, h1, ?_⟩
  rw [Bool.and_eq_true]
  exact ⟨h2.1, tE_mono h hl 24 _ (Or.inr ⟨by omega, q.2.2⟩) h2.2⟩
theorem ru_mono {M : Int → Int} {F G : Nat → Bool} (h : WF M) (hl : leF M F G) {x : Nat} (hx : vx M x) (hF : ru M F x = true) : ru M G x = true := by
  have hM2 := h.2.2.1
  have hM0 := h.1
  unfold ru at hF ⊢
  by_cases c : x < 24
  · rw [if_pos c] at hF ⊢
    have hp : (x : Int) < M 2 := by unfold vx at hx; omega
    obtain ⟨h1, h2, h3, h4, h5, h6⟩ := h.2.2.2.1 x hp
    unfold ruP at hF ⊢
    by_cases s0 : M (24 + (x : Int)) = 0
    · rw [if_pos s0] at hF; cases hF
    rw [if_neg s0] at hF ⊢
    by_cases s1 : M (24 + (x : Int)) = 1
    · rw [if_pos s1]
    rw [if_neg s1] at hF ⊢
    by_cases s2 : M (24 + (x : Int)) = 2
    · rw [if_pos s2] at hF ⊢
      have := h4 s2
      exact hl _ (Or.inr ⟨by omega, by omega⟩) hF
    rw [if_neg s2] at hF ⊢
    by_cases s7 : M (24 + (x : Int)) = 7
    · rw [if_pos s7] at hF ⊢
      exact xE_mono h (by omega) (h5 s7).2.2 hl hF
    rw [if_neg s7] at hF ⊢
    have h6' := h6 (by omega)
    by_cases s6 : M (24 + (x : Int)) = 6
    · rw [if_pos s6] at hF ⊢
      exact hl _ (Or.inl ⟨by omega, by omega⟩) hF
    rw [if_neg s6] at hF ⊢
    rw [Bool.or_eq_true] at hF ⊢
    exact hF.imp id (fun y => hl _ (Or.inl ⟨by omega, by omega⟩) y)
  · rw [if_neg c] at hF ⊢
    have he : ((x - 24 : Nat) : Int) < M 0 := by unfold vx at hx; omega
    exact xE_mono h (by omega) (h.2.2.2.2.1 _ he) hl hF
/-- the least closed set -/
def lfE (M : Int → Int) (F : Nat → Bool) : Prop := (∀ x, vx M x → ru M F x = true → F x = true) ∧ (∀ G : Nat → Bool, (∀ x, vx M x → ru M G x = true → G x = true) → leF M F G)
theorem lfE_uniq {M : Int → Int} {F G : Nat → Bool} (a : lfE M F) (b : lfE M G) {x : Nat} (hx : vx M x) : F x = G x := by
  have u := a.2 G b.1 x hx
  have v := b.2 F a.1 x hx
  cases hF : F x <;> cases hG : G x
  · rfl
  · rw [hG] at v; rw [v rfl] at hF; cases hF
  · rw [hF] at u; rw [u rfl] at hG; cases hG
  · rfl
/-- on the way to it: within every closed set, each member by its rule -/
def goE (M : Int → Int) (F : Nat → Bool) : Prop := (∀ x, vx M x → F x = true → ru M F x = true) ∧ (∀ G : Nat → Bool, (∀ x, vx M x → ru M G x = true → G x = true) → leF M F G)
def setF (F : Nat → Bool) (x : Nat) (b : Bool) (y : Nat) : Bool := if y = x then b else F y
theorem setF_le {M : Int → Int} {F : Nat → Bool} (h : goE M F) {x : Nat} (hx : vx M x) : leF M F (setF F x (ru M F x)) := fun y hy hF => by
  unfold setF
  by_cases e : y = x
  · rw [if_pos e, ← e]; exact h.1 y hy hF
  · rw [if_neg e]; exact hF
theorem goE_set {M : Int → Int} {F : Nat → Bool} (hW : WF M) (h : goE M F) {x : Nat} (hx : vx M x) : goE M (setF F x (ru M F x)) := by
  have l := setF_le h hx
  refine ⟨fun y hy hF => ?_, fun G hG y hy hF => ?_⟩
  · unfold setF at hF
    by_cases e : y = x
    · rw [if_pos e] at hF; rw [e]; exact ru_mono hW l hx hF
    · rw [if_neg e] at hF; exact ru_mono hW l hy (h.1 y hy hF)
  · unfold setF at hF
    by_cases e : y = x
    · rw [if_pos e] at hF; rw [e]; exact hG x hx (ru_mono hW (h.2 G hG) hx hF)
    · rw [if_neg e] at hF; exact h.2 G hG y hy hF
theorem goE_0 {M : Int → Int} {F : Nat → Bool} (h : ∀ x, vx M x → F x = false) : goE M F := ⟨fun x hx hF => (by rw [h x hx] at hF; cases hF), fun G _ x hx hF => (by rw [h x hx] at hF; cases hF)⟩
/-- how many are in it -/
def szF (F : Nat → Bool) : Nat := sm 30 (fun x => if F x then 1 else 0)
theorem szF_le {F : Nat → Bool} : szF F ≤ 30 := by
  have : szF F ≤ sm 30 (fun _ => 1) := sm_mono fun i _ => by split <;> omega
  exact this
def vF (M : Int → Int) (F : Nat → Bool) : Nat := sm 30 (fun x => if (x < 24 ∧ (x : Int) < M 2) ∨ (24 ≤ x ∧ ((x - 24 : Nat) : Int) < M 0) then (if F x then 1 else 0) else 0)
theorem vF_le {M : Int → Int} {F : Nat → Bool} : vF M F ≤ 30 := by
  have : vF M F ≤ sm 30 (fun _ => 1) := sm_mono fun i _ => by split <;> (try split) <;> omega
  exact this
theorem vF_lt {M : Int → Int} {F G : Nat → Bool} (hM : M 0 ≤ 6) (hl : leF M F G) {x : Nat} (hx : vx M x) (h1 : F x = false) (h2 : G x = true) : vF M F < vF M G := by
  refine sm_lt (j := x) (fun i hi => ?_) (by unfold vx at hx; omega) ?_
  · by_cases c : (i < 24 ∧ (i : Int) < M 2) ∨ (24 ≤ i ∧ ((i - 24 : Nat) : Int) < M 0)
    · rw [if_pos c, if_pos c]
      cases hF : F i
      · simp
      · rw [hl i c hF]; exact Nat.le_refl _
    · rw [if_neg c, if_neg c]; exact Nat.le_refl _
  · have hx' : (x < 24 ∧ (x : Int) < M 2) ∨ (24 ≤ x ∧ ((x - 24 : Nat) : Int) < M 0) := hx
    rw [if_pos hx', if_pos hx', h1, h2]; decide
/-! the reference's empties -/
def eb (S : St) (x : Nat) : Bool := decide (S 89 (x : Int) ≠ 0)
def e01 (S : St) : Prop := ∀ x : Nat, x < 30 → S 89 (x : Int) = 0 ∨ S 89 (x : Int) = 1
theorem eb_val {S : St} (h : e01 S) {x : Nat} (hx : x < 30) : S 89 (x : Int) = if eb S x then 1 else 0 := by
  unfold eb
  rcases h x hx with e | e <;> rw [e] <;> rfl
theorem iet10 {S : St} {a : Int} (h : WF (S 84)) (h01 : e01 S) (ha : inI a) : ∀ (n f : Nat) (q : Int), okq (S 84) q → 24 - q ≤ n ∨ q < 0 → n < f → mX12_isEmptyTerm_10 S a f q = some (if tE (S 84) (eb S) a n q then 1 else 0) := by
  have hM2 := h.2.2.1
  intro n
  induction n with
  | zero =>
    intro f q hq hn hf
    obtain ⟨g, rfl⟩ : ∃ g, f = g + 1 := ⟨f - 1, by omega⟩
    unfold okq at hq
    rw [mX12_isEmptyTerm_10, gd_t (by omega), if_pos (by omega)]
    rfl
  | succ n ih =>
    intro f q hq hn hf
    obtain ⟨g, rfl⟩ : ∃ g, f = g + 1 := ⟨f - 1, by omega⟩
    have hq0 := hq
    unfold okq at hq
    rw [mX12_isEmptyTerm_10, gd_t (by omega)]
    by_cases z : q < 0
    · rw [if_pos z]; unfold tE; rw [if_pos z]; rfl
    · obtain ⟨p, rfl⟩ := Int.eq_ofNat_of_zero_le (show 0 ≤ q by omega)
      have nx' := okq_next h hq0 (by omega)
      have o := (h.2.2.2.1 p (by omega)).2.1
      have l := ih g (S 84 (96 + (p : Int))) nx' (by omega) (by omega)
      have v := eb_val h01 (x := p) (by omega)
      rw [if_neg z]
      unfold tE
      rw [if_neg z, show ((p : Int)).toNat = p from rfl]
      by_cases e : (p : Int) = a
      · rw [bd1_e (show (gd (inI a) <| if (p : Int) = a then (some (1 : Nat)) else _) = some 1 by rw [gd_t ha, if_pos e]), if_neg (by decide), gd_t (by omega), nx_e, l]
        simp [e]
      · cases hb : eb S p with
        | true =>
          rw [hb, if_pos rfl] at v
          rw [bd1_e (show (gd (inI a) <| if (p : Int) = a then (some (1 : Nat)) else (gd (0 ≤ (p : Int) ∧ (p : Int) < 30) <| gd (inI (S 89 (p : Int))) <| if (S 89 (p : Int)) = 0 then (some (0)) else (some (1)))) = some 1 by rw [gd_t ha, if_neg e, gd_t (by omega), v, gd_t (by decide), if_neg (by decide)]), if_neg (by decide), gd_t (by omega), nx_e, l]
          simp
        | false =>
          rw [hb, if_neg (by decide)] at v
          rw [bd1_e (show (gd (inI a) <| if (p : Int) = a then (some (1 : Nat)) else (gd (0 ≤ (p : Int) ∧ (p : Int) < 30) <| gd (inI (S 89 (p : Int))) <| if (S 89 (p : Int)) = 0 then (some (0)) else (some (1)))) = some 0 by rw [gd_t ha, if_neg e, gd_t (by omega), v, gd_t (by decide), if_pos rfl]), if_pos rfl]
          simp [e]
theorem e_isEmptyTerm {S : St} {a : Int} {e t : Nat} {lo : Int} (h : WF (S 84)) (h01 : e01 S) (ha : inI a) (hlo : 0 ≤ lo) (hE : okE (S 84) lo e) (ht : (t : Int) < S 84 (198 + (e : Int))) : mX12_isEmptyTerm S (tlM (S 84) e t) a = some (if tE (S 84) (eb S) a 24 (fpM (S 84) e t) then 1 else 0) := by
  have q := hE.2.1 t ht
  unfold mX12_isEmptyTerm
  rw [gd_t (by omega), nx_e]
  have l := iet10 h h01 ha 24 FU (fpM (S 84) e t) (Or.inr ⟨by omega, q.2.2⟩) (by omega) (by unfold FU; omega)
  unfold fpM at l
  cases hb : tE (S 84) (eb S) a 24 (fpM (S 84) e t) with
  | true =>
    unfold fpM at hb
    rw [hb, if_pos rfl] at l
    rw [bd1_e (show mX12_isEmptyTerm_10 S a FU _ = some (1 : Int) from l)]; rfl
  | false =>
    unfold fpM at hb
    rw [hb, if_neg (by decide)] at l
    rw [bd1_e (show mX12_isEmptyTerm_10 S a FU _ = some (0 : Int) from l)]; rfl
theorem iee13 {S : St} {e : Nat} {lo : Int} (h : WF (S 84)) (h01 : e01 S) (he : e < 30) (hlo : 0 ≤ lo) (hE : okE (S 84) lo e) : ∀ d t f : Nat, (t : Int) + d = S 84 (198 + (e : Int)) → d < f → anyN t (fun t => !offM (S 84) e t && tE (S 84) (eb S) (-1) 24 (fpM (S 84) e t)) = false → mX12_isEmptyExpr_13 S (e : Int) f (tlM (S 84) e t) (t : Int) = some (if xE (S 84) (eb S) e then 0 else 1) := by
  intro d
  induction d with
  | zero =>
    intro t f ht hf ha
    obtain ⟨g, rfl⟩ : ∃ g, f = g + 1 := ⟨f - 1, by omega⟩
    have e1 : t = (S 84 (198 + (e : Int))).toNat := by omega
    have e2 := hE.2.2
    rw [← e1] at e2
    rw [mX12_isEmptyExpr_13, e2, gd_t (by decide), if_pos (by decide)]
    unfold xE
    rw [← e1, ha]; rfl
  | succ d ih =>
    intro t f ht hf ha
    obtain ⟨g, rfl⟩ : ∃ g, f = g + 1 := ⟨f - 1, by omega⟩
    have q := hE.2.1 t (by omega)
    have hm := hE.1
    rw [mX12_isEmptyExpr_13, gd_t (by omega), if_neg (by omega), bd1_e (e_isOff h he (by omega))]
    have go : (!offM (S 84) e t && tE (S 84) (eb S) (-1) 24 (fpM (S 84) e t)) = false → mX12_isEmptyExpr_13 S (e : Int) g (S 84 (144 + tlM (S 84) e t)) ((t : Int) + 1) = some (if xE (S 84) (eb S) e then 0 else 1) := fun hh => by
      have := ih (t + 1) g (by omega) (by omega) (by show (anyN t _ || _) = false; rw [ha]; exact hh)
      rw [show ((t + 1 : Nat) : Int) = (t : Int) + 1 by omega] at this
      exact this
    cases ho : offM (S 84) e t with
    | true =>
      rw [bd1_e (show (gd (inI (if true = true then (1 : Int) else 0)) <| if (if true = true then (1 : Int) else 0) = 0 then _ else (some (1 : Nat))) = some 1 by rw [gd_t (by decide), if_neg (by decide)]), if_neg (by decide), gd_t (by omega), nx_e]
      exact go (by rw [ho]; rfl)
    | false =>
      have l := e_isEmptyTerm (a := -1) (t := t) h h01 (by decide) hlo hE (by omega)
      cases hb : tE (S 84) (eb S) (-1) 24 (fpM (S 84) e t) with
      | true =>
        rw [hb, if_pos rfl] at l
        rw [bd1_e (show (gd (inI (if false = true then (1 : Int) else 0)) <| if (if false = true then (1 : Int) else 0) = 0 then (bd1 (mX12_isEmptyTerm S (tlM (S 84) e t) (-1)) fun r_25 => gd (inI r_25) <| if r_25 = 0 then (some (1 : Nat)) else (some 0)) else (some 1)) = some 0 by rw [gd_t (by decide), if_pos (by decide), bd1_e l, gd_t (by decide), if_neg (by decide)]), if_pos rfl]
        have : xE (S 84) (eb S) e = true := anyN_iff.mpr ⟨t, by omega, by rw [ho, hb]; rfl⟩
        rw [this]; rfl
      | false =>
        rw [hb, if_neg (by decide)] at l
        rw [bd1_e (show (gd (inI (if false = true then (1 : Int) else 0)) <| if (if false = true then (1 : Int) else 0) = 0 then (bd1 (mX12_isEmptyTerm S (tlM (S 84) e t) (-1)) fun r_25 => gd (inI r_25) <| if r_25 = 0 then (some (1 : Nat)) else (some 0)) else (some 1)) = some 1 by rw [gd_t (by decide), if_pos (by decide), bd1_e l, gd_t (by decide), if_pos rfl]), if_neg (by decide), gd_t (by omega), nx_e]
        exact go (by rw [ho, hb]; rfl)
theorem e_isEmptyExpr {S : St} {e : Nat} {lo : Int} (h : WF (S 84)) (h01 : e01 S) (he : e < 30) (hlo : 0 ≤ lo) (hE : okE (S 84) lo e) : mX12_isEmptyExpr S (e : Int) = some (if xE (S 84) (eb S) e then 1 else 0) := by
  have hm := hE.1
  have l := iee13 h h01 he hlo hE (S 84 (198 + (e : Int))).toNat 0 FU (by omega) (by unfold FU; omega) rfl
  unfold mX12_isEmptyExpr
  rw [gd_t (by omega), nx_e]
  cases hb : xE (S 84) (eb S) e with
  | true =>
    rw [hb, if_pos rfl] at l
    rw [bd1_e (show mX12_isEmptyExpr_13 S (e : Int) FU (S 84 (168 + (e : Int))) 0 = some 0 from l)]; rfl
  | false =>
    rw [hb, if_neg (by decide)] at l
    rw [bd1_e (show mX12_isEmptyExpr_13 S (e : Int) FU (S 84 (168 + (e : Int))) 0 = some 1 from l)]; rfl
theorem e_isEmptyPart {S : St} {p : Nat} (h : WF (S 84)) (h01 : e01 S) (hp : (p : Int) < S 84 2) : mX12_isEmptyPart S (p : Int) = some (if ruP (S 84) (eb S) p then 1 else 0) := by
  have hM2 := h.2.2.1
  have hM0 := h.1
  obtain ⟨h1, h2, h3, h4, h5, h6⟩ := h.2.2.2.1 p hp
  unfold mX12_isEmptyPart ruP
  rw [gd_t (by omega), nx_e, gd_t (by omega)]
  by_cases s0 : S 84 (24 + (p : Int)) = 0
  · rw [if_pos s0, if_pos s0]; rfl
  rw [if_neg s0, if_neg s0]
  by_cases s1 : S 84 (24 + (p : Int)) = 1
  · rw [if_pos s1, if_pos s1]; rfl
  rw [if_neg s1, if_neg s1]
  by_cases s2 : S 84 (24 + (p : Int)) = 2
  · have := h4 s2
    obtain ⟨k, hk⟩ : ∃ k : Nat, S 84 (48 + (p : Int)) = (k : Int) := ⟨(S 84 (48 + (p : Int))).toNat, by omega⟩
    have v := eb_val h01 (x := 24 + k) (by omega)
    rw [if_pos s2, if_pos s2, gd_t (by omega), hk, show (24 : Int) + (k : Int) = ((24 + k : Nat) : Int) by omega, gd_t (by omega), gd_t (h01 _ (by omega)), v]; rfl
  rw [if_neg s2, if_neg s2]
  by_cases s7 : S 84 (24 + (p : Int)) = 7
  · obtain ⟨q1, q2, q3⟩ := h5 s7
    rw [if_neg (by omega), if_neg (by omega), if_neg (by omega), if_neg (by omega), if_pos s7, if_pos s7, gd_t (by omega), q1, show (6 : Int) + (p : Int) = ((6 + p : Nat) : Int) by omega, bd1_e (e_isEmptyExpr h h01 (by omega) (by omega) q3), gd_t (by split <;> decide)]
  rw [if_neg s7]
  have h6' := h6 (by omega)
  obtain ⟨c, hc⟩ : ∃ c : Nat, S 84 (72 + (p : Int)) = (c : Int) := ⟨(S 84 (72 + (p : Int))).toNat, by omega⟩
  have v := eb_val h01 (x := c) (by omega)
  rw [hc, show ((c : Int)).toNat = c from rfl]
  by_cases s6 : S 84 (24 + (p : Int)) = 6
  · rw [if_neg (by omega), if_neg (by omega), if_neg (by omega), if_pos s6, if_neg s7, if_pos s6, gd_t (by omega), gd_t (by omega), gd_t (h01 _ (by omega)), v]
  have fin : (gd (0 ≤ (48 + (p : Int)) ∧ (48 + (p : Int)) < 228) <| gd (inI (S 84 (48 + (p : Int)))) <| if (S 84 (48 + (p : Int))) = 0 then (some (1 : Int)) else (gd (0 ≤ (72 + (p : Int)) ∧ (72 + (p : Int)) < 228) <| gd (0 ≤ (c : Int) ∧ (c : Int) < 30) <| gd (inI (S 89 (c : Int))) <| if (S 89 (c : Int)) = 0 then (some (0)) else (some (1)))) = some (if (decide (S 84 (48 + (p : Int)) = 0) || eb S c) = true then 1 else 0) := by
    rw [gd_t (by omega), gd_t (by omega)]
    by_cases z : S 84 (48 + (p : Int)) = 0
    · rw [if_pos z]; simp [z]
    · rw [if_neg z, gd_t (by omega), gd_t (by omega), v]
      cases hb : eb S c with
      | true => simp [gd]
      | false => simp [z, gd]
  rw [if_neg s7, if_neg s6]
  by_cases s3 : S 84 (24 + (p : Int)) = 3
  · rw [if_pos s3, fin, if_neg s6]
  rw [if_neg s3]
  by_cases s4 : S 84 (24 + (p : Int)) = 4
  · rw [if_pos s4, fin, if_neg s6]
  rw [if_neg s4]
  by_cases s5 : S 84 (24 + (p : Int)) = 5
  · rw [if_pos s5, fin, if_neg s6]
  omega
theorem up01 {S : St} (h : e01 S) {x : Nat} {b : Bool} : e01 (up S 89 (x : Int) (if b then 1 else 0)) := fun y hy => by
  by_cases e : y = x
  · subst e; rw [up_eq]; cases b
    · exact Or.inl rfl
    · exact Or.inr rfl
  · rw [up_nk (by omega)]; exact h y hy
theorem eb_up {S : St} {x : Nat} {b : Bool} : eb (up S 89 (x : Int) (if b then 1 else 0)) = setF (eb S) x b := by
  funext y
  unfold setF eb
  by_cases e : y = x
  · subst e; rw [up_eq, if_pos rfl]; cases b <;> rfl
  · rw [up_nk (by omega), if_neg e]
/-- a round: it grows, and where it does not it is closed -/
def rndE (M : Int → Int) (F G : Nat → Bool) (done : Nat → Prop) : Prop := goE M G ∧ leF M F G ∧ ((∀ x, vx M x → F x = G x) → ∀ x, vx M x → done x → ru M F x = true → F x = true)
theorem rndE_set {M : Int → Int} {F G : Nat → Bool} {done done' : Nat → Prop} {x : Nat} (hW : WF M) (h : rndE M F G done) (hx : vx M x) (hd : ∀ y, done' y → done y ∨ y = x) : rndE M F (setF G x (ru M G x)) done' := by
  obtain ⟨a, b, c⟩ := h
  have l := setF_le a hx
  refine ⟨goE_set hW a hx, fun y hy hF => l y hy (b y hy hF), fun e y hy hd' hr => ?_⟩
  have e' : ∀ z, vx M z → F z = G z := fun z hz => by
    cases hF : F z
    · cases hG : G z
      · rfl
      · have := l z hz hG
        rw [← e z hz, hF] at this; cases this
    · rw [b z hz hF]
  rcases hd y hd' with hd | hd
  · exact c e' y hy hd hr
  · subst hd
    have r2 : ru M G y = true := ru_mono hW (fun z hz hF => by rw [← e' z hz]; exact hF) hx hr
    rw [e y hy]
    unfold setF
    rw [if_pos rfl]; exact r2
theorem w_empties {S : St} (h : WF (S 84)) : wp (mX12_empties S) (fun S' => e01 S' ∧ lfE (S 84) (eb S') ∧ kept [89] [] S S') := by
  have hM2 := h.2.2.1
  have hM0 := h.1
  unfold mX12_empties
  rw [wp_bd1]
  refine wp_mono (loopW (fun f v s => mX12_empties_2 f v s) (fun i S' => (∀ x : Nat, x < i → S' 89 (x : Int) = 0) ∧ kept [89] [] S S') (fun S' => (∀ x : Nat, x < 30 → S' 89 (x : Int) = 0) ∧ kept [89] [] S S') 30 (fun i f s hi hI hk => ?_) (fun f s hI => ?_) 30 0 FU S (by omega) (by unfold FU; omega) ⟨fun x hx => by omega, kept.rf⟩) (fun S1 q1 => ?_)
  · try dsimp only at hk ⊢
    rw [mX12_empties_2, gd_t (by omega), if_neg (by omega), gd_t (by omega), nx_e]
    refine hk _ ⟨fun x hx => ?_, kept.upA hI.2 (by simp)⟩
    by_cases e : x = i
    · subst e; exact up_eq
    · rw [up_nk (by omega)]; exact hI.1 x (by omega)
  · try dsimp only
    rw [mX12_empties_2, gd_t (by omega), if_pos (by omega), wp_some]; exact hI
  · obtain ⟨z1, k1⟩ := q1
    rw [wp_bd1]
    have b0 : ∀ x, vx (S 84) x → eb S1 x = false := fun x hx => by unfold eb; rw [z1 x (by unfold vx at hx; omega)]; rfl
    refine wp_mono (loopW (fun f v s => mX12_empties_26 f v s) (fun i S' => e01 S' ∧ goE (S 84) (eb S') ∧ ((∀ x, vx (S 84) x → ru (S 84) (eb S') x = true → eb S' x = true) ∨ i ≤ vF (S 84) (eb S')) ∧ kept [89] [] S S') (fun S' => e01 S' ∧ lfE (S 84) (eb S') ∧ kept [89] [] S S') 31 (fun i f s hi hI hk => ?_) (fun f s hI => ?_) 31 0 FU S1 (by omega) (by unfold FU; omega) ⟨fun x hx => Or.inl (z1 x hx), goE_0 b0, Or.inr (Nat.zero_le _), k1⟩) (fun S' q => by rw [wp_some]; exact q)
    · obtain ⟨i1, g1, c1, kk⟩ := hI
      try dsimp only at hk ⊢
      have e84 : s 84 = S 84 := kk.cell 84 (by decide) (by decide)
      rw [mX12_empties_26, gd_t (by omega), if_neg (by omega), wp_bd1]
      refine wp_mono (loopW (fun f v s' => mX12_empties_37 (i : Int) f v s') (fun p S' => e01 S' ∧ rndE (S 84) (eb s) (eb S') (fun x => x < p) ∧ kept [89] [] S S') (fun S' => e01 S' ∧ rndE (S 84) (eb s) (eb S') (fun x => (x : Int) < S 84 2) ∧ kept [89] [] S S') (S 84 2).toNat (fun p f s' hp hI hk => ?_) (fun f s' hI => ?_) (S 84 2).toNat 0 FU s (by omega) (by unfold FU; omega) ⟨i1, ⟨g1, fun x hx hF => hF, fun _ x _ hd => by omega⟩, kk⟩) (fun S2 q2 => ?_)
      · obtain ⟨a1, a2, a3⟩ := hI
        try dsimp only at hk ⊢
        have f84 : s' 84 = S 84 := a3.cell 84 (by decide) (by decide)
        have l := e_isEmptyPart (S := s') (p := p) (by rw [f84]; exact h) a1 (by rw [f84]; omega)
        rw [f84] at l
        have vp : vx (S 84) p := Or.inl ⟨by omega, by omega⟩
        rw [mX12_empties_37, f84, gd_t (by omega), if_neg (by omega), bd1_e l, gd_t ⟨by omega, by split <;> decide⟩, nx_e]
        refine hk _ ⟨up01 a1, ?_, kept.upA a3 (by simp)⟩
        rw [eb_up]
        have := rndE_set (done' := fun x => x < p + 1) h a2 vp (fun y hy => by omega)
        rw [show ru (S 84) (eb s') p = ruP (S 84) (eb s') p by unfold ru; rw [if_pos (by omega)]] at this
        exact this
      · obtain ⟨a1, a2, a3⟩ := hI
        try dsimp only
        have f84 : s' 84 = S 84 := a3.cell 84 (by decide) (by decide)
        rw [mX12_empties_37, f84, gd_t (by omega), if_pos (by omega), wp_some]
        exact ⟨a1, ⟨a2.1, a2.2.1, fun e x hx hd => a2.2.2 e x hx (by omega)⟩, a3⟩
      · obtain ⟨a1, a2, a3⟩ := q2
        rw [wp_bd1]
        refine wp_mono (loopW (fun f v s' => mX12_empties_66 (i : Int) f v s') (fun e S' => e01 S' ∧ rndE (S 84) (eb s) (eb S') (fun x => (x < 24 ∧ (x : Int) < S 84 2) ∨ (24 ≤ x ∧ x < 24 + e)) ∧ kept [89] [] S S') (fun S' => e01 S' ∧ rndE (S 84) (eb s) (eb S') (fun x => vx (S 84) x) ∧ kept [89] [] S S') (S 84 0).toNat (fun p f s' hp hI hk => ?_) (fun f s' hI => ?_) (S 84 0).toNat 0 FU S2 (by omega) (by unfold FU; omega) ⟨a1, ⟨a2.1, a2.2.1, fun e x hx hd => a2.2.2 e x hx (by omega)⟩, a3⟩) (fun S3 q3 => ?_)
        · obtain ⟨b1, b2, b3⟩ := hI
          try dsimp only at hk ⊢
          have f84 : s' 84 = S 84 := b3.cell 84 (by decide) (by decide)
          have l := e_isEmptyExpr (S := s') (e := p) (lo := 0) (by rw [f84]; exact h) b1 (by omega) (by omega) (by rw [f84]; exact h.2.2.2.2.1 p (by omega))
          rw [f84] at l
          have vp : vx (S 84) (24 + p) := Or.inr ⟨by omega, by omega⟩
          rw [mX12_empties_66, f84, gd_t (by omega), if_neg (by omega), bd1_e l, gd_t ⟨by omega, by split <;> decide⟩, nx_e, show (24 : Int) + (p : Int) = ((24 + p : Nat) : Int) by omega]
          refine hk _ ⟨up01 b1, ?_, kept.upA b3 (by simp)⟩
          rw [eb_up]
          have := rndE_set (done' := fun x => (x < 24 ∧ (x : Int) < S 84 2) ∨ (24 ≤ x ∧ x < 24 + (p + 1))) h b2 vp (fun y hy => by omega)
          rw [show ru (S 84) (eb s') (24 + p) = xE (S 84) (eb s') p by unfold ru; rw [if_neg (by omega), show 24 + p - 24 = p by omega]] at this
          exact this
        · obtain ⟨b1, b2, b3⟩ := hI
          try dsimp only
          have f84 : s' 84 = S 84 := b3.cell 84 (by decide) (by decide)
          rw [mX12_empties_66, f84, gd_t (by omega), if_pos (by omega), wp_some]
          exact ⟨b1, ⟨b2.1, b2.2.1, fun e x hx hd => b2.2.2 e x hx (by unfold vx at hd; omega)⟩, b3⟩
        · obtain ⟨b1, b2, b3⟩ := q3
          refine hk S3 ⟨b1, b2.1, ?_, b3⟩
          by_cases st : ∀ x, vx (S 84) x → eb s x = eb S3 x
          · left
            intro x hx hr
            rw [← st x hx]
            exact b2.2.2 st x hx hx (ru_mono h (fun z hz hF => by rw [st z hz]; exact hF) hx hr)
          · right
            have : ∃ x, vx (S 84) x ∧ eb s x ≠ eb S3 x := Classical.byContradiction fun w => st fun x hx => Classical.byContradiction fun v => w ⟨x, hx, v⟩
            obtain ⟨x, hx, hne⟩ := this
            have lt : vF (S 84) (eb s) < vF (S 84) (eb S3) := by
              cases hF : eb s x
              · cases hG : eb S3 x
                · rw [hF, hG] at hne; exact absurd rfl hne
                · exact vF_lt hM0.2 b2.2.1 hx hF hG
              · rw [hF, b2.2.1 x hx hF] at hne; exact absurd rfl hne
            rcases c1 with c1 | c1
            · -- closed already: nothing can grow
              exfalso
              have le : leF (S 84) (eb S3) (eb s) := b2.1.2 (eb s) c1
              apply hne
              cases hF : eb s x
              · cases hG : eb S3 x
                · rfl
                · rw [le x hx hG] at hF; cases hF
              · rw [b2.2.1 x hx hF]
            · omega
    · obtain ⟨i1, g1, c1, kk⟩ := hI
      try dsimp only
      rw [mX12_empties_26, gd_t (by omega), if_pos (by omega), wp_some]
      refine ⟨i1, ⟨?_, g1.2⟩, kk⟩
      rcases c1 with c1 | c1
      · exact c1
      · have := vF_le (M := S 84) (F := eb s); omega
