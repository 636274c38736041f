/-! what the counts hang on -/
theorem tr_cg {c c' : Nat → Nat → Nat} : ∀ j n k, (∀ s i, 1 ≤ s → s ≤ n → i ≤ k → c s i = c' s i) → tr c j n k = tr c' j n k := by
  intro j
  induction j with
  | zero => intro n k _; rfl
  | succ j ih =>
    intro n k h
    refine s2_congr fun s i h1 h2 h3 => ?_
    rw [h s i h1 h2 h3, ih (n - s) (k - i) (fun t l t1 t2 t3 => h t l t1 (by omega) (by omega))]
theorem rgu_cg {c c' : Nat → Nat → Nat} {N n k : Nat} (h : ∀ s i, 1 ≤ s → s ≤ n → i ≤ k → c s i = c' s i) : rgu c N n k = rgu c' N n k := by
  refine sm_congr fun d hd => ?_
  by_cases q : N % (d + 1) = 0 ∧ n % (d + 1) = 0 ∧ k % (d + 1) = 0
  · have h1 := Nat.div_le_self n (d + 1)
    have h2 := Nat.div_le_self k (d + 1)
    rw [if_pos q, if_pos q, tr_cg _ _ _ (fun s i a1 a2 a3 => h s i a1 (by omega) (by omega))]
  · rw [if_neg q, if_neg q]
theorem bgI_cg {once : Bool} {c c' : Nat → Nat → Nat} {s : Nat} {T T' : Nat → Nat → Nat → Nat} (hT : T = T') : ∀ m, (∀ i, i < m → c s i = c' s i) → bgI once c s T m = bgI once c' s T' m := by
  intro m
  induction m with
  | zero => intro _; exact hT
  | succ m ih =>
    intro h
    show addC (ch once (c s m)) s m (bgI once c s T m) = addC (ch once (c' s m)) s m (bgI once c' s T' m)
    rw [h m (by omega), ih (fun i hi => h i (by omega))]
theorem bgS_cg {once : Bool} {c c' : Nat → Nat → Nat} {lt lt' : Nat → Nat} : ∀ s, (∀ t, t ≤ s → lt t = lt' t) → (∀ t i, 1 ≤ t → t ≤ s → i ≤ lt t → c t i = c' t i) → bgS once c lt s = bgS once c' lt' s := by
  intro s
  induction s with
  | zero => intro _ _; rfl
  | succ s ih =>
    intro hl h
    show bgI once c (s + 1) (bgS once c lt s) (lt (s + 1) + 1) = bgI once c' (s + 1) (bgS once c' lt' s) (lt' (s + 1) + 1)
    rw [← hl (s + 1) (Nat.le_refl _)]
    exact bgI_cg (ih (fun t ht => hl t (by omega)) (fun t i t1 t2 t3 => h t i t1 (by omega) t3)) _ (fun i hi => h (s + 1) i (by omega) (by omega) (by omega))
theorem inT_cg {ring : Bool} {T T' : Nat → Nat → Nat → Nat} {c c' : Nat → Nat → Nat} {num n k : Nat} (hT : ring = false → ∀ j, T j n k = T' j n k) (hc : ∀ s i, 1 ≤ s → s ≤ n → i ≤ k → c s i = c' s i) : inT ring T c num n k = inT ring T' c' num n k := by
  unfold inT
  by_cases z : num = 0
  · rw [if_pos z, if_pos z]
    refine sm_congr fun j hj => ?_
    cases ring with
    | true => simp only [if_true]; rw [rgu_cg hc]
    | false => simp only [Bool.false_eq_true, if_false]; exact hT rfl j
  · rw [if_neg z, if_neg z]
    cases ring with
    | true => simp only [if_true]; rw [rgu_cg hc]
    | false => simp only [Bool.false_eq_true, if_false]; exact hT rfl num
/-- tables that are alike behind a part -/
def alk (N p : Nat) (Y Y' : Nat → Nat) : Prop := ∀ q s i : Nat, p < q → q < N → s ≤ 7 → i ≤ 7 → Y (pl q s i) = Y' (pl q s i)
theorem pvT_cg {M : Int → Int} {lett : Int} {Y Y' R R' : Nat → Nat} {p n k top : Nat} (h : WF M) (hp : (p : Int) < M 2) (hn : n ≤ 7) (hk : k ≤ 7) (htop : top ≤ 7) (hY : alk 30 p Y Y') (hR : alk 24 p R R') : pvT M lett Y R p n k top = pvT M lett Y' R' p n k top := by
  have hM2 := h.2.2.1
  have hM0 := h.1
  obtain ⟨h1, h2, h3, h4, h5, h6⟩ := h.2.2.2.1 p hp
  unfold pvT
  by_cases s0 : M (24 + (p : Int)) = 0
  · rw [if_pos s0, if_pos s0]
  rw [if_neg s0, if_neg s0]
  by_cases s1 : M (24 + (p : Int)) = 1
  · rw [if_pos s1, if_pos s1]
  rw [if_neg s1, if_neg s1]
  by_cases s2 : M (24 + (p : Int)) = 2
  · have := h4 s2
    rw [if_pos s2, if_pos s2]
    exact hY _ n k (by omega) (by omega) hn hk
  rw [if_neg s2, if_neg s2]
  by_cases s7 : M (24 + (p : Int)) = 7
  · obtain ⟨q1, q2, q3⟩ := h5 s7
    rw [if_pos s7, if_pos s7]
    unfold xs
    refine sm_congr fun t ht => ?_
    have := q3.2.1 t (by omega)
    cases offM M (6 + p) t with
    | true => rfl
    | false =>
      simp only [Bool.false_eq_true, if_false]
      exact hR _ n k (by omega) (by omega) hn hk
  rw [if_neg s7, if_neg s7]
  have h6' := h6 (by omega)
  have hc : ∀ s i, s ≤ 7 → i ≤ 7 → Y (pl (M (72 + (p : Int))).toNat s i) = Y' (pl (M (72 + (p : Int))).toNat s i) := fun s i a b => hY _ s i (by omega) (by omega) a b
  refine inT_cg (fun _ j => ?_) (fun s i a1 a2 a3 => hc s i (by omega) (by omega))
  by_cases s3 : M (24 + (p : Int)) = 3
  · rw [if_pos s3, if_pos s3]
    exact tr_cg j n k (fun s i a1 a2 a3 => hc s i (by omega) (by omega))
  · rw [if_neg s3, if_neg s3, bgS_cg (c' := fun s i => Y' (pl (M (72 + (p : Int))).toNat s i)) (lt' := fun s => min s top) n (fun t _ => rfl) (fun t i a1 a2 a3 => hc t i (by omega) (by omega))]
theorem rs_cg {Y Y' R R' : Nat → Nat} {q : Int} {p n k : Nat} (hp : p < 30) (hq : q = -1 ∨ ((p : Int) < q ∧ q < 24)) (hn : n ≤ 7) (hk : k ≤ 7) (hY : ∀ s i : Nat, s ≤ n → i ≤ k → Y (pl p s i) = Y' (pl p s i)) (hR : alk 24 p R R') : rs Y R q p n k = rs Y' R' q p n k := by
  unfold rs
  by_cases z : q < 0
  · rw [if_pos z, if_pos z]; exact hY n k (Nat.le_refl _) (Nat.le_refl _)
  · rw [if_neg z, if_neg z]
    refine sm_congr fun s hs => sm_congr fun i hi => ?_
    rw [hY s i (by omega) (by omega), hR q.toNat (n - s) (k - i) (by omega) (by omega) (by omega) (by omega)]
/-- the equations of a part at a size -/
def eqP (M : Int → Int) (lett : Int) (L : Bool) (n : Nat) (Y R : Nat → Nat) (p : Nat) : Prop := ∀ k, k ≤ topf L n → Y (pl p n k) = min CC (pvT M lett Y R p n k (topf L n)) ∧ R (pl p n k) = min CC (rs Y R (M (96 + (p : Int))) p n k)
/-- what a walk over the parts leaves: those from p on are laid -/
def pst (M : Int → Int) (lett : Int) (L : Bool) (n : Nat) (Y0 R0 Y R : Nat → Nat) (p : Nat) : Prop :=
  (∀ q, p ≤ q → (q : Int) < M 2 → eqP M lett L n Y R q) ∧ (∀ j, j < 1920 → (∀ q k, p ≤ q → (q : Int) < M 2 → k ≤ topf L n → j ≠ pl q n k) → Y j = Y0 j) ∧ (∀ j, j < 1536 → (∀ q k, p ≤ q → (q : Int) < M 2 → k ≤ topf L n → j ≠ pl q n k) → R j = R0 j)
theorem pl_lt2 {q s i N : Nat} (hq : q < N) (hs : s ≤ 7) (hi : i ≤ 7) {B : Nat} (hB : N * 64 ≤ B) : pl q s i < B := Nat.lt_of_lt_of_le (pl_lt (by omega) (by omega) hq) hB
/-- one part more -/
theorem pst_step {M : Int → Int} {lett : Int} {L : Bool} {n p : Nat} {Y0 R0 Y R Y1 R1 : Nat → Nat} (h : WF M) (hp : (p : Int) < M 2) (hn : n ≤ 7) (hS : pst M lett L n Y0 R0 Y R (p + 1)) (h1 : ∀ j, j < 1920 → Y1 j = if ∃ k', k' < topf L n + 1 ∧ j = pl p n k' then min CC (pvT M lett Y R p n (j - pl p n 0) (topf L n)) else Y j) (h2 : ∀ j, j < 1536 → R1 j = if ∃ k', k' < topf L n + 1 ∧ j = pl p n k' then min CC (rs Y1 R (M (96 + (p : Int))) p n (j - pl p n 0)) else R j) : pst M lett L n Y0 R0 Y1 R1 p := by
  have hM2 := h.2.2.1
  have ht : topf L n ≤ 7 := Nat.le_trans topf_le hn
  have aY : alk 30 p Y Y1 := fun q s i a b c d => by
    rw [h1 _ (pl_lt2 b c d (by decide)), if_neg]
    rintro ⟨k', q1, q2⟩
    have := (pl_inj q2 (by omega) (by omega) (by omega) (by omega)).1
    omega
  have aR : alk 24 p R R1 := fun q s i a b c d => by
    rw [h2 _ (pl_lt2 b c d (by decide)), if_neg]
    rintro ⟨k', q1, q2⟩
    have := (pl_inj q2 (by omega) (by omega) (by omega) (by omega)).1
    omega
  refine ⟨fun q q1 q2 k hk => ?_, fun j hj hne => ?_, fun j hj hne => ?_⟩
  · have hq := (h.2.2.2.1 q q2).2.1
    by_cases e : q = p
    · subst e
      refine ⟨?_, ?_⟩
      · rw [h1 _ (pl_lt2 (N := 30) (by omega) (by omega) (by omega) (by decide)), if_pos ⟨k, by omega, rfl⟩, show pl q n k - pl q n 0 = k by unfold pl; omega, pvT_cg h q2 hn (by omega) ht aY aR]
      · rw [h2 _ (pl_lt2 (N := 24) (by omega) (by omega) (by omega) (by decide)), if_pos ⟨k, by omega, rfl⟩, show pl q n k - pl q n 0 = k by unfold pl; omega, rs_cg (by omega) (by omega) hn (by omega) (fun _ _ _ _ => rfl) aR]
    · obtain ⟨e1, e2⟩ := hS.1 q (by omega) q2 k hk
      have aY' : alk 30 q Y Y1 := fun r s i a b c d => aY r s i (by omega) b c d
      have aR' : alk 24 q R R1 := fun r s i a b c d => aR r s i (by omega) b c d
      refine ⟨?_, ?_⟩
      · rw [← aY q n k (by omega) (by omega) hn (by omega), e1, pvT_cg h q2 hn (by omega) ht aY' aR']
      · rw [← aR q n k (by omega) (by omega) hn (by omega), e2, rs_cg (by omega) (by omega) hn (by omega) (fun s i a b => aY q s i (by omega) (by omega) (by omega) (by omega)) aR']
  · rw [h1 j hj, if_neg]
    · exact hS.2.1 j hj (fun q k a b c => hne q k (by omega) b c)
    · rintro ⟨k', q1, q2⟩
      exact hne p k' (Nat.le_refl _) hp (by omega) q2
  · rw [h2 j hj, if_neg]
    · exact hS.2.2 j hj (fun q k a b c => hne q k (by omega) b c)
    · rintro ⟨k', q1, q2⟩
      exact hne p k' (Nat.le_refl _) hp (by omega) q2
theorem pst_thin {M : Int → Int} {lett : Int} {L : Bool} {n p : Nat} {Y0 R0 Y R : Nat → Nat} (hn : n ≤ 7) (h0 : thin L Y0) (hS : pst M lett L n Y0 R0 Y R p) : thin L Y := fun q s i q1 s1 i1 i2 => by
  rw [hS.2.1 _ (pl_lt2 q1 s1 i2 (by decide)) (fun q' k' a b c e => ?_)]
  · exact h0 q s i q1 s1 i1 i2
  · have ht : topf L n ≤ 7 := Nat.le_trans topf_le hn
    obtain ⟨-, e2, e3⟩ := pl_inj e (by omega) (by omega) (by omega) (by omega)
    subst e2; subst e3
    omega
/-- the walk over all parts at a size -/
theorem ct85 {M : Int → Int} {lett : Int} {L : Bool} {n : Nat} {Y0 R0 : Nat → Nat} (h : WF M) (hn : n ≤ 7) (hl : inI lett) (hth : thin L Y0) : ∀ (d f : Nat) (S : St) (v : Int), v = (d : Int) - 1 → v < M 2 → d < f → S 84 = M → nb S 90 1920 1000000000000 → nb S 91 1536 1000000000000 → pst M lett L n Y0 R0 (tb S 90) (tb S 91) d → wp (mX12_counts_85 ((topf L n : Nat) : Int) (n : Int) lett f v S) (fun S' => nb S' 90 1920 1000000000000 ∧ nb S' 91 1536 1000000000000 ∧ pst M lett L n Y0 R0 (tb S' 90) (tb S' 91) 0) := by
  have hM2 := h.2.2.1
  have ht : topf L n ≤ 7 := Nat.le_trans topf_le hn
  intro d
  induction d with
  | zero =>
    intro f S v hv hvM hf h84 h90 h91 hS
    obtain ⟨g, rfl⟩ : ∃ g, f = g + 1 := ⟨f - 1, by omega⟩
    rw [mX12_counts_85, gd_t (by omega), if_pos (by omega), wp_some]
    exact ⟨h90, h91, hS⟩
  | succ d ih =>
    intro f S v hv hvM hf h84 h90 h91 hS
    obtain ⟨g, rfl⟩ : ∃ g, f = g + 1 := ⟨f - 1, by omega⟩
    have ev : v = (d : Int) := by omega
    subst ev
    have hth1 := pst_thin hn hth hS
    rw [mX12_counts_85, gd_t (by omega), if_neg (by omega), wp_bd1]
    refine wp_mono (w_countsPart (S := S) (p := d) (n := n) (lett := lett) (L := L) (by rw [h84]; exact h) (by rw [h84]; exact hvM) hn hl h90 h91 hth1) (fun S1 q1 => ?_)
    obtain ⟨k1, n1, v1⟩ := q1
    have e84 := k1.cell 84 (by decide) (by decide)
    have e91 := k1.cell 91 (by decide) (by decide)
    have t91 : tb S1 91 = tb S 91 := by funext j; unfold tb; rw [e91]
    have hth2 : ∀ s i, s < i → i ≤ 7 → tb S1 90 (pl d s i) = 0 := fun s i a b => by
      rw [v1 _ (pl_lt2 (N := 30) (by omega) (by omega) b (by decide)), if_neg]
      · exact hth1 d s i (by omega) (by omega) (Nat.lt_of_le_of_lt topf_le a) b
      · rintro ⟨k', w1, w2⟩
        obtain ⟨-, w3, w4⟩ := pl_inj w2 (by omega) (by omega) (by omega) (by omega)
        have := topf_le (L := L) (n := n)
        omega
    rw [wp_bd1]
    refine wp_mono (w_countsRest (S := S1) (p := d) (n := n) (top := topf L n) (by rw [e84, h84]; exact h) (by rw [e84, h84]; exact hvM) hn ht n1 (by intro j hj; rw [e91]; exact h91 j hj) hth2) (fun S2 q2 => ?_)
    obtain ⟨k2, n2, v2⟩ := q2
    have f84 := k2.cell 84 (by decide) (by decide)
    have f90 := k2.cell 90 (by decide) (by decide)
    have t90 : tb S2 90 = tb S1 90 := by funext j; unfold tb; rw [f90]
    have st := pst_step (M := M) (p := d) h hvM hn hS (Y1 := tb S2 90) (R1 := tb S2 91) (fun j hj => by rw [t90, v1 j hj, h84]) (fun j hj => by rw [v2 j hj, t90, t91, e84, h84])
    have := ih g S2 ((d : Int) - 1) (by omega) (by omega) (by omega) (by rw [f84, e84, h84]) (by intro j hj; rw [f90]; exact n1 j hj) n2 st
    exact this
