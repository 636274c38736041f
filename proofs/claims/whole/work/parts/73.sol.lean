/-! counts up to what is told: what a step needs -/
def trc (L : Bool) (n : Nat) (c : Nat → Nat → Nat) (s i : Nat) : Nat := if 1 ≤ s ∧ s ≤ n ∧ i ≤ topf L s then c s i else 0
theorem trc_cut {L : Bool} {n : Nat} {c : Nat → Nat → Nat} {s i : Nat} (h1 : 1 ≤ s) (h2 : s ≤ n) : cut L c s i = trc L n c s i := by
  unfold cut trc
  by_cases z : i ≤ topf L s
  · rw [if_pos z, if_pos ⟨h1, h2, z⟩]
  · rw [if_neg z, if_neg (by omega)]
theorem trc_ev {L : Bool} {n : Nat} {c c' : Nat → Nat → Nat} (h : ∀ s i, 1 ≤ s → s ≤ n → i ≤ topf L s → ev (c s i) (c' s i)) (s i : Nat) : ev (trc L n c s i) (trc L n c' s i) := by
  unfold trc
  by_cases z : 1 ≤ s ∧ s ≤ n ∧ i ≤ topf L s
  · rw [if_pos z, if_pos z]; exact h s i z.1 z.2.1 z.2.2
  · rw [if_neg z, if_neg z]; exact ev.rf
theorem bgI_ev {once : Bool} {c c' : Nat → Nat → Nat} {s : Nat} {T T' : Nat → Nat → Nat → Nat} (hT : ∀ j n k, j ≤ 7 → ev (T j n k) (T' j n k)) : ∀ m, (∀ i, i < m → ev (c s i) (c' s i)) → ∀ j n k, j ≤ 7 → ev (bgI once c s T m j n k) (bgI once c' s T' m j n k) := by
  intro m
  induction m with
  | zero => intro _; exact hT
  | succ m ih =>
    intro h j n k hj
    show ev (addC (ch once (c s m)) s m (bgI once c s T m) j n k) (addC (ch once (c' s m)) s m (bgI once c' s T' m) j n k)
    exact addC_evB (fun q hq => ch_ev (h m (by omega)) (by omega)) (fun j' n' k' a _ _ => ih (fun i hi => h i (by omega)) j' n' k' (by omega))
theorem bgS_ev {once : Bool} {c c' : Nat → Nat → Nat} {lt : Nat → Nat} : ∀ s, (∀ t i, 1 ≤ t → t ≤ s → i ≤ lt t → ev (c t i) (c' t i)) → ∀ j n k, j ≤ 7 → ev (bgS once c lt s j n k) (bgS once c' lt s j n k) := by
  intro s
  induction s with
  | zero => intro _ j n k _; exact ev.rf
  | succ s ih =>
    intro h
    exact bgI_ev (ih (fun t i a b d => h t i a (by omega) d)) _ (fun i hi => h (s + 1) i (by omega) (by omega) (by omega))
theorem sq1_ev {L lab : Bool} {M : Int → Int} {c c' : Nat → Nat → Nat} {p j n k : Nat} (hj : j ≤ 7) (hn : n ≤ 7) (h : ∀ s i, 1 ≤ s → (s < n ∨ (s = n ∧ j ≤ 1)) → i ≤ topf L s → ev (c s i) (c' s i)) : ev (sq1 L lab M c p j n k) (sq1 L lab M c' p j n k) := by
  have hj0 : j = 0 ∨ 1 ≤ j := by omega
  -- below the size, or all
  by_cases j1 : j ≤ 1
  · have h' : ∀ s i, 1 ≤ s → s ≤ n → i ≤ topf L s → ev (c s i) (c' s i) := fun s i a b d => h s i a (by omega) d
    have T := trc_ev h'
    have e1 : ∀ c : Nat → Nat → Nat, tl (fun s => cut L c s 0) j n = tl (fun s => trc L n c s 0) j n := fun c => tl_cg j n (fun s a b => trc_cut a b)
    have e2 : ∀ c : Nat → Nat → Nat, rgu (cut L c) j n k = rgu (trc L n c) j n k := fun c => rgu_cg (fun s i a b _ => trc_cut a b)
    have e3 : ∀ c : Nat → Nat → Nat, tr (cut L c) j n k = tr (trc L n c) j n k := fun c => tr_cg j n k (fun s i a b _ => trc_cut a b)
    unfold sq1
    rw [e1, e1, e2, e2, e3, e3]
    cases lab with
    | true =>
      simp only [if_true]
      rcases Nat.eq_zero_or_pos (dv (M (24 + (p : Int))) j) with z | z
      · rw [z, Nat.div_zero, Nat.div_zero]; exact ev.rf
      · exact lab_ev (fun s => T s 0) ⟨z, dv_fac⟩
    | false =>
      simp only [Bool.false_eq_true, if_false]
      by_cases s6 : M (24 + (p : Int)) = 6
      · rw [if_pos s6, if_pos s6]
        rcases hj0 with z | z
        · rw [z, Nat.div_zero, Nat.div_zero]; exact ev.rf
        · exact ring_ev T ⟨z, hj⟩
      · rw [if_neg s6, if_neg s6]
        by_cases s3 : M (24 + (p : Int)) = 3
        · rw [if_pos s3, if_pos s3]; exact tr_ev T j n k
        · rw [if_neg s3, if_neg s3]; exact bgS_ev n h' j n k hj
  · have h' : ∀ s i, 1 ≤ s → s ≤ n - 1 → i ≤ topf L s → ev (c s i) (c' s i) := fun s i a b d => h s i a (by omega) d
    have T := trc_ev h'
    have e1 : ∀ c : Nat → Nat → Nat, tl (fun s => cut L c s 0) j n = tl (fun s => trc L (n - 1) c s 0) j n := fun c => tl_cl (by omega) (fun s a b => trc_cut a (by omega))
    have e2 : ∀ c : Nat → Nat → Nat, rgu (cut L c) j n k = rgu (trc L (n - 1) c) j n k := fun c => rgu_cl (by omega) (fun s i a b _ => trc_cut a (by omega))
    have e3 : ∀ c : Nat → Nat → Nat, tr (cut L c) j n k = tr (trc L (n - 1) c) j n k := fun c => tr_cl (by omega) (fun s i a b _ => trc_cut a (by omega))
    unfold sq1
    rw [e1, e1, e2, e2, e3, e3]
    cases lab with
    | true =>
      simp only [if_true]
      rcases Nat.eq_zero_or_pos (dv (M (24 + (p : Int))) j) with z | z
      · rw [z, Nat.div_zero, Nat.div_zero]; exact ev.rf
      · exact lab_ev (fun s => T s 0) ⟨z, dv_fac⟩
    | false =>
      simp only [Bool.false_eq_true, if_false]
      by_cases s6 : M (24 + (p : Int)) = 6
      · rw [if_pos s6, if_pos s6]
        exact ring_ev T ⟨by omega, hj⟩
      · rw [if_neg s6, if_neg s6]
        by_cases s3 : M (24 + (p : Int)) = 3
        · rw [if_pos s3, if_pos s3]; exact tr_ev T j n k
        · rw [if_neg s3, if_neg s3]
          rcases Nat.eq_zero_or_pos n with z | z
          · subst z; exact ev.rf
          · rw [bgS_top1 (by omega) z, bgS_top1 (by omega) z]
            exact bgS_ev (n - 1) h' j n k hj
theorem sqv_ev {L lab : Bool} {M : Int → Int} {c c' : Nat → Nat → Nat} {p n k : Nat} (hs : 3 ≤ M (24 + (p : Int)) ∧ M (24 + (p : Int)) ≤ 6) (hnum : 0 ≤ M (48 + (p : Int)) ∧ M (48 + (p : Int)) ≤ 7) (hn : 1 ≤ n ∧ n ≤ 7) (h : ∀ s i, 1 ≤ s → (s < n ∨ (s = n ∧ M (48 + (p : Int)) ≤ 1)) → i ≤ topf L s → ev (c s i) (c' s i)) : ev (sqv L lab M c p n k) (sqv L lab M c' p n k) := by
  by_cases z : M (48 + (p : Int)) = 0
  · rw [sqv_sum hs hn.1 z, sqv_sum hs hn.1 z]
    exact sm_ev fun j hj => sq1_ev (by omega) hn.2 (fun s i a b d => h s i a (by omega) d)
  · rw [sqv_one hs (by omega), sqv_one hs (by omega)]
    by_cases w : lab = true ∧ (n : Int) < M (48 + (p : Int))
    · rw [if_pos w, if_pos w]; exact ev.rf
    · rw [if_neg w, if_neg w]
      exact sq1_ev (by omega) hn.2 (fun s i a b d => h s i a (by omega) d)
/-- the kinds' numbers behind those of the parts -/
def kY (Y : Nat → Nat) (x : Nat) : Nat := Y (1536 + x)
theorem kY_pl {Y : Nat → Nat} {e n k : Nat} : kY Y (pl e n k) = Y (pl (24 + e) n k) := by unfold kY pl; congr 1; omega
def tlu (L lab : Bool) (O T : Nat → Nat) (q : Int) (p n k : Nat) : Nat := if q = -1 then O (pl p n k) else tsum L lab n (fun s i => O (pl p s i)) (fun s i => T (pl q.toNat s i)) k (n + 1)
/-- numbers that satisfy all equations, up to what is told -/
def sol (L lab : Bool) (m : Int) (M : Int → Int) (E TE : Nat → Prop) (Y R : Nat → Nat) : Prop :=
  (∀ p n k : Nat, (p : Int) < M 2 → n ≤ 7 → k ≤ topf L n → ev (Y (pl p n k)) (pvC L lab m M Y R (kY Y) p n k) ∧ ev (R (pl p n k)) (tlu L lab Y R (M (96 + (p : Int))) p n k)) ∧
  (∀ e n k : Nat, (e : Int) < M 0 → n ≤ 7 → k ≤ topf L n → ev (Y (pl (24 + e) n k)) (xs M (fun q => R (pl q n k)) e)) ∧
  (∀ p : Nat, (p : Int) < M 2 → (Y (pl p 0 0) ≠ 0 → E p) ∧ (R (pl p 0 0) ≠ 0 → TE p))
/-- a part's step, where what it needs is right -/
theorem pvC_ev {L lab : Bool} {m : Int} {M : Int → Int} {E TE KE : Nat → Prop} {rO rT rK : Nat → Nat} {O T K Y R : Nat → Nat} {p n k : Nat} (h : WF M) (hO : Ord M E TE KE rO rT rK) (hp : (p : Int) < M 2) (hn : n ≤ 7) (hk : k ≤ topf L n) (a0 : ∀ q s i : Nat, (q : Int) < M 2 → s < n → i ≤ topf L s → ev (O (pl q s i)) (Y (pl q s i))) (aO : ∀ q i : Nat, (q : Int) < M 2 → rO q < rO p → i ≤ topf L n → ev (O (pl q n i)) (Y (pl q n i))) (aT : ∀ q i : Nat, (q : Int) < M 2 → rT q < rO p → i ≤ topf L n → ev (T (pl q n i)) (R (pl q n i))) (aK : ∀ e i : Nat, (e : Int) < M 0 → rK e < rO p → i ≤ topf L n → ev (K (pl e n i)) (kY Y (pl e n i))) : ev (pvC L lab m M O T K p n k) (pvC L lab m M Y R (kY Y) p n k) := by
  have hM2 := h.2.2.1
  obtain ⟨h1, h2, h3, h4, h5, h6⟩ := h.2.2.2.1 p hp
  obtain ⟨o1, o2, o3, o4, o5, o6⟩ := hO.2.2.1 p hp
  unfold pvC
  by_cases s0 : M (24 + (p : Int)) = 0
  · rw [if_pos s0, if_pos s0]; exact ev.rf
  rw [if_neg s0, if_neg s0]
  by_cases s1 : M (24 + (p : Int)) = 1
  · rw [if_pos s1, if_pos s1]; exact ev.rf
  rw [if_neg s1, if_neg s1]
  by_cases s2 : M (24 + (p : Int)) = 2
  · have := h4 s2
    rw [if_pos s2, if_pos s2]
    exact aK _ k (by omega) (o1 s2) hk
  rw [if_neg s2, if_neg s2]
  by_cases s7 : M (24 + (p : Int)) = 7
  · obtain ⟨q1, q2, q3⟩ := h5 s7
    rw [if_pos s7, if_pos s7]
    refine xs_ev (by omega) q3 (fun t ht => ?_)
    have q4 := q3.2.1 t ht
    exact aT _ k (by omega) (o2 s7 t ht) hk
  rw [if_neg s7, if_neg s7]
  have h6' := h6 (by omega)
  by_cases n0 : n = 0
  · rw [if_pos n0, if_pos n0]; exact ev.rf
  rw [if_neg n0, if_neg n0]
  by_cases w1 : M (48 + (p : Int)) = 1
  · rw [if_pos w1, if_pos w1]
    exact aO _ k (by omega) (o3 ⟨by omega, by omega, by omega⟩) hk
  rw [if_neg w1, if_neg w1]
  refine sqv_ev ⟨by omega, by omega⟩ ⟨by omega, by omega⟩ ⟨by omega, hn⟩ (fun s i a b d => ?_)
  by_cases e : s < n
  · exact a0 _ s i (by omega) e d
  · have e' : s = n := by omega
    subst e'
    exact aO _ i (by omega) (o3 ⟨by omega, by omega, by omega⟩) d
/-- a tail's step -/
theorem tlu_ev {L lab : Bool} {M : Int → Int} {E TE KE : Nat → Prop} {rO rT rK : Nat → Nat} {O T Y R : Nat → Nat} {p n k : Nat} (h : WF M) (hO : Ord M E TE KE rO rT rK) (hp : (p : Int) < M 2) (hn : n ≤ 7) (hk : k ≤ topf L n) (sS : ∀ q : Nat, (q : Int) < M 2 → (O (pl q 0 0) ≠ 0 → E q) ∧ (T (pl q 0 0) ≠ 0 → TE q)) (sY : ∀ q : Nat, (q : Int) < M 2 → (Y (pl q 0 0) ≠ 0 → E q) ∧ (R (pl q 0 0) ≠ 0 → TE q)) (a0 : ∀ q s i : Nat, (q : Int) < M 2 → s < n → i ≤ topf L s → ev (O (pl q s i)) (Y (pl q s i)) ∧ ev (T (pl q s i)) (R (pl q s i))) (aO : ∀ q i : Nat, (q : Int) < M 2 → rO q < rT p → i ≤ topf L n → ev (O (pl q n i)) (Y (pl q n i))) (aT : ∀ q i : Nat, (q : Int) < M 2 → rT q < rT p → i ≤ topf L n → ev (T (pl q n i)) (R (pl q n i))) : ev (tlu L lab O T (M (96 + (p : Int))) p n k) (tlu L lab Y R (M (96 + (p : Int))) p n k) := by
  have hM2 := h.2.2.1
  obtain ⟨h1, h2, h3, h4, h5, h6⟩ := h.2.2.2.1 p hp
  obtain ⟨o1, o2, o3, o4, o5, o6⟩ := hO.2.2.1 p hp
  unfold tlu
  by_cases z : M (96 + (p : Int)) = -1
  · rw [if_pos z, if_pos z]; exact aO p k hp (o4 z) hk
  rw [if_neg z, if_neg z]
  obtain ⟨q, hq⟩ : ∃ q : Nat, M (96 + (p : Int)) = (q : Int) := ⟨(M (96 + (p : Int))).toNat, by omega⟩
  rw [hq] at h2 o5 o6 ⊢
  rw [show ((q : Int)).toNat = q from rfl] at o5 o6 ⊢
  have hqM : (q : Int) < M 2 := by omega
  have t0 : topf L 0 = 0 := topf_0
  refine sm_ev fun i hi => sm_ev fun a ha => ?_
  unfold tm
  by_cases c : a ≤ k ∧ k - a ≤ topf L (n - i)
  · rw [if_pos c, if_pos c]
    dsimp only
    have cE : ¬ E p → O (pl p 0 0) = 0 ∧ Y (pl p 0 0) = 0 := fun hne => ⟨Classical.byContradiction fun w => hne ((sS p hp).1 w), Classical.byContradiction fun w => hne ((sY p hp).1 w)⟩
    have cT : ¬ TE q → T (pl q 0 0) = 0 ∧ R (pl q 0 0) = 0 := fun hne => ⟨Classical.byContradiction fun w => hne ((sS q hqM).2 w), Classical.byContradiction fun w => hne ((sY q hqM).2 w)⟩
    by_cases sn : i = n
    · subst sn
      rw [Nat.sub_self] at c ⊢
      have ka : k - a = 0 := by omega
      rw [ka]
      by_cases tq : TE q
      · have A := aO p a hp (o5 (by omega) tq) (by omega)
        rcases Nat.eq_zero_or_pos i with z0 | z0
        · subst z0
          have a00 : a = 0 := by omega
          subst a00
          by_cases ep : E p
          · exact ev_mul (ev_mul A ev.rf) (aT q 0 hqM (o6 (by omega) ep) (by omega))
          · rw [(cE ep).1, (cE ep).2, Nat.zero_mul, Nat.zero_mul, Nat.zero_mul]; exact ev.rf
        · exact ev_mul (ev_mul A ev.rf) (a0 q 0 0 hqM z0 (by omega)).2
      · rw [(cT tq).1, (cT tq).2, Nat.mul_zero, Nat.mul_zero]; exact ev.rf
    · rcases Nat.eq_zero_or_pos i with z0 | z0
      · subst z0
        have a00 : a = 0 := by omega
        subst a00
        by_cases ep : E p
        · refine ev_mul (ev_mul (a0 p 0 0 hp (by omega) (by omega)).1 ev.rf) ?_
          rw [Nat.sub_zero] at c ⊢
          exact aT q _ hqM (o6 (by omega) ep) c.2
        · rw [(cE ep).1, (cE ep).2, Nat.zero_mul, Nat.zero_mul, Nat.zero_mul]; exact ev.rf
      · exact ev_mul (ev_mul (a0 p i a hp (by omega) (by omega)).1 ev.rf) (a0 q (n - i) (k - a) hqM (by omega) c.2).2
  · rw [if_neg c, if_neg c]; exact ev.rf
