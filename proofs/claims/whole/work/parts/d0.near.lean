/-! counts of what is not reached -/
/-- parts, tails, kinds, closed under what a step reads -/
def shut (M : Int → Int) (PO PT PK : Nat → Prop) : Prop :=
  (∀ p : Nat, (p : Int) < M 2 → PO p → (M (24 + (p : Int)) = 2 → PK (M (48 + (p : Int))).toNat) ∧ (M (24 + (p : Int)) = 7 → ∀ t : Nat, (t : Int) < M (198 + ((6 + p : Nat) : Int)) → PT (fpM M (6 + p) t).toNat) ∧ (3 ≤ M (24 + (p : Int)) ∧ M (24 + (p : Int)) ≤ 6 → PO (M (72 + (p : Int))).toNat)) ∧
  (∀ p : Nat, (p : Int) < M 2 → PT p → PO p ∧ (M (96 + (p : Int)) ≠ -1 → PT (M (96 + (p : Int))).toNat)) ∧
  (∀ e : Nat, (e : Int) < M 0 → PK e → ∀ t : Nat, (t : Int) < M (198 + (e : Int)) → offM M e t = false → PT (fpM M e t).toNat)
theorem pvC_evR {L lab : Bool} {m : Int} {M : Int → Int} {E TE KE : Nat → Prop} {rO rT rK : Nat → Nat} {PO PT PK : Nat → Prop} {O T K Y R : Nat → Nat} {p n k : Nat} (h : WF M) (hO : Ord M E TE KE rO rT rK) (sh : shut M PO PT PK) (hp : (p : Int) < M 2) (pp : PO p) (hn : n ≤ 7) (hk : k ≤ topf L n) (a0 : ∀ q s i : Nat, (q : Int) < M 2 → PO q → s < n → i ≤ topf L s → ev (O (pl q s i)) (Y (pl q s i))) (aO : ∀ q i : Nat, (q : Int) < M 2 → PO q → rO q < rO p → i ≤ topf L n → ev (O (pl q n i)) (Y (pl q n i))) (aT : ∀ q i : Nat, (q : Int) < M 2 → PT q → rT q < rO p → i ≤ topf L n → ev (T (pl q n i)) (R (pl q n i))) (aK : ∀ e i : Nat, (e : Int) < M 0 → PK e → rK e < rO p → i ≤ topf L n → ev (K (pl e n i)) (kY Y (pl e n i))) : ev (pvC L lab m M O T K p n k) (pvC L lab m M Y R (kY Y) p n k) := by
  have hM2 := h.2.2.1
  obtain ⟨h1, h2, h3, h4, h5, h6⟩ := h.2.2.2.1 p hp
  obtain ⟨o1, o2, o3, o4, o5, o6⟩ := hO.2.2.1 p hp
  obtain ⟨c2, c7, c3⟩ := sh.1 p hp pp
  unfold pvC
  by_cases s0 : M (24 + (p : Int)) = 0
  · rw [if_pos s0, if_pos s0]; exact ev.rf
  rw [if_neg s0, if_neg s0]
  by_cases s1 : M (24 + (p : Int)) = 1
  · rw [if_pos s1, if_pos s1]; exact ev.rf
  rw [if_neg s1, if_neg s1]
  by_cases s2 : M (24 + (p : Int)) = 2
  · have := h4 s2
    rw [if_pos s2, if_pos s2]
    exact aK _ k (by omega) (c2 s2) (o1 s2) hk
  rw [if_neg s2, if_neg s2]
  by_cases s7 : M (24 + (p : Int)) = 7
  · obtain ⟨q1, q2, q3⟩ := h5 s7
    rw [if_pos s7, if_pos s7]
    refine xs_ev (by omega) q3 (fun t ht => ?_)
    have q4 := q3.2.1 t ht
    exact aT _ k (by omega) (c7 s7 t ht) (o2 s7 t ht) hk
  rw [if_neg s7, if_neg s7]
  have h6' := h6 (by omega)
  have c3' := c3 (by omega)
  by_cases n0 : n = 0
  · rw [if_pos n0, if_pos n0]; exact ev.rf
  rw [if_neg n0, if_neg n0]
  by_cases w1 : M (48 + (p : Int)) = 1
  · rw [if_pos w1, if_pos w1]
    exact aO _ k (by omega) c3' (o3 ⟨by omega, by omega, by omega⟩) hk
  rw [if_neg w1, if_neg w1]
  refine sqv_ev ⟨by omega, by omega⟩ ⟨by omega, by omega⟩ ⟨by omega, hn⟩ (fun s i a b d => ?_)
  by_cases e : s < n
  · exact a0 _ s i (by omega) c3' e d
  · have e' : s = n := by omega
    subst e'
    exact aO _ i (by omega) c3' (o3 ⟨by omega, by omega, by omega⟩) d
theorem tlu_evR {L lab : Bool} {M : Int → Int} {E TE KE : Nat → Prop} {rO rT rK : Nat → Nat} {PO PT PK : Nat → Prop} {O T Y R : Nat → Nat} {p n k : Nat} (h : WF M) (hO : Ord M E TE KE rO rT rK) (sh : shut M PO PT PK) (hp : (p : Int) < M 2) (pp : PT p) (hn : n ≤ 7) (hk : k ≤ topf L n) (sS : ∀ q : Nat, (q : Int) < M 2 → (O (pl q 0 0) ≠ 0 → E q) ∧ (T (pl q 0 0) ≠ 0 → TE q)) (sY : ∀ q : Nat, (q : Int) < M 2 → (Y (pl q 0 0) ≠ 0 → E q) ∧ (R (pl q 0 0) ≠ 0 → TE q)) (a0 : ∀ q s i : Nat, (q : Int) < M 2 → s < n → i ≤ topf L s → (PO q → ev (O (pl q s i)) (Y (pl q s i))) ∧ (PT q → ev (T (pl q s i)) (R (pl q s i)))) (aO : ∀ q i : Nat, (q : Int) < M 2 → PO q → rO q < rT p → i ≤ topf L n → ev (O (pl q n i)) (Y (pl q n i))) (aT : ∀ q i : Nat, (q : Int) < M 2 → PT q → rT q < rT p → i ≤ topf L n → ev (T (pl q n i)) (R (pl q n i))) : ev (tlu L lab O T (M (96 + (p : Int))) p n k) (tlu L lab Y R (M (96 + (p : Int))) p n k) := by
  have hM2 := h.2.2.1
  obtain ⟨h1, h2, h3, h4, h5, h6⟩ := h.2.2.2.1 p hp
  obtain ⟨o1, o2, o3, o4, o5, o6⟩ := hO.2.2.1 p hp
  obtain ⟨cO, cN⟩ := sh.2.1 p hp pp
  unfold tlu
  by_cases z : M (96 + (p : Int)) = -1
  · rw [if_pos z, if_pos z]; exact aO p k hp cO (o4 z) hk
  rw [if_neg z, if_neg z]
  obtain ⟨q, hq⟩ : ∃ q : Nat, M (96 + (p : Int)) = (q : Int) := ⟨(M (96 + (p : Int))).toNat, by omega⟩
  have cQ := cN z
  rw [hq] at h2 o5 o6 cQ ⊢
  rw [show ((q : Int)).toNat = q from rfl] at o5 o6 cQ ⊢
  have hqM : (q : Int) < M 2 := by omega
  have t0 : topf L 0 = 0 := topf_0
  refine sm_ev fun i hi => sm_ev fun a ha => ?_
  unfold tm
  by_cases c : a ≤ k ∧ k - a ≤ topf L (n - i)
  · rw [if_pos c, if_pos c]
    dsimp only
    have cE : ¬ E p → O (pl p 0 0) = 0 ∧ Y (pl p 0 0) = 0 := fun hne => ⟨Classical.byContradiction fun w => hne ((sS p hp).1 w), Classical.byContradiction fun w => hne ((sY p hp).1 w)⟩
    have cT : ¬ TE q → T (pl q 0 0) = 0 ∧ R (pl q 0 0) = 0 := fun hne => ⟨Classical.byContradiction fun w => hne ((sS q hqM).2 w), Classical.byContradiction fun w => hne ((sY q hqM).2 w)⟩
    by_cases sn : i = n
    · subst sn
      rw [Nat.sub_self] at c ⊢
      have ka : k - a = 0 := by omega
      rw [ka]
      by_cases tq : TE q
      · have A := aO p a hp cO (o5 (by omega) tq) (by omega)
        rcases Nat.eq_zero_or_pos i with z0 | z0
        · subst z0
          have a00 : a = 0 := by omega
          subst a00
          by_cases ep : E p
          · exact ev_mul (ev_mul A ev.rf) (aT q 0 hqM cQ (o6 (by omega) ep) (by omega))
          · rw [(cE ep).1, (cE ep).2, Nat.zero_mul, Nat.zero_mul, Nat.zero_mul]; exact ev.rf
        · exact ev_mul (ev_mul A ev.rf) ((a0 q 0 0 hqM z0 (by omega)).2 cQ)
      · rw [(cT tq).1, (cT tq).2, Nat.mul_zero, Nat.mul_zero]; exact ev.rf
    · rcases Nat.eq_zero_or_pos i with z0 | z0
      · subst z0
        have a00 : a = 0 := by omega
        subst a00
        by_cases ep : E p
        · refine ev_mul (ev_mul ((a0 p 0 0 hp (by omega) (by omega)).1 cO) ev.rf) ?_
          rw [Nat.sub_zero] at c ⊢
          exact aT q _ hqM cQ (o6 (by omega) ep) c.2
        · rw [(cE ep).1, (cE ep).2, Nat.zero_mul, Nat.zero_mul, Nat.zero_mul]; exact ev.rf
      · exact ev_mul (ev_mul ((a0 p i a hp (by omega) (by omega)).1 cO) ev.rf) ((a0 q (n - i) (k - a) hqM (by omega) c.2).2 cQ)
  · rw [if_neg c, if_neg c]; exact ev.rf
theorem xs6 {M M' : Int → Int} {R : Nat → Nat} {e : Nat} {lo : Int} (h6 : same6 M M') (hE : okE M lo e) (ho : ∀ t : Nat, (t : Int) < M (198 + (e : Int)) → offM M' e t = offM M e t) : xs M' R e = xs M R e := by
  unfold xs
  rw [h6 (198 + (e : Int)) (by omega)]
  refine sm_congr fun t ht => ?_
  have ht' : (t : Int) < M (198 + (e : Int)) := by omega
  rw [ho t ht', (tl6 h6 hE).2 t ht']
theorem pvC6 {L lab : Bool} {m : Int} {M M' : Int → Int} {O T K : Nat → Nat} {p n k : Nat} (h : WF M) (h6 : same6 M M') (hp : (p : Int) < M 2) : pvC L lab m M' O T K p n k = pvC L lab m M O T K p n k := by
  obtain ⟨h1, h2, h3, h4, h5, h6'⟩ := h.2.2.2.1 p hp
  unfold pvC sqv
  rw [h6 (24 + (p : Int)) (by omega), h6 (48 + (p : Int)) (by omega), h6 (72 + (p : Int)) (by omega)]
  by_cases s7 : M (24 + (p : Int)) = 7
  · rw [xs6 h6 (h5 s7).2.2 (fun t _ => by unfold offM; rw [decide_eq_false (by omega)]; rfl)]
  · rw [if_neg s7, if_neg s7]
/-- kinds that do not reach a changed term keep their numbers -/
theorem sol_near {L lab : Bool} {m : Int} {M M' : Int → Int} {E TE KE : Nat → Prop} {rO rT rK : Nat → Nat} {PO PT PK : Nat → Prop} {Y R Y' R' : Nat → Nat} (h : WF M) (hO : Ord M E TE KE rO rT rK) (h6 : same6 M M') (sh : shut M PO PT PK) (off : ∀ e t : Nat, (e : Int) < M 0 → PK e → offM M' e t = offM M e t) (s1 : sol L lab m M E TE Y R) (s2 : sol L lab m M' E TE Y' R') : ∀ n, n ≤ 7 → (∀ p k : Nat, (p : Int) < M 2 → k ≤ topf L n → (PO p → ev (Y (pl p n k)) (Y' (pl p n k))) ∧ (PT p → ev (R (pl p n k)) (R' (pl p n k)))) ∧ (∀ e k : Nat, (e : Int) < M 0 → PK e → k ≤ topf L n → ev (Y (pl (24 + e) n k)) (Y' (pl (24 + e) n k))) := by
  have m2 := h6 2 (by omega)
  have m0 := h6 0 (by omega)
  intro n
  induction n using Nat.strongRecOn with
  | ind n ih =>
    intro hn
    have key : ∀ N : Nat, (∀ p k : Nat, (p : Int) < M 2 → k ≤ topf L n → (PO p → rO p < N → ev (Y (pl p n k)) (Y' (pl p n k))) ∧ (PT p → rT p < N → ev (R (pl p n k)) (R' (pl p n k)))) ∧ (∀ e k : Nat, (e : Int) < M 0 → PK e → k ≤ topf L n → rK e < N → ev (Y (pl (24 + e) n k)) (Y' (pl (24 + e) n k))) := by
      intro N
      induction N with
      | zero => exact ⟨fun p k _ _ => ⟨fun _ x => by omega, fun _ x => by omega⟩, fun e k _ _ _ x => by omega⟩
      | succ N jh =>
        refine ⟨fun p k hp hk => ⟨fun pp hr => ?_, fun pp hr => ?_⟩, fun e k he pe hk hr => ?_⟩
        · refine (((s1.1 p n k hp hn hk).1).tr ?_).tr ((s2.1 p n k (by rw [m2]; exact hp) hn hk).1).sm
          rw [pvC6 h h6 hp]
          exact pvC_evR (rO := rO) (rT := rT) (rK := rK) h hO sh hp pp hn hk (fun q s i a b c d => ((ih s c (by omega)).1 q i a d).1 b) (fun q i a b c d => (jh.1 q i a d).1 b (by omega)) (fun q i a b c d => (jh.1 q i a d).2 b (by omega)) (fun e i a b c d => by rw [kY_pl, kY_pl]; exact jh.2 e i a b d (by omega))
        · refine (((s1.1 p n k hp hn hk).2).tr ?_).tr ((s2.1 p n k (by rw [m2]; exact hp) hn hk).2).sm
          rw [h6 (96 + (p : Int)) (by omega)]
          exact tlu_evR (rO := rO) (rT := rT) (rK := rK) h hO sh hp pp hn hk s1.2.2 (fun q hq => s2.2.2 q (by rw [m2]; exact hq)) (fun q s i a b c => (ih s b (by omega)).1 q i a c) (fun q i a b c d => (jh.1 q i a d).1 b (by omega)) (fun q i a b c d => (jh.1 q i a d).2 b (by omega))
        · have hE := h.2.2.2.2.1 e he
          refine ((s1.2.1 e n k he hn hk).tr ?_).tr (s2.2.1 e n k (by rw [m0]; exact he) hn hk).sm
          rw [xs6 h6 hE (fun t _ => off e t he pe)]
          unfold xs
          refine sm_ev fun t ht => ?_
          have ht' : (t : Int) < M (198 + (e : Int)) := by omega
          have q4 := hE.2.1 t ht'
          have := hO.2.2.2 e he t ht'
          cases ho : offM M e t with
          | true => exact ev.rf
          | false =>
            exact (jh.1 _ k (by omega) hk).2 (sh.2.2 e he pe t ht' ho) (by omega)
    exact ⟨fun p k hp hk => ⟨fun pp => ((key (rO p + 1)).1 p k hp hk).1 pp (by omega), fun pp => ((key (rT p + 1)).1 p k hp hk).2 pp (by omega)⟩, fun e k he pe hk => (key (rK e + 1)).2 e k he pe hk (by omega)⟩
