/-! two or more things: none is as large as all of them -/
theorem tr_cl {c c' : Nat → Nat → Nat} {j n k : Nat} (hj : 2 ≤ j) (h : ∀ s i, 1 ≤ s → s < n → i ≤ k → c s i = c' s i) : tr c j n k = tr c' j n k := by
  obtain ⟨m, rfl⟩ : ∃ m, j = m + 2 := ⟨j - 2, by omega⟩
  refine s2_congr fun s i h1 h2 h3 => ?_
  by_cases e : s = n
  · subst e
    rw [tr_small (m + 1) (s - s) (k - i) (by omega), tr_small (m + 1) (s - s) (k - i) (by omega), Nat.mul_zero, Nat.mul_zero]
  · rw [h s i h1 (by omega) h3, tr_cg (m + 1) (n - s) (k - i) (fun t l t1 t2 t3 => h t l t1 (by omega) (by omega))]
theorem rgu_cl {c c' : Nat → Nat → Nat} {N n k : Nat} (hN : 2 ≤ N) (h : ∀ s i, 1 ≤ s → s < n → i ≤ k → c s i = c' s i) : rgu c N n k = rgu c' N n k := by
  refine sm_congr fun d hd => ?_
  by_cases q : N % (d + 1) = 0 ∧ n % (d + 1) = 0 ∧ k % (d + 1) = 0
  · rw [if_pos q, if_pos q]
    congr 1
    have h2 := Nat.div_le_self k (d + 1)
    by_cases d0 : d = 0
    · subst d0
      rw [Nat.div_one, Nat.div_one, Nat.div_one]
      exact tr_cl hN h
    · rcases Nat.eq_zero_or_pos n with z | z
      · subst z
        rw [Nat.zero_div]
        exact tr_cg _ _ _ (fun s i a1 a2 _ => by omega)
      · have h1 : n / (d + 1) < n := Nat.div_lt_self z (by omega)
        exact tr_cg _ _ _ (fun s i a1 a2 a3 => h s i a1 (by omega) (by omega))
  · rw [if_neg q, if_neg q]
theorem bgI_top {once : Bool} {c : Nat → Nat → Nat} {n : Nat} {T : Nat → Nat → Nat → Nat} (hn : 1 ≤ n) (hT : ∀ j n k, n < j → T j n k = 0) {j : Nat} (hj : 2 ≤ j) : ∀ m k, bgI once c n T m j n k = T j n k := by
  intro m
  induction m with
  | zero => intro k; rfl
  | succ m ih =>
    intro k
    show addC (ch once (c n m)) n m (bgI once c n T m) j n k = T j n k
    unfold addC
    rw [sm_cut (x := 1) (by omega) (fun q h1 h2 => ?_), sm_s, sm_0, Nat.zero_add, if_pos (by omega), show ch once (c n m) 0 = 1 by unfold ch; rw [if_pos rfl], Nat.one_mul]
    · simp only [Nat.zero_mul, Nat.sub_zero]
      exact ih k
    · by_cases w : q * n ≤ n ∧ q * m ≤ k
      · rw [if_pos w]
        have e : q = 1 := by
          have : q * n < 2 * n := by omega
          have := Nat.lt_of_mul_lt_mul_right this
          omega
        subst e
        rw [bg_small hn hT m (j - 1) (n - 1 * n) (k - 1 * m) (by omega), Nat.mul_zero]
      · rw [if_neg w]
theorem bgS_cl {once : Bool} {c c' : Nat → Nat → Nat} {lt : Nat → Nat} {j n k : Nat} (hj : 2 ≤ j) (h : ∀ s i, 1 ≤ s → s < n → i ≤ lt s → c s i = c' s i) : bgS once c lt n j n k = bgS once c' lt n j n k := by
  cases n with
  | zero => rfl
  | succ n =>
    show bgI once c (n + 1) (bgS once c lt n) (lt (n + 1) + 1) j (n + 1) k = bgI once c' (n + 1) (bgS once c' lt n) (lt (n + 1) + 1) j (n + 1) k
    rw [bgI_top (by omega) (bgS_small n) hj, bgI_top (by omega) (bgS_small n) hj, bgS_cg (c' := c') (lt' := lt) n (fun _ _ => rfl) (fun t i t1 t2 t3 => h t i t1 (by omega) t3)]
theorem inT_cl {ring : Bool} {T T' : Nat → Nat → Nat → Nat} {c c' : Nat → Nat → Nat} {num n k : Nat} (hnum : 2 ≤ num) (hT : ring = false → T num n k = T' num n k) (hc : ∀ s i, 1 ≤ s → s < n → i ≤ k → c s i = c' s i) : inT ring T c num n k = inT ring T' c' num n k := by
  unfold inT
  rw [if_neg (show ¬ num = 0 by omega), if_neg (show ¬ num = 0 by omega)]
  cases ring with
  | true => simp only [if_true]; rw [rgu_cl hnum hc]
  | false => simp only [Bool.false_eq_true, if_false]; exact hT rfl
/-- an order of counting: E, TE, KE: parts, tails, kinds that may have a thing of size 0; rO, rT, rK: ranks -/
def Ord (M : Int → Int) (E TE KE : Nat → Prop) (rO rT rK : Nat → Nat) : Prop :=
  (∀ p : Nat, (p : Int) < M 2 → (M (24 + (p : Int)) = 1 → E p) ∧ (M (24 + (p : Int)) = 2 → KE (M (48 + (p : Int))).toNat → E p) ∧ (M (24 + (p : Int)) = 7 → ∀ t : Nat, (t : Int) < M (198 + ((6 + p : Nat) : Int)) → TE (fpM M (6 + p) t).toNat → E p) ∧ (3 ≤ M (24 + (p : Int)) ∧ M (24 + (p : Int)) ≤ 5 ∧ M (48 + (p : Int)) = 0 → E p) ∧ (E p → M (96 + (p : Int)) = -1 → TE p) ∧ (E p → 0 ≤ M (96 + (p : Int)) → TE (M (96 + (p : Int))).toNat → TE p)) ∧
  (∀ e : Nat, (e : Int) < M 0 → ∀ t : Nat, (t : Int) < M (198 + (e : Int)) → TE (fpM M e t).toNat → KE e) ∧
  (∀ p : Nat, (p : Int) < M 2 → (M (24 + (p : Int)) = 2 → rK (M (48 + (p : Int))).toNat < rO p) ∧ (M (24 + (p : Int)) = 7 → ∀ t : Nat, (t : Int) < M (198 + ((6 + p : Nat) : Int)) → rT (fpM M (6 + p) t).toNat < rO p) ∧ (3 ≤ M (24 + (p : Int)) ∧ M (24 + (p : Int)) ≤ 6 ∧ M (48 + (p : Int)) ≤ 1 → rO (M (72 + (p : Int))).toNat < rO p) ∧ (M (96 + (p : Int)) = -1 → rO p < rT p) ∧ (0 ≤ M (96 + (p : Int)) → TE (M (96 + (p : Int))).toNat → rO p < rT p) ∧ (0 ≤ M (96 + (p : Int)) → E p → rT (M (96 + (p : Int))).toNat < rT p)) ∧
  (∀ e : Nat, (e : Int) < M 0 → ∀ t : Nat, (t : Int) < M (198 + (e : Int)) → rT (fpM M e t).toNat < rK e)
/-- only what may be empty has a thing of size 0 -/
def sup (M : Int → Int) (E TE : Nat → Prop) (Y R : Nat → Nat) : Prop := ∀ p i : Nat, (p : Int) < M 2 → i ≤ 7 → (Y (pl p 0 i) ≠ 0 → E p) ∧ (R (pl p 0 i) ≠ 0 → TE p)
theorem dep {M : Int → Int} {lett : Int} {L : Bool} {n : Nat} {E TE KE : Nat → Prop} {rO rT rK : Nat → Nat} {Y R Y' R' : Nat → Nat} (h : WF M) (hn : n ≤ 7) (hO : Ord M E TE KE rO rT rK) (s1 : sup M E TE Y R) (s2' : sup M E TE Y' R') (e1 : ∀ p : Nat, (p : Int) < M 2 → eqP M lett L n Y R p) (e2 : ∀ p : Nat, (p : Int) < M 2 → eqP M lett L n Y' R' p) (bs : ∀ p s i : Nat, (p : Int) < M 2 → s < n → i ≤ 7 → Y (pl p s i) = Y' (pl p s i) ∧ R (pl p s i) = R' (pl p s i)) : ∀ N p : Nat, (p : Int) < M 2 → (rO p < N → (∀ e : Nat, (e : Int) < M 0 → rK e < rO p → ∀ k, k ≤ topf L n → Y (pl (24 + e) n k) = Y' (pl (24 + e) n k)) → ∀ k, k ≤ topf L n → Y (pl p n k) = Y' (pl p n k)) ∧ (rT p < N → (∀ e : Nat, (e : Int) < M 0 → rK e < rT p → ∀ k, k ≤ topf L n → Y (pl (24 + e) n k) = Y' (pl (24 + e) n k)) → ∀ k, k ≤ topf L n → R (pl p n k) = R' (pl p n k)) := by
  have hM2 := h.2.2.1
  have ht : topf L n ≤ 7 := Nat.le_trans topf_le hn
  obtain ⟨-, -, hO, -⟩ := hO
  intro N
  induction N with
  | zero => intro p hp; exact ⟨fun hr => by omega, fun hr => by omega⟩
  | succ N ih =>
    intro p hp
    obtain ⟨h1, h2, h3, h4, h5, h6⟩ := h.2.2.2.1 p hp
    obtain ⟨o1, o2, o3, o4, o5, o6⟩ := hO p hp
    refine ⟨fun hr hA k hk => ?_, fun hr hA k hk => ?_⟩
    · rw [(e1 p hp k hk).1, (e2 p hp k hk).1]
      congr 1
      unfold pvT
      by_cases s0 : M (24 + (p : Int)) = 0
      · rw [if_pos s0, if_pos s0]
      rw [if_neg s0, if_neg s0]
      by_cases s1' : M (24 + (p : Int)) = 1
      · rw [if_pos s1', if_pos s1']
      rw [if_neg s1', if_neg s1']
      by_cases s2 : M (24 + (p : Int)) = 2
      · have := h4 s2
        rw [if_pos s2, if_pos s2]
        exact hA _ (by omega) (o1 s2) k hk
      rw [if_neg s2, if_neg s2]
      by_cases s7 : M (24 + (p : Int)) = 7
      · obtain ⟨q1, q2, q3⟩ := h5 s7
        rw [if_pos s7, if_pos s7]
        unfold xs
        refine sm_congr fun t ht' => ?_
        have q4 := q3.2.1 t (by omega)
        cases offM M (6 + p) t with
        | true => rfl
        | false =>
          simp only [Bool.false_eq_true, if_false]
          have r := o2 s7 t (by omega)
          exact (ih (fpM M (6 + p) t).toNat (by omega)).2 (by omega) (fun e a b => hA e a (by omega)) k hk
      rw [if_neg s7, if_neg s7]
      have h6' := h6 (by omega)
      obtain ⟨c, hc⟩ : ∃ c : Nat, M (72 + (p : Int)) = (c : Int) := ⟨(M (72 + (p : Int))).toNat, by omega⟩
      rw [hc, show ((c : Int)).toNat = c from rfl]
      have lo : ∀ s i, s < n → i ≤ 7 → Y (pl c s i) = Y' (pl c s i) := fun s i a b => (bs c s i (by omega) a b).1
      by_cases n1 : M (48 + (p : Int)) ≤ 1
      · have r := o3 ⟨by omega, by omega, n1⟩
        rw [hc, show ((c : Int)).toNat = c from rfl] at r
        have hi : ∀ i, i ≤ topf L n → Y (pl c n i) = Y' (pl c n i) := (ih c (by omega)).1 (by omega) (fun e a b => hA e a (by omega))
        have all : ∀ s i, s ≤ n → i ≤ topf L n → Y (pl c s i) = Y' (pl c s i) := fun s i a b => by
          by_cases e : s = n
          · rw [e]; exact hi i b
          · exact lo s i (by omega) (by omega)
        refine inT_cg (fun _ j => ?_) (fun s i a1 a2 a3 => all s i a2 (by omega))
        by_cases s3 : M (24 + (p : Int)) = 3
        · rw [if_pos s3, if_pos s3]
          exact tr_cg j n k (fun s i a1 a2 a3 => all s i a2 (by omega))
        · rw [if_neg s3, if_neg s3, bgS_cg (c' := fun s i => Y' (pl c s i)) (lt' := fun s => min s (topf L n)) n (fun t _ => rfl) (fun t i a1 a2 a3 => all t i a2 (by omega))]
      · refine inT_cl (by omega) (fun _ => ?_) (fun s i a1 a2 a3 => lo s i a2 (by omega))
        by_cases s3 : M (24 + (p : Int)) = 3
        · rw [if_pos s3, if_pos s3]
          exact tr_cl (by omega) (fun s i a1 a2 a3 => lo s i a2 (by omega))
        · rw [if_neg s3, if_neg s3]
          exact bgS_cl (by omega) (fun s i a1 a2 a3 => lo s i a2 (by omega))
    · rw [(e1 p hp k hk).2, (e2 p hp k hk).2]
      congr 1
      unfold rs
      by_cases z : M (96 + (p : Int)) < 0
      · have z1 : M (96 + (p : Int)) = -1 := by omega
        have r := o4 z1
        rw [if_pos z, if_pos z]
        exact ((ih p hp).1 (by omega) (fun e a b => hA e a (by omega))) k hk
      · rw [if_neg z, if_neg z]
        obtain ⟨q, hq⟩ : ∃ q : Nat, M (96 + (p : Int)) = (q : Int) := ⟨(M (96 + (p : Int))).toNat, by omega⟩
        rw [hq] at h2 o5 o6 ⊢
        rw [show ((q : Int)).toNat = q from rfl] at o5 o6 ⊢
        have hqM : (q : Int) < M 2 := by omega
        have own : TE q → ∀ i, i ≤ k → Y (pl p n i) = Y' (pl p n i) := fun a i hi => by
          have r := o5 (by omega) a
          exact ((ih p hp).1 (by omega) (fun e a b => hA e a (by omega))) i (by omega)
        have tail : E p → ∀ i, i ≤ k → R (pl q n i) = R' (pl q n i) := fun a i hi => by
          have r := o6 (by omega) a
          exact ((ih q hqM).2 (by omega) (fun e a b => hA e a (by omega))) i (by omega)
        refine sm_congr fun s hs => sm_congr fun i hi => ?_
        have cE : ∀ j, j ≤ 7 → ¬ E p → Y (pl p 0 j) = 0 ∧ Y' (pl p 0 j) = 0 := fun j hj hne => ⟨Classical.byContradiction fun w => hne ((s1 p j hp hj).1 w), Classical.byContradiction fun w => hne ((s2' p j hp hj).1 w)⟩
        have cT : ∀ j, j ≤ 7 → ¬ TE q → R (pl q 0 j) = 0 ∧ R' (pl q 0 j) = 0 := fun j hj hne => ⟨Classical.byContradiction fun w => hne ((s1 q j hqM hj).2 w), Classical.byContradiction fun w => hne ((s2' q j hqM hj).2 w)⟩
        by_cases sn : s = n
        · subst sn
          rw [Nat.sub_self]
          by_cases tq : TE q
          · rw [own tq i (by omega)]
            rcases Nat.eq_zero_or_pos s with z0 | z0
            · subst z0
              by_cases ep : E p
              · rw [tail ep (k - i) (by omega)]
              · rw [(cE i (by omega) ep).2, Nat.zero_mul, Nat.zero_mul]
            · rw [(bs q 0 (k - i) hqM z0 (by omega)).2]
          · rw [(cT (k - i) (by omega) tq).1, (cT (k - i) (by omega) tq).2, Nat.mul_zero, Nat.mul_zero]
        · rw [(bs p s i hp (by omega) (by omega)).1]
          rcases Nat.eq_zero_or_pos s with z0 | z0
          · subst z0
            rw [Nat.sub_zero]
            by_cases ep : E p
            · rw [tail ep (k - i) (by omega)]
            · rw [(cE i (by omega) ep).2, Nat.zero_mul, Nat.zero_mul]
          · rw [(bs q (n - s) (k - i) hqM (by omega) (by omega)).2]
