/-! a term that is not reached changes nothing -/
theorem chO_more {M : Int → Int} {X : Nat → Nat} {g : Int → Bool} (h : WF M) : ∀ (f : Nat) (q : Int), okq M q → (q < 0 ∨ 24 - q ≤ f) → chO M X g (f + 1) q = chO M X g f q := by
  have hM2 := h.2.2.1
  intro f
  induction f with
  | zero =>
    intro q hq hf
    unfold okq at hq
    unfold chO
    rw [if_pos (by omega)]
  | succ f ih =>
    intro q hq hf
    have hq0 := hq
    unfold okq at hq
    show (if q < 0 then 0 else ((if g q then X q.toNat else 0) ||| chO M X g (f + 1) (M (96 + q)))) = (if q < 0 then 0 else ((if g q then X q.toNat else 0) ||| chO M X g f (M (96 + q))))
    by_cases z : q < 0
    · rw [if_pos z, if_pos z]
    · rw [if_neg z, if_neg z]
      have nx := okq_next h hq0 (by omega)
      have lt := (h.2.2.2.1 q.toNat (by omega)).2.1
      rw [show ((q.toNat : Nat) : Int) = q by omega] at lt
      rw [ih _ nx (by omega)]
theorem sub_orl {a b c : Nat} (h : sub (a ||| b) c) : sub a c := fun j hj => h j (by rw [Nat.testBit_or, hj]; rfl)
theorem sub_orr {a b c : Nat} (h : sub (a ||| b) c) : sub b c := fun j hj => h j (by rw [Nat.testBit_or, hj, Bool.or_true])
theorem eO_sub {M : Int → Int} {X : Nat → Nat} {e C t : Nat} (h : sub (eO M X gdT e) C) (ht : (t : Int) < M (198 + (e : Int))) (ho : offM M e t = false) : sub (chO M X (fun _ => true) 24 (fpM M e t)) C := fun j hj => h j (by
  unfold eO
  refine orN_bit (t := t) (by omega) ?_
  rw [ho]; exact hj)
theorem shut_of {M : Int → Int} {X : Nat → Nat} {C : Nat} (h : WF M) (hq : hasEq M 2 X) (hC : ∀ e : Nat, (e : Int) < M 0 → C.testBit e = true → sub (eO M X gdT e) C) : shut M (fun p => sub (X p) C) (fun p => sub (chO M X (fun _ => true) 24 (p : Int)) C) (fun e => C.testBit e = true) := by
  have hM2 := h.2.2.1
  refine ⟨fun p hp pp => ⟨fun s2 => ?_, fun s7 t ht => ?_, fun s3 => ?_⟩, fun p hp pp => ?_, fun e he pe t ht ho => ?_⟩
  · have e := hq p hp
    rw [if_neg (by omega), if_neg (by omega), if_pos s2] at e
    refine pp _ ?_
    rw [e, Nat.testBit_two_pow]; simp
  · obtain ⟨q1, q2, q3⟩ := (h.2.2.2.1 p hp).2.2.2.2.1 s7
    have e := hq p hp
    rw [if_pos s7] at e
    have f := q3.2.1 t ht
    dsimp only at pp ⊢
    rw [e] at pp
    have r := eO_sub pp ht (by unfold offM; rw [decide_eq_false (by omega)]; rfl)
    rw [show (((fpM M (6 + p) t).toNat : Nat) : Int) = fpM M (6 + p) t by omega]
    exact r
  · have e := hq p hp
    rw [if_neg (by omega), if_pos s3] at e
    dsimp only at pp ⊢
    rw [← e]; exact pp
  · dsimp only at pp ⊢
    have st : chO M X (fun _ => true) 24 (p : Int) = X p ||| chO M X (fun _ => true) 23 (M (96 + (p : Int))) := by
      rw [chO, if_neg (by omega), if_pos (show true = true from rfl)]; rfl
    rw [st] at pp
    refine ⟨sub_orl pp, fun z => ?_⟩
    have lt := (h.2.2.2.1 p hp).2.1
    rw [show (((M (96 + (p : Int))).toNat : Nat) : Int) = M (96 + (p : Int)) by omega, chO_more h 23 _ (Or.inr (by omega)) (by omega)]
    exact sub_orr pp
  · dsimp only at pe ⊢
    have f := (h.2.2.2.2.1 e he).2.1 t ht
    have r := eO_sub (hC e he pe) ht ho
    rw [show (((fpM M e t).toNat : Nat) : Int) = fpM M e t by omega]
    exact r
theorem kM_near {M : Int → Int} {E TE KE : Nat → Prop} {rO rT rK : Nat → Nat} {X : Nat → Nat} {C : Nat} (w : WF M) (o : Ord M E TE KE rO rT rK) (hq : hasEq M 2 X) (hC : ∀ e : Nat, (e : Int) < M 0 → C.testBit e = true → sub (eO M X gdT e) C) {e t k n : Nat} (he : (e : Int) < M 0) (ht : t < 10) (ce : C.testBit e = false) (hk : (k : Int) < M 0) (ck : C.testBit k = true) (hn : n ≤ 7) : kM (offS M e t) k n = kM M k n := by
  have hM0 := w.1
  have e6 : e < 6 := by omega
  have s6 := offS_same (M := M) (t := t) e6
  have wN := offS_wf w e6 ht
  have oN := Ord6 s6 w o
  have s1 := YP_sol (l := -1) w o (by decide)
  have s2 := YP_sol (l := -1) wN oN (by decide)
  have r := (sol_near w o s6 (shut_of w hq hC) (fun e' t' he' pe => by
    have ne : e' ≠ e := fun z => by subst z; rw [ce] at pe; cases pe
    unfold offM
    rw [offS_ne (by omega)]) s1 s2 n hn).2 k 0 hk ck (Nat.zero_le _)
  exact (ev_le r (kM_le w o hk hn) (kM_le wN oN (by rw [s6 0 (by omega)]; exact hk) hn)).symm
/-- what a kind reaches, and itself -/
theorem near_closed {D : Nat → Nat} {m u : Nat} (hm : m ≤ 6) (hD : ∀ j, j < m → D j < 2 ^ m) (hu : u < m) : ∀ j, (clo D m u ||| 2 ^ u).testBit j = true → sub (D j) (clo D m u ||| 2 ^ u) := by
  have in0 : sub (D u) (clo D m u) := by
    have key : ∀ r, sub (D u) (clR D m r (D u)) := by
      intro r
      induction r with
      | zero => exact fun j hj => hj
      | succ r ih => exact fun j hj => clI_sub m _ j (ih j hj)
    exact key 6
  intro j hj i hi
  rw [Nat.testBit_or, Bool.or_eq_true] at hj
  rw [Nat.testBit_or, Bool.or_eq_true]
  refine Or.inl ?_
  rcases hj with hj | hj
  · exact clo_closed hm hD hu j hj i hi
  · rw [Nat.testBit_two_pow] at hj
    have : u = j := by simpa using hj
    subst this
    exact in0 i hi
