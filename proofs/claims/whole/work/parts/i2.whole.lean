/-! the reference reads a whole text -/
theorem bwL_0 {M : Int → Int} {e : Nat} : ∀ (d n v : Nat), bwL M e d n v = 0 → v = 0 ∧ ∀ j, n ≤ j → j < n + d → kM M e j = 0 := by
  intro d
  induction d with
  | zero => intro n v h; exact ⟨h, fun j a b => by omega⟩
  | succ d ih =>
    intro n v h
    have h' : bwL M e d (n + 1) (min 1000000000000 (v + kM M e n)) = 0 := h
    obtain ⟨a, b⟩ := ih (n + 1) _ h'
    refine ⟨by omega, fun j c d' => ?_⟩
    by_cases q : j = n
    · rw [q]; omega
    · exact b j (by omega) (by omega)
def RWH (M : Int → Int) (T T' : St) (e k : Nat) (w : List Int) (r : Int) : Prop :=
  NFx T T' ∧ (∀ a j : Nat, 99 ≤ a → a ≤ 103 → j < k → T' a (j : Int) = T a (j : Int)) ∧ hIn T' ∧ ∃ k' : Nat, T' 83 38 = (k' : Int) ∧ k ≤ k' ∧ k' ≤ 1024 ∧
  ((r = (k : Int) ∧ k < k' ∧ k' ≤ k + 81 ∧ ∃ (t : Nat) (s : List (List Int × Nat)), t < cnE M e ∧ TRM M T' k k' e t s ∧ RDW M e w (dgT M e t ++ fl1 s) (szs s)) ∨ (r = -1 ∧ ∀ c n, ¬ RDW M e w c n))
theorem w_whole {S T : St} {rO mu : Nat → Nat} (h : Cor S) (nex : NEX (S 84)) (rx : RKx (S 84) rO) (mx : MUx (S 84) mu) (hV : ∀ p : Nat, (p : Int) < S 84 2 → inI (S 84 (48 + (p : Int)))) (hT : cnt (S 84) (-1) T) (hI : hIn T) {e k : Nat} {w : List Int} (he : (e : Int) < S 84 0) (hL : w.length ≤ 40) (h40 : T 83 40 = ((w.length : Nat) : Int)) (hw : ∀ (i : Nat) (x : Int), w[i]? = some x → ∃ y : Int, T 104 (i : Int) = y ∧ (0 ≤ y ∧ y < 256) ∧ x = sb y) (h38 : T 83 38 = (k : Int)) (hk : k ≤ 100) : ∃ r T', mX12_readsWhole T (e : Int) = some (r, T') ∧ RWH (S 84) T T' e k w r := by
  have wf := h.wf
  have hM0 := wf.1
  have hM1 := wf.2.1
  have oE := wf.2.2.2.2.1 e he
  have cE := oE.1
  obtain ⟨T1, hT1⟩ : ∃ T1, T1 = up T 83 41 0 := ⟨_, rfl⟩
  have nf1 : NFx T T1 := ⟨fun c i a b => by rw [hT1, up_n a], fun i a b => by rw [hT1, up_nk b]⟩
  have c1 : cnt (S 84) (-1) T1 := nf1.cn hT
  have n1 : ∀ a j : Nat, 99 ≤ a → a ≤ 103 → T1 a (j : Int) = T a (j : Int) := fun a j x y => by rw [hT1, up_n (by omega)]
  have i1 : hIn T1 := fun c j a b d => by rw [n1 c j a b]; exact hI c j a b d
  have t41 : T1 83 41 = 0 := by rw [hT1, up_eq]
  have t40 : T1 83 40 = ((w.length : Nat) : Int) := by rw [hT1, up_nk (by decide)]; exact h40
  have t38 : T1 83 38 = (k : Int) := by rw [hT1, up_nk (by decide)]; exact h38
  have t104 : T1 104 = T 104 := by rw [hT1, up_n (by decide)]
  have tx : TXr T1 w := ⟨by omega, by omega, by omega, fun i x hx => by
    obtain ⟨y, y1, y2, y3⟩ := hw i x hx
    exact ⟨y, by rw [t41, t104, Int.zero_add]; exact y1, y2, y3⟩⟩
  have e84 : T1 84 = S 84 := c1.1
  obtain ⟨z, z1, z2⟩ : ∃ z : Int, (gd (inI (T1 84 (198 + (e : Int)))) <| if (T1 84 (198 + (e : Int))) ≤ 0 then (some (0)) else (bd1 (mX12_upTo T1 (e : Int) 0 7) fun r_25 => gd (inL r_25) <| if r_25 ≤ 0 then (some (0)) else (some (1)))) = some z ∧ ((z = 0 ∧ ∀ c n, ¬ RDW (S 84) e w c n) ∨ z = 1) := by
    rw [e84, gd_t (by unfold inI; omega)]
    by_cases q : S 84 (198 + (e : Int)) ≤ 0
    · rw [if_pos q]
      refine ⟨0, rfl, Or.inl ⟨rfl, fun c n x => ?_⟩⟩
      obtain ⟨⟨f, hf⟩, -⟩ := x
      obtain ⟨⟨⟨q1, _⟩, _⟩, _⟩ := (rdE_1 (by unfold cnE; omega)).mp hf
      unfold cnE at q1
      omega
    · have b := bx_le (M := S 84) (e := e) (lo := 0) (hi := 7)
      rw [if_neg q, bd1_e (show mX12_upTo T1 (e : Int) 0 7 = some ((bx (S 84) e 0 7 : Nat) : Int) from e_upTo h c1 he (Nat.le_refl 7) (Nat.zero_le 7)), gd_t (by omega)]
      by_cases q0 : ((bx (S 84) e 0 7 : Nat) : Int) ≤ 0
      · rw [if_pos q0]
        refine ⟨0, rfl, Or.inl ⟨rfl, fun c n x => ?_⟩⟩
        have k1 := (cn_sur h nex he x).1
        have k2 := (bwL_0 (M := S 84) (e := e) 8 0 0 (show bx (S 84) e 0 7 = 0 by omega)).2 n (Nat.zero_le _) (by have := x.2; omega)
        omega
      · rw [if_neg q0]
        exact ⟨1, rfl, Or.inr rfl⟩
  unfold mX12_readsWhole
  rw [nx_e, ← hT1, gd_t (by omega), bd1_e z1]
  rcases z2 with ⟨rfl, no⟩ | rfl
  · refine ⟨-1, T1, ?_, nf1, fun a j x y _ => n1 a j x y, i1, k, t38, Nat.le_refl _, by omega, Or.inr ⟨rfl, no⟩⟩
    rw [gd_t (show inI (0 : Int) by decide), if_pos rfl, bd2_e rfl, gd_t (by decide), if_pos (by decide)]
  · obtain ⟨r, T', g1, g2, g3, g4, k', g5, g6, g7, g8⟩ := e_rdTerm (g := 1799) (B := 1024) wf mx.1 (cl2_all h nex rx mx hV 1799).1 (Nat.le_refl _) (show e < 30 by omega) (show (0 : Int) ≤ 0 by omega) oE t38 c1 i1 tx (by omega) (fun t w' ht => by
      have hq : (t : Int) < S 84 (198 + (e : Int)) ∧ w'.length ≤ 40 := by
        have cc : ((cnE (S 84) e : Nat) : Int) = S 84 (198 + (e : Int)) := by unfold cnE; omega
        rcases ht with ⟨a, b, c⟩ | ⟨a, b, c⟩
        · rw [c]; omega
        · omega
      obtain ⟨b1, b2, b3⟩ := oE.2.1 t hq.1
      have m := mx.1 (fpM (S 84) e t).toNat (by omega)
      omega)
    have nf := nf1.tr g2
    have fr : ∀ a j : Nat, 99 ≤ a → a ≤ 103 → j < k → T' a (j : Int) = T a (j : Int) := fun a j x y q => (g3 a j x y q).trans (n1 a j x y)
    have g1' : mX12_readsTerm T1 (e : Int) = some (r, T') := g1
    rw [gd_t (show inI (1 : Int) by decide), if_neg (show ¬ (1 : Int) = 0 by decide), bd2_e g1', bd2_e rfl]
    rcases g8 with ⟨u1, u2, t, s, w', u3, u4, u5, f0, u6⟩ | ⟨u1, u2, u3⟩
    · subst u1
      have e84' : T' 84 = S 84 := (nf.cn hT).1
      have n41 := u4.1
      have n4e := u4.2.1
      have n40 := u4.2.2.1
      have s101 := u5.2.2.1
      have i101 := g4 101 k (by decide) (by decide) (by omega)
      rw [gd_t (by unfold inI; omega), if_neg (by omega), gd_t (by unfold inI; omega)]
      by_cases q : T' 83 41 = T' 83 40
      · have w0 : w' = [] := List.eq_nil_of_length_eq_zero (by omega)
        subst w0
        rw [if_pos q, gd_t (by omega), gd_t ⟨i101, by rw [e84']; unfold inI; omega⟩, s101, e84']
        by_cases b : S 84 1 < ((szs s : Nat) : Int)
        · rw [if_pos b]
          refine ⟨-1, T', rfl, nf, fr, g4, k', g5, g6, g7, Or.inr ⟨rfl, fun c n x => ?_⟩⟩
          obtain ⟨⟨f, hf⟩, x2⟩ := x
          have := (Prod.mk.inj (Prod.mk.inj (rdE_det u6 hf)).2).1
          omega
        · rw [if_neg b]
          have rw' : RDW (S 84) e w (dgT (S 84) e t ++ fl1 s) (szs s) := ⟨⟨f0, u6⟩, by omega⟩
          have l1 := rw'.len.1
          rw [List.length_append] at l1
          have k2 := u5.2.2.2.2
          obtain ⟨f, l, k3, k4, k5, k6⟩ := k2
          exact ⟨(k : Int), T', rfl, nf, fr, g4, k', g5, g6, g7, Or.inl ⟨rfl, u2, by omega, t, s, u3, u5, rw'⟩⟩
      · rw [if_neg q]
        refine ⟨-1, T', rfl, nf, fr, g4, k', g5, g6, g7, Or.inr ⟨rfl, fun c n x => ?_⟩⟩
        obtain ⟨⟨f, hf⟩, x2⟩ := x
        have := (Prod.mk.inj (Prod.mk.inj (rdE_det u6 hf)).2).2
        rw [this] at n4e
        rw [List.length_nil] at n4e
        omega
    · subst u1
      refine ⟨-1, T', ?_, nf, fr, g4, k', g5, g6, g7, Or.inr ⟨rfl, fun c n x => ?_⟩⟩
      · rw [gd_t (by decide), if_pos (by decide)]
      · obtain ⟨⟨f, hf⟩, x2⟩ := x
        have := u2 f c n [] hf
        omega
