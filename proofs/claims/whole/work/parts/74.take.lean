/-! the class's take -/
theorem e_isSeq {S : St} {M : Int → Int} {p : Nat} (h : WF M) (hG : GM S M) (hp : (p : Int) < M 2) : mX2_isSequence_2 S (p : Int) = some (if 3 ≤ M (24 + (p : Int)) ∧ M (24 + (p : Int)) ≤ 6 then 1 else 0) := by
  have hM2 := h.2.2.1
  have h1 := (h.2.2.2.1 p hp).1
  unfold mX2_isSequence_2
  rw [gd_t (by omega), (hG.2.1 p hp).1, gd_t (by omega)]
  by_cases a : M (24 + (p : Int)) < 3
  · rw [if_pos a, if_neg (by omega)]
  · rw [if_neg a]
    by_cases b : 6 < M (24 + (p : Int))
    · rw [if_pos b, if_neg (by omega)]
    · rw [if_neg b, if_pos (by omega)]
def isSq (M : Int → Int) (p : Nat) : Prop := 3 ≤ M (24 + (p : Int)) ∧ M (24 + (p : Int)) ≤ 6
def chM (M : Int → Int) (p : Nat) : Nat := (M (72 + (p : Int))).toNat
/-- the steps as they are laid -/
def OA (S : St) (M : Int → Int) (rO rT rK : Nat → Nat) (st : Nat) : Prop := S 2 4 = (st : Int) ∧ st ≤ 54 ∧ (∀ i : Nat, i < st → (∃ e : Nat, (e : Int) < M 0 ∧ S 11 (i : Int) = (e : Int) ∧ rK e = i) ∨ (∃ p : Nat, (p : Int) < M 2 ∧ S 11 (i : Int) = 2 * (p : Int) + 7 ∧ rO p = i) ∨ (∃ p : Nat, (p : Int) < M 2 ∧ S 11 (i : Int) = 2 * (p : Int) + 6 ∧ rT p = i)) ∧ (∀ p : Nat, (p : Int) < M 2 → rO p < st ∧ S 11 ((rO p : Nat) : Int) = 2 * (p : Int) + 7 ∧ rT p < st ∧ S 11 ((rT p : Nat) : Int) = 2 * (p : Int) + 6) ∧ (∀ e : Nat, (e : Int) < M 0 → rK e < st ∧ S 11 ((rK e : Nat) : Int) = (e : Int))
theorem OA.of {S T : St} {M : Int → Int} {rO rT rK : Nat → Nat} {st : Nat} (h : OA S M rO rT rK st) (a : T 2 4 = S 2 4) (b : T 11 = S 11) : OA T M rO rT rK st := by
  unfold OA at h ⊢
  rw [a, b]; exact h
theorem stP_cg {C : Nat} {m : Int} {M : Int → Int} {c c' : Nat → Nat → Nat} {G : Nat → Nat} {p n : Nat} (h : ∀ s i, 1 ≤ s → (s < n ∨ (s = n ∧ M (48 + (p : Int)) = 0)) → i ≤ topf (decide (0 ≤ m)) s → c s i = c' s i) (q : stP C m M c G p n) : stP C m M c' G p n := by
  intro hC hm h45 hnum s j t a b d
  have e : bgS (M (24 + (p : Int)) == 5) c (topf (decide (0 ≤ m))) s = bgS (M (24 + (p : Int)) == 5) c' (topf (decide (0 ≤ m))) s := bgS_cg (c := c) (c' := c') s (fun _ _ => rfl) (fun t i t1 t2 t3 => h t i t1 (by unfold szM at a; split at a <;> omega) t3)
  rw [← e]
  exact q hC hm h45 hnum s j t a b d
/-! the class's census 48: take -/
theorem w_countPart48 {S : St} {M : Int → Int} {m : Int} {p n : Nat} (h : WF M) (hG : GM S M) (hp2 : (p : Int) < M 2) (hm : inI m) (hm2 : -2 ≤ m) (h1 : S 48 1 = m) (hn : (n : Int) ≤ M 1) (hO : nb S 49 1536 HH) (hT : nb S 50 1536 HH) (hK : nb S 51 384 HH) (hR : nb S 52 12288 HH) (hW : nb S 53 8 HH) (hz : rz (tb S 52)) (hg : nbG 48 S) (hQ : isSq M p → 1 ≤ n → seqOK (decide (0 ≤ m)) (decide (m = -2)) M (fun s i => tb S 49 (pl (chM M p) s i)) (tb S 52) p (n - 1) ∧ stP 48 m M (fun s i => tb S 49 (pl (chM M p) s i)) (tb S 46) p (n - 1)) : wp (mX0_countPart_48 S (p : Int) (n : Int)) (fun S' => (nb S' 49 1536 HH ∧ nb S' 52 12288 HH ∧ nb S' 53 8 HH ∧ rz (tb S' 52) ∧ nbG 48 S') ∧ (∀ k : Nat, k ≤ topf (decide (0 ≤ m)) n → ev (tb S' 49 (pl p n k)) (pvC (decide (0 ≤ m)) (decide (m = -2)) m M (tb S 49) (tb S 50) (tb S 51) p n k)) ∧ (∀ x : Nat, x < 1536 → (∀ k : Nat, k ≤ topf (decide (0 ≤ m)) n → x ≠ pl p n k) → tb S' 49 x = tb S 49 x) ∧ (isSq M p → seqOK (decide (0 ≤ m)) (decide (m = -2)) M (fun s i => tb S 49 (pl (chM M p) s i)) (tb S' 52) p n ∧ stP 48 m M (fun s i => tb S 49 (pl (chM M p) s i)) (tb S' 46) p n) ∧ (∀ x : Nat, x < 12288 → (x < p * 512 ∨ p * 512 + 512 ≤ x) → tb S' 52 x = tb S 52 x) ∧ frG 48 S S' p) := by
  have hM2 := h.2.2.1
  have hM1 := h.2.1
  have hM0 := h.1
  obtain ⟨hh1, h2, h3, h4, h5, h6⟩ := h.2.2.2.1 p hp2
  have tn : topf (decide (0 ≤ m)) n ≤ n := topf_le
  have g3 : S 3 (p : Int) = M (24 + (p : Int)) := (hG.2.1 p hp2).1
  have bl : pl p n 0 + 7 < 1536 := by unfold pl; omega
  have rng : ∀ x : Nat, (∀ k : Nat, k ≤ topf (decide (0 ≤ m)) n → x ≠ pl p n k) → ¬ (pl p n 0 ≤ x ∧ x < pl p n 0 + (topf (decide (0 ≤ m)) n + 1)) := fun x hne c => hne (x - pl p n 0) (by omega) (by unfold pl at c ⊢; omega)
  -- steps that write the part's cells alone
  have simple : ∀ (F : Option St) (V : Nat → Nat), ¬ isSq M p → (∀ k : Nat, k ≤ topf (decide (0 ≤ m)) n → V k ≤ HH ∧ ev (V k) (pvC (decide (0 ≤ m)) (decide (m = -2)) m M (tb S 49) (tb S 50) (tb S 51) p n k)) → wp F (fun S' => (∀ x : Nat, x < 1536 → S' 49 (x : Int) = if pl p n 0 ≤ x ∧ x < pl p n 0 + (topf (decide (0 ≤ m)) n + 1) then ((V (x - pl p n 0) : Nat) : Int) else S 49 (x : Int)) ∧ kept [49] [] S S') → wp F (fun S' => (nb S' 49 1536 HH ∧ nb S' 52 12288 HH ∧ nb S' 53 8 HH ∧ rz (tb S' 52) ∧ nbG 48 S') ∧ (∀ k : Nat, k ≤ topf (decide (0 ≤ m)) n → ev (tb S' 49 (pl p n k)) (pvC (decide (0 ≤ m)) (decide (m = -2)) m M (tb S 49) (tb S 50) (tb S 51) p n k)) ∧ (∀ x : Nat, x < 1536 → (∀ k : Nat, k ≤ topf (decide (0 ≤ m)) n → x ≠ pl p n k) → tb S' 49 x = tb S 49 x) ∧ (isSq M p → seqOK (decide (0 ≤ m)) (decide (m = -2)) M (fun s i => tb S 49 (pl (chM M p) s i)) (tb S' 52) p n ∧ stP 48 m M (fun s i => tb S 49 (pl (chM M p) s i)) (tb S' 46) p n) ∧ (∀ x : Nat, x < 12288 → (x < p * 512 ∨ p * 512 + 512 ≤ x) → tb S' 52 x = tb S 52 x) ∧ frG 48 S S' p) := by
    intro F V nsq hV hF
    refine wp_mono hF (fun S' q => ?_)
    obtain ⟨v, k1⟩ := q
    have tR : tb S' 52 = tb S 52 := by funext j; unfold tb; rw [k1.cell 52 (by decide) (by decide)]
    have tG : tb S' 46 = tb S 46 := by funext j; unfold tb; rw [k1.cell 46 (by decide) (by decide)]
    refine ⟨⟨fun x hx => ?_, ?_, ?_, by rw [tR]; exact hz, ?_⟩, fun k a => ?_, fun x hx hne => ?_, fun e => absurd e nsq, fun x hx hne => by rw [tR], fun e x hx hne => by rw [tG]⟩
    · rw [v x hx]
      by_cases c : pl p n 0 ≤ x ∧ x < pl p n 0 + (topf (decide (0 ≤ m)) n + 1)
      · rw [if_pos c]; exact ⟨_, rfl, (hV _ (by omega)).1⟩
      · rw [if_neg c]; exact hO x hx
    · intro j hj; rw [k1.cell 52 (by decide) (by decide)]; exact hR j hj
    · intro j hj; rw [k1.cell 53 (by decide) (by decide)]; exact hW j hj
    · intro e j hj; rw [k1.cell 46 (by decide) (by decide)]; exact hg e j hj
    · show ev (S' 49 ((pl p n k : Nat) : Int)).toNat _
      rw [v _ (by unfold pl at bl ⊢; omega), if_pos (by unfold pl; omega), show pl p n k - pl p n 0 = k by unfold pl; omega]
      exact (hV k a).2
    · show (S' 49 (x : Int)).toNat = _
      rw [v x hx, if_neg (rng x hne)]; rfl
  unfold mX0_countPart_48
  rw [nx_e, gd_t (by omega), nx_e, g3, gd_t (by omega), show (p : Int) * 64 + (n : Int) * 8 = ((pl p n 0 : Nat) : Int) by unfold pl; omega]
  by_cases s7 : M (24 + (p : Int)) = 7
  · obtain ⟨q1, q2, q3⟩ := h5 s7
    rw [if_pos s7, show (6 : Int) + (p : Int) = ((6 + p : Nat) : Int) by omega]
    refine simple _ (fun k => min HH (xs M (fun q => tb S 50 (pl q n k)) (6 + p))) (by unfold isSq; omega) (fun k a => ⟨min_le', ?_⟩) ?_
    · unfold pvC
      rw [if_neg (by omega), if_neg (by omega), if_neg (by omega), if_pos s7]
      exact ev_HH
    · rw [wp_bd1]
      refine wp_mono (w_sum48_49 (S := S) (e := 6 + p) (base := pl p n 0) h hG hm h1 (by omega) (show 0 ≤ (p : Int) + 1 by omega) q3 (by omega) hT (by omega)) (fun S' q => ?_)
      rw [wp_some]; exact q
  rw [if_neg s7]
  by_cases s2 : M (24 + (p : Int)) = 2
  · have v2 := h4 s2
    have g4 : S 4 (p : Int) = M (48 + (p : Int)) := (hG.2.1 p hp2).2.2.1 (by omega)
    obtain ⟨e, he⟩ : ∃ e : Nat, M (48 + (p : Int)) = (e : Int) := ⟨(M (48 + (p : Int))).toNat, by omega⟩
    have be : pl e n 0 + 7 < 384 := by unfold pl; omega
    rw [if_pos s2, g4, he, show (e : Int) * 64 + (n : Int) * 8 = ((pl e n 0 : Nat) : Int) by unfold pl; omega]
    refine simple _ (fun k => tb S 51 (pl e n k)) (by unfold isSq; omega) (fun k a => ⟨(hK.at (by unfold pl at be ⊢; omega)).2, ?_⟩) ?_
    · unfold pvC
      rw [if_neg (by omega), if_neg (by omega), if_pos s2, he]
      exact ev.rf
    · rw [wp_bd1]
      refine wp_mono (w_cpy48_51_49 (S := S) (src := pl e n 0) (base := pl p n 0) hm h1 (by omega) (by omega) (by omega)) (fun S' q => ?_)
      rw [wp_some]
      refine ⟨fun x hx => ?_, q.2⟩
      rw [q.1 x hx]
      by_cases c : pl p n 0 ≤ x ∧ x < pl p n 0 + (topf (decide (0 ≤ m)) n + 1)
      · rw [if_pos c, if_pos c, (hK.at (show pl e n 0 + (x - pl p n 0) < 384 by omega)).1, show pl e n 0 + (x - pl p n 0) = pl e n (x - pl p n 0) by unfold pl; omega]
      · rw [if_neg c, if_neg c]
  rw [if_neg s2, bd1_e (e_isSeq h hG hp2)]
  by_cases sq : 3 ≤ M (24 + (p : Int)) ∧ M (24 + (p : Int)) ≤ 6
  · have h6' := h6 sq
    rw [if_pos sq, gd_t (by decide), if_neg (by decide), wp_bd1]
    refine wp_mono (w_countSeq48 (S := S) (c := chM M p) h hG hp2 sq (by unfold chM; omega) hm h1 hn hO hR hW hz hg (fun a => (hQ sq a).1) (fun a => (hQ sq a).2)) (fun S' q => ?_)
    rw [wp_some]
    obtain ⟨q1, q2, q3, q4, q5, q6, q7⟩ := q
    refine ⟨q1, fun k a => (q2 k a).tr ?_, q3, fun _ => ⟨q4, q5⟩, q6, q7⟩
    unfold pvC
    rw [if_neg (show ¬ M (24 + (p : Int)) = 0 by omega), if_neg (show ¬ M (24 + (p : Int)) = 1 by omega), if_neg s2, if_neg s7]
    exact ev.rf
  · rw [if_neg sq, gd_t (by decide), if_pos rfl]
    have g4 : S 4 (p : Int) = M (48 + (p : Int)) := (hG.2.1 p hp2).2.2.1 (by omega)
    have cl := w_clr48_49 (S := S) (base := pl p n 0) (n := n) hm h1 (by omega) (by omega)
    by_cases s0 : M (24 + (p : Int)) = 0
    · have v0 := h3 s0
      refine simple _ (fun k => if n = 1 then (if m = M (48 + (p : Int)) then (if k = 1 then 1 else 0) else (if k = 0 then 1 else 0)) else 0) sq (fun k a => ⟨by (repeat' split) <;> decide, ?_⟩) ?_
      · unfold pvC; rw [if_pos s0]; exact ev.rf
      · rw [wp_bd1]
        refine wp_mono cl (fun S1 q => ?_)
        obtain ⟨v1, k1⟩ := q
        have e1 : S1 48 1 = m := (congrFun (k1.cell 48 (by decide) (by decide)) 1).trans h1
        have e4 : S1 4 (p : Int) = M (48 + (p : Int)) := by rw [k1.cell 4 (by decide) (by decide)]; exact g4
        have zz : (if M (24 + (p : Int)) = 0 then (gd ((inI (S1 48 1)) ∧ (inI (S1 4 (p : Int)))) <| if (S1 48 1) = (S1 4 (p : Int)) then (some (1 : Int)) else (some 0)) else (some 0)) = some (((if m = M (48 + (p : Int)) then 1 else 0 : Nat)) : Int) := by
          rw [if_pos s0, e1, e4, gd_t (by omega)]
          split <;> rfl
        rw [bd1_e zz, bd1_e (show (if M (24 + (p : Int)) = 0 then (some (1 : Int)) else (some 0)) = some 1 by rw [if_pos s0]), gd_t (by omega)]
        by_cases n1 : n = 1
        · subst n1
          have kk : (if m = M (48 + (p : Int)) then 1 else 0) ≤ topf (decide (0 ≤ m)) 1 := by
            by_cases w : m = M (48 + (p : Int))
            · rw [if_pos w]; unfold topf; simp [show 0 ≤ m by omega]
            · rw [if_neg w]; exact Nat.zero_le _
          rw [if_pos (by omega), show ((pl p 1 0 : Nat) : Int) + (((if m = M (48 + (p : Int)) then 1 else 0 : Nat)) : Int) = ((pl p 1 0 + (if m = M (48 + (p : Int)) then 1 else 0) : Nat) : Int) by omega, gd_t (by omega), nx_e, wp_some]
          refine ⟨fun x hx => ?_, kept.upA k1 (by simp)⟩
          by_cases c : pl p 1 0 ≤ x ∧ x < pl p 1 0 + (topf (decide (0 ≤ m)) 1 + 1)
          · rw [if_pos c, if_pos rfl]
            by_cases e : x = pl p 1 0 + (if m = M (48 + (p : Int)) then 1 else 0)
            · rw [e, up_eq, show pl p 1 0 + (if m = M (48 + (p : Int)) then 1 else 0) - pl p 1 0 = (if m = M (48 + (p : Int)) then 1 else 0) by omega]
              by_cases w : m = M (48 + (p : Int))
              · rw [if_pos w, if_pos w, if_pos rfl]; rfl
              · rw [if_neg w, if_neg w, if_pos rfl]; rfl
            · rw [up_nk (by omega), v1 x hx, if_pos c]
              by_cases w : m = M (48 + (p : Int))
              · rw [if_pos w] at e ⊢
                rw [if_neg (by omega)]; rfl
              · rw [if_neg w] at e ⊢
                rw [if_neg (by omega)]; rfl
          · rw [if_neg c, up_nk (by omega), v1 x hx, if_neg c]
        · rw [if_neg (by omega), wp_some]
          refine ⟨fun x hx => ?_, k1⟩
          rw [v1 x hx]
          by_cases c : pl p n 0 ≤ x ∧ x < pl p n 0 + (topf (decide (0 ≤ m)) n + 1)
          · rw [if_pos c, if_pos c, if_neg n1]; rfl
          · rw [if_neg c, if_neg c]
    · have s1 : M (24 + (p : Int)) = 1 := by omega
      refine simple _ (fun k => if n = 0 then 1 else 0) sq (fun k a => ⟨by split <;> decide, ?_⟩) ?_
      · unfold pvC; rw [if_neg s0, if_pos s1]; exact ev.rf
      · rw [wp_bd1]
        refine wp_mono cl (fun S1 q => ?_)
        obtain ⟨v1, k1⟩ := q
        rw [bd1_e (show (if M (24 + (p : Int)) = 0 then (gd ((inI (S1 48 1)) ∧ (inI (S1 4 (p : Int)))) <| if (S1 48 1) = (S1 4 (p : Int)) then (some (1 : Int)) else (some 0)) else (some 0)) = some 0 by rw [if_neg s0]), bd1_e (show (if M (24 + (p : Int)) = 0 then (some (1 : Int)) else (some 0)) = some 0 by rw [if_neg s0]), gd_t (by omega)]
        by_cases n0 : n = 0
        · subst n0
          have t0 : topf (decide (0 ≤ m)) 0 = 0 := topf_0
          rw [if_pos (by omega), show ((pl p 0 0 : Nat) : Int) + 0 = ((pl p 0 0 : Nat) : Int) by omega, gd_t (by omega), nx_e, wp_some]
          refine ⟨fun x hx => ?_, kept.upA k1 (by simp)⟩
          by_cases c : pl p 0 0 ≤ x ∧ x < pl p 0 0 + (topf (decide (0 ≤ m)) 0 + 1)
          · have e : x = pl p 0 0 := by omega
            rw [if_pos c, if_pos rfl, e, up_eq]; rfl
          · rw [if_neg c, up_nk (by omega), v1 x hx, if_neg c]
        · rw [if_neg (by omega), wp_some]
          refine ⟨fun x hx => ?_, k1⟩
          rw [v1 x hx]
          by_cases c : pl p n 0 ≤ x ∧ x < pl p n 0 + (topf (decide (0 ≤ m)) n + 1)
          · rw [if_pos c, if_pos c, if_neg n0]; rfl
          · rw [if_neg c, if_neg c]
/-- before the step i at the size n -/
def TI48 (m : Int) (M : Int → Int) (E TE : Nat → Prop) (rO rT rK : Nat → Nat) (st : Nat) (Y R : Nat → Nat) (n i : Nat) (S : St) : Prop :=
  (S 48 1 = m ∧ GM S M ∧ OA S M rO rT rK st) ∧ (nb S 49 1536 HH ∧ nb S 50 1536 HH ∧ nb S 51 384 HH ∧ nb S 52 12288 HH ∧ nb S 53 8 HH ∧ rz (tb S 52) ∧ nbG 48 S) ∧
  (∀ p s k : Nat, (p : Int) < M 2 → (s : Int) ≤ M 1 → k ≤ topf (decide (0 ≤ m)) s → (s < n ∨ (s = n ∧ rO p < i)) → ev (tb S 49 (pl p s k)) (Y (pl p s k))) ∧
  (∀ p s k : Nat, (p : Int) < M 2 → (s : Int) ≤ M 1 → k ≤ topf (decide (0 ≤ m)) s → (s < n ∨ (s = n ∧ rT p < i)) → ev (tb S 50 (pl p s k)) (R (pl p s k))) ∧
  (∀ e s k : Nat, (e : Int) < M 0 → (s : Int) ≤ M 1 → k ≤ topf (decide (0 ≤ m)) s → (s < n ∨ (s = n ∧ rK e < i)) → ev (tb S 51 (pl e s k)) (kY Y (pl e s k))) ∧
  (∀ p : Nat, (p : Int) < M 2 → (tb S 49 (pl p 0 0) ≠ 0 → E p) ∧ (tb S 50 (pl p 0 0) ≠ 0 → TE p)) ∧
  (∀ p : Nat, (p : Int) < M 2 → isSq M p → (1 ≤ n → i ≤ rO p → seqOK (decide (0 ≤ m)) (decide (m = -2)) M (fun s i => tb S 49 (pl (chM M p) s i)) (tb S 52) p (n - 1) ∧ stP 48 m M (fun s i => tb S 49 (pl (chM M p) s i)) (tb S 46) p (n - 1)) ∧ (rO p < i → seqOK (decide (0 ≤ m)) (decide (m = -2)) M (fun s i => tb S 49 (pl (chM M p) s i)) (tb S 52) p n ∧ stP 48 m M (fun s i => tb S 49 (pl (chM M p) s i)) (tb S 46) p n))
theorem tk48_59 {M : Int → Int} {m : Int} {E TE KE : Nat → Prop} {rO rT rK : Nat → Nat} {st : Nat} {Y R : Nat → Nat} {n : Nat} (h : WF M) (hOr : Ord M E TE KE rO rT rK) (hm : inI m) (hm2 : -2 ≤ m) (hS : sol (decide (0 ≤ m)) (decide (m = -2)) m M E TE Y R) (hn : (n : Int) ≤ M 1) : ∀ (d i f : Nat) (S : St), i + d = st → d < f → TI48 m M E TE rO rT rK st Y R n i S → wp (mX0_take_48_59 (n : Int) f (i : Int) S) (fun S' => TI48 m M E TE rO rT rK st Y R n st S') := by
  have hM2 := h.2.2.1
  have hM1 := h.2.1
  have hM0 := h.1
  have tn : topf (decide (0 ≤ m)) n ≤ n := topf_le
  refine loopW (fun f v s => mX0_take_48_59 (n : Int) f v s) (fun i S => TI48 m M E TE rO rT rK st Y R n i S) _ st (fun i f s hi hI hk => ?_) (fun f s hI => ?_)
  · have hI0 := hI
    obtain ⟨⟨eC, hG, hA⟩, ⟨nO, nT, nK, nR, nW, hrz, hng⟩, aO, aT, aK, hsup, hQ⟩ := hI
    obtain ⟨a1, a2, a3, a4, a5⟩ := id hA
    try dsimp only at hk ⊢
    rw [mX0_take_48_59, a1, gd_t (by omega), if_neg (by omega), gd_t (by omega), nx_e]
    rcases a3 i hi with ⟨e, e1, e2, e3⟩ | ⟨p, e1, e2, e3⟩ | ⟨p, e1, e2, e3⟩
    · -- a kind
      have hE := h.2.2.2.2.1 e e1
      have be : pl e n 0 + 7 < 384 := by unfold pl; omega
      rw [e2, gd_t (by omega), nx_e, gd_t (by omega), if_neg (by omega), wp_bd1, show (e : Int) * 64 + (n : Int) * 8 = ((pl e n 0 : Nat) : Int) by unfold pl; omega]
      refine wp_mono (w_sum48_51 (S := s) (e := e) (base := pl e n 0) h hG hm eC (by omega) (show 0 ≤ (0 : Int) by omega) hE (by omega) nT (by omega)) (fun S2 q2 => ?_)
      obtain ⟨v2, k2⟩ := q2
      have u2 : ∀ x : Nat, x < 384 → tb S2 51 x = if pl e n 0 ≤ x ∧ x < pl e n 0 + (topf (decide (0 ≤ m)) n + 1) then min HH (xs M (fun p => tb s 50 (pl p n (x - pl e n 0))) e) else tb s 51 x := fun x hx => by
        show (S2 51 (x : Int)).toNat = _
        rw [v2 x hx]; split <;> rfl
      have tO : tb S2 49 = tb s 49 := by funext j; unfold tb; rw [k2.cell 49 (by decide) (by decide)]
      have tT : tb S2 50 = tb s 50 := by funext j; unfold tb; rw [k2.cell 50 (by decide) (by decide)]
      have tR : tb S2 52 = tb s 52 := by funext j; unfold tb; rw [k2.cell 52 (by decide) (by decide)]
      have tG : tb S2 46 = tb s 46 := by funext j; unfold tb; rw [k2.cell 46 (by decide) (by decide)]
      refine hk S2 ⟨⟨(congrFun (k2.cell 48 (by decide) (by decide)) 1).trans eC, hG.of (fun i a b => k2.cell i (by simp; omega) (by simp)), hA.of (by rw [k2.cell 2 (by decide) (by decide)]) (k2.cell 11 (by decide) (by decide))⟩, ⟨?_, ?_, fun x hx => ?_, ?_, ?_, by rw [tR]; exact hrz, ?_⟩, ?_, ?_, fun e' t k b1 b2 b3 b4 => ?_, by rw [tO, tT]; exact hsup, ?_⟩
      · intro j hj; rw [k2.cell 49 (by decide) (by decide)]; exact nO j hj
      · intro j hj; rw [k2.cell 50 (by decide) (by decide)]; exact nT j hj
      · rw [v2 x hx]
        split
        · exact ⟨_, rfl, min_le'⟩
        · exact nK x hx
      · intro j hj; rw [k2.cell 52 (by decide) (by decide)]; exact nR j hj
      · intro j hj; rw [k2.cell 53 (by decide) (by decide)]; exact nW j hj
      · intro e j hj; rw [k2.cell 46 (by decide) (by decide)]; exact hng e j hj
      · rw [tO]
        intro p t k b1 b2 b3 b4
        refine aO p t k b1 b2 b3 ?_
        rcases b4 with b4 | ⟨b4, b5⟩
        · exact Or.inl b4
        · refine Or.inr ⟨b4, ?_⟩
          have := (a4 p b1).2.1
          by_cases w : rO p = i
          · rw [w, e2] at this; omega
          · omega
      · rw [tT]
        intro p t k b1 b2 b3 b4
        refine aT p t k b1 b2 b3 ?_
        rcases b4 with b4 | ⟨b4, b5⟩
        · exact Or.inl b4
        · refine Or.inr ⟨b4, ?_⟩
          have := (a4 p b1).2.2.2
          by_cases w : rT p = i
          · rw [w, e2] at this; omega
          · omega
      · have tt : topf (decide (0 ≤ m)) t ≤ t := topf_le
        have bx : pl e' t k < 384 := pl_lt2 (N := 6) (by omega) (by omega) (by omega) (by decide)
        rw [u2 _ bx]
        by_cases w : e' = e ∧ t = n
        · obtain ⟨w1, w2⟩ := w
          subst w1; subst w2
          rw [if_pos (by unfold pl; omega), show pl e' t k - pl e' t 0 = k by unfold pl; omega, kY_pl]
          refine (ev_HH.tr ?_).tr (hS.2.1 e' t k b1 (by omega) b3).sm
          refine xs_ev (by omega) hE (fun r hr => ?_)
          have q4 := hE.2.1 r hr
          exact aT _ t k (by omega) b2 b3 (Or.inr ⟨rfl, by have := hOr.2.2.2 e' b1 r hr; omega⟩)
        · rw [if_neg (fun c => w (by
            have e : pl e' t k = pl e n (pl e' t k - pl e n 0) := by unfold pl at c ⊢; omega
            have := pl_inj e (by omega) (by omega) (by omega) (by omega)
            omega))]
          refine aK e' t k b1 b2 b3 ?_
          rcases b4 with b4 | ⟨b4, b5⟩
          · exact Or.inl b4
          · refine Or.inr ⟨b4, ?_⟩
            have := (a5 e' b1).2
            by_cases y : rK e' = i
            · rw [y, e2] at this; exact absurd ⟨by omega, b4⟩ w
            · omega
      · rw [tO, tR, tG]
        intro p b1 b2
        have := (a4 p b1).2.1
        have ne : rO p ≠ i := fun w => by rw [w, e2] at this; omega
        exact ⟨fun x y => (hQ p b1 b2).1 x (by omega), fun x => (hQ p b1 b2).2 (by omega)⟩
    · -- a part
      have d1 : Int.tdiv (2 * (p : Int) + 7 - 6) 2 = (p : Int) := by rw [Int.tdiv_eq_ediv_of_nonneg (by omega)]; omega
      have d2 : Int.tmod (2 * (p : Int) + 7 - 6) 2 = 1 := by rw [Int.tmod_eq_emod_of_nonneg (by omega)]; omega
      rw [e2, gd_t (by omega), nx_e, d1, d2, gd_t (by omega), if_pos (by omega), gd_t (by decide), if_pos rfl, wp_bd1]
      have kp := fr_mX0_countPart_48 s (p : Int) (n : Int)
      refine wp_mono (wp_all (Q := fun S' => kept [49, 52, 53] [] s S') (w_countPart48 (S := s) (p := p) (n := n) h hG e1 hm hm2 eC hn nO nT nK nR nW hrz hng (fun sq a => (hQ p e1 sq).1 a (by omega))) kp) (fun S2 q2 => ?_)
      obtain ⟨⟨⟨mO, mR, mW, mz, mg⟩, v2, o2, s2, r2, g2⟩, k2⟩ := q2
      have tT : tb S2 50 = tb s 50 := by funext j; unfold tb; rw [k2.cell 50 (by decide) (by decide)]
      have tK : tb S2 51 = tb s 51 := by funext j; unfold tb; rw [k2.cell 51 (by decide) (by decide)]
      have nw : ∀ k : Nat, k ≤ topf (decide (0 ≤ m)) n → ev (tb S2 49 (pl p n k)) (Y (pl p n k)) := fun k b => by
        refine ((v2 k b).tr ?_).tr (hS.1 p n k e1 (by omega) b).1.sm
        exact pvC_ev (rO := rO) (rT := rT) (rK := rK) h hOr e1 (by omega) b (fun q t i b1 b2 b3 => aO q t i b1 (by omega) b3 (Or.inl b2)) (fun q i b1 b2 b3 => aO q n i b1 hn b3 (Or.inr ⟨rfl, by omega⟩)) (fun q i b1 b2 b3 => aT q n i b1 hn b3 (Or.inr ⟨rfl, by omega⟩)) (fun e' i b1 b2 b3 => aK e' n i b1 hn b3 (Or.inr ⟨rfl, by omega⟩))
      have oth : ∀ q t k : Nat, q < 24 → t ≤ 7 → k ≤ 7 → ¬ (q = p ∧ t = n) → tb S2 49 (pl q t k) = tb s 49 (pl q t k) := fun q t k b1 b2 b3 b4 => o2 _ (pl_lt2 (N := 24) b1 b2 b3 (by decide)) (fun k' x1 x2 => b4 (by have := pl_inj x2 (by omega) (by omega) (by omega) (by omega); omega))
      refine hk S2 ⟨⟨(congrFun (k2.cell 48 (by decide) (by decide)) 1).trans eC, hG.of (fun i a b => k2.cell i (by simp; omega) (by simp)), hA.of (by rw [k2.cell 2 (by decide) (by decide)]) (k2.cell 11 (by decide) (by decide))⟩, ⟨mO, ?_, ?_, mR, mW, mz, mg⟩, fun q t k b1 b2 b3 b4 => ?_, ?_, ?_, fun q b1 => ⟨fun w => ?_, ?_⟩, fun q b1 b2 => ?_⟩
      · intro j hj; rw [k2.cell 50 (by decide) (by decide)]; exact nT j hj
      · intro j hj; rw [k2.cell 51 (by decide) (by decide)]; exact nK j hj
      · have tt : topf (decide (0 ≤ m)) t ≤ t := topf_le
        by_cases w : q = p ∧ t = n
        · obtain ⟨w1, w2⟩ := w
          subst w1; subst w2
          exact nw k b3
        · rw [oth q t k (by omega) (by omega) (by omega) w]
          refine aO q t k b1 b2 b3 ?_
          rcases b4 with b4 | ⟨b4, b5⟩
          · exact Or.inl b4
          · refine Or.inr ⟨b4, ?_⟩
            have := (a4 q b1).2.1
            by_cases y : rO q = i
            · rw [y, e2] at this; exact absurd ⟨by omega, b4⟩ w
            · omega
      · rw [tT]
        intro q t k b1 b2 b3 b4
        refine aT q t k b1 b2 b3 ?_
        rcases b4 with b4 | ⟨b4, b5⟩
        · exact Or.inl b4
        · refine Or.inr ⟨b4, ?_⟩
          have := (a4 q b1).2.2.2
          by_cases w : rT q = i
          · rw [w, e2] at this; omega
          · omega
      · rw [tK]
        intro e' t k b1 b2 b3 b4
        refine aK e' t k b1 b2 b3 ?_
        rcases b4 with b4 | ⟨b4, b5⟩
        · exact Or.inl b4
        · refine Or.inr ⟨b4, ?_⟩
          have := (a5 e' b1).2
          by_cases w : rK e' = i
          · rw [w, e2] at this; omega
          · omega
      · by_cases y : q = p ∧ 0 = n
        · obtain ⟨y1, y2⟩ := y
          subst y1; subst y2
          have := nw 0 (Nat.zero_le _)
          exact (hS.2.2 q b1).1 (fun z => w ((ev_zero this).mpr z))
        · rw [oth q 0 0 (by omega) (by omega) (by omega) y] at w
          exact (hsup q b1).1 w
      · rw [tT]; exact (hsup q b1).2
      · -- the rows of all sequences
        have hch : (p : Int) < M 2 := e1
        by_cases y : q = p
        · subst y
          refine ⟨fun x z => by omega, fun _ => ?_⟩
          have c6 := (h.2.2.2.1 q b1).2.2.2.2.2 b2
          obtain ⟨z1, z2⟩ := s2 b2
          have cg : ∀ t j, 1 ≤ t → (t < n ∨ (t = n ∧ M (48 + (q : Int)) = 0)) → j ≤ topf (decide (0 ≤ m)) t → tb s 49 (pl (chM M q) t j) = tb S2 49 (pl (chM M q) t j) := fun t j x1 x2 x3 => by
            have tt : topf (decide (0 ≤ m)) t ≤ t := topf_le
            exact (oth _ t j (by unfold chM; omega) (by omega) (by omega) (by unfold chM; omega)).symm
          exact ⟨seqOK_cg cg z1, stP_cg cg z2⟩
        · have c6 := (h.2.2.2.1 q b1).2.2.2.2.2 b2
          have q512 : ∀ j t k : Nat, j ≤ 7 → t ≤ 7 → k ≤ 7 → tab (tb S2 52) q j t k = tab (tb s 52) q j t k := fun j t k x1 x2 x3 => by
            have := Nat.lt_of_lt_of_le (pl_lt (a := j) (n := t) (k := k) (N := 8) (by omega) (by omega) (by omega)) (show 8 * 64 ≤ 512 by decide)
            exact r2 _ (rb (by omega) x1 x2 x3) (by omega)
          have mv : ∀ (c : Nat → Nat → Nat) (N : Nat), N ≤ 7 → seqOK (decide (0 ≤ m)) (decide (m = -2)) M c (tb s 52) q N → seqOK (decide (0 ≤ m)) (decide (m = -2)) M c (tb S2 52) q N := fun c N hN z => by
            have hl := lgM_le h b1 b2
            refine ⟨fun t k x1 x2 => ?_, fun u1 u2 j t k x1 x2 x3 => ?_, fun u1 u2 => ⟨fun j t k x1 x2 x3 x4 => ?_, fun j t k x1 x2 x3 x4 x5 => ?_⟩⟩
            · have tt : topf (decide (0 ≤ m)) t ≤ t := topf_le
              rw [q512 0 t k (by omega) (by omega) (by omega)]; exact z.1 t k x1 x2
            · have tt : topf (decide (0 ≤ m)) t ≤ t := topf_le
              rw [q512 j t k (by omega) (by omega) (by omega)]; exact z.2.1 u1 u2 j t k x1 x2 x3
            · have tt : topf (decide (0 ≤ m)) t ≤ t := topf_le
              have w := q512 j t k (by omega) (by omega) (by omega)
              unfold tab at w
              rw [w]; exact (z.2.2 u1 u2).1 j t k x1 x2 x3 x4
            · have tt : topf (decide (0 ≤ m)) t ≤ t := topf_le
              rw [q512 j t k (by omega) (by omega) (by omega)]; exact (z.2.2 u1 u2).2 j t k x1 x2 x3 x4 x5
          have mg' : ∀ (c : Nat → Nat → Nat) (N : Nat), N ≤ 7 → stP 48 m M c (tb s 46) q N → stP 48 m M c (tb S2 46) q N := fun c N hN z hC hm' h45 hnum t j k x1 x2 x3 => by
            have hl := lgM_le h b1 b2
            have sl := szM_le (M := M) (p := q) (n := N)
            have := Nat.lt_of_lt_of_le (pl_lt (a := t) (n := j) (k := k) (N := 8) (by omega) (by omega) (by omega)) (show 8 * 64 ≤ 512 by decide)
            rw [g2 hC _ (rb (by omega) (by omega) (by omega) (by omega)) (by omega)]
            exact z hC hm' h45 hnum t j k x1 x2 x3
          have ne : rO q ≠ i := fun w => by
            have := (a4 q b1).2.1
            rw [w, e2] at this; omega
          refine ⟨fun x z => ?_, fun x => ?_⟩
          · obtain ⟨z1, z2⟩ := (hQ q b1 b2).1 x (by omega)
            have cg : ∀ t j, 1 ≤ t → (t < n - 1 ∨ (t = n - 1 ∧ M (48 + (q : Int)) = 0)) → j ≤ topf (decide (0 ≤ m)) t → tb s 49 (pl (chM M q) t j) = tb S2 49 (pl (chM M q) t j) := fun t j x1 x2 x3 => by
              have tt : topf (decide (0 ≤ m)) t ≤ t := topf_le
              exact (oth _ t j (by unfold chM; omega) (by omega) (by omega) (by omega)).symm
            exact ⟨mv _ _ (by omega) (seqOK_cg cg z1), mg' _ _ (by omega) (stP_cg cg z2)⟩
          · obtain ⟨z1, z2⟩ := (hQ q b1 b2).2 (by omega)
            have cg : ∀ t j, 1 ≤ t → (t < n ∨ (t = n ∧ M (48 + (q : Int)) = 0)) → j ≤ topf (decide (0 ≤ m)) t → tb s 49 (pl (chM M q) t j) = tb S2 49 (pl (chM M q) t j) := fun t j x1 x2 x3 => by
              have tt : topf (decide (0 ≤ m)) t ≤ t := topf_le
              refine (oth _ t j (by unfold chM; omega) (by omega) (by omega) (fun w => ?_)).symm
              have o3 := (hOr.2.2.1 q b1).2.2.1
              have b2' : 3 ≤ M (24 + (q : Int)) ∧ M (24 + (q : Int)) ≤ 6 := b2
              have := o3 ⟨b2'.1, b2'.2, by omega⟩
              have e : (M (72 + (q : Int))).toNat = p := w.1
              rw [e] at this
              omega
            exact ⟨mv _ _ (by omega) (seqOK_cg cg z1), mg' _ _ (by omega) (stP_cg cg z2)⟩
    · -- a tail
      have d1 : Int.tdiv (2 * (p : Int) + 6 - 6) 2 = (p : Int) := by rw [Int.tdiv_eq_ediv_of_nonneg (by omega)]; omega
      have d2 : Int.tmod (2 * (p : Int) + 6 - 6) 2 = 0 := by rw [Int.tmod_eq_emod_of_nonneg (by omega)]; omega
      rw [e2, gd_t (by omega), nx_e, d1, d2, gd_t (by omega), if_pos (by omega), gd_t (by decide), if_neg (by decide), wp_bd1]
      refine wp_mono (w_countTail48 (S := s) (p := p) (n := n) h hG hm eC e1 (by omega) nO nT) (fun S2 q2 => ?_)
      obtain ⟨mT, v2, o2, k2⟩ := q2
      have tO : tb S2 49 = tb s 49 := by funext j; unfold tb; rw [k2.cell 49 (by decide) (by decide)]
      have tK : tb S2 51 = tb s 51 := by funext j; unfold tb; rw [k2.cell 51 (by decide) (by decide)]
      have tR : tb S2 52 = tb s 52 := by funext j; unfold tb; rw [k2.cell 52 (by decide) (by decide)]
      have tG : tb S2 46 = tb s 46 := by funext j; unfold tb; rw [k2.cell 46 (by decide) (by decide)]
      have nw : ∀ k : Nat, k ≤ topf (decide (0 ≤ m)) n → ev (tb S2 50 (pl p n k)) (R (pl p n k)) := fun k b => by
        rw [v2 k b]
        have u : ev (tlv (decide (0 ≤ m)) (decide (m = -2)) (tb s 49) (tb s 50) (M (96 + (p : Int))) p n k) (tlu (decide (0 ≤ m)) (decide (m = -2)) (tb s 49) (tb s 50) (M (96 + (p : Int))) p n k) := by
          unfold tlv tlu
          split
          · exact ev.rf
          · exact ev_HH
        refine (u.tr ?_).tr (hS.1 p n k e1 (by omega) b).2.sm
        exact tlu_ev (rO := rO) (rT := rT) (rK := rK) h hOr e1 (by omega) b hsup hS.2.2 (fun q t i b1 b2 b3 => ⟨aO q t i b1 (by omega) b3 (Or.inl b2), aT q t i b1 (by omega) b3 (Or.inl b2)⟩) (fun q i b1 b2 b3 => aO q n i b1 hn b3 (Or.inr ⟨rfl, by omega⟩)) (fun q i b1 b2 b3 => aT q n i b1 hn b3 (Or.inr ⟨rfl, by omega⟩))
      have oth : ∀ q t k : Nat, q < 24 → t ≤ 7 → k ≤ 7 → ¬ (q = p ∧ t = n) → tb S2 50 (pl q t k) = tb s 50 (pl q t k) := fun q t k b1 b2 b3 b4 => o2 _ (pl_lt2 (N := 24) b1 b2 b3 (by decide)) (fun k' x1 x2 => b4 (by have := pl_inj x2 (by omega) (by omega) (by omega) (by omega); omega))
      refine hk S2 ⟨⟨(congrFun (k2.cell 48 (by decide) (by decide)) 1).trans eC, hG.of (fun i a b => k2.cell i (by simp; omega) (by simp)), hA.of (by rw [k2.cell 2 (by decide) (by decide)]) (k2.cell 11 (by decide) (by decide))⟩, ⟨?_, mT, ?_, ?_, ?_, by rw [tR]; exact hrz, ?_⟩, ?_, fun q t k b1 b2 b3 b4 => ?_, ?_, fun q b1 => ⟨?_, fun w => ?_⟩, ?_⟩
      · intro j hj; rw [k2.cell 49 (by decide) (by decide)]; exact nO j hj
      · intro j hj; rw [k2.cell 51 (by decide) (by decide)]; exact nK j hj
      · intro j hj; rw [k2.cell 52 (by decide) (by decide)]; exact nR j hj
      · intro j hj; rw [k2.cell 53 (by decide) (by decide)]; exact nW j hj
      · intro e j hj; rw [k2.cell 46 (by decide) (by decide)]; exact hng e j hj
      · rw [tO]
        intro q t k b1 b2 b3 b4
        refine aO q t k b1 b2 b3 ?_
        rcases b4 with b4 | ⟨b4, b5⟩
        · exact Or.inl b4
        · refine Or.inr ⟨b4, ?_⟩
          have := (a4 q b1).2.1
          by_cases w : rO q = i
          · rw [w, e2] at this; omega
          · omega
      · have tt : topf (decide (0 ≤ m)) t ≤ t := topf_le
        by_cases w : q = p ∧ t = n
        · obtain ⟨w1, w2⟩ := w
          subst w1; subst w2
          exact nw k b3
        · rw [oth q t k (by omega) (by omega) (by omega) w]
          refine aT q t k b1 b2 b3 ?_
          rcases b4 with b4 | ⟨b4, b5⟩
          · exact Or.inl b4
          · refine Or.inr ⟨b4, ?_⟩
            have := (a4 q b1).2.2.2
            by_cases y : rT q = i
            · rw [y, e2] at this; exact absurd ⟨by omega, b4⟩ w
            · omega
      · rw [tK]
        intro e' t k b1 b2 b3 b4
        refine aK e' t k b1 b2 b3 ?_
        rcases b4 with b4 | ⟨b4, b5⟩
        · exact Or.inl b4
        · refine Or.inr ⟨b4, ?_⟩
          have := (a5 e' b1).2
          by_cases w : rK e' = i
          · rw [w, e2] at this; omega
          · omega
      · rw [tO]; exact (hsup q b1).1
      · by_cases y : q = p ∧ 0 = n
        · obtain ⟨y1, y2⟩ := y
          subst y1; subst y2
          have := nw 0 (Nat.zero_le _)
          exact (hS.2.2 q b1).2 (fun z => w ((ev_zero this).mpr z))
        · rw [oth q 0 0 (by omega) (by omega) (by omega) y] at w
          exact (hsup q b1).2 w
      · rw [tO, tR, tG]
        intro q b1 b2
        have := (a4 q b1).2.1
        have ne : rO q ≠ i := fun w => by rw [w, e2] at this; omega
        exact ⟨fun x y => (hQ q b1 b2).1 x (by omega), fun x => (hQ q b1 b2).2 (by omega)⟩
  · try dsimp only
    have a1 := hI.1.2.2.1
    have a2 := hI.1.2.2.2.1
    rw [mX0_take_48_59, a1, gd_t (by omega), if_pos (by omega), wp_some]
    exact hI
/-- a census taken -/
theorem w_take48 {S : St} {M : Int → Int} {m : Int} {E TE KE : Nat → Prop} {rO rT rK : Nat → Nat} {st : Nat} {Y R : Nat → Nat} (h : WF M) (hOr : Ord M E TE KE rO rT rK) (hm : inI m) (hm2 : -2 ≤ m) (hS : sol (decide (0 ≤ m)) (decide (m = -2)) m M E TE Y R) (hG : GM S M) (hA : OA S M rO rT rK st) (hO : nb S 49 1536 HH) (hT : nb S 50 1536 HH) (hK : nb S 51 384 HH) (hR : nb S 52 12288 HH) (hW : nb S 53 8 HH) (hz : rz (tb S 52)) (hg : nbG 48 S) : wp (mX0_take_48 S m) (fun S' => TI48 m M E TE rO rT rK st Y R ((M 1).toNat + 1) 0 S') := by
  have hM2 := h.2.2.1
  have hM1 := h.2.1
  have hM0 := h.1
  unfold mX0_take_48
  rw [nx_e, wp_bd1]
  have k0 : kept [49, 50] [(48, 1)] S (up S 48 1 m) := kept.upF kept.rf (by simp)
  refine wp_mono (loopW (fun f v s => mX0_take_48_7 f v s) (fun P S' => nb S' 49 1536 HH ∧ nb S' 50 1536 HH ∧ S' 48 1 = m ∧ (∀ p : Nat, p < P → tb S' 49 (pl p 0 0) = 0 ∧ tb S' 50 (pl p 0 0) = 0) ∧ kept [49, 50] [(48, 1)] S S') (fun S' => nb S' 49 1536 HH ∧ nb S' 50 1536 HH ∧ S' 48 1 = m ∧ (∀ p : Nat, (p : Int) < M 2 → tb S' 49 (pl p 0 0) = 0 ∧ tb S' 50 (pl p 0 0) = 0) ∧ kept [49, 50] [(48, 1)] S S') (M 2).toNat (fun p f s hp hI hk => ?_) (fun f s hI => ?_) (M 2).toNat 0 FU (up S 48 1 m) (by omega) (by unfold FU; omega) ⟨by intro j hj; rw [up_n (by decide)]; exact hO j hj, by intro j hj; rw [up_n (by decide)]; exact hT j hj, up_eq, fun p a => by omega, k0⟩) (fun S1 q1 => ?_)
  · obtain ⟨n1, n2, n3, v1, k1⟩ := hI
    try dsimp only at hk ⊢
    have e2 : s 2 3 = M 2 := by rw [k1.cell 2 (by decide) (by decide)]; exact hG.1.2.2.2
    rw [mX0_take_48_7, e2, gd_t (by omega), if_neg (by omega), gd_t (by omega), nx_e, nx_e, show (p : Int) * 64 = ((pl p 0 0 : Nat) : Int) by unfold pl; omega]
    refine hk _ ⟨?_, ?_, ?_, fun q a => ⟨?_, ?_⟩, kept.upA (kept.upA k1 (by simp)) (by simp)⟩
    · intro j hj; rw [up_n (by decide)]; exact nb_up (v := 0) n1 (Nat.zero_le _) j hj
    · exact nb_up (v := 0) (by intro j hj; rw [up_n (by decide)]; exact n2 j hj) (Nat.zero_le _)
    · rw [up_n (by decide), up_n (by decide)]; exact n3
    · have u : tb (up (up s 49 ((pl p 0 0 : Nat) : Int) 0) 50 ((pl p 0 0 : Nat) : Int) 0) 49 (pl q 0 0) = tb (up s 49 ((pl p 0 0 : Nat) : Int) ((0 : Nat) : Int)) 49 (pl q 0 0) := by unfold tb; rw [up_n (by decide)]; rfl
      rw [u, tb_up]
      by_cases e : q = p
      · subst e; rw [if_pos rfl]
      · rw [if_neg (fun x => e (pl_inj x (by omega) (by omega) (by omega) (by omega)).1)]; exact (v1 q (by omega)).1
    · have u : tb (up (up s 49 ((pl p 0 0 : Nat) : Int) 0) 50 ((pl p 0 0 : Nat) : Int) ((0 : Nat) : Int)) 50 (pl q 0 0) = _ := tb_up
      refine Eq.trans u ?_
      by_cases e : q = p
      · subst e; rw [if_pos rfl]
      · rw [if_neg (fun x => e (pl_inj x (by omega) (by omega) (by omega) (by omega)).1)]
        unfold tb
        rw [up_n (by decide)]
        exact (v1 q (by omega)).2
  · obtain ⟨n1, n2, n3, v1, k1⟩ := hI
    try dsimp only
    have e2 : s 2 3 = M 2 := by rw [k1.cell 2 (by decide) (by decide)]; exact hG.1.2.2.2
    rw [mX0_take_48_7, e2, gd_t (by omega), if_pos (by omega), wp_some]
    exact ⟨n1, n2, n3, fun p a => v1 p (by omega), k1⟩
  · obtain ⟨n1, n2, n3, v1, k1⟩ := q1
    rw [wp_bd1]
    have tR : tb S1 52 = tb S 52 := by funext j; unfold tb; rw [k1.cell 52 (by decide) (by decide)]
    have start : TI48 m M E TE rO rT rK st Y R 0 0 S1 := by
      refine ⟨⟨n3, hG.of (fun i a b => k1.cell i (by simp; omega) (by simp; omega)), hA.of (by rw [k1.cell 2 (by decide) (by decide)]) (k1.cell 11 (by decide) (by decide))⟩, ⟨n1, n2, ?_, ?_, ?_, by rw [tR]; exact hz, ?_⟩, fun p s k _ _ _ x => by omega, fun p s k _ _ _ x => by omega, fun p s k _ _ _ x => by omega, fun p a => ⟨fun w => absurd (v1 p a).1 w, fun w => absurd (v1 p a).2 w⟩, fun p _ _ => ⟨fun x => by omega, fun x => by omega⟩⟩
      · intro j hj; rw [k1.cell 51 (by decide) (by decide)]; exact hK j hj
      · intro j hj; rw [k1.cell 52 (by decide) (by decide)]; exact hR j hj
      · intro j hj; rw [k1.cell 53 (by decide) (by decide)]; exact hW j hj
      · intro e j hj; rw [k1.cell 46 (by decide) (by decide)]; exact hg e j hj
    refine wp_mono (loopW (fun f v s => mX0_take_48_46 f v s) (fun n S' => TI48 m M E TE rO rT rK st Y R n 0 S') (fun S' => TI48 m M E TE rO rT rK st Y R ((M 1).toNat + 1) 0 S') ((M 1).toNat + 1) (fun n f s hn hI hk => ?_) (fun f s hI => ?_) ((M 1).toNat + 1) 0 FU S1 (by omega) (by unfold FU; omega) start) (fun S' q => by rw [wp_some]; exact q)
    · try dsimp only at hk ⊢
      rw [mX0_take_48_46, hI.1.2.1.1.1, gd_t (by omega), if_neg (by omega), wp_bd1]
      have ss := hI.1.2.2.2.1
      refine wp_mono (tk48_59 (n := n) h hOr hm hm2 hS (by omega) st 0 FU s (by omega) (by unfold FU; omega) hI) (fun S2 q2 => ?_)
      obtain ⟨b1, b2, aO, aT, aK, hsup, hQ⟩ := q2
      have a4 := b1.2.2.2.2.2.1
      have a5 := b1.2.2.2.2.2.2
      refine hk S2 ⟨b1, b2, fun p t k c1 c2 c3 c4 => aO p t k c1 c2 c3 ?_, fun p t k c1 c2 c3 c4 => aT p t k c1 c2 c3 ?_, fun p t k c1 c2 c3 c4 => aK p t k c1 c2 c3 ?_, hsup, fun p c1 c2 => ⟨fun _ _ => ?_, fun x => by omega⟩⟩
      · have := (a4 p c1).1; omega
      · have := (a4 p c1).2.2.1; omega
      · have := (a5 p c1).1; omega
      · rw [show n + 1 - 1 = n by omega]
        exact (hQ p c1 c2).2 (a4 p c1).1
    · try dsimp only
      rw [mX0_take_48_46, hI.1.2.1.1.1, gd_t (by omega), if_pos (by omega), wp_some]
      exact hI
/-! the class's census 40: take -/
theorem w_countPart40 {S : St} {M : Int → Int} {m : Int} {p n : Nat} (h : WF M) (hG : GM S M) (hp2 : (p : Int) < M 2) (hm : inI m) (hm2 : -2 ≤ m) (h1 : S 40 1 = m) (hn : (n : Int) ≤ M 1) (hO : nb S 41 1536 HH) (hT : nb S 42 1536 HH) (hK : nb S 43 384 HH) (hR : nb S 44 12288 HH) (hW : nb S 45 8 HH) (hz : rz (tb S 44)) (hg : nbG 40 S) (hQ : isSq M p → 1 ≤ n → seqOK (decide (0 ≤ m)) (decide (m = -2)) M (fun s i => tb S 41 (pl (chM M p) s i)) (tb S 44) p (n - 1) ∧ stP 40 m M (fun s i => tb S 41 (pl (chM M p) s i)) (tb S 46) p (n - 1)) : wp (mX0_countPart_40 S (p : Int) (n : Int)) (fun S' => (nb S' 41 1536 HH ∧ nb S' 44 12288 HH ∧ nb S' 45 8 HH ∧ rz (tb S' 44) ∧ nbG 40 S') ∧ (∀ k : Nat, k ≤ topf (decide (0 ≤ m)) n → ev (tb S' 41 (pl p n k)) (pvC (decide (0 ≤ m)) (decide (m = -2)) m M (tb S 41) (tb S 42) (tb S 43) p n k)) ∧ (∀ x : Nat, x < 1536 → (∀ k : Nat, k ≤ topf (decide (0 ≤ m)) n → x ≠ pl p n k) → tb S' 41 x = tb S 41 x) ∧ (isSq M p → seqOK (decide (0 ≤ m)) (decide (m = -2)) M (fun s i => tb S 41 (pl (chM M p) s i)) (tb S' 44) p n ∧ stP 40 m M (fun s i => tb S 41 (pl (chM M p) s i)) (tb S' 46) p n) ∧ (∀ x : Nat, x < 12288 → (x < p * 512 ∨ p * 512 + 512 ≤ x) → tb S' 44 x = tb S 44 x) ∧ frG 40 S S' p) := by
  have hM2 := h.2.2.1
  have hM1 := h.2.1
  have hM0 := h.1
  obtain ⟨hh1, h2, h3, h4, h5, h6⟩ := h.2.2.2.1 p hp2
  have tn : topf (decide (0 ≤ m)) n ≤ n := topf_le
  have g3 : S 3 (p : Int) = M (24 + (p : Int)) := (hG.2.1 p hp2).1
  have bl : pl p n 0 + 7 < 1536 := by unfold pl; omega
  have rng : ∀ x : Nat, (∀ k : Nat, k ≤ topf (decide (0 ≤ m)) n → x ≠ pl p n k) → ¬ (pl p n 0 ≤ x ∧ x < pl p n 0 + (topf (decide (0 ≤ m)) n + 1)) := fun x hne c => hne (x - pl p n 0) (by omega) (by unfold pl at c ⊢; omega)
  -- steps that write the part's cells alone
  have simple : ∀ (F : Option St) (V : Nat → Nat), ¬ isSq M p → (∀ k : Nat, k ≤ topf (decide (0 ≤ m)) n → V k ≤ HH ∧ ev (V k) (pvC (decide (0 ≤ m)) (decide (m = -2)) m M (tb S 41) (tb S 42) (tb S 43) p n k)) → wp F (fun S' => (∀ x : Nat, x < 1536 → S' 41 (x : Int) = if pl p n 0 ≤ x ∧ x < pl p n 0 + (topf (decide (0 ≤ m)) n + 1) then ((V (x - pl p n 0) : Nat) : Int) else S 41 (x : Int)) ∧ kept [41] [] S S') → wp F (fun S' => (nb S' 41 1536 HH ∧ nb S' 44 12288 HH ∧ nb S' 45 8 HH ∧ rz (tb S' 44) ∧ nbG 40 S') ∧ (∀ k : Nat, k ≤ topf (decide (0 ≤ m)) n → ev (tb S' 41 (pl p n k)) (pvC (decide (0 ≤ m)) (decide (m = -2)) m M (tb S 41) (tb S 42) (tb S 43) p n k)) ∧ (∀ x : Nat, x < 1536 → (∀ k : Nat, k ≤ topf (decide (0 ≤ m)) n → x ≠ pl p n k) → tb S' 41 x = tb S 41 x) ∧ (isSq M p → seqOK (decide (0 ≤ m)) (decide (m = -2)) M (fun s i => tb S 41 (pl (chM M p) s i)) (tb S' 44) p n ∧ stP 40 m M (fun s i => tb S 41 (pl (chM M p) s i)) (tb S' 46) p n) ∧ (∀ x : Nat, x < 12288 → (x < p * 512 ∨ p * 512 + 512 ≤ x) → tb S' 44 x = tb S 44 x) ∧ frG 40 S S' p) := by
    intro F V nsq hV hF
    refine wp_mono hF (fun S' q => ?_)
    obtain ⟨v, k1⟩ := q
    have tR : tb S' 44 = tb S 44 := by funext j; unfold tb; rw [k1.cell 44 (by decide) (by decide)]
    have tG : tb S' 46 = tb S 46 := by funext j; unfold tb; rw [k1.cell 46 (by decide) (by decide)]
    refine ⟨⟨fun x hx => ?_, ?_, ?_, by rw [tR]; exact hz, ?_⟩, fun k a => ?_, fun x hx hne => ?_, fun e => absurd e nsq, fun x hx hne => by rw [tR], fun e x hx hne => by rw [tG]⟩
    · rw [v x hx]
      by_cases c : pl p n 0 ≤ x ∧ x < pl p n 0 + (topf (decide (0 ≤ m)) n + 1)
      · rw [if_pos c]; exact ⟨_, rfl, (hV _ (by omega)).1⟩
      · rw [if_neg c]; exact hO x hx
    · intro j hj; rw [k1.cell 44 (by decide) (by decide)]; exact hR j hj
    · intro j hj; rw [k1.cell 45 (by decide) (by decide)]; exact hW j hj
    · intro e j hj; rw [k1.cell 46 (by decide) (by decide)]; exact hg e j hj
    · show ev (S' 41 ((pl p n k : Nat) : Int)).toNat _
      rw [v _ (by unfold pl at bl ⊢; omega), if_pos (by unfold pl; omega), show pl p n k - pl p n 0 = k by unfold pl; omega]
      exact (hV k a).2
    · show (S' 41 (x : Int)).toNat = _
      rw [v x hx, if_neg (rng x hne)]; rfl
  unfold mX0_countPart_40
  rw [nx_e, gd_t (by omega), nx_e, g3, gd_t (by omega), show (p : Int) * 64 + (n : Int) * 8 = ((pl p n 0 : Nat) : Int) by unfold pl; omega]
  by_cases s7 : M (24 + (p : Int)) = 7
  · obtain ⟨q1, q2, q3⟩ := h5 s7
    rw [if_pos s7, show (6 : Int) + (p : Int) = ((6 + p : Nat) : Int) by omega]
    refine simple _ (fun k => min HH (xs M (fun q => tb S 42 (pl q n k)) (6 + p))) (by unfold isSq; omega) (fun k a => ⟨min_le', ?_⟩) ?_
    · unfold pvC
      rw [if_neg (by omega), if_neg (by omega), if_neg (by omega), if_pos s7]
      exact ev_HH
    · rw [wp_bd1]
      refine wp_mono (w_sum40_41 (S := S) (e := 6 + p) (base := pl p n 0) h hG hm h1 (by omega) (show 0 ≤ (p : Int) + 1 by omega) q3 (by omega) hT (by omega)) (fun S' q => ?_)
      rw [wp_some]; exact q
  rw [if_neg s7]
  by_cases s2 : M (24 + (p : Int)) = 2
  · have v2 := h4 s2
    have g4 : S 4 (p : Int) = M (48 + (p : Int)) := (hG.2.1 p hp2).2.2.1 (by omega)
    obtain ⟨e, he⟩ : ∃ e : Nat, M (48 + (p : Int)) = (e : Int) := ⟨(M (48 + (p : Int))).toNat, by omega⟩
    have be : pl e n 0 + 7 < 384 := by unfold pl; omega
    rw [if_pos s2, g4, he, show (e : Int) * 64 + (n : Int) * 8 = ((pl e n 0 : Nat) : Int) by unfold pl; omega]
    refine simple _ (fun k => tb S 43 (pl e n k)) (by unfold isSq; omega) (fun k a => ⟨(hK.at (by unfold pl at be ⊢; omega)).2, ?_⟩) ?_
    · unfold pvC
      rw [if_neg (by omega), if_neg (by omega), if_pos s2, he]
      exact ev.rf
    · rw [wp_bd1]
      refine wp_mono (w_cpy40_43_41 (S := S) (src := pl e n 0) (base := pl p n 0) hm h1 (by omega) (by omega) (by omega)) (fun S' q => ?_)
      rw [wp_some]
      refine ⟨fun x hx => ?_, q.2⟩
      rw [q.1 x hx]
      by_cases c : pl p n 0 ≤ x ∧ x < pl p n 0 + (topf (decide (0 ≤ m)) n + 1)
      · rw [if_pos c, if_pos c, (hK.at (show pl e n 0 + (x - pl p n 0) < 384 by omega)).1, show pl e n 0 + (x - pl p n 0) = pl e n (x - pl p n 0) by unfold pl; omega]
      · rw [if_neg c, if_neg c]
  rw [if_neg s2, bd1_e (e_isSeq h hG hp2)]
  by_cases sq : 3 ≤ M (24 + (p : Int)) ∧ M (24 + (p : Int)) ≤ 6
  · have h6' := h6 sq
    rw [if_pos sq, gd_t (by decide), if_neg (by decide), wp_bd1]
    refine wp_mono (w_countSeq40 (S := S) (c := chM M p) h hG hp2 sq (by unfold chM; omega) hm h1 hn hO hR hW hz hg (fun a => (hQ sq a).1) (fun a => (hQ sq a).2)) (fun S' q => ?_)
    rw [wp_some]
    obtain ⟨q1, q2, q3, q4, q5, q6, q7⟩ := q
    refine ⟨q1, fun k a => (q2 k a).tr ?_, q3, fun _ => ⟨q4, q5⟩, q6, q7⟩
    unfold pvC
    rw [if_neg (show ¬ M (24 + (p : Int)) = 0 by omega), if_neg (show ¬ M (24 + (p : Int)) = 1 by omega), if_neg s2, if_neg s7]
    exact ev.rf
  · rw [if_neg sq, gd_t (by decide), if_pos rfl]
    have g4 : S 4 (p : Int) = M (48 + (p : Int)) := (hG.2.1 p hp2).2.2.1 (by omega)
    have cl := w_clr40_41 (S := S) (base := pl p n 0) (n := n) hm h1 (by omega) (by omega)
    by_cases s0 : M (24 + (p : Int)) = 0
    · have v0 := h3 s0
      refine simple _ (fun k => if n = 1 then (if m = M (48 + (p : Int)) then (if k = 1 then 1 else 0) else (if k = 0 then 1 else 0)) else 0) sq (fun k a => ⟨by (repeat' split) <;> decide, ?_⟩) ?_
      · unfold pvC; rw [if_pos s0]; exact ev.rf
      · rw [wp_bd1]
        refine wp_mono cl (fun S1 q => ?_)
        obtain ⟨v1, k1⟩ := q
        have e1 : S1 40 1 = m := (congrFun (k1.cell 40 (by decide) (by decide)) 1).trans h1
        have e4 : S1 4 (p : Int) = M (48 + (p : Int)) := by rw [k1.cell 4 (by decide) (by decide)]; exact g4
        have zz : (if M (24 + (p : Int)) = 0 then (gd ((inI (S1 40 1)) ∧ (inI (S1 4 (p : Int)))) <| if (S1 40 1) = (S1 4 (p : Int)) then (some (1 : Int)) else (some 0)) else (some 0)) = some (((if m = M (48 + (p : Int)) then 1 else 0 : Nat)) : Int) := by
          rw [if_pos s0, e1, e4, gd_t (by omega)]
          split <;> rfl
        rw [bd1_e zz, bd1_e (show (if M (24 + (p : Int)) = 0 then (some (1 : Int)) else (some 0)) = some 1 by rw [if_pos s0]), gd_t (by omega)]
        by_cases n1 : n = 1
        · subst n1
          have kk : (if m = M (48 + (p : Int)) then 1 else 0) ≤ topf (decide (0 ≤ m)) 1 := by
            by_cases w : m = M (48 + (p : Int))
            · rw [if_pos w]; unfold topf; simp [show 0 ≤ m by omega]
            · rw [if_neg w]; exact Nat.zero_le _
          rw [if_pos (by omega), show ((pl p 1 0 : Nat) : Int) + (((if m = M (48 + (p : Int)) then 1 else 0 : Nat)) : Int) = ((pl p 1 0 + (if m = M (48 + (p : Int)) then 1 else 0) : Nat) : Int) by omega, gd_t (by omega), nx_e, wp_some]
          refine ⟨fun x hx => ?_, kept.upA k1 (by simp)⟩
          by_cases c : pl p 1 0 ≤ x ∧ x < pl p 1 0 + (topf (decide (0 ≤ m)) 1 + 1)
          · rw [if_pos c, if_pos rfl]
            by_cases e : x = pl p 1 0 + (if m = M (48 + (p : Int)) then 1 else 0)
            · rw [e, up_eq, show pl p 1 0 + (if m = M (48 + (p : Int)) then 1 else 0) - pl p 1 0 = (if m = M (48 + (p : Int)) then 1 else 0) by omega]
              by_cases w : m = M (48 + (p : Int))
              · rw [if_pos w, if_pos w, if_pos rfl]; rfl
              · rw [if_neg w, if_neg w, if_pos rfl]; rfl
            · rw [up_nk (by omega), v1 x hx, if_pos c]
              by_cases w : m = M (48 + (p : Int))
              · rw [if_pos w] at e ⊢
                rw [if_neg (by omega)]; rfl
              · rw [if_neg w] at e ⊢
                rw [if_neg (by omega)]; rfl
          · rw [if_neg c, up_nk (by omega), v1 x hx, if_neg c]
        · rw [if_neg (by omega), wp_some]
          refine ⟨fun x hx => ?_, k1⟩
          rw [v1 x hx]
          by_cases c : pl p n 0 ≤ x ∧ x < pl p n 0 + (topf (decide (0 ≤ m)) n + 1)
          · rw [if_pos c, if_pos c, if_neg n1]; rfl
          · rw [if_neg c, if_neg c]
    · have s1 : M (24 + (p : Int)) = 1 := by omega
      refine simple _ (fun k => if n = 0 then 1 else 0) sq (fun k a => ⟨by split <;> decide, ?_⟩) ?_
      · unfold pvC; rw [if_neg s0, if_pos s1]; exact ev.rf
      · rw [wp_bd1]
        refine wp_mono cl (fun S1 q => ?_)
        obtain ⟨v1, k1⟩ := q
        rw [bd1_e (show (if M (24 + (p : Int)) = 0 then (gd ((inI (S1 40 1)) ∧ (inI (S1 4 (p : Int)))) <| if (S1 40 1) = (S1 4 (p : Int)) then (some (1 : Int)) else (some 0)) else (some 0)) = some 0 by rw [if_neg s0]), bd1_e (show (if M (24 + (p : Int)) = 0 then (some (1 : Int)) else (some 0)) = some 0 by rw [if_neg s0]), gd_t (by omega)]
        by_cases n0 : n = 0
        · subst n0
          have t0 : topf (decide (0 ≤ m)) 0 = 0 := topf_0
          rw [if_pos (by omega), show ((pl p 0 0 : Nat) : Int) + 0 = ((pl p 0 0 : Nat) : Int) by omega, gd_t (by omega), nx_e, wp_some]
          refine ⟨fun x hx => ?_, kept.upA k1 (by simp)⟩
          by_cases c : pl p 0 0 ≤ x ∧ x < pl p 0 0 + (topf (decide (0 ≤ m)) 0 + 1)
          · have e : x = pl p 0 0 := by omega
            rw [if_pos c, if_pos rfl, e, up_eq]; rfl
          · rw [if_neg c, up_nk (by omega), v1 x hx, if_neg c]
        · rw [if_neg (by omega), wp_some]
          refine ⟨fun x hx => ?_, k1⟩
          rw [v1 x hx]
          by_cases c : pl p n 0 ≤ x ∧ x < pl p n 0 + (topf (decide (0 ≤ m)) n + 1)
          · rw [if_pos c, if_pos c, if_neg n0]; rfl
          · rw [if_neg c, if_neg c]
/-- before the step i at the size n -/
def TI40 (m : Int) (M : Int → Int) (E TE : Nat → Prop) (rO rT rK : Nat → Nat) (st : Nat) (Y R : Nat → Nat) (n i : Nat) (S : St) : Prop :=
  (S 40 1 = m ∧ GM S M ∧ OA S M rO rT rK st) ∧ (nb S 41 1536 HH ∧ nb S 42 1536 HH ∧ nb S 43 384 HH ∧ nb S 44 12288 HH ∧ nb S 45 8 HH ∧ rz (tb S 44) ∧ nbG 40 S) ∧
  (∀ p s k : Nat, (p : Int) < M 2 → (s : Int) ≤ M 1 → k ≤ topf (decide (0 ≤ m)) s → (s < n ∨ (s = n ∧ rO p < i)) → ev (tb S 41 (pl p s k)) (Y (pl p s k))) ∧
  (∀ p s k : Nat, (p : Int) < M 2 → (s : Int) ≤ M 1 → k ≤ topf (decide (0 ≤ m)) s → (s < n ∨ (s = n ∧ rT p < i)) → ev (tb S 42 (pl p s k)) (R (pl p s k))) ∧
  (∀ e s k : Nat, (e : Int) < M 0 → (s : Int) ≤ M 1 → k ≤ topf (decide (0 ≤ m)) s → (s < n ∨ (s = n ∧ rK e < i)) → ev (tb S 43 (pl e s k)) (kY Y (pl e s k))) ∧
  (∀ p : Nat, (p : Int) < M 2 → (tb S 41 (pl p 0 0) ≠ 0 → E p) ∧ (tb S 42 (pl p 0 0) ≠ 0 → TE p)) ∧
  (∀ p : Nat, (p : Int) < M 2 → isSq M p → (1 ≤ n → i ≤ rO p → seqOK (decide (0 ≤ m)) (decide (m = -2)) M (fun s i => tb S 41 (pl (chM M p) s i)) (tb S 44) p (n - 1) ∧ stP 40 m M (fun s i => tb S 41 (pl (chM M p) s i)) (tb S 46) p (n - 1)) ∧ (rO p < i → seqOK (decide (0 ≤ m)) (decide (m = -2)) M (fun s i => tb S 41 (pl (chM M p) s i)) (tb S 44) p n ∧ stP 40 m M (fun s i => tb S 41 (pl (chM M p) s i)) (tb S 46) p n))
theorem tk40_59 {M : Int → Int} {m : Int} {E TE KE : Nat → Prop} {rO rT rK : Nat → Nat} {st : Nat} {Y R : Nat → Nat} {n : Nat} (h : WF M) (hOr : Ord M E TE KE rO rT rK) (hm : inI m) (hm2 : -2 ≤ m) (hS : sol (decide (0 ≤ m)) (decide (m = -2)) m M E TE Y R) (hn : (n : Int) ≤ M 1) : ∀ (d i f : Nat) (S : St), i + d = st → d < f → TI40 m M E TE rO rT rK st Y R n i S → wp (mX0_take_40_59 (n : Int) f (i : Int) S) (fun S' => TI40 m M E TE rO rT rK st Y R n st S') := by
  have hM2 := h.2.2.1
  have hM1 := h.2.1
  have hM0 := h.1
  have tn : topf (decide (0 ≤ m)) n ≤ n := topf_le
  refine loopW (fun f v s => mX0_take_40_59 (n : Int) f v s) (fun i S => TI40 m M E TE rO rT rK st Y R n i S) _ st (fun i f s hi hI hk => ?_) (fun f s hI => ?_)
  · have hI0 := hI
    obtain ⟨⟨eC, hG, hA⟩, ⟨nO, nT, nK, nR, nW, hrz, hng⟩, aO, aT, aK, hsup, hQ⟩ := hI
    obtain ⟨a1, a2, a3, a4, a5⟩ := id hA
    try dsimp only at hk ⊢
    rw [mX0_take_40_59, a1, gd_t (by omega), if_neg (by omega), gd_t (by omega), nx_e]
    rcases a3 i hi with ⟨e, e1, e2, e3⟩ | ⟨p, e1, e2, e3⟩ | ⟨p, e1, e2, e3⟩
    · -- a kind
      have hE := h.2.2.2.2.1 e e1
      have be : pl e n 0 + 7 < 384 := by unfold pl; omega
      rw [e2, gd_t (by omega), nx_e, gd_t (by omega), if_neg (by omega), wp_bd1, show (e : Int) * 64 + (n : Int) * 8 = ((pl e n 0 : Nat) : Int) by unfold pl; omega]
      refine wp_mono (w_sum40_43 (S := s) (e := e) (base := pl e n 0) h hG hm eC (by omega) (show 0 ≤ (0 : Int) by omega) hE (by omega) nT (by omega)) (fun S2 q2 => ?_)
      obtain ⟨v2, k2⟩ := q2
      have u2 : ∀ x : Nat, x < 384 → tb S2 43 x = if pl e n 0 ≤ x ∧ x < pl e n 0 + (topf (decide (0 ≤ m)) n + 1) then min HH (xs M (fun p => tb s 42 (pl p n (x - pl e n 0))) e) else tb s 43 x := fun x hx => by
        show (S2 43 (x : Int)).toNat = _
        rw [v2 x hx]; split <;> rfl
      have tO : tb S2 41 = tb s 41 := by funext j; unfold tb; rw [k2.cell 41 (by decide) (by decide)]
      have tT : tb S2 42 = tb s 42 := by funext j; unfold tb; rw [k2.cell 42 (by decide) (by decide)]
      have tR : tb S2 44 = tb s 44 := by funext j; unfold tb; rw [k2.cell 44 (by decide) (by decide)]
      have tG : tb S2 46 = tb s 46 := by funext j; unfold tb; rw [k2.cell 46 (by decide) (by decide)]
      refine hk S2 ⟨⟨(congrFun (k2.cell 40 (by decide) (by decide)) 1).trans eC, hG.of (fun i a b => k2.cell i (by simp; omega) (by simp)), hA.of (by rw [k2.cell 2 (by decide) (by decide)]) (k2.cell 11 (by decide) (by decide))⟩, ⟨?_, ?_, fun x hx => ?_, ?_, ?_, by rw [tR]; exact hrz, ?_⟩, ?_, ?_, fun e' t k b1 b2 b3 b4 => ?_, by rw [tO, tT]; exact hsup, ?_⟩
      · intro j hj; rw [k2.cell 41 (by decide) (by decide)]; exact nO j hj
      · intro j hj; rw [k2.cell 42 (by decide) (by decide)]; exact nT j hj
      · rw [v2 x hx]
        split
        · exact ⟨_, rfl, min_le'⟩
        · exact nK x hx
      · intro j hj; rw [k2.cell 44 (by decide) (by decide)]; exact nR j hj
      · intro j hj; rw [k2.cell 45 (by decide) (by decide)]; exact nW j hj
      · intro e j hj; rw [k2.cell 46 (by decide) (by decide)]; exact hng e j hj
      · rw [tO]
        intro p t k b1 b2 b3 b4
        refine aO p t k b1 b2 b3 ?_
        rcases b4 with b4 | ⟨b4, b5⟩
        · exact Or.inl b4
        · refine Or.inr ⟨b4, ?_⟩
          have := (a4 p b1).2.1
          by_cases w : rO p = i
          · rw [w, e2] at this; omega
          · omega
      · rw [tT]
        intro p t k b1 b2 b3 b4
        refine aT p t k b1 b2 b3 ?_
        rcases b4 with b4 | ⟨b4, b5⟩
        · exact Or.inl b4
        · refine Or.inr ⟨b4, ?_⟩
          have := (a4 p b1).2.2.2
          by_cases w : rT p = i
          · rw [w, e2] at this; omega
          · omega
      · have tt : topf (decide (0 ≤ m)) t ≤ t := topf_le
        have bx : pl e' t k < 384 := pl_lt2 (N := 6) (by omega) (by omega) (by omega) (by decide)
        rw [u2 _ bx]
        by_cases w : e' = e ∧ t = n
        · obtain ⟨w1, w2⟩ := w
          subst w1; subst w2
          rw [if_pos (by unfold pl; omega), show pl e' t k - pl e' t 0 = k by unfold pl; omega, kY_pl]
          refine (ev_HH.tr ?_).tr (hS.2.1 e' t k b1 (by omega) b3).sm
          refine xs_ev (by omega) hE (fun r hr => ?_)
          have q4 := hE.2.1 r hr
          exact aT _ t k (by omega) b2 b3 (Or.inr ⟨rfl, by have := hOr.2.2.2 e' b1 r hr; omega⟩)
        · rw [if_neg (fun c => w (by
            have e : pl e' t k = pl e n (pl e' t k - pl e n 0) := by unfold pl at c ⊢; omega
            have := pl_inj e (by omega) (by omega) (by omega) (by omega)
            omega))]
          refine aK e' t k b1 b2 b3 ?_
          rcases b4 with b4 | ⟨b4, b5⟩
          · exact Or.inl b4
          · refine Or.inr ⟨b4, ?_⟩
            have := (a5 e' b1).2
            by_cases y : rK e' = i
            · rw [y, e2] at this; exact absurd ⟨by omega, b4⟩ w
            · omega
      · rw [tO, tR, tG]
        intro p b1 b2
        have := (a4 p b1).2.1
        have ne : rO p ≠ i := fun w => by rw [w, e2] at this; omega
        exact ⟨fun x y => (hQ p b1 b2).1 x (by omega), fun x => (hQ p b1 b2).2 (by omega)⟩
    · -- a part
      have d1 : Int.tdiv (2 * (p : Int) + 7 - 6) 2 = (p : Int) := by rw [Int.tdiv_eq_ediv_of_nonneg (by omega)]; omega
      have d2 : Int.tmod (2 * (p : Int) + 7 - 6) 2 = 1 := by rw [Int.tmod_eq_emod_of_nonneg (by omega)]; omega
      rw [e2, gd_t (by omega), nx_e, d1, d2, gd_t (by omega), if_pos (by omega), gd_t (by decide), if_pos rfl, wp_bd1]
      have kp := fr_mX0_countPart_40 s (p : Int) (n : Int)
      refine wp_mono (wp_all (Q := fun S' => kept [41, 44, 45, 46] [] s S') (w_countPart40 (S := s) (p := p) (n := n) h hG e1 hm hm2 eC hn nO nT nK nR nW hrz hng (fun sq a => (hQ p e1 sq).1 a (by omega))) kp) (fun S2 q2 => ?_)
      obtain ⟨⟨⟨mO, mR, mW, mz, mg⟩, v2, o2, s2, r2, g2⟩, k2⟩ := q2
      have tT : tb S2 42 = tb s 42 := by funext j; unfold tb; rw [k2.cell 42 (by decide) (by decide)]
      have tK : tb S2 43 = tb s 43 := by funext j; unfold tb; rw [k2.cell 43 (by decide) (by decide)]
      have nw : ∀ k : Nat, k ≤ topf (decide (0 ≤ m)) n → ev (tb S2 41 (pl p n k)) (Y (pl p n k)) := fun k b => by
        refine ((v2 k b).tr ?_).tr (hS.1 p n k e1 (by omega) b).1.sm
        exact pvC_ev (rO := rO) (rT := rT) (rK := rK) h hOr e1 (by omega) b (fun q t i b1 b2 b3 => aO q t i b1 (by omega) b3 (Or.inl b2)) (fun q i b1 b2 b3 => aO q n i b1 hn b3 (Or.inr ⟨rfl, by omega⟩)) (fun q i b1 b2 b3 => aT q n i b1 hn b3 (Or.inr ⟨rfl, by omega⟩)) (fun e' i b1 b2 b3 => aK e' n i b1 hn b3 (Or.inr ⟨rfl, by omega⟩))
      have oth : ∀ q t k : Nat, q < 24 → t ≤ 7 → k ≤ 7 → ¬ (q = p ∧ t = n) → tb S2 41 (pl q t k) = tb s 41 (pl q t k) := fun q t k b1 b2 b3 b4 => o2 _ (pl_lt2 (N := 24) b1 b2 b3 (by decide)) (fun k' x1 x2 => b4 (by have := pl_inj x2 (by omega) (by omega) (by omega) (by omega); omega))
      refine hk S2 ⟨⟨(congrFun (k2.cell 40 (by decide) (by decide)) 1).trans eC, hG.of (fun i a b => k2.cell i (by simp; omega) (by simp)), hA.of (by rw [k2.cell 2 (by decide) (by decide)]) (k2.cell 11 (by decide) (by decide))⟩, ⟨mO, ?_, ?_, mR, mW, mz, mg⟩, fun q t k b1 b2 b3 b4 => ?_, ?_, ?_, fun q b1 => ⟨fun w => ?_, ?_⟩, fun q b1 b2 => ?_⟩
      · intro j hj; rw [k2.cell 42 (by decide) (by decide)]; exact nT j hj
      · intro j hj; rw [k2.cell 43 (by decide) (by decide)]; exact nK j hj
      · have tt : topf (decide (0 ≤ m)) t ≤ t := topf_le
        by_cases w : q = p ∧ t = n
        · obtain ⟨w1, w2⟩ := w
          subst w1; subst w2
          exact nw k b3
        · rw [oth q t k (by omega) (by omega) (by omega) w]
          refine aO q t k b1 b2 b3 ?_
          rcases b4 with b4 | ⟨b4, b5⟩
          · exact Or.inl b4
          · refine Or.inr ⟨b4, ?_⟩
            have := (a4 q b1).2.1
            by_cases y : rO q = i
            · rw [y, e2] at this; exact absurd ⟨by omega, b4⟩ w
            · omega
      · rw [tT]
        intro q t k b1 b2 b3 b4
        refine aT q t k b1 b2 b3 ?_
        rcases b4 with b4 | ⟨b4, b5⟩
        · exact Or.inl b4
        · refine Or.inr ⟨b4, ?_⟩
          have := (a4 q b1).2.2.2
          by_cases w : rT q = i
          · rw [w, e2] at this; omega
          · omega
      · rw [tK]
        intro e' t k b1 b2 b3 b4
        refine aK e' t k b1 b2 b3 ?_
        rcases b4 with b4 | ⟨b4, b5⟩
        · exact Or.inl b4
        · refine Or.inr ⟨b4, ?_⟩
          have := (a5 e' b1).2
          by_cases w : rK e' = i
          · rw [w, e2] at this; omega
          · omega
      · by_cases y : q = p ∧ 0 = n
        · obtain ⟨y1, y2⟩ := y
          subst y1; subst y2
          have := nw 0 (Nat.zero_le _)
          exact (hS.2.2 q b1).1 (fun z => w ((ev_zero this).mpr z))
        · rw [oth q 0 0 (by omega) (by omega) (by omega) y] at w
          exact (hsup q b1).1 w
      · rw [tT]; exact (hsup q b1).2
      · -- the rows of all sequences
        have hch : (p : Int) < M 2 := e1
        by_cases y : q = p
        · subst y
          refine ⟨fun x z => by omega, fun _ => ?_⟩
          have c6 := (h.2.2.2.1 q b1).2.2.2.2.2 b2
          obtain ⟨z1, z2⟩ := s2 b2
          have cg : ∀ t j, 1 ≤ t → (t < n ∨ (t = n ∧ M (48 + (q : Int)) = 0)) → j ≤ topf (decide (0 ≤ m)) t → tb s 41 (pl (chM M q) t j) = tb S2 41 (pl (chM M q) t j) := fun t j x1 x2 x3 => by
            have tt : topf (decide (0 ≤ m)) t ≤ t := topf_le
            exact (oth _ t j (by unfold chM; omega) (by omega) (by omega) (by unfold chM; omega)).symm
          exact ⟨seqOK_cg cg z1, stP_cg cg z2⟩
        · have c6 := (h.2.2.2.1 q b1).2.2.2.2.2 b2
          have q512 : ∀ j t k : Nat, j ≤ 7 → t ≤ 7 → k ≤ 7 → tab (tb S2 44) q j t k = tab (tb s 44) q j t k := fun j t k x1 x2 x3 => by
            have := Nat.lt_of_lt_of_le (pl_lt (a := j) (n := t) (k := k) (N := 8) (by omega) (by omega) (by omega)) (show 8 * 64 ≤ 512 by decide)
            exact r2 _ (rb (by omega) x1 x2 x3) (by omega)
          have mv : ∀ (c : Nat → Nat → Nat) (N : Nat), N ≤ 7 → seqOK (decide (0 ≤ m)) (decide (m = -2)) M c (tb s 44) q N → seqOK (decide (0 ≤ m)) (decide (m = -2)) M c (tb S2 44) q N := fun c N hN z => by
            have hl := lgM_le h b1 b2
            refine ⟨fun t k x1 x2 => ?_, fun u1 u2 j t k x1 x2 x3 => ?_, fun u1 u2 => ⟨fun j t k x1 x2 x3 x4 => ?_, fun j t k x1 x2 x3 x4 x5 => ?_⟩⟩
            · have tt : topf (decide (0 ≤ m)) t ≤ t := topf_le
              rw [q512 0 t k (by omega) (by omega) (by omega)]; exact z.1 t k x1 x2
            · have tt : topf (decide (0 ≤ m)) t ≤ t := topf_le
              rw [q512 j t k (by omega) (by omega) (by omega)]; exact z.2.1 u1 u2 j t k x1 x2 x3
            · have tt : topf (decide (0 ≤ m)) t ≤ t := topf_le
              have w := q512 j t k (by omega) (by omega) (by omega)
              unfold tab at w
              rw [w]; exact (z.2.2 u1 u2).1 j t k x1 x2 x3 x4
            · have tt : topf (decide (0 ≤ m)) t ≤ t := topf_le
              rw [q512 j t k (by omega) (by omega) (by omega)]; exact (z.2.2 u1 u2).2 j t k x1 x2 x3 x4 x5
          have mg' : ∀ (c : Nat → Nat → Nat) (N : Nat), N ≤ 7 → stP 40 m M c (tb s 46) q N → stP 40 m M c (tb S2 46) q N := fun c N hN z hC hm' h45 hnum t j k x1 x2 x3 => by
            have hl := lgM_le h b1 b2
            have sl := szM_le (M := M) (p := q) (n := N)
            have := Nat.lt_of_lt_of_le (pl_lt (a := t) (n := j) (k := k) (N := 8) (by omega) (by omega) (by omega)) (show 8 * 64 ≤ 512 by decide)
            rw [g2 hC _ (rb (by omega) (by omega) (by omega) (by omega)) (by omega)]
            exact z hC hm' h45 hnum t j k x1 x2 x3
          have ne : rO q ≠ i := fun w => by
            have := (a4 q b1).2.1
            rw [w, e2] at this; omega
          refine ⟨fun x z => ?_, fun x => ?_⟩
          · obtain ⟨z1, z2⟩ := (hQ q b1 b2).1 x (by omega)
            have cg : ∀ t j, 1 ≤ t → (t < n - 1 ∨ (t = n - 1 ∧ M (48 + (q : Int)) = 0)) → j ≤ topf (decide (0 ≤ m)) t → tb s 41 (pl (chM M q) t j) = tb S2 41 (pl (chM M q) t j) := fun t j x1 x2 x3 => by
              have tt : topf (decide (0 ≤ m)) t ≤ t := topf_le
              exact (oth _ t j (by unfold chM; omega) (by omega) (by omega) (by omega)).symm
            exact ⟨mv _ _ (by omega) (seqOK_cg cg z1), mg' _ _ (by omega) (stP_cg cg z2)⟩
          · obtain ⟨z1, z2⟩ := (hQ q b1 b2).2 (by omega)
            have cg : ∀ t j, 1 ≤ t → (t < n ∨ (t = n ∧ M (48 + (q : Int)) = 0)) → j ≤ topf (decide (0 ≤ m)) t → tb s 41 (pl (chM M q) t j) = tb S2 41 (pl (chM M q) t j) := fun t j x1 x2 x3 => by
              have tt : topf (decide (0 ≤ m)) t ≤ t := topf_le
              refine (oth _ t j (by unfold chM; omega) (by omega) (by omega) (fun w => ?_)).symm
              have o3 := (hOr.2.2.1 q b1).2.2.1
              have b2' : 3 ≤ M (24 + (q : Int)) ∧ M (24 + (q : Int)) ≤ 6 := b2
              have := o3 ⟨b2'.1, b2'.2, by omega⟩
              have e : (M (72 + (q : Int))).toNat = p := w.1
              rw [e] at this
              omega
            exact ⟨mv _ _ (by omega) (seqOK_cg cg z1), mg' _ _ (by omega) (stP_cg cg z2)⟩
    · -- a tail
      have d1 : Int.tdiv (2 * (p : Int) + 6 - 6) 2 = (p : Int) := by rw [Int.tdiv_eq_ediv_of_nonneg (by omega)]; omega
      have d2 : Int.tmod (2 * (p : Int) + 6 - 6) 2 = 0 := by rw [Int.tmod_eq_emod_of_nonneg (by omega)]; omega
      rw [e2, gd_t (by omega), nx_e, d1, d2, gd_t (by omega), if_pos (by omega), gd_t (by decide), if_neg (by decide), wp_bd1]
      refine wp_mono (w_countTail40 (S := s) (p := p) (n := n) h hG hm eC e1 (by omega) nO nT) (fun S2 q2 => ?_)
      obtain ⟨mT, v2, o2, k2⟩ := q2
      have tO : tb S2 41 = tb s 41 := by funext j; unfold tb; rw [k2.cell 41 (by decide) (by decide)]
      have tK : tb S2 43 = tb s 43 := by funext j; unfold tb; rw [k2.cell 43 (by decide) (by decide)]
      have tR : tb S2 44 = tb s 44 := by funext j; unfold tb; rw [k2.cell 44 (by decide) (by decide)]
      have tG : tb S2 46 = tb s 46 := by funext j; unfold tb; rw [k2.cell 46 (by decide) (by decide)]
      have nw : ∀ k : Nat, k ≤ topf (decide (0 ≤ m)) n → ev (tb S2 42 (pl p n k)) (R (pl p n k)) := fun k b => by
        rw [v2 k b]
        have u : ev (tlv (decide (0 ≤ m)) (decide (m = -2)) (tb s 41) (tb s 42) (M (96 + (p : Int))) p n k) (tlu (decide (0 ≤ m)) (decide (m = -2)) (tb s 41) (tb s 42) (M (96 + (p : Int))) p n k) := by
          unfold tlv tlu
          split
          · exact ev.rf
          · exact ev_HH
        refine (u.tr ?_).tr (hS.1 p n k e1 (by omega) b).2.sm
        exact tlu_ev (rO := rO) (rT := rT) (rK := rK) h hOr e1 (by omega) b hsup hS.2.2 (fun q t i b1 b2 b3 => ⟨aO q t i b1 (by omega) b3 (Or.inl b2), aT q t i b1 (by omega) b3 (Or.inl b2)⟩) (fun q i b1 b2 b3 => aO q n i b1 hn b3 (Or.inr ⟨rfl, by omega⟩)) (fun q i b1 b2 b3 => aT q n i b1 hn b3 (Or.inr ⟨rfl, by omega⟩))
      have oth : ∀ q t k : Nat, q < 24 → t ≤ 7 → k ≤ 7 → ¬ (q = p ∧ t = n) → tb S2 42 (pl q t k) = tb s 42 (pl q t k) := fun q t k b1 b2 b3 b4 => o2 _ (pl_lt2 (N := 24) b1 b2 b3 (by decide)) (fun k' x1 x2 => b4 (by have := pl_inj x2 (by omega) (by omega) (by omega) (by omega); omega))
      refine hk S2 ⟨⟨(congrFun (k2.cell 40 (by decide) (by decide)) 1).trans eC, hG.of (fun i a b => k2.cell i (by simp; omega) (by simp)), hA.of (by rw [k2.cell 2 (by decide) (by decide)]) (k2.cell 11 (by decide) (by decide))⟩, ⟨?_, mT, ?_, ?_, ?_, by rw [tR]; exact hrz, ?_⟩, ?_, fun q t k b1 b2 b3 b4 => ?_, ?_, fun q b1 => ⟨?_, fun w => ?_⟩, ?_⟩
      · intro j hj; rw [k2.cell 41 (by decide) (by decide)]; exact nO j hj
      · intro j hj; rw [k2.cell 43 (by decide) (by decide)]; exact nK j hj
      · intro j hj; rw [k2.cell 44 (by decide) (by decide)]; exact nR j hj
      · intro j hj; rw [k2.cell 45 (by decide) (by decide)]; exact nW j hj
      · intro e j hj; rw [k2.cell 46 (by decide) (by decide)]; exact hng e j hj
      · rw [tO]
        intro q t k b1 b2 b3 b4
        refine aO q t k b1 b2 b3 ?_
        rcases b4 with b4 | ⟨b4, b5⟩
        · exact Or.inl b4
        · refine Or.inr ⟨b4, ?_⟩
          have := (a4 q b1).2.1
          by_cases w : rO q = i
          · rw [w, e2] at this; omega
          · omega
      · have tt : topf (decide (0 ≤ m)) t ≤ t := topf_le
        by_cases w : q = p ∧ t = n
        · obtain ⟨w1, w2⟩ := w
          subst w1; subst w2
          exact nw k b3
        · rw [oth q t k (by omega) (by omega) (by omega) w]
          refine aT q t k b1 b2 b3 ?_
          rcases b4 with b4 | ⟨b4, b5⟩
          · exact Or.inl b4
          · refine Or.inr ⟨b4, ?_⟩
            have := (a4 q b1).2.2.2
            by_cases y : rT q = i
            · rw [y, e2] at this; exact absurd ⟨by omega, b4⟩ w
            · omega
      · rw [tK]
        intro e' t k b1 b2 b3 b4
        refine aK e' t k b1 b2 b3 ?_
        rcases b4 with b4 | ⟨b4, b5⟩
        · exact Or.inl b4
        · refine Or.inr ⟨b4, ?_⟩
          have := (a5 e' b1).2
          by_cases w : rK e' = i
          · rw [w, e2] at this; omega
          · omega
      · rw [tO]; exact (hsup q b1).1
      · by_cases y : q = p ∧ 0 = n
        · obtain ⟨y1, y2⟩ := y
          subst y1; subst y2
          have := nw 0 (Nat.zero_le _)
          exact (hS.2.2 q b1).2 (fun z => w ((ev_zero this).mpr z))
        · rw [oth q 0 0 (by omega) (by omega) (by omega) y] at w
          exact (hsup q b1).2 w
      · rw [tO, tR, tG]
        intro q b1 b2
        have := (a4 q b1).2.1
        have ne : rO q ≠ i := fun w => by rw [w, e2] at this; omega
        exact ⟨fun x y => (hQ q b1 b2).1 x (by omega), fun x => (hQ q b1 b2).2 (by omega)⟩
  · try dsimp only
    have a1 := hI.1.2.2.1
    have a2 := hI.1.2.2.2.1
    rw [mX0_take_40_59, a1, gd_t (by omega), if_pos (by omega), wp_some]
    exact hI
/-- a census taken -/
theorem w_take40 {S : St} {M : Int → Int} {m : Int} {E TE KE : Nat → Prop} {rO rT rK : Nat → Nat} {st : Nat} {Y R : Nat → Nat} (h : WF M) (hOr : Ord M E TE KE rO rT rK) (hm : inI m) (hm2 : -2 ≤ m) (hS : sol (decide (0 ≤ m)) (decide (m = -2)) m M E TE Y R) (hG : GM S M) (hA : OA S M rO rT rK st) (hO : nb S 41 1536 HH) (hT : nb S 42 1536 HH) (hK : nb S 43 384 HH) (hR : nb S 44 12288 HH) (hW : nb S 45 8 HH) (hz : rz (tb S 44)) (hg : nbG 40 S) : wp (mX0_take_40 S m) (fun S' => TI40 m M E TE rO rT rK st Y R ((M 1).toNat + 1) 0 S') := by
  have hM2 := h.2.2.1
  have hM1 := h.2.1
  have hM0 := h.1
  unfold mX0_take_40
  rw [nx_e, wp_bd1]
  have k0 : kept [41, 42] [(40, 1)] S (up S 40 1 m) := kept.upF kept.rf (by simp)
  refine wp_mono (loopW (fun f v s => mX0_take_40_7 f v s) (fun P S' => nb S' 41 1536 HH ∧ nb S' 42 1536 HH ∧ S' 40 1 = m ∧ (∀ p : Nat, p < P → tb S' 41 (pl p 0 0) = 0 ∧ tb S' 42 (pl p 0 0) = 0) ∧ kept [41, 42] [(40, 1)] S S') (fun S' => nb S' 41 1536 HH ∧ nb S' 42 1536 HH ∧ S' 40 1 = m ∧ (∀ p : Nat, (p : Int) < M 2 → tb S' 41 (pl p 0 0) = 0 ∧ tb S' 42 (pl p 0 0) = 0) ∧ kept [41, 42] [(40, 1)] S S') (M 2).toNat (fun p f s hp hI hk => ?_) (fun f s hI => ?_) (M 2).toNat 0 FU (up S 40 1 m) (by omega) (by unfold FU; omega) ⟨by intro j hj; rw [up_n (by decide)]; exact hO j hj, by intro j hj; rw [up_n (by decide)]; exact hT j hj, up_eq, fun p a => by omega, k0⟩) (fun S1 q1 => ?_)
  · obtain ⟨n1, n2, n3, v1, k1⟩ := hI
    try dsimp only at hk ⊢
    have e2 : s 2 3 = M 2 := by rw [k1.cell 2 (by decide) (by decide)]; exact hG.1.2.2.2
    rw [mX0_take_40_7, e2, gd_t (by omega), if_neg (by omega), gd_t (by omega), nx_e, nx_e, show (p : Int) * 64 = ((pl p 0 0 : Nat) : Int) by unfold pl; omega]
    refine hk _ ⟨?_, ?_, ?_, fun q a => ⟨?_, ?_⟩, kept.upA (kept.upA k1 (by simp)) (by simp)⟩
    · intro j hj; rw [up_n (by decide)]; exact nb_up (v := 0) n1 (Nat.zero_le _) j hj
    · exact nb_up (v := 0) (by intro j hj; rw [up_n (by decide)]; exact n2 j hj) (Nat.zero_le _)
    · rw [up_n (by decide), up_n (by decide)]; exact n3
    · have u : tb (up (up s 41 ((pl p 0 0 : Nat) : Int) 0) 42 ((pl p 0 0 : Nat) : Int) 0) 41 (pl q 0 0) = tb (up s 41 ((pl p 0 0 : Nat) : Int) ((0 : Nat) : Int)) 41 (pl q 0 0) := by unfold tb; rw [up_n (by decide)]; rfl
      rw [u, tb_up]
      by_cases e : q = p
      · subst e; rw [if_pos rfl]
      · rw [if_neg (fun x => e (pl_inj x (by omega) (by omega) (by omega) (by omega)).1)]; exact (v1 q (by omega)).1
    · have u : tb (up (up s 41 ((pl p 0 0 : Nat) : Int) 0) 42 ((pl p 0 0 : Nat) : Int) ((0 : Nat) : Int)) 42 (pl q 0 0) = _ := tb_up
      refine Eq.trans u ?_
      by_cases e : q = p
      · subst e; rw [if_pos rfl]
      · rw [if_neg (fun x => e (pl_inj x (by omega) (by omega) (by omega) (by omega)).1)]
        unfold tb
        rw [up_n (by decide)]
        exact (v1 q (by omega)).2
  · obtain ⟨n1, n2, n3, v1, k1⟩ := hI
    try dsimp only
    have e2 : s 2 3 = M 2 := by rw [k1.cell 2 (by decide) (by decide)]; exact hG.1.2.2.2
    rw [mX0_take_40_7, e2, gd_t (by omega), if_pos (by omega), wp_some]
    exact ⟨n1, n2, n3, fun p a => v1 p (by omega), k1⟩
  · obtain ⟨n1, n2, n3, v1, k1⟩ := q1
    rw [wp_bd1]
    have tR : tb S1 44 = tb S 44 := by funext j; unfold tb; rw [k1.cell 44 (by decide) (by decide)]
    have start : TI40 m M E TE rO rT rK st Y R 0 0 S1 := by
      refine ⟨⟨n3, hG.of (fun i a b => k1.cell i (by simp; omega) (by simp; omega)), hA.of (by rw [k1.cell 2 (by decide) (by decide)]) (k1.cell 11 (by decide) (by decide))⟩, ⟨n1, n2, ?_, ?_, ?_, by rw [tR]; exact hz, ?_⟩, fun p s k _ _ _ x => by omega, fun p s k _ _ _ x => by omega, fun p s k _ _ _ x => by omega, fun p a => ⟨fun w => absurd (v1 p a).1 w, fun w => absurd (v1 p a).2 w⟩, fun p _ _ => ⟨fun x => by omega, fun x => by omega⟩⟩
      · intro j hj; rw [k1.cell 43 (by decide) (by decide)]; exact hK j hj
      · intro j hj; rw [k1.cell 44 (by decide) (by decide)]; exact hR j hj
      · intro j hj; rw [k1.cell 45 (by decide) (by decide)]; exact hW j hj
      · intro e j hj; rw [k1.cell 46 (by decide) (by decide)]; exact hg e j hj
    refine wp_mono (loopW (fun f v s => mX0_take_40_46 f v s) (fun n S' => TI40 m M E TE rO rT rK st Y R n 0 S') (fun S' => TI40 m M E TE rO rT rK st Y R ((M 1).toNat + 1) 0 S') ((M 1).toNat + 1) (fun n f s hn hI hk => ?_) (fun f s hI => ?_) ((M 1).toNat + 1) 0 FU S1 (by omega) (by unfold FU; omega) start) (fun S' q => by rw [wp_some]; exact q)
    · try dsimp only at hk ⊢
      rw [mX0_take_40_46, hI.1.2.1.1.1, gd_t (by omega), if_neg (by omega), wp_bd1]
      have ss := hI.1.2.2.2.1
      refine wp_mono (tk40_59 (n := n) h hOr hm hm2 hS (by omega) st 0 FU s (by omega) (by unfold FU; omega) hI) (fun S2 q2 => ?_)
      obtain ⟨b1, b2, aO, aT, aK, hsup, hQ⟩ := q2
      have a4 := b1.2.2.2.2.2.1
      have a5 := b1.2.2.2.2.2.2
      refine hk S2 ⟨b1, b2, fun p t k c1 c2 c3 c4 => aO p t k c1 c2 c3 ?_, fun p t k c1 c2 c3 c4 => aT p t k c1 c2 c3 ?_, fun p t k c1 c2 c3 c4 => aK p t k c1 c2 c3 ?_, hsup, fun p c1 c2 => ⟨fun _ _ => ?_, fun x => by omega⟩⟩
      · have := (a4 p c1).1; omega
      · have := (a4 p c1).2.2.1; omega
      · have := (a5 p c1).1; omega
      · rw [show n + 1 - 1 = n by omega]
        exact (hQ p c1 c2).2 (a4 p c1).1
    · try dsimp only
      rw [mX0_take_40_46, hI.1.2.1.1.1, gd_t (by omega), if_pos (by omega), wp_some]
      exact hI
