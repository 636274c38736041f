/-! the reference's reader: a term -/
theorem e_termAt2 {T : St} {M : Int → Int} {lo : Int} (hT : T 84 = M) {e t : Nat} (he : e < 30) (oe : okE M lo e) (ht : (t : Int) < M (198 + (e : Int))) : mX12_termAt T (e : Int) (t : Int) = some (tlM M e t) := by
  have key : ∀ d i f : Nat, i + d = t → d < f → mX12_termAt_14 T (t : Int) f (i : Int) (tlM M e i) = some (tlM M e t) := by
    intro d
    induction d with
    | zero =>
      intro i f hi hf
      obtain ⟨g, rfl⟩ : ∃ g, f = g + 1 := ⟨f - 1, by omega⟩
      have := oe.1
      rw [mX12_termAt_14, gd_t (by unfold inI; omega), if_pos (by omega), show i = t by omega]
    | succ d ih =>
      intro i f hi hf
      obtain ⟨g, rfl⟩ : ∃ g, f = g + 1 := ⟨f - 1, by omega⟩
      have b := (oe.2.1 i (by omega)).1
      have := oe.1
      have r := ih (i + 1) g (by omega) (by omega)
      rw [mX12_termAt_14, gd_t (by unfold inI; omega), if_neg (by omega), gd_t (by omega), nx_e, hT]
      rw [show ((i + 1 : Nat) : Int) = (i : Int) + 1 by omega] at r
      exact r
  have o1 := oe.1
  have r := key t 0 FU (by omega) (by unfold FU; omega)
  rw [show ((0 : Nat) : Int) = 0 from rfl] at r
  unfold mX12_termAt
  rw [gd_t (by omega), nx_e, hT]
  have r' : mX12_termAt_14 T (t : Int) FU 0 (M (168 + (e : Int))) = some (tlM M e t) := r
  rw [bd1_e r']
/-- a node of a term -/
def TRM (M : Int → Int) (T : St) (k k' e t : Nat) (s : List (List Int × Nat)) : Prop := T 99 (k : Int) = 7 ∧ T 100 (k : Int) = (t : Int) ∧ T 101 (k : Int) = ((szs s : Nat) : Int) ∧ T 103 (k : Int) = -1 ∧ ∃ (f : Nat) (l : List (Nat × List Int × Nat)), lnk T (T 102 (k : Int)) (l.map Prod.fst) ∧ chD M (ND M T k' f (k + 1)) (fpM M e t) l ∧ l.map Prod.snd = s ∧ k' + l.length ≤ k + 1 + 2 * (fl1 s).length
theorem e_tail {S : St} {M : Int → Int} {mu : Nat → Nat} {lo : Int} {g B e t k : Nat} {w : List Int} (wf : WF M) (m12 : ∀ p : Nat, (p : Int) < M 2 → mu p ≤ 12) (H : CL2 M mu g) (hB : B ≤ 1024) (he : e < 30) (hlo : 0 ≤ lo) (oe : okE M lo e) (ht : (t : Int) < M (198 + (e : Int))) (h38 : S 83 38 = (k : Int)) (hT : cnt M (-1) S) (hI : hIn S) (hw : TXr S w) (hb : k + 1 + 14 * w.length + mu (fpM M e t).toNat + 1 ≤ B) (hg : 2 * (13 * w.length + mu (fpM M e t).toNat) + 2 ≤ g) : ∃ (r : Int) (T : St), (bd1 (mX12_isOff S (e : Int) (t : Int)) fun r_9 => gd (inI r_9) <| if r_9 = 0 then (bd2 (mX12_node S 7 (t : Int) 0) fun r_13 S_14 => bd1 (mX12_termAt S_14 (e : Int) (t : Int)) fun r_16 => gd (0 ≤ (120 + r_16) ∧ (120 + r_16) < 228) <| nx (S_14 84 (120 + r_16)) fun x_18 => bd2 (mX12_readsTerm_97 (RX12_readsMany g) r_13 FU x_18 (-1) S_14) fun t_22 S_23 => if t_22 = 0 then (some ((-1), S_23)) else (some (r_13, S_23))) else (some ((-1), S))) = some (r, T) ∧ NFx S T ∧ (∀ a j : Nat, 99 ≤ a → a ≤ 103 → j < k → T a (j : Int) = S a (j : Int)) ∧ hIn T ∧ ∃ k' : Nat, T 83 38 = (k' : Int) ∧ k ≤ k' ∧ k' ≤ 1024 ∧
    ((r = (k : Int) ∧ k < k' ∧ offM M e t = false ∧ ∃ (s : List (List Int × Nat)) (w' : List Int), (∃ f0, rdC M (rdP M f0) 25 (fpM M e t) w = some (s, w')) ∧ TXr T w' ∧ TRM M T k k' e t s) ∨
     (r = -1 ∧ (offM M e t = true ∨ ∀ f0 K s w', rdC M (rdP M f0) K (fpM M e t) w = some (s, w') → M 1 < ((szs s : Nat) : Int)) ∧ k' ≤ B)) := by
  have o1 := oe.1
  obtain ⟨t1, t2, t3⟩ := oe.2.1 t ht
  have hM2 := wf.2.2.1
  have e84 : S 84 = M := hT.1
  have eo := e_isOff (S := S) (e := e) (t := t) (by rw [e84]; exact wf) he (by omega)
  rw [e84] at eo
  rw [bd1_e eo]
  cases ho : offM M e t with
  | true =>
    rw [if_pos rfl, gd_t (by decide), if_neg (by decide)]
    exact ⟨-1, S, rfl, NFx.rf, fun _ _ _ _ _ => rfl, hI, k, h38, Nat.le_refl _, by omega, Or.inr ⟨rfl, Or.inl rfl, by omega⟩⟩
  | false =>
    rw [if_neg (by decide), gd_t (by decide), if_pos rfl, bd2_e (e_node h38 (by omega))]
    obtain ⟨S1, eS1⟩ : ∃ S1, S1 = nwS S (k : Int) 7 (t : Int) 0 := ⟨_, rfl⟩
    rw [← eS1]
    obtain ⟨n1, n2, n3, n4, n5, n6⟩ := nwS_at (S := S) (k := (k : Int)) (a := 7) (b := (t : Int)) (c := 0)
    rw [← eS1] at n1 n2 n3 n4 n5 n6
    have nf : NFx S S1 := ⟨fun c i a b => by rw [eS1, nwS_ot (by omega)], fun i a b => by rw [eS1, nwS_ot (by omega)]⟩
    have low : ∀ a j : Nat, 99 ≤ a → a ≤ 103 → j < k → S1 a (j : Int) = S a (j : Int) := fun a j a1 a2 a3 => by rw [eS1, nwS_ot (by omega)]
    have hI1 : hIn S1 := by
      rw [eS1]; unfold nwS
      have i1 : inI (-1) := by decide
      have h5 := (((((hI.up (a := 99) (k := (k : Int)) (v := 7) (by decide)).up (a := 100) (k := (k : Int)) (v := (t : Int)) (by unfold inI; omega)).up (a := 101) (k := (k : Int)) (v := 0) (by decide)).up (a := 102) (k := (k : Int)) i1).up (a := 103) (k := (k : Int)) i1)
      exact h5.up (by unfold inI; omega)
    have hT1 := nf.cn hT
    have e841 : S1 84 = M := hT1.1
    have hw1 : TXr S1 w := hw.of (by rw [eS1, nwS_ot (by omega)]) (by rw [eS1, nwS_ot (by omega)]) (by rw [eS1]; exact funext fun i => nwS_ot (by omega))
    rw [bd1_e (e_termAt2 e841 he oe ht), gd_t (by omega), nx_e, e841]
    rw [show M (120 + tlM M e t) = fpM M e t from rfl]
    obtain ⟨t', T, g1, g2, g3, ⟨g4, g5, g6⟩, g7, k', g8, g9, g10, g11⟩ := e_rd97 wf m12 H hB 24 (fpM M e t) w S1 (k + 1) 0 0 FU (-1) [] (Or.inr ⟨by omega, t3, by omega⟩) (by omega) (by unfold FU; omega) (Or.inl ⟨rfl, rfl, n4⟩) (Nat.lt_succ_self k) (by omega) (by rw [n6]; omega) hT1 hI1 hw1 (by rw [n3]; rfl) (by have := hw.2.1; have := hw.1; have := hw.2.2.1; omega) (fun _ => ⟨hb, hg⟩)
    rw [bd2_e g1]
    have low2 : ∀ a j : Nat, 99 ≤ a → a ≤ 103 → j < k → T a (j : Int) = S a (j : Int) := fun a j a1 a2 a3 => (g3 a j a1 a2 a3).trans (low a j a1 a2 a3)
    rcases g11 with ⟨t4, s, w2, l2, f', last', ⟨f0, u1⟩, u2, u3, u4, u5, u6, u7⟩ | ⟨t4, u1, u2⟩
    · rw [if_neg (by omega)]
      rw [List.nil_append] at u3
      obtain ⟨v1, v2⟩ := u3.all
      have ls : (l2.map Prod.snd).map Prod.snd = s := by rw [List.map_map, ← u5]; rfl
      refine ⟨(k : Int), T, rfl, nf.tr g2, low2, g7, k', g8, by omega, g10, Or.inl ⟨rfl, by omega, rfl, s, w2, ⟨f0, u1 25 (by omega)⟩, u2, g4.trans n1, g5.trans n2, by rw [u6]; omega, g6.trans n5, f', l2.map Prod.snd, ?_, u4.ch v2, ls, by rw [List.length_map]; omega⟩⟩
      rw [List.map_map]
      exact v1
    · rw [if_pos t4]
      exact ⟨-1, T, rfl, nf.tr g2, low2, g7, k', g8, by omega, g10, Or.inr ⟨rfl, Or.inr u1, u2⟩⟩
