/-! the reference's reader: all parts, by induction on the calls left -/
theorem cl2_step {S0 : St} {rO mu : Nat → Nat} {g : Nat} (h : Cor S0) (nex : NEX (S0 84)) (rx : RKx (S0 84) rO) (mx : MUx (S0 84) mu) (hV : ∀ p : Nat, (p : Int) < S0 84 2 → inI (S0 84 (48 + (p : Int)))) (H : CL2 (S0 84) mu g) : CL2 (S0 84) mu (g + 2) := by
  obtain ⟨M, eM⟩ : ∃ M, M = S0 84 := ⟨_, rfl⟩
  have wf := h.wf
  have hM2 := wf.2.2.1
  have hM1 := wf.2.1
  intro p k w S hp hT hI hw h38 hb hg
  have e84 : S 84 = S0 84 := hT.1
  obtain ⟨p', j, p1, hp', col, _, dn⟩ := e_partOf h rx hT hp
  have mle := mx.2.2 j p p' hp col
  have m12 := mx.1
  suffices z : ∃ r T, RX12_readsMany (g + 2) 2 (p : Int) S = some (r, T) ∧ OUT2 (S0 84) mu S T p' k w r by
    obtain ⟨r, T, z1, z2⟩ := z
    exact ⟨r, T, z1, z2.col col mle⟩
  obtain ⟨ok1, ok2, ok3, ok4, ok5, ok6⟩ := wf.2.2.2.1 p' hp'
  obtain ⟨z, z1, z2⟩ := e_blank hT hp' hM2.2
  show ∃ r T, (if (2 : Nat) = 0 then _ else (if (2 : Nat) = 1 then _ else (if (2 : Nat) = 2 then (bX12_readsThing (RX12_readsMany (g + 1)) S (p : Int)) else none))) = some (r, T) ∧ _
  rw [if_neg (by decide), if_neg (by decide), if_pos rfl]
  unfold bX12_readsThing
  rw [bd1_e p1, e84, gd_t (by omega), nx_e, bd1_e z1]
  rcases z2 with ⟨z3, m, m1, m2⟩ | ⟨z3, z4⟩
  · rw [gd_t (by unfold inI; omega), if_pos z3]
    have hx : inI (S0 84 (24 + (p' : Int))) := by unfold inI; omega
    by_cases ty : S0 84 (24 + (p' : Int)) = 2 ∨ S0 84 (24 + (p' : Int)) = 7
    · have hz : (gd (inI (S0 84 (24 + (p' : Int)))) <| if S0 84 (24 + (p' : Int)) = 2 then some (0 : Nat) else if S0 84 (24 + (p' : Int)) = 7 then some 0 else some 1) = some 0 := by
        rw [gd_t hx]
        rcases ty with e | e
        · rw [if_pos e]
        · rw [if_neg (by omega), if_pos e]
      have nsg : ¬ sgl (S0 84) (exN (S0 84) p') := by
        rcases dn with q | q | q
        · have := q m m1; omega
        · exact absurd ty q
        · exact q
      obtain ⟨ex, lo, l0, oe⟩ := ex_ok wf hp' ty
      have ee : S0 84 (48 + (p' : Int)) = ((exN (S0 84) p' : Nat) : Int) := by
        unfold exN
        rcases ty with e | e
        · have := ok4 e; omega
        · have := ok5 e; omega
      rw [bd1_e hz, if_pos rfl, ee, gd_t (by omega)]
      obtain ⟨r, T, g1, g2, g3, g4, k', g5, g6, g7, g8⟩ := e_rdTerm (B := k + 14 * w.length + mu p' + 1) wf m12 H (by omega) ex l0 oe h38 hT hI hw (by omega) (fun t w' q => by
        rcases q with ⟨q1, q2, q3⟩ | ⟨q1, q2, q3⟩
        · subst q2; subst q3
          have fall := mx.2.1 p' hp' ty q1 (by
            by_cases q4 : 0 ≤ S0 84 (96 + fpM (S0 84) (exN (S0 84) p') 0)
            · exact q4
            · exact absurd ⟨q1, by omega⟩ nsg) ⟨m, m1, m2⟩
          omega
        · have := (oe.2.1 t (by unfold cnE at q2; omega)).2
          have := m12 (fpM (S0 84) (exN (S0 84) p') t).toNat (by omega)
          omega)
      rw [bd2_e g1]
      refine ⟨r, T, rfl, g2, g3, g4, k', g5, g6, g7, ?_⟩
      rcases g8 with ⟨u1, u2, t, s, w', u3, u4, ⟨v1, v2, v3, v4, f, l, v5, v6, v7, v8⟩, f0, u6⟩ | ⟨u1, u2, u3⟩
      · have rdp : rdP (S0 84) (f0 + 1) p' w = some (dgT (S0 84) (exN (S0 84) p') t ++ fl1 s, szs s, w') := by rw [rdP_nm ty]; exact u6
        have at' := (rdP_ate _ _ _ _ _ _ rdp).len
        have fl : flM l = fl1 s := by
          unfold flM fl1
          rw [← v7, List.map_map]
          rfl
        refine Or.inl ⟨k, _, _, w', u1, ⟨f0 + 1, rdp⟩, u4, ⟨f + 1, ⟨⟨Nat.le_refl k, u2⟩, ⟨f0 + 1, rdP_fx _ _ _ _ _ _ rdp⟩, at'.2, v3⟩, Or.inr (Or.inr (Or.inl ⟨ty, nsg, v1, t, l, u3, v2, v5, v6, ?_⟩))⟩, v4, ?_⟩
        · show dgT _ _ t ++ fl1 s = _
          rw [fl]
        · rw [List.length_append]
          by_cases c : cnE (S0 84) (exN (S0 84) p') ≤ 1
          · have two : 2 ≤ l.length := by
              have eT : t = 0 := by omega
              rw [eT] at v6
              match l, v6 with
              | [], v6 =>
                have a8 : fpM (S0 84) (exN (S0 84) p') 0 < 0 := v6
                have := (oe.2.1 0 (by unfold cnE at u3; omega)).2.1
                omega
              | [z'], v6 =>
                obtain ⟨_, _, a7⟩ := v6
                have a8 : S0 84 (96 + fpM (S0 84) (exN (S0 84) p') 0) < 0 := a7
                exact absurd ⟨by omega, a8⟩ nsg
              | _ :: _ :: l, _ => show 2 ≤ l.length + 1 + 1; omega
            omega
          · have e : (dgT (S0 84) (exN (S0 84) p') t).length = 1 := by unfold dgT; rw [if_neg c]; rfl
            omega
      · refine Or.inr ⟨u1, fun f c n w' zz => ?_, u3⟩
        cases f with
        | zero => cases zz
        | succ f => rw [rdP_nm ty] at zz; exact u2 f c n w' zz
    · have hz : (gd (inI (S0 84 (24 + (p' : Int)))) <| if S0 84 (24 + (p' : Int)) = 2 then some (0 : Nat) else if S0 84 (24 + (p' : Int)) = 7 then some 0 else some 1) = some 1 := by
        rw [gd_t hx, if_neg (fun e => ty (Or.inl e)), if_neg (fun e => ty (Or.inr e))]
      rw [bd1_e hz, if_neg (by decide), gd_t hx]
      by_cases lf : S0 84 (24 + (p' : Int)) ≤ 1
      · rw [if_pos lf]
        exact e_rdLeaf wf hp' (hV p' hp') lf h38 hT hI hw (by omega)
      · rw [if_neg lf]
        obtain ⟨r, T, g1, g2⟩ := e_rdMany wf m12 H hp' (by omega) h38 hT hI hw (by omega) (by omega)
        rw [bd2_e g1]
        exact ⟨r, T, rfl, g2⟩
  · rw [gd_t (by unfold inI; omega), if_neg (by omega)]
    refine ⟨-1, S, rfl, NFx.rf, fun _ _ _ _ _ => rfl, hI, k, h38, Nat.le_refl _, by omega, Or.inr ⟨rfl, fun f c n w' zz => ?_, by omega⟩⟩
    by_cases q : ((n : Nat) : Int) ≤ S0 84 1
    · have := (sur_all h nex f p' w c n w' hp' zz q).1
      have := z4 n (by omega)
      omega
    · omega
theorem cl2_all {S0 : St} {rO mu : Nat → Nat} (h : Cor S0) (nex : NEX (S0 84)) (rx : RKx (S0 84) rO) (mx : MUx (S0 84) mu) (hV : ∀ p : Nat, (p : Int) < S0 84 2 → inI (S0 84 (48 + (p : Int)))) : ∀ g, CL2 (S0 84) mu g ∧ CL2 (S0 84) mu (g + 1) := by
  intro g
  induction g with
  | zero => exact ⟨fun p k w S _ _ _ _ _ _ hg => by omega, fun p k w S _ _ _ _ _ _ hg => by omega⟩
  | succ g ih => exact ⟨ih.2, cl2_step h nex rx mx hV ih.1⟩
