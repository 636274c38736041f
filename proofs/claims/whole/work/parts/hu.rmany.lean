/-! the reference's reader: a sequence -/
theorem ch_op {t : Int} (h : 3 ≤ t ∧ t ≤ 6) : mJ0_charAt_5068e tx20 (t - 3) = some (opS t) ∧ mJ0_charAt_5068e tx21 (t - 3) = some (clS t) ∧ 0 ≤ opS t ∧ opS t < 128 := by
  unfold opS clS
  rcases (show t = 3 ∨ t = 4 ∨ t = 5 ∨ t = 6 by omega) with q | q | q | q <;> rw [q]
  · exact ⟨ch20.1, ch21.1, by decide, by decide⟩
  · exact ⟨ch20.2.1, ch21.2.1, by decide, by decide⟩
  · exact ⟨ch20.2.2.1, ch21.2.2.1, by decide, by decide⟩
  · exact ⟨ch20.2.2.2, ch21.2.2.2, by decide, by decide⟩
theorem e_rdMany {S : St} {M : Int → Int} {mu : Nat → Nat} {g p k : Nat} {w : List Int} (wf : WF M) (m12 : ∀ p : Nat, (p : Int) < M 2 → mu p ≤ 12) (H : CL2 M mu g) (hp : (p : Int) < M 2) (ty : 3 ≤ M (24 + (p : Int)) ∧ M (24 + (p : Int)) ≤ 6) (h38 : S 83 38 = (k : Int)) (hT : cnt M (-1) S) (hI : hIn S) (hw : TXr S w) (hb : k + 14 * w.length + mu p + 1 ≤ 1024) (hg : 2 * (13 * w.length) ≤ g) : ∃ (r : Int) (T : St), RX12_readsMany (g + 1) 0 (p : Int) S = some (r, T) ∧ OUT2 M mu S T p k w r := by
  have hM2 := wf.2.2.1
  obtain ⟨ok1, ok2, ok3, ok4, ok5, ok6⟩ := wf.2.2.2.1 p hp
  obtain ⟨q1, q2, q3⟩ := ok6 ty
  obtain ⟨q, eq'⟩ : ∃ q : Nat, M (72 + (p : Int)) = (q : Int) := ⟨(M (72 + (p : Int))).toNat, by omega⟩
  have eqc : chM M p = q := by unfold chM; omega
  have e84 : S 84 = M := hT.1
  obtain ⟨co, cc, op0, op1⟩ := ch_op ty
  have cb := clS_b (t := M (24 + (p : Int)))
  have mq := m12 q (by omega)
  show ∃ (r : Int) (T : St), (if (0 : Nat) = 0 then (bX12_readsMany (RX12_readsMany g) S (p : Int)) else _) = some (r, T) ∧ _
  rw [if_pos rfl]
  unfold bX12_readsMany
  rw [e84, gd_t (by omega), nx_e]
  by_cases fit : ∃ w1, w = opS (M (24 + (p : Int))) :: w1
  · obtain ⟨w1, ew⟩ := fit
    subst ew
    have wl : (opS (M (24 + (p : Int))) :: w1).length = w1.length + 1 := rfl
    obtain ⟨y, ey, yb, ya⟩ := here_c hw
    have yo : y = opS (M (24 + (p : Int))) := (sb_eq yb ⟨op0, op1⟩).mp ya.symm
    rw [bd1_e ey, bd1_e co, gd_t (by unfold inI; omega), if_pos yo, nx_e, bd1_e cc]
    obtain ⟨S0, eS0⟩ : ∃ S0, S0 = up S 83 41 (S 83 41 + 1) := ⟨_, rfl⟩
    rw [← eS0]
    have hw0 : TXr S0 w1 := by rw [eS0]; exact hw.nx
    have nf0 : NFx S S0 := ⟨fun c i b1 b2 => by rw [eS0, up_n b1], fun i b1 b2 => by rw [eS0, up_nk b2]⟩
    have low0 : ∀ (a : Nat) (i : Int), a ≠ 83 → S0 a i = S a i := fun a i h => by rw [eS0, up_n h]
    have h380 : S0 83 38 = (k : Int) := by rw [eS0, up_nk (by decide)]; exact h38
    rw [bd2_e (e_node h380 (by omega))]
    obtain ⟨S1, eS1⟩ : ∃ S1, S1 = nwS S0 (k : Int) (M (24 + (p : Int))) 0 0 := ⟨_, rfl⟩
    rw [← eS1]
    obtain ⟨n1, n2, n3, n4, n5, n6⟩ := nwS_at (S := S0) (k := (k : Int)) (a := M (24 + (p : Int))) (b := 0) (c := 0)
    rw [← eS1] at n1 n2 n3 n4 n5 n6
    have nf1 : NFx S0 S1 := ⟨fun c i a b => by rw [eS1, nwS_ot (by omega)], fun i a b => by rw [eS1, nwS_ot (by omega)]⟩
    have low : ∀ a j : Nat, 99 ≤ a → a ≤ 103 → j < k → S1 a (j : Int) = S a (j : Int) := fun a j a1 a2 a3 => by rw [eS1, nwS_ot (by omega), low0 _ _ (by omega)]
    have hI0 : hIn S0 := fun c j b1 b2 b3 => by rw [low0 _ _ (by omega)]; exact hI c j b1 b2 b3
    have hI1 : hIn S1 := by
      rw [eS1]; unfold nwS
      have i1 : inI (-1) := by decide
      have h5 := (((((hI0.up (a := 99) (k := (k : Int)) (v := M (24 + (p : Int))) (by unfold inI; omega)).up (a := 100) (k := (k : Int)) (v := 0) (by decide)).up (a := 101) (k := (k : Int)) (v := 0) (by decide)).up (a := 102) (k := (k : Int)) i1).up (a := 103) (k := (k : Int)) i1)
      exact h5.up (by unfold inI; omega)
    have hT1 := (nf0.tr nf1).cn hT
    have hw1 : TXr S1 w1 := hw0.of (by rw [eS1, nwS_ot (by omega)]) (by rw [eS1, nwS_ot (by omega)]) (by rw [eS1]; exact funext fun i => nwS_ot (by omega))
    have w40 : w1.length ≤ 40 := by have := hw1.1; have := hw1.2.1; have := hw1.2.2.1; omega
    obtain ⟨t', T, g1, g2, g3, ⟨g4, g6⟩, g7, k', g8, g9, g10, g11⟩ := e_rd60 (B := k + 14 * (w1.length + 1) + mu p + 1) wf H (by omega) hp (by omega) ty eq' w1.length w1 S1 (k + 1) 0 0 FU (-1) [] (Nat.le_refl _) (by unfold FU; omega) (Or.inl ⟨rfl, rfl, n4⟩) (fun z hz => (by cases hz)) (Nat.lt_succ_self k) (by omega) (by rw [n6]; omega) hT1 hI1 hw1 (by rw [n2]; rfl) (by show 0 + w1.length ≤ 40; omega) (by rw [n3]; rfl) (by omega) (by omega) (by omega) (fun _ => List.nodup_nil)
    rw [bd2_e g1]
    have low2 : ∀ a j : Nat, 99 ≤ a → a ≤ 103 → j < k → T a (j : Int) = S a (j : Int) := fun a j a1 a2 a3 => (g3 a j a1 a2 a3).trans (low a j a1 a2 a3)
    have eT84 : T 84 = M := (g2.cn hT1).1
    rcases g11 with ⟨t4, w2, l2, f', last', ⟨f0, u1⟩, u2, u3, u4, u5, u6, u7, u8, u9⟩ | ⟨t4, u1, u2⟩
    · rw [if_neg (by omega), nx_e]
      rw [List.nil_append] at u3 u5 u7 u9
      obtain ⟨T2, eT2⟩ : ∃ T2, T2 = up T 83 41 (T 83 41 + 1) := ⟨_, rfl⟩
      rw [← eT2]
      have t2o : ∀ (a : Nat) (i : Int), a ≠ 83 → T2 a i = T a i := fun a i h => by rw [eT2, up_n h]
      have e842 : T2 84 = M := by rw [eT2, up_n (by decide)]; exact eT84
      have e100 : T2 100 (k : Int) = ((l2.length : Nat) : Int) := by rw [t2o _ _ (by decide)]; exact u5
      have nf2 : NFx T T2 := ⟨fun c i b1 b2 => t2o c i b1, fun i b1 b2 => by rw [eT2, up_nk b2]⟩
      have hI2 : hIn T2 := fun c j b1 b2 b3 => by rw [t2o _ _ (by omega)]; exact g7 c j b1 b2 b3
      have hw2 : TXr T2 w2 := by rw [eT2]; exact u2.nx
      have h382 : T2 83 38 = (k' : Int) := by rw [eT2, up_nk (by decide)]; exact g8
      rw [e842, gd_t (by omega), nx_e, gd_t (show inI (M (48 + (p : Int))) by unfold inI; omega), e100]
      have hx1 : inI (M (24 + (p : Int))) := by unfold inI; omega
      have hx2 : 0 ≤ (k : Int) ∧ (k : Int) < 1024 := by omega
      have hx3 : inI ((l2.length : Nat) : Int) := by unfold inI; omega
      simp only [gd_t hx1, gd_t hx2, gd_t hx3]
      have tlen : (tls l2).length = l2.length := List.length_map _
      have etl : (prl l2).map Prod.fst = tls l2 := by unfold prl tls; rw [List.map_map]; rfl
      have dec : okQ (M (24 + (p : Int))) (M (48 + (p : Int))) ((prl l2).map Prod.fst) ↔ ((M (48 + (p : Int)) ≤ 0 ∨ ((l2.length : Nat) : Int) = M (48 + (p : Int))) ∧ ¬ (M (24 + (p : Int)) = 6 ∧ ((l2.length : Nat) : Int) = 0)) := by
        rw [etl]
        unfold okQ
        rw [tlen]
        constructor
        · rintro ⟨a1, a2, a3⟩
          exact ⟨by omega, fun z => by have := a2 z.1; omega⟩
        · rintro ⟨a1, a2⟩
          exact ⟨by omega, fun z => by omega, fun z => (ndp_iff _).mpr (u7 z)⟩
      by_cases okk : okQ (M (24 + (p : Int))) (M (48 + (p : Int))) ((prl l2).map Prod.fst)
      · obtain ⟨d1, d2⟩ := dec.mp okk
        have rd := u1 64 (by omega)
        have rdp := (rdP_sq (f := f0) (w := opS (M (24 + (p : Int))) :: w1) (r := w2) ty).mpr ⟨w1, prl l2, rfl, by rw [eqc]; exact rd, okk, rfl, rfl⟩
        refine ⟨(k : Int), T2, ?_, (nf0.tr nf1).tr (g2.tr nf2), fun a j a1 a2 a3 => by rw [t2o _ _ (by omega)]; exact low2 a j a1 a2 a3, hI2, k', h382, by omega, g10, Or.inl ⟨k, _, _, w2, rfl, ⟨f0 + 1, rdp⟩, hw2, ⟨f' + 1, ?_⟩, ?_, ?_⟩⟩
        · by_cases z0 : M (48 + (p : Int)) ≤ 0
          · rw [if_pos z0]
            by_cases z6 : M (24 + (p : Int)) = 6
            · rw [if_pos z6, if_neg (fun z => d2 ⟨z6, z⟩)]
            · rw [if_neg z6]
          · rw [if_neg z0, if_pos (by omega)]
            by_cases z6 : M (24 + (p : Int)) = 6
            · rw [if_pos z6, if_neg (fun z => d2 ⟨z6, z⟩)]
            · rw [if_neg z6]
        · obtain ⟨v1, v2⟩ := u3.all
          have at' := (rdL_ate (cl := clS (M (24 + (p : Int)))) (fun w c n r => rdP_ate f0 (chM M p) w c n r) 64 w1 (prl l2) w2 (by rw [eqc]; exact rd)).2.2
          refine ⟨⟨⟨Nat.le_refl k, (show k < k' by omega)⟩, ⟨f0 + 1, rdP_fx (f0 + 1) p _ _ _ _ rdp⟩, by show 1 ≤ _ + 1; omega, ?_⟩, Or.inr (Or.inr (Or.inr ⟨ty, ?_, l2.map Prod.snd, ?_, ?_, ?_, ?_, ?_, ?_⟩))⟩
          · show T2 101 (k : Int) = _
            rw [t2o _ _ (by decide), u6, Nat.zero_add]
          · show T2 99 (k : Int) = _
            rw [t2o _ _ (by decide), g4]; exact n1
          · show T2 100 (k : Int) = _
            rw [e100, List.length_map]
          · rw [List.length_map]; omega
          · rw [List.length_map]; intro z; omega
          · show lnk T2 (T2 102 (k : Int)) _
            rw [t2o _ _ (by decide), List.map_map]
            exact lnk_fr v1 (fun j _ => t2o 103 _ (by decide))
          · intro y hy
            obtain ⟨z, z1, z2⟩ := List.mem_map.mp hy
            have nz := v2 z z1
            rw [u4 z z1] at nz
            rw [← z2, eqc]
            refine ⟨ND.fr (Nat.le_refl _) _ _ _ _ _ _ (Nat.le_refl _) (Nat.le_refl _) (fun a i _ _ _ _ => t2o a _ (by omega)) (fun i _ _ _ => t2o 103 _ (by decide)) nz, ?_⟩
            exact at' (z.2.2.1, z.2.2.2) (List.mem_map.mpr ⟨z, z1, rfl⟩)
          · show _ :: ((sqL _ ((prl l2).map Prod.fst)).flatten ++ _) = _ :: ((sqL _ (mpC (l2.map Prod.snd))).flatten ++ _)
            rw [etl, tls_mp]
        · rw [t2o _ _ (by decide), g6]; exact n5
        · have e1 : (fl1 (prl l2)).length = ((sqL (M (24 + (p : Int))) ((prl l2).map Prod.fst)).flatten).length := ((sqL_cq (M (24 + (p : Int))) ((prl l2).map Prod.fst)).pm.flatten).length_eq
          rw [List.length_cons, List.length_append, ← e1]
          show k' + 1 ≤ k + 2 * ((fl1 (prl l2)).length + 1 + 1)
          omega
      · have dn : ¬ ((M (48 + (p : Int)) ≤ 0 ∨ ((l2.length : Nat) : Int) = M (48 + (p : Int))) ∧ ¬ (M (24 + (p : Int)) = 6 ∧ ((l2.length : Nat) : Int) = 0)) := fun z => okk (dec.mpr z)
        have sb2 := fun (f : Nat) (s : List (List Int × Nat)) (r : List Int) (z : rdL (rdP M f q) (clS (M (24 + (p : Int)))) 64 w1 = some (s, r)) => (show s = prl l2 from by
          have z1 := rdL_mo (rec' := rdP M (f + f0) q) (fun w x z => rdP_le (show f ≤ f + f0 by omega) z) 64 _ _ z
          have z2 := rdL_mo (rec' := rdP M (f + f0) q) (fun w x z => rdP_le (show f0 ≤ f + f0 by omega) z) 64 _ _ (u1 64 (by omega))
          rw [z1] at z2
          cases z2; rfl)
        refine ⟨-1, T2, ?_, (nf0.tr nf1).tr (g2.tr nf2), fun a j a1 a2 a3 => by rw [t2o _ _ (by omega)]; exact low2 a j a1 a2 a3, hI2, k', h382, by omega, g10, Or.inr ⟨rfl, fun f c n w' z => ?_, ?_⟩⟩
        · by_cases z0 : M (48 + (p : Int)) ≤ 0
          · rw [if_pos z0]
            by_cases z6 : M (24 + (p : Int)) = 6
            · rw [if_pos z6, if_pos (by omega)]
            · exact absurd ⟨Or.inl z0, fun z => z6 z.1⟩ dn
          · rw [if_neg z0]
            by_cases z1 : ((l2.length : Nat) : Int) = M (48 + (p : Int))
            · rw [if_pos z1]
              by_cases z6 : M (24 + (p : Int)) = 6
              · rw [if_pos z6, if_pos (by omega)]
              · exact absurd ⟨Or.inr z1, fun z => z6 z.1⟩ dn
            · rw [if_neg z1]
        · cases f with
          | zero => cases z
          | succ f =>
            obtain ⟨w3, s, x1, x2, x3, x4, x5⟩ := (rdP_sq ty).mp z
            cases x1
            rw [eqc] at x2
            rw [sb2 f s w' x2] at x3
            exact absurd x3 okk
        · have at' := (rdL_ate (cl := clS (M (24 + (p : Int)))) (fun w c n r => rdP_ate f0 q w c n r) 64 w1 (prl l2) w2 (u1 64 (by omega))).1
          obtain ⟨u, v1, v2⟩ := at'
          have v3 := v2.length_eq
          have v4 : w1.length = u.length + (w2.length + 1) := by rw [v1, List.length_append]; rfl
          omega
    · rw [if_pos t4]
      refine ⟨-1, T, rfl, (nf0.tr nf1).tr g2, low2, g7, k', g8, by omega, g10, Or.inr ⟨rfl, fun f c n w' z => ?_, by omega⟩⟩
      cases f with
      | zero => cases z
      | succ f =>
        obtain ⟨w3, s, x1, x2, x3, x4, x5⟩ := (rdP_sq ty).mp z
        cases x1
        rw [eqc] at x2
        rcases u1 f 64 s w' x2 with v | ⟨v1, v2⟩
        · rw [x5]; exact v
        · exfalso
          exact v2 ((ndp_iff _).mp (x3.2.2 v1))
  · have hz : ∃ y : Int, mX12_here S = some y ∧ (-1 ≤ y ∧ y < 256) ∧ y ≠ opS (M (24 + (p : Int))) := by
      cases w with
      | nil => exact ⟨-1, here_nil hw, by omega, by omega⟩
      | cons a w =>
        obtain ⟨y, y1, y2, y3⟩ := here_c hw
        exact ⟨y, y1, by omega, fun z => fit ⟨w, by rw [y3, (sb_eq y2 ⟨op0, op1⟩).mpr z]⟩⟩
    obtain ⟨y, y1, y2, y3⟩ := hz
    rw [bd1_e y1, bd1_e co, gd_t (by unfold inI; omega), if_neg y3]
    refine ⟨-1, S, rfl, NFx.rf, fun _ _ _ _ _ => rfl, hI, k, h38, Nat.le_refl _, by omega, Or.inr ⟨rfl, fun f c n w' z => ?_, by omega⟩⟩
    cases f with
    | zero => cases z
    | succ f =>
      obtain ⟨w3, s, x1, _⟩ := (rdP_sq ty).mp z
      exact absurd ⟨w3, x1⟩ fit
