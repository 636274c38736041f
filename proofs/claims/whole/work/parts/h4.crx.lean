/-! the class reads a text: an expression -/
theorem CRs.of {S T : St} {L a z t sc oc : Nat} (h : CRs S L a z t sc oc) (k : T 67 = S 67) (k8 : T 68 = S 68) : CRs T L a z t sc oc := by
  unfold CRs at h ⊢
  rw [k, k8]
  exact h
theorem e_rdx_tl {S : St} {M : Int → Int} {lo : Int} {L a z t sc oc e tm : Nat} (wf : WF M) (g : GM S M) (h : CRs S L a z t sc oc) (he : e < 30) (hlo : 0 ≤ lo) (hE : okE M lo e) (htm : (tm : Int) < M (198 + (e : Int))) : ∃ X, (bd1 (mX2_start_2 S (e : Int) (tm : Int)) fun r_17 => bd1 (mX10_readExpr_81 S (e : Int) (tm : Int) FU r_17 0) fun y_20 => bd2 (mX10_mayAwait S y_20) fun r_24 S_25 => gd (inI r_24) <| if r_24 = 0 then (some (S_25)) else (bd1 (mX2_start_2 S_25 (e : Int) (tm : Int)) fun r_29 => nx (y_20 - 1) fun x_30 => bd1 (mX10_readExpr_136 y_20 FU x_30 r_29 S_25) fun S_34 => nx (up S_34 67 8 ((S_34 67 8) + y_20)) fun S_37 => some (S_37))) = some X ∧ ((L < t + chn M 24 (fpM M e tm) + a ∧ BDs S X) ∨ (t + chn M 24 (fpM M e tm) + a ≤ L ∧ CRs X L a z (t + chn M 24 (fpM M e tm)) sc oc ∧ (X 68 = S 68 ∧ X 71 = S 71 ∧ X 72 = S 72) ∧ (∀ j : Int, j < (t : Int) → X 70 j = S 70 j) ∧ (∀ k q : Nat, itN M k (fpM M e tm) = (q : Int) → X 70 ((t + chn M 24 (fpM M e tm) - 1 - k : Nat) : Int) = (q : Int)) ∧ KRd S X)) := by
  obtain ⟨s1, s2, s3⟩ := e_start2 (t := tm) hlo g he hE htm
  obtain ⟨F, hF⟩ : ∃ F : Nat, fpM M e tm = (F : Int) := ⟨(fpM M e tm).toNat, by omega⟩
  have hM2 := wf.2.2.1
  rw [hF] at s1 s3 ⊢
  rw [show ((F : Nat) : Int).toNat = F from rfl] at s1
  obtain ⟨c1, c2⟩ := e_re81 (a := (e : Int)) (y := (tm : Int)) wf g 24 FU F 0 (by omega) s3 (by omega) (by unfold FU; omega)
  rw [Nat.zero_add] at c1 c2
  obtain ⟨m, hm⟩ : ∃ m, m = chn M 24 (F : Int) := ⟨_, rfl⟩
  rw [← hm] at c1 c2 ⊢
  have ma := e_mayAwait (k := m) h (by omega)
  rw [bd1_e s1, bd1_e (show mX10_readExpr_81 S (e : Int) (tm : Int) FU (F : Int) 0 = some ((m : Nat) : Int) from c1)]
  by_cases c : t + m + a ≤ L
  · rw [if_pos c] at ma
    obtain ⟨T, t1, t2, t3, t4⟩ := e_re136 (y := ((m : Nat) : Int)) (t := t) wf 24 FU F m S g (by omega) s3 hm.symm (by have := h.2.1; omega) (by unfold FU; omega) h.1.2.2.2.1
    have e67 : T 67 = S 67 := t2.cell 67 (by decide) (by decide)
    have e68 : T 68 = S 68 := t2.cell 68 (by decide) (by decide)
    refine ⟨up T 67 8 ((T 67 8) + (m : Int)), ?_, Or.inr ⟨c, ?_, ⟨?_, ?_, ?_⟩, fun j hj => ?_, fun k q hq => ?_, ?_⟩⟩
    · rw [bd2_e ma, gd_t (by decide), if_neg (by decide), bd1_e s1, nx_e, bd1_e t1, nx_e]
    · obtain ⟨⟨⟨h1, h2⟩, h3, h4, h5, h6, h7⟩, hb, h8⟩ := h.of e67 e68
      have k68 : (up T 67 8 ((T 67 8) + (m : Int))) 68 = T 68 := rfl
      refine ⟨⟨⟨?_, ?_⟩, ?_, ?_, ?_, ?_, ?_⟩, by omega, by rw [k68]; exact h8⟩
      · rw [up_nk (by decide)]; exact h1
      · rw [up_nk (by decide)]; exact h2
      · rw [up_nk (by decide)]; exact h3
      · rw [up_nk (by decide)]; exact h4
      · rw [up_eq, h5]; omega
      · rw [up_nk (by decide)]; exact h6
      · rw [up_nk (by decide)]; exact h7
    · exact e68
    · exact t2.cell 71 (by decide) (by decide)
    · exact t2.cell 72 (by decide) (by decide)
    · exact t4 j (Or.inl hj)
    · exact t3 k q hq
    · exact (t2.mono (by decide) (by decide)).upF (by decide)
  · rw [if_neg c] at ma
    refine ⟨up S 67 6 0, ?_, Or.inl ⟨by omega, bd0⟩⟩
    rw [bd2_e ma, gd_t (by decide), if_pos rfl]
theorem e_rdx {S : St} {M : Int → Int} {lo : Int} {L a z t sc oc e : Nat} {w : List Int} (wf : WF M) (g : GM S M) (h : CRs S L a z t sc oc) (hw : txA S a w) (hl : a + w.length = L) (he : e < 30) (hlo : 0 ≤ lo) (hE : okE M lo e) : ∃ X, mX10_readExpr S (e : Int) = some X ∧ ((BDs S X ∧ ∀ rec, rdE M rec e w = none) ∨ ∃ (tm : Nat) (dg w' : List Int), (w = dg ++ w' ∧ dg.length ≤ 1 ∧ (dg = [] → cnE M e = 1)) ∧ (tm : Int) < M (198 + (e : Int)) ∧ (∀ rec, rdE M rec e w = (rdC M rec 25 (fpM M e tm) w').bind fun s => some (dg ++ fl1 s.1, szs s.1, s.2)) ∧ ((L < t + chn M 24 (fpM M e tm) + (a + dg.length) ∧ BDs S X) ∨ (t + chn M 24 (fpM M e tm) + (a + dg.length) ≤ L ∧ CRs X L (a + dg.length) z (t + chn M 24 (fpM M e tm)) sc oc ∧ (X 68 = S 68 ∧ X 71 = S 71 ∧ X 72 = S 72) ∧ (∀ j : Int, j < (t : Int) → X 70 j = S 70 j) ∧ (∀ k q : Nat, itN M k (fpM M e tm) = (q : Int) → X 70 ((t + chn M 24 (fpM M e tm) - 1 - k : Nat) : Int) = (q : Int)) ∧ KRd S X))) := by
  have g8 := g.2.2.1 e he
  have oe := hE.1
  have h2 := h.1.1.2
  unfold mX10_readExpr
  rw [gd_t (by omega), g8, gd_t (by omega)]
  have cE : ((cnE M e : Nat) : Int) = M (198 + (e : Int)) := by unfold cnE; omega
  have fpz : ∀ tm : Nat, (tm : Int) < M (198 + (e : Int)) → 0 ≤ fpM M e tm := fun tm h => by have := (hE.2.1 tm h).2; omega
  by_cases c : M (198 + (e : Int)) ≤ 1
  · rw [if_pos c, bd2_s, gd_t (by decide), if_neg (by decide), g8, gd_t (by omega)]
    by_cases z1 : M (198 + (e : Int)) ≤ 0
    · rw [if_pos z1]
      refine ⟨up S 67 6 0, rfl, Or.inl ⟨bd0, fun rec => ?_⟩⟩
      unfold rdE
      rw [if_pos (by omega), if_neg (by omega)]
    · rw [if_neg z1]
      have io := e_isOff2 (t := 0) wf g he (by omega)
      rw [show ((0 : Nat) : Int) = 0 from rfl] at io
      rw [bd1_e io]
      cases ho : offM M e 0 with
      | true =>
        rw [if_pos rfl, gd_t (by decide), if_neg (by decide)]
        refine ⟨up S 67 6 0, rfl, Or.inl ⟨bd0, fun rec => ?_⟩⟩
        unfold rdE
        rw [if_pos (by omega), if_neg (by rw [ho]; simp)]
      | false =>
        rw [if_neg (by decide), gd_t (by decide), if_pos rfl]
        obtain ⟨X, x1, x2⟩ := e_rdx_tl (tm := 0) wf g h he hlo hE (by omega)
        refine ⟨X, x1, Or.inr ⟨0, [], w, ⟨rfl, by decide, fun _ => by omega⟩, by omega, fun rec => ?_, x2⟩⟩
        unfold rdE
        rw [if_pos (by omega), if_pos ⟨⟨by omega, ho⟩, fpz 0 (by omega)⟩]
        rfl
  · rw [if_neg c]
    have pk := e_peek h hw hl
    rw [bd1_e pk, nx_e, nx_e, h2, bd2_s]
    cases w with
    | nil =>
      rw [show ([] : List Int).headD 0 - 48 = -48 from rfl, gd_t (by decide), if_pos (by decide)]
      refine ⟨up (up S 67 4 ((a : Int) + 1)) 67 6 0, rfl, Or.inl ⟨⟨up_eq, (kept.rf.upF (by decide)).upF (by decide)⟩, fun rec => ?_⟩⟩
      unfold rdE
      rw [if_neg (by omega)]
    | cons x w =>
      rw [List.length_cons] at hl
      have bx : -128 ≤ x ∧ x ≤ 127 := by
        have b := h.2.2 a (by have := h.2.1; omega)
        rw [hw.hd] at b
        exact b
      rw [show (x :: w).headD 0 = x from rfl, gd_t (by omega)]
      have bad : ∀ rec, ¬ (((48 ≤ x ∧ x < 48 + ((cnE M e : Nat) : Int)) ∧ offM M e (x - 48).toNat = false) ∧ 0 ≤ fpM M e (x - 48).toNat) → rdE M rec e (x :: w) = none := fun rec n => by
        unfold rdE
        rw [if_neg (by omega)]
        exact if_neg n
      have bS : BDs S (up (up S 67 4 ((a : Int) + 1)) 67 6 0) := ⟨up_eq, (kept.rf.upF (by decide)).upF (by decide)⟩
      by_cases l : x - 48 < 0
      · rw [if_pos l]
        exact ⟨_, rfl, Or.inl ⟨bS, fun rec => bad rec (fun q => by omega)⟩⟩
      · rw [if_neg l, show (up S 67 4 ((a : Int) + 1)) 8 (e : Int) = S 8 (e : Int) from rfl, g8, gd_t (by omega)]
        by_cases u : M (198 + (e : Int)) ≤ x - 48
        · rw [if_pos u]
          exact ⟨_, rfl, Or.inl ⟨bS, fun rec => bad rec (fun q => by omega)⟩⟩
        · rw [if_neg u]
          obtain ⟨tm, htm⟩ : ∃ tm : Nat, x - 48 = (tm : Int) := ⟨(x - 48).toNat, by omega⟩
          have g' : GM (up S 67 4 ((a : Int) + 1)) M := g.of (fun i _ _ => up_n (by omega))
          have io := e_isOff2 (t := tm) wf g' he (by omega)
          rw [htm, bd1_e io]
          have et : (x - 48).toNat = tm := by omega
          cases ho : offM M e tm with
          | true =>
            rw [if_pos rfl, gd_t (by decide), if_neg (by decide)]
            exact ⟨_, rfl, Or.inl ⟨bS, fun rec => bad rec (fun q => by rw [et, ho] at q; simp at q)⟩⟩
          | false =>
            rw [if_neg (by decide), gd_t (by decide), if_pos rfl]
            have h' : CRs (up S 67 4 ((a : Int) + 1)) L (a + 1) z t sc oc := by
              obtain ⟨⟨⟨h1, h2⟩, h3, h4, h5, h6, h7⟩, hb, h8⟩ := h
              refine ⟨⟨⟨?_, ?_⟩, ?_, ?_, ?_, ?_, ?_⟩, by omega, h8⟩
              · rw [up_nk (by decide)]; exact h1
              · rw [up_eq]; omega
              · rw [up_nk (by decide)]; exact h3
              · rw [up_nk (by decide)]; exact h4
              · rw [up_nk (by decide)]; exact h5
              · rw [up_nk (by decide)]; exact h6
              · rw [up_nk (by decide)]; exact h7
            obtain ⟨X, x1, x2⟩ := e_rdx_tl (tm := tm) wf g' h' he hlo hE (by omega)
            have kS : KRd S (up S 67 4 ((a : Int) + 1)) := kept.rf.upF (by decide)
            refine ⟨X, x1, Or.inr ⟨tm, [x], w, ⟨rfl, Nat.le_refl _, fun q => by cases q⟩, by omega, fun rec => ?_, ?_⟩⟩
            · unfold rdE
              rw [if_neg (by omega)]
              show (if ((48 ≤ x ∧ x < 48 + ((cnE M e : Nat) : Int)) ∧ offM M e (x - 48).toNat = false) ∧ 0 ≤ fpM M e (x - 48).toNat then (rdC M rec 25 (fpM M e (x - 48).toNat) w).bind fun s => some (x :: fl1 s.1, szs s.1, s.2) else none) = _
              rw [et, if_pos ⟨⟨by omega, ho⟩, fpz tm (by omega)⟩]
              rfl
            · rcases x2 with ⟨y1, y2⟩ | ⟨y1, y2, y3, y4, y5, y6⟩
              · exact Or.inl ⟨y1, y2.tr kS⟩
              · exact Or.inr ⟨y1, y2, y3, y4, y5, kS.trans y6⟩
