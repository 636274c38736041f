/-! the first line, read by both -/
theorem sim_faultE {S T : St} {u : Int → Int} {n a : Nat} {k : Int} (h : RR S T u n a) (hk : k = 1 ∨ k = 2 ∨ k = 3) : mX5_refuse S k = some (up (up S 12 1 k) 12 2 (S 12 8)) ∧ mX12_faults T k = some (-1, up (up (up T 83 10 1) 83 4 k) 83 5 (T 83 7)) ∧ BB (up (up S 12 1 k) 12 2 (S 12 8)) (up (up (up T 83 10 1) 83 4 k) 83 5 (T 83 7)) := by
  obtain ⟨⟨hC, -⟩, ⟨cC, cF⟩, z1, z2⟩ := h
  refine ⟨?_, ?_, rfl, hk, rfl, ?_, ?_⟩
  · unfold mX5_refuse
    rw [z1, gd_t (by decide), if_pos rfl]; rfl
  · unfold mX12_faults
    rw [z2, gd_t (by decide), if_pos rfl]; rfl
  · show T 83 7 = S 12 8
    rw [cC.2.1, cF.2.1]
  · show inI (S 12 8)
    have h4 := hC.1.2.2
    have h5 := cC.1
    rw [cC.2.1]; omega
def KNS (S S' : St) : Prop := kept [24, 25] [(12, 1), (12, 2), (12, 6), (12, 7), (12, 8), (12, 9), (13, 1)] S S'
def KNT (T T' : St) : Prop := kept [87, 88] [(83, 4), (83, 5), (83, 6), (83, 7), (83, 8), (83, 9), (83, 10), (84, 0)] T T'
theorem KNS.flt {S S1 : St} {k v : Int} (h : KNS S S1) : KNS S (up (up S1 12 1 k) 12 2 v) := (kept.upF h (by decide)).upF (by decide)
theorem KNT.flt {S S1 : St} {k v : Int} (h : KNT S S1) : KNT S (up (up (up S1 83 10 1) 83 4 k) 83 5 v) := ((kept.upF h (by decide)).upF (by decide)).upF (by decide)
theorem KNS.adv {S S' : St} (k : kept [] [(12, 6), (12, 7), (12, 8), (12, 9)] S S') : KNS S S' := k.mono (by simp) (by simp)
theorem KNT.adv {T T' : St} (k : kept [] [(83, 6), (83, 7), (83, 8), (83, 9)] T T') : KNT T T' := k.mono (by simp) (by simp)
theorem rn92 {u : Int → Int} {n a l nk : Nat} (ha : a + l ≤ n) (hl : l ≤ 8) (hk : nk < 6) : ∀ (d i f : Nat) (T : St), i + d = l → d < f → TF T u n → T 83 7 = (a : Int) → T 88 (nk : Int) = (l : Int) → (∀ j : Nat, j < i → T 87 (8 * (nk : Int) + (j : Int)) = u ((a + j : Nat) : Int)) → wp (mX12_readsName_92 (nk : Int) f (i : Int) T) (fun T' => (∀ j : Nat, j < l → T' 87 (8 * (nk : Int) + (j : Int)) = u ((a + j : Nat) : Int)) ∧ (∀ k : Int, k < 8 * (nk : Int) → T' 87 k = T 87 k) ∧ kept [87] [] T T') := by
  intro d
  induction d with
  | zero =>
    intro i f T hi hf h h7 h8 hj
    obtain ⟨g, rfl⟩ : ∃ g, f = g + 1 := ⟨f - 1, by omega⟩
    rw [mX12_readsName_92, h8, gd_t (by omega), if_pos (by omega)]
    exact wp_some.mpr ⟨fun j hj' => hj j (by omega), fun _ _ => rfl, kept.rf⟩
  | succ d ih =>
    intro i f T hi hf h h7 h8 hj
    obtain ⟨g, rfl⟩ : ∃ g, f = g + 1 := ⟨f - 1, by omega⟩
    have h4 := h.1.2
    obtain ⟨v, v0, v1⟩ := h.2 (a + i) (by omega)
    rw [mX12_readsName_92, h8, gd_t (by omega), if_neg (by omega), h7, gd_t (by omega), gd_t (by omega), nx_e, show (a : Int) + (i : Int) = ((a + i : Nat) : Int) by omega, v]
    have go := ih (i + 1) g (up T 87 (8 * (nk : Int) + (i : Int)) (u ((a + i : Nat) : Int))) (by omega) (by omega) (h.of rfl rfl) h7 h8 (fun j hj' => by
      by_cases c : j = i
      · subst c; rw [up_eq]
      · rw [up_nk (by omega)]; exact hj j (by omega))
    rw [show ((i + 1 : Nat) : Int) = (i : Int) + 1 by omega] at go
    refine wp_mono go (fun T' q => ⟨q.1, fun k hk' => ?_, kept.trans (kept.rf.upA (by decide)) q.2.2⟩)
    rw [q.2.1 k hk', up_nk (by omega)]
theorem sim_name {S T : St} {u : Int → Int} {n a nk : Nat} (h : RR S T u n a) (hN : NM S T u n nk) : ∃ S' T' : St, mX5_readName S = some S' ∧ mX12_readsName T = some T' ∧ KNS S S' ∧ KNT T T' ∧ (BB S' T' ∨ (nk < 6 ∧ RR S' T' u n (nxt u n a) ∧ NM S' T' u n (nk + 1))) := by
  have hh := h
  obtain ⟨⟨hC, hF⟩, ⟨cC, cF⟩, z1, z2⟩ := h
  obtain ⟨k, k1, k2⟩ := e_key hF cF
  have pb := e_partBegun hC cC k2
  have kb : k = -1 ∨ k = 0 ∨ k = 1 ∨ k = 2 ∨ k = 3 ∨ k = 4 ∨ k = 5 ∨ k = 6 ∨ k = 7 ∨ k = 8 ∨ k = 9 := by
    rcases k2 with ⟨i, i1, i2, _⟩ | ⟨i1, _⟩ <;> omega
  have n6 := hN.1.2.2
  have eb := en_b (u := u) cC.1
  have h4 := hC.1.2.2
  have tI : inI (tk u n a) := by rcases tk_cases u n a with q | q | q | q | q <;> omega
  have flt : ∀ q : Int, (q = 1 ∨ q = 2 ∨ q = 3) → (∀ S', mX5_refuse S q = some S' → mX5_readName S = some S') → (∀ T', mX12_faults T q = some (-1, T') → mX12_readsName T = some T') → ∃ S' T' : St, mX5_readName S = some S' ∧ mX12_readsName T = some T' ∧ KNS S S' ∧ KNT T T' ∧ (BB S' T' ∨ (nk < 6 ∧ RR S' T' u n (nxt u n a) ∧ NM S' T' u n (nk + 1))) := fun q hq x y => by
    obtain ⟨f1, f2, f3⟩ := sim_faultE hh hq
    exact ⟨_, _, x _ f1, y _ f2, KNS.flt kept.rf, KNT.flt kept.rf, Or.inl f3⟩
  by_cases t1 : tk u n a = 1
  · rw [if_pos t1] at pb
    have tc : tkC u n a = 1 := by rcases tk_cases u n a with q | q | q | q | q <;> omega
    have an : a < n := by rcases tk_cases u n a with q | q | q | q | q <;> omega
    have pbI : inI (pbt k) := by
      rcases kb with e | e | e | e | e | e | e | e | e | e | e <;> (rw [e]; decide)
    by_cases kk : 0 ≤ k
    · have p2 : pbt k ≠ 2 := by
        rcases kb with e | e | e | e | e | e | e | e | e | e | e <;> first | omega | (rw [e]; decide)
      refine flt 1 (by omega) (fun S' s => ?_) (fun T' s => ?_)
      · unfold mX5_readName
        rw [bd1_e pb, gd_t pbI, if_neg p2, bd1_e s]
      · unfold mX12_readsName
        rw [cF.2.2.2.1, t1, gd_t (by decide), if_pos rfl, bd1_e k1, gd_t (by omega), if_neg (by omega), bd2_e s]
    · have km : k = -1 := by omega
      rw [km] at pb k1
      have p2 : pbt (-1) = 2 := rfl
      rw [p2] at pb
      by_cases l8 : 8 < en u n a - a
      · refine flt 2 (by omega) (fun S' s => ?_) (fun T' s => ?_)
        · unfold mX5_readName
          rw [bd1_e pb, gd_t (by decide), if_pos rfl, cC.2.2.1, cC.2.1, gd_t (by omega), if_pos (by omega), bd1_e s]
        · unfold mX12_readsName
          rw [cF.2.2.2.1, t1, gd_t (by decide), if_pos rfl, bd1_e k1, gd_t (by decide), if_pos (by decide), cF.2.2.1, cF.2.1, gd_t (by omega), if_pos (by omega), bd2_e s]
      · obtain ⟨r, r1, r2, r3⟩ := sim_named hC hF cC cF hN t1
        by_cases rr : r = -1
        · rw [rr] at r1 r2
          by_cases six : nk = 6
          · refine flt 3 (by omega) (fun S' s => ?_) (fun T' s => ?_)
            · unfold mX5_readName
              rw [bd1_e pb, gd_t (by decide), if_pos rfl, cC.2.2.1, cC.2.1, gd_t (by omega), if_neg (by omega), bd1_e r1, gd_t (by decide), if_pos rfl, hN.1.1, gd_t (by omega), if_neg (by omega), bd1_e s]
            · unfold mX12_readsName
              rw [cF.2.2.2.1, t1, gd_t (by decide), if_pos rfl, bd1_e k1, gd_t (by decide), if_pos (by decide), cF.2.2.1, cF.2.1, gd_t (by omega), if_neg (by omega), bd1_e r2, gd_t (by decide), if_pos (by decide), hN.1.2.1, gd_t (by omega), if_pos (by omega), bd2_e s]
          · obtain ⟨l, hl⟩ : ∃ l : Nat, en u n a = a + l := ⟨en u n a - a, by omega⟩
            obtain ⟨T1, w1, w2, w3, w4⟩ := rn92 (u := u) (n := n) (a := a) (l := l) (nk := nk) (by omega) (by omega) (by omega) l 0 FU (up T 88 (nk : Int) (l : Int)) (by omega) (by unfold FU; omega) (hF.of rfl rfl) cF.2.1 up_eq (fun j hj => by omega)
            obtain ⟨S3, hS3⟩ : ∃ S3 : St, S3 = up (up (up S 24 (nk : Int) (a : Int)) 25 (nk : Int) (l : Int)) 13 1 ((nk : Int) + 1) := ⟨_, rfl⟩
            obtain ⟨T3, hT3⟩ : ∃ T3 : St, T3 = up T1 84 0 ((nk : Int) + 1) := ⟨_, rfl⟩
            have c83 : T1 83 = T 83 := (w4.cell 83 (by decide) (by decide)).trans rfl
            have c84 : T1 84 = T 84 := (w4.cell 84 (by decide) (by decide)).trans rfl
            have c86 : T1 86 = T 86 := (w4.cell 86 (by decide) (by decide)).trans rfl
            have c88 : T1 88 = (up T 88 (nk : Int) (l : Int)) 88 := w4.cell 88 (by decide) (by decide)
            obtain ⟨S4, T4, s1, s2, s3, s4, s5⟩ := sim_adv (S := S3) (T := T3) (hh.of (by rw [hS3]; rfl) (by rw [hS3]; rfl) (by rw [hT3]; exact c83) (by rw [hT3]; exact c86))
            have kS3 : KNS S S3 := by
              rw [hS3]; exact ((kept.upA (kept.upA kept.rf (by decide)) (by decide)).upF (by decide))
            have kT3 : KNT T T3 := by
              rw [hT3]
              exact kept.upF (kept.trans (kept.upA kept.rf (by decide)) (w4.mono (by simp) (by simp))) (by decide)
            refine ⟨S4, T4, ?_, ?_, kept.trans kS3 (KNS.adv s4), kept.trans kT3 (KNT.adv s5), Or.inr ⟨by omega, s3, ⟨?_, ?_, by omega⟩, fun k hk => ?_⟩⟩
            · unfold mX5_readName
              rw [bd1_e pb, gd_t (by decide), if_pos rfl, cC.2.2.1, cC.2.1, gd_t (by omega), if_neg (by omega), bd1_e r1, gd_t (by decide), if_pos rfl, hN.1.1, gd_t (by omega), if_pos (by omega), gd_t (by omega), nx_e]
              rw [show (up S 24 (nk : Int) (a : Int)) 13 1 = S 13 1 from rfl, hN.1.1, gd_t (by omega), show (up S 24 (nk : Int) (a : Int)) 12 6 = S 12 6 from rfl, show (up S 24 (nk : Int) (a : Int)) 12 8 = S 12 8 from rfl, cC.2.2.1, cC.2.1, nx_e, show ((en u n a : Nat) : Int) - (a : Int) = (l : Int) by omega]
              rw [show (up (up S 24 (nk : Int) (a : Int)) 25 (nk : Int) (l : Int)) 13 1 = S 13 1 from rfl, hN.1.1, nx_e, ← hS3, bd1_e s1]
            · unfold mX12_readsName
              rw [cF.2.2.2.1, t1, gd_t (by decide), if_pos rfl, bd1_e k1, gd_t (by decide), if_pos (by decide), cF.2.2.1, cF.2.1, gd_t (by omega), if_neg (by omega), bd1_e r2, gd_t (by decide), if_pos (by decide), hN.1.2.1, gd_t (by omega), if_neg (by omega), nx_e, gd_t (by omega), nx_e, show ((en u n a : Nat) : Int) - (a : Int) = (l : Int) by omega]
              rw [bd1_e (show mX12_readsName_92 (nk : Int) FU 0 (up T 88 (nk : Int) (l : Int)) = some T1 from w1), c84, hN.1.2.1, nx_e, ← hT3, bd1_e s2]
            · rw [s4 13 1 (by decide) (by decide), hS3, up_eq]; omega
            · rw [s5.cell 84 (by decide) (by decide), hT3, up_eq]; omega
            · rw [s4.cell 24 (by decide) (by decide), s4.cell 25 (by decide) (by decide), s5.cell 87 (by decide) (by decide), s5.cell 88 (by decide) (by decide)]
              have q24 : ∀ k : Int, S3 24 k = if k = (nk : Int) then (a : Int) else S 24 k := fun k => by rw [hS3]; show (up S 24 (nk : Int) (a : Int)) 24 k = _; rw [up_if]
              have q25 : ∀ k : Int, S3 25 k = if k = (nk : Int) then (l : Int) else S 25 k := fun k => by rw [hS3]; show (up (up S 24 (nk : Int) (a : Int)) 25 (nk : Int) (l : Int)) 25 k = _; rw [up_if]; rfl
              have q88 : ∀ k : Int, T3 88 k = if k = (nk : Int) then (l : Int) else T 88 k := fun k => by rw [hT3]; show T1 88 k = _; rw [c88, up_if]
              have q87 : T3 87 = T1 87 := by rw [hT3]; rfl
              by_cases e : k = nk
              · subst e
                refine ⟨a, l, ?_, ?_, ?_, by omega, by omega, fun j hj => ?_⟩
                · rw [q24, if_pos rfl]
                · rw [q25, if_pos rfl]
                · rw [q88, if_pos rfl]
                · rw [q87]; exact w2 j hj
              · obtain ⟨s, l', s1, s2, s3, s4, s5, s6⟩ := hN.2 k (by omega)
                refine ⟨s, l', ?_, ?_, ?_, s4, s5, fun j hj => ?_⟩
                · rw [q24, if_neg (by omega)]; exact s1
                · rw [q25, if_neg (by omega)]; exact s2
                · rw [q88, if_neg (by omega)]; exact s3
                · rw [q87, w3 _ (by omega)]
                  show T 87 _ = _
                  exact s6 j hj
        · refine flt 2 (by omega) (fun S' s => ?_) (fun T' s => ?_)
          · unfold mX5_readName
            rw [bd1_e pb, gd_t (by decide), if_pos rfl, cC.2.2.1, cC.2.1, gd_t (by omega), if_neg (by omega), bd1_e r1, gd_t (by omega), if_neg rr, bd1_e s]
          · unfold mX12_readsName
            rw [cF.2.2.2.1, t1, gd_t (by decide), if_pos rfl, bd1_e k1, gd_t (by decide), if_pos (by decide), cF.2.2.1, cF.2.1, gd_t (by omega), if_neg (by omega), bd1_e r2, gd_t (by omega), if_neg (by omega), bd2_e s]
  · rw [if_neg t1] at pb
    refine flt 1 (by omega) (fun S' s => ?_) (fun T' s => ?_)
    · unfold mX5_readName
      rw [bd1_e pb]
      split
      · rw [gd_t (by decide), if_neg (by decide), bd1_e s]
      · rw [gd_t (by decide), if_neg (by decide), bd1_e s]
    · unfold mX12_readsName
      rw [cF.2.2.2.1, gd_t tI, if_neg t1, bd2_e s]
/-- the names, and the sign behind them -/
def endS (T1 T' : St) : Prop := (T1 83 10 = 0 ∧ mX12_needs T1 59 = some T') ∨ (T1 83 10 = 1 ∧ T' = T1)
theorem headL {u : Int → Int} {n : Nat} : ∀ (d i fC fF : Nat) (S T : St) (a : Nat), i + d = 6 → d + 2 < fC → d + 2 < fF → RR S T u n a → NM S T u n i → (i = 0 ∨ tk u n a = 1) → ∃ S1 S2 T1 T2 : St, mX5_readHead_66 fC (i : Int) S = some S1 ∧ mX5_expectSign S1 59 = some S2 ∧ mX12_readsHead_72 fF 1 T = some T1 ∧ endS T1 T2 ∧ KNS S S2 ∧ KNT T T2 ∧ (BB S2 T2 ∨ ∃ a' nk : Nat, RR S2 T2 u n a' ∧ NM S2 T2 u n nk ∧ 1 ≤ nk) := by
  intro d
  induction d with
  | zero =>
    intro i fC fF S T a hi hfC hfF h hN ht
    obtain ⟨fC, rfl⟩ : ∃ g, fC = g + 2 := ⟨fC - 2, by omega⟩
    obtain ⟨fF, rfl⟩ : ∃ g, fF = g + 2 := ⟨fF - 2, by omega⟩
    obtain ⟨S', T', s1, s2, s3, s4, s5⟩ := sim_name h hN
    have tI : inI (tkC u n a) := by rcases tk_cases u n a with q | q | q | q | q <;> omega
    rcases s5 with s5 | ⟨s5, -⟩
    · have n1 := s5.2.1
      have tc : tkC u n a = 1 := by rcases tk_cases u n a with q | q | q | q | q <;> omega
      refine ⟨S', S', T', T', ?_, bad_expectSign n1, ?_, Or.inr ⟨s5.1, rfl⟩, s3, s4, Or.inl s5⟩
      · rw [mX5_readHead_66, gd_t (by omega), if_neg (by omega), h.2.2.1, gd_t (by decide), if_pos rfl, if_neg (by omega), h.2.1.1.2.2.2.1, gd_t tI, if_neg (by omega), bd1_e s1, mX5_readHead_66, gd_t (by omega)]
        rw [if_pos (by omega)]
      · rw [mX12_readsHead_72, gd_t (by decide), if_neg (by decide), bd1_e s2, s5.1, gd_t (by decide), if_neg (by decide), mX12_readsHead_72, gd_t (by decide), if_pos rfl]
    · omega
  | succ d ih =>
    intro i fC fF S T a hi hfC hfF h hN ht
    obtain ⟨fC, rfl⟩ : ∃ g, fC = g + 2 := ⟨fC - 2, by omega⟩
    obtain ⟨fF, rfl⟩ : ∃ g, fF = g + 2 := ⟨fF - 2, by omega⟩
    obtain ⟨S', T', s1, s2, s3, s4, s5⟩ := sim_name h hN
    have tI : inI (tkC u n a) := by rcases tk_cases u n a with q | q | q | q | q <;> omega
    have eC : mX5_readHead_66 (fC + 2) (i : Int) S = mX5_readHead_66 (fC + 1) ((i : Int) + 1) S' := by
      rw [mX5_readHead_66, gd_t (by omega), if_neg (by omega), h.2.2.1, gd_t (by decide), if_pos rfl]
      by_cases c : i = 0
      · rw [if_pos (by omega), bd1_e s1]
      · have tc : tkC u n a = 1 := by rcases tk_cases u n a with q | q | q | q | q <;> omega
        rw [if_neg (by omega), h.2.1.1.2.2.2.1, gd_t tI, if_neg (by omega), bd1_e s1]
    rcases s5 with s5 | ⟨s5, r5, n5⟩
    · have n1 := s5.2.1
      refine ⟨S', S', T', T', ?_, bad_expectSign n1, ?_, Or.inr ⟨s5.1, rfl⟩, s3, s4, Or.inl s5⟩
      · rw [eC, mX5_readHead_66, gd_t (by omega), if_neg (by omega), gd_t (by omega), if_neg (by omega)]
      · rw [mX12_readsHead_72, gd_t (by decide), if_neg (by decide), bd1_e s2, s5.1, gd_t (by decide), if_neg (by decide), mX12_readsHead_72, gd_t (by decide), if_pos rfl]
    · have tI' : inI (tkC u n (nxt u n a)) ∧ inI (tk u n (nxt u n a)) := by rcases tk_cases u n (nxt u n a) with q | q | q | q | q <;> omega
      by_cases t1 : tk u n (nxt u n a) = 1
      · obtain ⟨S1, S2, T1, T2, y1, y2, y3, y4, y5, y6, y7⟩ := ih (i + 1) (fC + 1) (fF + 1) S' T' _ (by omega) (by omega) (by omega) r5 n5 (Or.inr t1)
        rw [show ((i + 1 : Nat) : Int) = (i : Int) + 1 by omega] at y1
        refine ⟨S1, S2, T1, T2, by rw [eC]; exact y1, y2, ?_, y4, kept.trans s3 y5, kept.trans s4 y6, y7⟩
        rw [mX12_readsHead_72, gd_t (by decide), if_neg (by decide), bd1_e s2, r5.2.2.2, gd_t (by decide), if_pos rfl, r5.2.1.2.2.2.2.1, gd_t tI'.2, if_pos t1]
        exact y3
      · have eF : mX12_readsHead_72 (fF + 2) 1 T = some T' := by
          rw [mX12_readsHead_72, gd_t (by decide), if_neg (by decide), bd1_e s2, r5.2.2.2, gd_t (by decide), if_pos rfl, r5.2.1.2.2.2.2.1, gd_t tI'.2, if_neg t1, mX12_readsHead_72, gd_t (by decide), if_pos rfl]
        by_cases sg : tkC u n (nxt u n a) = 59
        · obtain ⟨S2, T2, y1, y2, y3⟩ := sim_sign (c := 59) r5 (by omega)
          refine ⟨S', S2, T', T2, ?_, y1, eF, Or.inl ⟨r5.2.2.2, y2⟩, ?_⟩
          · rw [eC, mX5_readHead_66, gd_t (by omega), if_neg (by omega), r5.2.2.1, gd_t (by decide), if_pos rfl, if_neg (by omega), r5.2.1.1.2.2.2.1, gd_t tI'.1, if_pos sg]
          · rcases y3 with ⟨a6, r6, k6, k7⟩ | y3
            · refine ⟨kept.trans s3 (KNS.adv k6), kept.trans s4 (KNT.adv k7), Or.inr ⟨a6, i + 1, r6, ?_, by omega⟩⟩
              exact n5.of (KS.adv k6) (KT.adv k7)
            · exfalso
              obtain ⟨S8, T8, v1, v2, v3, -⟩ := sim_adv r5
              unfold mX5_expectSign at y1
              rw [r5.2.2.1, gd_t (by decide), if_pos rfl, r5.2.1.1.2.2.2.1, gd_t (by omega), if_pos sg, bd1_e v1] at y1
              have e8 : S8 = S2 := Option.some.inj y1
              have := v3.2.2.1
              rw [e8] at this
              have := y3.2.1
              omega
        · obtain ⟨f1, f2, f3⟩ := sim_faultE (k := 1) r5 (by omega)
          refine ⟨_, _, T', _, ?_, bad_expectSign f3.2.1, eF, Or.inl ⟨r5.2.2.2, ?_⟩, KNS.flt s3, KNT.flt s4, Or.inl f3⟩
          · have rn : mX5_readName S' = some (up (up S' 12 1 1) 12 2 (S' 12 8)) := by
              obtain ⟨k, k1, k2⟩ := e_key r5.1.2 r5.2.1.2
              have pb := e_partBegun r5.1.1 r5.2.1.1 k2
              rw [if_neg t1] at pb
              unfold mX5_readName
              rw [bd1_e pb]
              split
              · rw [gd_t (by decide), if_neg (by decide), bd1_e f1]
              · rw [gd_t (by decide), if_neg (by decide), bd1_e f1]
            rw [eC, mX5_readHead_66, gd_t (by omega), if_neg (by omega), r5.2.2.1, gd_t (by decide), if_pos rfl, if_neg (by omega), r5.2.1.1.2.2.2.1, gd_t tI'.1, if_neg sg, bd1_e rn]
            obtain ⟨g, hg⟩ : ∃ g, fC = g + 1 := ⟨fC - 1, by omega⟩
            rw [hg, mX5_readHead_66, gd_t (by omega)]
            have n1 := f3.2.1
            by_cases c : 6 < (i : Int) + 1 + 1
            · rw [if_pos c]
            · rw [if_neg c, gd_t (by omega), if_neg (by omega)]
          · unfold mX12_needs
            rw [bd1_e (e_isSign r5.1.2 r5.2.1.2 (by omega)), if_neg sg, gd_t (by decide), if_pos rfl, bd2_e f2, f3.1, gd_t (by decide), if_neg (by decide)]
