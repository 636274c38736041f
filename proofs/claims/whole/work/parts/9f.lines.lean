/-! the first line and the others, read by both -/
theorem sim_wordE {S T : St} {u : Int → Int} {n a k : Nat} (h : RR S T u n a) (hk : k < 10) : (∃ S' T' : St, mX5_expectWord_12_s (wdL k) S = some S' ∧ mX12_needsWord T (k : Int) = some T' ∧ RR S' T' u n (nxt u n a) ∧ kept [] [(12, 6), (12, 7), (12, 8), (12, 9)] S S' ∧ kept [] [(83, 6), (83, 7), (83, 8), (83, 9)] T T') ∨ (mX5_expectWord_12_s (wdL k) S = some (up (up S 12 1 1) 12 2 (S 12 8)) ∧ mX12_needsWord T (k : Int) = some (up (up (up T 83 10 1) 83 4 1) 83 5 (T 83 7)) ∧ BB (up (up S 12 1 1) 12 2 (S 12 8)) (up (up (up T 83 10 1) 83 4 1) 83 5 (T 83 7))) := by
  obtain ⟨r, r2, r1, q1⟩ := sim_isWord h hk
  unfold mX5_expectWord_12_s mX12_needsWord
  rw [h.2.2.1, gd_t (by decide), if_pos rfl, bd1_e r1, bd1_e q1]
  rcases r2 with e | e
  · obtain ⟨s1, s2, s3⟩ := sim_faultE (k := 1) h (Or.inl rfl)
    refine Or.inr ⟨?_, ?_, s3⟩
    · rw [e, gd_t (by decide), if_pos rfl, bd1_e s1]
    · rw [e, gd_t (by decide), if_pos rfl, bd2_e s2, s3.1, gd_t (by decide), if_neg (by decide)]
  · obtain ⟨S', T', s1, s2, s3, s4, s5⟩ := sim_adv h
    refine Or.inl ⟨S', T', ?_, ?_, s3, s4, s5⟩
    · rw [e, gd_t (by decide), if_neg (by decide), bd1_e s1]
    · rw [e, gd_t (by decide), if_neg (by decide), h.2.2.2, gd_t (by decide), if_pos rfl, bd1_e s2]
theorem sim_signE {S T : St} {u : Int → Int} {n a : Nat} {c : Int} (h : RR S T u n a) (hs : c = 61 ∨ c = 59 ∨ c = 40 ∨ c = 41) : (∃ S' T' : St, mX5_expectSign S c = some S' ∧ mX12_needs T c = some T' ∧ RR S' T' u n (nxt u n a) ∧ kept [] [(12, 6), (12, 7), (12, 8), (12, 9)] S S' ∧ kept [] [(83, 6), (83, 7), (83, 8), (83, 9)] T T') ∨ (mX5_expectSign S c = some (up (up S 12 1 1) 12 2 (S 12 8)) ∧ mX12_needs T c = some (up (up (up T 83 10 1) 83 4 1) 83 5 (T 83 7)) ∧ BB (up (up S 12 1 1) 12 2 (S 12 8)) (up (up (up T 83 10 1) 83 4 1) 83 5 (T 83 7))) := by
  have hh := h
  obtain ⟨⟨hC, hF⟩, ⟨cC, cF⟩, z1, z2⟩ := h
  have si := e_isSign hF cF hs
  have tI : inI (tkC u n a) := by rcases tk_cases u n a with q | q | q | q | q <;> omega
  unfold mX5_expectSign mX12_needs
  rw [z1, gd_t (by decide), if_pos rfl, cC.2.2.2.1, bd1_e si]
  by_cases e : tkC u n a = c
  · obtain ⟨S', T', s1, s2, s3, s4, s5⟩ := sim_adv hh
    refine Or.inl ⟨S', T', ?_, ?_, s3, s4, s5⟩
    · rw [gd_t (by omega), if_pos e, bd1_e s1]
    · rw [if_pos e, gd_t (by decide), if_neg (by decide), z2, gd_t (by decide), if_pos rfl, bd1_e s2]
  · obtain ⟨s1, s2, s3⟩ := sim_faultE (k := 1) hh (Or.inl rfl)
    refine Or.inr ⟨?_, ?_, s3⟩
    · rw [gd_t (by omega), if_neg e, bd1_e s1]
    · rw [if_neg e, gd_t (by decide), if_pos rfl, bd2_e s2, s3.1, gd_t (by decide), if_neg (by decide)]
def KHS (S S' : St) : Prop := kept [24, 25] [(12, 1), (12, 2), (12, 6), (12, 7), (12, 8), (12, 9), (13, 0), (13, 1), (13, 2)] S S'
def KHT (T T' : St) : Prop := kept [87, 88] [(83, 4), (83, 5), (83, 6), (83, 7), (83, 8), (83, 9), (83, 10), (84, 0), (84, 1), (84, 3)] T T'
theorem KHS.flt {S S1 : St} {k v : Int} (h : KHS S S1) : KHS S (up (up S1 12 1 k) 12 2 v) := (kept.upF h (by decide)).upF (by decide)
theorem KHT.flt {S S1 : St} {k v : Int} (h : KHT S S1) : KHT S (up (up (up S1 83 10 1) 83 4 k) 83 5 v) := ((kept.upF h (by decide)).upF (by decide)).upF (by decide)
theorem KHS.adv {S S' : St} (k : kept [] [(12, 6), (12, 7), (12, 8), (12, 9)] S S') : KHS S S' := k.mono (by simp) (by simp)
theorem KHT.adv {T T' : St} (k : kept [] [(83, 6), (83, 7), (83, 8), (83, 9)] T T') : KHT T T' := k.mono (by simp) (by simp)
theorem KNS.to {S S' : St} (h : KNS S S') : KHS S S' := kept.mono h (by decide) (by decide)
theorem KNT.to {S S' : St} (h : KNT S S') : KHT S S' := kept.mono h (by decide) (by decide)
/-- the class's first line behind its two words -/
def hdC (S_4 : St) : Option St := bd1 (gd (inI (S_4 12 7)) <| if (S_4 12 7) = 2 then (gd (inI (S_4 12 9)) <| if (S_4 12 9) ≤ 7 then (some (S_4)) else (bd1 (mX5_refuse S_4 2) fun S_43 => some (S_43))) else (bd1 (mX5_refuse S_4 1) fun S_45 => some (S_45))) fun S_5 => bd1 (gd (inI (S_5 12 1)) <| if (S_5 12 1) = 0 then (nx (up S_5 13 0 (S_5 12 9)) fun S_35 => bd1 (mX5_advance S_35) fun S_37 => some (S_37)) else (some (S_5))) fun S_8 => bd1 (mX5_readHead_66 FU 0 S_8) fun S_13 => bd1 (mX5_expectSign S_13 59) fun S_17 => nx (up S_17 13 2 1) fun S_18 => some (S_18)
theorem hdC_end {S : St} (h : S 12 1 = 1 ∨ S 12 1 = 2 ∨ S 12 1 = 3) : (bd1 (gd (inI (S 12 1)) <| if (S 12 1) = 0 then (nx (up S 13 0 (S 12 9)) fun S_35 => bd1 (mX5_advance S_35) fun S_37 => some (S_37)) else (some (S))) fun S_8 => bd1 (mX5_readHead_66 FU 0 S_8) fun S_13 => bd1 (mX5_expectSign S_13 59) fun S_17 => nx (up S_17 13 2 1) fun S_18 => some (S_18)) = some (up S 13 2 1) := by
  have : mX5_readHead_66 (1999999 + 1) 0 S = some S := by
    rw [mX5_readHead_66, gd_t (by decide), if_neg (by decide), gd_t (by omega), if_neg (by omega)]
  rw [gd_t (by omega), if_neg (by omega), bd1_s, bd1_e (show mX5_readHead_66 FU 0 S = some S from this), bd1_e (bad_expectSign h), nx_e]
theorem hdC_bad {S : St} (h : S 12 1 = 1 ∨ S 12 1 = 2 ∨ S 12 1 = 3) (h7 : inI (S 12 7)) (h9 : S 12 7 = 2 → inI (S 12 9)) : hdC S = some (up S 13 2 1) := by
  unfold hdC
  have e : (gd (inI (S 12 7)) <| if (S 12 7) = 2 then (gd (inI (S 12 9)) <| if (S 12 9) ≤ 7 then (some (S)) else (bd1 (mX5_refuse S 2) fun S_43 => some (S_43))) else (bd1 (mX5_refuse S 1) fun S_45 => some (S_45))) = some S := by
    rw [gd_t h7, bad_refuse h, bad_refuse h]
    by_cases c : S 12 7 = 2
    · rw [if_pos c, gd_t (h9 c)]
      split <;> rfl
    · rw [if_neg c]; rfl
  rw [bd1_e e, hdC_end h]
theorem RR.num {S T : St} {u : Int → Int} {n a : Nat} (h : RR S T u n a) : inI (S 12 7) ∧ (S 12 7 = 2 → inI (S 12 9)) := by
  rw [h.2.1.1.2.2.2.1]
  rcases tk_cases u n a with q | q | q | q | q
  · omega
  · omega
  · refine ⟨by omega, fun _ => ?_⟩
    rw [h.2.1.1.2.2.2.2 q.1]; omega
  · omega
  · omega
theorem sim_head {S T : St} {u : Int → Int} {n a : Nat} (h : RR S T u n a) (hN : NM S T u n 0) : ∃ S' T1 T' : St, mX5_readHead S = some S' ∧ mX12_readsHead T = some T1 ∧ endS T1 T' ∧ KHS S S' ∧ KHT T T' ∧ (BB S' T' ∨ ∃ a' nk v : Nat, RR S' T' u n a' ∧ NM S' T' u n nk ∧ 1 ≤ nk ∧ S' 13 0 = (v : Int) ∧ T' 84 1 = (v : Int) ∧ v ≤ 7 ∧ S' 13 2 = 1 ∧ T' 84 3 = T 84 3) := by
  have eC : ∀ S2 S4 S', mX5_expectWord_12_s tx0 S = some S2 → mX5_expectWord_12_s tx1 S2 = some S4 → hdC S4 = some S' → mX5_readHead S = some S' := fun S2 S4 S' x y z => by
    unfold mX5_readHead
    rw [bd1_e x, bd1_e y]
    exact z
  rcases sim_wordE (k := 0) h (by decide) with ⟨S2, T2, s1, s2, s3, s4, s5⟩ | ⟨s1, s2, s3⟩
  · rcases sim_wordE (k := 1) s3 (by decide) with ⟨S4, T4, w1, w2, w3, w4, w5⟩ | ⟨w1, w2, w3⟩
    · have kS4 : KHS S S4 := kept.trans (KHS.adv s4) (KHS.adv w4)
      have kT4 : KHT T T4 := kept.trans (KHT.adv s5) (KHT.adv w5)
      have nm4 : NM S4 T4 u n 0 := (hN.of (KS.adv s4) (KT.adv s5)).of (KS.adv w4) (KT.adv w5)
      have eF : ∀ T1 : St, (gd (inI (T4 83 8)) <| if (T4 83 8) = 2 then (gd (inI (T4 83 9)) <| if (T4 83 9) < 8 then (nx (up T4 84 1 (T4 83 9)) fun S_12 => bd1 (mX12_next S_12) fun S_14 => bd1 (mX12_readsHead_72 FU 1 S_14) fun S_17 => some (S_17)) else (bd2 (mX12_faults T4 2) fun r_32 S_33 => some (S_33))) else (bd2 (mX12_faults T4 1) fun r_35 S_36 => some (S_36))) = some T1 → mX12_readsHead T = some T1 := fun T1 x => by
        unfold mX12_readsHead
        rw [bd1_e (show mX12_needsWord T 0 = some T2 from s2), s3.2.2.2, gd_t (by decide), if_pos rfl, bd1_e (show mX12_needsWord T2 1 = some T4 from w2), bd1_s, w3.2.2.2, gd_t (by decide), if_pos rfl]
        exact x
      have ww := w3
      obtain ⟨⟨hC, hFt⟩, ⟨cC, cF⟩, z1, z2⟩ := w3
      generalize nxt u n (nxt u n a) = b at *
      have tI : inI (tk u n b) ∧ inI (tkC u n b) := by rcases tk_cases u n b with q | q | q | q | q <;> omega
      have flt : ∀ q : Int, (q = 1 ∨ q = 2 ∨ q = 3) → (∀ S5, mX5_refuse S4 q = some S5 → (gd (inI (S4 12 7)) <| if (S4 12 7) = 2 then (gd (inI (S4 12 9)) <| if (S4 12 9) ≤ 7 then (some (S4)) else (bd1 (mX5_refuse S4 2) fun S_43 => some (S_43))) else (bd1 (mX5_refuse S4 1) fun S_45 => some (S_45))) = some S5) → (∀ T1, mX12_faults T4 q = some (-1, T1) → mX12_readsHead T = some T1) → ∃ S' T1 T' : St, mX5_readHead S = some S' ∧ mX12_readsHead T = some T1 ∧ endS T1 T' ∧ KHS S S' ∧ KHT T T' ∧ (BB S' T' ∨ ∃ a' nk v : Nat, RR S' T' u n a' ∧ NM S' T' u n nk ∧ 1 ≤ nk ∧ S' 13 0 = (v : Int) ∧ T' 84 1 = (v : Int) ∧ v ≤ 7 ∧ S' 13 2 = 1 ∧ T' 84 3 = T 84 3) := fun q hq x y => by
        obtain ⟨f1, f2, f3⟩ := sim_faultE ww hq
        refine ⟨up (up (up S4 12 1 q) 12 2 (S4 12 8)) 13 2 1, _, _, eC S2 S4 _ s1 w1 ?_, y _ f2, Or.inr ⟨f3.1, rfl⟩, kept.upF (KHS.flt kS4) (by decide), KHT.flt kT4, Or.inl f3⟩
        unfold hdC
        rw [bd1_e (x _ f1), hdC_end f3.2.1]
      by_cases t2 : tk u n b = 2
      · have tc : tkC u n b = 2 := by rcases tk_cases u n b with q | q | q | q | q <;> omega
        have c9 := cC.2.2.2.2 t2
        have f9 := cF.2.2.2.2 t2
        by_cases v8 : vl u n b ≤ 7
        · obtain ⟨v, hv⟩ : ∃ v : Nat, v = vl u n b := ⟨_, rfl⟩
          have c9' : S4 12 9 = (v : Int) := by rw [c9]; omega
          have f9' : T4 83 9 = (v : Int) := by rw [f9]; omega
          obtain ⟨S6, T6, g1, g2, g3, g4, g5⟩ := sim_adv (S := up S4 13 0 (v : Int)) (T := up T4 84 1 (v : Int)) (ww.of rfl rfl rfl rfl)
          have nm6 : NM S6 T6 u n 0 := by
            have m1 : NM (up S4 13 0 (v : Int)) (up T4 84 1 (v : Int)) u n 0 := ⟨⟨nm4.1.1, nm4.1.2.1, by omega⟩, fun k hk => by omega⟩
            exact m1.of (KS.adv g4) (KT.adv g5)
          obtain ⟨S7, S8, T7, T8, y1, y2, y3, y4, y5, y6, y7⟩ := headL 6 0 FU FU S6 T6 _ (by omega) (by unfold FU; omega) (by unfold FU; omega) g3 nm6 (Or.inl rfl)
          have kS8 : KHS S (up S8 13 2 1) := kept.upF (kept.trans (kept.trans (kept.upF kS4 (by decide)) (KHS.adv g4)) y5.to) (by decide)
          have kT8 : KHT T T8 := kept.trans (kept.trans (kept.upF kT4 (by decide)) (KHT.adv g5)) y6.to
          refine ⟨up S8 13 2 1, T7, T8, eC S2 S4 _ s1 w1 ?_, eF T7 ?_, y4, kS8, kT8, ?_⟩
          · unfold hdC
            have e : (gd (inI (S4 12 7)) <| if (S4 12 7) = 2 then (gd (inI (S4 12 9)) <| if (S4 12 9) ≤ 7 then (some (S4)) else (bd1 (mX5_refuse S4 2) fun S_43 => some (S_43))) else (bd1 (mX5_refuse S4 1) fun S_45 => some (S_45))) = some S4 := by
              rw [cC.2.2.2.1, tc, gd_t (by decide), if_pos rfl, c9', gd_t (by omega), if_pos (by omega)]
            rw [bd1_e e, z1, gd_t (by decide), if_pos rfl, c9', nx_e, bd1_e g1, bd1_s, bd1_e (show mX5_readHead_66 FU 0 S6 = some S7 from y1), bd1_e y2, nx_e]
          · rw [cF.2.2.2.1, t2, gd_t (by decide), if_pos rfl, f9', gd_t (by omega), if_pos (by omega), nx_e, bd1_e g2, bd1_e y3]
          · rcases y7 with y7 | ⟨a', nk, r7, n7, k7⟩
            · exact Or.inl y7
            · refine Or.inr ⟨a', nk, v, r7.of rfl rfl rfl rfl, ⟨n7.1, n7.2⟩, k7, ?_, ?_, by omega, rfl, ?_⟩
              · show S8 13 0 = _
                rw [y5 13 0 (by decide) (by decide), g4 13 0 (by decide) (by decide)]; rfl
              · rw [y6 84 1 (by decide) (by decide), g5 84 1 (by decide) (by decide)]; rfl
              · rw [y6 84 3 (by decide) (by decide), g5 84 3 (by decide) (by decide)]
                show T4 84 3 = _
                rw [w5 84 3 (by decide) (by decide), s5 84 3 (by decide) (by decide)]
        · refine flt 2 (by omega) (fun S5 s => ?_) (fun T1 s => eF T1 ?_)
          · rw [cC.2.2.2.1, tc, gd_t (by decide), if_pos rfl, c9, gd_t (by omega), if_neg (by omega), bd1_e s]
          · rw [cF.2.2.2.1, t2, gd_t (by decide), if_pos rfl, f9, gd_t (by omega), if_neg (by omega), bd2_e s]
      · have tc : tkC u n b ≠ 2 := by rcases tk_cases u n b with q | q | q | q | q <;> omega
        refine flt 1 (by omega) (fun S5 s => ?_) (fun T1 s => eF T1 ?_)
        · rw [cC.2.2.2.1, gd_t tI.2, if_neg tc, bd1_e s]
        · rw [cF.2.2.2.1, gd_t tI.1, if_neg t2, bd2_e s]
    · have nn := s3.num
      refine ⟨up (up (up S2 12 1 1) 12 2 (S2 12 8)) 13 2 1, _, _, eC S2 _ _ s1 w1 (hdC_bad w3.2.1 nn.1 nn.2), ?_, Or.inr ⟨w3.1, rfl⟩, kept.upF (KHS.flt (KHS.adv s4)) (by decide), KHT.flt (KHT.adv s5), Or.inl w3⟩
      unfold mX12_readsHead
      rw [bd1_e (show mX12_needsWord T 0 = some T2 from s2), s3.2.2.2, gd_t (by decide), if_pos rfl, bd1_e (show mX12_needsWord T2 1 = _ from w2), bd1_s, w3.1, gd_t (by decide), if_neg (by decide)]
  · have nn := h.num
    refine ⟨up (up (up S 12 1 1) 12 2 (S 12 8)) 13 2 1, _, _, eC _ _ _ s1 (bad_expectWord s3.2.1) (hdC_bad s3.2.1 nn.1 nn.2), ?_, Or.inr ⟨s3.1, rfl⟩, kept.upF (KHS.flt kept.rf) (by decide), KHT.flt kept.rf, Or.inl s3⟩
    unfold mX12_readsHead
    rw [bd1_e (show mX12_needsWord T 0 = _ from s2), s3.1, gd_t (by decide), if_neg (by decide), bd1_s, s3.1, gd_t (by decide), if_neg (by decide)]
