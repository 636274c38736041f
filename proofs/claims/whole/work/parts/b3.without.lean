/-! without a term -/
def offS (M : Int → Int) (e t : Nat) : Int → Int := fun k => if k = 6 + (e : Int) then (((M (6 + (e : Int))).toNat ||| 2 ^ t : Nat) : Int) else M k
theorem offS_at {M : Int → Int} {e t : Nat} : offS M e t (6 + (e : Int)) = (((M (6 + (e : Int))).toNat ||| 2 ^ t : Nat) : Int) := if_pos rfl
theorem offS_ne {M : Int → Int} {e t : Nat} {k : Int} (h : k ≠ 6 + (e : Int)) : offS M e t k = M k := if_neg h
theorem offS_same {M : Int → Int} {e t : Nat} (he : e < 6) : same6 M (offS M e t) := fun k hk => offS_ne (by omega)
theorem p1024 {t : Nat} (ht : t < 10) : 2 ^ t < 1024 := Nat.pow_lt_pow_right (m := t) (n := 10) (by omega) ht
theorem offS_wf {M : Int → Int} {e t : Nat} (w : WF M) (he : e < 6) (ht : t < 10) : WF (offS M e t) := by
  refine WF6 (offS_same he) w (fun x hx => ?_)
  by_cases c : x = e
  · subst c
    rw [offS_at]
    have := w.2.2.2.2.2 x hx
    have b : (M (6 + (x : Int))).toNat ||| 2 ^ t < 2 ^ 10 := Nat.or_lt_two_pow (by omega) (p1024 ht)
    omega
  · rw [offS_ne (by omega)]
    exact w.2.2.2.2.2 x hx
theorem offS_orr {M : Int → Int} {e t : Nat} (w : WF M) (he : e < 6) (ht : t < 10) : orr (M (6 + (e : Int))) (shl 1 (t : Int)) = offS M e t (6 + (e : Int)) := by
  have := w.2.2.2.2.2 e he
  have p := p1024 ht
  obtain ⟨v, hv⟩ : ∃ v : Nat, M (6 + (e : Int)) = (v : Int) := ⟨(M (6 + (e : Int))).toNat, by omega⟩
  rw [offS_at, hv, shl1 (by omega), orr_nat (by omega) (by omega)]
  rfl
theorem off_bit {M : Int → Int} {e t : Nat} (he : e < 6) : offM M e t = (M (6 + (e : Int))).toNat.testBit t := by
  unfold offM bt
  rw [decide_eq_true he, Bool.true_and]; rfl
theorem offS_eq {M : Int → Int} {e t : Nat} (w : WF M) (he : e < 6) (h : offM M e t = true) : offS M e t = M := by
  funext k
  by_cases c : k = 6 + (e : Int)
  · subst c
    rw [offS_at]
    have b := w.2.2.2.2.2 e he
    rw [off_bit he] at h
    have : (M (6 + (e : Int))).toNat ||| 2 ^ t = (M (6 + (e : Int))).toNat := by
      refine Nat.eq_of_testBit_eq fun i => ?_
      rw [Nat.testBit_or, Nat.testBit_two_pow]
      by_cases z : t = i
      · subst z; rw [h]; rfl
      · rw [decide_eq_false z, Bool.or_false]
    rw [this]; omega
  · exact offS_ne c
theorem xor_bit {v t : Nat} (h : v.testBit t = false) : v ^^^ 2 ^ t = v ||| 2 ^ t := by
  refine Nat.eq_of_testBit_eq fun i => ?_
  rw [Nat.testBit_xor, Nat.testBit_or, Nat.testBit_two_pow]
  by_cases z : t = i
  · subst z; rw [h, decide_eq_true rfl]; rfl
  · rw [decide_eq_false z]; cases v.testBit i <;> rfl
theorem xo_on {v t : Nat} (hv : v < 1024) (ht : t < 10) (h : v.testBit t = false) : xo (v : Int) (shl 1 (t : Int)) = ((v ||| 2 ^ t : Nat) : Int) := by
  have p := p1024 ht
  rw [shl1 (by omega), xo_nat (by omega) (by omega), xor_bit h]
theorem xo_back {v t : Nat} (hv : v < 1024) (ht : t < 10) (h : v.testBit t = false) : xo ((v ||| 2 ^ t : Nat) : Int) (shl 1 (t : Int)) = (v : Int) := by
  have p := p1024 ht
  have b : v ||| 2 ^ t < 2 ^ 10 := Nat.or_lt_two_pow hv p
  rw [shl1 (by omega), xo_nat (by omega) (by omega), ← xor_bit h, Nat.xor_assoc, Nat.xor_self, Nat.xor_zero]
def LG3 (S : St) : Prop := fgs (S 47 4) 60 ∧ ∀ e t : Nat, (e : Int) < S 84 0 → (t : Int) < S 84 (198 + (e : Int)) → (S 47 4).toNat.testBit (e * 10 + t) = true → ∀ x n : Nat, (x : Int) < S 84 0 → (n : Int) ≤ S 84 1 → S 59 ((((e * 10 + t) * 48 + x * 8 + n : Nat)) : Int) = ((kM (offS (S 84) e t) x n : Nat) : Int)
theorem w_without {S : St} (h : Cor S) (ce : CE (S 84)) (hk : nbK S) (hL : LG3 S) {e t x n : Nat} (he : (e : Int) < S 84 0) (ht : (t : Int) < S 84 (198 + (e : Int))) (hx : (x : Int) < S 84 0) (hn : (n : Int) ≤ S 84 1) : ∃ S' : St, mX4_thingsWithout S (e : Int) (t : Int) (x : Int) (n : Int) = some (((kM (offS (S 84) e t) x n : Nat) : Int), S') ∧ kM (offS (S 84) e t) x n ≤ 1000000000000 ∧ kept [49, 50, 51, 52, 53, 59] [(48, 1), (47, 4)] S S' ∧ nbK S' ∧ LG3 S' := by
  have w := h.wf
  have hM0 := w.1
  have hM1 := w.2.1
  have oe := (w.2.2.2.2.1 e he).1
  have t10 : t < 10 := by omega
  have e6 : e < 6 := by omega
  have gm := h.gm
  obtain ⟨E, TE, KE, rO, rT, rK, st, w', o, ti⟩ := h
  have oa := ti.1.2.2
  have wN := offS_wf w e6 t10
  have oN := Ord6 (offS_same (t := t) e6) w o
  have sN6 := offS_same (M := S 84) (t := t) e6
  have kl : ∀ x n : Nat, (x : Int) < S 84 0 → n ≤ 7 → kM (offS (S 84) e t) x n ≤ 1000000000000 := fun x n hx hn => kM_le wN oN (by rw [sN6 0 (by omega)]; exact hx) hn
  have io := e_isOff2 w gm (e := e) (t := t) (by omega) (by omega)
  have vb := w.2.2.2.2.2 e e6
  obtain ⟨v, hv⟩ : ∃ v : Nat, S 84 (6 + (e : Int)) = (v : Int) := ⟨(S 84 (6 + (e : Int))).toNat, by omega⟩
  have s10 : S 10 (e : Int) = (v : Int) := by rw [gm.2.2.2.2.1 e e6]; exact hv
  have e1 : (e : Int) * 10 + (t : Int) = ((e * 10 + t : Nat) : Int) := by omega
  have b1 : ((e * 10 + t : Nat) : Int) * 48 = (((e * 10 + t) * 48 : Nat) : Int) := by omega
  -- a census of the grammar without it
  have cen : ∀ S11 : St, GM S11 (offS (S 84) e t) → OA S11 (offS (S 84) e t) rO rT rK st → nbK S11 → ∃ S15 S17 : St, mX0_take_48 S11 (-1) = some S15 ∧ mX4_keep_47_59 S15 (((e * 10 + t) * 48 : Nat) : Int) = some S17 ∧ kept [49, 50, 51, 52, 53, 59] [(48, 1)] S11 S17 ∧ nbK S17 ∧ (∀ x i : Nat, (x : Int) < S 84 0 → (i : Int) ≤ S 84 1 → S17 59 ((((e * 10 + t) * 48 + x * 8 + i : Nat)) : Int) = ((kM (offS (S 84) e t) x i : Nat) : Int)) ∧ (∀ j : Int, j < (((e * 10 + t) * 48 : Nat) : Int) ∨ (((e * 10 + t) * 48 + 48 : Nat) : Int) ≤ j → S17 59 j = S11 59 j) := fun S11 g11 a11 k11 => by
    obtain ⟨S8, s1, s2, s3⟩ := take48 (m := -1) (Y := YP (offS (S 84) e t) (-1)) (R := RP (offS (S 84) e t) (-1)) wN oN (by decide) (by decide) (by rw [show decide ((-1 : Int) = -2) = false from rfl]; exact YP_sol wN oN (by decide)) g11 a11 k11
    have gm8 := s2.1.2.1
    obtain ⟨S10, r1, r2, r3, r4⟩ := e_keep59 (V := kM (offS (S 84) e t)) (m0 := (S 84 0).toNat) (m1 := (S 84 1).toNat) (base := (e * 10 + t) * 48) (S := S8) (by omega) (by omega) (by omega) (by rw [gm8.1.2.1, sN6 0 (by omega)]; omega) (by rw [gm8.1.1, sN6 1 (by omega)]; omega) (fun T e n hT he hn => e_th48 wN s2 hT (by rw [sN6 0 (by omega)]; omega) (by rw [sN6 1 (by omega)]; omega) rfl (kl _ _ (by omega) (by omega)))
    refine ⟨S8, S10, s1, r1, kept.trans (s3.mono (by simp) (by simp)) (r2.mono (by simp) (by simp)), s2.nbK.of (fun i x y => r2.cell i (by simp; omega) (by simp)), fun x i hx hi => r3 x i (by omega) (by omega), fun j hj => ?_⟩
    rw [r4 j hj, s3.cell 59 (by decide) (by decide)]
  have laid : ∃ S3 : St, (gd (inL (lan (lshr (S 47 4) ((e * 10 + t : Nat) : Int)) 1)) <| if (lan (lshr (S 47 4) ((e * 10 + t : Nat) : Int)) 1) = 0 then (bd1 (mX2_isOff_2 S (e : Int) (t : Int)) fun r_9 => bd1 (gd (inI r_9) <| if r_9 = 0 then (bd1 (mX2_flip_2 S (e : Int) (t : Int)) fun S_28 => some (S_28)) else (some (S))) fun S_10 => bd1 (mX0_take_48 S_10 (-1)) fun S_14 => bd1 (mX4_keep_47_59 S_14 (((e * 10 + t : Nat) : Int) * 48)) fun S_16 => bd1 (gd (inI r_9) <| if r_9 = 0 then (bd1 (mX2_flip_2 S_16 (e : Int) (t : Int)) fun S_24 => some (S_24)) else (some (S_16))) fun S_17 => nx (up S_17 47 4 (lor (S_17 47 4) (lsh 1 ((e * 10 + t : Nat) : Int)))) fun S_20 => some (S_20)) else (some (S))) = some S3 ∧ kept [49, 50, 51, 52, 53, 59] [(48, 1), (47, 4)] S S3 ∧ nbK S3 ∧ (fgs (S3 47 4) 60 ∧ (S3 47 4).toNat.testBit (e * 10 + t) = true) ∧ (∀ j : Nat, j ≠ e * 10 + t → (S3 47 4).toNat.testBit j = (S 47 4).toNat.testBit j) ∧ (∀ x i : Nat, (x : Int) < S 84 0 → (i : Int) ≤ S 84 1 → S3 59 ((((e * 10 + t) * 48 + x * 8 + i : Nat)) : Int) = ((kM (offS (S 84) e t) x i : Nat) : Int)) ∧ (∀ j : Int, j < (((e * 10 + t) * 48 : Nat) : Int) ∨ (((e * 10 + t) * 48 + 48 : Nat) : Int) ≤ j → S3 59 j = S 59 j) := by
    obtain ⟨m, hm, hm60⟩ := fgs_m hL.1
    have ib := jbit (m := m) (k := e * 10 + t) hm60 (by omega)
    have is := jset hm60 (k := e * 10 + t) (by omega)
    cases z : m.testBit (e * 10 + t) with
    | false =>
      rw [z, if_neg (show ¬ (false = true) by decide)] at ib
      cases ho : offM (S 84) e t with
      | true =>
        rw [ho, if_pos (show true = true from rfl)] at io
        have eqM := offS_eq w e6 ho
        obtain ⟨S15, S17, q1, q2, q3, q4, q5, q6⟩ := cen S (by rw [eqM]; exact gm) (by rw [eqM]; exact oa) hk
        have c47 : S17 47 4 = (m : Int) := by rw [q3.cell 47 (by decide) (by decide)]; exact hm
        refine ⟨up S17 47 4 ((m ||| 2 ^ (e * 10 + t) : Nat) : Int), ?_, kept.upF (q3.mono (by simp) (by simp)) (by decide), q4.of (fun i x y => up_n (by omega)), ⟨by rw [up_eq]; exact fgs_of is.2, by rw [up_eq, Int.toNat_natCast]; exact tb_on⟩, fun j hj => by rw [up_eq, Int.toNat_natCast, tb_ne hj, hm, Int.toNat_natCast], fun x i hx hi => by rw [up_n (show 59 ≠ 47 by decide)]; exact q5 x i hx hi, fun j hj => by rw [up_n (show 59 ≠ 47 by decide)]; exact q6 j hj⟩
        rw [hm, ib, gd_t (by decide), if_pos rfl, bd1_e io, gd_t (by decide), if_neg (by decide), bd1_s, bd1_e q1, b1, bd1_e q2, gd_t (by decide), if_neg (by decide), bd1_s, c47, is.1, nx_e]
      | false =>
        rw [ho, if_neg (by decide)] at io
        have tb0 : v.testBit t = false := by rw [off_bit e6, hv] at ho; exact ho
        have fl : mX2_flip_2 S (e : Int) (t : Int) = some (up S 10 (e : Int) ((v ||| 2 ^ t : Nat) : Int)) := by
          unfold mX2_flip_2
          rw [gd_t (by omega), s10, xo_on (by omega) t10 tb0, nx_e]
        have o10 : ∀ i, i ≠ 10 → (up S 10 (e : Int) ((v ||| 2 ^ t : Nat) : Int)) i = S i := fun i hi => up_n hi
        obtain ⟨S15, S17, q1, q2, q3, q4, q5, q6⟩ := cen (up S 10 (e : Int) ((v ||| 2 ^ t : Nat) : Int)) (GM6 sN6 ce gm (fun i a b => o10 i (by omega)) (fun y hy => by
            rw [up_if]
            by_cases c : y = e
            · subst c; rw [if_pos rfl, offS_at, hv]; rfl
            · rw [if_neg (by omega), offS_ne (by omega)]; exact gm.2.2.2.2.1 y hy) (fun y a b => by rw [up_nk (by omega)]; exact gm.2.2.2.2.2 y a b)) (by
            have := OA6 sN6 oa
            unfold OA at this ⊢
            rw [o10 2 (by decide), o10 11 (by decide)]; exact this) (hk.of (fun i a b => o10 i (by omega)))
        have c10 : S17 10 = (up S 10 (e : Int) ((v ||| 2 ^ t : Nat) : Int)) 10 := q3.cell 10 (by decide) (by decide)
        have fb : mX2_flip_2 S17 (e : Int) (t : Int) = some (up S17 10 (e : Int) (v : Int)) := by
          unfold mX2_flip_2
          rw [gd_t (by omega), c10, up_eq, xo_back (by omega) t10 tb0, nx_e]
        have r10 : (up S17 10 (e : Int) (v : Int)) 10 = S 10 := by
          funext k
          rw [up_if]
          by_cases c : k = (e : Int)
          · rw [if_pos c, c, s10]
          · rw [if_neg c, c10, up_nk c]
        have r17 : ∀ i, i ≠ 10 → (up S17 10 (e : Int) (v : Int)) i = S17 i := fun i hi => up_n hi
        have K : kept [49, 50, 51, 52, 53, 59] [(48, 1), (47, 4)] S (up S17 10 (e : Int) (v : Int)) := fun i k a b => by
          by_cases c : i = 10
          · subst c; rw [r10]
          · rw [r17 i c, q3 i k a (fun y => b (List.mem_cons.mpr (Or.inl (List.mem_singleton.mp y)))), o10 i c]
        have c47 : (up S17 10 (e : Int) (v : Int)) 47 4 = (m : Int) := by rw [r17 47 (by decide), q3.cell 47 (by decide) (by decide)]; exact hm
        refine ⟨up (up S17 10 (e : Int) (v : Int)) 47 4 ((m ||| 2 ^ (e * 10 + t) : Nat) : Int), ?_, kept.upF K (by decide), q4.of (fun i x y => by rw [up_n (by omega), r17 i (by omega)]), ⟨by rw [up_eq]; exact fgs_of is.2, by rw [up_eq, Int.toNat_natCast]; exact tb_on⟩, fun j hj => by rw [up_eq, Int.toNat_natCast, tb_ne hj, hm, Int.toNat_natCast], fun x i hx hi => by rw [up_n (show 59 ≠ 47 by decide), r17 59 (by decide)]; exact q5 x i hx hi, fun j hj => by rw [up_n (show 59 ≠ 47 by decide), r17 59 (by decide), q6 j hj]; rfl⟩
        rw [hm, ib, gd_t (by decide), if_pos rfl, bd1_e io, gd_t (by decide), if_pos rfl, bd1_e fl, bd1_s, bd1_e q1, b1, bd1_e q2, gd_t (by decide), if_pos rfl, bd1_e fb, bd1_s, c47, is.1, nx_e]
    | true =>
      have zz : (S 47 4).toNat.testBit (e * 10 + t) = true := by rw [hm, Int.toNat_natCast]; exact z
      rw [z, if_pos (show true = true from rfl)] at ib
      refine ⟨S, ?_, kept.rf, hk, ⟨hL.1, zz⟩, fun _ _ => rfl, hL.2 e t he ht zz, fun _ _ => rfl⟩
      rw [hm, ib, gd_t (by decide), if_neg (by decide)]
  obtain ⟨S3, l1, l2, l3, l4, l5, l6, l7⟩ := laid
  have e84 : S3 84 = S 84 := l2.cell 84 (by decide) (by decide)
  refine ⟨S3, ?_, kl x n hx (by omega), l2, l3, l4.1, fun e' t' he' ht' q x n hx hn => ?_⟩
  · unfold mX4_thingsWithout
    rw [nx_e, e1, bd1_e l1, show ((e * 10 + t : Nat) : Int) * 48 + (x : Int) * 8 + (n : Int) = (((e * 10 + t) * 48 + x * 8 + n : Nat) : Int) by omega, gd_t (by omega), l6 x n hx hn]
  · rw [e84] at he' ht' hx hn
    have oe' := (w.2.2.2.2.1 e' he').1
    by_cases c : e' * 10 + t' = e * 10 + t
    · have : e' = e ∧ t' = t := by omega
      obtain ⟨rfl, rfl⟩ := this
      rw [e84]
      exact l6 x n hx hn
    · rw [l5 _ c] at q
      rw [e84, l7 _ (by omega)]
      exact hL.2 e' t' he' ht' q x n hx hn
theorem f_without {T : St} {M : Int → Int} {E TE KE : Nat → Prop} {rO rT rK : Nat → Nat} (w : WF M) (o : Ord M E TE KE rO rT rK) (h84 : T 84 = M) {e t x n : Nat} (he : (e : Int) < M 0) (ht : (t : Int) < M (198 + (e : Int))) (hx : (x : Int) < M 0) (hn : n ≤ 7) : ∃ T' : St, mX12_manyWithout T (e : Int) (t : Int) (x : Int) (n : Int) = some (((kM (offS M e t) x n : Nat) : Int), T') ∧ kept [90, 91, 92] [] T T' := by
  have hM0 := w.1
  have oe := (w.2.2.2.2.1 e he).1
  have wN := offS_wf (e := e) (t := t) w (by omega) (by omega)
  have oN := Ord6 (offS_same (e := e) (t := t) (by omega)) w o
  have m84 : (up T 84 (6 + (e : Int)) (orr (M (6 + (e : Int))) (shl 1 (t : Int)))) 84 = offS M e t := by
    funext k
    rw [up_if, offS_orr w (by omega) (by omega), h84]
    by_cases c : k = 6 + (e : Int)
    · rw [if_pos c, c]
    · rw [if_neg c, offS_ne c]
  obtain ⟨S5, s1, s2, s3⟩ := counts_at (S := up T 84 (6 + (e : Int)) (orr (M (6 + (e : Int))) (shl 1 (t : Int)))) (l := -1) wN oN (by decide) m84
  have r84 : (up S5 84 (6 + (e : Int)) (M (6 + (e : Int)))) 84 = T 84 := by
    funext k
    rw [up_if, s2.1, h84]
    by_cases c : k = 6 + (e : Int)
    · rw [if_pos c, c]
    · rw [if_neg c, offS_ne c]
  have b1 : pl (24 + x) n 0 < 1920 := pl_lt2 (show 24 + x < 30 by omega) hn (by omega) (by decide)
  have e1 : mX12_place (24 + (x : Int)) (n : Int) 0 = some ((pl (24 + x) n 0 : Nat) : Int) := by
    have := e_pl (a := 24 + x) (n := n) (k := 0)
    rw [show ((24 + x : Nat) : Int) = 24 + (x : Int) by omega] at this
    exact this
  have v := s2.2.2.2 x n 0 (by rw [offS_ne (by omega)]; exact hx) hn (by omega)
  refine ⟨up S5 84 (6 + (e : Int)) (M (6 + (e : Int))), ?_, fun i k a b => ?_⟩
  · unfold mX12_manyWithout mX12_kindMany
    rw [gd_t (by omega), nx_e, h84, nx_e, bd1_e s1, nx_e, bd1_e e1, gd_t (by omega), bd1_s, up_n (show 90 ≠ 84 by decide), v]
    rfl
  · by_cases c : i = 84
    · subst c; rw [r84]
    · rw [up_n c, s3 i k a b, up_n c]
theorem s_without {S : St} (h : Cor S) (ce : CE (S 84)) (hk : nbK S) (hL : LG3 S) {a b c d : Int} (ha : inI a) (hb : inI b) (hc : inI c) (hd : inI d) : ∃ (r : Int) (S1 S2 : St), mX11_without S a b c d = some (r, S1) ∧ mX12_without S1 a b c d = some (r, S2) ∧ inL r ∧ kept [49, 50, 51, 52, 53, 59] [(48, 1), (47, 4)] S S1 ∧ kept [90, 91, 92] [] S1 S2 ∧ nbK S1 ∧ LG3 S1 := by
  have w := h.wf
  have hM1 := w.2.1
  have tm := e_termed h ha hb
  have sz := e_sized h hc hd
  have it := e_isTerm h rfl ha hb
  have ik := e_ik h rfl hc
  have is := e_isSize h rfl hd
  have unk : mX11_without S a b c d = some (-2, S) → mX12_without S a b c d = some (-2, S) → ∃ (r : Int) (S1 S2 : St), mX11_without S a b c d = some (r, S1) ∧ mX12_without S1 a b c d = some (r, S2) ∧ inL r ∧ kept [49, 50, 51, 52, 53, 59] [(48, 1), (47, 4)] S S1 ∧ kept [90, 91, 92] [] S1 S2 ∧ nbK S1 ∧ LG3 S1 := fun x y => ⟨-2, S, S, x, y, by omega, kept.rf, kept.rf, hk, hL⟩
  by_cases x : isT (S 84) a b
  · rw [if_pos x] at tm it
    by_cases y : isK (S 84) c ∧ isN (S 84) d
    · rw [if_pos y] at sz
      clear unk ik is it
      obtain ⟨e, rfl⟩ : ∃ e : Nat, a = (e : Int) := ⟨a.toNat, by omega⟩
      obtain ⟨t, rfl⟩ : ∃ e : Nat, b = (e : Int) := ⟨b.toNat, by omega⟩
      obtain ⟨z, rfl⟩ : ∃ e : Nat, c = (e : Int) := ⟨c.toNat, by omega⟩
      obtain ⟨n, rfl⟩ : ∃ e : Nat, d = (e : Int) := ⟨d.toNat, by omega⟩
      obtain ⟨S1, l1, l0, l2, l3, l4⟩ := w_without h ce hk hL (e := e) (t := t) (x := z) (n := n) x.1.2 x.2.2 y.1.2 y.2.2
      have e84 : S1 84 = S 84 := l2.cell 84 (by decide) (by decide)
      have h1 : Cor S1 := h.of e84 (fun i _ _ => l2.cell i (by simp; omega) (by simp; omega)) (fun i _ _ => l2.cell i (by simp; omega) (by simp; omega))
      obtain ⟨E, TE, KE, rO, rT, rK, st, w', o, ti⟩ := h
      obtain ⟨S2, f1, f2⟩ := f_without (T := S1) w o e84 (e := e) (t := t) (x := z) (n := n) x.1.2 x.2.2 y.1.2 (by omega)
      have it := e_isTerm h1 rfl (a := (e : Int)) (b := (t : Int)) (by omega) (by omega)
      have ik := e_ik h1 rfl (a := (z : Int)) (by omega)
      have is := e_isSize h1 rfl (a := (n : Int)) (by omega)
      rw [e84, if_pos x] at it
      rw [e84, if_pos y.1] at ik
      rw [e84, if_pos y.2] at is
      refine ⟨((kM (offS (S 84) e t) z n : Nat) : Int), S1, S2, ?_, ?_, by omega, l2, f2, l3, l4⟩
      · unfold mX11_without
        rw [bd1_e tm, gd_t (by decide), if_neg (by decide), bd1_e sz, gd_t (by decide), if_neg (by decide), bd2_e l1]
      · unfold mX12_without
        rw [bd1_e it, gd_t (by decide), if_neg (by decide), bd1_e ik, gd_t (by decide), if_neg (by decide), bd1_e is, gd_t (by decide), if_neg (by decide), bd2_e f1]
    · rw [if_neg y] at sz
      refine unk ?_ ?_
      · unfold mX11_without
        rw [bd1_e tm, gd_t (by decide), if_neg (by decide), bd1_e sz, gd_t (by decide), if_pos rfl]
      · unfold mX12_without
        by_cases z : 0 ≤ c ∧ c < S 84 0
        · rw [if_pos z] at ik
          rw [if_neg (fun w => y ⟨z, w⟩)] at is
          rw [bd1_e it, gd_t (by decide), if_neg (by decide), bd1_e ik, gd_t (by decide), if_neg (by decide), bd1_e is, gd_t (by decide), if_pos rfl]
        · rw [if_neg z] at ik
          rw [bd1_e it, gd_t (by decide), if_neg (by decide), bd1_e ik, gd_t (by decide), if_pos rfl]
  · rw [if_neg x] at tm it
    refine unk ?_ ?_
    · unfold mX11_without
      rw [bd1_e tm, gd_t (by decide), if_pos rfl]
    · unfold mX12_without
      rw [bd1_e it, gd_t (by decide), if_pos rfl]
