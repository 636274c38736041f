/-! the class: a roll begun, a thing noted -/
def RSt (w : Nat) (S T : St) : Prop := (∀ q : Int, q ≠ (w : Int) → T 75 q = S 75 q ∧ T 76 q = S 76 q) ∧ ∀ q : Int, q < ((w * 26 : Nat) : Int) ∨ ((w * 26 + 26 : Nat) : Int) ≤ q → T 77 q = S 77 q ∧ T 78 q = S 78 q
theorem RSt.rf {w : Nat} {S : St} : RSt w S S := ⟨fun _ _ => ⟨rfl, rfl⟩, fun _ _ => ⟨rfl, rfl⟩⟩
theorem RSt.tr {w : Nat} {S T U : St} (h : RSt w S T) (k : RSt w T U) : RSt w S U := ⟨fun q a => ⟨((k.1 q a).1).trans (h.1 q a).1, ((k.1 q a).2).trans (h.1 q a).2⟩, fun q a => ⟨((k.2 q a).1).trans (h.2 q a).1, ((k.2 q a).2).trans (h.2 q a).2⟩⟩
theorem c_begin {M : Int → Int} {S : St} {e n : Nat} (he : e < 6) (hn : n < 8) (hf : fgs (S 73 1) 60) : ∃ T, mX7_begin S ((e * 8 + n : Nat) : Int) = some T ∧ RLv M T e n 0 ∧ (fgs (T 73 1) 60 ∧ (T 73 1).toNat.testBit (e * 8 + n) = true ∧ ∀ j : Nat, j ≠ e * 8 + n → (T 73 1).toNat.testBit j = (S 73 1).toNat.testBit j) ∧ RSt (e * 8 + n) S T ∧ ∀ i, i < 73 ∨ 79 < i → T i = S i := by
  obtain ⟨w, hw⟩ : ∃ w, w = e * 8 + n := ⟨_, rfl⟩
  have w48 : w < 48 := by omega
  rw [← hw]
  obtain ⟨m, hm, hm60⟩ := fgs_m hf
  have is := jset hm60 (k := w) (by omega)
  obtain ⟨P, hP⟩ : ∃ P, P = up (up (up S 73 1 ((m ||| 2 ^ w : Nat) : Int)) 73 6 (-1)) 73 7 (-1) := ⟨_, rfl⟩
  have p1 : P 73 1 = ((m ||| 2 ^ w : Nat) : Int) := by rw [hP]; rfl
  obtain ⟨Q, q1, q2, q3, -⟩ := e_fil79 (z := -1) 26 0 FU P (by omega) (by unfold FU; omega)
  obtain ⟨T, t1, t2, t3, t4⟩ := e_fil78 (z := 0) (hi := w * 26 + 26) (by omega) 26 (w * 26) FU Q (by omega) (by unfold FU; omega)
  have cP : ∀ i, i ≠ 73 → P i = S i := fun i a => by rw [hP, up_n a, up_n a, up_n a]
  have cQ : ∀ i, i ≠ 79 → Q i = P i := fun i a => q2.cell i (by simp; omega) (by simp)
  have cT : ∀ i, i ≠ 78 → T i = Q i := fun i a => t2.cell i (by simp; omega) (by simp)
  have T73 : T 73 = P 73 := (cT 73 (by decide)).trans (cQ 73 (by decide))
  refine ⟨T, ?_, ⟨⟨?_, fun h => by omega⟩, ⟨?_, fun h => by omega⟩, fun a a26 => ⟨?_, fun h => by omega, ?_⟩⟩, ⟨?_, ?_, fun j hj => ?_⟩, ⟨fun q hq => ⟨?_, ?_⟩, fun q hq => ⟨?_, ?_⟩⟩, fun i hi => ?_⟩
  · unfold mX7_begin
    rw [hm, is.1, nx_e, nx_e, nx_e, ← hP]
    rw [bd1_e (show mJ7_fill_53178_79 P (-1) = some Q by unfold mJ7_fill_53178_79; rw [bd1_e (show mJ7_fill_53178_79_5 (-1) FU 0 P = some Q from q1)])]
    have rc : mJ7_rangeCheck_23922 Q 1248 (((w * 26 : Nat)) : Int) (((w * 26 + 26 : Nat)) : Int) = some Q := by
      unfold mJ7_rangeCheck_23922
      rw [gd_t (by omega), if_pos (by omega), if_pos (by omega), gd_t (by decide), if_pos (by omega)]
    rw [show (w : Int) * 26 = ((w * 26 : Nat) : Int) by omega, show ((w * 26 : Nat) : Int) + 26 = ((w * 26 + 26 : Nat) : Int) by omega]
    rw [bd1_e (show mJ7_fill_fda19_78 Q ((w * 26 : Nat) : Int) ((w * 26 + 26 : Nat) : Int) 0 = some T by unfold mJ7_fill_fda19_78; rw [bd1_e rc, bd1_e t1])]
  · rw [T73, hP]; rfl
  · rw [T73, hP]; rfl
  · rw [cT 79 (by decide), q3 a (Nat.zero_le _) a26]; rfl
  · rw [← hw, t3 (w * 26 + a) (by omega) (by omega)]; rfl
  · rw [T73, p1]; exact fgs_of is.2
  · rw [T73, p1, Int.toNat_natCast]; exact tb_on
  · rw [T73, p1, Int.toNat_natCast, tb_ne hj, hm, Int.toNat_natCast]
  · rw [cT 75 (by decide), cQ 75 (by decide), cP 75 (by decide)]
  · rw [cT 76 (by decide), cQ 76 (by decide), cP 76 (by decide)]
  · rw [cT 77 (by decide), cQ 77 (by decide), cP 77 (by decide)]
  · rw [t4 q hq, cQ 78 (by decide), cP 78 (by decide)]
  · rw [cT i (by omega), cQ i (by omega), cP i (by omega)]
theorem c_note {M : Int → Int} {S : St} {e n v : Nat} (he : e < 6) (hn : n < 8) (hv : v ≤ 199) (h : RLv M S e n v) (hS : SpT M S e n v) (hB : ∀ u, u ≤ v → tD M e n u ≤ 1000000 ∧ tR M e n u ≤ 1000000 ∧ (tX M e n u).length ≤ 1000000) : ∃ T, mX7_note S ((e * 8 + n : Nat) : Int) (v : Int) = some T ∧ RLv M T e n (v + 1) ∧ T 73 1 = S 73 1 ∧ RSt (e * 8 + n) S T ∧ ∀ i, i < 73 ∨ 79 < i → T i = S i := by
  obtain ⟨w, hw⟩ : ∃ w, w = e * 8 + n := ⟨_, rfl⟩
  have w48 : w < 48 := by omega
  obtain ⟨⟨h1, h2⟩, ⟨h3, h4⟩, h5⟩ := h
  obtain ⟨s1, ⟨s2, s3, s4⟩, s5⟩ := hS
  rw [← hw] at h2 h4 h5 ⊢
  have bD := mst_1 (g := tD M e n) (B := 1000000) v (fun u hu => (hB u (by omega)).1)
  have bR := mst_1 (g := tR M e n) (B := 1000000) v (fun u hu => (hB u (by omega)).2.1)
  have lD := (hB v (Nat.le_refl _)).1
  have lR := (hB v (Nat.le_refl _)).2.1
  have v0 : ∀ (g : Nat → Nat), ((g v : Nat) : Int) ≤ (mst g v).1 → 1 ≤ v := fun g y => by
    rcases Nat.eq_zero_or_pos v with z | z
    · subst z
      have : (mst g 0).1 = -1 := rfl
      omega
    · exact z
  obtain ⟨P, hP⟩ : ∃ P, P = if ((tD M e n v : Nat) : Int) ≤ (mst (tD M e n) v).1 then S else up (up S 73 6 ((tD M e n v : Nat) : Int)) 75 (w : Int) (v : Int) := ⟨_, rfl⟩
  have cP : ∀ i, i ≠ 73 → i ≠ 75 → P i = S i := fun i a b => by
    rw [hP]; split
    · rfl
    · rw [up_n b, up_n a]
  have P7 : P 73 7 = S 73 7 := by
    rw [hP]; split
    · rfl
    · rw [up_n (by decide), up_nk (by decide)]
  have P1 : P 73 1 = S 73 1 := by
    rw [hP]; split
    · rfl
    · rw [up_n (by decide), up_nk (by decide)]
  have P6 : P 73 6 = (mst (tD M e n) (v + 1)).1 := by
    rw [hP, mst_s]
    by_cases z : ((tD M e n v : Nat) : Int) ≤ (mst (tD M e n) v).1
    · rw [if_pos z, if_pos z]; exact h1
    · rw [if_neg z, if_neg z, up_n (by decide), up_eq]
  have P75 : P 75 (w : Int) = (((mst (tD M e n) (v + 1)).2 : Nat) : Int) := by
    rw [hP, mst_s]
    by_cases z : ((tD M e n v : Nat) : Int) ≤ (mst (tD M e n) v).1
    · rw [if_pos z, if_pos z]; exact h2 (v0 _ z)
    · rw [if_neg z, if_neg z, up_eq]
  have P75' : ∀ q : Int, q ≠ (w : Int) → P 75 q = S 75 q := fun q a => by
    rw [hP]; split
    · rfl
    · rw [up_nk a, up_n (by decide)]
  obtain ⟨Q, hQ⟩ : ∃ Q, Q = if ((tR M e n v : Nat) : Int) ≤ (mst (tR M e n) v).1 then P else up (up P 73 7 ((tR M e n v : Nat) : Int)) 76 (w : Int) (v : Int) := ⟨_, rfl⟩
  have cQ : ∀ i, i ≠ 73 → i ≠ 76 → Q i = P i := fun i a b => by
    rw [hQ]; split
    · rfl
    · rw [up_n b, up_n a]
  have Q1 : Q 73 1 = P 73 1 := by
    rw [hQ]; split
    · rfl
    · rw [up_n (by decide), up_nk (by decide)]
  have Q6 : Q 73 6 = P 73 6 := by
    rw [hQ]; split
    · rfl
    · rw [up_n (by decide), up_nk (by decide)]
  have Q7 : Q 73 7 = (mst (tR M e n) (v + 1)).1 := by
    rw [hQ, mst_s]
    by_cases z : ((tR M e n v : Nat) : Int) ≤ (mst (tR M e n) v).1
    · rw [if_pos z, if_pos z, P7]; exact h3
    · rw [if_neg z, if_neg z, up_n (by decide), up_eq]
  have Q76 : Q 76 (w : Int) = (((mst (tR M e n) (v + 1)).2 : Nat) : Int) := by
    rw [hQ, mst_s]
    by_cases z : ((tR M e n v : Nat) : Int) ≤ (mst (tR M e n) v).1
    · rw [if_pos z, if_pos z, cP 76 (by decide) (by decide)]; exact h4 (v0 _ z)
    · rw [if_neg z, if_neg z, up_eq]
  have Q76' : ∀ q : Int, q ≠ (w : Int) → Q 76 q = S 76 q := fun q a => by
    rw [hQ]; split
    · rw [cP 76 (by decide) (by decide)]
    · rw [up_nk a, up_n (by decide), cP 76 (by decide) (by decide)]
  have cPQ : ∀ i, i ≠ 73 → i ≠ 75 → i ≠ 76 → Q i = S i := fun i a b c => (cQ i a c).trans (cP i a b)
  obtain ⟨T, t1, t2, t3, t4⟩ := e_cA2 (S := Q) (b := ((w * 26 : Nat) : Int)) (r := (v : Int)) (w := w) (v := v) (G := fun a u => cnI (97 + (a : Int)) (tX M e n u)) (c := fun _ => 0) w48 rfl rfl (fun a u _ hu => Nat.le_trans (cnI_le _) (hB u hu).2.2) (by omega) (fun a a26 => by rw [cPQ 65 (by decide) (by decide) (by decide)]; exact s5 a a26) 26 0 FU Q (by omega) (by unfold FU; omega) (fun a a26 => by rw [cPQ 65 (by decide) (by decide) (by decide)]; exact s5 a a26) (fun a ha => by omega) (fun a _ a26 => by
    rw [cPQ 79 (by decide) (by decide) (by decide), cPQ 77 (by decide) (by decide) (by decide), cPQ 78 (by decide) (by decide) (by decide)]
    exact h5 a a26)
  refine ⟨T, ?_, ⟨⟨?_, fun _ => ?_⟩, ⟨?_, fun _ => ?_⟩, fun a a26 => ⟨(t2 a a26).1, fun _ => ?_, ?_⟩⟩, ?_, ⟨fun q hq => ⟨?_, ?_⟩, fun q hq => ⟨?_, ?_⟩⟩, fun i hi => ?_⟩
  · unfold mX7_note
    have g1 : (gd ((inI (S 60 5)) ∧ (inI (S 73 6))) <| if (S 60 5) ≤ (S 73 6) then (some (S)) else (nx (up S 73 6 (S 60 5)) fun S_16 => gd (0 ≤ (w : Int) ∧ (w : Int) < 48) <| nx (up S_16 75 (w : Int) (v : Int)) fun S_18 => some (S_18))) = some P := by
      rw [s2, h1, gd_t ⟨by omega, by omega⟩, hP]
      by_cases z : ((tD M e n v : Nat) : Int) ≤ (mst (tD M e n) v).1
      · rw [if_pos z, if_pos z]
      · rw [if_neg z, if_neg z, nx_e, gd_t (by omega), nx_e]
    have P60 : P 60 = S 60 := cP 60 (by decide) (by decide)
    have g2 : (gd ((inI (P 60 6)) ∧ (inI (P 73 7))) <| if (P 60 6) ≤ (P 73 7) then (some (P)) else (nx (up P 73 7 (P 60 6)) fun S_11 => gd (0 ≤ (w : Int) ∧ (w : Int) < 48) <| nx (up S_11 76 (w : Int) (v : Int)) fun S_13 => some (S_13))) = some Q := by
      rw [P60, P7, s3, h3, gd_t ⟨by omega, by omega⟩, hQ]
      by_cases z : ((tR M e n v : Nat) : Int) ≤ (mst (tR M e n) v).1
      · rw [if_pos z, if_pos z]
      · rw [if_neg z, if_neg z, nx_e, gd_t (by omega), nx_e]
    rw [bd1_e g1, bd1_e g2, show (w : Int) * 26 = ((w * 26 : Nat) : Int) by omega]
    rw [bd1_e (show mX7_countAtoms Q ((w * 26 : Nat) : Int) (v : Int) = some T by unfold mX7_countAtoms; rw [bd1_e (show mX7_countAtoms_2 ((w * 26 : Nat) : Int) (v : Int) FU 0 Q = some T from t1)])]
  · rw [t3 73 (by decide) (by decide) (by decide), Q6, P6]
  · rw [← hw, t3 75 (by decide) (by decide) (by decide), cQ 75 (by decide) (by decide), P75]
  · rw [t3 73 (by decide) (by decide) (by decide), Q7]
  · rw [← hw, t3 76 (by decide) (by decide) (by decide), Q76]
  · rw [← hw]; exact (t2 a a26).2.1
  · rw [← hw]; exact (t2 a a26).2.2
  · rw [t3 73 (by decide) (by decide) (by decide), Q1, P1]
  · rw [t3 75 (by decide) (by decide) (by decide), cQ 75 (by decide) (by decide), P75' q hq]
  · rw [t3 76 (by decide) (by decide) (by decide), Q76' q hq]
  · rw [(t4 q hq).1, cPQ 77 (by decide) (by decide) (by decide)]
  · rw [(t4 q hq).2, cPQ 78 (by decide) (by decide) (by decide)]
  · rw [t3 i (by omega) (by omega) (by omega), cPQ i (by omega) (by omega) (by omega)]
