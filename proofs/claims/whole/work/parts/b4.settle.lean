/-! what the class does anew when its grammar has changed -/
def NBs (S : St) : Prop := (nb S 34 24 B30 ∧ nb S 35 24 B30 ∧ nb S 36 24 B30 ∧ nb S 37 6 B30 ∧ nb S 38 6 B30 ∧ nb S 39 6 B30) ∧ (nb S 41 1536 HH ∧ nb S 42 1536 HH ∧ nb S 43 384 HH ∧ nb S 44 12288 HH ∧ nb S 45 8 HH ∧ rz (tb S 44) ∧ nbG 40 S)
def CorM (S : St) (M : Int → Int) : Prop := ∃ (E TE KE : Nat → Prop) (rO rT rK : Nat → Nat) (st : Nat), WF M ∧ Ord M E TE KE rO rT rK ∧ TI40 (-1) M E TE rO rT rK st (YP M (-1)) (RP M (-1)) ((M 1).toNat + 1) 0 S
theorem w_settle {S : St} {M : Int → Int} {E TE KE : Nat → Prop} {rO rT rK : Nat → Nat} {st : Nat} (w : WF M) (o : Ord M E TE KE rO rT rK) (gm : GM S M) (oa : OA S M rO rT rK st) (nbs : NBs S) : ∃ S' : St, mX11_settle S = some S' ∧ kept [34, 35, 36, 37, 38, 39, 41, 42, 43, 44, 45, 46] [(0, 16), (80, 1), (33, 1), (33, 2), (40, 1), (47, 2), (47, 3), (47, 4), (73, 1)] S S' ∧ (S' 0 16 = S 0 16 + 1 ∧ S' 80 1 = 0 ∧ S' 47 2 = 0) ∧ stuOK33 M S' ∧ CorM S' M ∧ S' 47 3 = 0 ∧ S' 47 4 = 0 ∧ S' 73 1 = 0 := by
  obtain ⟨⟨n1, n2, n3, n4, n5, n6⟩, ⟨m1, m2, m3, m4, m5, m6, m7⟩⟩ := nbs
  obtain ⟨S3, hS3⟩ : ∃ S3 : St, S3 = up (up S 0 16 (S 0 16 + 1)) 80 1 0 := ⟨_, rfl⟩
  have o3 : ∀ i, i ≠ 0 → i ≠ 80 → S3 i = S i := fun i a b => by rw [hS3, up_n b, up_n a]
  have k3 : kept [34, 35, 36, 37, 38, 39, 41, 42, 43, 44, 45, 46] [(0, 16), (80, 1), (33, 1), (33, 2), (40, 1), (47, 2), (47, 3), (47, 4), (73, 1)] S S3 := by rw [hS3]; exact (kept.rf.upF (by decide)).upF (by decide)
  have gm3 : GM S3 M := gm.of (fun i a b => o3 i (by omega) (by omega))
  have oa3 : OA S3 M rO rT rK st := by
    unfold OA at oa ⊢
    rw [o3 2 (by decide) (by decide), o3 11 (by decide) (by decide)]; exact oa
  obtain ⟨S5, a1, a2, a3⟩ := w_study33 w gm3 (n1.eq (o3 34 (by decide) (by decide))) (n2.eq (o3 35 (by decide) (by decide))) (n3.eq (o3 36 (by decide) (by decide))) (n4.eq (o3 37 (by decide) (by decide))) (n5.eq (o3 38 (by decide) (by decide))) (n6.eq (o3 39 (by decide) (by decide)))
  have o5 : ∀ i, i ≤ 11 ∨ 40 ≤ i → S5 i = S3 i := fun i a => a3.cell i (by simp; omega) (by simp; omega)
  have gm5 : GM S5 M := gm3.of (fun i a b => o5 i (by omega))
  have oa5 : OA S5 M rO rT rK st := by
    unfold OA at oa3 ⊢
    rw [o5 2 (by omega), o5 11 (by omega)]; exact oa3
  have e5 : ∀ i, 40 ≤ i → i ≠ 80 → S5 i = S i := fun i a b => (o5 i (by omega)).trans (o3 i (by omega) b)
  obtain ⟨S7, b1, b2⟩ := w_take40 (m := -1) (Y := YP M (-1)) (R := RP M (-1)) w o (by decide) (by decide) (by rw [show decide ((-1 : Int) = -2) = false from rfl]; exact YP_sol w o (by decide)) gm5 oa5 (m1.eq (e5 41 (by decide) (by decide))) (m2.eq (e5 42 (by decide) (by decide))) (m3.eq (e5 43 (by decide) (by decide))) (m4.eq (e5 44 (by decide) (by decide))) (m5.eq (e5 45 (by decide) (by decide))) (by unfold tb at m6 ⊢; rw [e5 44 (by decide) (by decide)]; exact m6) (fun q => (m7 q).eq (e5 46 (by decide) (by decide)))
  have b3 : kept [41, 42, 43, 44, 45, 46] [(40, 1)] S5 S7 := fr_mX0_take_40 S5 (-1) S7 b1
  have k7 : kept [34, 35, 36, 37, 38, 39, 41, 42, 43, 44, 45, 46] [(0, 16), (80, 1), (33, 1), (33, 2), (40, 1), (47, 2), (47, 3), (47, 4), (73, 1)] S S7 := kept.trans (kept.trans k3 (kept.mono a3 (by decide) (by decide))) (kept.mono b3 (by decide) (by decide))
  obtain ⟨S11, hS11⟩ : ∃ S11 : St, S11 = up (up (up (up S7 47 2 0) 47 3 0) 47 4 0) 73 1 0 := ⟨_, rfl⟩
  have o11 : ∀ i, i ≠ 47 → i ≠ 73 → S11 i = S7 i := fun i a b => by rw [hS11, up_n b, up_n a, up_n a, up_n a]
  refine ⟨S11, ?_, ?_, ⟨?_, ?_, ?_⟩, ?_, ⟨E, TE, KE, rO, rT, rK, st, w, o, ?_⟩, ?_, ?_, ?_⟩
  · have st1 : mX1_stop (up S 0 16 (S 0 16 + 1)) = some S3 := by
      unfold mX1_stop
      rw [nx_e, ← hS3]
    have f4 : mX4_forget S7 = some (up (up (up S7 47 2 0) 47 3 0) 47 4 0) := by
      unfold mX4_forget
      rw [nx_e, nx_e, nx_e]
    have f7 : mX7_forget (up (up (up S7 47 2 0) 47 3 0) 47 4 0) = some S11 := by
      unfold mX7_forget
      rw [nx_e, ← hS11]
    unfold mX11_settle
    rw [nx_e, bd1_e st1, bd1_e a1, bd1_e b1, bd1_e f4, bd1_e f7]
  · rw [hS11]
    exact (((k7.upF (by decide)).upF (by decide)).upF (by decide)).upF (by decide)
  · rw [o11 0 (by decide) (by decide), b3.cell 0 (by decide) (by decide), o5 0 (by omega), hS3]; rfl
  · rw [o11 80 (by decide) (by decide), b3.cell 80 (by decide) (by decide), o5 80 (by omega), hS3]; rfl
  · rw [hS11]; rfl
  · have q : ∀ i, 33 ≤ i → i ≤ 39 → S11 i = S5 i := fun i a b => (o11 i (by omega) (by omega)).trans (b3.cell i (by simp; omega) (by simp; omega))
    unfold stuOK33 c0133 cf33 nb tb at a2 ⊢
    rw [q 33 (by omega) (by omega), q 34 (by omega) (by omega), q 35 (by omega) (by omega), q 36 (by omega) (by omega), q 37 (by omega) (by omega), q 38 (by omega) (by omega), q 39 (by omega) (by omega)]
    exact a2
  · obtain ⟨⟨t1, t2, t3⟩, t4, t5⟩ := b2
    have q : ∀ i, i ≤ 46 → S11 i = S7 i := fun i a => o11 i (by omega) (by omega)
    refine ⟨⟨by rw [q 40 (by omega)]; exact t1, t2.of (fun i x y => q i (by omega)), ?_⟩, ?_⟩
    · unfold OA at t3 ⊢
      rw [q 2 (by omega), q 11 (by omega)]
      exact t3
    · unfold nbG nb rz tb at t4 ⊢
      unfold tb at t5
      rw [q 41 (by omega), q 42 (by omega), q 43 (by omega), q 44 (by omega), q 45 (by omega), q 46 (by omega)]
      exact ⟨t4, t5⟩
  · rw [hS11]; rfl
  · rw [hS11]; rfl
  · rw [hS11]; rfl
theorem CorM.nbs {S : St} {M : Int → Int} (h : CorM S M) (s : stuOK33 M S) : NBs S := by
  obtain ⟨E, TE, KE, rO, rT, rK, st, w, o, t⟩ := h
  exact ⟨⟨s.2.1.1, s.2.1.2.1, s.2.1.2.2, s.2.2.1.1, s.2.2.1.2.1, s.2.2.1.2.2⟩, t.2.1⟩
