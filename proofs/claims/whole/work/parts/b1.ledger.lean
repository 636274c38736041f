/-! the ledger: labelled counts -/
def nbK (S : St) : Prop := nb S 49 1536 HH ∧ nb S 50 1536 HH ∧ nb S 51 384 HH ∧ nb S 52 12288 HH ∧ nb S 53 8 HH ∧ rz (tb S 52)
theorem nbK.of {S T : St} (h : nbK S) (k : ∀ i, 49 ≤ i → i ≤ 53 → T i = S i) : nbK T := by
  unfold nbK nb rz tb at h ⊢
  rw [k 49 (by omega) (by omega), k 50 (by omega) (by omega), k 51 (by omega) (by omega), k 52 (by omega) (by omega), k 53 (by omega) (by omega)]
  exact h
theorem TI48.nbK {m : Int} {M : Int → Int} {E TE : Nat → Prop} {rO rT rK : Nat → Nat} {st : Nat} {Y R : Nat → Nat} {n i : Nat} {S : St} (t : TI48 m M E TE rO rT rK st Y R n i S) : nbK S := by
  obtain ⟨-, ⟨a, b, c, d, e, f, -⟩, -⟩ := t
  exact ⟨a, b, c, d, e, f⟩
/-- a census of the ledger's over a grammar of the class's -/
theorem take48 {S : St} {M : Int → Int} {m : Int} {E TE KE : Nat → Prop} {rO rT rK : Nat → Nat} {st : Nat} {Y R : Nat → Nat} (h : WF M) (hOr : Ord M E TE KE rO rT rK) (hm : inI m) (hm2 : -2 ≤ m) (hS : sol (decide (0 ≤ m)) (decide (m = -2)) m M E TE Y R) (hG : GM S M) (hA : OA S M rO rT rK st) (hk : nbK S) : ∃ S' : St, mX0_take_48 S m = some S' ∧ TI48 m M E TE rO rT rK st Y R ((M 1).toNat + 1) 0 S' ∧ kept [49, 50, 51, 52, 53] [(48, 1)] S S' := by
  obtain ⟨S', a, b⟩ := w_take48 h hOr hm hm2 hS hG hA hk.1 hk.2.1 hk.2.2.1 hk.2.2.2.1 hk.2.2.2.2.1 hk.2.2.2.2.2 (fun w => by cases w)
  exact ⟨S', a, b, fr_mX0_take_48 S m S' a⟩
def LG1 (S : St) : Prop := (S 47 2 = 0 ∨ S 47 2 = 1) ∧ (S 47 2 = 1 → ∀ e n : Nat, (e : Int) < S 84 0 → (n : Int) ≤ S 84 1 → S 57 (((e * 8 + n : Nat)) : Int) = ((NP (S 84) e n : Nat) : Int))
theorem s_labelled {S : St} (h : Cor S) (hk : nbK S) (hL : LG1 S) {a b : Int} (ha : inI a) (hb : inI b) : ∃ (r : Int) (S1 S2 : St), mX11_labelled S a b = some (r, S1) ∧ mX12_labelled S1 a b = some (r, S2) ∧ inL r ∧ kept [49, 50, 51, 52, 53, 57] [(47, 2), (48, 1)] S S1 ∧ kept [93, 94, 95] [] S1 S2 ∧ nbK S1 ∧ LG1 S1 := by
  have w := h.wf
  have hM0 := w.1
  have hM1 := w.2.1
  have sz := e_sized h ha hb
  have unk : mX11_sized S a b = some 0 → mX12_labelled S a b = some (-2, S) → ∃ (r : Int) (S1 S2 : St), mX11_labelled S a b = some (r, S1) ∧ mX12_labelled S1 a b = some (r, S2) ∧ inL r ∧ kept [49, 50, 51, 52, 53, 57] [(47, 2), (48, 1)] S S1 ∧ kept [93, 94, 95] [] S1 S2 ∧ nbK S1 ∧ LG1 S1 := fun x y => by
    refine ⟨-2, S, S, ?_, y, by omega, kept.rf, kept.rf, hk, hL⟩
    unfold mX11_labelled
    rw [bd1_e x, gd_t (by decide), if_pos rfl]
  by_cases x : isK (S 84) a ∧ isN (S 84) b
  · rw [if_pos x] at sz
    obtain ⟨e, rfl⟩ : ∃ e : Nat, a = (e : Int) := ⟨a.toNat, by omega⟩
    obtain ⟨n, rfl⟩ : ∃ e : Nat, b = (e : Int) := ⟨b.toNat, by omega⟩
    have hh := h
    obtain ⟨E, TE, KE, rO, rT, rK, st, w', o, t⟩ := h
    have nl := NP_le w o (e := e) (n := n) (by omega) (by omega)
    -- the class's row is laid
    have laid : ∃ S1 : St, (gd (inI (S 47 2)) <| if (S 47 2) = 0 then (bd1 (mX0_take_48 S (-2)) fun S_8 => bd1 (mX4_keep_47_57 S_8 0) fun S_10 => nx (up S_10 47 2 1) fun S_11 => some (S_11)) else (some (S))) = some S1 ∧ kept [49, 50, 51, 52, 53, 57] [(47, 2), (48, 1)] S S1 ∧ nbK S1 ∧ S1 47 2 = 1 ∧ (∀ e n : Nat, (e : Int) < S 84 0 → (n : Int) ≤ S 84 1 → S1 57 (((e * 8 + n : Nat)) : Int) = ((NP (S 84) e n : Nat) : Int)) := by
      rcases hL.1 with z | z
      · obtain ⟨S8, s1, s2, s3⟩ := take48 (m := -2) (Y := up3 (tb (cNm (S 84)) 93)) (R := up3 (tb (cNm (S 84)) 94)) w o (by decide) (by decide) (by rw [show decide ((0 : Int) ≤ -2) = false from rfl, show decide ((-2 : Int) = -2) = true from rfl]; exact sol_N w (cNm_hd w o)) t.1.2.1 t.1.2.2 hk
        have gm8 := s2.1.2.1
        obtain ⟨S10, r1, r2, r3, r4⟩ := e_keep57 (V := NP (S 84)) (m0 := (S 84 0).toNat) (m1 := (S 84 1).toNat) (base := 0) (S := S8) (by omega) (by omega) (by omega) (by rw [gm8.1.2.1]; omega) (by rw [gm8.1.1]; omega) (fun T e n hT he hn => e_th48 w s2 hT (by omega) (by omega) up3_at (NP_le w o (by omega) (by omega)))
        refine ⟨up S10 47 2 1, ?_, ?_, ?_, rfl, fun e n he hn => ?_⟩
        · rw [z, gd_t (by decide), if_pos rfl, bd1_e s1, bd1_e (show mX4_keep_47_57 S8 0 = some S10 from r1), nx_e]
        · exact kept.upF (kept.trans (s3.mono (by simp) (by simp)) (r2.mono (by simp) (by simp))) (by decide)
        · refine s2.nbK.of (fun i x y => ?_)
          show (if i = 47 then _ else S10 i) = _
          rw [if_neg (by omega)]
          exact r2.cell i (by simp; omega) (by simp)
        · have := r3 e n (by omega) (by omega)
          rw [Nat.zero_add] at this
          exact this
      · refine ⟨S, ?_, kept.rf, hk, z, hL.2 z⟩
        rw [z, gd_t (by decide), if_neg (by decide)]
    obtain ⟨S1, l1, l2, l3, l4, l5⟩ := laid
    have e84 : S1 84 = S 84 := l2.cell 84 (by decide) (by decide)
    have h1 : Cor S1 := hh.of e84 (fun i _ _ => l2.cell i (by simp; omega) (by simp; omega)) (fun i _ _ => l2.cell i (by simp; omega) (by simp; omega))
    obtain ⟨S2, v1, v2, v3⟩ := names_at (S := S1) w o e84
    have ik := e_ik h1 rfl (a := (e : Int)) (by omega)
    have is := e_isSize h1 rfl (a := (n : Int)) (by omega)
    rw [e84, if_pos x.1] at ik
    rw [e84, if_pos x.2] at is
    refine ⟨((NP (S 84) e n : Nat) : Int), S1, S2, ?_, ?_, by omega, l2, v3, l3, ⟨Or.inr l4, fun _ e n he hn => ?_⟩⟩
    · unfold mX11_labelled
      have lt : mX4_labelledThings S (e : Int) (n : Int) = some (((NP (S 84) e n : Nat) : Int), S1) := by
        unfold mX4_labelledThings
        rw [bd1_e l1, gd_t (by omega), show (e : Int) * 8 + (n : Int) = ((e * 8 + n : Nat) : Int) by omega, l5 e n x.1.2 x.2.2]
      rw [bd1_e sz, gd_t (by decide), if_neg (by decide), bd2_e lt]
    · unfold mX12_labelled
      rw [bd1_e ik, gd_t (by decide), if_neg (by decide), bd1_e is, gd_t (by decide), if_neg (by decide), bd1_e v1, gd_t (by omega), show (24 + (e : Int)) * 8 + (n : Int) = (((24 + e) * 8 + n : Nat) : Int) by omega, v2 e n x.1.2 (by omega)]
    · rw [e84] at he hn ⊢
      exact l5 e n he hn
  · rw [if_neg x] at sz
    refine unk sz ?_
    have ik := e_ik h rfl ha
    have is := e_isSize h rfl hb
    unfold mX12_labelled
    by_cases y : 0 ≤ a ∧ a < S 84 0
    · rw [if_pos y] at ik
      rw [if_neg (fun w => x ⟨y, w⟩)] at is
      rw [bd1_e ik, gd_t (by decide), if_neg (by decide), bd1_e is, gd_t (by decide), if_pos rfl]
    · rw [if_neg y] at ik
      rw [bd1_e ik, gd_t (by decide), if_pos rfl]
