/-! the class's counts are the reference's; asking both -/
def Cor (S : St) : Prop := ∃ (E TE KE : Nat → Prop) (rO rT rK : Nat → Nat) (st : Nat), WF (S 84) ∧ Ord (S 84) E TE KE rO rT rK ∧ TI40 (-1) (S 84) E TE rO rT rK st (YP (S 84) (-1)) (RP (S 84) (-1)) ((S 84 1).toNat + 1) 0 S
theorem Cor.wf {S : St} (h : Cor S) : WF (S 84) := by obtain ⟨_, _, _, _, _, _, _, w, _⟩ := h; exact w
theorem Cor.gm {S : St} (h : Cor S) : GM S (S 84) := by obtain ⟨_, _, _, _, _, _, _, _, _, t⟩ := h; exact t.1.2.1
theorem Cor.cnt {S T : St} {l : Int} (h : Cor S) (hl : inI l) (hT : T 84 = S 84) : wp (mX12_counts T l) (fun S' => cnt (S 84) l S' ∧ kept [90, 91, 92] [] T S') := by
  obtain ⟨E, TE, KE, rO, rT, rK, st, w, o, -⟩ := h
  exact counts_at w o hl hT
theorem Cor.kle {S : St} (h : Cor S) {e n : Nat} (he : (e : Int) < S 84 0) (hn : n ≤ 7) : kM (S 84) e n ≤ 1000000000000 := by
  obtain ⟨E, TE, KE, rO, rT, rK, st, w, o, -⟩ := h
  exact kM_le w o he hn
theorem min_ev {x y : Nat} (h : ev x y) (hy : y ≤ 1000000000000) : min 1000000000000 (x : Int) = (y : Int) := by
  unfold ev at h
  rw [CC_eq] at h
  omega
theorem HHn {x : Nat} (h : x ≤ HH) : (x : Int) ≤ 1000000000000000000 := by have := HH_in h; omega
theorem e_thingsAt {S : St} (h : Cor S) {e n : Nat} (he : (e : Int) < S 84 0) (hn : (n : Int) ≤ S 84 1) : mX0_thingsAt_40 S (e : Int) (n : Int) = some ((kM (S 84) e n : Nat) : Int) := by
  have hk := h.kle he (show n ≤ 7 by have := h.wf.2.1; omega)
  obtain ⟨E, TE, KE, rO, rT, rK, st, w, o, t⟩ := h
  have hM0 := w.1
  have hM1 := w.2.1
  obtain ⟨-, ⟨-, -, n43, -⟩, -, -, t5, -⟩ := t
  have b : pl e n 0 < 384 := pl_lt2 (show e < 6 by omega) (by omega) (by omega) (by decide)
  have v := n43.at b
  have x := t5 e n 0 he hn (by unfold topf; omega) (Or.inl (by omega))
  have pe : (e : Int) * 64 + (n : Int) * 8 = ((pl e n 0 : Nat) : Int) := by unfold pl; omega
  have := HHn v.2
  unfold mX0_thingsAt_40
  rw [pe, gd_t (by omega), v.1, gd_t (by omega), min_ev (x := tb S 43 (pl e n 0)) (y := kM (S 84) e n) ?_ hk]
  have e1 : kY (YP (S 84) (-1)) (pl e n 0) = kM (S 84) e n := by
    unfold kY kM
    congr 1
    unfold pl; omega
  rw [← e1]; exact x
theorem e_of40 {S : St} (h : Cor S) {p n : Nat} (hp : (p : Int) < S 84 2) (hn : (n : Int) ≤ S 84 1) : ∃ x : Nat, mX0_of_40 S (p : Int) (n : Int) = some (x : Int) ∧ ev x (YP (S 84) (-1) (pl p n 0)) ∧ x ≤ HH := by
  obtain ⟨E, TE, KE, rO, rT, rK, st, w, o, t⟩ := h
  have hM2 := w.2.2.1
  have hM1 := w.2.1
  obtain ⟨-, ⟨n41, -⟩, t3, -⟩ := t
  have b : pl p n 0 < 1536 := pl_lt2 (show p < 24 by omega) (by omega) (by omega) (by decide)
  have v := n41.at b
  refine ⟨tb S 41 (pl p n 0), ?_, t3 p n 0 hp hn (by unfold topf; omega) (Or.inl (by omega)), v.2⟩
  unfold mX0_of_40
  rw [show (p : Int) * 64 + (n : Int) * 8 = ((pl p n 0 : Nat) : Int) by unfold pl; omega, gd_t (by omega), v.1]
theorem e_from40 {S : St} (h : Cor S) {p n : Nat} (hp : (p : Int) < S 84 2) (hn : (n : Int) ≤ S 84 1) : ∃ x : Nat, mX0_from_40 S (p : Int) (n : Int) = some (x : Int) ∧ ev x (RP (S 84) (-1) (pl p n 0)) ∧ x ≤ HH := by
  obtain ⟨E, TE, KE, rO, rT, rK, st, w, o, t⟩ := h
  have hM2 := w.2.2.1
  have hM1 := w.2.1
  obtain ⟨-, ⟨-, n42, -⟩, -, t4, -⟩ := t
  have b : pl p n 0 < 1536 := pl_lt2 (show p < 24 by omega) (by omega) (by omega) (by decide)
  have v := n42.at b
  refine ⟨tb S 42 (pl p n 0), ?_, t4 p n 0 hp hn (by unfold topf; omega) (Or.inl (by omega)), v.2⟩
  unfold mX0_from_40
  rw [gd_t (by omega), if_neg (by omega), show (p : Int) * 64 + (n : Int) * 8 = ((pl p n 0 : Nat) : Int) by unfold pl; omega, gd_t (by omega), v.1]
/-! is there such a kind, such a size -/
abbrev isK (M : Int → Int) (a : Int) : Prop := 0 ≤ a ∧ a < M 0
abbrev isN (M : Int → Int) (a : Int) : Prop := 0 ≤ a ∧ a ≤ M 1
theorem e_kn {S : St} (h : Cor S) {a : Int} (ha : inI a) : mX11_known S a = some (if 0 ≤ a ∧ a < S 84 0 then 1 else 0) := by
  have hM0 := h.wf.1
  have g := h.gm.1.2.1
  unfold mX11_known
  rw [gd_t ha, g]
  by_cases d : a < 0
  · rw [if_pos d, if_neg (by omega)]
  · rw [if_neg d, gd_t (by omega)]
    by_cases c : S 84 0 ≤ a
    · rw [if_pos c, if_neg (by omega)]
    · rw [if_neg c, if_pos (by omega)]
theorem e_ik {S T : St} (h : Cor S) (hT : T 84 = S 84) {a : Int} (ha : inI a) : mX12_isKind T a = some (if 0 ≤ a ∧ a < S 84 0 then 1 else 0) := by
  have hM0 := h.wf.1
  unfold mX12_isKind
  rw [hT, gd_t ha, gd_t (by omega), bd1_e (e_in (by omega) (by omega) (by omega))]
  by_cases c : 0 ≤ a ∧ a < S 84 0
  · rw [if_pos (by omega), if_pos c, gd_t (by decide)]
  · rw [if_neg (by omega), if_neg c, gd_t (by decide)]
theorem e_known {S : St} (h : Cor S) {a : Int} (ha : inI a) : (mX11_known S a = some 1 ∧ mX12_isKind S a = some 1 ∧ ∃ e : Nat, a = (e : Int) ∧ (e : Int) < S 84 0) ∨ (mX11_known S a = some 0 ∧ mX12_isKind S a = some 0 ∧ ¬ isK (S 84) a) := by
  have A := e_kn h ha
  have B := e_ik h rfl ha
  by_cases c : 0 ≤ a ∧ a < S 84 0
  · rw [if_pos c] at A B
    exact Or.inl ⟨A, B, a.toNat, by omega, by omega⟩
  · rw [if_neg c] at A B
    exact Or.inr ⟨A, B, c⟩
theorem e_isSize {S T : St} (h : Cor S) (hT : T 84 = S 84) {a : Int} (ha : inI a) : mX12_isSize T a = some (if 0 ≤ a ∧ a ≤ S 84 1 then 1 else 0) := by
  have hM1 := h.wf.2.1
  unfold mX12_isSize
  rw [hT, gd_t ha, gd_t (by omega), bd1_e (e_in (by omega) (by omega) (by omega))]
  by_cases c : 0 ≤ a ∧ a ≤ S 84 1
  · rw [if_pos c, gd_t (by decide)]
  · rw [if_neg c, gd_t (by decide)]
theorem e_sized {S : St} (h : Cor S) {a b : Int} (ha : inI a) (hb : inI b) : mX11_sized S a b = some (if isK (S 84) a ∧ isN (S 84) b then 1 else 0) := by
  have hM1 := h.wf.2.1
  have hM0 := h.wf.1
  have g := h.gm.1.1
  unfold mX11_sized
  rcases e_known h ha with ⟨k1, k2, e, k3, k4⟩ | ⟨k1, k2, k3⟩
  · rw [bd1_e k1, gd_t (by decide), if_neg (by decide), gd_t hb, g]
    by_cases d : b < 0
    · rw [if_pos d, if_neg (by omega)]
    · rw [if_neg d, gd_t (by omega)]
      by_cases c : S 84 1 < b
      · rw [if_pos c, if_neg (by omega)]
      · rw [if_neg c, if_pos (by omega)]
  · rw [bd1_e k1, gd_t (by decide), if_pos rfl, if_neg (fun w => k3 w.1)]
theorem e_kindMany {T : St} {M : Int → Int} (h : WF M) (hT : cnt M (-1) T) {e n : Nat} (he : (e : Int) < M 0) (hn : n ≤ 7) : mX12_kindMany T (e : Int) (n : Int) = some ((kM M e n : Nat) : Int) := by
  have hM0 := h.1
  have b1 : pl (24 + e) n 0 < 1920 := pl_lt2 (show 24 + e < 30 by omega) hn (by omega) (by decide)
  unfold mX12_kindMany
  have e1 : mX12_place (24 + (e : Int)) (n : Int) 0 = some ((pl (24 + e) n 0 : Nat) : Int) := by
    have := e_pl (a := 24 + e) (n := n) (k := 0)
    rw [show ((24 + e : Nat) : Int) = 24 + (e : Int) by omega] at this
    exact this
  rw [bd1_e e1, gd_t (by omega), hT.2.2.2 e n 0 he hn (by omega)]
  rfl
theorem s_things {S : St} (h : Cor S) {a b : Int} (ha : inI a) (hb : inI b) : ∃ (r : Int) (S' : St), mX11_things S a b = some r ∧ mX12_things S a b = some (r, S') ∧ inL r ∧ kept [90, 91, 92] [] S S' := by
  have hM1 := h.wf.2.1
  have sz := e_sized h ha hb
  have is := e_isSize h rfl hb
  rcases e_known h ha with ⟨k1, k2, e, k3, k4⟩ | ⟨k1, k2, k3⟩
  · by_cases c : 0 ≤ b ∧ b ≤ S 84 1
    · obtain ⟨n, rfl⟩ : ∃ n : Nat, b = (n : Int) := ⟨b.toNat, by omega⟩
      obtain ⟨S', s1, s2, s3⟩ := h.cnt (l := -1) (by decide) rfl
      have hk := h.kle k4 (n := n) (by omega)
      rw [if_pos ⟨by omega, c⟩] at sz
      rw [if_pos c] at is
      refine ⟨((kM (S 84) e n : Nat) : Int), S', ?_, ?_, by omega, s3⟩
      · unfold mX11_things
        rw [bd1_e sz, gd_t (by decide), if_neg (by decide), k3, bd1_e (e_thingsAt h k4 (by omega))]
      · unfold mX12_things
        rw [bd1_e k2, gd_t (by decide), if_neg (by decide), bd1_e is, gd_t (by decide), if_neg (by decide), bd1_e s1, k3, bd1_e (e_kindMany h.wf s2 k4 (by omega))]
    · rw [if_neg (fun w => c w.2)] at sz
      rw [if_neg c] at is
      refine ⟨-2, S, ?_, ?_, by omega, kept.rf⟩
      · unfold mX11_things
        rw [bd1_e sz, gd_t (by decide), if_pos rfl]
      · unfold mX12_things
        rw [bd1_e k2, gd_t (by decide), if_neg (by decide), bd1_e is, gd_t (by decide), if_pos rfl]
  · rw [if_neg (fun w => k3 w.1)] at sz
    refine ⟨-2, S, ?_, ?_, by omega, kept.rf⟩
    · unfold mX11_things
      rw [bd1_e sz, gd_t (by decide), if_pos rfl]
    · unfold mX12_things
      rw [bd1_e k2, gd_t (by decide), if_pos rfl]
