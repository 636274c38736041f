/-! both sides: deepest, fullest, stiffest -/
def msF (M : Int → Int) (e n : Nat) (k l : Int) (u : Nat) : Nat := if k = 0 then tD M e n u else if k = 1 then cnI (97 + l) (tX M e n u) else tR M e n u
theorem msF_le {S : St} (h : SpO S) {e n u : Nat} {k l : Int} (x : isTh (S 84) e n u) : msF (S 84) e n k l u ≤ 1000000 := by
  obtain ⟨a, b, c⟩ := thing_le h x
  unfold msF
  split
  · exact a
  · split
    · exact Nat.le_trans (cnI_le _) c
    · exact b
theorem e_most25 {S : St} (h : SpO S) {e n : Nat} {k l : Int} (he : (e : Int) < S 84 0) (hn : (n : Int) ≤ S 84 1) (h2 : kM (S 84) e n ≤ 200) (hk : k = 0 ∨ k = 1 ∨ k = 2) (hl : -1 ≤ l ∧ l ≤ 25) : ∀ (d v f : Nat) (T : St), v + d = kM (S 84) e n → d < f → cnt (S 84) (-1) T → ∃ T', mX12_most_25 (e : Int) (n : Int) k l f (v : Int) (mst (msF (S 84) e n k l) v).1 (((mst (msF (S 84) e n k l) v).2 : Nat) : Int) T = some ((((mst (msF (S 84) e n k l) (kM (S 84) e n)).2 : Nat) : Int), T') ∧ kept [96, 97, 98] [(83, 20), (83, 21), (83, 22), (83, 23), (83, 24), (83, 25), (83, 26), (83, 27), (83, 31), (83, 32)] T T' := by
  have w := h.1.1.wf
  have hM1 := w.2.1
  intro d
  induction d with
  | zero =>
    intro v f T hv hf hT
    obtain ⟨f, rfl⟩ : ∃ f', f = f' + 1 := ⟨f - 1, by omega⟩
    have km := e_kindMany w hT he (n := n) (by omega)
    have hvk : v = kM (S 84) e n := by omega
    refine ⟨T, ?_, kept.rf⟩
    rw [mX12_most_25, gd_t (by omega), bd1_e km, gd_t (by omega), if_pos (by omega), ← hvk]
  | succ d ih =>
    intro v f T hv hf hT
    obtain ⟨f, rfl⟩ : ∃ f', f = f' + 1 := ⟨f - 1, by omega⟩
    have km := e_kindMany w hT he (n := n) (by omega)
    have th : isTh (S 84) e n v := ⟨he, hn, by omega, h2⟩
    obtain ⟨b1, b2, b3⟩ := thing_le h th
    obtain ⟨U, u1, u2⟩ := w_goes (S := S) (T := T) (e := e) (n := n) (v := v) (i := -1) (a := l) h.1.1 hT he hn (by omega) h2 (by decide) hl (by omega)
    have kU := u2.2.2
    have hU : cnt (S 84) (-1) U := hT.of (kU.cell 84 (by decide) (by decide)) (kU.cell 90 (by decide) (by decide)) (kU.cell 91 (by decide) (by decide))
    have mb := mst_1 (g := msF (S 84) e n k l) (B := 1000000) v (fun u hu => msF_le h ⟨he, hn, by omega, h2⟩)
    have fb := msF_le h (k := k) (l := l) th
    have tag : (gd (inI k) <| if k = 0 then (some ((U 83 23))) else (if k = 1 then (some ((U 83 25))) else (some ((U 83 26))))) = some ((msF (S 84) e n k l v : Nat) : Int) := by
      rw [gd_t (by omega)]
      unfold msF
      by_cases z : k = 0
      · rw [if_pos z, if_pos z, u2.2.1.1]
      · rw [if_neg z, if_neg z]
        by_cases y : k = 1
        · rw [if_pos y, if_pos y, u2.2.1.2.1]
        · rw [if_neg y, if_neg y, u2.2.1.2.2.1]
    obtain ⟨T', t1, t2⟩ := ih (v + 1) f U (by omega) (by omega) hU
    refine ⟨T', ?_, kU.trans t2⟩
    rw [mX12_most_25, gd_t (by omega), bd1_e km, gd_t (by omega), if_neg (by omega), bd1_e u1, bd1_e tag, gd_t ⟨by omega, by omega⟩]
    rw [mst_s, show ((v + 1 : Nat) : Int) = (v : Int) + 1 by omega] at t1
    by_cases z : ((msF (S 84) e n k l v : Nat) : Int) ≤ (mst (msF (S 84) e n k l) v).1
    · rw [if_pos z] at t1 ⊢
      exact t1
    · rw [if_neg z] at t1 ⊢
      exact t1
/-- a call that rolls: first the class, then the reference -/
def SpQ (S S1 S2 : St) : Prop := QFr S S1 ∧ (SpO S2 ∧ RLI S2) ∧ kG S1 S2
theorem RLI.of {S T : St} (h : RLI S) (c : ∀ i, (73 ≤ i ∧ i ≤ 78) ∨ i = 84 → T i = S i) : RLI T := by
  unfold RLI RLd at h ⊢
  rw [c 73 (by decide), c 75 (by decide), c 76 (by decide), c 77 (by decide), c 78 (by decide), c 84 (by decide)]
  exact h
theorem e_rolls {S : St} (h : SpO S) (rl : RLI S) {a b k l : Int} (ha : inI a) (hb : inI b) (hk : k = 0 ∨ k = 1 ∨ k = 2) (hl : -1 ≤ l ∧ l ≤ 25) : (∃ (e n : Nat) (S1 S2 : St), (a = (e : Int) ∧ b = (n : Int)) ∧ ((e : Int) < S 84 0 ∧ (n : Int) ≤ S 84 1 ∧ 1 ≤ kM (S 84) e n ∧ kM (S 84) e n ≤ 200) ∧ mX11_rolling S a b = some (0, S1) ∧ RLd (S 84) S1 e n ∧ mX12_most S1 a b k l = some ((((mst (msF (S 84) e n k l) (kM (S 84) e n)).2 : Nat) : Int), S2) ∧ SpQ S S1 S2) ∨ (∃ (r : Int) (S2 : St), (r = -1 ∨ r = -2 ∨ r = -3) ∧ mX11_rolling S a b = some (r, S) ∧ mX12_most S a b k l = some (r, S2) ∧ SpQ S S S2) := by
  rcases c_rolling h rl ha hb with ⟨e, n, S1, x1, x2, x3, x4, x5, x6, x7, x8, x9⟩ | ⟨r, r1, r2, r3⟩
  · left
    obtain ⟨S3, s1, s2, s3⟩ := x9 S1 x8
    obtain ⟨rfl, rfl⟩ := x1
    rw [← x8] at s2
    have hx2 := x2
    rw [← x8] at hx2
    obtain ⟨S2, t1, t2⟩ := e_most25 (S := S1) (e := e) (n := n) (k := k) (l := l) x5 hx2.1 hx2.2.1 hx2.2.2.2 hk hl (kM (S1 84) e n) 0 FU S3 (by omega) (by have := hx2.2.2.2; unfold FU; omega) s2
    have kk : kG S1 S2 := (s3.mono (by simp) (by simp)).trans (t2.mono (by simp) (by simp))
    refine ⟨e, n, S1, S2, ⟨rfl, rfl⟩, x2, x3, x4, ?_, x6, ⟨x5.of kk, x7.of (fun i hi => kk.cell i (by simp; omega) (by simp; omega))⟩, kk⟩
    unfold mX12_most
    rw [bd2_e s1, gd_t (by decide), if_pos (by decide)]
    rw [bd2_e (show mX12_most_25 (e : Int) (n : Int) k l FU 0 (-1) 0 S3 = _ from t1), x8]
  · right
    obtain ⟨T', t1, t2⟩ := r3 S rfl
    have kk : kG S T' := t2.mono (by simp) (by simp)
    refine ⟨r, T', r1, r2, ?_, GFr.rf.q, ⟨h.of kk, rl.of (fun i hi => kk.cell i (by simp; omega) (by simp; omega))⟩, kk⟩
    unfold mX12_most
    rw [bd2_e t1, gd_t (by omega), if_neg (by omega)]
theorem mst_2 {S : St} (h : SpO S) {e n : Nat} {k l : Int} (x : (e : Int) < S 84 0 ∧ (n : Int) ≤ S 84 1 ∧ 1 ≤ kM (S 84) e n ∧ kM (S 84) e n ≤ 200) : (mst (msF (S 84) e n k l) (kM (S 84) e n)).2 ≤ 200 := by
  have := (mst_1 (g := msF (S 84) e n k l) (B := 1000000) (kM (S 84) e n) (fun u hu => msF_le h ⟨x.1, x.2.1, hu, x.2.2.2⟩)).2.2
  have := x.2.2.2
  omega
theorem s_deepest {S : St} (h : SpO S) (rl : RLI S) {a b : Int} (ha : inI a) (hb : inI b) : ∃ (r : Int) (S1 S2 : St), mX11_deepest S a b = some (r, S1) ∧ mX12_deepest S1 a b = some (r, S2) ∧ inI r ∧ SpQ S S1 S2 := by
  have wf := h.1.1.wf
  have hM0 := wf.1
  have hM1 := wf.2.1
  rcases e_rolls (k := 0) (l := -1) h rl ha hb (by decide) (by decide) with ⟨e, n, S1, S2, ⟨rfl, rfl⟩, x2, x3, x4, x5, x6⟩ | ⟨r, S2, r1, r2, r3, r4⟩
  · have b := mst_2 h (k := 0) (l := -1) x2
    have ef : msF (S 84) e n 0 (-1) = tD (S 84) e n := by funext u; unfold msF; rw [if_pos rfl]
    rw [ef] at x5 b
    refine ⟨(((mst (tD (S 84) e n) (kM (S 84) e n)).2 : Nat) : Int), S1, S2, ?_, ?_, ?_, x6⟩
    · unfold mX11_deepest
      refine entG_e ?_ x6.1.2.1
      refine bdG2_e x3 x6.1.2.1 ?_ gle_rfl
      rw [gd_t (by decide), if_pos rfl, show (e : Int) * 8 + (n : Int) = ((e * 8 + n : Nat) : Int) by omega, gd_t (by omega), x4.1.1]
    · unfold mX12_deepest
      rw [bd2_e x5]
    · omega
  · refine ⟨r, S, S2, ?_, ?_, by omega, r4⟩
    · unfold mX11_deepest
      refine entG_e ?_ gle_rfl
      refine bdG2_e r2 gle_rfl ?_ gle_rfl
      rw [gd_t (by omega), if_neg (by omega)]
    · unfold mX12_deepest
      rw [bd2_e r3]
theorem s_stiffest {S : St} (h : SpO S) (rl : RLI S) {a b : Int} (ha : inI a) (hb : inI b) : ∃ (r : Int) (S1 S2 : St), mX11_stiffest S a b = some (r, S1) ∧ mX12_stiffest S1 a b = some (r, S2) ∧ inI r ∧ SpQ S S1 S2 := by
  have wf := h.1.1.wf
  have hM0 := wf.1
  have hM1 := wf.2.1
  rcases e_rolls (k := 2) (l := -1) h rl ha hb (by decide) (by decide) with ⟨e, n, S1, S2, ⟨rfl, rfl⟩, x2, x3, x4, x5, x6⟩ | ⟨r, S2, r1, r2, r3, r4⟩
  · have b := mst_2 h (k := 2) (l := -1) x2
    have ef : msF (S 84) e n 2 (-1) = tR (S 84) e n := by funext u; unfold msF; rw [if_neg (by decide), if_neg (by decide)]
    rw [ef] at x5 b
    refine ⟨(((mst (tR (S 84) e n) (kM (S 84) e n)).2 : Nat) : Int), S1, S2, ?_, ?_, ?_, x6⟩
    · unfold mX11_stiffest
      refine entG_e ?_ x6.1.2.1
      refine bdG2_e x3 x6.1.2.1 ?_ gle_rfl
      rw [gd_t (by decide), if_pos rfl, show (e : Int) * 8 + (n : Int) = ((e * 8 + n : Nat) : Int) by omega, gd_t (by omega), x4.1.2]
    · unfold mX12_stiffest
      rw [bd2_e x5]
    · omega
  · refine ⟨r, S, S2, ?_, ?_, by omega, r4⟩
    · unfold mX11_stiffest
      refine entG_e ?_ gle_rfl
      refine bdG2_e r2 gle_rfl ?_ gle_rfl
      rw [gd_t (by omega), if_neg (by omega)]
    · unfold mX12_stiffest
      rw [bd2_e r3]
theorem e_lettered {d : Int} (hd : inI d) : mX11_lettered d = some (if 0 ≤ d ∧ d ≤ 25 then 1 else 0) := by
  unfold mX11_lettered
  rw [gd_t hd]
  by_cases z : d < 0
  · rw [if_pos z, if_neg (by omega)]
  · rw [if_neg z]
    by_cases y : 26 ≤ d
    · rw [if_pos y, if_neg (by omega)]
    · rw [if_neg y, if_pos (by omega)]
theorem s_fullest {S : St} (h : SpO S) (rl : RLI S) {a b d : Int} (ha : inI a) (hb : inI b) (hd : inI d) : ∃ (r : Int) (S1 S2 : St), mX11_fullest S a b d = some (r, S1) ∧ mX12_fullest S1 a b d = some (r, S2) ∧ inI r ∧ SpQ S S1 S2 := by
  have wf := h.1.1.wf
  have hM0 := wf.1
  have hM1 := wf.2.1
  have lt := e_lettered hd
  have inn := e_in (v := d) (lo := 0) (hi := 25) (by omega) (by decide) (by decide)
  by_cases z : 0 ≤ d ∧ d ≤ 25
  · rw [if_pos z] at lt inn
    obtain ⟨q, rfl⟩ : ∃ q : Nat, d = (q : Int) := ⟨d.toNat, by omega⟩
    rcases e_rolls (k := 1) (l := (q : Int)) h rl ha hb (by decide) (by omega) with ⟨e, n, S1, S2, ⟨rfl, rfl⟩, x2, x3, x4, x5, x6⟩ | ⟨r, S2, r1, r2, r3, r4⟩
    · have b := mst_2 h (k := 1) (l := (q : Int)) x2
      have ef : msF (S 84) e n 1 (q : Int) = fun u => cnI (97 + (q : Int)) (tX (S 84) e n u) := by funext u; unfold msF; rw [if_neg (by decide), if_pos rfl]
      rw [ef] at x5 b
      refine ⟨(((mst (fun u => cnI (97 + (q : Int)) (tX (S 84) e n u)) (kM (S 84) e n)).2 : Nat) : Int), S1, S2, ?_, ?_, ?_, x6⟩
      · unfold mX11_fullest
        refine entG_e ?_ x6.1.2.1
        rw [bd1_e lt, gd_t (by decide), if_neg (by decide)]
        refine bdG2_e x3 x6.1.2.1 ?_ gle_rfl
        rw [gd_t (by decide), if_pos rfl, show ((e : Int) * 8 + (n : Int)) * 26 + (q : Int) = (((e * 8 + n) * 26 + q : Nat) : Int) by omega, gd_t (by omega), (x4.2 q (by omega)).1]
      · unfold mX12_fullest
        rw [gd_t hd, bd1_e inn, gd_t (by decide), if_neg (by decide), bd2_e x5]
      · omega
    · refine ⟨r, S, S2, ?_, ?_, by omega, r4⟩
      · unfold mX11_fullest
        refine entG_e ?_ gle_rfl
        rw [bd1_e lt, gd_t (by decide), if_neg (by decide)]
        refine bdG2_e r2 gle_rfl ?_ gle_rfl
        rw [gd_t (by omega), if_neg (by omega)]
      · unfold mX12_fullest
        rw [gd_t hd, bd1_e inn, gd_t (by decide), if_neg (by decide), bd2_e r3]
  · rw [if_neg z] at lt inn
    refine ⟨-2, S, S, ?_, ?_, by decide, GFr.rf.q, ⟨h, rl⟩, kept.rf⟩
    · unfold mX11_fullest
      refine entG_e ?_ gle_rfl
      rw [bd1_e lt, gd_t (by decide), if_pos rfl]
    · unfold mX12_fullest
      rw [gd_t hd, bd1_e inn, gd_t (by decide), if_pos rfl]
