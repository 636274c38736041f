/-! the class reads a text: its loop, chains, things of a sequence -/
def LPk (S T : St) (k : Nat) : Prop := ∀ F i : Nat, i + k ≤ 100000 → mX10_read_67_1_73 (F + k) (i : Int) S = mX10_read_67_1_73 F ((i + k : Nat) : Int) T
theorem LPk.tr {S T U : St} {k m : Nat} (h : LPk S T k) (g : LPk T U m) : LPk S U (k + m) := fun F i hi => by
  have a := h (F + m) i (by omega)
  have b := g F (i + k) (by omega)
  rw [show F + (k + m) = F + m + k by omega, a, b, show i + k + m = i + (k + m) by omega]
def LPf (S : St) (k : Nat) : Prop := ∃ T, BDs S T ∧ ∀ F i : Nat, i + k < 100000 → mX10_read_67_1_73 (F + k + 1) (i : Int) S = some T
theorem LPf.of {S T : St} {k : Nat} (h : LPk S T k) (b : BDs S T) : LPf S k := ⟨T, b, fun F i hi => by
  have a := h (F + 1) i (by omega)
  rw [show F + k + 1 = F + 1 + k by omega, a, mX10_read_67_1_73, gd_t (by omega), if_neg (by omega), b.1, gd_t (by decide), if_pos rfl]⟩
theorem LPf.tr {S T : St} {k m : Nat} (h : LPk S T k) (hk : KRd S T) (g : LPf T m) : LPf S (k + m) := by
  obtain ⟨U, u1, u2⟩ := g
  refine ⟨U, u1.tr hk, fun F i hi => ?_⟩
  have a := h (F + m + 1) i (by omega)
  have b := u2 F (i + k) (by omega)
  rw [show F + (k + m) + 1 = F + m + 1 + k by omega, a, b]
theorem CRs.dn {S : St} {L a z t sc oc : Nat} (h : CRs S L a z (t + 1) sc oc) : CRs (up S 67 8 (t : Int)) L a z t sc oc := by
  obtain ⟨⟨⟨h1, h2⟩, h3, h4, h5, h6, h7⟩, hb, h8⟩ := h
  refine ⟨⟨⟨?_, ?_⟩, ?_, ?_, ?_, ?_, ?_⟩, by omega, h8⟩
  · rw [up_nk (by decide)]; exact h1
  · rw [up_nk (by decide)]; exact h2
  · rw [up_nk (by decide)]; exact h3
  · rw [up_nk (by decide)]; exact h4
  · rw [up_eq]
  · rw [up_nk (by decide)]; exact h6
  · rw [up_nk (by decide)]; exact h7
theorem lp_part {S T : St} {L a z t sc oc p : Nat} (h : CRs S L a z (t + 1) sc oc) (h70 : S 70 (t : Int) = (p : Int)) (hp : p < 24) (e : mX10_readPart (up S 67 8 (t : Int)) (p : Int) = some T) : LPk S T 1 := fun F i hi => by
  have h6 := h.1.2.2.1
  have h8 := h.1.2.2.2.1
  have ht := h.2.1
  have a70 : (up S 67 8 (t : Int)) 70 (t : Int) = (p : Int) := h70
  rw [mX10_read_67_1_73, gd_t (by omega), if_neg (by omega), h6, gd_t (by decide), if_neg (by decide), h8, gd_t (by omega), if_neg (by omega), show ((t + 1 : Nat) : Int) - 1 = (t : Int) by omega, nx_e, up_eq, gd_t (by omega), a70, nx_e, gd_t (by omega), if_pos (by omega), bd1_e e, show ((i + 1 : Nat) : Int) = (i : Int) + 1 by omega]
theorem lp_go {S T : St} {L a z t sc oc p : Nat} (h : CRs S L a z (t + 1) sc oc) (h70 : S 70 (t : Int) = -(p : Int) - 1) (hp : p < 24) (e : mX10_goOn (up S 67 8 (t : Int)) (p : Int) = some T) : LPk S T 1 := fun F i hi => by
  have h6 := h.1.2.2.1
  have h8 := h.1.2.2.2.1
  have ht := h.2.1
  have a70 : (up S 67 8 (t : Int)) 70 (t : Int) = -(p : Int) - 1 := h70
  rw [mX10_read_67_1_73, gd_t (by omega), if_neg (by omega), h6, gd_t (by decide), if_neg (by decide), h8, gd_t (by omega), if_neg (by omega), show ((t + 1 : Nat) : Int) - 1 = (t : Int) by omega, nx_e, up_eq, gd_t (by omega), a70, nx_e, gd_t (by omega), if_neg (by omega), show -(-(p : Int) - 1) - 1 = (p : Int) by omega, bd1_e e, show ((i + 1 : Nat) : Int) = (i : Int) + 1 by omega]
theorem GM.kr {S T : St} {M : Int → Int} (g : GM S M) (k : KRd S T) : GM T M := g.of (fun i a b => k.cell i (by simp; omega) (by simp; omega))
theorem KPd.dn {S T : St} {a t sc oc : Nat} (h : KPd (up S 67 8 (t : Int)) T a t sc oc) : KPd S T a t sc oc := ⟨(kept.rf.upF (by decide)).trans h.1, h.2⟩
theorem BDs.dn {S T : St} {t : Nat} (h : BDs (up S 67 8 (t : Int)) T) : BDs S T := ⟨h.1, (kept.rf.upF (by decide)).trans h.2⟩
/-- no step but falls -/
def RKx (M : Int → Int) (rO : Nat → Nat) : Prop := (∀ p : Nat, (p : Int) < M 2 → rO p < 54) ∧ ∀ p t : Nat, (p : Int) < M 2 → (M (24 + (p : Int)) = 2 ∨ M (24 + (p : Int)) = 7) → (t : Int) < M (198 + ((exN M p : Nat) : Int)) → M (96 + fpM M (exN M p) t) = -1 → rO (fpM M (exN M p) t).toNat < rO p
def OKp (S : St) (M : Int → Int) (rO : Nat → Nat) (p : Nat) (w : List Int) (L a z t sc oc : Nat) : Prop := ∃ (k : Nat) (c : List Int) (n : Nat) (r : List Int) (T : St), (∃ f, rdP M f p w = some (c, n, r)) ∧ k + 120 ≤ 240 * c.length + rO p + 1 ∧ LPk S T k ∧ CRs T L (a + c.length) (z + n) t sc oc ∧ ((z + n : Nat) : Int) ≤ M 1 ∧ t ≤ r.length ∧ txA T a c ∧ txA T (a + c.length) r ∧ KPd S T a t sc oc
def FAp (S : St) (M : Int → Int) (rO : Nat → Nat) (p : Nat) (w : List Int) (z t : Nat) : Prop := (∃ k, k ≤ 240 * w.length + 60 * (w.length - (t + 1)) + rO p + 1 ∧ LPf S k) ∧ ∀ f c n r, rdP M f p w = some (c, n, r) → r.length < t ∨ M 1 < ((z + n : Nat) : Int)
def CLp (M : Int → Int) (rO : Nat → Nat) (N : Nat) : Prop := ∀ (p : Nat) (w : List Int) (S : St) (L a z t sc oc : Nat), GM S M → (p : Int) < M 2 → CRs S L a z (t + 1) sc oc → S 70 (t : Int) = (p : Int) → txA S a w → a + w.length = L → t + 1 ≤ w.length → (z : Int) ≤ M 1 → 55 * w.length + 55 * (w.length - (t + 1)) + rO p < N → OKp S M rO p w L a z t sc oc ∨ FAp S M rO p w z t
theorem rdP_det {M : Int → Int} {f g p : Nat} {w : List Int} {x y : List Int × Nat × List Int} (h : rdP M f p w = some x) (k : rdP M g p w = some y) : x = y := by
  have a := rdP_le (Nat.le_max_left f g) h
  have b := rdP_le (Nat.le_max_right f g) k
  exact Option.some.inj (a.symm.trans b)
theorem rdC_len {M : Int → Int} {rec : Nat → List Int → Option (List Int × Nat × List Int)} (hr : ∀ p w c n r, rec p w = some (c, n, r) → ate w c r) : ∀ (k : Nat) (q : Int) (w : List Int) (s : List (List Int × Nat)) (r : List Int) (d : Nat), rdC M rec k q w = some (s, r) → chn M d q + r.length ≤ w.length := by
  intro k
  induction k with
  | zero => intro q w s r d h; cases h
  | succ k ih =>
    intro q w s r d h
    rw [rdC] at h
    by_cases c : q < 0
    · rw [if_pos c] at h
      cases h
      rw [chn_n c, Nat.zero_add]; exact Nat.le_refl _
    · rw [if_neg c] at h
      obtain ⟨⟨c1, n1, r1⟩, o1, o2⟩ := Option.bind_eq_some_iff.mp h
      obtain ⟨⟨s2, r2⟩, p1, p2⟩ := Option.bind_eq_some_iff.mp o2
      cases p2
      have l := (hr _ _ _ _ _ o1).len
      cases d with
      | zero =>
        have := ih _ _ _ _ 0 p1
        have z : chn M 0 q = 0 := rfl
        rw [z]
        show 0 + r2.length ≤ w.length
        dsimp only at this l
        omega
      | succ d =>
        have := ih _ _ _ _ d p1
        obtain ⟨p, rfl⟩ : ∃ p : Nat, q = (p : Int) := ⟨q.toNat, by omega⟩
        rw [chn_s]
        show 1 + chn M d (M (96 + (p : Int))) + r2.length ≤ w.length
        dsimp only at this l
        omega
/-- a chain -/
theorem ch_cl {M : Int → Int} {rO : Nat → Nat} (wf : WF M) (rx : RKx M rO) {N : Nat} (H : CLp M rO N) {L sc oc t : Nat} : ∀ (d q j : Nat) (w : List Int) (S : St) (a z : Nat), (q : Int) < M 2 → 24 ≤ q + d → j = chn M d (q : Int) → GM S M → CRs S L a z (t + j) sc oc → (∀ k x : Nat, itN M k (q : Int) = (x : Int) → S 70 ((t + j - 1 - k : Nat) : Int) = (x : Int)) → txA S a w → a + w.length = L → t + j ≤ w.length → (z : Int) ≤ M 1 → 55 * w.length + 55 * (w.length - (t + j)) + rO q < N →
    (∃ (k : Nat) (s : List (List Int × Nat)) (r : List Int) (T : St), (∃ f, ∀ K, j < K → rdC M (rdP M f) K (q : Int) w = some (s, r)) ∧ k + 65 * (j - 1) + 120 ≤ 240 * (fl1 s).length + rO q + 1 ∧ LPk S T k ∧ CRs T L (a + (fl1 s).length) (z + szs s) t sc oc ∧ ((z + szs s : Nat) : Int) ≤ M 1 ∧ t ≤ r.length ∧ txA T a (fl1 s) ∧ txA T (a + (fl1 s).length) r ∧ KPd S T a t sc oc) ∨
    ((∃ k, k ≤ 240 * w.length + 60 * (w.length - (t + j)) + rO q + 1 ∧ LPf S k) ∧ ∀ f K s r, rdC M (rdP M f) K (q : Int) w = some (s, r) → r.length < t ∨ M 1 < ((z + szs s : Nat) : Int)) := by
  have hM2 := wf.2.2.1
  intro d
  induction d with
  | zero => intro q j w S a z hq hd; omega
  | succ d ih =>
    intro q j w S a z hq hd hj g h h70 hw hl ht hz hN
    rw [chn_s] at hj
    obtain ⟨j', rfl⟩ : ∃ j', j = j' + 1 := ⟨chn M d (M (96 + (q : Int))), by omega⟩
    have hj' : j' = chn M d (M (96 + (q : Int))) := by omega
    have r54 := rx.1 q hq
    have at0 := h70 0 q rfl
    rw [show t + (j' + 1) - 1 - 0 = t + j' by omega] at at0
    rcases H q w S L a z (t + j') sc oc g hq h at0 hw hl (by omega) hz (by omega) with ⟨k, c, n, r, T, ⟨f1, p1⟩, p2, p3, p4, p5, p6, p7, p8, p9⟩ | ⟨⟨k, k1, k2⟩, no⟩
    · have cl := (rdP_ate f1 q w c n r p1).len
      have oneC : ∀ (f K : Nat) (s : List (List Int × Nat)) (r' : List Int), rdC M (rdP M f) K (q : Int) w = some (s, r') → ∃ K' s2, K = K' + 1 ∧ s = (c, n) :: s2 ∧ rdC M (rdP M f) K' (M (96 + (q : Int))) r = some (s2, r') := fun f K s r' e => by
        cases K with
        | zero => cases e
        | succ K =>
          rw [rdC, if_neg (by omega)] at e
          obtain ⟨⟨c1, n1, r1⟩, o1, o2⟩ := Option.bind_eq_some_iff.mp e
          obtain ⟨⟨s2, r2⟩, q1, q2⟩ := Option.bind_eq_some_iff.mp o2
          have dd := rdP_det o1 p1
          cases dd
          cases q2
          exact ⟨K, s2, rfl, rfl, q1⟩
      rcases (wf.2.2.2.1 q hq).2.1 with e | e
      · -- the last one
        rw [e, chn_n (by decide)] at hj'
        subst hj'
        refine Or.inl ⟨k, [(c, n)], r, T, ⟨f1, fun K hK => ?_⟩, ?_, p3, ?_, ?_, p6, ?_, ?_, p9⟩
        · obtain ⟨K, rfl⟩ : ∃ K', K = K' + 2 := ⟨K - 2, by omega⟩
          rw [rdC, if_neg (by omega), show ((q : Nat) : Int).toNat = q from rfl, e]
          refine Option.bind_eq_some_iff.mpr ⟨_, p1, ?_⟩
          refine Option.bind_eq_some_iff.mpr ⟨([], r), ?_, rfl⟩
          rw [rdC, if_pos (by decide)]
        · have : fl1 [(c, n)] = c := by show [c].flatten = c; rw [List.flatten_cons]; exact List.append_nil _
          rw [this]; omega
        · have : fl1 [(c, n)] = c := by show [c].flatten = c; rw [List.flatten_cons]; exact List.append_nil _
          rw [this, show szs [(c, n)] = n from rfl]; exact p4
        · rw [show szs [(c, n)] = n from rfl]; exact p5
        · have : fl1 [(c, n)] = c := by show [c].flatten = c; rw [List.flatten_cons]; exact List.append_nil _
          rw [this]; exact p7
        · have : fl1 [(c, n)] = c := by show [c].flatten = c; rw [List.flatten_cons]; exact List.append_nil _
          rw [this]; exact p8
      · obtain ⟨q', hq'⟩ : ∃ q' : Nat, M (96 + (q : Int)) = (q' : Int) := ⟨(M (96 + (q : Int))).toNat, by omega⟩
        rw [hq'] at e hj'
        obtain ⟨j2, hj2⟩ : ∃ j2, j' = j2 + 1 := by
          obtain ⟨d, rfl⟩ : ∃ d', d = d' + 1 := ⟨d - 1, by omega⟩
          exact ⟨chn M d (M (96 + (q' : Int))), by rw [hj', chn_s]; omega⟩
        have r54' := rx.1 q' (by omega)
        have l70 : ∀ m x : Nat, itN M m (q' : Int) = (x : Int) → T 70 ((t + j' - 1 - m : Nat) : Int) = (x : Int) := fun m x hx => by
          have b := h70 (m + 1) x (by rw [itN_sh m _ (by omega), hq']; exact hx)
          have lt := itN_chn wf d q' (by omega) (by omega) m x hx
          rw [p9.2.2.1 _ (by omega), show t + j' - 1 - m = t + (j' + 1) - 1 - (m + 1) by omega]
          exact b
        rcases ih q' j' r T (a + c.length) (z + n) (by omega) (by omega) hj' (g.kr p9.1) p4 l70 p8 (by omega) p6 p5 (by omega) with ⟨k', s, r', T', ⟨f2, u1⟩, u2, u3, u4, u5, u6, u7, u8, u9⟩ | ⟨⟨k', k1', k2'⟩, no⟩
        · have fe : fl1 ((c, n) :: s) = c ++ fl1 s := by show (c :: s.map Prod.fst).flatten = _; rw [List.flatten_cons]; rfl
          have se : szs ((c, n) :: s) = n + szs s := rfl
          refine Or.inl ⟨k + k', (c, n) :: s, r', T', ⟨max f1 f2, fun K hK => ?_⟩, ?_, p3.tr u3, ?_, ?_, u6, ?_, ?_, (p9.we (t' := t) (Nat.le_refl _) (by omega) (Nat.le_refl _) (Nat.le_refl _)).tr u9 (by omega) (Nat.le_refl _) (Nat.le_refl _) (Nat.le_refl _)⟩
          · obtain ⟨K, rfl⟩ : ∃ K', K = K' + 1 := ⟨K - 1, by omega⟩
            rw [rdC, if_neg (by omega), show ((q : Nat) : Int).toNat = q from rfl, hq']
            refine Option.bind_eq_some_iff.mpr ⟨_, rdP_le (Nat.le_max_left f1 f2) p1, ?_⟩
            refine Option.bind_eq_some_iff.mpr ⟨(s, r'), ?_, rfl⟩
            exact rdC_mo (fun p w x e => rdP_le (Nat.le_max_right f1 f2) e) _ _ _ _ (u1 K (by omega))
          · rw [fe, List.length_append]; omega
          · rw [fe, se, List.length_append, show a + (c.length + (fl1 s).length) = a + c.length + (fl1 s).length by omega, show z + (n + szs s) = z + n + szs s by omega]
            exact u4
          · rw [se, show z + (n + szs s) = z + n + szs s by omega]; exact u5
          · rw [fe]
            refine txA.app.mpr ⟨p7.of (fun i h1 h2 => u9.2.1 _ (by omega)), u7⟩
          · rw [fe, List.length_append, show a + (c.length + (fl1 s).length) = a + c.length + (fl1 s).length by omega]
            exact u8
        · refine Or.inr ⟨⟨k + k', by omega, k2'.tr p3 p9.1⟩, fun f K s r' e => ?_⟩
          obtain ⟨K', s2, e1, e2, e3⟩ := oneC f K s r' e
          rw [hq'] at e3
          rcases no f K' s2 r' e3 with y | y
          · exact Or.inl y
          · refine Or.inr ?_
            rw [e2, show szs ((c, n) :: s2) = n + szs s2 from rfl]
            omega
    · refine Or.inr ⟨⟨k, by omega, k2⟩, fun f K s r' e => ?_⟩
      cases K with
      | zero => cases e
      | succ K =>
        rw [rdC, if_neg (by omega)] at e
        obtain ⟨⟨c1, n1, r1⟩, o1, o2⟩ := Option.bind_eq_some_iff.mp e
        obtain ⟨⟨s2, r2⟩, q1, q2⟩ := Option.bind_eq_some_iff.mp o2
        cases q2
        have len := rdC_len (rdP_ate f) _ _ _ _ _ d q1
        dsimp only at len
        rcases no f c1 n1 r1 o1 with y | y
        · refine Or.inl ?_
          show r2.length < t
          omega
        · refine Or.inr ?_
          rw [show szs ((c1, n1) :: s2) = n1 + szs s2 from rfl]
          omega
