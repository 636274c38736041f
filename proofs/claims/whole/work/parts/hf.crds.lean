/-! the class reads a text: off the tape, off what is spelled -/
theorem db73 : ∀ (f : Nat) (i : Int) (S : St), mX10_read_67_dB_73 f i S = mX10_read_67_1_73 f i S := by
  intro f
  induction f with
  | zero => intro i S; rfl
  | succ f ih =>
    intro i S
    rw [mX10_read_67_dB_73, mX10_read_67_1_73]
    have part : ∀ (T : St) (x : Int), (bd1 (mX10_readPart T x) fun S_45 => nx (msk S_45 T) fun S_46 => mX10_read_67_dB_73 f (i + 1) S_46) = (bd1 (mX10_readPart T x) fun S_42 => mX10_read_67_1_73 f (i + 1) S_42) := fun T x => by
      cases e : mX10_readPart T x with
      | none => rfl
      | some U =>
        have fr := fr_mX10_readPart T x U e
        show mX10_read_67_dB_73 f (i + 1) (msk U T) = mX10_read_67_1_73 f (i + 1) U
        rw [msk_e (fun j hj => fr.cell j (by simp; omega) (by simp; omega)) (fr.cell 0 (by decide) (by decide)), ih]
    have go : ∀ (T : St) (x : Int), (bd1 (mX10_goOn T x) fun S_45 => nx (msk S_45 T) fun S_46 => mX10_read_67_dB_73 f (i + 1) S_46) = (bd1 (mX10_goOn T x) fun S_42 => mX10_read_67_1_73 f (i + 1) S_42) := fun T x => by
      cases e : mX10_goOn T x with
      | none => rfl
      | some U =>
        have fr := fr_mX10_goOn T x U e
        show mX10_read_67_dB_73 f (i + 1) (msk U T) = mX10_read_67_1_73 f (i + 1) U
        rw [msk_e (fun j hj => fr.cell j (by simp; omega) (by simp; omega)) (fr.cell 0 (by decide) (by decide)), ih]
    simp only [part, go]
/-- what the reader writes -/
abbrev KRw (S T : St) : Prop := kept [68, 69, 70, 71, 72] [(67, 3), (67, 4), (67, 5), (67, 6), (67, 8), (67, 10), (67, 12)] S T
def iniR (S : St) (L : Int) : St := up (up (up (up (up (up (up S 67 3 L) 67 4 0) 67 5 0) 67 6 1) 67 8 0) 67 10 0) 67 12 0
theorem ini_crs {S : St} {L : Nat} (hL : L ≤ 40) (hB : ∀ i : Nat, i < 40 → -128 ≤ S 68 (i : Int) ∧ S 68 (i : Int) ≤ 127) : CRs (iniR S (L : Int)) L 0 0 0 0 0 := by
  unfold iniR
  refine ⟨⟨⟨?_, ?_⟩, ?_, ?_, ?_, ?_, ?_⟩, by omega, hB⟩
  · rw [up_nk (by decide), up_nk (by decide), up_nk (by decide), up_nk (by decide), up_nk (by decide), up_nk (by decide), up_eq]
  · rw [up_nk (by decide), up_nk (by decide), up_nk (by decide), up_nk (by decide), up_nk (by decide), up_eq]; rfl
  · rw [up_nk (by decide), up_nk (by decide), up_nk (by decide), up_nk (by decide), up_eq]; rfl
  · rw [up_nk (by decide), up_nk (by decide), up_nk (by decide), up_eq]
  · rw [up_nk (by decide), up_nk (by decide), up_eq]; rfl
  · rw [up_nk (by decide), up_eq]; rfl
  · rw [up_eq]; rfl
theorem ini_k {S : St} {L : Int} : KRw S (iniR S L) := ((((((kept.rf.upF (by decide)).upF (by decide)).upF (by decide)).upF (by decide)).upF (by decide)).upF (by decide)).upF (by decide)
theorem rd_run {S : St} {M : Int → Int} {rO : Nat → Nat} {lo : Int} {L e : Nat} {w : List Int} (wf : WF M) (rx : RKx M rO) (g : GM S M) (he : e < 30) (hlo : 0 ≤ lo) (hE : okE M lo e) (hL : L ≤ 40) (hB : ∀ i : Nat, i < 40 → -128 ≤ S 68 (i : Int) ∧ S 68 (i : Int) ≤ 127) (hw : txA S 0 w) (hl : w.length = L) (h1 : 1 ≤ L) : ∃ (r : Int) (S1 S2 : St), mX10_readExpr (iniR S (L : Int)) (e : Int) = some S1 ∧ mX10_read_67_1_73 FU 0 S1 = some S2 ∧ (gd (inI (S2 67 6)) <| if (S2 67 6) = 0 then (some ((-1), S2)) else (gd (inI (S2 67 8)) <| if (S2 67 8) = 0 then (gd ((inI (S2 67 4)) ∧ (inI (S2 67 3))) <| if (S2 67 4) = (S2 67 3) then (some ((S2 67 5), S2)) else (some ((-1), S2))) else (some ((-1), S2)))) = some (r, S2) ∧ KRw S S2 ∧ ((∃ (c : List Int) (n : Nat), RDW M e w c n ∧ r = (n : Int) ∧ txA S2 0 c) ∨ ((∀ c n, ¬ RDW M e w c n) ∧ r = -1)) := by
  have gi : GM (iniR S (L : Int)) M := g.of (fun i a b => ini_k.cell i (by simp; omega) (by simp; omega))
  obtain ⟨S1, S2, s1, s2, s3, s4⟩ := rd_whole wf rx gi he hlo hE (ini_crs hL hB) hw hl h1
  have k2 : KRw S S2 := ini_k.trans (s3.mono (by decide) (by decide))
  have e3 : S2 67 3 = (L : Int) := by
    rw [s3 67 3 (by decide) (by decide)]
    exact (ini_crs (S := S) hL hB).1.1.1
  rcases s4 with ⟨c, n, y1, y2, y3, y4, y5, y6⟩ | ⟨no, y⟩
  · refine ⟨(n : Int), S1, S2, s1, s2, ?_, k2, Or.inl ⟨c, n, y1, rfl, y6⟩⟩
    rw [y2, gd_t (by decide), if_neg (by decide), y3, gd_t (by decide), if_pos rfl, y4, e3, gd_t (by omega), if_pos rfl, y5]
  · refine ⟨-1, S1, S2, s1, s2, ?_, k2, Or.inr ⟨no, rfl⟩⟩
    rcases y with y | ⟨y1, y2, y3, y4⟩
    · rw [y, gd_t (by decide), if_pos rfl]
    · rw [y1, gd_t (by decide), if_neg (by decide), y2, gd_t (by decide), if_pos rfl, e3, gd_t ⟨y3, by omega⟩, if_neg y4]
/-! bytes stay bytes -/
def byR (S : St) : Prop := ∀ i : Nat, i < 40 → -128 ≤ S 68 (i : Int) ∧ S 68 (i : Int) ≤ 127
theorem byR.of {S T : St} (h : byR S) (e : T 68 = S 68) : byR T := by
  unfold byR at h ⊢
  rw [e]
  exact h
theorem by_copy {S : St} {a b : Int} (h : byR S) : Pc (mX10_copyBack S a b) byR := by
  unfold mX10_copyBack
  refine Pc_gd fun _ => Pc_nx (Pc_gd fun _ => Pc_nx (Pc_gd fun _ => Pc_if (fun _ => Pc_some h) (fun _ => Pc_gd fun _ => Pc_if (fun _ => Pc_some h) (fun _ => Pc_gd fun g => Pc_nx (Pc_some ?_)))))
  intro i hi
  unfold cpyS
  rw [if_pos rfl]
  try dsimp only
  split
  · next z =>
    have := g.2 ((i : Int) - S 71 a).toNat (by omega)
    rw [show S 71 a + ((((i : Int) - S 71 a).toNat : Nat) : Int) = S 71 a + ((i : Int) - S 71 a) by omega] at this
    exact this
  · exact h i hi
theorem by_sort {S : St} {a b u : Int} (h : byR S) : Pc (mX10_sort S a b u) byR := by
  unfold mX10_sort
  refine Pc_gd fun _ => Pc_nx (Pc_bd1 fun T hT => Pc_bd1 fun U hU => Pc_some ?_)
  exact by_copy (h.of ((fr_mX10_sort_11 _ _ _ _ _ _ _ T hT).cell 68 (by decide) (by decide))) U hU
theorem by_turn {S : St} {a b : Int} (h : byR S) : Pc (mX10_turn S a b) byR := by
  unfold mX10_turn
  refine Pc_gd fun _ => Pc_nx (Pc_gd fun _ => Pc_nx (Pc_bd1 fun _ _ => Pc_bd1 fun T hT => Pc_bd1 fun U hU => Pc_some ?_))
  exact by_copy (h.of ((fr_mX10_turn_76 _ _ _ _ _ _ _ _ T hT).cell 68 (by decide) (by decide))) U hU
theorem by_close {S : St} {a : Int} (h : byR S) : Pc (mX10_close S a) byR := by
  unfold mX10_close
  refine Pc_nx (Pc_gd fun _ => Pc_nx (Pc_nx (Pc_gd fun _ => Pc_nx (Pc_nx (Pc_gd fun _ => Pc_nx (Pc_nx (Pc_gd fun _ => ?_)))))))
  have k : byR (up (up (up S 67 12 ((S 67 12) - 1)) 71 ((up S 67 12 ((S 67 12) - 1)) 67 10) ((up S 67 12 ((S 67 12) - 1)) 67 4)) 67 10 ((up S 67 12 ((S 67 12) - 1)) 72 ((up S 67 12 ((S 67 12) - 1)) 67 12))) := h.of rfl
  have k' : ∀ U : St, U 68 = S 68 → byR (up U 67 6 0) := fun U e => h.of e
  repeat' first
    | with_reducible refine Pc_gd (fun _ => ?_)
    | with_reducible refine Pc_if (fun _ => ?_) (fun _ => ?_)
    | exact Pc_bd1 fun T hT => Pc_some (by_sort k T hT)
    | exact Pc_bd1 fun T hT => Pc_some (by_turn k T hT)
    | with_reducible refine Pc_bdI (fun _ => ?_)
    | exact Pc_some k
    | exact Pc_nx (Pc_some (k.of rfl))
theorem by_goOn {S : St} {a : Int} (h : byR S) : Pc (mX10_goOn S a) byR := by
  unfold mX10_goOn
  refine Pc_bdI fun _ => Pc_gd fun _ => Pc_bdI fun _ => Pc_gd fun _ => Pc_if (fun _ => Pc_bd1 fun T hT => Pc_nx (Pc_some ((by_close h T hT).of rfl))) (fun _ => Pc_bd2 fun o ho => ?_)
  have e := (fr_mX10_mayAwait S 2 o ho).cell 68 (by decide) (by decide)
  refine Pc_gd fun _ => Pc_if (fun _ => Pc_some (h.of e)) (fun _ => Pc_gd fun _ => Pc_nx (Pc_nx (Pc_gd fun _ => Pc_nx (Pc_gd fun _ => Pc_nx (Pc_nx (Pc_some (h.of e)))))))
theorem by_73 : ∀ (f : Nat) (i : Int) (S : St), byR S → Pc (mX10_read_67_1_73 f i S) byR := by
  intro f
  induction f with
  | zero => intro i S _; exact Pc_none
  | succ f ih =>
    intro i S h
    rw [mX10_read_67_1_73]
    refine Pc_gd fun _ => Pc_if (fun _ => Pc_some h) (fun _ => Pc_gd fun _ => Pc_if (fun _ => Pc_some h) (fun _ => Pc_gd fun _ => Pc_if (fun _ => Pc_some h) (fun _ => Pc_nx (Pc_gd fun _ => Pc_nx (Pc_gd fun _ => Pc_if (fun _ => Pc_bd1 fun T hT => ?_) (fun _ => Pc_bd1 fun T hT => ?_))))))
    · exact ih _ T (h.of ((fr_mX10_readPart _ _ T hT).cell 68 (by decide) (by decide)))
    · refine ih _ T ?_
      refine by_goOn ?_ T hT
      exact h.of rfl
/-- off the tape -/
theorem rd_tape {S : St} {M : Int → Int} {rO : Nat → Nat} {lo : Int} {L e : Nat} {w : List Int} (wf : WF M) (rx : RKx M rO) (g : GM S M) (he : e < 30) (hlo : 0 ≤ lo) (hE : okE M lo e) (hL : L ≤ 400) (hB : ∀ i : Nat, i < 40 → -128 ≤ S 68 (i : Int) ∧ S 68 (i : Int) ≤ 127) (hw : ∀ (i : Nat) (x : Int), w[i]? = some x → S 1 (i : Int) = x ∧ -128 ≤ x ∧ x ≤ 127) (hl : w.length = L) : ∃ (r : Int) (T : St), mX10_read_67_1 S (e : Int) (L : Int) = some (r, T) ∧ KRw S T ∧ ((∃ (c : List Int) (n : Nat), (1 ≤ L ∧ L ≤ 40) ∧ RDW M e w c n ∧ r = (n : Int) ∧ txA T 0 c) ∨ (((1 ≤ L ∧ L ≤ 40) → ∀ c n, ¬ RDW M e w c n) ∧ r = -1)) ∧ byR T := by
  unfold mX10_read_67_1
  rw [gd_t (by omega)]
  by_cases c1 : (L : Int) < 1
  · rw [if_pos c1]
    exact ⟨-1, S, rfl, kept.rf, Or.inr ⟨fun q => by omega, rfl⟩, hB⟩
  · by_cases c2 : (40 : Int) < (L : Int)
    · rw [if_neg c1, if_pos c2]
      exact ⟨-1, S, rfl, kept.rf, Or.inr ⟨fun q => by omega, rfl⟩, hB⟩
    · have val : ∀ q : Nat, q < L → ∃ x, w[q]? = some x ∧ S 1 (q : Int) = x ∧ -128 ≤ x ∧ x ≤ 127 := fun q hq => ⟨w[q], List.getElem?_eq_getElem (by omega), hw q _ (List.getElem?_eq_getElem (by omega))⟩
      rw [if_neg c1, if_neg c2, if_pos (by omega), gd_t ⟨by omega, fun q hq => by
        obtain ⟨x, x1, x2, x3⟩ := val q (by omega)
        rw [show (0 : Int) + (q : Int) = (q : Int) by omega, x2]
        exact x3⟩, nx_e]
      obtain ⟨S6, h6⟩ : ∃ S6 : St, S6 = cpyS S 1 68 0 0 (L : Int) := ⟨_, rfl⟩
      have k6 : kept [68] [] S S6 := by rw [h6]; exact kept.rf.cpy (by decide)
      have v : ∀ z : Int, S6 68 z = if (0 : Int) ≤ z ∧ z < 0 + (L : Int) then S 1 (0 + (z - 0)) else S 68 z := fun z => by
        rw [h6]; unfold cpyS; rw [if_pos rfl]
      have w6 : txA S6 0 w := fun i x hx => by
        have li := (List.getElem?_eq_some_iff.mp hx).1
        rw [v, if_pos (by omega), show (0 : Int) + (((0 + i : Nat) : Int) - 0) = (i : Int) by omega]
        exact (hw i x hx).1
      have b6 : ∀ i : Nat, i < 40 → -128 ≤ S6 68 (i : Int) ∧ S6 68 (i : Int) ≤ 127 := fun i hi => by
        rw [v]
        by_cases z : (0 : Int) ≤ (i : Int) ∧ (i : Int) < 0 + (L : Int)
        · rw [if_pos z]
          obtain ⟨x, x1, x2, x3⟩ := val i (by omega)
          rw [show (0 : Int) + ((i : Int) - 0) = (i : Int) by omega, x2]
          exact x3
        · rw [if_neg z]; exact hB i hi
      obtain ⟨r, S1, S2, s1, s2, s3, s4, s5⟩ := rd_run wf rx (g.of (fun i a b => k6.cell i (by simp; omega) (by simp)) : GM S6 M) he hlo hE (by omega) b6 w6 hl (by omega)
      rw [← h6, nx_e, nx_e, nx_e, nx_e, nx_e, nx_e, nx_e]
      have s1' : mX10_readExpr (up (up (up (up (up (up (up S6 67 3 (L : Int)) 67 4 0) 67 5 0) 67 6 1) 67 8 0) 67 10 0) 67 12 0) (e : Int) = some S1 := s1
      rw [bd1_e s1', bd1_e s2, s3]
      refine ⟨r, S2, rfl, (k6.mono (by decide) (by decide)).trans s4, ?_, ?_⟩
      · rcases s5 with ⟨c, n, y1, y2, y3⟩ | ⟨no, y⟩
        · exact Or.inl ⟨c, n, by omega, y1, y2, y3⟩
        · exact Or.inr ⟨fun _ => no, y⟩
      · refine by_73 FU 0 S1 ?_ S2 s2
        exact (show byR (iniR S6 (L : Int)) from b6).of ((fr_mX10_readExpr _ _ S1 s1').cell 68 (by decide) (by decide))
/-- off what is spelled -/
theorem rd_text {S : St} {M : Int → Int} {rO : Nat → Nat} {lo : Int} {e : Nat} {w : List Int} (wf : WF M) (rx : RKx M rO) (g : GM S M) (he : e < 30) (hlo : 0 ≤ lo) (hE : okE M lo e) (hB : ∀ i : Nat, i < 40 → -128 ≤ S 68 (i : Int) ∧ S 68 (i : Int) ≤ 127) (hw : WR S w) (hi : w.length ≤ 2000000) : ∃ (r : Int) (T : St), mX10_read_67_dB S (e : Int) (S 60 3) ((w.length : Nat) : Int) = some (r, T) ∧ KRw S T ∧ ((∃ (c : List Int) (n : Nat), (1 ≤ w.length ∧ w.length ≤ 40) ∧ RDW M e w c n ∧ r = (n : Int) ∧ txA T 0 c) ∨ (((1 ≤ w.length ∧ w.length ≤ 40) → ∀ c n, ¬ RDW M e w c n) ∧ r = -1)) ∧ byR T := by
  obtain ⟨⟨d1, d2, x, d3, d4⟩, ⟨l1, l2⟩, wg, tx, by'⟩ := hw
  have p12 : 2 ^ x ≤ 4096 := by
    have := Nat.pow_le_pow_right (show 0 < 2 by decide) d4
    exact this
  unfold mX10_read_67_dB
  by_cases c1 : ((w.length : Nat) : Int) < 1
  · refine ⟨-1, S, entG_e ?_ gle_rfl, kept.rf, Or.inr ⟨fun q => by omega, rfl⟩, hB⟩
    rw [gd_t (by omega), if_pos c1]
  · by_cases c2 : (40 : Int) < ((w.length : Nat) : Int)
    · refine ⟨-1, S, entG_e ?_ gle_rfl, kept.rf, Or.inr ⟨fun q => by omega, rfl⟩, hB⟩
      rw [gd_t (by omega), if_neg c1, if_pos c2]
    · obtain ⟨S8, h8⟩ : ∃ S8 : St, S8 = cpyD S (S 60 3) 68 0 0 ((w.length : Nat) : Int) := ⟨_, rfl⟩
      have k8 : kept [68] [] S S8 := fun i k n1 _ => by
        rw [h8]; unfold cpyD
        rw [if_neg (fun q => n1 (by rw [q]; simp))]
      have v : ∀ z : Int, S8 68 z = if (0 : Int) ≤ z ∧ z < 0 + ((w.length : Nat) : Int) then S (S 60 3).toNat (0 + (z - 0)) else S 68 z := fun z => by
        rw [h8]; unfold cpyD; rw [if_pos rfl]
      have w8 : txA S8 0 w := fun i y hy => by
        have li := (List.getElem?_eq_some_iff.mp hy).1
        rw [v, if_pos (by omega), show (0 : Int) + (((0 + i : Nat) : Int) - 0) = (i : Int) by omega]
        exact tx i y hy
      have b8 : ∀ i : Nat, i < 40 → -128 ≤ S8 68 (i : Int) ∧ S8 68 (i : Int) ≤ 127 := fun i hi => by
        rw [v]
        by_cases z : (0 : Int) ≤ (i : Int) ∧ (i : Int) < 0 + ((w.length : Nat) : Int)
        · rw [if_pos z, show (0 : Int) + ((i : Int) - 0) = (i : Int) by omega]
          exact by' i (by omega)
        · rw [if_neg z]; exact hB i hi
      obtain ⟨r, S1, S2, s1, s2, s3, s4, s5⟩ := rd_run wf rx (g.of (fun i a b => k8.cell i (by simp; omega) (by simp)) : GM S8 M) he hlo hE (show w.length ≤ 40 by omega) b8 w8 rfl (by omega)
      have kT : KRw S S2 := (k8.mono (by decide) (by decide)).trans s4
      have s1' : mX10_readExpr (up (up (up (up (up (up (up S8 67 3 ((w.length : Nat) : Int)) 67 4 0) 67 5 0) 67 6 1) 67 8 0) 67 10 0) 67 12 0) (e : Int) = some S1 := s1
      have fr := fr_mX10_readExpr _ _ S1 s1'
      refine ⟨r, S2, entG_e ?_ (gle_rf (kT.cell 0 (by decide) (by decide))), kT, ?_, ?_⟩
      · rw [gd_t (by omega), if_neg c1, if_neg c2, gd_t ⟨d1, by omega⟩, d2, gd_t (by omega), if_pos (by omega), gd_t ⟨by omega, by omega, fun q hq => by
          rw [show (0 : Int) + (q : Int) = (q : Int) by omega]
          exact by' q (by omega)⟩, nx_e, ← h8, nx_e, nx_e, nx_e, nx_e, nx_e, nx_e, nx_e, bd1_e s1', nx_e, msk_e (fun j hj => fr.cell j (by simp; omega) (by simp; omega)) (fr.cell 0 (by decide) (by decide)), db73, bd1_e s2, s3]
      · rcases s5 with ⟨c, n, y1, y2, y3⟩ | ⟨no, y⟩
        · exact Or.inl ⟨c, n, by omega, y1, y2, y3⟩
        · exact Or.inr ⟨fun _ => no, y⟩
      · refine by_73 FU 0 S1 ?_ S2 s2
        exact (show byR (iniR S8 ((w.length : Nat) : Int)) from b8).of (fr.cell 68 (by decide) (by decide))
