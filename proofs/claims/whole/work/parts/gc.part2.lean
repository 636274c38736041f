/-! the class's speller: any part -/
theorem kept.wide {L L' : List Nat} {F F' : List (Nat × Int)} {S T : St} (h : kept L F S T) (a : ∀ i ∈ L, i ∈ L') (b : ∀ q ∈ F, q ∈ F' ∨ q.1 ∈ L') : kept L' F' S T := fun i k x y => h i k (fun z => x (a i z)) (fun z => (b _ z).elim y x)
def clE (M : Int → Int) (x : Nat × Nat × Nat) : List Int := if isQb M x.1 then [-clS (M (24 + (x.1 : Int)))] else []
def qbN (M : Int → Int) (x : Nat × Nat × Nat) : Nat := if isQb M x.1 then 1 else 0
theorem qb_t {M : Int → Int} {p : Nat} (h : isSq M p) : isQb M p = true := decide_eq_true h
theorem qb_f {M : Int → Int} {p : Nat} (h : ¬ isSq M p) : isQb M p = false := decide_eq_false h
theorem c_part_sq {M : Int → Int} {S : St} {w l : List Int} {o d t p n v : Nat} (nex : NEX M) (hS : SpS M S w l o d t) (hp : (p : Int) < M 2) (hn : (n : Int) ≤ M 1) (hv : v < yM M p n) (h2 : yM M p n ≤ 200) (hs : isSq M p) (hl : l.length + 1 + (sqI M p n v).length ≤ 1100) (ho : o ≤ 1100) (hd : d ≤ 1100) (hw : w.length < 1048576) : ∃ T, mX9_spellPart S (p : Int) (n : Int) (v : Int) = some T ∧ SpS M T (w ++ [opS (M (24 + (p : Int)))]) ((sqI M p n v).map (fun y => cdP (chM M p, y.1, y.2)) ++ (-clS (M (24 + (p : Int))) :: l)) (o + 1) (max d (o + 1)) (t * own M (p, n, v)) ∧ SFr S T := by
  obtain ⟨hx, hk, ⟨h10, h5, h6⟩, ha⟩ := hS
  have e84 := hx.1.2.1
  subst e84
  have h := hx.1.1
  have w' := h.wf
  have hM1 := w'.2.1
  obtain ⟨q3, q4, q5, q24, qp, -⟩ := gm_sq h hp hs
  obtain ⟨x1, x2, x3, x4⟩ := sqI_ok h hp hs hn hv h2
  obtain ⟨sml, len7⟩ := sq_small h hp hs hn hv h2
  have sm2 : ∀ y ∈ sqI (S 84) p n v, y.1 ≤ 7 ∧ y.2 ≤ 1023 := fun y hy => by
    have a := (ok_sm x1 x2).2 y hy
    have b := (x1 y hy).2
    have c := x4 y hy
    omega
  have nu := nu_ge w' hp hs
  have hs' := hs
  unfold isSq at hs'
  -- behind what finds it
  have go : ∀ (U : St) (tt : Nat), Sx (S 84) U w → SFr S U → cds U (sqI (S 84) p n v) → U 66 = S 66 → U 65 = S 65 → (U 60 12 = S 60 12 ∧ U 60 10 = S 60 10 ∧ U 60 5 = S 60 5) → U 60 6 = (tt : Int) → ∃ T, mX9_spellSequence U (p : Int) = some T ∧ SpS (S 84) T (w ++ [opS (S 84 (24 + (p : Int)))]) ((sqI (S 84) p n v).map (fun y => cdP (chM (S 84) p, y.1, y.2)) ++ (-clS (S 84 (24 + (p : Int))) :: l)) (o + 1) (max d (o + 1)) tt ∧ SFr S T ∧ gle U T := by
    intro U tt xU fU cU u66 u65 u60 u6
    obtain ⟨T, t1, t2, t3⟩ := c_spellSeq (M := S 84) (S := U) (w := w) (l := l) (o := o) (d := d) (t := tt) (L := sqI (S 84) p n v) ⟨xU, ⟨u60.1.trans hk.1, fun j x hj => by rw [u66]; exact hk.2 j x hj⟩, ⟨u60.2.1.trans h10, u60.2.2.trans h5, u6⟩, fun a a26 => by rw [u65]; exact ha a a26⟩ hp hs cU len7 sm2 hl ho hd hw
    exact ⟨T, t1, t2, fU.trans t3, t3.2.2.1⟩
  unfold mX9_spellPart
  by_cases t3 : S 84 (24 + (p : Int)) = 3
  · have e : sqI (S 84) p n v = rwI (cM (S 84) p) 7 (nuM (S 84) p) n v := by unfold sqI; rw [if_pos t3]
    have e1 := y_seq h hp (n := n) (by omega) hs (by omega)
    unfold sqN at e1
    rw [if_pos t3] at e1
    have e' : yM (S 84) p n = rwW (cM (S 84) p) (nuM (S 84) p) n := by
      rcases ev_to e1 with q | ⟨q, _⟩
      · exact q
      · rw [CC_eq] at q; omega
    obtain ⟨U, u1, u2, u3⟩ := c_findRow (v := v) h nex hp hs (Or.inl t3) hn (by omega) (by rw [← e']; exact hv)
    rw [← e] at u2
    obtain ⟨xU, fU⟩ := hx.kp (u3.wide (by simp) (by simp))
    have mk : msk U S = U := msk_e (fun i a => u3.cell i (by simp; omega) (by simp; omega)) (u3.cell 0 (by decide) (by decide))
    obtain ⟨T, t1, t2, f1, g1⟩ := go U t xU fU u2 (u3.cell 66 (by decide) (by decide)) (u3.cell 65 (by decide) (by decide)) ⟨u3 60 12 (by decide) (by decide), u3 60 10 (by decide) (by decide), u3 60 5 (by decide) (by decide)⟩ ((u3 60 6 (by decide) (by decide)).trans h6)
    refine ⟨T, ?_, ?_, f1⟩
    · refine entG_e ?_ f1.2.2.1
      rw [gd_t (by omega), nx_e, q3, gd_t (by omega), if_neg (by omega), if_neg (by omega), if_neg (by omega), if_pos t3, bd1_e u1, nx_e, mk]
      exact bdG1_e t1 g1 rfl gle_rfl
    · unfold own
      rw [if_neg (by dsimp only; omega), if_neg (by dsimp only; omega), Nat.mul_one]
      exact t2
  by_cases t6 : S 84 (24 + (p : Int)) = 6
  · have e : sqI (S 84) p n v = ((rgM (S 84) p n)[v]?).getD [] := by unfold sqI; rw [if_neg t3, if_pos t6]
    have e1 := y_ring h hp (n := n) (by omega) t6
    have e' : yM (S 84) p n = (rgM (S 84) p n).length := by
      rcases ev_to e1 with q | ⟨q, _⟩
      · exact q
      · rw [CC_eq] at q; omega
    have hv' : v < (rgM (S 84) p n).length := by rw [← e']; exact hv
    have ex : (rgM (S 84) p n)[v]? = some (sqI (S 84) p n v) := by
      rw [e, List.getElem?_eq_getElem hv']; rfl
    have n1 : 1 ≤ n := by
      rcases Nat.eq_zero_or_pos n with z | z
      · subst z
        have : rgM (S 84) p 0 = [] := by
          unfold rgM
          rw [rgE_0, if_neg (fun y => y.2.1 rfl)]
        rw [this] at hv'
        cases hv'
      · exact z
    obtain ⟨r1, r2, r3, r4, r5, r6, r7⟩ := rg_ok (by omega) nu (by omega) ex
    obtain ⟨U, u1, u2, u3, u4⟩ := c_findRing h nex hx.1.2.2 hx.2.1.1 ⟨hx.2.1.2.1, hx.2.1.2.2.1⟩ hp t6 hn n1 (by omega) ex
    obtain ⟨xU, fU⟩ := hx.ring u4 u3
    have len1 : 1 ≤ (sqI (S 84) p n v).length := by
      rcases Nat.eq_zero_or_pos (sqI (S 84) p n v).length with z | z
      · exact absurd (List.eq_nil_of_length_eq_zero z) r4
      · exact z
    have st := e_tAlike u2 sml ⟨len1, by omega⟩
    have U60 : U 60 = S 60 := u4.cell (by decide) (by decide) (by decide) (by decide) (by decide)
    obtain ⟨V, hV⟩ : ∃ V, V = up U 60 6 ((t : Int) * ((stb (sqI (S 84) p n v) : Nat) : Int)) := ⟨_, rfl⟩
    have kV : kept [61, 62, 65, 66] [(60, 5), (60, 6), (60, 10), (60, 12)] U V := by rw [hV]; exact kept.rf.upF (by simp)
    obtain ⟨xV, fV⟩ := xU.kp kV
    have cV : ∀ i, i ≠ 60 → V i = U i := fun i a => by rw [hV, up_n a]
    have V60 : ∀ k : Int, k ≠ 6 → V 60 k = S 60 k := fun k a => by rw [hV, up_nk a, U60]
    obtain ⟨T, t1, t2, f1, g1⟩ := go V (t * stb (sqI (S 84) p n v)) xV (fU.trans fV) (u2.of (by rw [cV 61 (by decide)]) (cV 62 (by decide))) ((cV 66 (by decide)).trans (u4.cell (by decide) (by decide) (by decide) (by decide) (by decide))) ((cV 65 (by decide)).trans (u4.cell (by decide) (by decide) (by decide) (by decide) (by decide))) ⟨V60 12 (by decide), V60 10 (by decide), V60 5 (by decide)⟩ (by rw [hV, up_eq, Int.natCast_mul])
    refine ⟨T, ?_, ?_, f1⟩
    · refine entG_e ?_ f1.2.2.1
      have gUT : gle U T := ⟨Nat.le_trans fV.2.2.1.1 g1.1, Nat.le_trans fV.2.2.1.2 g1.2⟩
      rw [gd_t (by omega), nx_e, q3, gd_t (by omega), if_neg (by omega), if_neg (by omega), if_neg (by omega), if_neg (by omega), if_neg (by omega), if_neg (by omega), if_pos t6, hx.2.1.2.2.2]
      refine bdG1_e u1 fU.2.2.1 ?_ gUT
      rw [bd1_e st, nx_e, U60, h6, ← hV]
      exact bdG1_e t1 g1 rfl gle_rfl
    · unfold own
      rw [if_neg (by dsimp only; omega), if_pos (by dsimp only; exact t6)]
      exact t2
  have ty : S 84 (24 + (p : Int)) = 4 ∨ S 84 (24 + (p : Int)) = 5 := by omega
  have e : sqI (S 84) p n v = bgL (cM (S 84) p) (S 84 (24 + (p : Int)) == 5) 7 (nuM (S 84) p) n v := by unfold sqI; rw [if_neg t3, if_neg t6]
  have e1 := y_seq h hp (n := n) (by omega) hs t6
  unfold sqN at e1
  rw [if_neg t3] at e1
  have e' : yM (S 84) p n = bgN (cM (S 84) p) (S 84 (24 + (p : Int)) == 5) n (nuM (S 84) p) n (cM (S 84) p n) := by
    rcases ev_to e1 with q | ⟨q, _⟩
    · exact q
    · rw [CC_eq] at q; omega
  obtain ⟨U, u1, u2, u3⟩ := c_findBag (v := v) h hp hs ty hn (by omega) (by rw [← e']; exact hv)
  rw [← e] at u2
  obtain ⟨xU, fU⟩ := hx.kp (u3.wide (by simp) (by simp))
  have mk : msk U S = U := msk_e (fun i a => u3.cell i (by simp; omega) (by simp; omega)) (u3.cell 0 (by decide) (by decide))
  rcases ty with t4 | t5
  · have st := e_cAlike u2 sml (by omega)
    have U60 : U 60 = S 60 := u3.cell 60 (by decide) (by decide)
    obtain ⟨V, hV⟩ : ∃ V, V = up U 60 6 ((t : Int) * ((chg (sqI (S 84) p n v) : Nat) : Int)) := ⟨_, rfl⟩
    have kV : kept [61, 62, 65, 66] [(60, 5), (60, 6), (60, 10), (60, 12)] U V := by rw [hV]; exact kept.rf.upF (by simp)
    obtain ⟨xV, fV⟩ := xU.kp kV
    have cV : ∀ i, i ≠ 60 → V i = U i := fun i a => by rw [hV, up_n a]
    have V60 : ∀ k : Int, k ≠ 6 → V 60 k = S 60 k := fun k a => by rw [hV, up_nk a, U60]
    obtain ⟨T, t1, t2, f1, g1⟩ := go V (t * chg (sqI (S 84) p n v)) xV (fU.trans fV) (u2.of (by rw [cV 61 (by decide)]) (cV 62 (by decide))) ((cV 66 (by decide)).trans (u3.cell 66 (by decide) (by decide))) ((cV 65 (by decide)).trans (u3.cell 65 (by decide) (by decide))) ⟨V60 12 (by decide), V60 10 (by decide), V60 5 (by decide)⟩ (by rw [hV, up_eq, Int.natCast_mul])
    refine ⟨T, ?_, ?_, f1⟩
    · refine entG_e ?_ f1.2.2.1
      rw [gd_t (by omega), nx_e, q3, gd_t (by omega), if_neg (by omega), if_neg (by omega), if_neg (by omega), if_neg (by omega), if_pos t4, bd1_e u1, nx_e, mk, bd1_e st, nx_e, U60, h6, ← hV]
      exact bdG1_e t1 g1 rfl gle_rfl
    · unfold own
      rw [if_pos (by dsimp only; exact t4)]
      exact t2
  · obtain ⟨T, t1, t2, f1, g1⟩ := go U t xU fU u2 (u3.cell 66 (by decide) (by decide)) (u3.cell 65 (by decide) (by decide)) ⟨u3 60 12 (by decide) (by decide), u3 60 10 (by decide) (by decide), u3 60 5 (by decide) (by decide)⟩ ((u3 60 6 (by decide) (by decide)).trans h6)
    refine ⟨T, ?_, ?_, f1⟩
    · refine entG_e ?_ f1.2.2.1
      rw [gd_t (by omega), nx_e, q3, gd_t (by omega), if_neg (by omega), if_neg (by omega), if_neg (by omega), if_neg (by omega), if_neg (by omega), if_pos t5, bd1_e u1, nx_e, mk]
      exact bdG1_e t1 g1 rfl gle_rfl
    · unfold own
      rw [if_neg (by dsimp only; omega), if_neg (by dsimp only; omega), Nat.mul_one]
      exact t2
