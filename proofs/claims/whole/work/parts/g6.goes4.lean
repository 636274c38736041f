/-! the reference goes through a thing: any part; a whole thing -/
theorem HR_all {S : St} {E TE : Nat → Prop} {rO rT rK : Nat → Nat} (h : Cor S) (rk : RKs (S 84) E TE rO rT rK) : ∀ f g : Nat, 2 * f ≤ g → HR (S 84) rO f g := by
  have w := h.wf
  have hM1 := w.2.1
  have hM2 := w.2.2.1
  intro f
  induction f with
  | zero => intro g _ x nest base l T _ hm; omega
  | succ f ih =>
    intro g hg x nest base l T hx hm hP hb hb2 hn2 hl
    obtain ⟨g, rfl⟩ : ∃ g', g = g' + 2 := ⟨g - 2, by omega⟩
    have hr := ih g (by omega)
    have rk' := rk
    obtain ⟨p, n, v⟩ := x
    obtain ⟨hp, hn, hv, h2⟩ := id hx
    dsimp only at hp hn hv h2 hb2 ⊢
    obtain ⟨ok1, ok2, ok3, ok4, ok5, ok6⟩ := w.2.2.2.1 p hp
    have io := itm_ok h rk hx
    have e84 : T 84 = S 84 := hP.1.1
    have st : RX12_goesExpr (g + 2) 2 (p : Int) (n : Int) (v : Int) (nest : Int) T = bX12_goesPart (RX12_goesExpr (g + 1)) T (p : Int) (n : Int) (v : Int) (nest : Int) := by
      show (if (2 : Nat) = 0 then _ else if (2 : Nat) = 1 then _ else if (2 : Nat) = 2 then bX12_goesPart (RX12_goesExpr (g + 1)) T (p : Int) (n : Int) (v : Int) (nest : Int) else _) = _
      rw [if_neg (by decide), if_neg (by decide), if_pos rfl]
    have eTx : txt (S 84) (f + 1) (p, n, v) = hdS (S 84) (p, n, v) ++ (cat (itm (S 84) (p, n, v)) (txt (S 84) f) ++ tlS (S 84) (p, n, v)) := rfl
    have eR : trn (S 84) (f + 1) (p, n, v) = own (S 84) (p, n, v) * prd (itm (S 84) (p, n, v)) (trn (S 84) f) := rfl
    have eD : dpN (S 84) (f + 1) (p, n, v) = (if isQb (S 84) p then 1 else 0) + mxl (itm (S 84) (p, n, v)) (dpN (S 84) f) := rfl
    -- a name, brackets
    have close : ∀ lo : Int, 0 ≤ lo → (S 84 (24 + (p : Int)) = 2 ∨ S 84 (24 + (p : Int)) = 7) → okE (S 84) lo (exN (S 84) p) → exN (S 84) p < 30 → S 84 (48 + (p : Int)) = ((exN (S 84) p : Nat) : Int) → ev (yM (S 84) p n) (sm (cnE (S 84) (exN (S 84) p)) (fun t => byM (S 84) (exN (S 84) p) t n)) → ∃ T', RX12_goesExpr (g + 1) 0 (S 84 (48 + (p : Int))) (n : Int) (v : Int) (nest : Int) T = some T' ∧ EF T T' nest (txt (S 84) (f + 1) (p, n, v)) (trn (S 84) (f + 1) (p, n, v)) (dpN (S 84) (f + 1) (p, n, v)) := by
      intro lo hlo ty hE he e48 hev
      have e' : yM (S 84) p n = sm (cnE (S 84) (exN (S 84) p)) (fun t => byM (S 84) (exN (S 84) p) t n) := by
        rcases ev_to hev with q | ⟨q, _⟩
        · exact q
        · rw [CC_eq] at q; omega
      have ei : itm (S 84) (p, n, v) = exI (S 84) (exN (S 84) p) n v := by
        unfold itm
        rw [if_neg (by dsimp only; omega), if_pos ty]
      have eh : hdS (S 84) (p, n, v) = dgS (S 84) (exN (S 84) p) n v := by
        unfold hdS
        rw [if_neg (by dsimp only; omega), if_neg (by dsimp only; omega), if_pos ty]
      have ib : isQb (S 84) p = false := decide_eq_false (by omega)
      have et : tlS (S 84) (p, n, v) = [] := by
        unfold tlS
        rw [ib, if_neg Bool.false_ne_true]
      have eo : own (S 84) (p, n, v) = 1 := by
        unfold own
        rw [if_neg (by dsimp only; omega), if_neg (by dsimp only; omega)]
      rw [eTx, eh, ei, et, List.append_nil] at hl
      rw [eTx, eR, eD, eh, ei, et, eo, ib, if_neg Bool.false_ne_true, List.append_nil, Nat.one_mul, Nat.zero_add, e48]
      have h27 := hP.2.2.2.2.2
      have us : up T 83 27 (if 0 ≤ T 83 27 then T 83 27 else (((tmP (S 84) (exN (S 84) p) n v).1 : Nat) : Int)) = T := by
        rw [if_pos h27.1]; exact up_same
      obtain ⟨T', t1, t2⟩ := e_expr (base := base) (nest := nest) (l := l) h rk hr he hlo hE hn (by rw [← e']; exact hv) (by rw [← e']; exact h2) (fun y hy => by
        rw [← ei] at hy
        obtain ⟨i1, i2, i3⟩ := io y hy
        have i3' : y.2.1 ≤ n := i3
        exact ⟨by omega, by omega, by omega⟩) (by omega) (by rw [us]; exact hP) hb hl
      rw [us] at t2
      exact ⟨T', t1, t2⟩
    rw [st]
    unfold bX12_goesPart
    rw [gd_t (by omega), e84, nx_e, gd_t (by omega)]
    by_cases t0 : S 84 (24 + (p : Int)) = 0
    · have a3 := ok3 t0
      have a24 := hP.2.2.2.2.1
      have ei : itm (S 84) (p, n, v) = [] := by unfold itm; rw [if_pos (by dsimp only; omega)]
      have eh : hdS (S 84) (p, n, v) = [97 + S 84 (48 + (p : Int))] := by unfold hdS; rw [if_pos t0]
      have ib : isQb (S 84) p = false := decide_eq_false (by omega)
      have et : tlS (S 84) (p, n, v) = [] := by unfold tlS; rw [ib, if_neg Bool.false_ne_true]
      have eo : own (S 84) (p, n, v) = 1 := by unfold own; rw [if_neg (by dsimp only; omega), if_neg (by dsimp only; omega)]
      rw [eTx, eh, ei, et] at hl
      rw [eTx, eR, eD, eh, ei, et, eo, ib, if_neg Bool.false_ne_true]
      have l1 : l ≤ 2000000000 := by omega
      obtain ⟨T', t1, t2⟩ := EF.atom (a := S 84 (48 + (p : Int))) hP.2.2.1 l1 hP.2.2.2.1 hP.2.1.1
      refine ⟨T', ?_, t2⟩
      have z6 : (gd ((inI (S 84 (48 + (p : Int)))) ∧ (inI (T 83 24))) <| if S 84 (48 + (p : Int)) = T 83 24 then some (1 : Int) else some 0) = some (if S 84 (48 + (p : Int)) = T 83 24 then 1 else 0) := by
        rw [gd_t ⟨by omega, by omega⟩]; split <;> rfl
      rw [if_pos t0, gd_t (by omega), bd1_e z6, nx_e, up_n (show 84 ≠ 83 by decide), e84, bd1_e t1]
    rw [if_neg t0]
    by_cases t1 : S 84 (24 + (p : Int)) = 1
    · have a24 := hP.2.2.2.2.1
      have ei : itm (S 84) (p, n, v) = [] := by unfold itm; rw [if_pos (by dsimp only; omega)]
      have eh : hdS (S 84) (p, n, v) = [45] := by unfold hdS; rw [if_neg (by dsimp only; omega), if_pos t1]
      have ib : isQb (S 84) p = false := decide_eq_false (by omega)
      have et : tlS (S 84) (p, n, v) = [] := by unfold tlS; rw [ib, if_neg Bool.false_ne_true]
      have eo : own (S 84) (p, n, v) = 1 := by unfold own; rw [if_neg (by dsimp only; omega), if_neg (by dsimp only; omega)]
      rw [eTx, eh, ei, et] at hl
      rw [eTx, eR, eD, eh, ei, et, eo, ib, if_neg Bool.false_ne_true]
      have l1 : l ≤ 2000000000 := by omega
      obtain ⟨T', u1, u2⟩ := EF.sign (c := 45) hP.2.2.1 l1 hP.2.2.2.1 hP.2.1.1 (by omega)
      refine ⟨T', ?_, u2⟩
      rw [if_pos t1, bd1_e u1]
    rw [if_neg t1]
    by_cases t2 : S 84 (24 + (p : Int)) = 2
    · have k := ok4 t2
      have ek : ((exN (S 84) p : Nat) : Int) = S 84 (48 + (p : Int)) := by unfold exN; omega
      have hM0 := w.1
      obtain ⟨T', u1, u2⟩ := close 0 (by omega) (Or.inl t2) (w.2.2.2.2.1 _ (by omega)) (by omega) ek.symm (by
        rw [y_name h hp (by omega) t2]
        exact k_terms h (show (((S 84 (48 + (p : Int))).toNat : Nat) : Int) < S 84 0 by omega) (by omega))
      refine ⟨T', ?_, u2⟩
      rw [if_pos t2, gd_t (by omega), bd1_e u1]
    rw [if_neg t2]
    by_cases t7 : S 84 (24 + (p : Int)) = 7
    · obtain ⟨k1, k2, k3⟩ := ok5 t7
      have ek : exN (S 84) p = 6 + p := by unfold exN; omega
      obtain ⟨T', u1, u2⟩ := close ((p : Int) + 1) (by omega) (Or.inr t7) (by rw [ek]; exact k3) (by omega) (by rw [ek]; omega) (by rw [ek]; exact y_group h hp (by omega) t7)
      refine ⟨T', ?_, u2⟩
      rw [if_neg (by omega), if_neg (by omega), if_neg (by omega), if_neg (by omega), if_pos t7, gd_t (by omega), bd1_e u1]
    · have hs : isSq (S 84) p := by unfold isSq; omega
      obtain ⟨T', u1, u2⟩ := e_goIn h rk hr hx hs hm hP hb hb2 hn2 hl
      refine ⟨T', ?_, u2⟩
      rcases (show S 84 (24 + (p : Int)) = 3 ∨ S 84 (24 + (p : Int)) = 4 ∨ S 84 (24 + (p : Int)) = 5 ∨ S 84 (24 + (p : Int)) = 6 by omega) with q | q | q | q
      · rw [if_pos q, bd1_e u1]
      · rw [if_neg (by omega), if_pos q, bd1_e u1]
      · rw [if_neg (by omega), if_neg (by omega), if_pos q, bd1_e u1]
      · rw [if_neg (by omega), if_neg (by omega), if_neg (by omega), if_pos q, bd1_e u1]
/-- a thing of a kind: its signs, its turns, how deep -/
def tX (M : Int → Int) (e n v : Nat) : List Int := dgS M e n v ++ cat (exI M e n v) (txt M 432)
def tR (M : Int → Int) (e n v : Nat) : Nat := prd (exI M e n v) (trn M 432)
def tD (M : Int → Int) (e n v : Nat) : Nat := mxl (exI M e n v) (dpN M 432)
/-- what the reference knows of it -/
def gone (M : Int → Int) (T T' : St) (e n v : Nat) (i a : Int) : Prop := (T' 83 20 = ((tX M e n v).length : Int) ∧ T' 83 22 = foF i (tX M e n v) 0 (-1) ∧ T' 96 = spF (tX M e n v) 0 (T 96)) ∧ (T' 83 23 = (tD M e n v : Int) ∧ T' 83 25 = (cnI (97 + a) (tX M e n v) : Int) ∧ T' 83 26 = (tR M e n v : Int) ∧ T' 83 27 = (((tmP M e n v).1 : Nat) : Int)) ∧ kept [96, 97, 98] [(83, 20), (83, 21), (83, 22), (83, 23), (83, 24), (83, 25), (83, 26), (83, 27), (83, 31), (83, 32)] T T'
theorem w_goes {S T : St} {e n v : Nat} {i a : Int} (h : Cor S) (hT : cnt (S 84) (-1) T) (he : (e : Int) < S 84 0) (hn : (n : Int) ≤ S 84 1) (hv : v < kM (S 84) e n) (h2 : kM (S 84) e n ≤ 200) (hi : inI i) (ha : -1 ≤ a ∧ a ≤ 25) (hl : (tX (S 84) e n v).length ≤ 2000000000) : ∃ T', mX12_goes T (e : Int) (n : Int) (v : Int) i a = some T' ∧ gone (S 84) T T' e n v i a := by
  have w := h.wf
  have hM0 := w.1
  have hM1 := w.2.1
  obtain ⟨E, TE, rO, rT, rK, rk⟩ := h.rks
  have hE := w.2.2.2.2.1 e he
  have e' : kM (S 84) e n = sm (cnE (S 84) e) (fun t => byM (S 84) e t n) := by
    rcases ev_to (k_terms h he (n := n) (by omega)) with q | ⟨q, _⟩
    · exact q
    · rw [CC_eq] at q; omega
  rw [e'] at hv h2
  obtain ⟨t, u, a1, a2, a3, a4, a5, a6, a7⟩ := exI_ok h rk (show (0 : Int) ≤ 0 by omega) hE hn hv h2
  obtain ⟨U, hU⟩ : ∃ U, U = up (up (up (up (up (up (up (up (up T 83 20 0) 83 21 i) 83 22 (-1)) 83 23 0) 83 24 a) 83 25 0) 83 26 1) 83 27 (-1)) 83 31 0 := ⟨_, rfl⟩
  have uc : ∀ j, j ≠ 83 → U j = T j := fun j hj => by rw [hU, up_n hj, up_n hj, up_n hj, up_n hj, up_n hj, up_n hj, up_n hj, up_n hj, up_n hj]
  have u20 : U 83 20 = 0 := by rw [hU]; rfl
  have u21 : U 83 21 = i := by rw [hU]; rfl
  have u22 : U 83 22 = -1 := by rw [hU]; rfl
  have u23 : U 83 23 = 0 := by rw [hU]; rfl
  have u24 : U 83 24 = a := by rw [hU]; rfl
  have u25 : U 83 25 = 0 := by rw [hU]; rfl
  have u26 : U 83 26 = 1 := by rw [hU]; rfl
  have u27 : U 83 27 = -1 := by rw [hU]; rfl
  have u31 : U 83 31 = 0 := by rw [hU]; rfl
  have kU : kept [96, 97, 98] [(83, 20), (83, 21), (83, 22), (83, 23), (83, 24), (83, 25), (83, 26), (83, 27), (83, 31), (83, 32)] T U := by
    rw [hU]
    exact ((((((((kept.rf.upF (by decide)).upF (by decide)).upF (by decide)).upF (by decide)).upF (by decide)).upF (by decide)).upF (by decide)).upF (by decide)).upF (by decide)
  have hz : (if 0 ≤ U 83 27 then U 83 27 else (((tmP (S 84) e n v).1 : Nat) : Int)) = (t : Int) := by
    rw [u27, if_neg (by decide), a1]
  have oe := hE.1
  have pr : PR (S 84) (up U 83 27 (if 0 ≤ U 83 27 then U 83 27 else (((tmP (S 84) e n v).1 : Nat) : Int))) 0 0 := by
    rw [hz]
    refine ⟨hT.of (by rw [up_n (by decide), uc 84 (by decide)]) (by rw [up_n (by decide), uc 90 (by decide)]) (by rw [up_n (by decide), uc 91 (by decide)]), ⟨?_, ?_⟩, ?_, ?_, ?_, ?_⟩
    · rw [up_nk (by decide), u23]; exact Int.le_refl _
    · rw [up_nk (by decide), u23]; decide
    · rw [up_nk (by decide), u20]; rfl
    · rw [up_nk (by decide), u21]; exact hi
    · rw [up_nk (by decide), u24]; exact ha
    · rw [up_eq]; omega
  obtain ⟨T', t1, t2⟩ := e_expr (f := 432) (g := 899) (base := 0) (nest := 0) (l := 0) h rk (HR_all h rk 432 899 (by omega)) (show e < 30 by omega) (show (0 : Int) ≤ 0 by omega) hE hn hv h2 (fun y hy => by
    obtain ⟨b1, b2, b3⟩ := a7 y hy
    have r1 := rk.2.1 y.1 b1.1
    have : ms rO y = 54 * y.2.1 + rO y.1 := rfl
    exact ⟨by omega, by omega, by omega⟩) (by rw [u27]; decide) pr (by rw [u31]; rfl) (by rw [Nat.zero_add]; exact hl)
  rw [hz] at t2
  obtain ⟨⟨x1, x2, x3⟩, ⟨x4, x5, x6⟩, -, x9⟩ := t2
  refine ⟨T', ?_, ⟨?_, ?_, ?_⟩, ⟨?_, ?_, ?_, ?_⟩, ?_⟩
  · unfold mX12_goes
    rw [nx_e, nx_e, nx_e, nx_e, nx_e, nx_e, nx_e, nx_e, nx_e, gd_t (by omega), ← hU]
    unfold mX12_goesExpr
    rw [bd1_e (show RX12_goesExpr 900 0 (e : Int) (n : Int) (v : Int) 0 U = _ from t1)]
  · rw [x1, up_nk (by decide), u20, Int.zero_add]; rfl
  · rw [x2, up_nk (by decide), up_nk (by decide), up_nk (by decide), u20, u21, u22]; rfl
  · rw [x3, up_nk (by decide), up_n (by decide), u20, uc 96 (by decide)]; rfl
  · rw [x4, up_nk (by decide), u23]
    show max 0 ((0 + tD (S 84) e n v : Nat) : Int) = _
    omega
  · rw [x5, up_nk (by decide), up_nk (by decide), u25, u24, Int.zero_add]; rfl
  · rw [x6, up_nk (by decide), u26, Int.one_mul]; rfl
  · rw [x9 83 27 (by decide) (by decide), up_eq, a1]
  · exact (kept.upF kU (by decide)).trans (x9.mono (by simp) (by simp))
