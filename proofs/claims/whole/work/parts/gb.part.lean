/-! the class's speller: a part opened -/
def SpS (M : Int → Int) (S : St) (w l : List Int) (o d t : Nat) : Prop := Sx M S w ∧ stk S l ∧ (S 60 10 = (o : Int) ∧ S 60 5 = (d : Int) ∧ S 60 6 = (t : Int)) ∧ ∀ a : Nat, a < 26 → S 65 (a : Int) = (cnI (97 + (a : Int)) w : Int)
theorem e_push {S : St} {l : List Int} {a : Int} (h : stk S l) (hl : l.length < 1100) : ∃ T, mX9_push S a = some T ∧ stk T (a :: l) ∧ kept [66] [(60, 12)] S T := by
  refine ⟨up (up S 66 ((l.length : Nat) : Int) a) 60 12 (((l.length : Nat) : Int) + 1), ?_, ?_, (kept.upA kept.rf (by simp)).upF (by simp)⟩
  · unfold mX9_push
    rw [h.1, gd_t (by omega), if_neg (by omega), gd_t (by omega), nx_e, up_n (by decide), h.1, nx_e]
  · refine stk_put (t := [a]) h ?_ (fun j x hx => ?_) (fun k hk => ?_)
    · rw [up_eq, List.length_append, List.length_singleton]; omega
    · rw [up_n (by decide)]
      cases j with
      | zero =>
        have : a = x := Option.some.inj hx
        rw [← this, show (([a] : List Int).length - 1 - 0) = 0 from rfl, Nat.add_zero, up_eq]
      | succ j => cases hx
    · rw [up_n (by decide), up_nk (by omega)]
theorem c_sS68 {M : Int → Int} {p : Nat} {L : List (Nat × Nat)} (hp : p < 24) (hL : L.length ≤ 8) (hs : ∀ y ∈ L, y.1 ≤ 7 ∧ y.2 ≤ 1023) : ∀ (k f : Nat) (S : St) (l : List Int), k ≤ L.length → k < f → cds S L → S 5 (p : Int) = ((chM M p : Nat) : Int) → stk S l → l.length + k ≤ 1100 → ∃ T, mX9_spellSequence_68 (p : Int) f ((k : Int) - 1) S = some T ∧ stk T ((L.take k).map (fun y => cdP (chM M p, y.1, y.2)) ++ l) ∧ kept [66] [(60, 12)] S T := by
  intro k
  induction k with
  | zero =>
    intro f S l _ hf _ _ hk _
    obtain ⟨f, rfl⟩ : ∃ f', f = f' + 1 := ⟨f - 1, by omega⟩
    refine ⟨S, ?_, hk, kept.rf⟩
    rw [mX9_spellSequence_68, gd_t (by omega), if_pos (by omega)]
  | succ k ih =>
    intro f S l hkL hf hc h5 hk hl
    obtain ⟨f, rfl⟩ : ∃ f', f = f' + 1 := ⟨f - 1, by omega⟩
    obtain ⟨y, hy⟩ : ∃ y, L[k]? = some y := ⟨L[k], List.getElem?_eq_getElem (by omega)⟩
    have ys := hs y (List.mem_of_getElem? hy)
    have c := hc.2 k y hy
    have cv : ((cdN y : Nat) : Int) / 1024 = (y.1 : Int) ∧ ((cdN y : Nat) : Int) % 1024 = (y.2 : Int) ∧ cdN y ≤ 8191 := by unfold cdN; omega
    obtain ⟨U, u1, u2, u3⟩ := e_push (a := cdP (chM M p, y.1, y.2)) hk (by omega)
    have mk : msk U S = U := msk_e (fun i a => u3.cell i (by simp; omega) (by simp; omega)) (u3.cell 0 (by decide) (by decide))
    have c61 : U 61 = S 61 := u3.cell 61 (by decide) (by decide)
    have c62 : U 62 = S 62 := u3.cell 62 (by decide) (by decide)
    have c5 : U 5 = S 5 := u3.cell 5 (by decide) (by decide)
    obtain ⟨T, t1, t2, t3⟩ := ih f U (cdP (chM M p, y.1, y.2) :: l) (by omega) (by omega) (hc.of (by rw [c61]) c62) (by rw [c5]; exact h5) u2 (by rw [List.length_cons]; omega)
    refine ⟨T, ?_, ?_, u3.trans t3⟩
    · rw [mX9_spellSequence_68, gd_t (by omega), if_neg (by omega), gd_t (by omega), nx_e, show ((k + 1 : Nat) : Int) - 1 = (k : Int) by omega, c, gd_t (by omega), cv.1, cv.2.1, h5]
      rw [show (((chM M p : Nat) : Int) * 8 + (y.1 : Int)) * 1024 + (y.2 : Int) = cdP (chM M p, y.1, y.2) by unfold cdP; dsimp only; omega, bd1_e u1, nx_e, mk]
      exact t1
    · rw [List.take_succ, hy, List.map_append, List.append_assoc]
      exact t2
theorem op_ne {t : Int} {a : Nat} (ha : a < 26) : opS t ≠ 97 + (a : Int) ∧ clS t ≠ 97 + (a : Int) ∧ (0 ≤ opS t ∧ opS t ≤ 127) ∧ (1 ≤ clS t ∧ clS t ≤ 127) := by
  unfold opS clS
  split
  · omega
  · split
    · omega
    · split <;> omega
theorem cn_one {c : Int} {w : List Int} {a : Nat} (h : c ≠ 97 + (a : Int)) : cnI (97 + (a : Int)) (w ++ [c]) = cnI (97 + (a : Int)) w := by
  rw [cnI_app]
  show _ + ((if c = 97 + (a : Int) then 1 else 0) + 0) = _
  rw [if_neg h]
  exact Nat.add_zero _
theorem c_spellSeq {M : Int → Int} {S : St} {w l : List Int} {o d t p : Nat} {L : List (Nat × Nat)} (hS : SpS M S w l o d t) (hp : (p : Int) < M 2) (hs : isSq M p) (hc : cds S L) (hL : L.length ≤ 7) (hsm : ∀ y ∈ L, y.1 ≤ 7 ∧ y.2 ≤ 1023) (hl : l.length + 1 + L.length ≤ 1100) (ho : o ≤ 1100) (hd : d ≤ 1100) (hw : w.length < 1048576) : ∃ T, mX9_spellSequence S (p : Int) = some T ∧ SpS M T (w ++ [opS (M (24 + (p : Int)))]) (L.map (fun y => cdP (chM M p, y.1, y.2)) ++ (-clS (M (24 + (p : Int))) :: l)) (o + 1) (max d (o + 1)) t ∧ SFr S T := by
  obtain ⟨hx, hk, ⟨h10, h5, h6⟩, ha⟩ := hS
  have e84 := hx.1.2.1
  subst e84
  obtain ⟨q3, q4, q5, q24, qp, -⟩ := gm_sq hx.1.1 hp hs
  obtain ⟨U, hU⟩ : ∃ U, U = up (up S 60 10 ((o : Int) + 1)) 60 5 (max (d : Int) ((o : Int) + 1)) := ⟨_, rfl⟩
  have kU : kept [] [(60, 5), (60, 10)] S U := by rw [hU]; exact (kept.rf.upF (by simp)).upF (by simp)
  obtain ⟨xU, fU⟩ := hx.kp (kU.mono (by simp) (by simp))
  have cU : ∀ i, i ≠ 60 → U i = S i := fun i a => kU.cell i (by simp) (by simp; omega)
  obtain ⟨V, v1, v2, v3, ⟨v61, v62, v65, v66⟩, v60⟩ := xU.put (c := opS (S 84 (24 + (p : Int)))) (op_ne (a := 0) (by decide)).2.2.1 hw
  have kV : stk V l := ⟨by rw [v60 12 (by decide) (by decide) (by decide), kU 60 12 (by decide) (by decide)]; exact hk.1, fun j x hj => by rw [v66, cU 66 (by decide)]; exact hk.2 j x hj⟩
  obtain ⟨X, x1, x2, x3⟩ := e_push (a := -clS (S 84 (24 + (p : Int)))) kV (by omega)
  have mk : msk X V = X := msk_e (fun i a => x3.cell i (by simp; omega) (by simp; omega)) (x3.cell 0 (by decide) (by decide))
  have V3 : V 3 = S 3 := (v3.cell (by decide) (Or.inl (by decide)) (by decide)).trans (cU 3 (by decide))
  have V5 : V 5 = S 5 := (v3.cell (by decide) (Or.inl (by decide)) (by decide)).trans (cU 5 (by decide))
  have X61 : X 61 = S 61 := (x3.cell 61 (by decide) (by decide)).trans (v61.trans (cU 61 (by decide)))
  have X62 : X 62 = S 62 := (x3.cell 62 (by decide) (by decide)).trans (v62.trans (cU 62 (by decide)))
  have X5 : X 5 = S 5 := (x3.cell 5 (by decide) (by decide)).trans V5
  obtain ⟨T, t1, t2, t3⟩ := c_sS68 (M := S 84) qp (by omega) hsm L.length FU X (-clS (S 84 (24 + (p : Int))) :: l) (Nat.le_refl _) (by unfold FU; omega) (hc.of (by rw [X61]) X62) (by rw [X5]; exact q5) x2 (by rw [List.length_cons]; omega)
  rw [List.take_length] at t2
  have k2 := x3.trans t3
  obtain ⟨xT, fT⟩ := v2.kp (k2.mono (by simp) (by simp))
  have c60 : ∀ k : Int, k ≠ 3 → k ≠ 4 → k ≠ 8 → k ≠ 12 → T 60 k = U 60 k := fun k a b c e => (k2 60 k (by decide) (by simp; exact e)).trans (v60 k a b c)
  refine ⟨T, ?_, ⟨xT, t2, ⟨?_, ?_, ?_⟩, fun a a26 => ?_⟩, (fU.trans v3).trans fT⟩
  · unfold mX9_spellSequence
    refine entG_e ?_ ((fU.trans v3).trans fT).2.2.1
    rw [nx_e, up_eq, up_nk (by decide), h5, h10, gd_t ⟨by omega, by omega⟩, nx_e, gd_t (by omega), ← hU, cU 3 (by decide), q3]
    have op : mX11_openSign (S 84 (24 + (p : Int))) = some (opS (S 84 (24 + (p : Int)))) := by
      unfold isSq at hs
      unfold mX11_openSign opS
      rw [gd_t (by omega)]
      split
      · rfl
      · split
        · rfl
        · split <;> rfl
    have cl : mX11_closeSign (S 84 (24 + (p : Int))) = some (clS (S 84 (24 + (p : Int)))) := by
      unfold isSq at hs
      unfold mX11_closeSign clS
      rw [gd_t (by omega)]
      split
      · rfl
      · split
        · rfl
        · split <;> rfl
    rw [bd1_e op]
    refine bdG1_e v1 v3.2.2.1 ?_ fT.2.2.1
    rw [V3, q3, bd1_e cl, bd1_e x1, nx_e, mk, X61, hc.1, nx_e, bd1_e t1]
  · rw [c60 10 (by decide) (by decide) (by decide) (by decide), hU, up_nk (by decide), up_eq]; omega
  · rw [c60 5 (by decide) (by decide) (by decide) (by decide), hU, up_eq]; omega
  · rw [c60 6 (by decide) (by decide) (by decide) (by decide), kU 60 6 (by decide) (by decide)]; exact h6
  · rw [k2.cell 65 (by decide) (by decide), v65, cU 65 (by decide), ha a a26, cn_one (op_ne a26).1]
/-- a name, a group: the terms -/
theorem nm_ok {S : St} (h : Cor S) {x : Nat × Nat × Nat} (hx : VN (S 84) x) (ty : S 84 (24 + (x.1 : Int)) = 2 ∨ S 84 (24 + (x.1 : Int)) = 7) : ∃ lo : Int, 0 ≤ lo ∧ exN (S 84) x.1 < 30 ∧ okE (S 84) lo (exN (S 84) x.1) ∧ x.2.2 < sm (cnE (S 84) (exN (S 84) x.1)) (fun t => byM (S 84) (exN (S 84) x.1) t x.2.1) ∧ sm (cnE (S 84) (exN (S 84) x.1)) (fun t => byM (S 84) (exN (S 84) x.1) t x.2.1) ≤ 200 ∧ mX2_exprOf_2 S (x.1 : Int) = some ((exN (S 84) x.1 : Nat) : Int) ∧ x.1 < 24 := by
  obtain ⟨p, n, v⟩ := x
  obtain ⟨hp, hn, hv, h2⟩ := hx
  dsimp only at hp hn hv h2 ty ⊢
  have w := h.wf
  have hM0 := w.1
  have hM1 := w.2.1
  have hM2 := w.2.2.1
  obtain ⟨ok1, ok2, ok3, ok4, ok5, ok6⟩ := w.2.2.2.1 p hp
  obtain ⟨g1, g2, g3, g4, g5, g6⟩ := h.gm.2.1 p hp
  have fin : ∀ {lo : Int}, ev (yM (S 84) p n) (sm (cnE (S 84) (exN (S 84) p)) (fun t => byM (S 84) (exN (S 84) p) t n)) → v < sm (cnE (S 84) (exN (S 84) p)) (fun t => byM (S 84) (exN (S 84) p) t n) ∧ sm (cnE (S 84) (exN (S 84) p)) (fun t => byM (S 84) (exN (S 84) p) t n) ≤ 200 := by
    intro lo he
    have e' : yM (S 84) p n = sm (cnE (S 84) (exN (S 84) p)) (fun t => byM (S 84) (exN (S 84) p) t n) := by
      rcases ev_to he with q | ⟨q, _⟩
      · exact q
      · rw [CC_eq] at q; omega
    rw [← e']; exact ⟨hv, h2⟩
  by_cases t2 : S 84 (24 + (p : Int)) = 2
  · have k := ok4 t2
    have ek : ((exN (S 84) p : Nat) : Int) = S 84 (48 + (p : Int)) := by unfold exN; omega
    obtain ⟨f1, f2⟩ := fin (lo := 0) (by
      rw [y_name h hp (by omega) t2]
      exact k_terms h (show (((S 84 (48 + (p : Int))).toNat : Nat) : Int) < S 84 0 by omega) (by omega))
    refine ⟨0, by omega, by omega, w.2.2.2.2.1 _ (by omega), f1, f2, ?_, by omega⟩
    unfold mX2_exprOf_2
    rw [g1, gd_t (by omega), gd_t (by omega), if_pos t2, g3 (by omega), ek]
  · have t7 : S 84 (24 + (p : Int)) = 7 := by omega
    obtain ⟨k1, k2, k3⟩ := ok5 t7
    have ek : exN (S 84) p = 6 + p := by unfold exN; omega
    obtain ⟨f1, f2⟩ := fin (lo := 0) (by rw [ek]; exact y_group h hp (by omega) t7)
    refine ⟨(p : Int) + 1, by omega, by omega, by rw [ek]; exact k3, f1, f2, ?_, by omega⟩
    unfold mX2_exprOf_2
    rw [g1, gd_t (by omega), gd_t (by omega), if_neg t2, ek]
    exact congrArg some (by omega)
