/-! the class's speller: spell, and what it keeps -/
def codT (e n v : Nat) : Int := ((((e * 8 + n) * 1024 + v : Nat)) : Int)
def isTh (M : Int → Int) (e n v : Nat) : Prop := (e : Int) < M 0 ∧ (n : Int) ≤ M 1 ∧ v < kM M e n ∧ kM M e n ≤ 200
/-- a thing spelled -/
def SpT (M : Int → Int) (S : St) (e n v : Nat) : Prop := WR S (tX M e n v) ∧ (S 60 5 = (tD M e n v : Int) ∧ S 60 6 = (tR M e n v : Int) ∧ S 60 7 = (((tmP M e n v).1 : Nat) : Int)) ∧ ∀ a : Nat, a < 26 → S 65 (a : Int) = (cnI (97 + (a : Int)) (tX M e n v) : Int)
/-- what the speller holds -/
def SpC (S : St) : Prop := ((∃ w, WR S w) ∧ inI (S 60 13) ∧ inI (S 60 14)) ∧ S 60 13 ≤ S 0 16 ∧ (S 60 13 = S 0 16 → ∃ e n v, isTh (S 84) e n v ∧ S 60 14 = codT e n v ∧ SpT (S 84) S e n v)
/-- what spelling leaves as it is -/
def GFr (S T : St) : Prop := (∀ (i : Nat) (k : Int), i < 105 → (i < 60 ∨ 66 < i) → (i ≠ 0 ∨ 0 ≤ k) → T i k = S i k) ∧ gle S T ∧ 256 * nn T + dl S + 512 * Rn S ≤ 256 * nn S + dl T + 512 * Rn T ∧ zz T + 2 * dl S + 1603 * Rn S = zz S + 2 * dl T + 1603 * Rn T
theorem GFr.cell {S T : St} (h : GFr S T) {i : Nat} (a : i < 105) (b : i < 60 ∨ 66 < i) (c : i ≠ 0) : T i = S i := funext fun k => h.1 i k a b (Or.inl c)
theorem SFr.g {S T : St} (h : SFr S T) : GFr S T := ⟨h.1, h.2.2⟩
theorem GFr.rf {S : St} : GFr S S := SFr.rf.g
theorem GFr.trans {S T U : St} (h : GFr S T) (k : GFr T U) : GFr S U := by
  obtain ⟨h1, h4, h5, h6⟩ := h
  obtain ⟨k1, k4, k5, k6⟩ := k
  exact ⟨fun i q a b c => (k1 i q a b c).trans (h1 i q a b c), ⟨Nat.le_trans h4.1 k4.1, Nat.le_trans h4.2 k4.2⟩, by omega, by omega⟩
theorem codT_inj {e n v e' n' v' : Nat} (h : codT e n v = codT e' n' v') (a : n < 8) (b : n' < 8) (c : v < 1024) (d : v' < 1024) : e = e' ∧ n = n' ∧ v = v' := by
  unfold codT at h
  omega
theorem e_fil65 {z : Int} : ∀ (d k f : Nat) (S : St), k + d = 26 → d < f → ∃ T, mJ7_fill_53178_65_5 z f (k : Int) S = some T ∧ kept [65] [] S T ∧ (∀ a : Nat, k ≤ a → a < 26 → T 65 (a : Int) = z) ∧ ∀ a : Nat, a < k → T 65 (a : Int) = S 65 (a : Int) := by
  intro d
  induction d with
  | zero =>
    intro k f S hk hf
    obtain ⟨f, rfl⟩ : ∃ f', f = f' + 1 := ⟨f - 1, by omega⟩
    refine ⟨S, ?_, kept.rf, fun a h1 h2 => by omega, fun a _ => rfl⟩
    rw [mJ7_fill_53178_65_5, gd_t (by omega), if_pos (by omega)]
  | succ d ih =>
    intro k f S hk hf
    obtain ⟨f, rfl⟩ : ∃ f', f = f' + 1 := ⟨f - 1, by omega⟩
    obtain ⟨T, t1, t2, t3, t4⟩ := ih (k + 1) f (up S 65 (k : Int) z) (by omega) (by omega)
    refine ⟨T, ?_, (kept.rf.upA (by simp)).trans t2, fun a h1 h2 => ?_, fun a h => ?_⟩
    · rw [mJ7_fill_53178_65_5, gd_t (by omega), if_neg (by omega), gd_t (by omega), nx_e, show (k : Int) + 1 = ((k + 1 : Nat) : Int) by omega]
      exact t1
    · by_cases e : a = k
      · subst e; rw [t4 a (by omega), up_eq]
      · exact t3 a (by omega) h2
    · rw [t4 a (by omega), up_nk (by omega)]
theorem c_spell {S : St} {e n v : Nat} (h : Cor S) (nex : NEX (S 84)) (sb : SPB (S 84)) (rc : RC S) (h0 : 105 ≤ nn S) (h16 : 0 ≤ S 0 16 ∧ S 0 16 ≤ 2147483647) (sc : SpC S) (ht : isTh (S 84) e n v) : ∃ T, mX9_spell S (e : Int) (n : Int) (v : Int) (S 0 16) = some T ∧ SpT (S 84) T e n v ∧ SpC T ∧ RC T ∧ GFr S T := by
  obtain ⟨⟨⟨w0, hw0⟩, i13, i14⟩, le13, hc⟩ := sc
  have ht' := ht
  obtain ⟨he, hn, hv, h2⟩ := ht
  have wf := h.wf
  have hM0 := wf.1
  have hM1 := wf.2.1
  have hE := wf.2.2.2.2.1 e he
  have code : (((e : Int) * 8 + (n : Int)) * 1024 + (v : Int)) = codT e n v := by unfold codT; omega
  have cI : inI (codT e n v) := by unfold codT; omega
  by_cases hit : S 0 16 = S 60 13 ∧ codT e n v = S 60 14
  · obtain ⟨e', n', v', y1, y2, y3⟩ := hc hit.1.symm
    obtain ⟨z1, z2, z3⟩ := codT_inj (hit.2.trans y2) (by omega) (by have := y1.2.1; omega) (by omega) (by have := y1.2.2; omega)
    subst z1; subst z2; subst z3
    refine ⟨S, ?_, y3, ⟨⟨⟨w0, hw0⟩, i13, i14⟩, le13, hc⟩, rc, GFr.rf⟩
    unfold mX9_spell
    refine entG_e ?_ gle_rfl
    rw [nx_e, code, gd_t ⟨by omega, i13⟩, if_pos hit.1, gd_t ⟨cI, i14⟩, if_pos hit.2, bd1_e rfl, if_pos rfl]
  · have tag : (gd ((inI (S 0 16)) ∧ (inI (S 60 13))) <| if (S 0 16) = (S 60 13) then (gd ((inI (codT e n v)) ∧ (inI (S 60 14))) <| if (codT e n v) = (S 60 14) then (some (0 : Nat)) else (some (1 : Nat))) else (some (1 : Nat))) = some (1 : Nat) := by
      rw [gd_t ⟨by omega, i13⟩]
      by_cases a : S 0 16 = S 60 13
      · rw [if_pos a, gd_t ⟨cI, i14⟩, if_neg (fun b => hit ⟨a, b⟩)]
      · rw [if_neg a]
    obtain ⟨P, hP⟩ : ∃ P, P = up (up (up (up (up (up (up (up S 60 13 (S 0 16)) 60 14 (codT e n v)) 60 4 0) 60 5 0) 60 6 1) 60 8 0) 60 10 0) 60 12 0 := ⟨_, rfl⟩
    obtain ⟨Q, q1, q2, q3, -⟩ := e_fil65 (z := 0) 26 0 FU P (by omega) (by unfold FU; omega)
    have cP : ∀ i, i ≠ 60 → P i = S i := fun i a => by rw [hP, up_n a, up_n a, up_n a, up_n a, up_n a, up_n a, up_n a, up_n a]
    have cQ : ∀ i, i ≠ 60 → i ≠ 65 → Q i = S i := fun i a b => (q2.cell i (by simp; omega) (by simp)).trans (cP i a)
    have Q60 : Q 60 = P 60 := q2.cell 60 (by decide) (by decide)
    have Q3 : Q 60 3 = S 60 3 := by rw [Q60, hP]; rfl
    have Q0 : Q 0 = S 0 := cQ 0 (by decide) (by decide)
    obtain ⟨E, e1, e2, -⟩ := hw0.e
    have eE : Q (S 60 3).toNat = S (S 60 3).toNat := by
      rw [e1]
      exact cQ E (by omega) (by omega)
    have dQ : dl Q = dl S := by unfold dl; rw [dl_of Q3 (fun _ => by rw [eE])]
    have gQ : GFr S Q := ⟨fun i k a b c => by rw [cQ i (by omega) (by omega)], gle_rf Q0, by rw [dQ, nn_of (by rw [Q0]), Rn_of (cQ 63 (by decide) (by decide))]; exact Nat.le_refl _, by rw [dQ, zz_of (by rw [Q0]), Rn_of (cQ 63 (by decide) (by decide))]⟩
    have mk : msk Q P = Q := msk_e (fun i a => q2.cell i (by simp; omega) (by simp)) (q2.cell 0 (by decide) (by decide))
    have wQ : WR Q [] := by
      obtain ⟨⟨h1, h2, h3⟩, ⟨h4, h5⟩, h6, h7, h8⟩ := hw0
      have d := dl_of (T := Q) Q3 (fun _ => by rw [eE])
      refine ⟨⟨?_, by rw [d, dQ]; exact h2, by rw [dQ]; exact h3⟩, ⟨by rw [Q60, hP]; rfl, Nat.zero_le _⟩, by rw [Q60, hP]; rfl, fun i q hq => (by cases hq), fun k hk => by rw [Q3, eE]; exact h8 k (by rw [← dQ]; exact hk)⟩
      rw [Q3]
      rcases h1 with z | ⟨z1, z2, z3⟩
      · exact Or.inl z
      · exact Or.inr ⟨z1, by rw [Q0]; exact z2, by rw [eE]; exact z3⟩
    have rQ : RC Q := rc.of h0 (cQ 63 (by decide) (by decide)) (cQ 84 (by decide) (by decide)) (by rw [Q0]) gQ.2.1.1 (fun i a _ _ => cQ i (by omega) (by omega))
    have cor : Cor Q := h.of (cQ 84 (by decide) (by decide)) (fun i a b => cQ i (by omega) (by omega)) (fun i a b => cQ i (by omega) (by omega))
    have xQ : Sx (S 84) Q [] := ⟨⟨cor, cQ 84 (by decide) (by decide), rQ⟩, ⟨Nat.le_trans h0 gQ.2.1.1, by rw [Q0]; exact h16.1, by rw [Q0]; exact h16.2, by rw [Q0, Q60, hP]; rfl⟩, wQ⟩
    have sQ : stk Q [] := ⟨by rw [Q60, hP]; rfl, fun j x hx => (by cases hx)⟩
    have e' : kM (S 84) e n = sm (cnE (S 84) e) (fun t => byM (S 84) e t n) := by
      rcases ev_to (k_terms h he (n := n) (by omega)) with q | ⟨q, _⟩
      · exact q
      · rw [CC_eq] at q; omega
    have hv2 := hv
    have h22 := h2
    rw [e'] at hv2 h22
    obtain ⟨sb1, sb2⟩ := sb
    obtain ⟨b1, b2, b3⟩ := sb2 e n v he hn hv h2
    obtain ⟨E', TE, rO, rT, rK, rk⟩ := h.rks
    obtain ⟨tt, u, a1, a2, a3, a4, a5, a6, a7⟩ := exI_ok h rk (show (0 : Int) ≤ 0 by omega) hE hn hv2 h22
    obtain ⟨T, t1, t2, t3, t4, t5, t6⟩ := c_spellExpr xQ sQ (show (0 : Int) ≤ 0 by omega) (by omega) hE hn hv2 h22 (by decide) (by rw [List.length_nil]; omega)
    rw [List.nil_append] at t2
    rw [List.append_nil] at t3
    obtain ⟨T2, hT2⟩ : ∃ T2, T2 = up T 60 7 (((tmP (S 84) e n v).1 : Nat) : Int) := ⟨_, rfl⟩
    have k7 : kept [] [(60, 7)] T T2 := by rw [hT2]; exact kept.rf.upF (by simp)
    have c7 : ∀ i, i ≠ 60 → T2 i = T i := fun i a => k7.cell i (by simp) (by simp; omega)
    obtain ⟨x7, f7⟩ : Sx (S 84) T2 (dgS (S 84) e n v) ∧ GFr T T2 := by
      have t3' : T2 60 3 = T 60 3 := k7 60 3 (by decide) (by decide)
      have t0' : T2 0 = T 0 := c7 0 (by decide)
      obtain ⟨E7, y1, y2, -⟩ := t2.2.2.e
      have yE : T2 (T 60 3).toNat = T (T 60 3).toNat := by
        rw [y1]
        exact c7 E7 (by omega)
      have d7 : dl T2 = dl T := by unfold dl; rw [dl_of t3' (fun _ => by rw [yE])]
      have g7 : GFr T T2 := ⟨fun i k a b c => by rw [c7 i (by omega)], gle_rf t0', by rw [d7, nn_of (by rw [t0']), Rn_of (c7 63 (by decide))]; exact Nat.le_refl _, by rw [d7, zz_of (by rw [t0']), Rn_of (c7 63 (by decide))]⟩
      obtain ⟨⟨z1, z2, z3⟩, ⟨z4, z5, z6, z7⟩, z8⟩ := t2
      exact ⟨⟨⟨z1.of (c7 84 (by decide)) (fun i a b => c7 i (by omega)) (fun i a b => c7 i (by omega)), (c7 84 (by decide)).trans z2, z3.of z4 (c7 63 (by decide)) (c7 84 (by decide)) (by rw [t0']) g7.2.1.1 (fun i a _ _ => c7 i (by omega))⟩, ⟨Nat.le_trans z4 g7.2.1.1, by rw [t0']; exact z5, by rw [t0']; exact z6, by rw [t0', k7 60 13 (by decide) (by decide)]; exact z7⟩, z8.of t3' (k7 60 4 (by decide) (by decide)) (k7 60 8 (by decide) (by decide)) (by rw [t0']; exact Int.le_refl _) yE⟩, g7⟩
    have hdg : ∀ a : Nat, a < 26 → cnI (97 + (a : Int)) (dgS (S 84) e n v) = 0 := fun a a26 => by
      unfold dgS
      split
      · rfl
      · have c10 := hE.1
        rw [a1]
        show (if 48 + (tt : Int) = 97 + (a : Int) then 1 else 0) + 0 = 0
        rw [if_neg (by omega)]
    have s2 : SpS (S 84) T2 (dgS (S 84) e n v) ((exI (S 84) e n v).map cdP ++ []) 0 0 1 := by
      rw [List.append_nil]
      refine ⟨x7, ⟨(k7 60 12 (by decide) (by decide)).trans t3.1, fun j x hx => by rw [k7.cell 66 (by decide) (by decide)]; exact t3.2 j x hx⟩, ⟨?_, ?_, ?_⟩, fun a a26 => ?_⟩
      · rw [k7 60 10 (by decide) (by decide), t6 10 (by decide) (by decide) (by decide) (by decide), Q60, hP]; rfl
      · rw [k7 60 5 (by decide) (by decide), t6 5 (by decide) (by decide) (by decide) (by decide), Q60, hP]; rfl
      · rw [k7 60 6 (by decide) (by decide), t6 6 (by decide) (by decide) (by decide) (by decide), Q60, hP]; rfl
      · rw [k7.cell 65 (by decide) (by decide), t5, q3 a (Nat.zero_le _) a26, hdg a a26]; rfl
    have all := c_node_all h rfl nex
    have hgB : hgL (exI (S 84) e n v) (hgN (S 84) 432) ≤ (exI (S 84) e n v).length + 1000 := hgL_le (fun y hy => (sb1 y (a7 y hy).1).1)
    have dpB : mxl (exI (S 84) e n v) (dpN (S 84) 432) ≤ hgL (exI (S 84) e n v) (hgN (S 84) 432) := mxl_hgL (fun y _ => dp_hg 432 y)
    have ldg : (dgS (S 84) e n v).length ≤ 1 := by
      unfold dgS
      split
      · exact Nat.zero_le _
      · exact Nat.le_refl _
    obtain ⟨V, v1, v2⟩ := c_nodes (exI (S 84) e n v) (fun y hy => all y (a7 y hy).1) T2 _ [] 0 0 1 s2 (by omega) (by omega) (by omega) (by rw [List.length_nil]; omega) (by rw [List.length_nil]; omega) (by omega)
    obtain ⟨xV, kV, ⟨V10, V5, V6⟩, Va⟩ := v1
    rw [Nat.zero_add, Nat.zero_max] at V5
    rw [Nat.one_mul] at V6
    have end' : mX9_spell_97 (FU - mvL (exI (S 84) e n v) (mvN (S 84) 432)) ((0 + mvL (exI (S 84) e n v) (mvN (S 84) 432) : Nat) : Int) V = some V := by
      obtain ⟨g, hg⟩ : ∃ g, FU - mvL (exI (S 84) e n v) (mvN (S 84) 432) = g + 1 := ⟨FU - mvL (exI (S 84) e n v) (mvN (S 84) 432) - 1, by unfold FU; omega⟩
      rw [hg, mX9_spell_97, gd_t (by omega), if_neg (by omega), kV.1, gd_t (by decide), if_pos (by decide)]
    have run := v2.2 _ 0 V end' gle_rfl (by omega)
    rw [show FU - mvL (exI (S 84) e n v) (mvN (S 84) 432) + mvL (exI (S 84) e n v) (mvN (S 84) 432) = FU by unfold FU; omega] at run
    have gV : GFr S V := gQ.trans ((t4.g.trans f7).trans v2.1.g)
    have V16 : V 0 16 = S 0 16 := gV.1 0 16 (by decide) (Or.inl (by decide)) (Or.inr (by decide))
    have V13 : V 60 13 = S 0 16 := by rw [v2.1.2.1.1, k7 60 13 (by decide) (by decide), t4.2.1.1, Q60, hP]; rfl
    have V14 : V 60 14 = codT e n v := by rw [v2.1.2.1.2.1, k7 60 14 (by decide) (by decide), t4.2.1.2.1, Q60, hP]; rfl
    have V7 : V 60 7 = (((tmP (S 84) e n v).1 : Nat) : Int) := by
      rw [v2.1.2.1.2.2, hT2, up_eq]
    have V84 : V 84 = S 84 := xV.1.2.1
    have spt : SpT (S 84) V e n v := ⟨xV.2.2, ⟨V5, V6, V7⟩, Va⟩
    refine ⟨V, ?_, spt, ⟨⟨⟨_, xV.2.2⟩, by rw [V13]; omega, by rw [V14]; exact cI⟩, by rw [V13, V16]; exact Int.le_refl _, fun _ => ⟨e, n, v, by rw [V84]; exact ht', V14, by rw [V84]; exact spt⟩⟩, xV.1.2.2, gV⟩
    unfold mX9_spell
    refine entG_e ?_ gV.2.1
    rw [nx_e, code, bd1_e tag, if_neg (by decide), nx_e, nx_e, nx_e, nx_e, nx_e, nx_e, nx_e, nx_e, ← hP]
    rw [bd1_e (show mJ7_fill_53178_65 P 0 = some Q by unfold mJ7_fill_53178_65; rw [bd1_e (show mJ7_fill_53178_65_5 0 FU 0 P = some Q from q1)]), nx_e, mk]
    refine bdG2_e t1 t4.2.2.1 ?_ (f7.trans v2.1.g).2.1
    rw [nx_e, ← hT2]
    exact bdG1_e run v2.1.2.2.1 rfl gle_rfl
