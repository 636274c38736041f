/-! the class's speller: its state; an expression opened -/
theorem msk_e {S T : St} (a : ∀ i, 105 ≤ i → T i = S i) (b : T 0 = S 0) : msk T S = T := by
  funext i
  unfold msk
  by_cases i1 : i < 105
  · rw [if_pos i1]
    by_cases i0 : i = 0
    · subst i0
      rw [if_pos rfl]
      funext k
      by_cases z : k < 0
      · rw [if_pos z, b]
      · rw [if_neg z]
    · rw [if_neg i0]
  · rw [if_neg i1, a i (by omega)]
/-- what spelling leaves as it is -/
def SFr (S T : St) : Prop :=
  (∀ (i : Nat) (k : Int), i < 105 → (i < 60 ∨ 66 < i) → (i ≠ 0 ∨ 0 ≤ k) → T i k = S i k) ∧
  (T 60 13 = S 60 13 ∧ T 60 14 = S 60 14 ∧ T 60 7 = S 60 7) ∧ gle S T ∧
  256 * nn T + dl S + 512 * Rn S ≤ 256 * nn S + dl T + 512 * Rn T ∧ zz T + 2 * dl S + 1603 * Rn S = zz S + 2 * dl T + 1603 * Rn T
theorem SFr.rf {S : St} : SFr S S := ⟨fun _ _ _ _ _ => rfl, ⟨rfl, rfl, rfl⟩, gle_rfl, Nat.le_refl _, rfl⟩
theorem SFr.trans {S T U : St} (h : SFr S T) (k : SFr T U) : SFr S U := by
  obtain ⟨h1, ⟨h2, h3, h7⟩, h4, h5, h6⟩ := h
  obtain ⟨k1, ⟨k2, k3, k7⟩, k4, k5, k6⟩ := k
  exact ⟨fun i q a b c => (k1 i q a b c).trans (h1 i q a b c), ⟨k2.trans h2, k3.trans h3, k7.trans h7⟩, ⟨Nat.le_trans h4.1 k4.1, Nat.le_trans h4.2 k4.2⟩, by omega, by omega⟩
theorem SFr.cell {S T : St} (h : SFr S T) {i : Nat} (a : i < 105) (b : i < 60 ∨ 66 < i) (c : i ≠ 0) : T i = S i := funext fun k => h.1 i k a b (Or.inl c)
/-- the speller in a grammar, its text w -/
def Sx (M : Int → Int) (S : St) (w : List Int) : Prop := (Cor S ∧ S 84 = M ∧ RC S) ∧ (105 ≤ nn S ∧ 0 ≤ S 0 16 ∧ S 0 16 ≤ 2147483647 ∧ S 60 13 = S 0 16) ∧ WR S w
theorem Sx.fr {M : Int → Int} {S T : St} {w u : List Int} (h : Sx M S w) (f : SFr S T) (r : RC T) (x : WR T u) : Sx M T u := by
  obtain ⟨⟨h1, h2, h3⟩, ⟨h4, h5, h6, h7⟩, h8⟩ := h
  have e16 := f.1 0 16 (by decide) (Or.inl (by decide)) (Or.inr (by decide))
  have c84 := f.cell (i := 84) (by decide) (Or.inr (by decide)) (by decide)
  exact ⟨⟨h1.of c84 (fun i a b => f.cell (by omega) (by omega) (by omega)) (fun i a b => f.cell (by omega) (by omega) (by omega)), c84.trans h2, r⟩, ⟨Nat.le_trans h4 f.2.2.1.1, by rw [e16]; exact h5, by rw [e16]; exact h6, by rw [f.2.1.1, e16]; exact h7⟩, x⟩
theorem Sx.kp {M : Int → Int} {S T : St} {w : List Int} (h : Sx M S w) (k : kept [61, 62, 65, 66] [(60, 5), (60, 6), (60, 10), (60, 12)] S T) : Sx M T w ∧ SFr S T := by
  have c : ∀ i, i ≠ 60 → i ≠ 61 → i ≠ 62 → i ≠ 65 → i ≠ 66 → T i = S i := fun i a b d e f => k.cell i (by simp; omega) (by simp; omega)
  have t3 : T 60 3 = S 60 3 := k 60 3 (by decide) (by decide)
  have t0 : T 0 = S 0 := c 0 (by decide) (by decide) (by decide) (by decide) (by decide)
  obtain ⟨E, e1, e2, -⟩ := h.2.2.e
  have eE : T (S 60 3).toNat = S (S 60 3).toNat := by
    rw [e1]
    exact c E (by omega) (by omega) (by omega) (by omega) (by omega)
  have d : dl T = dl S := by unfold dl; rw [dl_of t3 (fun _ => by rw [eE])]
  have r : Rn T = Rn S := Rn_of (c 63 (by decide) (by decide) (by decide) (by decide) (by decide))
  have f : SFr S T := ⟨fun i q a b e => by rw [c i (by omega) (by omega) (by omega) (by omega) (by omega)], ⟨k 60 13 (by decide) (by decide), k 60 14 (by decide) (by decide), k 60 7 (by decide) (by decide)⟩, gle_rf t0, by rw [d, r, nn_of (by rw [t0])]; exact Nat.le_refl _, by rw [d, r, zz_of (by rw [t0])]⟩
  refine ⟨h.fr f (h.1.2.2.of h.2.1.1 (c 63 (by decide) (by decide) (by decide) (by decide) (by decide)) (c 84 (by decide) (by decide) (by decide) (by decide) (by decide)) (by rw [t0]) f.2.2.1.1 (fun i a _ _ => c i (by omega) (by omega) (by omega) (by omega) (by omega))) ?_, f⟩
  exact h.2.2.of t3 (k 60 4 (by decide) (by decide)) (k 60 8 (by decide) (by decide)) (by rw [t0]; exact Int.le_refl _) eE
theorem Sx.put {M : Int → Int} {S : St} {w : List Int} {c : Int} (h : Sx M S w) (hc : 0 ≤ c ∧ c ≤ 127) (hl : w.length < 1048576) : ∃ T, mX9_put S c = some T ∧ Sx M T (w ++ [c]) ∧ SFr S T ∧ (T 61 = S 61 ∧ T 62 = S 62 ∧ T 65 = S 65 ∧ T 66 = S 66) ∧ ∀ k : Int, k ≠ 3 → k ≠ 4 → k ≠ 8 → T 60 k = S 60 k := by
  obtain ⟨T, t1, t2, t3⟩ := e_put h.2.2 h.2.1.1 hc hl
  have k60 : ∀ k : Int, k ≠ 3 → k ≠ 4 → k ≠ 8 → T 60 k = S 60 k := fun k a b c => t3.1 60 k (fun e => a (Prod.mk.inj e).2) (fun e => b (Prod.mk.inj e).2) (fun e => c (Prod.mk.inj e).2) (by decide) (Or.inl (by decide)) (Or.inl (by decide))
  have c : ∀ i, i < 105 → i ≠ 0 → i ≠ 60 → i ≠ 64 → T i = S i := fun i a b d e => t3.cell a b d e
  have r : Rn T = Rn S := Rn_of (c 63 (by decide) (by decide) (by decide) (by decide))
  have f : SFr S T := by
    refine ⟨fun i q a b e => t3.1 i q (fun y => by have := (Prod.mk.inj y).1; omega) (fun y => by have := (Prod.mk.inj y).1; omega) (fun y => by have := (Prod.mk.inj y).1; omega) (by omega) e (Or.inl a), ⟨k60 13 (by decide) (by decide) (by decide), k60 14 (by decide) (by decide) (by decide), k60 7 (by decide) (by decide) (by decide)⟩, t3.2.1, ?_, ?_⟩
    · rw [r]; have := t3.2.2.1; omega
    · rw [r]; have := t3.2.2.2; omega
  refine ⟨T, t1, h.fr f (h.1.2.2.of h.2.1.1 (c 63 (by decide) (by decide) (by decide) (by decide)) (c 84 (by decide) (by decide) (by decide) (by decide)) (f.1 0 16 (by decide) (Or.inl (by decide)) (Or.inr (by decide))) f.2.2.1.1 (fun i a b y => funext fun k => ?_)) t2, f, ⟨c 61 (by decide) (by decide) (by decide) (by decide), c 62 (by decide) (by decide) (by decide) (by decide), c 65 (by decide) (by decide) (by decide) (by decide), c 66 (by decide) (by decide) (by decide) (by decide)⟩, k60⟩
  exact t3.1 i k (fun y => by have := (Prod.mk.inj y).1; omega) (fun y => by have := (Prod.mk.inj y).1; omega) (fun y => by have := (Prod.mk.inj y).1; omega) (by omega) (Or.inl (by omega)) (Or.inr ⟨b, by rcases y with y | y <;> rw [y] <;> decide⟩)
theorem Sx.ring {M : Int → Int} {S T : St} {w : List Int} (h : Sx M S w) (f : FRm S T) (r : RC T) : Sx M T w ∧ SFr S T := by
  have c : ∀ i, i < 105 → i ≠ 0 → i ≠ 61 → i ≠ 62 → i ≠ 63 → T i = S i := fun i a b d e g => f.cell a d e g b
  have t3 : T 60 3 = S 60 3 := by rw [c 60 (by decide) (by decide) (by decide) (by decide) (by decide)]
  obtain ⟨E, e1, e2, -⟩ := h.2.2.e
  have eE : T (S 60 3).toNat = S (S 60 3).toNat := by
    rw [e1]
    show T E = S E
    rcases e2 with z | ⟨z1, z2, z3⟩
    · subst z; exact c 64 (by decide) (by decide) (by decide) (by decide) (by decide)
    · exact f.2.1 E ⟨z1, by have := h.2.1.1; unfold nn at this ⊢; omega, by rw [z3]; decide, by rw [z3]; decide⟩
  have d : dl T = dl S := by unfold dl; rw [dl_of t3 (fun _ => by rw [eE])]
  have g : SFr S T := ⟨fun i q a b e => f.1 i q a (by omega) (by omega) (by omega) e, ⟨by rw [c 60 (by decide) (by decide) (by decide) (by decide) (by decide)], by rw [c 60 (by decide) (by decide) (by decide) (by decide) (by decide)], by rw [c 60 (by decide) (by decide) (by decide) (by decide) (by decide)]⟩, f.2.2.1, by rw [d]; have := f.2.2.2.1; omega, by rw [d]; have := f.2.2.2.2; omega⟩
  have g0 : S 0 (-1) ≤ T 0 (-1) := by have a := g.2.2.1.1; have b := h.2.1.1; unfold nn at a b; omega
  refine ⟨h.fr g r ?_, g⟩
  exact h.2.2.of t3 (by rw [c 60 (by decide) (by decide) (by decide) (by decide) (by decide)]) (by rw [c 60 (by decide) (by decide) (by decide) (by decide) (by decide)]) g0 eE
theorem e_byTG {S : St} (h : Cor S) {e t n : Nat} {lo : Int} (hlo : 0 ≤ lo) (he : e < 30) (oe : okE (S 84) lo e) (ht : (t : Int) < S 84 (198 + (e : Int))) (hn : (n : Int) ≤ S 84 1) : ∃ x : Nat, mX0_byTerm_40 S (e : Int) (t : Int) (n : Int) = some (x : Int) ∧ ev x (byM (S 84) e t n) ∧ x ≤ HH := by
  have w := h.wf
  have q := (oe.2.1 t ht).2
  unfold mX0_byTerm_40 byM
  rw [bd1_e (e_isOff2 w h.gm he (by have := oe.1; omega))]
  cases ho : offM (S 84) e t with
  | true =>
    refine ⟨0, ?_, ?_, Nat.zero_le HH⟩
    · rw [if_pos (show true = true from rfl), gd_t (by decide), if_neg (by decide)]
      rfl
    · rw [if_pos (show true = true from rfl)]; exact ev_0
  | false =>
    obtain ⟨x, x1, x2, x3⟩ := e_from40 h (p := (fpM (S 84) e t).toNat) (n := n) (by omega) hn
    refine ⟨x, ?_, by rw [if_neg (by decide)]; exact x2, x3⟩
    rw [if_neg (by decide), gd_t (by decide), if_pos rfl, bd1_e (e_start2 hlo h.gm he oe ht).1, bd1_e x1]
theorem c_sE7 {S : St} (h : Cor S) {e n : Nat} {lo : Int} (hlo : 0 ≤ lo) (he : e < 30) (oe : okE (S 84) lo e) (hn : (n : Int) ≤ S 84 1) : ∀ (d t v f : Nat), t + d + 1 = cnE (S 84) e → d < f → v ≤ 1000 → v < sm (d + 1) (fun i => (fun t => byM (S 84) e t n) (t + i)) → ∃ t' u, pkS (fun t => byM (S 84) e t n) (d + 1) t v = (t', u) ∧ mX9_spellExpr_7 S (e : Int) (n : Int) f (t : Int) (v : Int) = some ((u : Int), (t' : Int)) := by
  have g8 := h.gm.2.2.1 e he
  have o1 := oe.1
  have ce : ((cnE (S 84) e : Nat) : Int) = S 84 (198 + (e : Int)) := by unfold cnE; omega
  intro d
  induction d with
  | zero =>
    intro t v f hd hf hv hsm
    obtain ⟨f, rfl⟩ : ∃ f', f = f' + 1 := ⟨f - 1, by omega⟩
    rw [sm_s, sm_0, Nat.zero_add, Nat.add_zero] at hsm
    refine ⟨t, v, pq_lt (g := fun t => byM (S 84) e t n) hsm, ?_⟩
    rw [mX9_spellExpr_7, gd_t (by omega), gd_t ⟨by omega, by omega⟩, if_pos (by omega)]
  | succ d ih =>
    intro t v f hd hf hv hsm
    obtain ⟨f, rfl⟩ : ∃ f', f = f' + 1 := ⟨f - 1, by omega⟩
    obtain ⟨x, x1, x2, x3⟩ := e_byTG h hlo he oe (t := t) (by omega) hn
    have xl := HH_in x3
    obtain ⟨c1, c3⟩ := ev_lt x2 (v := v) (by rw [CC_eq]; omega)
    by_cases z : v < x
    · refine ⟨t, v, pq_lt (g := fun t => byM (S 84) e t n) (c1.mp z), ?_⟩
      rw [mX9_spellExpr_7, gd_t (by omega), gd_t ⟨by omega, by omega⟩, if_neg (by omega), bd1_e x1, gd_t (by omega), if_pos (by omega)]
    · have q := c3 z
      have hsm := Nat.lt_of_lt_of_eq hsm (sm_sh (g := fun t => byM (S 84) e t n) (s := t) (d + 1))
      try dsimp only at hsm
      obtain ⟨t', u, a1, a2⟩ := ih (t + 1) (v - byM (S 84) e t n) f (by omega) (by omega) (by omega) (by show _ < sm (d + 1) (fun i => byM (S 84) e (t + 1 + i) n); omega)
      refine ⟨t', u, (pq_ge (g := fun t => byM (S 84) e t n) (by omega)).trans a1, ?_⟩
      rw [mX9_spellExpr_7, gd_t (by omega), gd_t ⟨by omega, by omega⟩, if_neg (by omega), bd1_e x1, gd_t (by omega), if_neg (by omega), bd1_e x1, nx_e]
      rw [show ((t + 1 : Nat) : Int) = (t : Int) + 1 by omega, ← q] at a2
      rw [show (v : Int) - (x : Int) = ((v - x : Nat) : Int) by omega]
      exact a2
theorem c_spellExpr {M : Int → Int} {S : St} {w l : List Int} {lo : Int} {e n v : Nat} (hx : Sx M S w) (hk : stk S l) (hlo : 0 ≤ lo) (he : e < 30) (hE : okE M lo e) (hn : (n : Int) ≤ M 1) (hv : v < sm (cnE M e) (fun t => byM M e t n)) (h2 : sm (cnE M e) (fun t => byM M e t n) ≤ 200) (hw : w.length < 1048576) (hl : l.length + (exI M e n v).length ≤ 1100) : ∃ T, mX9_spellExpr S (e : Int) (n : Int) (v : Int) = some ((((tmP M e n v).1 : Nat) : Int), T) ∧ Sx M T (w ++ dgS M e n v) ∧ stk T ((exI M e n v).map cdP ++ l) ∧ SFr S T ∧ T 65 = S 65 ∧ ∀ k : Int, k ≠ 3 → k ≠ 4 → k ≠ 8 → k ≠ 12 → T 60 k = S 60 k := by
  have hx' := hx
  obtain ⟨⟨h, e84, -⟩, -⟩ := hx'
  subst e84
  obtain ⟨E, TE, rO, rT, rK, rk⟩ := h.rks
  obtain ⟨t, u, a1, a2, a3, a4, a5, a6, a7⟩ := exI_ok h rk hlo hE hn hv h2
  have o1 := hE.1
  have ce : ((cnE (S 84) e : Nat) : Int) = S 84 (198 + (e : Int)) := by unfold cnE; omega
  have g8 := h.gm.2.2.1 e he
  have q := (hE.2.1 t a2).2
  have hv' := hv
  rw [sm_congr (g := fun i => (fun t => byM (S 84) e t n) (0 + i)) (fun i _ => by rw [Nat.zero_add])] at hv'
  obtain ⟨d, hd⟩ : ∃ d, cnE (S 84) e = d + 1 := ⟨cnE (S 84) e - 1, by omega⟩
  obtain ⟨t', u', b1, b2⟩ := c_sE7 h hlo he hE hn d 0 v FU (by omega) (by unfold FU; omega) (by omega) (by rw [← hd]; exact hv')
  have b1' : tmP (S 84) e n v = (t', u') := by unfold tmP; rw [hd]; exact b1
  rw [a1] at b1'
  cases b1'
  have u200 : u < 200 := Nat.lt_of_lt_of_le a4 a5
  -- the digit
  have dig : ∃ U, (gd (inI (S 8 (e : Int))) <| if (S 8 (e : Int)) ≤ 1 then (some (S)) else (bdG1 S (fun o : St => o) (mX9_put S (48 + (t : Int))) fun S_23 => some (S_23))) = some U ∧ Sx (S 84) U (w ++ dgS (S 84) e n v) ∧ SFr S U ∧ (U 65 = S 65 ∧ U 66 = S 66) ∧ ∀ k : Int, k ≠ 3 → k ≠ 4 → k ≠ 8 → U 60 k = S 60 k := by
    rw [g8, gd_t (by omega)]
    unfold dgS
    rw [a1]
    by_cases z : cnE (S 84) e ≤ 1
    · rw [if_pos (by omega), if_pos z, List.append_nil]
      exact ⟨S, rfl, hx, SFr.rf, ⟨rfl, rfl⟩, fun _ _ _ _ => rfl⟩
    · rw [if_neg (by omega), if_neg z]
      obtain ⟨U, u1, u2, u3, u4, u5⟩ := hx.put (c := 48 + (t : Int)) (by omega) hw
      exact ⟨U, bdG1_e u1 u3.2.2.1 rfl gle_rfl, u2, u3, ⟨u4.2.2.1, u4.2.2.2⟩, u5⟩
  obtain ⟨U, u1, u2, u3, u4, u5⟩ := dig
  have U84 : U 84 = S 84 := u2.1.2.1
  have kU : stk U l := ⟨(u5 12 (by decide) (by decide) (by decide)).trans hk.1, fun j x hj => by rw [u4.2]; exact hk.2 j x hj⟩
  rw [a6] at hl
  obtain ⟨T, t1, t2, t3⟩ := e_pushTerm u2.1.1 (p := (fpM (S 84) e t).toNat) (n := n) (v := u) (l := l) (by rw [U84]; omega) (by rw [U84]; exact hn) (by rw [U84]; exact a4) (by rw [U84]; exact a5) kU (by rw [U84]; exact hl)
  rw [U84, ← a6] at t2
  obtain ⟨s1, s2⟩ := u2.kp (t3.mono (by simp) (by simp))
  have mk : msk T U = T := msk_e (fun i a => t3.cell i (by simp; omega) (by simp; omega)) (t3.cell 0 (by decide) (by decide))
  refine ⟨T, ?_, s1, t2, u3.trans s2, (t3.cell 65 (by decide) (by decide)).trans u4.1, fun k x y z r => (t3 60 k (by decide) (by simp; exact r)).trans (u5 k x y z)⟩
  unfold mX9_spellExpr
  rw [a1]
  refine entG_e ?_ (u3.trans s2).2.2.1
  rw [gd_t (by omega), bd2_e (show mX9_spellExpr_7 S (e : Int) (n : Int) FU 0 (v : Int) = some ((u : Int), (t : Int)) from b2), gd_t (by omega)]
  refine bdG1_e u1 u3.2.2.1 ?_ s2.2.2.1
  have oU : okE (U 84) lo e := by rw [U84]; exact hE
  have st := (e_start2 hlo u2.1.1.gm he oU (t := t) (by rw [U84]; exact a2)).1
  rw [U84] at st
  rw [bd1_e st, bd1_e t1, nx_e, mk]
