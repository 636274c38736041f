/-! the class's text: a sign put behind -/
def dl (S : St) : Nat := (dlen S (S 60 3)).toNat
def wgt : List Int → Int
  | [] => 0
  | c :: w => c * c * c + wgt w
theorem wgt_app : ∀ (w u : List Int), wgt (w ++ u) = wgt w + wgt u := by
  intro w
  induction w with
  | nil => intro u; show wgt u = 0 + wgt u; omega
  | cons c w ih => intro u; show c * c * c + wgt (w ++ u) = c * c * c + wgt w + wgt u; rw [ih]; omega
/-- the class's text is w -/
def WR (S : St) (w : List Int) : Prop :=
  (dB S (S 60 3) ∧ dlen S (S 60 3) = ((dl S : Nat) : Int) ∧ ∃ x : Nat, dl S = 256 * 2 ^ x ∧ x ≤ 12) ∧
  (S 60 4 = ((w.length : Nat) : Int) ∧ w.length ≤ dl S) ∧ S 60 8 = wgt w ∧
  (∀ (i : Nat) c, w[i]? = some c → S (S 60 3).toNat (i : Int) = c) ∧
  ∀ k : Nat, k < dl S → -128 ≤ S (S 60 3).toNat (k : Int) ∧ S (S 60 3).toNat (k : Int) ≤ 127
def PFr (S T : St) : Prop :=
  (∀ (i : Nat) (k : Int), (i, k) ≠ (60, 3) → (i, k) ≠ (60, 4) → (i, k) ≠ (60, 8) → i ≠ 64 → (i ≠ 0 ∨ 0 ≤ k) → (i < 105 ∨ (i < nn S ∧ S i (-1) ≠ 3)) → T i k = S i k) ∧
  gle S T ∧ 256 * nn T + dl S ≤ 256 * nn S + dl T ∧ zz T + 2 * dl S = zz S + 2 * dl T
theorem PFr.rf {S : St} : PFr S S := ⟨fun _ _ _ _ _ _ _ _ => rfl, gle_rfl, Nat.le_refl _, rfl⟩
theorem PFr.cell {S T : St} (h : PFr S T) {i : Nat} (a : i < 105) (b : i ≠ 0) (c : i ≠ 60) (d : i ≠ 64) : T i = S i := funext fun k => h.1 i k (fun e => c (Prod.mk.inj e).1) (fun e => c (Prod.mk.inj e).1) (fun e => c (Prod.mk.inj e).1) d (Or.inl b) (Or.inl a)
theorem PFr.trans {S T U : St} (h : PFr S T) (k : PFr T U) : PFr S U := by
  obtain ⟨h1, h2, h3, h4⟩ := h
  obtain ⟨k1, k2, k3, k4⟩ := k
  refine ⟨fun i q a b c d e f => ?_, ⟨Nat.le_trans h2.1 k2.1, Nat.le_trans h2.2 k2.2⟩, by omega, by omega⟩
  rw [← h1 i q a b c d e f]
  refine k1 i q a b c d e ?_
  rcases f with f | ⟨f1, f2⟩
  · exact Or.inl f
  · by_cases g : i < 105
    · exact Or.inl g
    · refine Or.inr ⟨Nat.lt_of_lt_of_le f1 h2.1, ?_⟩
      rw [h1 i (-1) (fun e => by have := (Prod.mk.inj e).1; omega) (fun e => by have := (Prod.mk.inj e).1; omega) (fun e => by have := (Prod.mk.inj e).1; omega) d (Or.inl (by omega)) (Or.inr ⟨f1, f2⟩)]
      exact f2
/-- where the text, its place and length stay -/
theorem dl_of {S T : St} (a : T 60 3 = S 60 3) (c : S 60 3 ≠ 64 → T (S 60 3).toNat (-2) = S (S 60 3).toNat (-2)) : dlen T (T 60 3) = dlen S (S 60 3) := by
  rw [a]
  unfold dlen
  by_cases e : S 60 3 = 64
  · rw [if_pos e, if_pos e]
  · rw [if_neg e, if_neg e]; exact c e
theorem WR.of {S T : St} {w : List Int} (h : WR S w) (a : T 60 3 = S 60 3) (b : T 60 4 = S 60 4) (c : T 60 8 = S 60 8) (g : S 0 (-1) ≤ T 0 (-1)) (e : T (S 60 3).toNat = S (S 60 3).toNat) : WR T w := by
  obtain ⟨⟨h1, h2, h3⟩, ⟨h4, h5⟩, h6, h7, h8⟩ := h
  have d := dl_of a (fun _ => by rw [e])
  have d' : dl T = dl S := by unfold dl; rw [d]
  refine ⟨⟨?_, by rw [d, d']; exact h2, by rw [d']; exact h3⟩, ⟨by rw [b]; exact h4, by rw [d']; exact h5⟩, by rw [c]; exact h6, fun i q hq => by rw [a, e]; exact h7 i q hq, fun k hk => by rw [a, e]; exact h8 k (by rw [← d']; exact hk)⟩
  rw [a]
  rcases h1 with z | ⟨z1, z2, z3⟩
  · exact Or.inl z
  · exact Or.inr ⟨z1, by omega, by rw [e]; exact z3⟩
theorem s8_id {c : Int} (h : 0 ≤ c ∧ c ≤ 127) : s8 c = c := by
  have k : ∀ n : Fin 128, s8 ((n.val : Nat) : Int) = ((n.val : Nat) : Int) := by decide +kernel
  have := k ⟨c.toNat, by omega⟩
  rw [show (((⟨c.toNat, by omega⟩ : Fin 128).val : Nat) : Int) = c by show ((c.toNat : Nat) : Int) = c; omega] at this
  exact this
theorem WR.e {S : St} {w : List Int} (h : WR S w) : ∃ E : Nat, S 60 3 = (E : Int) ∧ (E = 64 ∨ (105 ≤ E ∧ (E : Int) < S 0 (-1) ∧ S E (-1) = 3)) ∧ 256 ≤ dl S ∧ dl S ≤ 1048576 := by
  obtain ⟨⟨h1, h2, x, h3, h4⟩, -⟩ := h
  have p1 : 1 ≤ 2 ^ x := Nat.one_le_two_pow
  have p2 : 2 ^ x ≤ 2 ^ 12 := Nat.pow_le_pow_right (by decide) h4
  have p3 : (2 : Nat) ^ 12 = 4096 := rfl
  refine ⟨(S 60 3).toNat, ?_, ?_, by omega, by omega⟩
  · rcases h1 with z | ⟨z1, z2, z3⟩ <;> omega
  · rcases h1 with z | ⟨z1, z2, z3⟩
    · exact Or.inl (by omega)
    · exact Or.inr ⟨by omega, by omega, z3⟩
/-- there is room -/
theorem e_put0 {S : St} {w : List Int} {c : Int} (h : WR S w) (hc : 0 ≤ c ∧ c ≤ 127) (hl : w.length < dl S) : ∃ T, (gd (dB S (S 60 3) ∧ 0 ≤ dlen S (S 60 3)) <| gd ((inI (S 60 4)) ∧ (inI (dlen S (S 60 3)))) <| if (dlen S (S 60 3)) ≤ (S 60 4) then (some (S)) else (gd ((dB S (S 60 3) ∧ 0 ≤ (S 60 4) ∧ (S 60 4) < dlen S (S 60 3) ∧ dlen S (S 60 3) ≤ 2147483647) ∧ (-128 ≤ (s8 c) ∧ (s8 c) ≤ 127)) <| nx (up S (Int.toNat (S 60 3)) (S 60 4) (s8 c)) fun S_12 => nx (up S_12 60 4 ((S_12 60 4) + 1)) fun S_13 => bd1 (mX9_weightOf c) fun r_15 => nx (up S_13 60 8 ((S_13 60 8) + r_15)) fun S_16 => some (S_16))) = some T ∧ WR T (w ++ [c]) ∧ PFr S T := by
  obtain ⟨E, e1, e2, e3, e4⟩ := h.e
  obtain ⟨⟨h1, h2, h3⟩, ⟨h4, h5⟩, h6, h7, h8⟩ := h
  have eE : Int.toNat (S 60 3) = E := by rw [e1]; rfl
  rw [eE] at h7 h8
  have E60 : E ≠ 60 := by omega
  have E0 : E ≠ 0 := by omega
  rw [gd_t ⟨h1, by omega⟩, gd_t ⟨by omega, by omega⟩, if_neg (by omega), gd_t ⟨⟨h1, by omega, by omega, by omega⟩, by rw [s8_id hc]; omega⟩, nx_e, nx_e, up_n (by omega), bd1_e (show mX9_weightOf c = some (c * c * c) from rfl), nx_e, up_nk (by decide), up_n (by omega), s8_id hc, eE]
  obtain ⟨T, hT⟩ : ∃ T, T = up (up (up S E (S 60 4) c) 60 4 (S 60 4 + 1)) 60 8 (S 60 8 + c * c * c) := ⟨_, rfl⟩
  have t3 : T 60 3 = S 60 3 := by rw [hT, up_nk (by decide), up_nk (by decide), up_n (by omega)]
  have t4 : T 60 4 = S 60 4 + 1 := by rw [hT, up_nk (by decide), up_eq]
  have t8 : T 60 8 = S 60 8 + c * c * c := by rw [hT, up_eq]
  have tE : ∀ k : Int, T E k = if k = S 60 4 then c else S E k := fun k => by rw [hT, up_n (by omega), up_n (by omega), up_if]
  have t0 : T 0 = S 0 := by rw [hT, up_n (by decide), up_n (by decide), up_n (by omega)]
  have d : dlen T (T 60 3) = dlen S (S 60 3) := dl_of t3 (fun _ => by rw [eE, tE, if_neg (by omega)])
  have d' : dl T = dl S := by unfold dl; rw [d]
  refine ⟨T, by rw [hT], ⟨⟨?_, by rw [d, d']; exact h2, by rw [d']; exact h3⟩, ⟨by rw [t4, h4, List.length_append, List.length_singleton]; omega, by rw [d', List.length_append, List.length_singleton]; omega⟩, by rw [t8, h6, wgt_app]; show _ = _ + (c * c * c + 0); omega, fun i q hq => ?_, fun k hk => ?_⟩, fun i k a1 a2 a3 a4 a5 a6 => ?_, gle_rf t0, by rw [nn_of (by rw [t0]), d']; exact Nat.le_refl _, by rw [zz_of (by rw [t0]), d']⟩
  · rw [t3]
    rcases e2 with z | ⟨z1, z2, z3⟩
    · exact Or.inl (by omega)
    · exact Or.inr ⟨by omega, by rw [t0]; omega, by rw [eE, tE, if_neg (by omega)]; exact z3⟩
  · rw [t3, eE, tE]
    by_cases z : i < w.length
    · rw [List.getElem?_append_left z] at hq
      rw [if_neg (by omega)]
      exact h7 i q hq
    · rw [List.getElem?_append_right (by omega)] at hq
      have i0 : i - w.length = 0 := by
        rcases Nat.eq_zero_or_pos (i - w.length) with y | y
        · exact y
        · rw [List.getElem?_eq_none (by simp; omega)] at hq
          cases hq
      rw [i0] at hq
      rw [if_pos (by omega)]
      exact Option.some.inj hq
  · rw [t3, eE, tE]
    by_cases z : (k : Int) = S 60 4
    · rw [if_pos z]; omega
    · rw [if_neg z]; exact h8 k (by omega)
  · have iE : i ≠ E := fun q => by
      subst q
      rcases e2 with z | ⟨z1, z2, z3⟩
      · exact a4 z
      · rcases a6 with y | ⟨-, y⟩
        · omega
        · exact y z3
    rw [hT]
    by_cases z : i = 60
    · subst z
      rw [up_nk (fun q => a3 (by rw [q])), up_nk (fun q => a2 (by rw [q])), up_n iE]
    · rw [up_n z, up_n z, up_n iE]
theorem e_put {S : St} {w : List Int} {c : Int} (h : WR S w) (h0 : 105 ≤ nn S) (hc : 0 ≤ c ∧ c ≤ 127) (hl : w.length < 1048576) : ∃ T, mX9_put S c = some T ∧ WR T (w ++ [c]) ∧ PFr S T := by
  obtain ⟨E, e1, e2, e3, e4⟩ := h.e
  have h' := h
  obtain ⟨⟨h1, h2, x, h3, x12⟩, ⟨h4, h5⟩, h6, h7, h8⟩ := h'
  have eE : Int.toNat (S 60 3) = E := by rw [e1]; rfl
  have S0 : S 0 (-1) = ((nn S : Nat) : Int) := by unfold nn at h0 ⊢; omega
  by_cases z : w.length < dl S
  · obtain ⟨T, t1, t2, t3⟩ := e_put0 h hc z
    refine ⟨T, ?_, t2, t3⟩
    unfold mX9_put
    refine entG_e ?_ t3.2.1
    rw [gd_t ⟨h1, by omega⟩]
    refine bdG1_e (a := S) ?_ gle_rfl t1 t3.2.1
    rw [gd_t ⟨by omega, by omega⟩, if_pos (by omega)]
  · have x11 : x < 12 := by
      rcases Nat.lt_or_ge x 12 with y | y
      · exact y
      · have p2 : 2 ^ 12 ≤ 2 ^ x := Nat.pow_le_pow_right (by decide) y
        have p3 : (2 : Nat) ^ 12 = 4096 := rfl
        omega
    have d1 : dl S < 1048576 := by omega
    rw [eE] at h7 h8
    obtain ⟨N, hN⟩ : ∃ N, N = nn S := ⟨_, rfl⟩
    obtain ⟨C, hC⟩ : ∃ C, C = cpB S (S 60 3) (2 * dlen S (S 60 3)) := ⟨_, rfl⟩
    obtain ⟨U, hU⟩ : ∃ U, U = up C 60 3 ((N : Nat) : Int) := ⟨_, rfl⟩
    have cN : ∀ k : Int, C N k = if k = -1 then 3 else if k = -2 then 2 * dlen S (S 60 3) else if 0 ≤ k ∧ k < dlen S (S 60 3) then S E k else 0 := fun k => by rw [hC]; unfold cpB; rw [if_pos hN, eE]
    have c0 : ∀ k : Int, C 0 k = if k = -1 then ((N + 1 : Nat) : Int) else if k = -2 then ((zz S + (2 * dlen S (S 60 3)).toNat : Nat) : Int) else S 0 k := fun k => by rw [hC]; unfold cpB; rw [if_neg (by omega), if_pos rfl, hN]
    have ci : ∀ i, i ≠ 0 → i ≠ N → C i = S i := fun i a b => by rw [hC]; unfold cpB; rw [if_neg (by omega), if_neg a]
    have nC : nn C = N + 1 := by unfold nn; rw [c0, if_pos rfl]; rfl
    have zC : zz C = zz S + 2 * dl S := by
      unfold zz
      rw [c0, if_neg (by decide), if_pos rfl, h2]
      show (((S 0 (-2)).toNat + (2 * ((dl S : Nat) : Int)).toNat : Nat) : Int).toNat = (S 0 (-2)).toNat + 2 * dl S
      omega
    have u0 : U 0 = C 0 := by rw [hU, up_n (by decide)]
    have nU : nn U = N + 1 := by rw [nn_of (by rw [u0]), nC]
    have zU : zz U = zz S + 2 * dl S := by rw [zz_of (by rw [u0]), zC]
    have u3 : U 60 3 = (N : Int) := by rw [hU, up_eq]
    have uN : U N = C N := by rw [hU, up_n (by omega)]
    have u60 : ∀ k : Int, k ≠ 3 → U 60 k = S 60 k := fun k hk => by rw [hU, up_nk hk, ci 60 (by decide) (by omega)]
    have ui : ∀ i, i ≠ 0 → i ≠ N → i ≠ 60 → U i = S i := fun i a b c => by rw [hU, up_n c, ci i a b]
    have dU : dlen U (U 60 3) = ((2 * dl S : Nat) : Int) := by
      rw [u3]
      unfold dlen
      rw [if_neg (by omega), show Int.toNat (N : Int) = N from rfl, uN, cN, if_neg (by decide), if_pos rfl, h2]
      omega
    have dU' : dl U = 2 * dl S := by unfold dl; rw [dU]; rfl
    have wU : WR U w := by
      refine ⟨⟨?_, by rw [dU, dU'], x + 1, by rw [dU', h3, Nat.pow_succ]; omega, by omega⟩, ⟨by rw [u60 4 (by decide)]; exact h4, by omega⟩, by rw [u60 8 (by decide)]; exact h6, fun i q hq => ?_, fun k hk => ?_⟩
      · rw [u3]
        refine Or.inr ⟨by omega, ?_, ?_⟩
        · rw [u0, c0, if_pos rfl]; omega
        · rw [show Int.toNat (N : Int) = N from rfl, uN, cN, if_pos rfl]
      · have il : i < w.length := by
          rcases Nat.lt_or_ge i w.length with y | y
          · exact y
          · rw [List.getElem?_eq_none y] at hq; cases hq
        rw [u3, show Int.toNat (N : Int) = N from rfl, uN, cN, if_neg (by omega), if_neg (by omega), if_pos (by omega)]
        exact h7 i q hq
      · rw [u3, show Int.toNat (N : Int) = N from rfl, uN, cN, if_neg (by omega), if_neg (by omega)]
        by_cases y : k < dl S
        · rw [if_pos (by omega)]; exact h8 k y
        · rw [if_neg (by omega)]; omega
    have gSC : gle S C := ⟨by omega, by omega⟩
    have gCU : gle C U := gle_rf u0
    have gSU : gle S U := ⟨Nat.le_trans gSC.1 gCU.1, Nat.le_trans gSC.2 gCU.2⟩
    have fU : PFr S U := by
      refine ⟨fun i k a1 a2 a3 a4 a5 a6 => ?_, gSU, by omega, by omega⟩
      by_cases i0 : i = 0
      · subst i0
        rw [u0, c0, if_neg (by omega), if_neg (by omega)]
      · by_cases i6 : i = 60
        · subst i6; exact u60 k (fun q => a1 (by rw [q]))
        · rw [ui i i0 (by omega) i6]
    obtain ⟨T, t1, t2, t3⟩ := e_put0 wU hc (by omega)
    refine ⟨T, ?_, t2, fU.trans t3⟩
    unfold mX9_put
    refine entG_e ?_ (fU.trans t3).2.1
    rw [gd_t ⟨h1, by omega⟩]
    refine bdG1_e (a := U) ?_ gSU t1 t3.2.1
    rw [gd_t ⟨by omega, by omega⟩, if_neg (by omega), if_neg (by omega), nx_e, gd_t ⟨⟨h1, by omega, by omega, by omega⟩, fun k hk => by rw [eE]; exact h8 k (by omega)⟩]
    refine bdG1_e (a := C) (by rw [hC]) gSC ?_ gCU
    rw [nx_e, nx_e, hU, hN]
