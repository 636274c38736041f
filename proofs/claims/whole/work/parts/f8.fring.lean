/-! the class: the kept lists of rings; a ring found by its number -/
def RLs (S : St) (w O : Nat) : Prop := S 63 (w : Int) = (O : Int) ∧ (dT S (O : Int) 1 ∧ S O 2 = ((O + 1 : Nat) : Int) ∧ dT S ((O + 1 : Nat) : Int) 2) ∧ (inI (S O 0) ∧ S O 0 ≤ S 0 16) ∧ (∀ w' : Nat, w' < 192 → w' ≠ w → S 63 (w' : Int) ≠ S 63 (w : Int)) ∧ (S O 0 = S 0 16 → LR S O (O + 1) (rgM (S 84) (w / 8) (w % 8)) ∧ (rgM (S 84) (w / 8) (w % 8)).length ≤ 200)
def RC (S : St) : Prop := ∀ w : Nat, w < 192 → S 63 (w : Int) < 0 ∨ ∃ O : Nat, RLs S w O
/-- how many lists there are -/
def Rn (S : St) : Nat := sm 192 (fun w => if S 63 (w : Int) < 0 then 0 else 1)
/-- cells of another kind than lists -/
def oth (S : St) (i : Nat) : Prop := 105 ≤ i ∧ i < nn S ∧ S i (-1) ≠ 1 ∧ S i (-1) ≠ 2
/-- what finding a ring leaves as it is -/
def FRm (S T : St) : Prop := (∀ (i : Nat) (k : Int), i < 105 → i ≠ 61 → i ≠ 62 → i ≠ 63 → (i ≠ 0 ∨ 0 ≤ k) → T i k = S i k) ∧ (∀ i, oth S i → T i = S i) ∧ (gle S T ∧ nn T + 2 * Rn S = nn S + 2 * Rn T ∧ zz T + 1603 * Rn S = zz S + 1603 * Rn T)
theorem FRm.cell {S T : St} (h : FRm S T) {i : Nat} (a : i < 105) (b : i ≠ 61) (c : i ≠ 62) (d : i ≠ 63) (e : i ≠ 0) : T i = S i := funext fun k => h.1 i k a b c d (Or.inl e)
theorem FRm.trans {S T U : St} (h : FRm S T) (k : FRm T U) : FRm S U := by
  obtain ⟨h1, h2, h3, h4, h5⟩ := h
  obtain ⟨k1, k2, k3, k4, k5⟩ := k
  refine ⟨fun i q a b c d e => (k1 i q a b c d e).trans (h1 i q a b c d e), fun i a => ?_, ⟨Nat.le_trans h3.1 k3.1, Nat.le_trans h3.2 k3.2⟩, by omega, by omega⟩
  have e := h2 i a
  rw [← e]
  refine k2 i ⟨a.1, Nat.lt_of_lt_of_le a.2.1 h3.1, ?_, ?_⟩
  · rw [e]; exact a.2.2.1
  · rw [e]; exact a.2.2.2
theorem FRm.rf {S : St} : FRm S S := ⟨fun _ _ _ _ _ _ _ => rfl, fun _ _ => rfl, gle_rfl, rfl, rfl⟩
theorem Rn_of {S T : St} (h : T 63 = S 63) : Rn T = Rn S := by unfold Rn; rw [h]
theorem nn_of {S T : St} (h : T 0 (-1) = S 0 (-1)) : nn T = nn S := by unfold nn; rw [h]
theorem zz_of {S T : St} (h : T 0 (-2) = S 0 (-2)) : zz T = zz S := by unfold zz; rw [h]
/-- where what the lists hang on stays -/
theorem RC.of {S T : St} (h : RC S) (h0 : 105 ≤ nn S) (a : T 63 = S 63) (b : T 84 = S 84) (c : T 0 16 = S 0 16) (d : nn S ≤ nn T) (e : ∀ i, 105 ≤ i → i < nn S → S i (-1) = 1 ∨ S i (-1) = 2 → T i = S i) : RC T := by
  intro w hw
  have d' : S 0 (-1) ≤ T 0 (-1) := by unfold nn at d h0; omega
  rw [a]
  rcases h w hw with z | ⟨O, o1, ⟨o2, o3, o4⟩, o5, o6, o7⟩
  · exact Or.inl z
  · have p1 : O < nn S := by have := o2.2.1; unfold nn; omega
    have p2 : O + 1 < nn S := by have := o4.2.1; unfold nn; omega
    have t1 : S O (-1) = 1 := o2.2.2
    have t2 : S (O + 1) (-1) = 2 := o4.2.2
    have q1 : T O = S O := e O (by have := o2.1; omega) p1 (Or.inl t1)
    have q2 : T (O + 1) = S (O + 1) := e (O + 1) (by have := o2.1; omega) p2 (Or.inr t2)
    have x2 : dT T (O : Int) 1 := ⟨o2.1, by have := o2.2.1; omega, by show T O (-1) = 1; rw [q1]; exact t1⟩
    have x4 : dT T ((O + 1 : Nat) : Int) 2 := ⟨o4.1, by have := o4.2.1; omega, by show T (O + 1) (-1) = 2; rw [q2]; exact t2⟩
    refine Or.inr ⟨O, by rw [a]; exact o1, ⟨x2, by rw [q1]; exact o3, x4⟩, by rw [q1, c]; exact o5, by rw [a]; exact o6, fun y => ?_⟩
    rw [q1, c] at y
    obtain ⟨⟨-, l2, l3⟩, l4⟩ := o7 y
    rw [b]
    exact ⟨⟨⟨x2, by rw [q1]; exact o3, x4⟩, by rw [q1]; exact l2, by rw [q2]; exact l3⟩, l4⟩
theorem e_97 {S : St} {O Q v : Nat} {E : List (List (Nat × Nat))} {x : List (Nat × Nat)} (hL : LR S O Q E) (hv : E[v]? = some x) (hv2 : E.length ≤ 200) (hl : x.length ≤ 7) (hs : ∀ y ∈ x, 1 ≤ y.1 ∧ y.1 ≤ 7 ∧ y.2 ≤ 1023) (hc : cds S []) : ∃ S', mX8_findRing_97 (v : Int) (O : Int) FU 0 S = some S' ∧ cds S' x ∧ kept [62] [(61, 2)] S S' := by
  obtain ⟨ne, hO, hQ⟩ := hL.ne
  have hvE : v < E.length := by
    rcases Nat.lt_or_ge v E.length with z | z
    · exact z
    · rw [List.getElem?_eq_none z] at hv; cases hv
  obtain ⟨⟨h1, h2, h3⟩, h4, h5⟩ := hL
  have key : ∀ (d i f : Nat) (T : St), i + d = x.length → d < f → kept [62] [(61, 2)] S T → T 61 2 = (i : Int) → (∀ j : Nat, j < i → T 62 (j : Int) = ((cdN (gx x j) : Nat) : Int)) → ∃ T', mX8_findRing_97 (v : Int) (O : Int) f (i : Int) T = some T' ∧ cds T' x ∧ kept [62] [(61, 2)] S T' := by
    intro d
    induction d with
    | zero =>
      intro i f T hi hf k a b
      obtain ⟨f, rfl⟩ : ∃ f', f = f' + 1 := ⟨f - 1, by omega⟩
      have tO : T O = S O := k.cell O (by simp; omega) (by simp; omega)
      have tQ : T Q = S Q := k.cell Q (by simp; omega) (by simp; omega)
      have t0 : T 0 = S 0 := k.cell 0 (by decide) (by decide)
      have g1 : dT T (O : Int) 1 := ⟨h1.1, by rw [t0]; exact h1.2.1, by show T O (-1) = 1; rw [tO]; exact h1.2.2⟩
      have eT : T (Int.toNat (O : Int)) = S O := tO
      have g2 : dT T (S O 2) 2 := by rw [h2]; exact ⟨h3.1, by rw [t0]; exact h3.2.1, by show T Q (-1) = 2; rw [tQ]; exact h3.2.2⟩
      have eQ : T (Int.toNat (S O 2)) = S Q := by rw [h2]; exact tQ
      refine ⟨T, ?_, ⟨by rw [a, hi.symm]; rfl, fun j y e => ?_⟩, k⟩
      · have c8 := h5 v x hv i (by omega)
        unfold cdO at c8
        rw [if_neg (by omega)] at c8
        rw [mX8_findRing_97, gd_t g1, eT, h4, gd_t ⟨by omega, by omega⟩, if_neg (by omega), gd_t (by omega), if_neg (by omega), gd_t ⟨g2, by omega⟩, eQ, show (v : Int) * 8 + (i : Int) = ((v * 8 + i : Nat) : Int) by omega, c8, gd_t (by omega), if_pos (by omega)]
      · have jl : j < x.length := by
          rcases Nat.lt_or_ge j x.length with z | z
          · exact z
          · rw [List.getElem?_eq_none z] at e; cases e
        rw [gx_some jl] at e
        cases e
        exact b j (by omega)
    | succ d ih =>
      intro i f T hi hf k a b
      obtain ⟨f, rfl⟩ : ∃ f', f = f' + 1 := ⟨f - 1, by omega⟩
      have tO : T O = S O := k.cell O (by simp; omega) (by simp; omega)
      have tQ : T Q = S Q := k.cell Q (by simp; omega) (by simp; omega)
      have t0 : T 0 = S 0 := k.cell 0 (by decide) (by decide)
      have g1 : dT T (O : Int) 1 := ⟨h1.1, by rw [t0]; exact h1.2.1, by show T O (-1) = 1; rw [tO]; exact h1.2.2⟩
      have eT : T (Int.toNat (O : Int)) = S O := tO
      have g2 : dT T (S O 2) 2 := by rw [h2]; exact ⟨h3.1, by rw [t0]; exact h3.2.1, by show T Q (-1) = 2; rw [tQ]; exact h3.2.2⟩
      have eQ : T (Int.toNat (S O 2)) = S Q := by rw [h2]; exact tQ
      have c8 := h5 v x hv i (by omega)
      unfold cdO at c8
      rw [if_pos (by omega)] at c8
      have y3 := hs (gx x i) (List.mem_of_getElem? (gx_some (by omega)))
      have yc : 1024 ≤ cdN (gx x i) ∧ cdN (gx x i) ≤ 8191 := by unfold cdN; omega
      obtain ⟨T', t1, t2, t3⟩ := ih (i + 1) f (up (up T 62 (i : Int) ((cdN (gx x i) : Nat) : Int)) 61 2 ((i : Int) + 1)) (by omega) (by omega) (kept.upF (kept.upA k (by simp)) (by simp)) (by rw [up_eq]; omega) (fun j hj => by
        rw [up_n (by decide)]
        by_cases e : j = i
        · rw [e, up_eq]
        · rw [up_nk (by omega)]; exact b j (by omega))
      refine ⟨T', ?_, t2, t3⟩
      rw [mX8_findRing_97, gd_t g1, eT, h4, gd_t ⟨by omega, by omega⟩, if_neg (by omega), gd_t (by omega), if_neg (by omega), gd_t ⟨g2, by omega⟩, eQ, show (v : Int) * 8 + (i : Int) = ((v * 8 + i : Nat) : Int) by omega, c8, gd_t (by omega), if_neg (by omega), gd_t (by omega), nx_e, up_n (by decide), a, nx_e]
      rw [show ((i + 1 : Nat) : Int) = (i : Int) + 1 by omega] at t1
      exact t1
  exact key x.length 0 FU S (by omega) (by unfold FU; omega) kept.rf (by rw [hc.1]; rfl) (fun j hj => by omega)
/-- a list for each part and size, new ones empty and of no time -/
theorem sm_one {n j : Nat} {f g : Nat → Nat} (hj : j < n) (h : ∀ i, i < n → i ≠ j → g i = f i) (h1 : g j = f j + 1) : sm n g = sm n f + 1 := by
  induction n with
  | zero => omega
  | succ n ih =>
    rw [sm_s, sm_s]
    by_cases z : j = n
    · subst z
      rw [h1, sm_congr (fun i hi => h i (by omega) (by omega))]; omega
    · rw [ih (by omega) (fun i hi => h i (by omega)), h n (by omega) (fun w => z w.symm)]; omega
theorem e_getList {S : St} {w : Nat} (h : RC S) (h0 : 105 ≤ nn S) (h16 : 0 ≤ S 0 16 ∧ S 0 16 ≤ 2147483647) (hw : w < 192) : ∃ (O : Nat) (T : St), (gd (0 ≤ (w : Int) ∧ (w : Int) < 192) <| nx (S 63 (w : Int)) fun x_50 => if x_50 < 0 then (bdG1 S (fun o : Int × St => o.2) (some (mkRing S)) fun S_52 => nx ((nn S : Nat) : Int) fun x_57 => gd (dT S_52 x_57 1) <| nx (up S_52 63 (w : Int) x_57) fun S_59 => some (x_57, S_59)) else (some (x_50, S))) = some ((O : Int), T) ∧ RC T ∧ RLs T w O ∧ FRm S T ∧ T 61 = S 61 ∧ T 62 = S 62 := by
  rw [gd_t (by omega), nx_e]
  rcases h w hw with z | ⟨O, o⟩
  · obtain ⟨N, hN⟩ : ∃ N, N = nn S := ⟨_, rfl⟩
    have hS0 : S 0 (-1) = (N : Int) := by rw [hN]; unfold nn at h0 ⊢; omega
    have r0 : (mkRing S) 0 (-1) = ((N + 2 : Nat) : Int) := by unfold mkRing; rw [if_neg (by omega), if_neg (by omega), if_pos rfl, if_pos rfl, hN]
    have r00 : (mkRing S) 0 (-2) = ((zz S + 1603 : Nat) : Int) := by unfold mkRing; rw [if_neg (by omega), if_neg (by omega), if_pos rfl, if_neg (by decide), if_pos rfl]
    have rk : ∀ k : Int, 0 ≤ k → (mkRing S) 0 k = S 0 k := fun k hk => by unfold mkRing; rw [if_neg (by omega), if_neg (by omega), if_pos rfl, if_neg (by omega), if_neg (by omega)]
    have ro : ∀ i, i ≠ 0 → i ≠ N → i ≠ N + 1 → (mkRing S) i = S i := fun i a b c => by unfold mkRing; rw [if_neg (by omega), if_neg (by omega), if_neg a]
    have rN : ∀ k : Int, (mkRing S) N k = if k = -1 then 1 else if k = 0 then -1 else if k = 2 then ((N + 1 : Nat) : Int) else 0 := fun k => by unfold mkRing; rw [if_pos hN, ← hN]
    have rN1 : ∀ k : Int, (mkRing S) (N + 1) k = if k = -1 then 2 else 0 := fun k => by unfold mkRing; rw [if_neg (by omega), if_pos (by omega)]
    obtain ⟨T, hT⟩ : ∃ T, T = up (mkRing S) 63 (w : Int) (N : Int) := ⟨_, rfl⟩
    have t0 : T 0 = (mkRing S) 0 := by rw [hT, up_n (by decide)]
    have tN : T N = (mkRing S) N := by rw [hT, up_n (by omega)]
    have tN1 : T (N + 1) = (mkRing S) (N + 1) := by rw [hT, up_n (by omega)]
    have to : ∀ i, i ≠ 0 → i ≠ N → i ≠ N + 1 → i ≠ 63 → T i = S i := fun i a b c d => by rw [hT, up_n d]; exact ro i a b c
    have t63 : ∀ k : Int, k ≠ (w : Int) → T 63 k = S 63 k := fun k hk => by rw [hT, up_nk hk, ro 63 (by decide) (by omega) (by omega)]
    have t63w : T 63 (w : Int) = (N : Int) := by rw [hT, up_eq]
    have nT : nn T = N + 2 := by unfold nn; rw [t0, r0]; rfl
    have zT : zz T = zz S + 1603 := by unfold zz; rw [t0, r00]; rfl
    have dN : dT T (N : Int) 1 := ⟨by omega, by rw [t0, r0]; omega, by show T N (-1) = 1; rw [tN, rN, if_pos rfl]⟩
    have dN1 : dT T ((N + 1 : Nat) : Int) 2 := ⟨by omega, by rw [t0, r0]; omega, by show T (N + 1) (-1) = 2; rw [tN1, rN1, if_pos rfl]⟩
    have s63 : ∀ w' : Nat, w' < 192 → w' ≠ w → T 63 (w' : Int) ≠ T 63 (w : Int) := fun w' a b => by
      rw [t63w, t63 _ (by omega)]
      rcases h w' a with y | ⟨O', p1, ⟨p2, -⟩, -⟩
      · omega
      · rw [p1]; have := p2.2.1; omega
    have S16 : T 0 16 = S 0 16 := by rw [t0, rk 16 (by decide)]
    have mr1 : nn (mkRing S) = N + 2 := by unfold nn; rw [r0]; rfl
    have mr2 : zz (mkRing S) = zz S + 1603 := by unfold zz; rw [r00]; rfl
    have gl : gle S (mkRing S) := ⟨by omega, by omega⟩
    have rlN : RLs T w N := by
      refine ⟨t63w, ⟨dN, ?_, dN1⟩, ⟨?_, ?_⟩, s63, fun y => ?_⟩
      · rw [tN, rN, if_neg (by decide), if_neg (by decide), if_pos rfl]
      · rw [tN, rN, if_neg (by decide), if_pos rfl]; decide
      · rw [tN, rN, if_neg (by decide), if_pos rfl, S16]; omega
      · rw [tN, rN, if_neg (by decide), if_pos rfl, S16] at y; omega
    refine ⟨N, T, ?_, fun w' hw' => ?_, rlN, ⟨fun i k a b c d e => ?_, fun i a => ?_, ⟨by omega, by omega⟩, ?_, ?_⟩, to 61 (by decide) (by omega) (by omega) (by decide), to 62 (by decide) (by omega) (by omega) (by decide)⟩
    · rw [if_pos z]
      refine bdG1_e rfl gl ?_ (gle_rf t0)
      rw [nx_e, ← hN, gd_t ⟨by omega, by rw [r0]; omega, by show (mkRing S) N (-1) = 1; rw [rN, if_pos rfl]⟩, nx_e, hT]
    · by_cases e : w' = w
      · rw [e]; exact Or.inr ⟨N, rlN⟩
      · rw [t63 _ (by omega)]
        rcases h w' hw' with y | ⟨O', p1, ⟨p2, p3, p4⟩, p5, p6, p7⟩
        · exact Or.inl y
        · have b2 := p2.2.1
          have b4 := p4.2.1
          have b1 := p2.1
          have q1 : T O' = S O' := to O' (by omega) (by omega) (by omega) (by omega)
          have q2 : T (O' + 1) = S (O' + 1) := to (O' + 1) (by omega) (by omega) (by omega) (by omega)
          have u1 : S O' (-1) = 1 := p2.2.2
          have u2 : S (O' + 1) (-1) = 2 := p4.2.2
          have x2 : dT T (O' : Int) 1 := ⟨p2.1, by rw [t0, r0]; omega, by show T O' (-1) = 1; rw [q1]; exact u1⟩
          have x4 : dT T ((O' + 1 : Nat) : Int) 2 := ⟨p4.1, by rw [t0, r0]; omega, by show T (O' + 1) (-1) = 2; rw [q2]; exact u2⟩
          refine Or.inr ⟨O', by rw [t63 _ (by omega)]; exact p1, ⟨x2, by rw [q1]; exact p3, x4⟩, by rw [q1, S16]; exact p5, fun w3 a3 n3 => ?_, fun y => ?_⟩
          · rw [t63 (w' : Int) (by omega)]
            by_cases e3 : w3 = w
            · rw [e3, t63w, p1]; omega
            · rw [t63 _ (by omega)]; exact p6 w3 a3 n3
          · rw [q1, S16] at y
            obtain ⟨⟨-, l2, l3⟩, l4⟩ := p7 y
            rw [to 84 (by decide) (by omega) (by omega) (by decide)]
            exact ⟨⟨⟨x2, by rw [q1]; exact p3, x4⟩, by rw [q1]; exact l2, by rw [q2]; exact l3⟩, l4⟩
    · by_cases i0 : i = 0
      · subst i0
        rw [t0]; exact rk k (by omega)
      · rw [to i i0 (by omega) (by omega) d]
    · have := a.2.1
      exact to i (by have := a.1; omega) (by omega) (by omega) (by have := a.1; omega)
    · have : Rn T = Rn S + 1 := sm_one (j := w) hw (fun i hi ne => by rw [t63 _ (by omega)]) (by rw [t63w, if_neg (by omega), if_pos z])
      omega
    · have : Rn T = Rn S + 1 := sm_one (j := w) hw (fun i hi ne => by rw [t63 _ (by omega)]) (by rw [t63w, if_neg (by omega), if_pos z])
      omega
  · refine ⟨O, S, ?_, h, o, FRm.rf, rfl, rfl⟩
    rw [o.1, if_neg (by omega)]
/-- few of a size, where there are few rings -/
theorem ring_few {M : Int → Int} {p n : Nat} (hn : n ≤ 7) (hnu : -1 ≤ nuM M p ∧ nuM M p ≠ 0 ∧ nuM M p ≤ 7) (h : (rgM M p n).length ≤ 200) : fewC (cM M p) (nuM M p) n := by
  intro pre m n' s ok ht hm hm' s1 s2 m0 hr
  have pl := (ok_sm ok (rfl : tot pre = tot pre)).1
  have m1 : -1 ≤ lss m := by
    unfold lss
    by_cases z : m < 0
    · rw [if_pos z]; omega
    · rw [if_neg z]; omega
  obtain ⟨l, l1, l2, l3⟩ := comp_ex (n' - s) (n' - s) (lss m) (Nat.le_refl _) (by omega) m1 (Nat.pos_of_ne_zero hr)
  have okl : okL (cM M p) (pre ++ l) := fun x hx => by
    rcases List.mem_append.mp hx with e | e
    · exact ok x e
    · exact l1 x e
  have tl : tot (pre ++ l) = n - s := by rw [tot_app]; omega
  have ll := (ok_sm okl tl).1
  have mem : (pre ++ l) ∈ arN (cM M p) (pre ++ l).length (n - s) := (arN_mem _ _).mpr ⟨rfl, tl, okl⟩
  have pos : 1 ≤ tr (fun s _ => cM M p s) (pre ++ l).length (n - s) 0 := by
    rw [← arN_len (C := fun s _ => cM M p s)]
    exact List.length_pos_iff.mpr (List.ne_nil_of_mem mem)
  by_cases c7 : cM M p s ≤ 7
  · omega
  · have big := tr_big (c := fun s _ => cM M p s) (s := s) (i := 0) (by show 7 ≤ cM M p s; omega) s1 (pre ++ l).length n 0 (by omega) (by omega) (Nat.le_refl _) pos
    try dsimp only at big
    have rg := rgu_ge (c := fun s _ => cM M p s) (N := (pre ++ l).length + 1) (n := n) (k := 0) (by omega)
    have dv : cM M p s ≤ rgu (fun s _ => cM M p s) ((pre ++ l).length + 1) n 0 / ((pre ++ l).length + 1) := (Nat.le_div_iff_mul_le (by omega)).mpr (by rw [Nat.mul_comm]; exact Nat.le_trans big rg)
    unfold rgM at h
    by_cases z : nuM M p < 0
    · have e : nuM M p = -1 := by omega
      rw [e] at h
      have a := rgE_any (C := fun s _ => cM M p s) (n := n) ⟨by omega, hn⟩
      have b : (rgE (fun s => (fun s (_ : Nat) => cM M p s) s 0) 7 (-1) n []).length = (rgE (cM M p) 7 (-1) n []).length := rfl
      rw [b] at a
      have t := le_sm (n := n) (f := fun j => rgu (fun s _ => cM M p s) (j + 1) n 0 / (j + 1)) (i := (pre ++ l).length) (by omega)
      try dsimp only at t
      omega
    · have mm := hm (by omega)
      have e : nuM M p = (((pre ++ l).length + 1 : Nat) : Int) := by
        have l3' := l3
        unfold lss at l3'
        by_cases y : m < 0
        · omega
        · rw [if_neg y] at l3'
          have := l3' (by omega)
          rw [List.length_append]; omega
      rw [e] at h
      have a := rgE_len (C := fun s _ => cM M p s) (n := n) (N := (pre ++ l).length + 1) ⟨by omega, hn⟩ ⟨by omega, by omega⟩
      have b : (rgE (fun s => (fun s (_ : Nat) => cM M p s) s 0) 7 (((pre ++ l).length + 1 : Nat) : Int) n []).length = (rgE (cM M p) 7 (((pre ++ l).length + 1 : Nat) : Int) n []).length := rfl
      rw [b] at a
      omega
