/-! the class reads a text: any part, a whole text -/
theorem rdP_leaf {M : Int → Int} {f p : Nat} {w : List Int} (ty : M (24 + (p : Int)) ≤ 1) : rdP M (f + 1) p w = match w with
    | [] => none
    | a :: r => if a = lfS M p then some ([a], lfN M p, r) else none := by
  rw [rdP_s]
  unfold rdB
  rw [if_pos ty]
  cases w <;> rfl
theorem rdP_nm {M : Int → Int} {f p : Nat} {w : List Int} (ty : M (24 + (p : Int)) = 2 ∨ M (24 + (p : Int)) = 7) : rdP M (f + 1) p w = rdE M (rdP M f) (exN M p) w := by
  rw [rdP_s]
  unfold rdB
  rw [if_neg (by omega), if_pos ty]
theorem rdP_sq {M : Int → Int} {f p : Nat} {w c r : List Int} {n : Nat} (ty : 3 ≤ M (24 + (p : Int)) ∧ M (24 + (p : Int)) ≤ 6) : rdP M (f + 1) p w = some (c, n, r) ↔ ∃ (w' : List Int) (s : List (List Int × Nat)), w = opS (M (24 + (p : Int))) :: w' ∧ rdL (rdP M f (chM M p)) (clS (M (24 + (p : Int)))) 64 w' = some (s, r) ∧ okQ (M (24 + (p : Int))) (M (48 + (p : Int))) (s.map Prod.fst) ∧ c = opS (M (24 + (p : Int))) :: ((sqL (M (24 + (p : Int))) (s.map Prod.fst)).flatten ++ [clS (M (24 + (p : Int)))]) ∧ n = szs s := by
  rw [rdP_s]
  unfold rdB
  rw [if_neg (by omega), if_neg (by omega)]
  cases w with
  | nil => exact ⟨fun h => (by cases h), fun ⟨_, _, h, _⟩ => (by cases h)⟩
  | cons a w =>
    dsimp only
    constructor
    · intro h
      split at h
      · next e =>
        obtain ⟨⟨s, r'⟩, o1, o2⟩ := Option.bind_eq_some_iff.mp h
        dsimp only at o2
        split at o2
        · next ok =>
          cases o2
          exact ⟨w, s, by rw [e], o1, ok, by rw [e], rfl⟩
        · cases o2
      · cases h
    · rintro ⟨w', s, e1, e2, e3, e4, e5⟩
      obtain ⟨x1, x2⟩ := List.cons.inj e1
      subst x2
      rw [if_pos x1]
      refine Option.bind_eq_some_iff.mpr ⟨(s, r), e2, ?_⟩
      dsimp only
      rw [if_pos e3, e4, e5, x1]
theorem cl_step {M : Int → Int} {rO : Nat → Nat} (wf : WF M) (rx : RKx M rO) {N : Nat} (H : CLp M rO N) : CLp M rO (N + 1) := by
  intro p w S L a z t sc oc g hp h h70 hw hl ht hz hN
  have hM1 := wf.2.1
  have hM2 := wf.2.2.1
  have g' : GM (up S 67 8 (t : Int)) M := g.of (fun i _ _ => up_n (by omega))
  have hw' : txA (up S 67 8 (t : Int)) a w := hw
  have r54 := rx.1 p hp
  have ok1 := (wf.2.2.2.1 p hp).1
  have l40 := h.2.1.2.1
  by_cases t1 : M (24 + (p : Int)) ≤ 1
  · obtain ⟨T, e1, e2⟩ := e_rp_leaf wf g' h.dn hw' hl hz hp t1
    have lp1 := lp_part h h70 (show p < 24 by omega) e1
    have inv : ∀ f c n r, rdP M f p w = some (c, n, r) → w = lfS M p :: r ∧ n = lfN M p := fun f c n r e => by
      cases f with
      | zero => cases e
      | succ f =>
        rw [rdP_leaf t1] at e
        cases w with
        | nil => cases e
        | cons x w =>
          dsimp only at e
          split at e
          · next q => cases e; exact ⟨by rw [q], rfl⟩
          · cases e
    rcases e2 with ⟨b, no⟩ | ⟨r, r1, r2, r3, r4, r5⟩
    · refine Or.inr ⟨⟨1, by omega, LPf.of lp1 b.dn⟩, fun f c n r e => ?_⟩
      obtain ⟨x1, x2⟩ := inv f c n r e
      rw [x2]
      exact Or.inr (no r x1)
    · have lr : r.length + 1 = w.length := by rw [r1, List.length_cons]
      refine Or.inl ⟨1, [lfS M p], lfN M p, r, T, ⟨1, ?_⟩, by show 1 + 120 ≤ 240 * 1 + rO p + 1; omega, lp1, r3, r2, by omega, fun i x hx => ?_, ?_, r5.dn⟩
      · rw [rdP_leaf t1, r1]
        show (if lfS M p = lfS M p then _ else none) = _
        rw [if_pos rfl]
      · have i0 : i < 1 := (List.getElem?_eq_some_iff.mp hx).1
        have i1 : i = 0 := by omega
        subst i1
        have hx' : some (lfS M p) = some x := hx
        rw [r4, ← Option.some.inj hx', Nat.add_zero]
        rw [r1] at hw'
        exact hw'.hd
      · rw [r1] at hw'
        show txA T (a + 1) r
        exact fun i x hx => by rw [r4]; exact hw'.tl i x hx
  · by_cases ty : M (24 + (p : Int)) = 2 ∨ M (24 + (p : Int)) = 7
    · obtain ⟨x1, x2, lo, x3, x4⟩ := e_exo wf g' hp ty
      obtain ⟨X, e1, e2⟩ := e_rdx wf g' h.dn hw' hl x2 x3 x4
      have rp : mX10_readPart (up S 67 8 (t : Int)) (p : Int) = some X := by
        have g1 := (g'.2.1 p hp).1
        unfold mX10_readPart
        rw [gd_t (by omega), nx_e, g1, gd_t (by omega), if_neg (by omega), if_neg (by omega)]
        have tt : (if M (24 + (p : Int)) = 2 then (some (0 : Nat)) else (if M (24 + (p : Int)) = 7 then (some (0)) else (some (1)))) = some 0 := by
          rcases ty with y | y
          · rw [if_pos y]
          · rw [if_neg (by omega), if_pos y]
        rw [bd1_e tt, if_pos rfl, bd1_e x1, bd1_e e1]
      have lp1 := lp_part h h70 (show p < 24 by omega) rp
      rcases e2 with ⟨b, no⟩ | ⟨tm, dg, w', ⟨d1, d2, d3⟩, d4, d5, d6⟩
      · refine Or.inr ⟨⟨1, by omega, LPf.of lp1 b.dn⟩, fun f c n r e => ?_⟩
        cases f with
        | zero => cases e
        | succ f => rw [rdP_nm ty, no] at e; cases e
      · have bF := (x4.2.1 tm d4).2
        obtain ⟨F, hF⟩ : ∃ F : Nat, fpM M (exN M p) tm = (F : Int) := ⟨(fpM M (exN M p) tm).toNat, by omega⟩
        have lw : w.length = dg.length + w'.length := by rw [d1, List.length_append]
        have sing := rx.2 p tm hp ty d4
        rw [hF] at d5 d6 sing
        rw [show ((F : Nat) : Int).toNat = F from rfl] at sing
        have r54F := rx.1 F (by omega)
        obtain ⟨m, hm⟩ : ∃ m, m = chn M 24 (F : Int) := ⟨_, rfl⟩
        have m1 : 1 ≤ m := by rw [hm, chn_s]; omega
        rw [← hm] at d6
        -- what a reading of it is
        have inv : ∀ f c n r, rdP M f p w = some (c, n, r) → ∃ f' s, rdC M (rdP M f') 25 (F : Int) w' = some (s, r) ∧ n = szs s := fun f c n r e => by
          cases f with
          | zero => cases e
          | succ f =>
            rw [rdP_nm ty, d5] at e
            obtain ⟨⟨s, r'⟩, o1, o2⟩ := Option.bind_eq_some_iff.mp e
            cases o2
            exact ⟨f, s, o1, rfl⟩
        rcases d6 with ⟨lt, b⟩ | ⟨le, c1, ⟨c68, c71, c72⟩, c70, cch, kr⟩
        · refine Or.inr ⟨⟨1, by omega, LPf.of lp1 b.dn⟩, fun f c n r e => ?_⟩
          obtain ⟨f', s, o1, o2⟩ := inv f c n r e
          have len := rdC_len (rdP_ate f') _ _ _ _ _ 24 o1
          rw [← hm] at len
          exact Or.inl (by omega)
        · have kp : KPd S X a t sc oc := ⟨(kept.rf.upF (by decide)).trans kr, fun j _ => by rw [c68]; rfl, fun j hj => c70 j hj, fun j _ => by rw [c71]; rfl, fun j _ => by rw [c72]; rfl⟩
          have hwX : txA X (a + dg.length) w' := fun i x hx => by
            rw [c68]
            rw [d1] at hw'
            exact (txA.app.mp hw').2 i x hx
          have sg : m = 1 → dg = [] → rO F < rO p := fun e _ => sing (by
            rcases (wf.2.2.2.1 F (by omega)).2.1 with q | q
            · exact q
            · obtain ⟨q', hq'⟩ : ∃ q' : Nat, M (96 + (F : Int)) = (q' : Int) := ⟨(M (96 + (F : Int))).toNat, by omega⟩
              rw [chn_s, hq', chn_s] at hm
              omega)
          have dgc : dg = [] ∨ dg.length = 1 := by
            cases dg with
            | nil => exact Or.inl rfl
            | cons x l => right; rw [List.length_cons] at d2 ⊢; omega
          have meas : 55 * w'.length + 55 * (w'.length - (t + m)) + rO F < N := by
            rcases dgc with e | e
            · subst e
              have lw' : w.length = 0 + w'.length := lw
              by_cases m' : m = 1
              · have := sg m' rfl; omega
              · have : w'.length - (t + m) + 1 ≤ w.length - (t + 1) := by
                  have le' : t + m + (a + 0) ≤ L := le
                  omega
                omega
            · omega
          rcases ch_cl wf rx H 24 F m w' X (a + dg.length) z (by omega) (by omega) hm (g.kr kp.1) c1 cch hwX (by omega) (by omega) hz meas with ⟨k, s, r, T, ⟨f1, u1⟩, u2, u3, u4, u5, u6, u7, u8, u9⟩ | ⟨⟨k, k1, k2⟩, no⟩
          · refine Or.inl ⟨1 + k, dg ++ fl1 s, szs s, r, T, ⟨f1 + 1, ?_⟩, ?_, lp1.tr u3, ?_, u5, u6, ?_, ?_, kp.tr u9 (by omega) (Nat.le_refl _) (Nat.le_refl _) (Nat.le_refl _)⟩
            · rw [rdP_nm ty, d5]
              have cm : m < 25 := by
                have := itN_chn wf 24 F (by omega) (by omega)
                have b := (e_re81 (S := S) (a := 0) (y := 0) wf g 24 FU F 0 (by omega) (by omega) (by omega) (by unfold FU; omega)).2
                rw [← hm] at b
                omega
              refine Option.bind_eq_some_iff.mpr ⟨(s, r), u1 25 cm, rfl⟩
            · rw [List.length_append]
              rcases dgc with e | e
              · subst e
                by_cases m' : m = 1
                · have := sg m' rfl
                  show 1 + k + 120 ≤ 240 * (0 + (fl1 s).length) + rO p + 1
                  omega
                · show 1 + k + 120 ≤ 240 * (0 + (fl1 s).length) + rO p + 1
                  omega
              · omega
            · rw [List.length_append, show a + (dg.length + (fl1 s).length) = a + dg.length + (fl1 s).length by omega]; exact u4
            · refine txA.app.mpr ⟨fun i x hx => ?_, u7⟩
              have li := (List.getElem?_eq_some_iff.mp hx).1
              rw [u9.2.1 _ (by omega), c68]
              rw [d1] at hw'
              exact (txA.app.mp hw').1 i x hx
            · rw [List.length_append, show a + (dg.length + (fl1 s).length) = a + dg.length + (fl1 s).length by omega]; exact u8
          · refine Or.inr ⟨⟨1 + k, ?_, k2.tr lp1 kp.1⟩, fun f c n r e => ?_⟩
            · rcases dgc with e | e
              · subst e
                have lw' : w.length = 0 + w'.length := lw
                have le' : t + m + (a + 0) ≤ L := le
                by_cases m' : m = 1
                · have := sg m' rfl
                  subst m'
                  have e2 : w'.length - (t + 1) = w.length - (t + 1) := by omega
                  omega
                · omega
              · omega
            · obtain ⟨f', s, o1, o2⟩ := inv f c n r e
              rw [o2]
              exact no f' 25 s r o1
    · have hs : 3 ≤ M (24 + (p : Int)) ∧ M (24 + (p : Int)) ≤ 6 := by omega
      obtain ⟨T1, e1, e2⟩ := e_rp_seq wf g' h.dn hw' hl (by omega) hp hs
      have lp1 := lp_part h h70 (show p < 24 by omega) e1
      have short : ∀ f K r1 s2 r, rdL (rdP M f (chM M p)) (clS (M (24 + (p : Int)))) K r1 = some (s2, r) → r.length < r1.length := fun f K r1 s2 r e => by
        obtain ⟨⟨u, u1, _⟩, _⟩ := rdL_ate (fun w c n r => rdP_ate f (chM M p) w c n r) _ _ _ _ e
        rw [u1, List.length_append, List.length_cons]; omega
      have inv : ∀ f c n r, rdP M f p w = some (c, n, r) → ∃ f' w' s, w = opS (M (24 + (p : Int))) :: w' ∧ rdL (rdP M f' (chM M p)) (clS (M (24 + (p : Int)))) 64 w' = some (s, r) ∧ okQ (M (24 + (p : Int))) (M (48 + (p : Int))) (s.map Prod.fst) ∧ n = szs s := fun f c n r e => by
        cases f with
        | zero => cases e
        | succ f =>
          obtain ⟨w', s, y1, y2, y3, y4, y5⟩ := (rdP_sq hs).mp e
          exact ⟨f, w', s, y1, y2, y3, y5⟩
      rcases e2 with ⟨b, no⟩ | ⟨r, r1, r2, r3, r4, r5, r6, r7⟩
      · refine Or.inr ⟨⟨1, by omega, LPf.of lp1 b.dn⟩, fun f c n r' e => ?_⟩
        obtain ⟨f', w', s, y1, y2, y3, y4⟩ := inv f c n r' e
        have a1 := no w' y1
        have a2 := short f' 64 w' s r' y2
        exact Or.inl (by omega)
      · have lr : r.length + 1 = w.length := by rw [r1, List.length_cons]
        have kp := r7.dn
        have hw1 : txA T1 (a + 1) r := fun i x hx => by
          rw [r4]
          rw [r1] at hw'
          exact hw'.tl i x hx
        have fr : FRs T1 (a + 1) (oc + 1) sc sc (a + 1) [] := ⟨⟨by omega, by rw [show ((oc + 1 : Nat) : Int) - 1 = (oc : Int) by omega]; exact r6, rfl, rfl⟩, fun i hi => absurd hi (Nat.not_lt_zero _), txA.nil, fun x hx => by cases hx⟩
        have hb := h.2.1
        rcases el_cl wf rx H hp hs r.length r T1 (a + 1) z sc [] (Nat.le_refl _) (g.kr kp.1) r3 r5 hw1 (by omega) (by omega) hz (by omega) fr (by omega) with ⟨k, s, r', T, ⟨f1, u1⟩, u2, u3, u4, u5, u6, u7, u8, u9, u10⟩ | ⟨⟨k, k1, k2⟩, no⟩
        · rw [List.nil_append] at u2 u8
          have sl : (sqL (M (24 + (p : Int))) (s.map Prod.fst)).flatten.length = (fl1 s).length := ((sqL_cq (M (24 + (p : Int))) (s.map Prod.fst)).pm.flatten).length_eq.symm
          have cl : (opS (M (24 + (p : Int))) :: ((sqL (M (24 + (p : Int))) (s.map Prod.fst)).flatten ++ [clS (M (24 + (p : Int)))])).length = (fl1 s).length + 2 := by
            rw [List.length_cons, List.length_append, sl]; rfl
          refine Or.inl ⟨1 + k, opS (M (24 + (p : Int))) :: ((sqL (M (24 + (p : Int))) (s.map Prod.fst)).flatten ++ [clS (M (24 + (p : Int)))]), szs s, r', T, ⟨f1 + 1, (rdP_sq hs).mpr ⟨r, s, r1, u1 64 (by omega), u2, rfl, rfl⟩⟩, by rw [cl]; omega, lp1.tr u4, ?_, u6, u7, ?_, ?_, ?_⟩
          · rw [cl, show a + ((fl1 s).length + 2) = a + 1 + (fl1 s).length + 1 by omega, show oc = oc + 1 - 1 by omega]; exact u5
          · intro i x hx
            cases i with
            | zero =>
              have hx' : some (opS (M (24 + (p : Int)))) = some x := hx
              rw [u10.2.1 _ (by omega), r4, ← Option.some.inj hx', Nat.add_zero]
              rw [r1] at hw'
              exact hw'.hd
            | succ i =>
              have := u8 i x hx
              rw [show a + 1 + i = a + (i + 1) by omega] at this
              exact this
          · rw [cl, show a + ((fl1 s).length + 2) = a + 1 + (fl1 s).length + 1 by omega]; exact u9
          · exact kp.tr u10 (by omega) (Nat.le_refl _) (Nat.le_refl _) (by omega)
        · refine Or.inr ⟨⟨1 + k, by omega, k2.tr lp1 kp.1⟩, fun f c n r' e => ?_⟩
          obtain ⟨f', w', s, y1, y2, y3, y4⟩ := inv f c n r' e
          rw [r1] at y1
          obtain ⟨_, e2⟩ := List.cons.inj y1
          rw [← e2] at y2
          rw [y4]
          exact no f' 64 s r' y2 (by rw [List.nil_append]; exact y3)
theorem cl_all {M : Int → Int} {rO : Nat → Nat} (wf : WF M) (rx : RKx M rO) : ∀ N, CLp M rO N := by
  intro N
  induction N with
  | zero => intro p w S L a z t sc oc _ _ _ _ _ _ _ _ h; omega
  | succ N ih => exact cl_step wf rx ih
