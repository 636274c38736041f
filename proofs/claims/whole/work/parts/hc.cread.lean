/-! the class reads a text: things of a sequence, any part -/
theorem fl1_app {l m : List (List Int × Nat)} : fl1 (l ++ m) = fl1 l ++ fl1 m := by
  unfold fl1
  rw [List.map_append, List.flatten_append]
theorem el_cl {M : Int → Int} {rO : Nat → Nat} (wf : WF M) (rx : RKx M rO) {N : Nat} (H : CLp M rO N) {L oc t p base a0 : Nat} (hp : (p : Int) < M 2) (hs : 3 ≤ M (24 + (p : Int)) ∧ M (24 + (p : Int)) ≤ 6) : ∀ (m : Nat) (w : List Int) (S : St) (a z sc : Nat) (es : List (List Int)), w.length ≤ m → GM S M → CRs S L a z (t + 1) sc oc → S 70 (t : Int) = -(p : Int) - 1 → txA S a w → a + w.length = L → t + 1 ≤ w.length → (z : Int) ≤ M 1 → sc + 1 ≤ a → FRs S a oc sc base a0 es → 55 * w.length + 55 * (w.length - (t + 1)) + 55 ≤ N →
    (∃ (k : Nat) (s : List (List Int × Nat)) (r : List Int) (T : St), (∃ f, ∀ K, w.length < K → rdL (rdP M f (chM M p)) (clS (M (24 + (p : Int)))) K w = some (s, r)) ∧ okQ (M (24 + (p : Int))) (M (48 + (p : Int))) (es ++ s.map Prod.fst) ∧ k ≤ 240 * (fl1 s).length + 1 ∧ LPk S T k ∧ CRs T L (a + (fl1 s).length + 1) (z + szs s) t base (oc - 1) ∧ ((z + szs s : Nat) : Int) ≤ M 1 ∧ t ≤ r.length ∧ txA T a0 ((sqL (M (24 + (p : Int))) (es ++ s.map Prod.fst)).flatten ++ [clS (M (24 + (p : Int)))]) ∧ txA T (a + (fl1 s).length + 1) r ∧ KPd S T a0 t base (oc - 1)) ∨
    ((∃ k, k ≤ 240 * w.length + 60 * (w.length - (t + 1)) + 1 ∧ LPf S k) ∧ ∀ f K s r, rdL (rdP M f (chM M p)) (clS (M (24 + (p : Int)))) K w = some (s, r) → okQ (M (24 + (p : Int))) (M (48 + (p : Int))) (es ++ s.map Prod.fst) → r.length < t ∨ M 1 < ((z + szs s : Nat) : Int)) := by
  have hM2 := wf.2.2.1
  have k6 := (wf.2.2.2.1 p hp).2.2.2.2.2 hs
  have ec : ((chM M p : Nat) : Int) = M (72 + (p : Int)) := by unfold chM; omega
  intro m
  induction m with
  | zero => intro w S a z sc es hm g h h70 hw hl ht; omega
  | succ m ih =>
    intro w S a z sc es hm g h h70 hw hl ht hz hsc fr hN
    have g' : GM (up S 67 8 (t : Int)) M := g.of (fun i _ _ => up_n (by omega))
    have fr' : FRs (up S 67 8 (t : Int)) a oc sc base a0 es := fr
    have hw' : txA (up S 67 8 (t : Int)) a w := hw
    by_cases nc : ∀ r, w ≠ clS (M (24 + (p : Int))) :: r
    · -- one more
      have cons1 : ∀ f K s r, rdL (rdP M f (chM M p)) (clS (M (24 + (p : Int)))) K w = some (s, r) → ∃ K' c1 n1 r1 s2, s = (c1, n1) :: s2 ∧ rdP M f (chM M p) w = some (c1, n1, r1) ∧ rdL (rdP M f (chM M p)) (clS (M (24 + (p : Int)))) K' r1 = some (s2, r) := fun f K s r e => by
        cases K with
        | zero => cases e
        | succ K =>
          cases w with
          | nil => cases e
          | cons x w =>
            rw [rdL, if_neg (fun q => nc w (by rw [q]))] at e
            obtain ⟨⟨c1, n1, r1⟩, o1, o2⟩ := Option.bind_eq_some_iff.mp e
            obtain ⟨⟨s2, r2⟩, q1, q2⟩ := Option.bind_eq_some_iff.mp o2
            cases q2
            exact ⟨K, c1, n1, r1, s2, rfl, o1, q1⟩
      have short : ∀ f K r1 s2 r, rdL (rdP M f (chM M p)) (clS (M (24 + (p : Int)))) K r1 = some (s2, r) → r.length < r1.length := fun f K r1 s2 r e => by
        obtain ⟨⟨u, u1, _⟩, _⟩ := rdL_ate (fun w c n r => rdP_ate f (chM M p) w c n r) _ _ _ _ e
        rw [u1, List.length_append, List.length_cons]; omega
      obtain ⟨T1, t1, t2⟩ := e_go_more wf g' h.dn hw' hl hp hs nc hsc
      have lp1 := lp_go h h70 (show p < 24 by omega) t1
      rcases t2 with ⟨b, lt⟩ | ⟨ge, c1, e68, e70, e70', e71, kp⟩
      · refine Or.inr ⟨⟨1, by omega, LPf.of lp1 b.dn⟩, fun f K s r e _ => ?_⟩
        obtain ⟨K', c, n, r1, s2, x1, x2, x3⟩ := cons1 f K s r e
        have l1 := (rdP_ate f (chM M p) w c n r1 x2).len
        have l2 := short f K' r1 s2 r x3
        exact Or.inl (by omega)
      · have kp' := kp.dn
        have hw1 : txA T1 a w := fun i x hx => by rw [e68]; exact hw' i x hx
        have r54 := rx.1 (chM M p) (by omega)
        rcases H (chM M p) w T1 L a z (t + 1) (sc + 1) oc (g.kr kp'.1) (by omega) c1 (by rw [show ((t + 1 : Nat) : Int) = (t : Int) + 1 by omega]; exact e70') hw1 hl (by omega) hz (by omega) with ⟨k, c, n, r1, T2, ⟨f1, p1⟩, p2, p3, p4, p5, p6, p7, p8, p9⟩ | ⟨⟨k, k1, k2⟩, no⟩
        · have cl := (rdP_ate f1 (chM M p) w c n r1 p1).len
          have h70' : T2 70 (t : Int) = -(p : Int) - 1 := by rw [p9.2.2.1 _ (by omega)]; exact e70
          have frn : FRs T2 (a + c.length) oc (sc + 1) base a0 (es ++ [c]) := by
            obtain ⟨⟨f1', f2, f3, f4⟩, f5, f6, f7⟩ := fr
            have fl : (es ++ [c]).flatten = es.flatten ++ c := by
              rw [List.flatten_append, List.flatten_cons]
              show es.flatten ++ (c ++ []) = _
              rw [List.append_nil]
            refine ⟨⟨f1', ?_, by rw [List.length_append]; show _ = base + (es.length + 1); omega, by rw [fl, List.length_append]; omega⟩, fun i hi => ?_, ?_, fun x hx => ?_⟩
            · rw [p9.2.2.2.2 _ (by omega), kp'.2.2.2.2 _ (by omega)]; exact f2
            · rw [List.length_append] at hi
              have hi' : i < es.length + 1 := hi
              by_cases e : i = es.length
              · subst e
                rw [p9.2.2.2.1 _ (by omega), show ((base + es.length : Nat) : Int) = (sc : Int) by omega, e71, List.take_left]
                exact congrArg Nat.cast (by omega)
              · rw [p9.2.2.2.1 _ (by omega), kp'.2.2.2.1 _ (by omega), List.take_append_of_le_length (by omega)]
                exact f5 i (by omega)
            · rw [fl]
              refine txA.app.mpr ⟨f6.of (fun i h1 h2 => ?_), by rw [← f4]; exact p7⟩
              rw [p9.2.1 _ (by omega), e68]; rfl
            · rcases List.mem_append.mp hx with y | y
              · exact f7 x y
              · rw [List.mem_singleton.mp y]; exact cl.2
          rcases ih r1 T2 (a + c.length) (z + n) (sc + 1) (es ++ [c]) (by omega) (g.kr (kp'.1.trans p9.1)) p4 h70' p8 (by omega) p6 p5 (by omega) frn (by omega) with ⟨k', s, r', T', ⟨f2, u1⟩, u2, u3, u4, u5, u6, u7, u8, u9, u10⟩ | ⟨⟨k', k1', k2'⟩, no⟩
          · have fe : fl1 ((c, n) :: s) = c ++ fl1 s := by show (c :: s.map Prod.fst).flatten = _; rw [List.flatten_cons]; rfl
            have ae : es ++ [c] ++ s.map Prod.fst = es ++ ((c, n) :: s).map Prod.fst := by rw [List.append_assoc]; rfl
            rw [ae] at u2 u8
            have fa := fr.1.2.2.2
            have fs := fr.1.2.2.1
            refine Or.inl ⟨1 + k + k', (c, n) :: s, r', T', ⟨max f1 f2, fun K hK => ?_⟩, u2, ?_, (lp1.tr p3).tr u4, ?_, ?_, u7, u8, ?_, ?_⟩
            · obtain ⟨K, rfl⟩ : ∃ K', K = K' + 1 := ⟨K - 1, by omega⟩
              cases w with
              | nil => exact absurd ht (by show ¬ t + 1 ≤ 0; omega)
              | cons x w =>
                rw [rdL, if_neg (fun q => nc w (by rw [q]))]
                refine Option.bind_eq_some_iff.mpr ⟨_, rdP_le (Nat.le_max_left f1 f2) p1, ?_⟩
                refine Option.bind_eq_some_iff.mpr ⟨(s, r'), ?_, rfl⟩
                exact rdL_mo (fun w x e => rdP_le (Nat.le_max_right f1 f2) e) _ _ _ (u1 K (by omega))
            · rw [fe, List.length_append]; omega
            · rw [fe, List.length_append, show szs ((c, n) :: s) = n + szs s from rfl, show a + (c.length + (fl1 s).length) + 1 = a + c.length + (fl1 s).length + 1 by omega, show z + (n + szs s) = z + n + szs s by omega]
              exact u5
            · rw [show szs ((c, n) :: s) = n + szs s from rfl, show z + (n + szs s) = z + n + szs s by omega]; exact u6
            · rw [fe, List.length_append, show a + (c.length + (fl1 s).length) + 1 = a + c.length + (fl1 s).length + 1 by omega]; exact u9
            · exact ((kp'.tr p9 (Nat.le_refl _) (by omega) (by omega) (Nat.le_refl _)).we (a' := a0) (t' := t) (sc' := base) (oc' := oc - 1) (by omega) (Nat.le_refl _) (by omega) (by omega)).tr u10 (Nat.le_refl _) (Nat.le_refl _) (Nat.le_refl _) (Nat.le_refl _)
          · refine Or.inr ⟨⟨1 + k + k', by omega, k2'.tr (lp1.tr p3) (kp'.1.trans p9.1)⟩, fun f K s r' e ok => ?_⟩
            obtain ⟨K', c', n', r1', s2, x1, x2, x3⟩ := cons1 f K s r' e
            have dd := rdP_det x2 p1
            cases dd
            have ae : es ++ [c] ++ s2.map Prod.fst = es ++ s.map Prod.fst := by rw [x1, List.append_assoc]; rfl
            rw [← ae] at ok
            rcases no f K' s2 r' x3 ok with y | y
            · exact Or.inl y
            · refine Or.inr ?_
              rw [x1, show szs ((c, n) :: s2) = n + szs s2 from rfl]
              omega
        · refine Or.inr ⟨⟨1 + k, by omega, k2.tr lp1 kp'.1⟩, fun f K s r e _ => ?_⟩
          obtain ⟨K', c, n, r1, s2, x1, x2, x3⟩ := cons1 f K s r e
          have l2 := short f K' r1 s2 r x3
          rcases no f c n r1 x2 with y | y
          · exact Or.inl (by omega)
          · refine Or.inr ?_
            rw [x1, show szs ((c, n) :: s2) = n + szs s2 from rfl]
            omega
    · -- the end
      obtain ⟨w', ew⟩ : ∃ r, w = clS (M (24 + (p : Int))) :: r := Classical.byContradiction fun n => nc fun r e => n ⟨r, e⟩
      subst ew
      rw [List.length_cons] at hl ht hN hm
      obtain ⟨T1, t1, t2⟩ := e_go_close wf g' h.dn hw' hl hp hs fr'
      have lp1 := lp_go h h70 (show p < 24 by omega) t1
      have one : ∀ f K s r, rdL (rdP M f (chM M p)) (clS (M (24 + (p : Int)))) K (clS (M (24 + (p : Int))) :: w') = some (s, r) → s = [] ∧ r = w' := fun f K s r e => by
        cases K with
        | zero => cases e
        | succ K => rw [rdL, if_pos rfl] at e; cases e; exact ⟨rfl, rfl⟩
      rcases t2 with ⟨no, b⟩ | ⟨ok, c1, x1, y1, kp⟩
      · refine Or.inr ⟨⟨1, by omega, LPf.of lp1 b.dn⟩, fun f K s r e o => ?_⟩
        obtain ⟨rfl, rfl⟩ := one f K s r e
        rw [show ([] : List (List Int × Nat)).map Prod.fst = [] from rfl, List.append_nil] at o
        exact absurd o no
      · refine Or.inl ⟨1, [], w', T1, ⟨0, fun K hK => ?_⟩, ?_, by show 1 ≤ 240 * 0 + 1; omega, lp1, c1, hz, by omega, ?_, ?_, ?_⟩
        · obtain ⟨K, rfl⟩ : ∃ K', K = K' + 1 := ⟨K - 1, by omega⟩
          rw [rdL, if_pos rfl]
        · rw [show ([] : List (List Int × Nat)).map Prod.fst = [] from rfl, List.append_nil]; exact ok
        · rw [show ([] : List (List Int × Nat)).map Prod.fst = [] from rfl, List.append_nil]; exact x1
        · show txA T1 (a + 1) w'
          exact hw'.tl.of (fun i h1 h2 => y1 _ (by omega))
        · exact KPd.dn kp
