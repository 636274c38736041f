/-! the class reads a text: whole -/
/-- a text that is a thing of an expression, whole -/
def RDW (M : Int → Int) (e : Nat) (w c : List Int) (n : Nat) : Prop := (∃ f, rdE M (rdP M f) e w = some (c, n, [])) ∧ (n : Int) ≤ M 1
theorem rdE_le {M : Int → Int} {f g e : Nat} {w : List Int} {x : List Int × Nat × List Int} (h : f ≤ g) (k : rdE M (rdP M f) e w = some x) : rdE M (rdP M g) e w = some x := rdE_mo (fun _ _ _ q => rdP_le h q) k
theorem rdE_det {M : Int → Int} {f g e : Nat} {w : List Int} {x y : List Int × Nat × List Int} (h : rdE M (rdP M f) e w = some x) (k : rdE M (rdP M g) e w = some y) : x = y := by
  have a := rdE_le (Nat.le_max_left f g) h
  have b := rdE_le (Nat.le_max_right f g) k
  exact Option.some.inj (a.symm.trans b)
theorem RDW.det {M : Int → Int} {e : Nat} {w c c' : List Int} {n n' : Nat} (h : RDW M e w c n) (k : RDW M e w c' n') : c = c' ∧ n = n' := by
  obtain ⟨⟨f, h1⟩, h2⟩ := h
  obtain ⟨⟨g, k1⟩, k2⟩ := k
  have := rdE_det h1 k1
  cases this
  exact ⟨rfl, rfl⟩
theorem rd_whole {S : St} {M : Int → Int} {rO : Nat → Nat} {lo : Int} {L e : Nat} {w : List Int} (wf : WF M) (rx : RKx M rO) (g : GM S M) (he : e < 30) (hlo : 0 ≤ lo) (hE : okE M lo e) (h : CRs S L 0 0 0 0 0) (hw : txA S 0 w) (hl : w.length = L) (h1 : 1 ≤ L) : ∃ S1 S2, mX10_readExpr S (e : Int) = some S1 ∧ mX10_read_67_1_73 FU 0 S1 = some S2 ∧ KRd S S2 ∧ ((∃ (c : List Int) (n : Nat), RDW M e w c n ∧ S2 67 6 = 1 ∧ S2 67 8 = 0 ∧ S2 67 4 = (L : Int) ∧ S2 67 5 = (n : Int) ∧ txA S2 0 c) ∨ ((∀ c n, ¬ RDW M e w c n) ∧ (S2 67 6 = 0 ∨ (S2 67 6 = 1 ∧ S2 67 8 = 0 ∧ inI (S2 67 4) ∧ S2 67 4 ≠ (L : Int))))) := by
  have hM1 := wf.2.1
  have hM2 := wf.2.2.1
  have l40 := h.2.1.2.1
  have stop : ∀ T : St, T 67 6 = 0 → mX10_read_67_1_73 FU 0 T = some T := fun T z => by
    show mX10_read_67_1_73 (1999999 + 1) 0 T = _
    rw [mX10_read_67_1_73, gd_t (by decide), if_neg (by decide), z, gd_t (by decide), if_pos rfl]
  obtain ⟨X, e1, e2⟩ := e_rdx wf g h hw (by omega) he hlo hE
  rcases e2 with ⟨b, no⟩ | ⟨tm, dg, w', ⟨d1, d2, d3⟩, d4, d5, d6⟩
  · refine ⟨X, X, e1, stop X b.1, b.2, Or.inr ⟨fun c n r => ?_, Or.inl b.1⟩⟩
    obtain ⟨⟨f, r1⟩, _⟩ := r
    rw [no] at r1; cases r1
  · have bF := (hE.2.1 tm d4).2
    obtain ⟨F, hF⟩ : ∃ F : Nat, fpM M e tm = (F : Int) := ⟨(fpM M e tm).toNat, by omega⟩
    have lw : w.length = dg.length + w'.length := by rw [d1, List.length_append]
    rw [hF] at d5 d6
    have r54F := rx.1 F (by omega)
    obtain ⟨m, hm⟩ : ∃ m, m = chn M 24 (F : Int) := ⟨_, rfl⟩
    rw [← hm] at d6
    have inv : ∀ f c n r, rdE M (rdP M f) e w = some (c, n, r) → ∃ s, rdC M (rdP M f) 25 (F : Int) w' = some (s, r) ∧ n = szs s := fun f c n r q => by
      rw [d5] at q
      obtain ⟨⟨s, r'⟩, o1, o2⟩ := Option.bind_eq_some_iff.mp q
      cases o2
      exact ⟨s, o1, rfl⟩
    rcases d6 with ⟨lt, b⟩ | ⟨le, c1, ⟨c68, c71, c72⟩, c70, cch, kr⟩
    · refine ⟨X, X, e1, stop X b.1, b.2, Or.inr ⟨fun c n r => ?_, Or.inl b.1⟩⟩
      obtain ⟨⟨f, r1⟩, _⟩ := r
      obtain ⟨s, o1, _⟩ := inv f c n [] r1
      have len := rdC_len (rdP_ate f) _ _ _ _ _ 24 o1
      rw [← hm] at len
      omega
    · have hwX : txA X (0 + dg.length) w' := fun i x hx => by
        rw [c68]
        rw [d1] at hw
        exact (txA.app.mp hw).2 i x hx
      have cm : m < 25 := by
        have b := (e_re81 (S := S) (a := 0) (y := 0) wf g 24 FU F 0 (by omega) (by omega) (by omega) (by unfold FU; omega)).2
        rw [← hm] at b
        omega
      rcases ch_cl (sc := 0) (oc := 0) (t := 0) wf rx (cl_all wf rx (55 * w'.length + 55 * (w'.length - (0 + m)) + rO F + 1)) 24 F m w' X (0 + dg.length) 0 (by omega) (by omega) hm (g.kr kr) c1 cch hwX (by omega) (by omega) (by omega) (by omega) with ⟨k, s, r, T, ⟨f1, u1⟩, u2, u3, u4, u5, u6, u7, u8, u9⟩ | ⟨⟨k, k1, T, k2, k3⟩, no⟩
      · have kk : k ≤ 100000 := by have := u4.2.1; omega
        have z8 := u4.1.2.2.2.1
        have lp : mX10_read_67_1_73 FU 0 X = some T := by
          have q := u3 (FU - k) 0 (by omega)
          rw [show FU - k + k = FU by unfold FU; omega] at q
          rw [show ((0 : Nat) : Int) = 0 from rfl] at q
          rw [q, show FU - k = (FU - k - 1) + 1 by unfold FU; omega, mX10_read_67_1_73, gd_t (by omega)]
          by_cases c : (100000 : Int) ≤ ((0 + k : Nat) : Int)
          · rw [if_pos c]
          · rw [if_neg c, u4.1.2.2.1, gd_t (by decide), if_neg (by decide), z8, gd_t (by decide), if_pos (by decide)]
        have rd1 : rdE M (rdP M f1) e w = some (dg ++ fl1 s, szs s, r) := by
          rw [d5]
          exact Option.bind_eq_some_iff.mpr ⟨(s, r), u1 25 cm, rfl⟩
        refine ⟨X, T, e1, lp, kr.trans u9.1, ?_⟩
        have a4 := u4.1.1.2
        cases r with
        | nil =>
          have ll := (rdE_ate (rdP_ate f1) rd1).len
          rw [List.length_append, List.length_nil] at ll
          refine Or.inl ⟨dg ++ fl1 s, szs s, ⟨⟨f1, rd1⟩, by rw [Nat.zero_add] at u5; exact u5⟩, u4.1.2.2.1, z8, by rw [a4]; exact congrArg Nat.cast (by omega), by rw [u4.1.2.1, Nat.zero_add], ?_⟩
          refine txA.app.mpr ⟨fun i x hx => ?_, u7⟩
          have li := (List.getElem?_eq_some_iff.mp hx).1
          rw [u9.2.1 _ (by omega), c68]
          rw [d1] at hw
          exact (txA.app.mp hw).1 i x hx
        | cons x r =>
          have ll := (rdE_ate (rdP_ate f1) rd1).len
          rw [List.length_append, List.length_cons] at ll
          refine Or.inr ⟨fun c n q => ?_, Or.inr ⟨u4.1.2.2.1, z8, by rw [a4]; omega, by rw [a4]; omega⟩⟩
          obtain ⟨⟨f, q1⟩, _⟩ := q
          have := rdE_det q1 rd1
          cases this
      · have lp : mX10_read_67_1_73 FU 0 X = some T := by
          have q := k3 (FU - k - 1) 0 (by omega)
          rw [show FU - k - 1 + k + 1 = FU by unfold FU; omega] at q
          exact q
        refine ⟨X, T, e1, lp, kr.trans k2.2, Or.inr ⟨fun c n q => ?_, Or.inl k2.1⟩⟩
        obtain ⟨⟨f, q1⟩, q2⟩ := q
        obtain ⟨s, o1, o2⟩ := inv f c n [] q1
        rcases no f 25 s [] o1 with y | y
        · exact absurd y (Nat.not_lt_zero _)
        · rw [Nat.zero_add] at y; omega
