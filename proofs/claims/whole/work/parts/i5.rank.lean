/-! the class: the rank of what was read -/
theorem bdG3_e {α1 α2 β : Type} {S : St} {pj : β → St} {x : Option (α1 × α2 × St)} {f : α1 → α2 → St → Option β} {a1 : α1} {a2 : α2} {a : St} {o : β} (h : x = some (a1, a2, a)) (k : gle S a) (h2 : f a1 a2 a = some o) (k2 : gle a (pj o)) : bdG3 S pj x f = some o := by
  rw [h]
  show (if gle S a then entG a pj (f a1 a2 a) else none) = _
  rw [if_pos k]
  exact entG_e h2 k2
theorem e_rank6 {e n : Int} {c : List Int} (hL : c.length ≤ 40) : ∀ (d i f : Nat) (S : St), i + d = c.length → d < f → byR S → txA S 0 c → (∀ (j : Nat) (x : Int), j < i → c[j]? = some x → S 81 (j : Int) = x) → ∃ T, mX11_rankOfRead_6 e n ((c.length : Nat) : Int) f (i : Int) (wgt (c.take i)) S = some (wgt c, T) ∧ kept [81] [] S T ∧ ∀ (j : Nat) (x : Int), c[j]? = some x → T 81 (j : Int) = x := by
  intro d
  induction d with
  | zero =>
    intro i f S hi hf hb h8 h1
    obtain ⟨f, rfl⟩ : ∃ f', f = f' + 1 := ⟨f - 1, by omega⟩
    refine ⟨S, ?_, kept.rf, fun j x hj => h1 j x (by have := (List.getElem?_eq_some_iff.mp hj).1; omega) hj⟩
    rw [mX11_rankOfRead_6, gd_t (by omega), if_pos (by omega), List.take_of_length_le (by omega)]
  | succ d ih =>
    intro i f S hi hf hb h8 h1
    obtain ⟨f, rfl⟩ : ∃ f', f = f' + 1 := ⟨f - 1, by omega⟩
    have e1 : c[i]? = some c[i] := List.getElem?_eq_getElem (by omega)
    have v := h8 i _ e1
    rw [Nat.zero_add] at v
    have b := hb i (by omega)
    obtain ⟨S1, hS1⟩ : ∃ S1 : St, S1 = up S 81 (i : Int) c[i] := ⟨_, rfl⟩
    have k1 : kept [81] [] S S1 := by rw [hS1]; exact kept.rf.upA (by decide)
    have e68 := k1.cell 68 (by decide) (by decide)
    have b1 : byR S1 := hb.of e68
    have t1 : txA S1 0 c := fun j x hj => by rw [e68]; exact h8 j x hj
    have a1 : ∀ (j : Nat) (x : Int), j < i + 1 → c[j]? = some x → S1 81 (j : Int) = x := fun j x hj hx => by
      by_cases q : j = i
      · subst q
        rw [hS1, up_eq]
        rw [e1] at hx
        exact Option.some.inj hx
      · rw [hS1, up_nk (by omega)]
        exact h1 j x (by omega) hx
    obtain ⟨T, g1, g2, g3⟩ := ih (i + 1) f S1 (by omega) (by omega) b1 t1 a1
    refine ⟨T, ?_, k1.trans g2, g3⟩
    have ew : wgt (c.take (i + 1)) = wgt (c.take i) + c[i] * c[i] * c[i] := by
      rw [List.take_succ, e1, wgt_app]
      show _ + (c[i] * c[i] * c[i] + 0) = _
      omega
    rw [ew, show ((i + 1 : Nat) : Int) = (i : Int) + 1 by omega] at g1
    have v81 : S1 81 (i : Int) = c[i] := by rw [hS1, up_eq]
    rw [mX11_rankOfRead_6, gd_t (by omega), if_neg (by omega), if_neg (by omega), gd_t (by omega), gd_t b, nx_e, v, ← hS1, v81, bd1_e (show mX9_weightOf c[i] = some (c[i] * c[i] * c[i]) from rfl), nx_e]
    exact g1
/-- where the ranks of a term are -/
theorem e_by200 {S : St} (h : Cor S) {e t n : Nat} (he : (e : Int) < S 84 0) (ht : t < cnE (S 84) e) (hn : (n : Int) ≤ S 84 1) (h2 : kM (S 84) e n ≤ 200) : mX0_byTerm_40 S (e : Int) (t : Int) (n : Int) = some ((byM (S 84) e t n : Nat) : Int) := by
  have hM1 := h.wf.2.1
  obtain ⟨x, x1, x2, x3⟩ := e_byTerm40 h he (show (t : Int) < S 84 (198 + (e : Int)) by unfold cnE at ht; omega) hn
  have e' := ev_200 (k_terms h he (n := n) (by omega)) h2
  have l := le_sm (f := fun t => byM (S 84) e t n) ht
  try dsimp only at l
  have := ev_200 x2.sm (by omega)
  rw [x1, this]
theorem e_rank75 {S : St} (h : Cor S) {e t n : Nat} {a3 y : Int} (he : (e : Int) < S 84 0) (ht : t < cnE (S 84) e) (c2 : 2 ≤ cnE (S 84) e) (hn : (n : Int) ≤ S 84 1) (h2 : kM (S 84) e n ≤ 200) (h81 : S 81 0 = 48 + (t : Int)) : ∀ (d j f : Nat) (fr to : Int), j + d = t + 1 → d < f → (j = 0 ∨ (1 ≤ j ∧ fr = ((sm (j - 1) (fun t => byM (S 84) e t n) : Nat) : Int) ∧ to = ((sm j (fun t => byM (S 84) e t n) : Nat) : Int))) → mX11_rankOfRead_75 S (e : Int) (n : Int) a3 y f (j : Int) to fr = some (((sm t (fun t => byM (S 84) e t n) : Nat) : Int), ((sm (t + 1) (fun t => byM (S 84) e t n) : Nat) : Int)) := by
  have wf := h.wf
  have hM0 := wf.1
  have oE := (wf.2.2.2.2.1 e he).1
  have g8 : S 8 (e : Int) = S 84 (198 + (e : Int)) := h.gm.2.2.1 e (by omega)
  have cc : ((cnE (S 84) e : Nat) : Int) = S 84 (198 + (e : Int)) := by unfold cnE; omega
  intro d
  induction d with
  | zero =>
    intro j f fr to hj hf hq
    obtain ⟨f, rfl⟩ : ∃ f', f = f' + 1 := ⟨f - 1, by omega⟩
    rcases hq with q | ⟨q1, q2, q3⟩
    · omega
    · have ej : j = t + 1 := by omega
      rw [mX11_rankOfRead_75, gd_t (by omega), g8, gd_t (by unfold inI; omega), if_neg (by omega), h81, gd_t ⟨by unfold inI; omega, by unfold inI; omega⟩, if_pos (by omega), q2, q3, show j - 1 = t by omega, ej]
  | succ d ih =>
    intro j f fr to hj hf hq
    obtain ⟨f, rfl⟩ : ∃ f', f = f' + 1 := ⟨f - 1, by omega⟩
    have z62 : (if (j : Int) = 0 then (some (0 : Int)) else (bd1 (mX0_byTerm_40 S (e : Int) ((j : Int) - 1) (n : Int)) fun r_70 => some ((fr + r_70)))) = some (((sm j (fun t => byM (S 84) e t n) : Nat) : Int)) := by
      rcases hq with q | ⟨q1, q2, q3⟩
      · rw [if_pos (by omega), q]; rfl
      · have bt := e_by200 h he (show j - 1 < cnE (S 84) e by omega) hn h2
        rw [show (((j - 1 : Nat)) : Int) = (j : Int) - 1 by omega] at bt
        rw [if_neg (by omega), bd1_e bt, q2]
        have : sm j (fun t => byM (S 84) e t n) = sm (j - 1) (fun t => byM (S 84) e t n) + byM (S 84) e (j - 1) n := by
          obtain ⟨i, rfl⟩ : ∃ i, j = i + 1 := ⟨j - 1, by omega⟩
          rfl
        rw [this]
        exact congrArg some (by omega)
    have bj := e_by200 h he (show j < cnE (S 84) e by omega) hn h2
    have nxt := ih (j + 1) f (((sm j (fun t => byM (S 84) e t n) : Nat) : Int)) (((sm j (fun t => byM (S 84) e t n) : Nat) : Int) + ((byM (S 84) e j n : Nat) : Int)) (by omega) (by omega) (Or.inr ⟨by omega, rfl, by rw [sm_s]; (try dsimp only); omega⟩)
    rw [show ((j + 1 : Nat) : Int) = (j : Int) + 1 by omega] at nxt
    rw [mX11_rankOfRead_75, gd_t (by omega), g8, gd_t (by unfold inI; omega), if_neg (by omega), h81, gd_t ⟨by unfold inI; omega, by unfold inI; omega⟩, if_neg (by omega), bd1_e z62, bd1_e bj, nx_e]
    exact nxt
/-- rank by rank -/
theorem c_rank157 {M : Int → Int} {e n v : Nat} {c : List Int} (hL : c.length ≤ 40) (hc : ∀ x ∈ c, -128 ≤ x ∧ x ≤ 127) (kc : CNE M e n v c) (he : (e : Int) < M 0) (hn : (n : Int) ≤ M 1) (hv : v < kM M e n) (h2 : kM M e n ≤ 200) {to : Nat} (hto : v < to ∧ to ≤ 200) : ∀ (d r f : Nat) (S : St), r + d = v → d < f → SpO S → byR S → S 84 = M → (∀ (i : Nat) (x : Int), c[i]? = some x → S 81 (i : Int) = x) → ∃ T, mX11_rankOfRead_157 (e : Int) (n : Int) ((c.length : Nat) : Int) (wgt c) (to : Int) f (r : Int) S = some (0, (v : Int), T) ∧ SpO T ∧ byR T ∧ TFr S T ∧ T 84 = M := by
  have wb := wgt_b c hc
  intro d
  induction d with
  | zero =>
    intro r f S hr hf hS hB e84 h81
    obtain ⟨f, rfl⟩ : ∃ f', f = f' + 1 := ⟨f - 1, by omega⟩
    have er : r = v := by omega
    subst er
    subst e84
    have x : isTh (S 84) e n r := ⟨he, hn, hv, h2⟩
    obtain ⟨S1, z, S2, s1, s2, s3, ⟨a1, a2, a3, a4, a5⟩, ⟨b1, b2, b3, b4, b5⟩, t⟩ := c_look hS hB x he
    have rd := kc.rdw hn
    obtain ⟨l1, l2, l3⟩ := rd.len
    rcases t with ⟨c', m, y1, y2, y3, y4⟩ | ⟨y1, _⟩
    · obtain ⟨ec, en⟩ := rd.det y2
      subst ec en
      have w4 : S1 60 4 = ((c.length : Nat) : Int) := by rw [s2.1.2.1.1, l1]
      have w8 : S1 60 8 = wgt c := by rw [s2.1.2.2.1, l3]
      obtain ⟨q, q1, q2⟩ := e_holds (S := S2) (L := c.length) (c := c) (c' := c) rfl rfl hL b2 y4 (fun i x hx => by rw [b4]; exact h81 i x hx) hc
      have q0 : q = 1 := by
        rcases q2 with ⟨u, _⟩ | ⟨_, u⟩
        · exact u
        · exact absurd rfl u
      subst q0
      rw [l1] at s3
      refine ⟨S2, ?_, b1, b2, a3.trans b3, b5⟩
      rw [mX11_rankOfRead_157, gd_t (by omega), if_neg (by omega)]
      refine bdG1_e s1 a3.2.1 ?_ b3.2.1
      rw [w4, gd_t (by omega), if_pos rfl, w8, gd_t (by omega), if_pos rfl]
      refine bdG2_e s3 b3.2.1 ?_ gle_rfl
      have hM1 := hS.1.1.wf.2.1
      rw [y3, gd_t (by omega), if_pos rfl, bd1_e q1, gd_t (by decide), if_neg (by decide)]
    · exact absurd rd (y1 (by omega) c n)
  | succ d ih =>
    intro r f S hr hf hS hB e84 h81
    obtain ⟨f, rfl⟩ : ∃ f', f = f' + 1 := ⟨f - 1, by omega⟩
    subst e84
    have hM1 := hS.1.1.wf.2.1
    have x : isTh (S 84) e n r := ⟨he, hn, by omega, h2⟩
    have x' : isTh (S 84) e n v := ⟨he, hn, hv, h2⟩
    obtain ⟨S1, z, S2, s1, s2, s3, ⟨a1, a2, a3, a4, a5⟩, ⟨b1, b2, b3, b4, b5⟩, t⟩ := c_look hS hB x he
    have w4 := s2.1.2.1.1
    have w8 := s2.1.2.2.1
    have lx := (thing_le hS x).2.2
    obtain ⟨T1, u1, u2, u3, u4, u5⟩ := ih (r + 1) f S1 (by omega) (by omega) a1 a2 a5 (fun i x hx => by rw [a4]; exact h81 i x hx)
    obtain ⟨T2, v1, v2, v3, v4, v5⟩ := ih (r + 1) f S2 (by omega) (by omega) b1 b2 b5 (fun i x hx => by rw [b4]; exact h81 i x hx)
    rw [show ((r + 1 : Nat) : Int) = (r : Int) + 1 by omega] at u1 v1
    by_cases q1 : (tX (S 84) e n r).length = c.length
    · have wb2 := wgt_b (tX (S 84) e n r) (fun y hy => by have := tX_b hS.1.1 x y hy; omega)
      rw [q1] at w4 s3 wb2
      by_cases q2 : wgt (tX (S 84) e n r) = wgt c
      · refine ⟨T2, ?_, v2, v3, (a3.trans b3).trans v4, v5⟩
        rw [mX11_rankOfRead_157, gd_t (by omega), if_neg (by omega)]
        refine bdG1_e s1 a3.2.1 ?_ (b3.trans v4).2.1
        rw [w4, gd_t (by omega), if_pos rfl, w8, gd_t (by omega), if_pos q2]
        refine bdG2_e s3 b3.2.1 ?_ v4.2.1
        rcases t with ⟨c', m, y1, y2, y3, y4⟩ | ⟨y1, y2⟩
        · have hm := y2.2
          rw [y3, gd_t (by omega)]
          by_cases q3 : (m : Int) = (n : Int)
          · have em : m = n := by omega
            subst em
            rw [if_pos rfl]
            have lc' := y2.len.1
            obtain ⟨q, g1, g2⟩ := e_holds (S := S2) (L := c.length) (c := c) (c' := c') rfl (by omega) hL b2 y4 (fun i x hx => by rw [b4]; exact h81 i x hx) hc
            rcases g2 with ⟨_, g3⟩ | ⟨g3, _⟩
            · -- then it is the one
              subst g3
              obtain ⟨c2, k2⟩ := cn_ex hS.1.1 x
              have ec := ((k2.rdw hn).det y2).1
              subst ec
              have := cn_inj hS.1.1 x x' k2 kc
              omega
            · rw [bd1_e g1, g3, gd_t (by decide), if_pos rfl]
              exact v1
          · rw [if_neg q3]
            exact v1
        · rw [y2, gd_t (by omega), if_neg (by omega)]
          exact v1
      · refine ⟨T1, ?_, u2, u3, a3.trans u4, u5⟩
        rw [mX11_rankOfRead_157, gd_t (by omega), if_neg (by omega)]
        refine bdG1_e s1 a3.2.1 ?_ u4.2.1
        rw [w4, gd_t (by omega), if_pos rfl, w8, gd_t (by omega), if_neg q2]
        exact u1
    · refine ⟨T1, ?_, u2, u3, a3.trans u4, u5⟩
      rw [mX11_rankOfRead_157, gd_t (by omega), if_neg (by omega)]
      refine bdG1_e s1 a3.2.1 ?_ u4.2.1
      rw [w4, gd_t (by omega), if_neg (by omega)]
      exact u1
theorem c_rank {S : St} (hS : SpO S) (hB : byR S) {e n v : Nat} {c : List Int} (x : isTh (S 84) e n v) (kc : CNE (S 84) e n v c) (hL : c.length ≤ 40) (h8 : txA S 0 c) : ∃ T, mX11_rankOfRead S (e : Int) (n : Int) ((c.length : Nat) : Int) = some ((v : Int), T) ∧ SpO T ∧ byR T ∧ TFr S T ∧ T 84 = S 84 := by
  have h := hS.1.1
  have wf := h.wf
  have hM0 := wf.1
  have hM1 := wf.2.1
  obtain ⟨he, hn, hv, h2⟩ := x
  have hc : ∀ y ∈ c, -128 ≤ y ∧ y ≤ 127 := fun y hy => by
    obtain ⟨i, hi⟩ := List.mem_iff_getElem?.mp hy
    have li := (List.getElem?_eq_some_iff.mp hi).1
    have a := h8 i y hi
    rw [Nat.zero_add] at a
    rw [← a]
    exact hB i (by omega)
  obtain ⟨S5, s1, s2, s3⟩ := e_rank6 (e := (e : Int)) (n := (n : Int)) hL c.length 0 FU S (by omega) (by unfold FU; omega) hB h8 (fun j x hj => by omega)
  obtain ⟨o5, t5⟩ := hS.ofR (T := S5) (fun i hi => s2.cell i (by simp <;> omega) (by simp))
  have b5 : byR S5 := hB.of (s2.cell 68 (by decide) (by decide))
  have e84 : S5 84 = S 84 := s2.cell 84 (by decide) (by decide)
  obtain ⟨t, u, F, y⟩ := th_ok h ⟨he, hn, hv, h2⟩
  have ec := kc.det (cn_of h hn y)
  obtain ⟨a1, a2, a3, a4, a5, a6, a7, a8, a9, a10⟩ := y
  have e' := ev_200 (k_terms h he (n := n) (by omega)) h2
  obtain ⟨fr, to, r1, r2, r3⟩ : ∃ fr to : Nat, mX11_rankOfRead_75 S5 (e : Int) (n : Int) ((c.length : Nat) : Int) (wgt c) FU 0 ((kM (S 84) e n : Nat) : Int) 0 = some ((fr : Int), (to : Int)) ∧ fr ≤ v ∧ v < to ∧ to ≤ 200 := by
    by_cases c1 : cnE (S 84) e ≤ 1
    · refine ⟨0, kM (S 84) e n, ?_, Nat.zero_le _, hv, h2⟩
      have oE := (wf.2.2.2.2.1 e he).1
      have g8 : S5 8 (e : Int) = S 84 (198 + (e : Int)) := by
        have := o5.1.1.gm.2.2.1 e (by omega)
        rw [e84] at this
        exact this
      unfold cnE at c1
      obtain ⟨g, hg⟩ : ∃ g, FU = g + 1 := ⟨FU - 1, by unfold FU; omega⟩
      rw [hg, mX11_rankOfRead_75, gd_t (by omega), g8, gd_t (by unfold inI; omega), if_pos (by omega)]
      all_goals rfl
    · have sh : sm (cnE (S 84) e) (fun t => byM (S 84) e t n) = sm (cnE (S 84) e) (fun i => (fun t => byM (S 84) e t n) (0 + i)) := sm_congr fun i _ => by rw [Nat.zero_add]
      have a9' := a9
      rw [sh] at a9'
      obtain ⟨t', u', p1, p2, p3, p4, p5⟩ := pk_ok (g := fun t => byM (S 84) e t n) (cnE (S 84) e) 0 v a9'
      unfold tmP at a1
      rw [p1] at a1
      obtain ⟨i1, i2⟩ := Prod.mk.inj a1
      subst i1 i2
      have e0 : sm (t' - 0) (fun i => (fun t => byM (S 84) e t n) (0 + i)) = sm t' (fun t => byM (S 84) e t n) := by
        rw [Nat.sub_zero]
        exact sm_congr fun i _ => by rw [Nat.zero_add]
      rw [e0] at p5
      try dsimp only at p4
      have top := sm_pre (f := fun t => byM (S 84) e t n) (show t' + 1 ≤ cnE (S 84) e by omega)
      have oE := (wf.2.2.2.2.1 e he).1
      have c10 : cnE (S 84) e ≤ 10 := by unfold cnE; omega
      have h81 : S5 81 0 = 48 + (t' : Int) := by
        have : c[0]? = some (48 + (t' : Int)) := by
          rw [ec]
          unfold dgT
          rw [if_neg c1]
          rfl
        exact s3 0 _ this
      refine ⟨sm t' (fun t => byM (S 84) e t n), sm (t' + 1) (fun t => byM (S 84) e t n), ?_, by omega, by rw [sm_s]; omega, by omega⟩
      have := e_rank75 (S := S5) o5.1.1 (e := e) (t := t') (n := n) (a3 := ((c.length : Nat) : Int)) (y := wgt c) (by rw [e84]; exact he) (by rw [e84]; omega) (by rw [e84]; omega) (by rw [e84]; exact hn) (by rw [e84]; exact h2) h81 (t' + 1) 0 FU 0 ((kM (S 84) e n : Nat) : Int) (by omega) (by unfold FU; omega) (Or.inl rfl)
      rw [e84] at this
      exact this
  obtain ⟨T, g1, g2, g3, g4, g5⟩ := c_rank157 (M := S 84) hL hc kc he hn hv h2 ⟨r3.1, r3.2⟩ (v - fr) fr FU S5 (by omega) (by unfold FU; omega) o5 b5 e84 s3
  refine ⟨T, ?_, g2, g3, t5.trans g4, g5⟩
  unfold mX11_rankOfRead
  refine entG_e ?_ (t5.trans g4).2.1
  have ta := e_thingsAt o5.1.1 (e := e) (n := n) (by rw [e84]; exact he) (by rw [e84]; exact hn)
  rw [e84] at ta
  rw [bd2_e (show mX11_rankOfRead_6 (e : Int) (n : Int) ((c.length : Nat) : Int) FU 0 0 S = some (wgt c, S5) from s1), bd1_e ta, bd2_e r1]
  refine bdG3_e g1 g4.2.1 ?_ gle_rfl
  rw [if_pos rfl]
