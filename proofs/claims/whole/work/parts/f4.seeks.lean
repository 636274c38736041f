/-! the reference: a ring found by its number -/
def flF {α : Type} : Nat → Nat → (Nat → List α) → List α
  | 0, _, _ => []
  | k + 1, s, g => g s ++ flF k (s + 1) g
theorem flF_end {α : Type} {g : Nat → List α} : ∀ k s, flF (k + 1) s g = flF k s g ++ g (s + k) := by
  intro k
  induction k with
  | zero => intro s; show g s ++ [] = [] ++ g (s + 0); rw [List.append_nil]; rfl
  | succ k ih =>
    intro s
    show g s ++ flF (k + 1) (s + 1) g = (g s ++ flF k (s + 1) g) ++ g (s + (k + 1))
    rw [ih, List.append_assoc, show s + 1 + k = s + (k + 1) by omega]
theorem flat_F {α : Type} {g : Nat → List α} : ∀ k, flat k g = flF k 0 g := by
  intro k
  induction k with
  | zero => rfl
  | succ k ih => rw [flF_end, ← ih, Nat.zero_add]; rfl
/-- a search for the v-th of E, that begins with what stands as pre, and puts it there -/
def skR (T : St) (base : Nat) (pre : List (Nat × Nat)) (E : List (List (Nat × Nat))) (v : Nat) (tF tN : Int) (o : Option (Int × St)) : Prop :=
  (∀ x, E[v]? = some x → ∃ T', o = some (tF, T') ∧ els T' base x ∧ T' 83 31 = ((base + x.length : Nat) : Int) ∧ (∀ j : Nat, j < base → T' 97 (j : Int) = T 97 (j : Int) ∧ T' 98 (j : Int) = T 98 (j : Int)) ∧ kept [97, 98] [(83, 31), (83, 32)] T T') ∧
  (E.length ≤ v → ∃ T', o = some (tN, T') ∧ (els T' base pre ∧ T' 83 31 = ((base + pre.length : Nat) : Int) ∧ T' 83 32 = ((v - E.length : Nat) : Int)) ∧ (∀ j : Nat, j < base → T' 97 (j : Int) = T 97 (j : Int) ∧ T' 98 (j : Int) = T 98 (j : Int)) ∧ kept [97, 98] [(83, 31), (83, 32)] T T')
theorem skR.nil {T : St} {base v : Nat} {pre : List (Nat × Nat)} {tF tN : Int} {o : Option (Int × St)} (h1 : els T base pre) (h2 : T 83 31 = ((base + pre.length : Nat) : Int)) (h3 : T 83 32 = (v : Int)) (h : o = some (tN, T)) : skR T base pre [] v tF tN o := by
  refine ⟨fun x e => by simp at e, fun _ => ⟨T, h, ⟨h1, h2, by rw [h3, List.length_nil, Nat.sub_zero]⟩, fun j _ => ⟨rfl, rfl⟩, kept.rf⟩⟩
/-- first in A, then in B -/
theorem skR.app {T : St} {base v : Nat} {pre : List (Nat × Nat)} {A B : List (List (Nat × Nat))} {tF tN aF aN : Int} {o1 o : Option (Int × St)} (h : skR T base pre A v aF aN o1) (hF : ∀ T', o1 = some (aF, T') → o = some (tF, T')) (hN : ∀ T', o1 = some (aN, T') → A.length ≤ v → els T' base pre → T' 83 31 = ((base + pre.length : Nat) : Int) → T' 83 32 = ((v - A.length : Nat) : Int) → kept [97, 98] [(83, 31), (83, 32)] T T' → skR T' base pre B (v - A.length) tF tN o) : skR T base pre (A ++ B) v tF tN o := by
  obtain ⟨a, b⟩ := h
  by_cases z : v < A.length
  · refine ⟨fun x e => ?_, fun q => by rw [List.length_append] at q; omega⟩
    rw [List.getElem?_append_left z] at e
    obtain ⟨T', t1, t2⟩ := a x e
    exact ⟨T', hF T' t1, t2⟩
  · obtain ⟨T', t1, ⟨t2, t3, t4⟩, t5, t6⟩ := b (by omega)
    obtain ⟨c, d⟩ := hN T' t1 (by omega) t2 t3 t4 t6
    refine ⟨fun x e => ?_, fun q => ?_⟩
    · rw [List.getElem?_append_right (by omega)] at e
      obtain ⟨U, u1, u2, u3, u4, u5⟩ := c x e
      exact ⟨U, u1, u2, u3, fun j hj => ⟨(u4 j hj).1.trans (t5 j hj).1, (u4 j hj).2.trans (t5 j hj).2⟩, t6.trans u5⟩
    · rw [List.length_append] at q ⊢
      obtain ⟨U, u1, ⟨u2, u3, u4⟩, u5, u6⟩ := d (by omega)
      refine ⟨U, u1, ⟨u2, u3, by rw [u4, Nat.sub_sub]⟩, fun j hj => ⟨(u5 j hj).1.trans (t5 j hj).1, (u5 j hj).2.trans (t5 j hj).2⟩, t6.trans u6⟩
theorem ok_sm {c : Nat → Nat} {l : List (Nat × Nat)} {N : Nat} (h : okL c l) (ht : tot l = N) : l.length ≤ N ∧ ∀ x ∈ l, x.1 ≤ N := by
  induction l generalizing N with
  | nil => exact ⟨Nat.zero_le _, fun x hx => by cases hx⟩
  | cons y l ih =>
    have a := (h y (List.mem_cons_self ..)).1
    have b : y.1 + tot l = N := ht
    obtain ⟨i1, i2⟩ := ih (N := tot l) (fun x hx => h x (List.mem_cons_of_mem _ hx)) rfl
    refine ⟨by rw [List.length_cons]; omega, fun x hx => ?_⟩
    rcases List.mem_cons.mp hx with e | e
    · subst e; omega
    · have := i2 x e; omega
theorem okL.app {c : Nat → Nat} {l : List (Nat × Nat)} {s r : Nat} (h : okL c l) (h1 : 1 ≤ s) (h2 : r < c s) : okL c (l ++ [(s, r)]) := fun x hx => by
  rcases List.mem_append.mp hx with e | e
  · exact h x e
  · rw [List.mem_singleton] at e
    subst e
    exact ⟨h1, h2⟩
theorem tot_1 {l : List (Nat × Nat)} {s r : Nat} : tot (l ++ [(s, r)]) = tot l + s := by
  rw [tot_app]
  show tot l + (s + 0) = _
  omega
/-- what may stand: few of a size, where something may stand behind it -/
def fewC (c : Nat → Nat) (m0 : Int) (n0 : Nat) : Prop := ∀ (pre : List (Nat × Nat)) (m : Int) (n s : Nat), okL c pre → tot pre + n = n0 → (0 ≤ m0 → m = m0 - ((pre.length : Nat) : Int) ∧ 0 ≤ m) → (m0 < 0 → m = -1) → 1 ≤ s → s ≤ n → m ≠ 0 → rwW c (lss m) (n - s) ≠ 0 → c s ≤ 200
theorem e_seeks {c : Nat → Nat} {q base n0 : Nat} {m0 : Int} (hq : q < 30) (hn0 : n0 ≤ 7) (hm0 : -1 ≤ m0 ∧ m0 ≤ 7) (hb : base + 8 ≤ 512) (hfew : fewC c m0 n0) : ∀ (f n : Nat) (m : Int) (pre : List (Nat × Nat)) (v g : Nat) (T : St), n ≤ f → f < g → okL c pre → smL' pre → tot pre + n = n0 → (0 ≤ m0 → m = m0 - ((pre.length : Nat) : Int) ∧ 0 ≤ m) → (m0 < 0 → m = -1) → -1 ≤ m → hasC T q c → els T base pre → T 83 31 = ((base + pre.length : Nat) : Int) → T 83 32 = (v : Int) → v ≤ 1000 → skR T base pre (rgE c f m n pre) v 1 0 (RX12_seeks g 0 (q : Int) (base : Int) (n : Int) m T) := by
  -- the end of a row
  have base0 : ∀ (f : Nat) (m : Int) (pre : List (Nat × Nat)) (v g : Nat) (T : St), okL c pre → smL' pre → tot pre ≤ 7 → -1 ≤ m → m ≤ 7 → els T base pre → T 83 31 = ((base + pre.length : Nat) : Int) → T 83 32 = (v : Int) → v ≤ 1000 → skR T base pre (rgE c f m 0 pre) v 1 0 (RX12_seeks (g + 1) 0 (q : Int) (base : Int) 0 m T) := by
    intro f m pre v g T ok sm tp m1 m7 h1 h2 h3 hv
    have hpl := (ok_sm ok rfl).1
    have st : RX12_seeks (g + 1) 0 (q : Int) (base : Int) 0 m T = bX12_seeks (RX12_seeks g) T (q : Int) (base : Int) 0 m := by
      show (if (0 : Nat) = 0 then bX12_seeks (RX12_seeks g) T (q : Int) (base : Int) 0 m else none) = _
      rw [if_pos rfl]
    rw [rgE_0, st]
    by_cases z : m ≤ 0
    · by_cases y : pre = []
      · have eM : bX12_seeks (RX12_seeks g) T (q : Int) (base : Int) 0 m = some (0, T) := by
          subst y
          rw [List.length_nil] at h2
          unfold bX12_seeks
          rw [gd_t (by decide), if_pos rfl, gd_t (by omega), if_neg (by omega), h2, gd_t (by omega), if_pos (by omega)]
        rw [eM, if_neg (fun w => w.2.1 y)]
        exact skR.nil h1 h2 h3 rfl
      · have l1 : 1 ≤ pre.length := List.length_pos_iff.mpr y
        have eM : bX12_seeks (RX12_seeks g) T (q : Int) (base : Int) 0 m = if lst pre = true then (if 0 ≤ (v : Int) - 1 then (some (0, up T 83 32 ((v : Int) - 1))) else (some (1, up T 83 32 ((v : Int) - 1)))) else some (0, T) := by
          unfold bX12_seeks
          rw [gd_t (by decide), if_pos rfl, gd_t (by omega), if_neg (by omega), h2, gd_t (by omega), if_neg (by omega), bd1_e (e_isLeast h1 sm (by omega) h2)]
          by_cases x : lst pre = true
          · rw [if_pos x, if_pos x, gd_t (by decide), if_neg (by decide), nx_e, up_eq, h3, gd_t (by omega)]
          · rw [if_neg x, if_neg x, gd_t (by decide), if_pos rfl]
        rw [eM]
        by_cases x : lst pre = true
        · rw [if_pos x, if_pos (show m ≤ 0 ∧ pre ≠ [] ∧ lst pre = true from ⟨z, y, x⟩)]
          have e1 : els (up T 83 32 ((v : Int) - 1)) base pre := h1.of (fun i _ => ⟨by rw [up_n (by decide)], by rw [up_n (by decide)]⟩)
          refine ⟨fun w e => ?_, fun w => ?_⟩
          · have v0 : v = 0 := by
              rcases Nat.eq_zero_or_pos v with r | r
              · exact r
              · rw [List.getElem?_eq_none (by simp; omega)] at e; cases e
            subst v0
            have : pre = w := Option.some.inj e
            subst this
            refine ⟨_, by rw [if_neg (by omega)], e1, by rw [up_nk (by decide)]; exact h2, fun j _ => ⟨by rw [up_n (by decide)], by rw [up_n (by decide)]⟩, kept.upF kept.rf (by simp)⟩
          · rw [List.length_singleton] at w ⊢
            refine ⟨_, by rw [if_pos (by omega)], ⟨e1, by rw [up_nk (by decide)]; exact h2, by rw [up_eq]; omega⟩, fun j _ => ⟨by rw [up_n (by decide)], by rw [up_n (by decide)]⟩, kept.upF kept.rf (by simp)⟩
        · rw [if_neg x, if_neg (fun w => x w.2.2)]
          exact skR.nil h1 h2 h3 rfl
    · have eM : bX12_seeks (RX12_seeks g) T (q : Int) (base : Int) 0 m = some (0, T) := by
        unfold bX12_seeks
        rw [gd_t (by decide), if_pos rfl, gd_t (by omega), if_pos (by omega)]
      rw [eM, if_neg (fun w => z w.1)]
      exact skR.nil h1 h2 h3 rfl
  intro f
  induction f with
  | zero =>
    intro n m pre v g T hn hg ok sm hp hm hm' m1 hY h1 h2 h3 hv
    obtain ⟨g, rfl⟩ : ∃ g', g = g' + 1 := ⟨g - 1, by omega⟩
    have : n = 0 := by omega
    subst this
    exact base0 0 m pre v g T ok sm (by omega) m1 (by omega) h1 h2 h3 hv
  | succ f ih =>
    intro n m pre v g T hn hg ok sm hp hm hm' m1 hY h1 h2 h3 hv
    obtain ⟨g, rfl⟩ : ∃ g', g = g' + 1 := ⟨g - 1, by omega⟩
    have m7 : m ≤ 7 := by omega
    have hpl := (ok_sm ok (rfl : tot pre = tot pre)).1
    by_cases n0' : n = 0
    · subst n0'
      exact base0 (f + 1) m pre v g T ok sm (by omega) m1 m7 h1 h2 h3 hv
    have st : RX12_seeks (g + 1) 0 (q : Int) (base : Int) (n : Int) m T = bd2 (mX12_seeks_55 (RX12_seeks g) (q : Int) (base : Int) (n : Int) m FU 1 T) (fun t_5 S_6 => if t_5 = 0 then (some (1, S_6)) else (some (0, S_6))) := by
      show (if (0 : Nat) = 0 then bX12_seeks (RX12_seeks g) T (q : Int) (base : Int) (n : Int) m else none) = _
      rw [if_pos rfl]
      unfold bX12_seeks
      rw [gd_t (by omega), if_neg (by omega)]
    by_cases m0 : m = 0
    · subst m0
      rw [rgE_z (by omega), st]
      refine skR.nil h1 h2 h3 ?_
      rw [show FU = 1999999 + 1 from rfl, mX12_seeks_55, gd_t (by decide), if_neg (by omega), gd_t (by decide), if_pos rfl]
      rfl
    obtain ⟨l1, l2⟩ := lss_b m1 m7 m0
    -- the ranks of a size
    have L112 : ∀ s : Nat, 1 ≤ s → s ≤ n → c s ≤ 1000 → rwW c (lss m) (n - s) ≠ 0 → ∀ (d r v F : Nat) (T : St), r + d = c s → d < F → hasC T q c → els T base pre → T 83 31 = ((base + pre.length : Nat) : Int) → T 83 32 = (v : Int) → v ≤ 1000 → skR T base pre (flF d r (fun r => if bel pre (s, r) = true then [] else rgE c f (lss m) (n - s) (pre ++ [(s, r)]))) v 0 1 (mX12_seeks_112 (RX12_seeks g) ((c s : Nat) : Int) (s : Int) (q : Int) (base : Int) (n : Int) m F (r : Int) T) := by
      intro s s1 s2 cs cw d
      induction d with
      | zero =>
        intro r v F T hr hF hY h1 h2 h3 hv
        obtain ⟨F, rfl⟩ : ∃ f', F = f' + 1 := ⟨F - 1, by omega⟩
        refine skR.nil h1 h2 h3 ?_
        rw [mX12_seeks_112, gd_t (by omega), gd_t ⟨by omega, by omega⟩, if_pos (by omega)]
      | succ d ihd =>
        intro r v F T hr hF hY h1 h2 h3 hv
        obtain ⟨F, rfl⟩ : ∃ f', F = f' + 1 := ⟨F - 1, by omega⟩
        show skR T base pre ((if bel pre (s, r) = true then [] else rgE c f (lss m) (n - s) (pre ++ [(s, r)])) ++ flF d (r + 1) _) v 0 1 _
        have nxt : ∀ (v' : Nat) (T' : St), hasC T' q c → els T' base pre → T' 83 31 = ((base + pre.length : Nat) : Int) → T' 83 32 = (v' : Int) → v' ≤ 1000 → skR T' base pre (flF d (r + 1) (fun r => if bel pre (s, r) = true then [] else rgE c f (lss m) (n - s) (pre ++ [(s, r)]))) v' 0 1 (mX12_seeks_112 (RX12_seeks g) ((c s : Nat) : Int) (s : Int) (q : Int) (base : Int) (n : Int) m F ((r : Int) + 1) T') := fun v' T' a1 a2 a3 a4 a5 => by
          have := ihd (r + 1) v' F T' (by omega) (by omega) a1 a2 a3 a4 a5
          rw [show ((r + 1 : Nat) : Int) = (r : Int) + 1 by omega] at this
          exact this
        have unf : ∀ X : Option (Int × St), X = mX12_seeks_112 (RX12_seeks g) ((c s : Nat) : Int) (s : Int) (q : Int) (base : Int) (n : Int) m (F + 1) (r : Int) T → X = (if T 83 31 ≤ (base : Int) then (bd1 (mX12_pushes T (s : Int) (r : Int)) fun S_45 => bd1 (mX12_less m) fun r_47 => bd2 (RX12_seeks g 0 (q : Int) (base : Int) ((n : Int) - (s : Int)) r_47 S_45) fun r_49 S_50 => gd (inI r_49) <| if r_49 = 0 then (nx (up S_50 83 31 ((S_50 83 31) - 1)) fun S_53 => mX12_seeks_112 (RX12_seeks g) ((c s : Nat) : Int) (s : Int) (q : Int) (base : Int) (n : Int) m F ((r : Int) + 1) S_53) else (some (0, S_50))) else (bd1 (mX12_isBelow T (s : Int) (r : Int) (base : Int)) fun r_55 => gd (inI r_55) <| if r_55 = 0 then (bd1 (mX12_pushes T (s : Int) (r : Int)) fun S_59 => bd1 (mX12_less m) fun r_61 => bd2 (RX12_seeks g 0 (q : Int) (base : Int) ((n : Int) - (s : Int)) r_61 S_59) fun r_63 S_64 => gd (inI r_63) <| if r_63 = 0 then (nx (up S_64 83 31 ((S_64 83 31) - 1)) fun S_67 => mX12_seeks_112 (RX12_seeks g) ((c s : Nat) : Int) (s : Int) (q : Int) (base : Int) (n : Int) m F ((r : Int) + 1) S_67) else (some (0, S_64))) else (mX12_seeks_112 (RX12_seeks g) ((c s : Nat) : Int) (s : Int) (q : Int) (base : Int) (n : Int) m F ((r : Int) + 1) T))) := fun X e => by
          rw [e, mX12_seeks_112, gd_t (by omega), gd_t ⟨by omega, by omega⟩, if_neg (by omega), gd_t ⟨by rw [h2]; omega, by omega⟩]
        -- push, seek behind it, take it off
        have try1 : bel pre (s, r) = false → ∀ X : Option (Int × St), X = (bd1 (mX12_pushes T (s : Int) (r : Int)) fun S_45 => bd1 (mX12_less m) fun r_47 => bd2 (RX12_seeks g 0 (q : Int) (base : Int) ((n : Int) - (s : Int)) r_47 S_45) fun r_49 S_50 => gd (inI r_49) <| if r_49 = 0 then (nx (up S_50 83 31 ((S_50 83 31) - 1)) fun S_53 => mX12_seeks_112 (RX12_seeks g) ((c s : Nat) : Int) (s : Int) (q : Int) (base : Int) (n : Int) m F ((r : Int) + 1) S_53) else (some (0, S_50))) → skR T base pre ((if bel pre (s, r) = true then [] else rgE c f (lss m) (n - s) (pre ++ [(s, r)])) ++ flF d (r + 1) (fun r => if bel pre (s, r) = true then [] else rgE c f (lss m) (n - s) (pre ++ [(s, r)]))) v 0 1 X := by
          intro hb' X hX
          rw [if_neg (by rw [hb']; exact Bool.false_ne_true)]
          obtain ⟨T1, p1, p2, p3, p4, p5⟩ := e_pushes (T := T) (s := s) (r := r) (b := base + pre.length) h2 (by omega)
          have ln : (pre ++ [(s, r)]).length = pre.length + 1 := by rw [List.length_append, List.length_singleton]
          have h1' : els T1 base (pre ++ [(s, r)]) := by
            rw [els_i]
            intro i hi
            rw [ln] at hi
            rw [gx_app]
            by_cases y : i < pre.length
            · rw [if_pos y, (p4 (base + i) (by omega)).1, (p4 (base + i) (by omega)).2]
              exact (els_i pre T base).mp h1 i y
            · rw [if_neg y, show i - pre.length = 0 by omega, show base + i = base + pre.length by omega]
              exact p3
          have sm' : smL' (pre ++ [(s, r)]) := fun x hx => by
            rcases List.mem_append.mp hx with e | e
            · exact sm x e
            · rw [List.mem_singleton] at e; subst e; exact ⟨by show s ≤ 7; omega, by show r ≤ 1023; omega⟩
          have sk := ih (n - s) (lss m) (pre ++ [(s, r)]) v g T1 (by omega) (by omega) (ok.app s1 (by omega)) sm' (by rw [tot_1]; omega) (fun z => by have := hm z; rw [ln]; unfold lss; rw [if_neg (by omega)]; omega) (fun z => by rw [hm' z]; rfl) l1 (hY.of (p5.cell 90 (by decide) (by decide))) h1' (by rw [p2, ln]; omega) ((p5 83 32 (by simp) (by simp)).trans h3) hv
          have p5' : kept [97, 98] [(83, 31), (83, 32)] T T1 := p5.mono (by simp) (by simp)
          -- as a search from T
          have sk' : skR T base pre (rgE c f (lss m) (n - s) (pre ++ [(s, r)])) v 0 1 (bd2 (RX12_seeks g 0 (q : Int) (base : Int) ((n - s : Nat) : Int) (lss m) T1) fun a b => if a = 0 then some (1, up b 83 31 (b 83 31 - 1)) else some (0, b)) := by
            refine ⟨fun x e => ?_, fun e => ?_⟩
            · obtain ⟨T', t1, t2, t3, t4, t5⟩ := sk.1 x e
              refine ⟨T', ?_, t2, t3, fun j hj => ⟨(t4 j hj).1.trans (p4 j (by omega)).1, (t4 j hj).2.trans (p4 j (by omega)).2⟩, p5'.trans t5⟩
              rw [bd2_e t1, if_neg (by decide)]
            · obtain ⟨T', t1, ⟨t2, t3, t4⟩, t5, t6⟩ := sk.2 e
              refine ⟨up T' 83 31 (T' 83 31 - 1), ?_, ⟨?_, ?_, ?_⟩, fun j hj => ⟨?_, ?_⟩, kept.upF (p5'.trans t6) (by simp)⟩
              · rw [bd2_e t1, if_pos rfl]
              · rw [els_i] at t2 ⊢
                intro i hi
                have := t2 i (by rw [ln]; omega)
                rw [gx_app, if_pos hi] at this
                rw [up_n (by decide), up_n (by decide)]
                exact this
              · rw [up_eq, t3, ln]; omega
              · rw [up_nk (by decide)]; exact t4
              · rw [up_n (by decide)]; exact (t5 j hj).1.trans (p4 j (by omega)).1
              · rw [up_n (by decide)]; exact (t5 j hj).2.trans (p4 j (by omega)).2
          have eX : X = bd2 (bd2 (RX12_seeks g 0 (q : Int) (base : Int) ((n - s : Nat) : Int) (lss m) T1) fun a b => if a = 0 then some ((1 : Int), up b 83 31 (b 83 31 - 1)) else some ((0 : Int), b)) (fun a b => if a = 0 then some (0, b) else mX12_seeks_112 (RX12_seeks g) ((c s : Nat) : Int) (s : Int) (q : Int) (base : Int) (n : Int) m F ((r : Int) + 1) b) := by
            rw [hX, bd1_e p1, bd1_e (e_lss (by omega)), show (n : Int) - (s : Int) = ((n - s : Nat) : Int) by omega]
            have cases2 : ∃ a b, RX12_seeks g 0 (q : Int) (base : Int) ((n - s : Nat) : Int) (lss m) T1 = some (a, b) ∧ (a = 0 ∨ a = 1) := by
              rcases Nat.lt_or_ge v (rgE c f (lss m) (n - s) (pre ++ [(s, r)])).length with z | z
              · obtain ⟨T', t1, _⟩ := sk.1 _ (List.getElem?_eq_getElem z)
                exact ⟨_, _, t1, Or.inr rfl⟩
              · obtain ⟨T', t1, _⟩ := sk.2 z
                exact ⟨_, _, t1, Or.inl rfl⟩
            obtain ⟨a, b, e, hab⟩ := cases2
            rw [bd2_e e, bd2_e e]
            rcases hab with z | z
            · subst z
              rw [gd_t (by decide), if_pos rfl, if_pos rfl, nx_e]
              rfl
            · subst z
              rw [gd_t (by decide), if_neg (by decide), if_neg (by decide)]
              rfl
          refine skR.app sk' (fun T' e => ?_) (fun T' e e0 e1 e2 e3 e4 => ?_)
          · rw [eX, bd2_e e, if_pos rfl]
          · rw [eX, bd2_e e, if_neg (by decide)]
            exact nxt _ T' (hY.of (e4.cell 90 (by decide) (by decide))) e1 e2 e3 (by omega)
        generalize hX : mX12_seeks_112 (RX12_seeks g) ((c s : Nat) : Int) (s : Int) (q : Int) (base : Int) (n : Int) m (F + 1) (r : Int) T = X
        have u := unf X hX.symm
        by_cases y : pre = []
        · subst y
          rw [List.length_nil] at h2
          rw [if_pos (by omega)] at u
          exact try1 rfl X u
        · have l1' : 1 ≤ pre.length := List.length_pos_iff.mpr y
          rw [if_neg (by omega)] at u
          have eb : bel pre (s, r) = plt (s, r) (gx pre 0) := by
            cases pre with
            | nil => exact absurd rfl y
            | cons a pre => rfl
          have ebl := e_below (s := s) (r := r) h1 sm (by omega) (j := 0) l1' (by omega) (by omega)
          rw [Nat.add_zero, ← eb] at ebl
          rw [bd1_e ebl] at u
          by_cases x : bel pre (s, r) = true
          · rw [if_pos x, gd_t (by decide), if_neg (by decide)] at u
            rw [if_pos x, List.nil_append, u]
            exact nxt v T hY h1 h2 h3 hv
          · rw [if_neg x, gd_t (by decide), if_pos rfl] at u
            exact try1 (by cases hbb : bel pre (s, r) with | true => exact absurd hbb x | false => rfl) X u
    have L55 : ∀ (d i v F : Nat) (T : St), i + d = n → d < F → hasC T q c → els T base pre → T 83 31 = ((base + pre.length : Nat) : Int) → T 83 32 = (v : Int) → v ≤ 1000 → skR T base pre (flF d i (fun i => rgT c f m n pre (i + 1))) v 0 1 (mX12_seeks_55 (RX12_seeks g) (q : Int) (base : Int) (n : Int) m F ((i : Int) + 1) T) := by
      intro d
      induction d with
      | zero =>
        intro i v F T hi hF hY h1 h2 h3 hv
        obtain ⟨F, rfl⟩ : ∃ f', F = f' + 1 := ⟨F - 1, by omega⟩
        refine skR.nil h1 h2 h3 ?_
        rw [mX12_seeks_55, gd_t (by omega), if_pos (by omega)]
      | succ d ihd =>
        intro i v F T hi hF hY h1 h2 h3 hv
        obtain ⟨F, rfl⟩ : ∃ f', F = f' + 1 := ⟨F - 1, by omega⟩
        show skR T base pre (rgT c f m n pre (i + 1) ++ flF d (i + 1) _) v 0 1 _
        have nxt : ∀ (v' : Nat) (T' : St), hasC T' q c → els T' base pre → T' 83 31 = ((base + pre.length : Nat) : Int) → T' 83 32 = (v' : Int) → v' ≤ 1000 → skR T' base pre (flF d (i + 1) (fun i => rgT c f m n pre (i + 1))) v' 0 1 (mX12_seeks_55 (RX12_seeks g) (q : Int) (base : Int) (n : Int) m F ((i : Int) + 1 + 1) T') := fun v' T' a1 a2 a3 a4 a5 => by
          have := ihd (i + 1) v' F T' (by omega) (by omega) a1 a2 a3 a4 a5
          rw [show ((i + 1 : Nat) : Int) = (i : Int) + 1 by omega] at this
          exact this
        obtain ⟨y1, y2⟩ := hY (i + 1) (by omega)
        have ix : ((q : Int) * 8 + ((i : Int) + 1)) * 8 + 0 = ((pl q (i + 1) 0 : Nat) : Int) := by unfold pl; omega
        have b := pl_lt2 (q := q) (s := i + 1) (i := 0) (N := 30) (B := 1920) hq (by omega) (by omega) (by decide)
        have rc := mCC_le (x := rwW c (lss m) (n - (i + 1)))
        generalize hX : mX12_seeks_55 (RX12_seeks g) (q : Int) (base : Int) (n : Int) m (F + 1) ((i : Int) + 1) T = X
        rw [mX12_seeks_55, gd_t (by omega), if_neg (by omega), gd_t (by omega), if_neg m0, bd1_e e_place, ix, gd_t (by omega), y1, nx_e, gd_t (by omega)] at hX
        by_cases z : c (i + 1) = 0
        · rw [if_pos (by omega)] at hX
          rw [show rgT c f m n pre (i + 1) = [] from if_pos (Or.inl z), List.nil_append, ← hX]
          exact nxt v T hY h1 h2 h3 hv
        · rw [if_neg (by omega), bd1_e (e_lss (by omega)), show (n : Int) - ((i : Int) + 1) = ((n - (i + 1) : Nat) : Int) by omega, bd1_e (e_rowsOfF hq hY (by omega) l1 l2), gd_t (by omega)] at hX
          by_cases y : rwW c (lss m) (n - (i + 1)) = 0
          · rw [y, if_pos (by omega)] at hX
            rw [show rgT c f m n pre (i + 1) = [] from if_pos (Or.inr y), List.nil_append, ← hX]
            exact nxt v T hY h1 h2 h3 hv
          · rw [if_neg (by have := CC_pos; omega)] at hX
            have cs := hfew pre m n (i + 1) ok hp hm hm' (by omega) (by omega) m0 y
            have sk := L112 (i + 1) (by omega) (by omega) (by omega) y (c (i + 1)) 0 v FU T (by omega) (by unfold FU; omega) hY h1 h2 h3 hv
            rw [← flat_F, show ((i + 1 : Nat) : Int) = (i : Int) + 1 by omega] at sk
            rw [show rgT c f m n pre (i + 1) = flat (c (i + 1)) (fun r => if bel pre (i + 1, r) = true then [] else rgE c f (lss m) (n - (i + 1)) (pre ++ [(i + 1, r)])) from if_neg (by omega)]
            refine skR.app (o1 := mX12_seeks_112 (RX12_seeks g) ((c (i + 1) : Nat) : Int) ((i : Int) + 1) (q : Int) (base : Int) (n : Int) m FU 0 T) sk (fun T' e => ?_) (fun T' e e0 e1 e2 e3 e4 => ?_)
            · rw [bd2_e e, if_pos rfl] at hX
              exact hX.symm
            · rw [bd2_e e, if_neg (by decide)] at hX
              rw [← hX]
              exact nxt _ T' (hY.of (e4.cell 90 (by decide) (by decide))) e1 e2 e3 (by omega)
    have k := L55 n 0 v FU T (by omega) (by unfold FU; omega) hY h1 h2 h3 hv
    rw [rgE_s (by omega) m0, flat_F, st]
    refine ⟨fun x e => ?_, fun e => ?_⟩
    · obtain ⟨T', t1, t2⟩ := k.1 x e
      exact ⟨T', by rw [bd2_e (show mX12_seeks_55 (RX12_seeks g) (q : Int) (base : Int) (n : Int) m FU 1 T = _ from t1), if_pos rfl], t2⟩
    · obtain ⟨T', t1, t2⟩ := k.2 e
      exact ⟨T', by rw [bd2_e (show mX12_seeks_55 (RX12_seeks g) (q : Int) (base : Int) (n : Int) m FU 1 T = _ from t1), if_neg (by decide)], t2⟩
