/-! the class: bags counted, a bag found by its number -/
theorem ch_z {once : Bool} {f i j : Nat} (h : ch once f i = 0) (hij : i ≤ j) : ch once f j = 0 := by
  have i0 : i ≠ 0 := fun z => by rw [z, ch_0] at h; omega
  unfold ch at h ⊢
  rw [if_neg i0] at h
  rw [if_neg (by omega)]
  cases once with
  | true =>
    simp only [if_true] at h ⊢
    refine cho_lt ?_
    rcases Nat.lt_or_ge f i with z | z
    · omega
    · have := cho_pos z; omega
  | false =>
    simp only [Bool.false_eq_true, if_false] at h ⊢
    rcases Nat.eq_zero_or_pos f with z | z
    · exact cho_lt (by omega)
    · have := cho_pos (n := f + i - 1) (k := i) (by omega); omega
/-- as the class counts: how many are told; of a number 0: any -/
def mB (M : Int → Int) (p q : Nat) : Int := if M (48 + (p : Int)) = 0 then -1 else (q : Int)
theorem e_upTC {S : St} (h : Cor S) {p s q n : Nat} (hp : (p : Int) < S 84 2) (hs : isSq (S 84) p) (ty : S 84 (24 + (p : Int)) = 4 ∨ S 84 (24 + (p : Int)) = 5) (n1 : S 84 (48 + (p : Int)) ≠ 1) (hsM : (s : Int) ≤ S 84 1) (hsN : S 84 (48 + (p : Int)) ≠ 0 → (s : Int) < S 84 1 ∨ s = 0) (hq : q ≤ lgM (S 84) p) (hq0 : S 84 (48 + (p : Int)) = 0 → q = 0) (hn : (n : Int) ≤ S 84 1) : ∃ x : Nat, mX0_bagsUpTo_40 S (p : Int) (q : Int) (n : Int) (s : Int) = some (x : Int) ∧ ev x (bgN (cM (S 84) p) (S 84 (24 + (p : Int)) == 5) s (mB (S 84) p q) n (cM (S 84) p s)) ∧ x ≤ HH := by
  have w := h.wf
  have hM1 := w.2.1
  have lg := lgM_le w hp hs
  obtain ⟨g3, g4, g5, c24, p24, c2⟩ := gm_sq h hp hs
  have r := (h.seq hp hs).2.2 n1 ty s q n hsM hsN hq hn
  have b := rb (p := p) (j := s) (n := q) (k := n) p24 (by omega) (by omega) (by omega)
  have v := h.tabs.2.2.1.at b
  refine ⟨tb S 46 (p * 512 + pl s q n), ?_, ?_, v.2⟩
  · unfold mX0_bagsUpTo_40
    rw [nx_e, show (p : Int) * 512 + (s : Int) * 64 + (q : Int) * 8 + (n : Int) = ((p * 512 + pl s q n : Nat) : Int) by unfold pl; omega, gd_t (by omega), if_neg (by omega), if_neg (by omega), gd_t (by omega), v.1]
  · have e : (if S 84 (48 + (p : Int)) = 0 ∧ q = 0 then -1 else (q : Int)) = mB (S 84) p q := by
      unfold mB
      by_cases z : S 84 (48 + (p : Int)) = 0
      · rw [if_pos ⟨z, hq0 z⟩, if_pos z]
      · rw [if_neg (fun w => z w.1), if_neg z]
    rw [e] at r
    exact r
theorem e_within {S : St} (h : Cor S) {p s q n few : Nat} (hp : (p : Int) < S 84 2) (hs : isSq (S 84) p) (ty : S 84 (24 + (p : Int)) = 4 ∨ S 84 (24 + (p : Int)) = 5) (n1 : S 84 (48 + (p : Int)) ≠ 1) (hs1 : 1 ≤ s) (hsM : (s : Int) ≤ S 84 1) (hq : q ≤ lgM (S 84) p) (hq0 : S 84 (48 + (p : Int)) = 0 → q = 0) (hn : (n : Int) ≤ S 84 1) (hf : few ≤ 10000) : ∃ x : Nat, mX8_bagsWithin S (p : Int) (q : Int) (n : Int) (s : Int) (few : Int) = some (x : Int) ∧ ev x (bgN (cM (S 84) p) (S 84 (24 + (p : Int)) == 5) s (mB (S 84) p q) n few) ∧ x ≤ HH := by
  have w := h.wf
  have hM1 := w.2.1
  have lg := lgM_le w hp hs
  obtain ⟨g3, g4, g5, c24, p24, c2⟩ := gm_sq h hp hs
  obtain ⟨s, rfl⟩ : ∃ s', s = s' + 1 := ⟨s - 1, by omega⟩
  have h6 := (w.2.2.2.1 p hp).2.2.2.2.2 hs
  obtain ⟨o, ho, hob⟩ : ∃ o : Int, (o = 0 ∨ o = 1) ∧ ((gd (inI (S 3 (p : Int))) <| if S 3 (p : Int) = 5 then some (1 : Int) else some 0) = some o ∧ (o == 1) = (S 84 (24 + (p : Int)) == 5)) := by
    rw [g3, gd_t (by omega)]
    rcases ty with z | z
    · exact ⟨0, Or.inl rfl, by rw [z, if_neg (by decide)], by rw [z]; rfl⟩
    · exact ⟨1, Or.inr rfl, by rw [z, if_pos rfl], by rw [z]; rfl⟩
  have mB1 : -1 ≤ mB (S 84) p q := by unfold mB; split <;> omega
  have L : ∀ d i f v : Nat, i + d = n + 1 → d < f → v ≤ HH → ev v (sm i (fun i => if i * (s + 1) ≤ n ∧ (mB (S 84) p q < 0 ∨ (i : Int) ≤ mB (S 84) p q) then ch (S 84 (24 + (p : Int)) == 5) few i * bgN (cM (S 84) p) (S 84 (24 + (p : Int)) == 5) s (lsi (mB (S 84) p q) i) (n - i * (s + 1)) (cM (S 84) p s) else 0)) → ∃ (t : Int) (x : Nat), mX8_bagsWithin_17 S (S 84 (48 + (p : Int))) (p : Int) (q : Int) (n : Int) ((s + 1 : Nat) : Int) (few : Int) f (i : Int) (v : Int) = some (t, (x : Int)) ∧ ev x (bgN (cM (S 84) p) (S 84 (24 + (p : Int)) == 5) (s + 1) (mB (S 84) p q) n few) ∧ x ≤ HH := by
    intro d
    induction d with
    | zero =>
      intro i f v hi hf hv he
      obtain ⟨f, rfl⟩ : ∃ f', f = f' + 1 := ⟨f - 1, by omega⟩
      have a : i ≤ i * (s + 1) := Nat.le_mul_of_pos_right _ (by omega)
      have b : i * (s + 1) ≤ 8 * 8 := Nat.mul_le_mul (by omega) (by omega)
      refine ⟨1, v, ?_, by rw [bgN_e, ← show i = n + 1 by omega]; exact he, hv⟩
      rw [mX8_bagsWithin_17, ← Int.natCast_mul, gd_t (by omega), if_pos (by omega)]
    | succ d ih =>
      intro i f v hi hf hv he
      obtain ⟨f, rfl⟩ : ∃ f', f = f' + 1 := ⟨f - 1, by omega⟩
      have a : i ≤ i * (s + 1) := Nat.le_mul_of_pos_right _ (by omega)
      have b : i * (s + 1) ≤ 8 * 8 := Nat.mul_le_mul (by omega) (by omega)
      have stop : (∀ j, i ≤ j → (if j * (s + 1) ≤ n ∧ (mB (S 84) p q < 0 ∨ (j : Int) ≤ mB (S 84) p q) then ch (S 84 (24 + (p : Int)) == 5) few j * bgN (cM (S 84) p) (S 84 (24 + (p : Int)) == 5) s (lsi (mB (S 84) p q) j) (n - j * (s + 1)) (cM (S 84) p s) else 0) = 0) → ev v (bgN (cM (S 84) p) (S 84 (24 + (p : Int)) == 5) (s + 1) (mB (S 84) p q) n few) := by
        intro hz
        rw [bgN_e, sm_cut (x := i) (y := n + 1) (by omega) (fun j a _ => hz j a)]
        exact he
      have stop1 : ¬ (i * (s + 1) ≤ n ∧ (mB (S 84) p q < 0 ∨ (i : Int) ≤ mB (S 84) p q)) → ev v (bgN (cM (S 84) p) (S 84 (24 + (p : Int)) == 5) (s + 1) (mB (S 84) p q) n few) := fun hz => stop (fun j hj => if_neg (fun w => hz ⟨Nat.le_trans (Nat.mul_le_mul_right _ hj) w.1, by omega⟩))
      rw [mX8_bagsWithin_17, ← Int.natCast_mul, gd_t (by omega)]
      by_cases c1 : i * (s + 1) ≤ n
      · rw [if_neg (by omega)]
        by_cases cc : mB (S 84) p q < 0 ∨ (i : Int) ≤ mB (S 84) p q
        · have t0 : (gd (inI (S 84 (48 + (p : Int)))) <| if S 84 (48 + (p : Int)) = 0 then some (0 : Nat) else gd ((inI (i : Int)) ∧ (inI (q : Int))) <| if (q : Int) < (i : Int) then some 1 else some 0) = some 0 := by
            rw [gd_t (by omega)]
            by_cases z : S 84 (48 + (p : Int)) = 0
            · rw [if_pos z]
            · unfold mB at cc
              rw [if_neg z] at cc
              rw [if_neg z, gd_t (by omega), if_neg (by omega)]
          obtain ⟨P, p1, p2, p3, p4⟩ := e_picks (x := few) (m := i) (o := o) (by omega) (by omega) ho
          rw [hob.2] at p3 p4
          rw [bd1_e t0, if_pos rfl, bd1_e hob.1, bd1_e p1, gd_t (by omega)]
          by_cases z : P = 0
          · rw [if_pos (by omega)]
            refine ⟨0, v, rfl, stop (fun j hj => ?_), hv⟩
            have := ch_z ((ev_zero p3).mp z) hj
            rw [this, Nat.zero_mul, ite_self]
          · have z25 : (gd (inI (S 84 (48 + (p : Int)))) <| if S 84 (48 + (p : Int)) = 0 then some (0 : Int) else some ((q : Int) - (i : Int))) = some ((q - i : Nat) : Int) := by
              rw [gd_t (by omega)]
              by_cases y : S 84 (48 + (p : Int)) = 0
              · have := hq0 y
                rw [if_pos y, this, Nat.zero_sub]; rfl
              · unfold mB at cc
                rw [if_neg y] at cc
                rw [if_neg y]; congr 1; omega
            obtain ⟨x, x1, x2, x3⟩ := e_upTC h (s := s) (q := q - i) (n := n - i * (s + 1)) hp hs ty n1 (by omega) (fun _ => by omega) (by omega) (fun y => by have := hq0 y; omega) (by omega)
            have em : mB (S 84) p (q - i) = lsi (mB (S 84) p q) i := by
              unfold mB lsi
              by_cases y : S 84 (48 + (p : Int)) = 0
              · rw [if_pos y, if_pos y]; rfl
              · unfold mB at cc
                rw [if_neg y] at cc
                rw [if_neg y, if_neg y, if_neg (by omega)]; omega
            rw [em] at x2
            obtain ⟨t, y, y1, y2, y3⟩ := ih (i + 1) f (min HH (v + min HH (P * x))) (by omega) (by omega) min_le' (by
              rw [sm_s, if_pos ⟨c1, cc⟩]
              exact ev_HHs (ev_add he (ev_HHs (ev_mul p3 x2))))
            refine ⟨t, y, ?_, y2, y3⟩
            rw [if_neg (by omega), bd1_e z25, show (n : Int) - ((i * (s + 1) : Nat) : Int) = ((n - i * (s + 1) : Nat) : Int) by omega, show ((s + 1 : Nat) : Int) - 1 = (s : Int) by omega, bd1_e x1, bd1_e (e_timesH (show P ≤ HH from p2) x3), bd1_e (e_plusH hv min_le')]
            rw [show ((i + 1 : Nat) : Int) = (i : Int) + 1 by omega] at y1
            exact y1
        · have z : S 84 (48 + (p : Int)) ≠ 0 := by
            intro z
            unfold mB at cc
            rw [if_pos z] at cc
            omega
          have t1 : (gd (inI (S 84 (48 + (p : Int)))) <| if S 84 (48 + (p : Int)) = 0 then some (0 : Nat) else gd ((inI (i : Int)) ∧ (inI (q : Int))) <| if (q : Int) < (i : Int) then some 1 else some 0) = some 1 := by
            unfold mB at cc
            rw [if_neg z] at cc
            rw [gd_t (by omega), if_neg z, gd_t (by omega), if_pos (by omega)]
          refine ⟨1, v, ?_, stop1 (fun w => cc w.2), hv⟩
          rw [bd1_e t1, if_neg (by decide)]
      · refine ⟨1, v, ?_, stop1 (fun w => c1 w.1), hv⟩
        rw [if_pos (by omega)]
  obtain ⟨t, x, x1, x2, x3⟩ := L (n + 1) 0 FU 0 (by omega) (by unfold FU; omega) (Nat.zero_le _) (by rw [sm_0]; exact ev.rf)
  refine ⟨x, ?_, x2, x3⟩
  unfold mX8_bagsWithin
  rw [gd_t (by omega), nx_e, g4, bd2_e (show mX8_bagsWithin_17 S (S 84 (48 + (p : Int))) (p : Int) (q : Int) (n : Int) ((s + 1 : Nat) : Int) (few : Int) FU 0 0 = _ from x1), ite_self]
/-- the size of the greatest -/
theorem c_fb68 {S : St} (h : Cor S) {p q n t v : Nat} {x1 x2 : Int} (hp : (p : Int) < S 84 2) (hs : isSq (S 84) p) (ty : S 84 (24 + (p : Int)) = 4 ∨ S 84 (24 + (p : Int)) = 5) (n1 : S 84 (48 + (p : Int)) ≠ 1) (hq : q ≤ lgM (S 84) p) (hq0 : S 84 (48 + (p : Int)) = 0 → q = 0) (hn : (n : Int) ≤ S 84 1) (hv : v < CC) (ht : t ≤ n) (lo : ∀ s, 1 ≤ s → s < t → bgN (cM (S 84) p) (S 84 (24 + (p : Int)) == 5) s (mB (S 84) p q) n (cM (S 84) p s) ≤ v) (hi : v < bgN (cM (S 84) p) (S 84 (24 + (p : Int)) == 5) t (mB (S 84) p q) n (cM (S 84) p t)) : ∀ (d s f : Nat), 1 ≤ s → s + d = t → d < f → mX8_findBag_68 S x1 (v : Int) (n : Int) (q : Int) (p : Int) f (s : Int) = some (t : Int) := by
  have w := h.wf
  have hM1 := w.2.1
  have vC : v < 1000000000000 := hv
  intro d
  induction d with
  | zero =>
    intro s f s1 hsd hf
    obtain ⟨f, rfl⟩ : ∃ f', f = f' + 1 := ⟨f - 1, by omega⟩
    have e : s = t := by omega
    subst e
    rw [mX8_findBag_68, gd_t (by omega)]
    by_cases z : (n : Int) ≤ (s : Int)
    · rw [if_pos z]
    · obtain ⟨x, y1, y2, y3⟩ := e_upTC h (s := s) (q := q) (n := n) hp hs ty n1 (by omega) (fun _ => by omega) hq hq0 hn
      have := HH_in y3
      rw [if_neg z, bd1_e y1, gd_t (by omega), if_pos (by have := (ev_lt y2 hv).1.mpr hi; omega)]
  | succ d ih =>
    intro s f s1 hsd hf
    obtain ⟨f, rfl⟩ : ∃ f', f = f' + 1 := ⟨f - 1, by omega⟩
    obtain ⟨x, y1, y2, y3⟩ := e_upTC h (s := s) (q := q) (n := n) hp hs ty n1 (by omega) (fun _ => by omega) hq hq0 hn
    have := HH_in y3
    have l := lo s s1 (by omega)
    rw [mX8_findBag_68, gd_t (by omega), if_neg (by omega), bd1_e y1, gd_t (by omega), if_neg (by have := (ev_lt y2 hv).1; omega)]
    have := ih (s + 1) f (by omega) (by omega) (by omega)
    rw [show ((s + 1 : Nat) : Int) = (s : Int) + 1 by omega] at this
    exact this
/-- its rank -/
theorem c_fb127 {S : St} (h : Cor S) {p q n t v r : Nat} {x1 : Int} (hp : (p : Int) < S 84 2) (hs : isSq (S 84) p) (ty : S 84 (24 + (p : Int)) = 4 ∨ S 84 (24 + (p : Int)) = 5) (n1 : S 84 (48 + (p : Int)) ≠ 1) (hq : q ≤ lgM (S 84) p) (hq0 : S 84 (48 + (p : Int)) = 0 → q = 0) (hn : (n : Int) ≤ S 84 1) (hv : v < CC) (ht1 : 1 ≤ t) (ht : t ≤ n) (lo : bgN (cM (S 84) p) (S 84 (24 + (p : Int)) == 5) t (mB (S 84) p q) n r ≤ v) (hi : v < bgN (cM (S 84) p) (S 84 (24 + (p : Int)) == 5) t (mB (S 84) p q) n (r + 1)) : ∀ (d a b f : Nat), a ≤ r → r ≤ b → b ≤ 2000 → b - a ≤ d → d < f → mX8_findBag_127 S x1 (v : Int) (n : Int) (q : Int) (p : Int) (t : Int) f (b : Int) (a : Int) = some (r : Int) := by
  have w := h.wf
  have hM1 := w.2.1
  have vC : v < 1000000000000 := hv
  intro d
  induction d with
  | zero =>
    intro a b f h1 h2 h3 h4 hf
    obtain ⟨f, rfl⟩ : ∃ f', f = f' + 1 := ⟨f - 1, by omega⟩
    rw [mX8_findBag_127, gd_t (by omega), if_pos (by omega), show a = r by omega]
  | succ d ih =>
    intro a b f h1 h2 h3 h4 hf
    obtain ⟨f, rfl⟩ : ∃ f', f = f' + 1 := ⟨f - 1, by omega⟩
    rw [mX8_findBag_127, gd_t (by omega)]
    by_cases z : (b : Int) ≤ (a : Int)
    · rw [if_pos z, show a = r by omega]
    · obtain ⟨x, y1, y2, y3⟩ := e_within h (s := t) (q := q) (n := n) (few := (a + b) / 2 + 1) hp hs ty n1 ht1 (by omega) hq hq0 hn (by omega)
      have := HH_in y3
      have em : ((a : Int) + (b : Int)) / 2 = (((a + b) / 2 : Nat) : Int) := by omega
      rw [if_neg z, gd_t (by omega), nx_e, em, show (((a + b) / 2 : Nat) : Int) + 1 = (((a + b) / 2 + 1 : Nat) : Int) by omega, bd1_e y1, gd_t (by omega)]
      by_cases y : r ≤ (a + b) / 2
      · have g : v < bgN (cM (S 84) p) (S 84 (24 + (p : Int)) == 5) t (mB (S 84) p q) n ((a + b) / 2 + 1) := Nat.lt_of_lt_of_le hi (bgN_mo (by omega))
        rw [if_neg (by have := (ev_lt y2 hv).1.mpr g; omega)]
        exact ih a ((a + b) / 2) f h1 y (by omega) (by omega) (by omega)
      · have g : bgN (cM (S 84) p) (S 84 (24 + (p : Int)) == 5) t (mB (S 84) p q) n ((a + b) / 2 + 1) ≤ v := Nat.le_trans (bgN_mo (by omega)) lo
        rw [if_pos (by have := (ev_lt y2 hv).1; omega), nx_e]
        exact ih ((a + b) / 2 + 1) b f (by omega) h2 (by omega) (by omega) (by omega)
