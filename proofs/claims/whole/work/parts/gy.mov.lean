/-! bounds of moves: a thing's -/
def allE (M : Int → Int) (E : Nat → Prop) (F : Int) : Prop := ∀ k q : Nat, itN M k F = (q : Int) → E q
def Usb (M : Int → Int) (E : Nat → Prop) (q : Nat) : Prop := ∃ e t k : Nat, e < 30 ∧ (t : Int) < M (198 + (e : Int)) ∧ (0 ≤ fpM M e t ∧ fpM M e t < M 2) ∧ allE M E (fpM M e t) ∧ itN M k (fpM M e t) = (q : Int)
def Ctx (S : St) (E TE KE : Nat → Prop) (rO rT rK ent : Nat → Nat) (U : Nat → Bool) : Prop := (Cor S ∧ Ord (S 84) E TE KE rO rT rK ∧ RKs (S 84) E TE rO rT rK) ∧ okN (S 84) E ∧ UQ (S 84) ∧ (∀ q r : Nat, (q : Int) < S 84 2 → Own (S 84) rO rK q r → ent q = r) ∧ ∀ q, U q = true ↔ Usb (S 84) E q
theorem allE_rk {M : Int → Int} {E TE KE : Nat → Prop} {rO rT rK : Nat → Nat} (w : WF M) (o : Ord M E TE KE rO rT rK) : ∀ n p : Nat, (p : Int) < M 2 → M 2 - (p : Int) ≤ (n : Int) → allE M E (p : Int) → TE p ∧ ∀ k q : Nat, itN M k (p : Int) = (q : Int) → rO q < rT p := by
  intro n
  induction n with
  | zero => intro p a b; omega
  | succ n ih =>
    intro p hp hn hE
    have ep := hE 0 p rfl
    obtain ⟨o1, o2, o3, o4, o5, o6⟩ := o.2.2.1 p hp
    obtain ⟨c1, c2, c3, c4, c5, c6⟩ := o.1 p hp
    rcases (w.2.2.2.1 p hp).2.1 with q | q
    · refine ⟨c5 ep q, fun k z hz => ?_⟩
      cases k with
      | zero =>
        have hz' : (p : Int) = (z : Int) := hz
        rw [show z = p by omega]
        exact o4 q
      | succ k =>
        rw [itN_sh k _ (by omega), q] at hz
        have nn : ∀ j : Nat, itN M j (-1) = -1 := by
          intro j
          induction j with
          | zero => rfl
          | succ j jh =>
            show (if itN M j (-1) < 0 then -1 else M (96 + itN M j (-1))) = -1
            rw [jh]; rfl
        rw [nn] at hz
        omega
    · obtain ⟨p', hp'⟩ : ∃ p' : Nat, M (96 + (p : Int)) = (p' : Int) := ⟨(M (96 + (p : Int))).toNat, by omega⟩
      have tn : (M (96 + (p : Int))).toNat = p' := by omega
      rw [tn] at o5 o6 c6
      rw [hp'] at q
      obtain ⟨i1, i2⟩ := ih p' (by omega) (by omega) (fun k z hz => hE (k + 1) z (by rw [itN_sh k _ (by omega), hp']; exact hz))
      have r1 := o5 (by omega) i1
      have r2 := o6 (by omega) ep
      refine ⟨c6 ep (by omega) i1, fun k z hz => ?_⟩
      cases k with
      | zero =>
        have hz' : (p : Int) = (z : Int) := hz
        rw [show z = p by omega]
        exact r1
      | succ k =>
        rw [itN_sh k _ (by omega), hp'] at hz
        have := i2 k z hz
        omega
/-- a chain: whose it is, usable or not -/
theorem ch_U {S : St} {E TE KE : Nat → Prop} {rO rT rK ent : Nat → Nat} {U : Nat → Bool} (c : Ctx S E TE KE rO rT rK ent U) {e t : Nat} (he : e < 30) (ht : (t : Int) < S 84 (198 + (e : Int))) (hF : 0 ≤ fpM (S 84) e t ∧ fpM (S 84) e t < S 84 2) {k q : Nat} (hk : itN (S 84) k (fpM (S 84) e t) = (q : Int)) : ent q = oRk rO rK e ∧ (allE (S 84) E (fpM (S 84) e t) → U q = true) ∧ (¬ allE (S 84) E (fpM (S 84) e t) → U q = false) := by
  obtain ⟨⟨h, o, rk⟩, ok, u, en, hU⟩ := c
  have w := h.wf
  have hq := itN_lt w hF k
  refine ⟨en q _ (by omega) (Or.inl ⟨e, t, k, he, ht, hF, hk, rfl⟩), fun a => (hU q).mpr ⟨e, t, k, he, ht, hF, a, hk⟩, fun a => ?_⟩
  cases hb : U q with
  | false => rfl
  | true =>
    obtain ⟨e', t', k', b1, b2, b3, b4, b5⟩ := (hU q).mp hb
    obtain ⟨x, y⟩ := ch_head w u he b1 ht b2 hF b3 k k' q hk b5
    subst x; subst y
    exact absurd b4 a
def H1 (S : St) (rO ent : Nat → Nat) (U : Nat → Bool) (f : Nat) : Prop := ∀ x, VN (S 84) x → mvN (S 84) f x + 1 ≤ om (cXe U ent (rO x.1)) + exA (cTt U) x.2.1
def H2 (S : St) (E : Nat → Prop) (rO ent : Nat → Nat) (U : Nat → Bool) (f : Nat) : Prop := ∀ x, VN (S 84) x → 1 ≤ x.2.1 → ¬ E x.1 → mvN (S 84) f x ≤ (2 * x.2.1 - 2) * omK (cTt U) + (cXe (fun q => !U q) ent (rO x.1) + 2) * (om (cTt U) + 2)
theorem cV_le {U : Nat → Bool} {ent : Nat → Nat} {b : Nat} : (cXe (fun q => !U q) ent b + 2) * (om (cTt U) + 2) ≤ omP (cTt U) := by
  unfold omP
  refine Nat.mul_le_mul_right _ ?_
  have a := cx_tot (X := fun q => !U q) (ent := ent) (b := b)
  have b' := cx_all (X := U)
  omega
/-- a term all of whose parts may be empty -/
theorem chA {S : St} {E TE KE : Nat → Prop} {rO rT rK ent : Nat → Nat} {U : Nat → Bool} (c : Ctx S E TE KE rO rT rK ent U) {f e t n v b : Nat} (i1 : H1 S rO ent U f) (he : e < 30) (ht : (t : Int) < S 84 (198 + (e : Int))) (hF : 0 ≤ fpM (S 84) e t ∧ fpM (S 84) e t < S 84 2) (hb : oRk rO rK e ≤ b) (hr : rT (fpM (S 84) e t).toNat < oRk rO rK e) (hv : ∀ y ∈ tmI (S 84) 24 (fpM (S 84) e t) n v, VN (S 84) y) (hs : szL (tmI (S 84) 24 (fpM (S 84) e t) n v) ≤ n) (a : allE (S 84) E (fpM (S 84) e t)) : mvL (tmI (S 84) 24 (fpM (S 84) e t) n v) (mvN (S 84) f) + 2 ≤ om (cXe U ent b) + exA (cTt U) n := by
  have c' := c
  obtain ⟨⟨h, o, rk⟩, ok, u, en, hU⟩ := c
  have w := h.wf
  have hM2 := w.2.2.1
  obtain ⟨F, hF'⟩ : ∃ F : Nat, fpM (S 84) e t = (F : Int) := ⟨(fpM (S 84) e t).toNat, by omega⟩
  have ch := fun k q hk => ch_U c' he ht hF (k := k) (q := q) hk
  rw [hF'] at ch hF hv hs a hr ⊢
  rw [show ((F : Nat) : Int).toNat = F from rfl] at hr
  have rr := (allE_rk w o 24 F hF.2 (by omega) a).2
  obtain ⟨l, hl⟩ : ∃ l, l = tmI (S 84) 24 (F : Int) n v := ⟨_, rfl⟩
  have it := tmI_it w 24 F n v hF.2
  have len : l.length ≤ sm 24 (fun q => if U q = true ∧ ent q = oRk rO rK e then 1 else 0) := by
    rw [hl, tmI_len]
    exact chn_X w hF.2 (fun k q hq => by
      obtain ⟨x1, x2, _⟩ := ch k q hq
      exact ⟨x2 a, x1⟩)
  have l1 : 1 ≤ l.length := by
    rw [hl, tmI_len, chn_s]; omega
  rw [← hl] at hv hs it ⊢
  obtain ⟨B, hB⟩ : ∃ B, B = cXe U ent b - l.length := ⟨_, rfl⟩
  have key : ∀ y ∈ l, cXe U ent (rO y.1) + l.length ≤ cXe U ent b := fun y hy => by
    obtain ⟨k, hk⟩ := it y hy
    have := rr k y.1 hk
    exact cx_step (by omega) hb len
  have t24 := Nat.le_trans (cx_tot (X := U) (ent := ent) (b := b)) (cx_24 (X := U))
  have m0 : l.length ≤ cXe U ent b := by
    cases l with
    | nil => exact absurd l1 (by decide)
    | cons y l => have := key y (List.mem_cons_self ..); omega
  have lin := mvL_lin (a := cTt U) (w := om B - 1) (g := mvN (S 84) f) (l := l) (fun y hy => by
    have a1 := i1 y (hv y hy)
    have a2 := om_mo (a := cXe U ent (rO y.1)) (b := B) (by have := key y hy; omega) (by omega)
    omega)
  have st := om_step (B := B) (m := l.length) l1 (by omega)
  rw [show B + l.length = cXe U ent b by omega] at st
  have ex := Nat.le_trans (exS_le (a := cTt U) l) (exA_mo hs)
  omega
/-- a term of which a part may not be empty -/
theorem chB {S : St} {E TE KE : Nat → Prop} {rO rT rK ent : Nat → Nat} {U : Nat → Bool} (c : Ctx S E TE KE rO rT rK ent U) {f e t n v b : Nat} (i1 : H1 S rO ent U f) (i2 : H2 S E rO ent U f) (he : e < 30) (ht : (t : Int) < S 84 (198 + (e : Int))) (hF : 0 ≤ fpM (S 84) e t ∧ fpM (S 84) e t < S 84 2) (hb : oRk rO rK e ≤ b) (hr : rT (fpM (S 84) e t).toNat < oRk rO rK e) (hv : ∀ y ∈ tmI (S 84) 24 (fpM (S 84) e t) n v, VN (S 84) y ∧ y.2.1 ≤ n ∧ (y.2.1 < n ∨ rO y.1 < rT (fpM (S 84) e t).toNat)) (hs : szL (tmI (S 84) 24 (fpM (S 84) e t) n v) ≤ n) (a : ¬ allE (S 84) E (fpM (S 84) e t)) : 1 ≤ n ∧ mvL (tmI (S 84) 24 (fpM (S 84) e t) n v) (mvN (S 84) f) + 1 ≤ (2 * n - 2) * omK (cTt U) + (cXe (fun q => !U q) ent b + 2) * (om (cTt U) + 2) := by
  have c' := c
  obtain ⟨⟨h, o, rk⟩, ok, u, en, hU⟩ := c
  have w := h.wf
  have hM2 := w.2.2.1
  obtain ⟨F, hF'⟩ : ∃ F : Nat, fpM (S 84) e t = (F : Int) := ⟨(fpM (S 84) e t).toNat, by omega⟩
  have ch := fun k q hk => ch_U c' he ht hF (k := k) (q := q) hk
  rw [hF'] at ch hF hv hs a hr ⊢
  rw [show ((F : Nat) : Int).toNat = F from rfl] at hr hv
  obtain ⟨l, hl⟩ : ∃ l, l = tmI (S 84) 24 (F : Int) n v := ⟨_, rfl⟩
  obtain ⟨V, hV⟩ : ∃ V : Nat → Bool, V = fun q => !U q := ⟨_, rfl⟩
  have len : l.length ≤ sm 24 (fun q => if V q = true ∧ ent q = oRk rO rK e then 1 else 0) := by
    rw [hl, tmI_len]
    exact chn_X w hF.2 (fun k q hq => by
      obtain ⟨x1, _, x2⟩ := ch k q hq
      exact ⟨by rw [hV]; simp [x2 a], x1⟩)
  have l1 : 1 ≤ l.length := by
    rw [hl, tmI_len, chn_s]; omega
  -- a part that may not be empty: its thing is of a size
  obtain ⟨q0, k0, h0, e0⟩ : ∃ q k : Nat, itN (S 84) k (F : Int) = (q : Int) ∧ ¬ E q := by
    refine Classical.byContradiction fun w => a fun k q hk => Classical.byContradiction fun z => w ⟨q, k, hk, z⟩
  have k24 : k0 < 24 := by
    have x := itN_up w hF k0 (by omega)
    have y := itN_lt w hF k0
    omega
  obtain ⟨y1, m1, z1⟩ := tmI_cov w k0 24 F n v q0 hF.2 k24 h0
  have emp : ∀ y, VN (S 84) y → y.2.1 = 0 → E y.1 := fun y hy z => by
    refine (rk.2.2 y.1 hy.1).1 ?_
    have := hy.2.2.1
    rw [z] at this
    omega
  rw [← hl] at hv hs m1 ⊢
  have y1s : 1 ≤ y1.2.1 := by
    rcases Nat.eq_zero_or_pos y1.2.1 with z | z
    · exact absurd (by rw [← z1]; exact emp y1 (hv y1 m1).1 z) e0
    · exact z
  have n1 : 1 ≤ n := by have := (hv y1 m1).2.1; omega
  refine ⟨n1, ?_⟩
  rw [← hV]
  have t24 := Nat.le_trans (cx_tot (X := U) (ent := ent) (b := 0)) (cx_24 (X := U))
  have O0 : ∀ y, VN (S 84) y → mvN (S 84) f y ≤ om (cTt U) + exA (cTt U) y.2.1 := fun y hy => by
    have p := i1 y hy
    have q := om_mo (a := cXe U ent (rO y.1)) (b := cTt U) cx_tot cx_24
    omega
  have O1 : ∀ y, VN (S 84) y → y.2.1 = 0 → mvN (S 84) f y ≤ om (cTt U) := fun y hy z => by
    have p := O0 y hy
    rw [z] at p
    exact p
  have mb : l.length ≤ cXe V ent b := by
    have := cx_step (X := V) (ent := ent) (b' := rT F) (b := b) hr hb len
    omega
  by_cases one : ∃ y ∈ l, y.2.1 = n
  · obtain ⟨y0, m0, s0⟩ := one
    have e01 : y0 = y1 := Classical.byContradiction fun z => by
      have := szL_two z m0 m1
      omega
    subst e01
    have r0 : rO y0.1 < rT F := by
      rcases (hv y0 m0).2.2 with z | z
      · omega
      · exact z
    have key := cx_step (X := V) (ent := ent) (b' := rO y0.1) (b := b) (by omega) hb len
    have T0 := i2 y0 (hv y0 m0).1 (by omega) (by rw [z1]; exact e0)
    rw [← hV, s0] at T0
    have hOT : om (cTt U) ≤ (2 * n - 2) * omK (cTt U) + (cXe V ent (rO y0.1) + 2) * (om (cTt U) + 2) := by
      have := Nat.le_mul_of_pos_left (om (cTt U) + 2) (show 0 < cXe V ent (rO y0.1) + 2 by omega)
      omega
    have r := mvL_one (g := mvN (S 84) f) (O := om (cTt U)) (T := (2 * n - 2) * omK (cTt U) + (cXe V ent (rO y0.1) + 2) * (om (cTt U) + 2)) n1 hOT (l := l) (fun y hy => by
      by_cases z : y = y0
      · subst z; exact Or.inr ⟨s0, T0⟩
      · have := szL_two z hy m0
        exact Or.inl ⟨by omega, O1 y (hv y hy).1 (by omega)⟩) hs l1
    have p1 : (cXe V ent (rO y0.1) + 2) * (om (cTt U) + 2) + l.length * (om (cTt U) + 2) ≤ (cXe V ent b + 2) * (om (cTt U) + 2) := by
      rw [← Nat.add_mul]
      exact Nat.mul_le_mul_right _ (by omega)
    have p2 : (l.length - 1) * om (cTt U) + 1 ≤ l.length * (om (cTt U) + 2) := by
      have := Nat.mul_le_mul (show l.length - 1 ≤ l.length by omega) (show om (cTt U) ≤ om (cTt U) + 2 by omega)
      have q : l.length * (om (cTt U) + 2) = l.length * om (cTt U) + l.length * 2 := Nat.mul_add ..
      have q2 : (l.length - 1) * om (cTt U) ≤ l.length * om (cTt U) := Nat.mul_le_mul_right _ (by omega)
      omega
    omega
  · have lt : ∀ y ∈ l, y.2.1 < n := fun y hy => by
      have := (hv y hy).2.1
      rcases Nat.lt_or_ge y.2.1 n with z | z
      · exact z
      · exact absurd ⟨y, hy, by omega⟩ one
    have r := mvL_few (g := mvN (S 84) f) (O := om (cTt U)) (K := omK (cTt U)) (l := l) (fun y hy => by
      rcases Nat.eq_zero_or_pos y.2.1 with z | z
      · exact Or.inl ⟨z, O1 y (hv y hy).1 z⟩
      · refine Or.inr ⟨z, ?_⟩
        have p := O0 y (hv y hy).1
        unfold exA at p
        rw [if_neg (by omega)] at p
        rw [show 2 * y.2.1 - 1 = (2 * y.2.1 - 2) + 1 by omega, Nat.add_mul, Nat.one_mul]
        have : omK (cTt U) = om (cTt U) + omP (cTt U) := rfl
        omega)
    have q := Nat.mul_le_mul_right (omK (cTt U)) (hsS_le n1 lt hs)
    have p2 : l.length * om (cTt U) + 1 ≤ (cXe V ent b + 2) * (om (cTt U) + 2) := by
      have z1 : l.length * om (cTt U) ≤ cXe V ent b * om (cTt U) := Nat.mul_le_mul_right _ mb
      have z2 : (cXe V ent b + 2) * (om (cTt U) + 2) = cXe V ent b * om (cTt U) + cXe V ent b * 2 + (2 * om (cTt U) + 2 * 2) := by
        rw [Nat.add_mul, Nat.mul_add, Nat.mul_add]
      omega
    omega
