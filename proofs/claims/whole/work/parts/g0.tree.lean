/-! things as trees: what stands in one, its signs -/
/-- the term by a number, and the number in it -/
def tmP (M : Int → Int) (e n v : Nat) : Nat × Nat := pkS (fun t => byM M e t n) (cnE M e) 0 v
/-- the parts of a term, each with its size and rank -/
def tmI (M : Int → Int) : Nat → Int → Nat → Nat → List (Nat × Nat × Nat)
  | 0, _, _, _ => []
  | f + 1, q, n, v => if q < 0 then [] else (q.toNat, (pkS (fun s => yM M q.toNat s * bhM M q.toNat (n - s)) (n + 1) 0 v).1, (pkS (fun s => yM M q.toNat s * bhM M q.toNat (n - s)) (n + 1) 0 v).2 / bhM M q.toNat (n - (pkS (fun s => yM M q.toNat s * bhM M q.toNat (n - s)) (n + 1) 0 v).1)) :: tmI M f (M (96 + ((q.toNat : Nat) : Int))) (n - (pkS (fun s => yM M q.toNat s * bhM M q.toNat (n - s)) (n + 1) 0 v).1) ((pkS (fun s => yM M q.toNat s * bhM M q.toNat (n - s)) (n + 1) 0 v).2 % bhM M q.toNat (n - (pkS (fun s => yM M q.toNat s * bhM M q.toNat (n - s)) (n + 1) 0 v).1))
theorem tmI_n {M : Int → Int} {f : Nat} {q : Int} {n v : Nat} (h : q < 0) : tmI M f q n v = [] := by
  cases f with
  | zero => rfl
  | succ f => exact if_pos h
theorem tmI_s {M : Int → Int} {f p n v s w : Nat} (h : pkS (fun s => yM M p s * bhM M p (n - s)) (n + 1) 0 v = (s, w)) : tmI M (f + 1) (p : Int) n v = (p, s, w / bhM M p (n - s)) :: tmI M f (M (96 + (p : Int))) (n - s) (w % bhM M p (n - s)) := by
  show (if (p : Int) < 0 then [] else _) = _
  rw [if_neg (by omega), show ((p : Nat) : Int).toNat = p from rfl, h]
def exI (M : Int → Int) (e n v : Nat) : List (Nat × Nat × Nat) := tmI M 24 (fpM M e (tmP M e n v).1) n (tmP M e n v).2
/-- the digit of a term -/
def dgS (M : Int → Int) (e n v : Nat) : List Int := if cnE M e ≤ 1 then [] else [48 + (((tmP M e n v).1 : Nat) : Int)]
/-- the things in a row, a bag, a set, a ring -/
def sqI (M : Int → Int) (p n v : Nat) : List (Nat × Nat) := if M (24 + (p : Int)) = 3 then rwI (cM M p) 7 (nuM M p) n v else if M (24 + (p : Int)) = 6 then ((rgM M p n)[v]?).getD [] else bgL (cM M p) (M (24 + (p : Int)) == 5) 7 (nuM M p) n v
def exN (M : Int → Int) (p : Nat) : Nat := (M (48 + (p : Int))).toNat
def itm (M : Int → Int) (x : Nat × Nat × Nat) : List (Nat × Nat × Nat) := if M (24 + (x.1 : Int)) ≤ 1 then [] else if M (24 + (x.1 : Int)) = 2 ∨ M (24 + (x.1 : Int)) = 7 then exI M (exN M x.1) x.2.1 x.2.2 else (sqI M x.1 x.2.1 x.2.2).map (fun y => (chM M x.1, y.1, y.2))
def opS (t : Int) : Int := if t = 3 then 91 else if t = 4 then 123 else if t = 5 then 60 else 40
def clS (t : Int) : Int := if t = 3 then 93 else if t = 4 then 125 else if t = 5 then 62 else 41
def hdS (M : Int → Int) (x : Nat × Nat × Nat) : List Int := if M (24 + (x.1 : Int)) = 0 then [97 + M (48 + (x.1 : Int))] else if M (24 + (x.1 : Int)) = 1 then [45] else if M (24 + (x.1 : Int)) = 2 ∨ M (24 + (x.1 : Int)) = 7 then dgS M (exN M x.1) x.2.1 x.2.2 else [opS (M (24 + (x.1 : Int)))]
def isQb (M : Int → Int) (p : Nat) : Bool := decide (3 ≤ M (24 + (p : Int)) ∧ M (24 + (p : Int)) ≤ 6)
def tlS (M : Int → Int) (x : Nat × Nat × Nat) : List Int := if isQb M x.1 then [clS (M (24 + (x.1 : Int)))] else []
def cat : List (Nat × Nat × Nat) → (Nat × Nat × Nat → List Int) → List Int
  | [], _ => []
  | x :: l, g => g x ++ cat l g
def txt (M : Int → Int) : Nat → Nat × Nat × Nat → List Int
  | 0, _ => []
  | f + 1, x => hdS M x ++ (cat (itm M x) (txt M f) ++ tlS M x)
def own (M : Int → Int) (x : Nat × Nat × Nat) : Nat := if M (24 + (x.1 : Int)) = 4 then chg (sqI M x.1 x.2.1 x.2.2) else if M (24 + (x.1 : Int)) = 6 then stb (sqI M x.1 x.2.1 x.2.2) else 1
def prd : List (Nat × Nat × Nat) → (Nat × Nat × Nat → Nat) → Nat
  | [], _ => 1
  | x :: l, g => g x * prd l g
def trn (M : Int → Int) : Nat → Nat × Nat × Nat → Nat
  | 0, _ => 1
  | f + 1, x => own M x * prd (itm M x) (trn M f)
def mxl : List (Nat × Nat × Nat) → (Nat × Nat × Nat → Nat) → Nat
  | [], _ => 0
  | x :: l, g => max (g x) (mxl l g)
def dpN (M : Int → Int) : Nat → Nat × Nat × Nat → Nat
  | 0, _ => 0
  | f + 1, x => (if isQb M x.1 then 1 else 0) + mxl (itm M x) (dpN M f)
/-- there is such a thing, listed -/
def VN (M : Int → Int) (x : Nat × Nat × Nat) : Prop := (x.1 : Int) < M 2 ∧ (x.2.1 : Int) ≤ M 1 ∧ x.2.2 < yM M x.1 x.2.1 ∧ yM M x.1 x.2.1 ≤ 200
/-- ranks by which what stands in a thing comes down -/
def RKs (M : Int → Int) (E TE : Nat → Prop) (rO rT rK : Nat → Nat) : Prop := (∃ KE : Nat → Prop, Ord M E TE KE rO rT rK) ∧ (∀ p : Nat, (p : Int) < M 2 → rO p < 54) ∧ ∀ p : Nat, (p : Int) < M 2 → (yM M p 0 ≠ 0 → E p) ∧ (rM M p 0 ≠ 0 → TE p)
def ms (rO : Nat → Nat) (x : Nat × Nat × Nat) : Nat := 54 * x.2.1 + rO x.1
theorem Cor.rks {S : St} (h : Cor S) : ∃ (E TE : Nat → Prop) (rO rT rK : Nat → Nat), RKs (S 84) E TE rO rT rK := by
  obtain ⟨E, TE, KE, rO, rT, rK, st, w, o, t⟩ := h
  have s := (YP_sol (l := -1) w o (by decide)).2.2
  obtain ⟨a1, a2, a3, a4, a5⟩ := t.1.2.2
  exact ⟨E, TE, rO, rT, rK, ⟨KE, o⟩, fun p hp => by have := (a4 p hp).1; omega, s⟩
theorem bh_n {M : Int → Int} {p n : Nat} (h : 0 ≤ M (96 + (p : Int))) : bhM M p n = rM M (M (96 + (p : Int))).toNat n := if_neg (by omega)
theorem bh_l {M : Int → Int} {p n : Nat} (h : M (96 + (p : Int)) < 0) : bhM M p n = if n = 0 then 1 else 0 := if_pos h
/-- a term's parts: each is there, and below -/
theorem tmI_ok {S : St} {E TE : Nat → Prop} {rO rT rK : Nat → Nat} (h : Cor S) (rk : RKs (S 84) E TE rO rT rK) : ∀ (f p n v : Nat), (p : Int) < S 84 2 → (n : Int) ≤ S 84 1 → v < rM (S 84) p n → rM (S 84) p n ≤ 200 → ∀ y ∈ tmI (S 84) f (p : Int) n v, VN (S 84) y ∧ y.2.1 ≤ n ∧ (y.2.1 < n ∨ rO y.1 < rT p) := by
  have w := h.wf
  have hM1 := w.2.1
  obtain ⟨⟨KE, o⟩, r54, sup⟩ := rk
  intro f
  induction f with
  | zero => intro p n v _ _ _ _ y hy; cases hy
  | succ f ih =>
    intro p n v hp hn hv h2 y hy
    obtain ⟨o1, o2, o3, o4, o5, o6⟩ := o.2.2.1 p hp
    have ok := (w.2.2.2.1 p hp).2.1
    have hr := r_parts h hp (n := n) (by omega)
    have hr' : rM (S 84) p n = sm (n + 1) (fun s => yM (S 84) p s * bhM (S 84) p (n - s)) := by
      rcases ev_to hr with q | ⟨q, _⟩
      · exact q
      · rw [CC_eq] at q; omega
    rw [hr', sm_congr (g := fun i => (fun s => yM (S 84) p s * bhM (S 84) p (n - s)) (0 + i)) (fun i _ => by rw [Nat.zero_add])] at hv
    obtain ⟨s, u, p1, p2, p3, p4, p5⟩ := pk_ok (g := fun s => yM (S 84) p s * bhM (S 84) p (n - s)) (n + 1) 0 v hv
    try dsimp only at p4
    obtain ⟨d1, d2, d3⟩ := dm_lt p4
    have le1 : yM (S 84) p s * bhM (S 84) p (n - s) ≤ 200 := by
      refine Nat.le_trans (le_sm (n := n + 1) (f := fun s => yM (S 84) p s * bhM (S 84) p (n - s)) (i := s) (by omega)) ?_
      rw [← hr']; exact h2
    have yp : 0 < yM (S 84) p s := Nat.lt_of_le_of_lt (Nat.zero_le _) d2
    have le2 : yM (S 84) p s ≤ 200 := Nat.le_trans (Nat.le_mul_of_pos_right _ d1) le1
    have le3 : bhM (S 84) p (n - s) ≤ 200 := Nat.le_trans (Nat.le_mul_of_pos_left _ yp) le1
    rw [tmI_s p1] at hy
    rcases List.mem_cons.mp hy with e | e
    · subst e
      refine ⟨⟨hp, by show (s : Int) ≤ _; omega, d2, le2⟩, by show s ≤ n; omega, ?_⟩
      show s < n ∨ rO p < rT p
      by_cases z : s < n
      · exact Or.inl z
      · refine Or.inr ?_
        rw [show n - s = 0 by omega] at d1
        rcases ok with q | q
        · exact o4 q
        · refine o5 (by omega) ?_
          rw [bh_n (by omega)] at d1
          exact (sup _ (by omega)).2 (by omega)
    · rcases ok with q | q
      · rw [tmI_n (by omega)] at e; cases e
      · obtain ⟨q', hq'⟩ : ∃ q' : Nat, S 84 (96 + (p : Int)) = (q' : Int) := ⟨(S 84 (96 + (p : Int))).toNat, by omega⟩
        rw [bh_n (by omega), hq'] at d3 le3
        rw [show ((q' : Nat) : Int).toNat = q' from rfl] at d3 le3
        rw [hq', bh_n (by omega), hq', show ((q' : Nat) : Int).toNat = q' from rfl] at e
        obtain ⟨i1, i2, i3⟩ := ih q' (n - s) (u % rM (S 84) q' (n - s)) (by omega) (by omega) d3 le3 y e
        refine ⟨i1, by omega, ?_⟩
        by_cases z : y.2.1 < n
        · exact Or.inl z
        · have s0 : s = 0 := by omega
          subst s0
          have := o6 (by omega) ((sup p hp).1 (by omega))
          rw [hq', show ((q' : Nat) : Int).toNat = q' from rfl] at this
          rcases i3 with a | a
          · omega
          · exact Or.inr (by omega)
/-- a row by its number -/
theorem rwI_ok {c : Nat → Nat} : ∀ (f n v : Nat) (m : Int), n ≤ f → n ≤ 7 → -1 ≤ m → v < rwW c m n → rwW c m n ≤ 200 → okL c (rwI c f m n v) ∧ tot (rwI c f m n v) = n ∧ (0 ≤ m → (((rwI c f m n v).length : Nat) : Int) = m) ∧ ∀ x ∈ rwI c f m n v, c x.1 ≤ 200 := by
  intro f
  induction f with
  | zero =>
    intro n v m hf _ hm hv _
    have : n = 0 := by omega
    subst this
    refine ⟨fun x hx => (by cases hx), rfl, fun z => ?_, fun x hx => (by cases hx)⟩
    rw [rwW_0] at hv
    by_cases q : m ≤ 0
    · show ((0 : Nat) : Int) = m; omega
    · rw [if_neg q] at hv; omega
  | succ f ih =>
    intro n v m hf hn hm hv h2
    by_cases n0 : n = 0
    · subst n0
      rw [rwI_0]
      refine ⟨fun x hx => (by cases hx), rfl, fun z => ?_, fun x hx => (by cases hx)⟩
      rw [rwW_0] at hv
      by_cases q : m ≤ 0
      · show ((0 : Nat) : Int) = m; omega
      · rw [if_neg q] at hv; omega
    have m0 : m ≠ 0 := by
      intro z; subst z
      rw [rwW_z (by omega)] at hv; omega
    obtain ⟨t, w, p1, p2, p3, p4, p5⟩ := rw_pk ⟨by omega, hn⟩ m0 hv
    obtain ⟨d1, d2, d3⟩ := dm_lt p4
    have le1 : c t * rwW c (lss m) (n - t) ≤ 200 := by
      refine Nat.le_trans ?_ h2
      rw [rwW_s ⟨by omega, hn⟩ m0]
      have := le_sm (n := n) (f := fun i => c (i + 1) * rwW c (lss m) (n - (i + 1))) (i := t - 1) (by omega)
      try dsimp only at this
      rw [show t - 1 + 1 = t by omega] at this
      exact this
    have cp : 0 < c t := Nat.lt_of_le_of_lt (Nat.zero_le _) d2
    obtain ⟨i1, i2, i3, i4⟩ := ih (n - t) (w % rwW c (lss m) (n - t)) (lss m) (by omega) (by omega) (lss_ge hm m0) d3 (Nat.le_trans (Nat.le_mul_of_pos_left _ cp) le1)
    rw [rwI_s (by omega) p1]
    refine ⟨fun x hx => ?_, ?_, fun z => ?_, fun x hx => ?_⟩
    · rcases List.mem_cons.mp hx with e | e
      · subst e; exact ⟨p2, d2⟩
      · exact i1 x e
    · show t + tot _ = n
      rw [i2]; omega
    · rw [List.length_cons]
      unfold lss at i3
      rw [if_neg (by omega)] at i3
      unfold lss
      rw [if_neg (by omega)]
      have := i3 (by omega)
      omega
    · rcases List.mem_cons.mp hx with e | e
      · subst e
        exact Nat.le_trans (Nat.le_mul_of_pos_right _ d1) le1
      · exact i4 x e
/-- few of a size, where there are few bags with it -/
theorem bag_ge {c : Nat → Nat} {once : Bool} {s n F' F : Nat} {m : Int} (h : 0 < bgN c once (s + 1) (lss m) (n - (s + 1)) F') (hs : s + 1 ≤ n) (hn : n ≤ 7) (hm : -1 ≤ m) (m0 : m ≠ 0) : F ≤ max 7 (bgN c once (s + 1) m n F) := by
  by_cases f7 : F ≤ 7
  · omega
  · rw [bgN_e] at h
    obtain ⟨i, i1, i2⟩ := sm_pos h
    by_cases q : i * (s + 1) ≤ n - (s + 1) ∧ (lss m < 0 ∨ (i : Int) ≤ lss m)
    · rw [if_pos q] at i2
      have b : 0 < bgN c once s (lsi (lss m) i) (n - (s + 1) - i * (s + 1)) (c s) := Nat.pos_of_mul_pos_left i2
      have k1 : (i + 1) * (s + 1) = i * (s + 1) + (s + 1) := by rw [Nat.add_mul, Nat.one_mul]
      have k2 : i + 1 ≤ (i + 1) * (s + 1) := Nat.le_mul_of_pos_right _ (by omega)
      have el : lsi (lss m) i = lsi m (i + 1) := by
        unfold lsi lss
        by_cases z : m < 0
        · rw [if_pos z, if_pos z, if_pos (by omega)]
        · rw [if_neg z, if_neg z, if_neg (by omega)]; omega
      rw [el, show n - (s + 1) - i * (s + 1) = n - (i + 1) * (s + 1) by omega] at b
      have big : F ≤ bgN c once (s + 1) m n F := by
        rw [bgN_e]
        refine Nat.le_trans ?_ (le_sm (i := i + 1) (by omega))
        show F ≤ if (i + 1) * (s + 1) ≤ n ∧ (m < 0 ∨ ((i + 1 : Nat) : Int) ≤ m) then ch once F (i + 1) * bgN c once s (lsi m (i + 1)) (n - (i + 1) * (s + 1)) (c s) else 0
        have q' : (i + 1) * (s + 1) ≤ n ∧ (m < 0 ∨ ((i + 1 : Nat) : Int) ≤ m) := by
          refine ⟨by omega, ?_⟩
          have := q.2
          unfold lss at this
          by_cases z : m < 0
          · exact Or.inl z
          · rw [if_neg z] at this; omega
        rw [if_pos q']
        refine Nat.le_trans ?_ (Nat.le_mul_of_pos_right _ b)
        rw [ch_s]
        cases once with
        | true => rw [if_pos rfl]; exact cho_ge (by omega) (by omega)
        | false =>
          rw [if_neg (by decide)]
          rcases Nat.eq_zero_or_pos i with z | z
          · subst z; rw [Nat.add_zero, cho_1]; exact Nat.le_refl _
          · exact Nat.le_trans (by omega) (cho_ge (n := F + i) (k := i + 1) (by omega) (by omega))
      omega
    · rw [if_neg q] at i2; omega
/-- a bag, a set by its number -/
theorem bgL_ok {c : Nat → Nat} {once : Bool} {B : Nat} (hB : 7 ≤ B) : ∀ (f n v s F : Nat) (m : Int), n ≤ f → n ≤ 7 → 1 ≤ s → -1 ≤ m → (1 ≤ n → m ≠ 0) → F ≤ c s ∨ n < s → v < bgN c once s m n F → bgN c once s m n F ≤ B → okL c (bgL c once f m n v) ∧ tot (bgL c once f m n v) = n ∧ (0 ≤ m → (((bgL c once f m n v).length : Nat) : Int) = m) ∧ ∀ x ∈ bgL c once f m n v, x.1 ≤ s ∧ (x.1 < s → c x.1 ≤ B) := by
  have nil : ∀ (f v s F : Nat) (m : Int), -1 ≤ m → v < bgN c once s m 0 F → okL c (bgL c once f m 0 v) ∧ tot (bgL c once f m 0 v) = 0 ∧ (0 ≤ m → (((bgL c once f m 0 v).length : Nat) : Int) = m) ∧ ∀ x ∈ bgL c once f m 0 v, x.1 ≤ s ∧ (x.1 < s → c x.1 ≤ B) := by
    intro f v s F m hm hv
    rw [bgL_0]
    refine ⟨fun x hx => (by cases hx), rfl, fun z => ?_, fun x hx => (by cases hx)⟩
    rw [bgN_n0] at hv
    by_cases q : m ≤ 0
    · show ((0 : Nat) : Int) = m; omega
    · rw [if_neg q] at hv; omega
  intro f
  induction f with
  | zero =>
    intro n v s F m hf _ _ hm _ _ hv _
    have : n = 0 := by omega
    subst this
    exact nil 0 v s F m hm hv
  | succ f ih =>
    intro n v s F m hf hn s1 hm m0 hF hv h2
    by_cases n0 : n = 0
    · subst n0; exact nil _ v s F m hm hv
    have m0' := m0 (by omega)
    -- in all
    have hv' : v < bgN c once n m n (c n) ∧ ∀ t, 1 ≤ t → t ≤ n → t < s → bgN c once t m n (c t) ≤ bgN c once s m n F := by
      by_cases z : s ≤ n
      · have hF' : F ≤ c s := by omega
        refine ⟨Nat.lt_of_lt_of_le hv (Nat.le_trans (bgN_mo hF') ?_), fun t t1 t2 t3 => ?_⟩
        · rw [bg_tot (by omega) hm m0' s z, bg_tot (by omega) hm m0' n (Nat.le_refl _)]
          exact sm_pre z
        · obtain ⟨s', rfl⟩ : ∃ s', s = s' + 1 := ⟨s - 1, by omega⟩
          rw [bg_sum z hm m0', bg_tot (by omega) hm m0' t t2, bg_tot (by omega) hm m0' s' (by omega)]
          exact Nat.le_trans (sm_pre (by omega)) (Nat.le_add_right _ _)
      · obtain ⟨d, rfl⟩ : ∃ d, s = n + d := ⟨s - n, by omega⟩
        rw [bgN_big hm d F (by omega)] at hv ⊢
        refine ⟨hv, fun t t1 t2 t3 => ?_⟩
        rw [bg_tot (by omega) hm m0' t t2, bg_tot (by omega) hm m0' n (Nat.le_refl _)]
        exact sm_pre t2
    obtain ⟨t, w', r, u, p1, p2, ⟨t1, t2, t3, t4⟩, p3, p4, p5, p6⟩ := bg_pk (by omega) hm m0' hv'.1
    have ts : t ≤ s := by
      rcases Nat.lt_or_ge s t with z | z
      · have a := p3 s s1 z
        have b : bgN c once s m n F ≤ bgN c once s m n (c s) := bgN_mo (by omega)
        omega
      · exact z
    rw [bgL_s (by omega) p1 p2]
    have g2 : bgG c once m n t r ≤ B := by
      have a : bgN c once t m n (r + 1) ≤ B := by
        by_cases z : t < s
        · exact Nat.le_trans (bgN_mo (by omega)) (Nat.le_trans (hv'.2 t t1 t2 z) h2)
        · have e : t = s := by omega
          subst e
          have rF : r < F := by
            rcases Nat.lt_or_ge r F with y | y
            · exact y
            · have : bgN c once t m n F ≤ bgN c once t m n r := bgN_mo y
              omega
          exact Nat.le_trans (bgN_mo rF) h2
      obtain ⟨t', rfl⟩ : ∃ t', t = t' + 1 := ⟨t - 1, by omega⟩
      rw [bg_pas t2 m0'] at a
      exact Nat.le_trans (Nat.le_add_left _ _) a
    have t4' := t4
    unfold bgG at t4' g2
    have lm := lss_ge hm m0'
    obtain ⟨i1, i2, i3, i4⟩ := ih (n - t) u t (if once then r else r + 1) (lss m) (by omega) (by omega) t1 lm (fun z e => by
      rw [e, bgN_m0 _ _ _ z] at t4'; omega) (Or.inl (by split <;> omega)) t4' g2
    refine ⟨fun x hx => ?_, ?_, fun z => ?_, fun x hx => ?_⟩
    · rcases List.mem_cons.mp hx with e | e
      · subst e; exact ⟨t1, t3⟩
      · exact i1 x e
    · show t + tot _ = n
      rw [i2]; omega
    · rw [List.length_cons]
      unfold lss at i3
      rw [if_neg (by omega)] at i3
      unfold lss
      rw [if_neg (by omega)]
      have := i3 (by omega)
      omega
    · have ct : t < s → c t ≤ B := fun z => by
        obtain ⟨t', rfl⟩ : ∃ t', t = t' + 1 := ⟨t - 1, by omega⟩
        have a := bag_ge (F := c (t' + 1)) (Nat.lt_of_le_of_lt (Nat.zero_le _) t4') t2 hn hm m0'
        have b := hv'.2 (t' + 1) t1 t2 z
        omega
      rcases List.mem_cons.mp hx with e | e
      · subst e
        exact ⟨ts, ct⟩
      · obtain ⟨j1, j2⟩ := i4 x e
        refine ⟨by omega, fun z => ?_⟩
        by_cases y : x.1 < t
        · exact j2 y
        · rw [show x.1 = t by omega]
          exact ct (by omega)
