/-! counts, by part and size: what stands in the tables -/
def yM (M : Int → Int) (p n : Nat) : Nat := YP M (-1) (pl p n 0)
def rM (M : Int → Int) (p n : Nat) : Nat := RP M (-1) (pl p n 0)
/-- so many things as a sequence has; below 0: any number -/
def nuM (M : Int → Int) (p : Nat) : Int := if M (48 + (p : Int)) = 0 then -1 else M (48 + (p : Int))
/-- things of a size in what stands in a sequence -/
def cM (M : Int → Int) (p : Nat) : Nat → Nat := fun s => yM M (chM M p) s
/-- in how many ways the parts behind one have a size -/
def bhM (M : Int → Int) (p n : Nat) : Nat := if M (96 + (p : Int)) < 0 then (if n = 0 then 1 else 0) else rM M (M (96 + (p : Int))).toNat n
theorem cut_f {c : Nat → Nat → Nat} {s : Nat} : cut false c s 0 = c s 0 := if_pos (Nat.zero_le _)
theorem topf_f : ∀ t, topf false t = 0 := fun t => if_neg (by decide)
theorem d01 : decide ((0 : Int) ≤ -1) = false := rfl
theorem Cor.sol {S : St} (h : Cor S) : ∃ E TE : Nat → Prop, sol false false (-1) (S 84) E TE (YP (S 84) (-1)) (RP (S 84) (-1)) := by
  obtain ⟨E, TE, KE, rO, rT, rK, st, w, o, -⟩ := h
  have s := YP_sol (l := -1) w o (by decide)
  rw [d01] at s
  exact ⟨E, TE, s⟩
theorem Cor.yle {S : St} (h : Cor S) {p n : Nat} (hp : (p : Int) < S 84 2) (hn : n ≤ 7) : yM (S 84) p n ≤ 1000000000000 := by
  obtain ⟨E, TE, KE, rO, rT, rK, st, w, o, -⟩ := h
  exact YP_le w o (by decide) (pl_lt2 (show p < 30 by have := w.2.2.1; omega) hn (by omega) (by decide))
theorem Cor.rle' {S : St} (h : Cor S) {p n : Nat} (hp : (p : Int) < S 84 2) (hn : n ≤ 7) : rM (S 84) p n ≤ 1000000000000 := h.rle hp hn
/-- an atom, a unit -/
theorem y_leaf {S : St} (h : Cor S) {p n : Nat} (hp : (p : Int) < S 84 2) (hn : n ≤ 7) : (S 84 (24 + (p : Int)) = 0 → yM (S 84) p n = if n = 1 then 1 else 0) ∧ (S 84 (24 + (p : Int)) = 1 → yM (S 84) p n = if n = 0 then 1 else 0) := by
  obtain ⟨E, TE, s⟩ := h.sol
  have q := (s.1 p n 0 hp hn (Nat.zero_le _)).1
  have l := h.yle hp hn
  have ok := h.wf.2.2.2.1 p hp
  unfold pvC at q
  refine ⟨fun z => ?_, fun z => ?_⟩
  · rw [if_pos z] at q
    refine ev_le (x := yM (S 84) p n) (q.tr ?_) l (by split <;> omega)
    have := ok.2.2.1 z
    rw [if_neg (show ¬ (-1 : Int) = S 84 (48 + (p : Int)) by omega), if_pos (show (0 : Nat) = 0 from rfl)]
    exact ev.rf
  · rw [if_neg (by omega), if_pos z] at q
    exact ev_le (x := yM (S 84) p n) q l (by split <;> omega)
/-- a name, brackets -/
theorem y_name {S : St} (h : Cor S) {p n : Nat} (hp : (p : Int) < S 84 2) (hn : n ≤ 7) (z : S 84 (24 + (p : Int)) = 2) : yM (S 84) p n = kM (S 84) (S 84 (48 + (p : Int))).toNat n := by
  obtain ⟨E, TE, s⟩ := h.sol
  have q := (s.1 p n 0 hp hn (Nat.zero_le _)).1
  have ok := (h.wf.2.2.2.1 p hp).2.2.2.1 z
  unfold pvC at q
  rw [if_neg (by omega), if_neg (by omega), if_pos z] at q
  refine ev_le (x := yM (S 84) p n) (q.tr ?_) (h.yle hp hn) (h.kle (by omega) hn)
  rw [kY_pl]
  exact ev.rf
/-- the terms of an expression -/
theorem xs_by {M : Int → Int} {e n : Nat} : xs M (fun q => RP M (-1) (pl q n 0)) e = sm (cnE M e) (fun t => byM M e t n) := rfl
theorem y_group {S : St} (h : Cor S) {p n : Nat} (hp : (p : Int) < S 84 2) (hn : n ≤ 7) (z : S 84 (24 + (p : Int)) = 7) : ev (yM (S 84) p n) (sm (cnE (S 84) (6 + p)) (fun t => byM (S 84) (6 + p) t n)) := by
  obtain ⟨E, TE, s⟩ := h.sol
  have q := (s.1 p n 0 hp hn (Nat.zero_le _)).1
  unfold pvC at q
  rw [if_neg (by omega), if_neg (by omega), if_neg (by omega), if_pos z] at q
  exact q
theorem k_terms {S : St} (h : Cor S) {e n : Nat} (he : (e : Int) < S 84 0) (hn : n ≤ 7) : ev (kM (S 84) e n) (sm (cnE (S 84) e) (fun t => byM (S 84) e t n)) := by
  obtain ⟨E, TE, s⟩ := h.sol
  exact s.2.1 e n 0 he hn (Nat.zero_le _)
/-- a term: the sizes of its first part -/
theorem r_parts {S : St} (h : Cor S) {p n : Nat} (hp : (p : Int) < S 84 2) (hn : n ≤ 7) : ev (rM (S 84) p n) (sm (n + 1) (fun s => yM (S 84) p s * bhM (S 84) p (n - s))) := by
  obtain ⟨E, TE, s⟩ := h.sol
  have q := (s.1 p n 0 hp hn (Nat.zero_le _)).2
  have ok := (h.wf.2.2.2.1 p hp).2.1
  unfold tlu at q
  refine Eq.trans (b := _) q ?_
  unfold bhM
  by_cases z : S 84 (96 + (p : Int)) = -1
  · rw [if_pos z]
    have : sm (n + 1) (fun s => yM (S 84) p s * (if S 84 (96 + (p : Int)) < 0 then (if n - s = 0 then 1 else 0) else rM (S 84) (S 84 (96 + (p : Int))).toNat (n - s))) = yM (S 84) p n := by
      rw [sm_s, if_pos (by omega), if_pos (by omega), Nat.mul_one, sm_zero (fun i hi => by rw [if_pos (by omega), if_neg (by omega), Nat.mul_zero]), Nat.zero_add]
    rw [this]; rfl
  · rw [if_neg z]
    unfold tsum
    refine congrArg (min CC) (sm_congr fun i hi => ?_)
    rw [topf_f, sm_s, sm_0, Nat.zero_add, if_neg (by omega)]
    unfold tm
    rw [topf_f, if_pos ⟨Nat.le_refl _, Nat.le_refl _⟩]
    show yM (S 84) p i * 1 * _ = _
    rw [Nat.mul_one]; rfl
/-- rows, bags, sets: so many of a size -/
def sqN (M : Int → Int) (p n : Nat) : Nat := if M (24 + (p : Int)) = 3 then rwW (cM M p) (nuM M p) n else bgN (cM M p) (M (24 + (p : Int)) == 5) n (nuM M p) n (cM M p n)
theorem nu_ge {M : Int → Int} {p : Nat} (h : WF M) (hp : (p : Int) < M 2) (hs : isSq M p) : -1 ≤ nuM M p ∧ nuM M p ≠ 0 ∧ nuM M p ≤ 7 := by
  have h6 := (h.2.2.2.1 p hp).2.2.2.2.2 hs
  unfold nuM
  split <;> omega
theorem y_seq {S : St} (h : Cor S) {p n : Nat} (hp : (p : Int) < S 84 2) (hn : n ≤ 7) (hs : isSq (S 84) p) (h6 : S 84 (24 + (p : Int)) ≠ 6) : ev (yM (S 84) p n) (sqN (S 84) p n) := by
  obtain ⟨E, TE, s⟩ := h.sol
  have q := (s.1 p n 0 hp hn (Nat.zero_le _)).1
  have h6' := (h.wf.2.2.2.1 p hp).2.2.2.2.2 hs
  have hs' := hs
  unfold isSq at hs'
  unfold pvC at q
  rw [if_neg (by omega), if_neg (by omega), if_neg (by omega), if_neg (by omega)] at q
  refine Eq.trans (b := _) q ?_
  unfold sqN
  have nu := nu_ge h.wf hp hs
  by_cases n0 : n = 0
  · subst n0
    rw [if_pos rfl, rwW_0, bgN_n0, ite_self]
    unfold nuM
    by_cases z : S 84 (48 + (p : Int)) = 0
    · rw [if_pos ⟨z, h6⟩, if_pos z, if_pos (by omega)]
    · rw [if_neg (fun w => z w.1), if_neg z, if_neg (by omega)]
  rw [if_neg n0]
  have eC : (fun s => cut false (fun s i => YP (S 84) (-1) (pl (chM (S 84) p) s i)) s 0) = cM (S 84) p := by
    funext s
    rw [cut_f]; rfl
  have tR : ∀ j : Nat, rwW (cM (S 84) p) (j : Int) n = tr (cut false (fun s i => YP (S 84) (-1) (pl (chM (S 84) p) s i))) j n 0 := fun j => by rw [← rw_tr j n hn, eC]
  have tA : rwW (cM (S 84) p) (-1) n = sm (n + 1) (fun j => tr (cut false (fun s i => YP (S 84) (-1) (pl (chM (S 84) p) s i))) j n 0) := by rw [← rw_any n n (Nat.le_refl _) hn, eC]
  have eB : ∀ (o : Bool) (j : Nat), bgN (cM (S 84) p) o n (j : Int) n (cM (S 84) p n) = bgS o (fun s i => YP (S 84) (-1) (pl (chM (S 84) p) s i)) (topf false) n j n 0 := fun o j => by
    have e2 : cM (S 84) p = fun s => YP (S 84) (-1) (pl (chM (S 84) p) s 0) := rfl
    rw [e2]
    exact bg_bgS (C := fun s i => YP (S 84) (-1) (pl (chM (S 84) p) s i)) topf_f n j n
  have eA : ∀ o : Bool, bgN (cM (S 84) p) o n (-1) n (cM (S 84) p n) = sm (n + 1) (fun j => bgS o (fun s i => YP (S 84) (-1) (pl (chM (S 84) p) s i)) (topf false) n j n 0) := fun o => by
    rw [bg_any]
    exact sm_congr fun j _ => eB o j
  have b6 : (S 84 (24 + (p : Int)) == 6) = false := by simpa using h6
  by_cases w1 : S 84 (48 + (p : Int)) = 1
  · rw [if_pos w1]
    have e1 : nuM (S 84) p = ((1 : Nat) : Int) := by unfold nuM; rw [if_neg (by omega)]; omega
    rw [e1, tR, eB, tr_1 (by omega), cut_f, bgS_j1, if_pos (show 1 ≤ n ∧ n ≤ n ∧ 0 ≤ topf false n from ⟨by omega, Nat.le_refl _, Nat.zero_le _⟩), ite_self]
    rfl
  rw [if_neg w1]
  unfold sqv
  rw [if_neg (by decide), b6]
  unfold inT nuM
  by_cases z : S 84 (48 + (p : Int)) = 0
  · rw [if_pos (by omega), if_pos z]
    by_cases t3 : S 84 (24 + (p : Int)) = 3
    · rw [if_pos t3, if_pos t3, tA]; rfl
    · rw [if_neg t3, if_neg t3, eA]; rfl
  · rw [if_neg (by omega), if_neg z]
    obtain ⟨j, hj⟩ : ∃ j : Nat, S 84 (48 + (p : Int)) = (j : Int) := ⟨(S 84 (48 + (p : Int))).toNat, by omega⟩
    rw [hj, show ((j : Nat) : Int).toNat = j from rfl]
    by_cases t3 : S 84 (24 + (p : Int)) = 3
    · rw [if_pos t3, if_pos t3, tR]; rfl
    · rw [if_neg t3, if_neg t3, eB]; rfl
/-- what stands in a sequence has no thing of size 0 -/
theorem y_child0 {S : St} (h : Cor S) (nx : NEX (S 84)) {p : Nat} (hp : (p : Int) < S 84 2) (hs : isSq (S 84) p) : cM (S 84) p 0 = 0 := by
  obtain ⟨E, TE, KE, rO, rT, rK, o, ne⟩ := nx
  have w := h.wf
  have h6 := (w.2.2.2.1 p hp).2.2.2.2.2 hs
  have s := (YP_sol (l := -1) w o (by decide)).2.2 (chM (S 84) p) (by unfold chM; omega)
  exact Nat.eq_zero_of_not_pos fun z => ne p hp hs (s.1 (by unfold cM yM at z; omega))
