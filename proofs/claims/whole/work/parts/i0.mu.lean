/-! how far a part may lead on without a sign -/
def lsF (y : Nat → Nat) : Nat → Nat → Nat
  | 0, m => m
  | d + 1, m => if 1 ≤ y m then m else lsF y d (m + 1)
theorem lsF_le {y : Nat → Nat} : ∀ (d m k : Nat), m ≤ k → k < m + d → 1 ≤ y k → lsF y d m ≤ k := by
  intro d
  induction d with
  | zero => intro m k a b; omega
  | succ d ih =>
    intro m k a b c
    show (if 1 ≤ y m then m else lsF y d (m + 1)) ≤ k
    by_cases z : 1 ≤ y m
    · rw [if_pos z]; exact a
    · rw [if_neg z]
      have : m ≠ k := fun q => z (by rw [q]; exact c)
      exact ih (m + 1) k (by omega) (by omega) c
theorem lsF_at {y : Nat → Nat} : ∀ (d m : Nat), (∃ k, m ≤ k ∧ k < m + d ∧ 1 ≤ y k) → 1 ≤ y (lsF y d m) ∧ lsF y d m < m + d := by
  intro d
  induction d with
  | zero => rintro m ⟨k, a, b, c⟩; omega
  | succ d ih =>
    rintro m ⟨k, a, b, c⟩
    show 1 ≤ y (if 1 ≤ y m then m else lsF y d (m + 1)) ∧ (if 1 ≤ y m then m else lsF y d (m + 1)) < m + (d + 1)
    by_cases z : 1 ≤ y m
    · rw [if_pos z]; exact ⟨z, by omega⟩
    · rw [if_neg z]
      have : m ≠ k := fun q => z (by rw [q]; exact c)
      obtain ⟨u, v⟩ := ih (m + 1) ⟨k, by omega, by omega, c⟩
      exact ⟨u, by omega⟩
theorem lsF_cg {y z : Nat → Nat} : ∀ (d m : Nat), (∀ k, m ≤ k → k < m + d → (1 ≤ y k ↔ 1 ≤ z k)) → lsF y d m = lsF z d m := by
  intro d
  induction d with
  | zero => intro m _; rfl
  | succ d ih =>
    intro m h
    show (if 1 ≤ y m then m else lsF y d (m + 1)) = (if 1 ≤ z m then m else lsF z d (m + 1))
    rw [ih (m + 1) (fun k a b => h k (by omega) (by omega))]
    by_cases c : 1 ≤ y m
    · rw [if_pos c, if_pos ((h m (Nat.le_refl _) (by omega)).mp c)]
    · rw [if_neg c, if_neg (fun q => c ((h m (Nat.le_refl _) (by omega)).mpr q))]
def kyM (M : Int → Int) (rO : Nat → Nat) (p : Nat) : Nat := 54 * lsF (yM M p) 8 0 + rO p
def muM (M : Int → Int) (rO : Nat → Nat) (p : Nat) : Nat := sm 24 (fun q => if ((q : Int) < M 2 ∧ 1 ≤ lq1 M q ∧ 0 ≤ M (96 + (q : Int))) ∧ kyM M rO q < kyM M rO p then 1 else 0)
theorem mu_mono {M : Int → Int} {rO : Nat → Nat} {p p' : Nat} (h : kyM M rO p' ≤ kyM M rO p) : muM M rO p' ≤ muM M rO p := by
  refine sm_mono (fun q _ => ?_)
  try dsimp only
  by_cases c : ((q : Int) < M 2 ∧ 1 ≤ lq1 M q ∧ 0 ≤ M (96 + (q : Int))) ∧ kyM M rO q < kyM M rO p'
  · rw [if_pos c, if_pos ⟨c.1, by omega⟩]; exact Nat.le_refl _
  · rw [if_neg c]; exact Nat.zero_le _
theorem mu_lt {M : Int → Int} {rO : Nat → Nat} {p q : Nat} (h2 : M 2 ≤ 24) (hq : (q : Int) < M 2 ∧ 1 ≤ lq1 M q ∧ 0 ≤ M (96 + (q : Int))) (h : kyM M rO q < kyM M rO p) : muM M rO q < muM M rO p := by
  have a := hq.1
  refine sm_lt (j := q) (fun i _ => ?_) (by omega) ?_
  · try dsimp only
    by_cases c : ((i : Int) < M 2 ∧ 1 ≤ lq1 M i ∧ 0 ≤ M (96 + (i : Int))) ∧ kyM M rO i < kyM M rO q
    · rw [if_pos c, if_pos ⟨c.1, by omega⟩]; exact Nat.le_refl _
    · rw [if_neg c]; exact Nat.zero_le _
  · try dsimp only
    rw [if_neg (fun c => Nat.lt_irrefl _ c.2), if_pos ⟨hq, h⟩]
    exact Nat.zero_lt_one
theorem mu_12 {M : Int → Int} {rO : Nat → Nat} (w : WF M) (u : UQ M) (p : Nat) : muM M rO p ≤ 12 := by
  have hM2 := w.2.2.1
  have nxt : ∀ q : Nat, (q : Int) < M 2 → 0 ≤ M (96 + (q : Int)) → M (96 + (q : Int)) < M 2 := fun q hq h => by
    rcases (w.2.2.2.1 q hq).2.1 with z | z
    · omega
    · exact z.2
  have a1 : muM M rO p ≤ sm 24 (fun q => if (q : Int) < M 2 ∧ 1 ≤ lq1 M q ∧ 0 ≤ M (96 + (q : Int)) then 1 else 0) := by
    refine sm_mono (fun q _ => ?_)
    try dsimp only
    by_cases c : ((q : Int) < M 2 ∧ 1 ≤ lq1 M q ∧ 0 ≤ M (96 + (q : Int))) ∧ kyM M rO q < kyM M rO p
    · rw [if_pos c, if_pos c.1]; exact Nat.le_refl _
    · rw [if_neg c]; exact Nat.zero_le _
  have a2 : sm 24 (fun q => if (q : Int) < M 2 ∧ 1 ≤ lq1 M q ∧ 0 ≤ M (96 + (q : Int)) then 1 else 0) ≤ sm 24 (fun q => sm 24 (fun r => if ((q : Int) < M 2 ∧ 1 ≤ lq1 M q ∧ 0 ≤ M (96 + (q : Int))) ∧ M (96 + (q : Int)) = (r : Int) then 1 else 0)) := by
    refine sm_mono (fun q _ => ?_)
    try dsimp only
    by_cases c : (q : Int) < M 2 ∧ 1 ≤ lq1 M q ∧ 0 ≤ M (96 + (q : Int))
    · rw [if_pos c]
      have b := nxt q c.1 c.2.2
      have l := le_sm (n := 24) (f := fun r : Nat => if ((q : Int) < M 2 ∧ 1 ≤ lq1 M q ∧ 0 ≤ M (96 + (q : Int))) ∧ M (96 + (q : Int)) = (r : Int) then 1 else 0) (i := (M (96 + (q : Int))).toNat) (by omega)
      try dsimp only at l
      rw [if_pos ⟨c, by omega⟩] at l
      exact l
    · rw [if_neg c]; exact Nat.zero_le _
  have a3 : sm 24 (fun q => sm 24 (fun r => if ((q : Int) < M 2 ∧ 1 ≤ lq1 M q ∧ 0 ≤ M (96 + (q : Int))) ∧ M (96 + (q : Int)) = (r : Int) then 1 else 0)) ≤ sm 24 (fun r => if (r : Int) < M 2 ∧ lq1 M r = 0 then 1 else 0) := by
    rw [sm_swap]
    refine sm_mono (fun r _ => ?_)
    try dsimp only
    by_cases c : (r : Int) < M 2 ∧ lq1 M r = 0
    · rw [if_pos c]
      have ur := u r c.1
      refine Nat.le_trans (sm_mono (g := fun q : Nat => if M (96 + (q : Int)) = (r : Int) then 1 else 0) (fun q _ => ?_)) (show lq2 M r ≤ 1 by omega)
      try dsimp only
      by_cases d : M (96 + (q : Int)) = (r : Int)
      · rw [if_pos d]; split <;> omega
      · rw [if_neg (fun z => d z.2)]; exact Nat.zero_le _
    · rw [if_neg c]
      refine Nat.le_of_eq (sm_zero (fun q hq => ?_))
      try dsimp only
      refine if_neg (fun z => c ?_)
      obtain ⟨⟨z1, z2, z3⟩, z4⟩ := z
      have b := nxt q z1 z3
      have rb : (r : Int) < M 2 := by omega
      have ur := u r rb
      have n1 := uq_N (M := M) (q := r) (p := q) hq z4
      exact ⟨rb, by omega⟩
  have a4 : sm 24 (fun q => if (q : Int) < M 2 ∧ 1 ≤ lq1 M q ∧ 0 ≤ M (96 + (q : Int)) then 1 else 0) + sm 24 (fun r => if (r : Int) < M 2 ∧ lq1 M r = 0 then 1 else 0) ≤ 24 := by
    rw [← sm_plus]
    refine Nat.le_trans (sm_le (B := 1) (fun q _ => ?_)) (by decide)
    try dsimp only
    by_cases c : (q : Int) < M 2 ∧ lq1 M q = 0
    · rw [if_neg (fun z => by have := z.2.1; omega), if_pos c]; exact Nat.le_refl _
    · rw [if_neg c]; split <;> omega
  omega
theorem y_one {S : St} (h : Cor S) {p m : Nat} (hp : (p : Int) < S 84 2) (hm : m ≤ 7) (ty : S 84 (24 + (p : Int)) = 2 ∨ S 84 (24 + (p : Int)) = 7) (s : sgl (S 84) (exN (S 84) p)) (o : offM (S 84) (exN (S 84) p) 0 = false) (f0 : 0 ≤ fpM (S 84) (exN (S 84) p) 0) : (((fpM (S 84) (exN (S 84) p) 0).toNat : Nat) : Int) < S 84 2 ∧ (yM (S 84) p m = 0 ↔ yM (S 84) (fpM (S 84) (exN (S 84) p) 0).toNat m = 0) := by
  have wf := h.wf
  obtain ⟨e30, lo, l0, oe⟩ := ex_ok wf hp ty
  have c1 := s.1
  obtain ⟨t1, t2, t3⟩ := oe.2.1 0 (by unfold cnE at c1; omega)
  obtain ⟨q, hq⟩ : ∃ q : Nat, fpM (S 84) (exN (S 84) p) 0 = (q : Int) := ⟨(fpM (S 84) (exN (S 84) p) 0).toNat, by omega⟩
  have s2 := s.2
  rw [hq] at s2 t3 ⊢
  rw [show ((q : Nat) : Int).toNat = q from rfl]
  refine ⟨t3, ?_⟩
  have yx := y_ex h hp hm ty
  rw [c1] at yx
  have e1 : sm 1 (fun t => byM (S 84) (exN (S 84) p) t m) = rM (S 84) q m := by
    show 0 + byM (S 84) (exN (S 84) p) 0 m = _
    rw [Nat.zero_add, byM_on o, hq]
    all_goals rfl
  rw [e1] at yx
  have hr := r_parts h t3 hm
  have e2 : sm (m + 1) (fun s => yM (S 84) q s * bhM (S 84) q (m - s)) = yM (S 84) q m := by
    rw [sm_s, bh_l s2, if_pos (Nat.sub_self m), Nat.mul_one, sm_zero (fun i hi => by rw [bh_l s2, if_neg (by omega), Nat.mul_zero]), Nat.zero_add]
  rw [e2] at hr
  exact ev_zero (yx.tr hr)
theorem ky_col {S : St} (h : Cor S) {rO : Nat → Nat} (rx : RKx (S 84) rO) : ∀ (k p p' : Nat), (p : Int) < S 84 2 → COL (S 84) k p p' → kyM (S 84) rO p' ≤ kyM (S 84) rO p := by
  intro k
  induction k with
  | zero => intro p p' _ c; rw [show p = p' from c]; exact Nat.le_refl _
  | succ k ih =>
    intro p p' hp c
    obtain ⟨⟨ty, s, o, f0⟩, c'⟩ := c
    have b := (y_one h hp (Nat.zero_le 7) ty s o f0).1
    refine Nat.le_trans (ih _ p' b c') ?_
    have wf := h.wf
    have c1 := s.1
    have q : S 84 (96 + fpM (S 84) (exN (S 84) p) 0) = -1 := by
      have s2 := s.2
      have z := (wf.2.2.2.1 (fpM (S 84) (exN (S 84) p) 0).toNat b).2.1
      rw [show (((fpM (S 84) (exN (S 84) p) 0).toNat : Nat) : Int) = fpM (S 84) (exN (S 84) p) 0 by omega] at z
      omega
    have r := rx.2 p 0 hp ty (by unfold cnE at c1; omega) q
    have ls : lsF (yM (S 84) (fpM (S 84) (exN (S 84) p) 0).toNat) 8 0 = lsF (yM (S 84) p) 8 0 := lsF_cg 8 0 (fun j _ hj => by
      have := (y_one h hp (show j ≤ 7 by omega) ty s o f0).2
      omega)
    unfold kyM
    rw [ls]
    omega
theorem ky_head {S : St} (h : Cor S) {E TE : Nat → Prop} {rO rT rK : Nat → Nat} (rk : RKs (S 84) E TE rO rT rK) {p : Nat} (hp : (p : Int) < S 84 2) (ty : S 84 (24 + (p : Int)) = 2 ∨ S 84 (24 + (p : Int)) = 7) (c1 : cnE (S 84) (exN (S 84) p) = 1) (f0 : 0 ≤ S 84 (96 + fpM (S 84) (exN (S 84) p) 0)) (nb : ∃ m, m ≤ 7 ∧ 1 ≤ yM (S 84) p m) : ∃ q : Nat, fpM (S 84) (exN (S 84) p) 0 = (q : Int) ∧ (q : Int) < S 84 2 ∧ exN (S 84) p < 30 ∧ kyM (S 84) rO q < kyM (S 84) rO p := by
  have wf := h.wf
  have hM0 := wf.1
  obtain ⟨e30, lo, l0, oe⟩ := ex_ok wf hp ty
  obtain ⟨t1, t2, t3⟩ := oe.2.1 0 (by unfold cnE at c1; omega)
  obtain ⟨q, hq⟩ : ∃ q : Nat, fpM (S 84) (exN (S 84) p) 0 = (q : Int) := ⟨(fpM (S 84) (exN (S 84) p) 0).toNat, by omega⟩
  rw [hq] at t3 f0
  refine ⟨q, hq, t3, e30, ?_⟩
  obtain ⟨m, m7, m1⟩ := nb
  obtain ⟨n1, n2⟩ := lsF_at (y := yM (S 84) p) 8 0 ⟨m, Nat.zero_le _, by omega, m1⟩
  obtain ⟨n, hn⟩ : ∃ n, n = lsF (yM (S 84) p) 8 0 := ⟨_, rfl⟩
  rw [← hn] at n1 n2
  have yx := y_ex h hp (n := n) (by omega) ty
  rw [c1] at yx
  have e1 : sm 1 (fun t => byM (S 84) (exN (S 84) p) t n) = byM (S 84) (exN (S 84) p) 0 n := by
    show 0 + byM (S 84) (exN (S 84) p) 0 n = _
    rw [Nat.zero_add]
  rw [e1] at yx
  have b1 : byM (S 84) (exN (S 84) p) 0 n ≠ 0 := fun z => by
    have := (ev_zero yx).mpr z
    omega
  have o : offM (S 84) (exN (S 84) p) 0 = false := by
    by_cases z : offM (S 84) (exN (S 84) p) 0 = true
    · exact absurd (by unfold byM; rw [z, if_pos rfl]) b1
    · exact Bool.eq_false_iff.mpr z
  rw [byM_on o, hq, show ((q : Nat) : Int).toNat = q from rfl] at b1
  have hr := r_parts h t3 (n := n) (by omega)
  have s0 : sm (n + 1) (fun s => yM (S 84) q s * bhM (S 84) q (n - s)) ≠ 0 := fun z => b1 ((ev_zero hr).mpr z)
  obtain ⟨s, s1, s2⟩ := sm_pos (Nat.pos_of_ne_zero s0)
  try dsimp only at s2
  have y1 : 1 ≤ yM (S 84) q s := Nat.pos_of_ne_zero fun z => by rw [z, Nat.zero_mul] at s2; exact absurd s2 (Nat.lt_irrefl _)
  have y2 : bhM (S 84) q (n - s) ≠ 0 := fun z => by rw [z, Nat.mul_zero] at s2; exact absurd s2 (Nat.lt_irrefl _)
  have l1 := lsF_le (y := yM (S 84) q) 8 0 s (Nat.zero_le _) (by omega) y1
  have rq := rk.2.1 q t3
  unfold kyM
  rw [← hn]
  by_cases c : s < n
  · omega
  · have es : s = n := by omega
    rw [es, Nat.sub_self, bh_n f0] at y2
    obtain ⟨⟨KE, ord⟩, r54, r3⟩ := rk
    obtain ⟨_, _, o3, o4⟩ := ord
    have nb2 : (((S 84 (96 + (q : Int))).toNat : Nat) : Int) < S 84 2 := by
      rcases (wf.2.2.2.1 q t3).2.1 with z | z <;> omega
    have te := (r3 _ nb2).2 y2
    have f1 := (o3 q t3).2.2.2.2.1 f0 te
    obtain ⟨ok1, ok2, ok3, ok4, ok5, ok6⟩ := wf.2.2.2.1 p hp
    have tc : ((0 : Nat) : Int) < S 84 (198 + ((exN (S 84) p : Nat) : Int)) := by unfold cnE at c1; omega
    have f2 : rT q < rO p := by
      rcases ty with e | e
      · have k := ok4 e
        have g2 := o4 (exN (S 84) p) (by unfold exN; omega) 0 tc
        rw [hq, show ((q : Nat) : Int).toNat = q from rfl] at g2
        have g3 : rK (exN (S 84) p) < rO p := (o3 p hp).1 e
        omega
      · have k := ok5 e
        have ek : exN (S 84) p = 6 + p := by unfold exN; omega
        have g2 := (o3 p hp).2.1 e 0 (by rw [← ek]; exact tc)
        rw [← ek, hq] at g2
        exact g2
    omega
theorem mux_of {S : St} (h : Cor S) {E TE : Nat → Prop} {rO rT rK : Nat → Nat} (rk : RKs (S 84) E TE rO rT rK) (u : UQ (S 84)) : MUx (S 84) (muM (S 84) rO) := by
  have wf := h.wf
  have hM2 := wf.2.2.1
  refine ⟨fun p _ => mu_12 wf u p, fun p hp ty c1 f0 nb => ?_, fun k p p' hp c => mu_mono (ky_col h (rkx_of wf rk) k p p' hp c)⟩
  obtain ⟨q, q1, q2, q3, q4⟩ := ky_head h rk hp ty c1 f0 nb
  rw [q1] at f0 ⊢
  rw [show ((q : Nat) : Int).toNat = q from rfl]
  exact mu_lt hM2.2 ⟨q2, uq_E q3 (by unfold cnE at c1; omega) q1, f0⟩ q4
