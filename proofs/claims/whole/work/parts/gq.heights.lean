/-! bounds: how much waits -/
theorem sm_pl {f g : Nat → Nat} : ∀ n : Nat, sm n f + sm n g = sm n (fun i => f i + g i) := by
  intro n
  induction n with
  | zero => rfl
  | succ n ih => rw [sm_s, sm_s, sm_s, ← ih]; omega
theorem sm_lt1 {f g : Nat → Nat} {n j : Nat} (h : ∀ i, i < n → f i ≤ g i) (hj : j < n) (h1 : f j + 1 ≤ g j) : sm n f + 1 ≤ sm n g := by
  induction n with
  | zero => omega
  | succ n ih =>
    rw [sm_s, sm_s]
    have := h n (by omega)
    by_cases z : j = n
    · subst z
      have := sm_mono (n := j) (f := f) (g := g) (fun i hi => h i (by omega))
      omega
    · have := ih (fun i hi => h i (by omega)) (by omega)
      omega
def cLv (d hm : Nat → Nat) (k l : Nat) : Nat := sm 24 (fun q => if hm q = k ∧ d q = l then 1 else 0)
def Dp (d hm rK rO : Nat → Nat) (p : Nat) : Nat := sm 24 (fun q => if hm q = hm p ∧ d p < d q then 1 else 0) + sm 24 (fun q => if rK (hm q) < rO p then 1 else 0)
theorem Dp_48 {d hm rK rO : Nat → Nat} {p : Nat} : Dp d hm rK rO p ≤ 48 := by
  unfold Dp
  have a := sm_le (n := 24) (B := 1) (f := fun q => if hm q = hm p ∧ d p < d q then 1 else 0) (fun i _ => by (try dsimp only); split <;> omega)
  have b := sm_le (n := 24) (B := 1) (f := fun q => if rK (hm q) < rO p then 1 else 0) (fun i _ => by (try dsimp only); split <;> omega)
  omega
theorem cLv_24 {d hm : Nat → Nat} {k l : Nat} : cLv d hm k l ≤ 24 := by
  unfold cLv
  have a := sm_le (n := 24) (B := 1) (f := fun q => if hm q = k ∧ d q = l then 1 else 0) (fun i _ => by (try dsimp only); split <;> omega)
  omega
theorem chn_lv {M : Int → Int} {d hm : Nat → Nat} (w : WF M) (dp : DP M d) (hh : HM M hm) : ∀ (f p : Nat), (p : Int) < M 2 → chn M f (p : Int) ≤ sm 24 (fun q => if p ≤ q ∧ hm q = hm p ∧ d q = d p then 1 else 0) := by
  have hM2 := w.2.2.1
  intro f
  induction f with
  | zero => intro p _; exact Nat.zero_le _
  | succ f ih =>
    intro p hp
    rw [chn_s]
    rcases (w.2.2.2.1 p hp).2.1 with q | q
    · rw [q, chn_n (by decide)]
      have := le_sm (n := 24) (f := fun q => if p ≤ q ∧ hm q = hm p ∧ d q = d p then 1 else 0) (i := p) (by omega)
      try dsimp only at this
      rw [if_pos ⟨Nat.le_refl _, rfl, rfl⟩] at this
      omega
    · obtain ⟨p', hp'⟩ : ∃ p' : Nat, M (96 + (p : Int)) = (p' : Int) := ⟨(M (96 + (p : Int))).toNat, by omega⟩
      rw [hp'] at q ⊢
      have e1 : hm p' = hm p := hh.2.2.1 p p' hp (Or.inl hp'.symm)
      have e2 : d p' = d p := by
        have := (dp.2 p hp).2.2.2 (by omega)
        rw [hp'] at this
        exact this
      have i := ih p' (by omega)
      have k := sm_lt1 (n := 24) (f := fun q => if p' ≤ q ∧ hm q = hm p' ∧ d q = d p' then 1 else 0) (g := fun q => if p ≤ q ∧ hm q = hm p ∧ d q = d p then 1 else 0) (j := p) (fun i _ => by
        try dsimp only
        rw [e1, e2]
        split
        · next h => rw [if_pos ⟨by omega, h.2⟩]; exact Nat.le_refl _
        · exact Nat.zero_le _) (by omega) (by
        try dsimp only
        rw [if_neg (fun h => by omega), if_pos ⟨Nat.le_refl _, rfl, rfl⟩]; exact Nat.le_refl _)
      omega
theorem tmI_lv {M : Int → Int} {d hm : Nat → Nat} (w : WF M) (dp : DP M d) (hh : HM M hm) : ∀ (f p n v : Nat), (p : Int) < M 2 → ∀ y ∈ tmI M f (p : Int) n v, hm y.1 = hm p ∧ d y.1 = d p := by
  intro f
  induction f with
  | zero => intro p n v _ y hy; cases hy
  | succ f ih =>
    intro p n v hp y hy
    rw [tmI_s (s := (pkS (fun s => yM M p s * bhM M p (n - s)) (n + 1) 0 v).1) (w := (pkS (fun s => yM M p s * bhM M p (n - s)) (n + 1) 0 v).2) rfl] at hy
    rcases List.mem_cons.mp hy with e | e
    · subst e; exact ⟨rfl, rfl⟩
    · rcases (w.2.2.2.1 p hp).2.1 with q | q
      · rw [q, tmI_n (by decide)] at e; cases e
      · obtain ⟨p', hp'⟩ : ∃ p' : Nat, M (96 + (p : Int)) = (p' : Int) := ⟨(M (96 + (p : Int))).toNat, by omega⟩
        have e1 : hm p' = hm p := hh.2.2.1 p p' hp (Or.inl hp'.symm)
        have e2 : d p' = d p := by
          have := (dp.2 p hp).2.2.2 (by omega)
          rw [hp'] at this
          exact this
        rw [hp'] at e q
        obtain ⟨a, b⟩ := ih p' _ _ (by omega) y e
        exact ⟨a.trans e1, b.trans e2⟩
theorem chn_cL {M : Int → Int} {d hm : Nat → Nat} (w : WF M) (dp : DP M d) (hh : HM M hm) {f p : Nat} (hp : (p : Int) < M 2) : chn M f (p : Int) ≤ cLv d hm (hm p) (d p) := by
  refine Nat.le_trans (chn_lv w dp hh f p hp) (sm_mono (fun i _ => ?_))
  try dsimp only
  split
  · next h => rw [if_pos h.2]; exact Nat.le_refl _
  · exact Nat.zero_le _
/-- a part of the same home, one deeper -/
theorem Dp_in {d hm rK rO : Nat → Nat} {p y : Nat} (e1 : hm y = hm p) (e2 : d y = d p + 1) (r : rO y < rO p) : Dp d hm rK rO y + cLv d hm (hm p) (d p + 1) ≤ Dp d hm rK rO p := by
  unfold Dp cLv
  have a := sm_mono (n := 24) (f := fun q => if rK (hm q) < rO y then 1 else 0) (g := fun q => if rK (hm q) < rO p then 1 else 0) (fun i _ => by
    try dsimp only
    split
    · rw [if_pos (by omega)]; exact Nat.le_refl _
    · exact Nat.zero_le _)
  have b := sm_pl (f := fun q => if hm q = hm y ∧ d y < d q then 1 else 0) (g := fun q => if hm q = hm p ∧ d q = d p + 1 then 1 else 0) 24
  have c := sm_mono (n := 24) (f := fun i => (if hm i = hm y ∧ d y < d i then 1 else 0) + (if hm i = hm p ∧ d i = d p + 1 then 1 else 0)) (g := fun q => if hm q = hm p ∧ d p < d q then 1 else 0) (fun i _ => by
    try dsimp only
    rw [e1, e2]
    by_cases z : hm i = hm p
    · by_cases y1 : d i = d p + 1
      · rw [if_neg (fun h => by omega), if_pos ⟨z, y1⟩, if_pos ⟨z, by omega⟩]; exact Nat.le_refl _
      · rw [if_neg (c := hm i = hm p ∧ d i = d p + 1) (fun h => y1 h.2)]
        split
        · next h => rw [if_pos ⟨z, by omega⟩]; exact Nat.le_refl _
        · exact Nat.zero_le _
    · rw [if_neg (fun h => z h.1), if_neg (fun h => z h.1)]; exact Nat.zero_le _)
  omega
/-- a part of a kind below -/
theorem Dp_nm {d hm rK rO : Nat → Nat} {p y e : Nat} (e1 : hm y = e) (e2 : d y = 0) (r : rK e < rO p) (r2 : rO y < rK e) : Dp d hm rK rO y + cLv d hm e 0 ≤ Dp d hm rK rO p := by
  unfold Dp cLv
  have b := sm_pl (f := fun q => if hm q = hm y ∧ d y < d q then 1 else 0) (g := fun q => if rK (hm q) < rO y then 1 else 0) 24
  have b2 := sm_pl (f := fun i => (if hm i = hm y ∧ d y < d i then 1 else 0) + (if rK (hm i) < rO y then 1 else 0)) (g := fun q => if hm q = e ∧ d q = 0 then 1 else 0) 24
  have c := sm_mono (n := 24) (f := fun i => (if hm i = hm y ∧ d y < d i then 1 else 0) + (if rK (hm i) < rO y then 1 else 0) + (if hm i = e ∧ d i = 0 then 1 else 0)) (g := fun q => if rK (hm q) < rO p then 1 else 0) (fun i _ => by
    try dsimp only
    rw [e1, e2]
    by_cases z : hm i = e
    · rw [if_neg (c := rK (hm i) < rO y) (by rw [z]; omega), if_pos (c := rK (hm i) < rO p) (by rw [z]; exact r)]
      by_cases y1 : d i = 0
      · rw [if_neg (fun h => by omega), if_pos ⟨z, y1⟩]; exact Nat.le_refl _
      · rw [if_pos ⟨z, by omega⟩, if_neg (fun h => y1 h.2)]; exact Nat.le_refl _
    · rw [if_neg (c := hm i = e ∧ 0 < d i) (fun h => z h.1), if_neg (c := hm i = e ∧ d i = 0) (fun h => z h.1)]
      split
      · rw [if_pos (by omega)]; exact Nat.le_refl _
      · exact Nat.zero_le _)
  omega
