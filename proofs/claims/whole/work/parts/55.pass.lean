/-! the reference: passes over a size till none grows -/
def thinR (L : Bool) (R : Nat → Nat) : Prop := ∀ q s i : Nat, q < 24 → s ≤ 7 → topf L s < i → i ≤ 7 → R (pl q s i) = 0
theorem pst_thinR {M : Int → Int} {lett : Int} {L : Bool} {n p : Nat} {Y0 R0 Y R : Nat → Nat} (hn : n ≤ 7) (h0 : thinR L R0) (hS : pst M lett L n Y0 R0 Y R p) : thinR L R := fun q s i q1 s1 i1 i2 => by
  rw [hS.2.2 _ (pl_lt2 q1 s1 i2 (by decide)) (fun q' k' a b c e => ?_)]
  · exact h0 q s i q1 s1 i1 i2
  · have ht : topf L n ≤ 7 := Nat.le_trans topf_le hn
    obtain ⟨-, e2, e3⟩ := pl_inj e (by omega) (by omega) (by omega) (by omega)
    subst e2; subst e3
    omega
theorem topf_0 {L : Bool} : topf L 0 = 0 := by unfold topf; cases L <;> rfl
/-- at size 0 -/
theorem sup_of {M : Int → Int} {lett : Int} {L : Bool} {E TE KE : Nat → Prop} {rO rT rK : Nat → Nat} {Y R : Nat → Nat} (h : WF M) (hO : Ord M E TE KE rO rT rK) (hY : thin L Y) (hR : thinR L R) (e1 : ∀ p : Nat, (p : Int) < M 2 → eqP M lett L 0 Y R p) (hK : ∀ e : Nat, (e : Int) < M 0 → Y (pl (24 + e) 0 0) ≠ 0 → KE e) : sup M E TE Y R := by
  have hM2 := h.2.2.1
  have key : ∀ d p : Nat, (p : Int) + d = M 2 → 1 ≤ d → (Y (pl p 0 0) ≠ 0 → E p) ∧ (R (pl p 0 0) ≠ 0 → TE p) := by
    intro d
    induction d using Nat.strongRecOn with
    | ind d ih =>
      intro p hpd hd
      have hp : (p : Int) < M 2 := by omega
      have later : ∀ q : Nat, p < q → (q : Int) < M 2 → (Y (pl q 0 0) ≠ 0 → E q) ∧ (R (pl q 0 0) ≠ 0 → TE q) := fun q a b => ih (M 2 - q).toNat (by omega) q (by omega) (by omega)
      obtain ⟨h1, h2, h3, h4, h5, h6⟩ := h.2.2.2.1 p hp
      obtain ⟨c1, c2, c3, c4, c5, c6⟩ := hO.1 p hp
      have e := e1 p hp 0 (Nat.zero_le _)
      have own : Y (pl p 0 0) ≠ 0 → E p := by
        intro hne
        rw [e.1] at hne
        have hne : pvT M lett Y R p 0 0 (topf L 0) ≠ 0 := fun z => hne (by rw [z, Nat.min_zero])
        unfold pvT at hne
        by_cases s0 : M (24 + (p : Int)) = 0
        · rw [if_pos s0, if_neg (by omega)] at hne; exact absurd rfl hne
        rw [if_neg s0] at hne
        by_cases s1 : M (24 + (p : Int)) = 1
        · exact c1 s1
        rw [if_neg s1] at hne
        by_cases s2 : M (24 + (p : Int)) = 2
        · have := h4 s2
          rw [if_pos s2] at hne
          exact c2 s2 (hK _ (by omega) hne)
        rw [if_neg s2] at hne
        by_cases s7 : M (24 + (p : Int)) = 7
        · obtain ⟨q1, q2, q3⟩ := h5 s7
          rw [if_pos s7] at hne
          obtain ⟨t, t1, t2⟩ := sm_pos (Nat.pos_of_ne_zero hne)
          have q4 := q3.2.1 t (by omega)
          refine c3 s7 t (by omega) ((later _ (by omega) (by omega)).2 ?_)
          cases ho : offM M (6 + p) t with
          | true => rw [ho] at t2; simp at t2
          | false => rw [ho] at t2; simp at t2; omega
        rw [if_neg s7] at hne
        have h6' := h6 (by omega)
        unfold inT at hne
        by_cases nz : (M (48 + (p : Int))).toNat = 0
        · refine c4 ⟨by omega, ?_, by omega⟩
          by_cases s6 : M (24 + (p : Int)) = 6
          · rw [if_pos nz, sm_s, sm_0, s6] at hne
            exact absurd rfl hne
          · omega
        · rw [if_neg nz] at hne
          exfalso
          by_cases s6 : M (24 + (p : Int)) = 6
          · rw [s6] at hne
            refine hne ?_
            show rgu _ _ 0 0 / _ = 0
            rw [show rgu (fun s i => Y (pl (M (72 + (p : Int))).toNat s i)) (M (48 + (p : Int))).toNat 0 0 = 0 from sm_zero fun d hd => ?_, Nat.zero_div]
            by_cases w : (M (48 + (p : Int))).toNat % (d + 1) = 0 ∧ 0 % (d + 1) = 0 ∧ 0 % (d + 1) = 0
            · have x := div_back w.1
              have : 0 < (M (48 + (p : Int))).toNat / (d + 1) := Nat.pos_of_ne_zero fun z => by rw [z, Nat.zero_mul] at x; omega
              rw [if_pos w, Nat.zero_div, tr_small _ 0 0 this, Nat.mul_zero]
            · rw [if_neg w]
          · have s6b : (M (24 + (p : Int)) == 6) = false := by simp [s6]
            rw [s6b] at hne
            simp only [Bool.false_eq_true, if_false] at hne
            by_cases s3 : M (24 + (p : Int)) = 3
            · rw [if_pos s3] at hne
              exact hne (tr_small _ 0 0 (by omega))
            · rw [if_neg s3] at hne
              exact hne (bgS_small 0 _ 0 0 (by omega))
      refine ⟨own, fun hne => ?_⟩
      rw [e.2] at hne
      have hne : rs Y R (M (96 + (p : Int))) p 0 0 ≠ 0 := fun z => hne (by rw [z, Nat.min_zero])
      unfold rs at hne
      by_cases z : M (96 + (p : Int)) < 0
      · rw [if_pos z] at hne
        exact c5 (own hne) (by omega)
      · rw [if_neg z, sm_s, sm_0, Nat.zero_add, sm_s, sm_0, Nat.zero_add] at hne
        have a1 : Y (pl p 0 0) ≠ 0 := fun w => hne (by rw [w, Nat.zero_mul])
        have a2 : R (pl (M (96 + (p : Int))).toNat 0 0) ≠ 0 := fun w => hne (by rw [Nat.sub_self, w, Nat.mul_zero])
        exact c6 (own a1) (by omega) ((later _ (by omega) (by omega)).2 a2)
  intro p i hp hi
  by_cases z : i = 0
  · subst z
    exact key (M 2 - p).toNat p (by omega) (by omega)
  · refine ⟨fun w => absurd (hY p 0 i (by omega) (by omega) (by rw [topf_0]; omega) hi) w, fun w => absurd (hR p 0 i (by omega) (by omega) (by rw [topf_0]; omega) hi) w⟩
theorem sm_lt {n : Nat} {f g : Nat → Nat} (h : ∀ i, i < n → f i ≤ g i) {j : Nat} (hj : j < n) (hs : f j < g j) : sm n f < sm n g := by
  induction n with
  | zero => omega
  | succ n ih =>
    rw [sm_s, sm_s]
    by_cases e : j = n
    · subst e
      have := sm_mono (n := j) (fun i hi => h i (by omega))
      omega
    · have := ih (fun i hi => h i (by omega)) (by omega)
      have := h n (by omega)
      omega
/-- how many kinds stand before one -/
def kap (M : Int → Int) (rK : Nat → Nat) (e : Nat) : Nat := sm 6 (fun f => if (f : Int) < M 0 ∧ rK f < rK e then 1 else 0)
theorem kap_lt {M : Int → Int} {rK : Nat → Nat} {e f : Nat} (h0 : M 0 ≤ 6) (hf : (f : Int) < M 0) (h : rK f < rK e) : kap M rK f < kap M rK e := by
  refine sm_lt (j := f) (fun i hi => ?_) (by omega) ?_
  · by_cases w : (i : Int) < M 0 ∧ rK i < rK f
    · rw [if_pos w, if_pos ⟨w.1, by omega⟩]; exact Nat.le_refl _
    · rw [if_neg w]; exact Nat.zero_le _
  · rw [if_neg (by omega), if_pos ⟨hf, h⟩]; exact Nat.one_pos
theorem kap_le {M : Int → Int} {rK : Nat → Nat} {e : Nat} (h0 : M 0 ≤ 6) (he : (e : Int) < M 0) : kap M rK e < 6 := by
  have : kap M rK e < sm 6 (fun _ => 1) := sm_lt (j := e) (fun i _ => by split <;> omega) (by omega) (by rw [if_neg (by omega)]; exact Nat.one_pos)
  exact this
