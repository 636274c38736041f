/-! the reference's tables solve the equations; two solutions are alike -/
theorem inT_0 {ring : Bool} {T : Nat → Nat → Nat → Nat} {c : Nat → Nat → Nat} {num : Nat} (h0 : ring = false → T 0 0 0 = 1) (hs : ring = false → 1 ≤ num → T num 0 0 = 0) : inT ring T c num 0 0 = if num = 0 ∧ ring = false then 1 else 0 := by
  unfold inT
  by_cases z : num = 0
  · rw [if_pos z, sm_s, sm_0, Nat.zero_add]
    cases ring with
    | true => simp
    | false => simp [z, h0 rfl]
  · rw [if_neg z, show (if num = 0 ∧ ring = false then 1 else 0 : Nat) = 0 from if_neg (by omega)]
    cases ring with
    | true =>
      simp only [if_true]
      rw [show rgu c num 0 0 = 0 from sm_zero fun d hd => ?_, Nat.zero_div]
      by_cases w : num % (d + 1) = 0 ∧ 0 % (d + 1) = 0 ∧ 0 % (d + 1) = 0
      · have x := div_back w.1
        have : 0 < num / (d + 1) := Nat.pos_of_ne_zero fun z => by rw [z, Nat.zero_mul] at x; omega
        rw [if_pos w, Nat.zero_div, tr_small _ 0 0 this, Nat.mul_zero]
      · rw [if_neg w]
    | false =>
      simp only [Bool.false_eq_true, if_false]
      exact hs rfl (by omega)
theorem pvT_C {M : Int → Int} {lett : Int} {L : Bool} {Y R : Nat → Nat} {p n k : Nat} (h : WF M) (hp : (p : Int) < M 2) (hn : n ≤ 7) (hk : k ≤ topf L n) (hY : thin L Y) : pvT M lett Y R p n k (topf L n) = pvC L false lett M Y R (kY Y) p n k := by
  have hM2 := h.2.2.1
  have tn : topf L n ≤ n := topf_le
  obtain ⟨h1, h2, h3, h4, h5, h6⟩ := h.2.2.2.1 p hp
  unfold pvT pvC
  by_cases s0 : M (24 + (p : Int)) = 0
  · rw [if_pos s0, if_pos s0]
  rw [if_neg s0, if_neg s0]
  by_cases s1 : M (24 + (p : Int)) = 1
  · rw [if_pos s1, if_pos s1]
  rw [if_neg s1, if_neg s1]
  by_cases s2 : M (24 + (p : Int)) = 2
  · rw [if_pos s2, if_pos s2, kY_pl]
  rw [if_neg s2, if_neg s2]
  by_cases s7 : M (24 + (p : Int)) = 7
  · rw [if_pos s7, if_pos s7]
  rw [if_neg s7, if_neg s7]
  have h6' := h6 (by omega)
  by_cases n0 : n = 0
  · subst n0
    have k0 : k = 0 := by have : topf L 0 = 0 := topf_0; omega
    subst k0
    rw [if_pos rfl, inT_0]
    · by_cases w : M (48 + (p : Int)) = 0 ∧ M (24 + (p : Int)) ≠ 6
      · rw [if_pos w, if_pos ⟨by omega, by simp [w.2]⟩]
      · rw [if_neg w, if_neg]
        rintro ⟨w1, w2⟩
        refine w ⟨by omega, ?_⟩
        intro e; rw [e] at w2; exact absurd w2 (by decide)
    · intro _
      by_cases s3 : M (24 + (p : Int)) = 3
      · rw [if_pos s3]; rfl
      · rw [if_neg s3]; rfl
    · intro _ x
      by_cases s3 : M (24 + (p : Int)) = 3
      · rw [if_pos s3]; exact tr_small _ 0 0 (by omega)
      · rw [if_neg s3]; exact bgS_small 0 _ 0 0 (by omega)
  rw [if_neg n0]
  have cu : ∀ s i, s ≤ n → i ≤ k → Y (pl (M (72 + (p : Int))).toNat s i) = cut L (fun s i => Y (pl (M (72 + (p : Int))).toNat s i)) s i := fun s i a b => by
    unfold cut
    by_cases c : i ≤ topf L s
    · rw [if_pos c]
    · rw [if_neg c]; exact hY _ s i (by omega) (by omega) (by omega) (by omega)
  have e : inT (M (24 + (p : Int)) == 6) (if M (24 + (p : Int)) = 3 then tr (fun s i => Y (pl (M (72 + (p : Int))).toNat s i)) else bgS (M (24 + (p : Int)) == 5) (fun s i => Y (pl (M (72 + (p : Int))).toNat s i)) (fun s => min s (topf L n)) n) (fun s i => Y (pl (M (72 + (p : Int))).toNat s i)) (M (48 + (p : Int))).toNat n k = sqv L false M (fun s i => Y (pl (M (72 + (p : Int))).toNat s i)) p n k := by
    unfold sqv
    simp only [Bool.false_eq_true, if_false]
    refine inT_cg (fun _ j => ?_) (fun s i a b c => cu s i b c)
    by_cases s3 : M (24 + (p : Int)) = 3
    · rw [if_pos s3, if_pos s3]
      exact tr_cg j n k (fun s i a b c => cu s i b c)
    · rw [if_neg s3, if_neg s3, bgS_cg (c' := fun s i => Y (pl (M (72 + (p : Int))).toNat s i)) (lt' := topf L) n (fun t ht => topf_min ht) (fun _ _ _ _ _ => rfl)]
  rw [e]
  by_cases w1 : M (48 + (p : Int)) = 1
  · rw [if_pos w1, sqv_1 ⟨by omega, by omega⟩ w1 (by omega) hk (fun e => by cases e)]
  · rw [if_neg w1]
theorem rs_tlu {L : Bool} {Y R : Nat → Nat} {q : Int} {p n k : Nat} (hp : p < 24) (hq : q = -1 ∨ (0 ≤ q ∧ q < 24)) (hn : n ≤ 7) (hk : k ≤ topf L n) (hY : thin L Y) (hR : thinR L R) : rs Y R q p n k = tlu L false Y R q p n k := by
  have tn : topf L n ≤ n := topf_le
  unfold rs tlu
  by_cases z : q = -1
  · rw [if_pos (by omega), if_pos z]
  · rw [if_neg (by omega), if_neg z]
    refine sm_congr fun s hs => ?_
    have ts : topf L s ≤ s := topf_le
    rw [sm_cut (x := min (topf L s) k + 1) (y := k + 1) (by omega) (fun i h1 h2 => by rw [hY p s i (by omega) (by omega) (by omega) (by omega), Nat.zero_mul]), sm_cut (x := min (topf L s) k + 1) (y := topf L s + 1) (by omega) (fun i h1 h2 => by unfold tm; rw [if_neg (by omega)])]
    refine sm_congr fun i hi => ?_
    unfold tm
    by_cases c : k - i ≤ topf L (n - s)
    · rw [if_pos ⟨by omega, c⟩, show wt false n s = 1 from rfl, Nat.mul_one]
    · rw [if_neg (by omega), hR q.toNat (n - s) (k - i) (by omega) (by omega) (by omega) (by omega), Nat.mul_zero]
theorem sol_P {M : Int → Int} {lett : Int} {L : Bool} {E TE : Nat → Prop} {S : St} (h : WF M) (q : hd50 M lett L E TE 8 S) : sol L false lett M E TE (tb S 90) (tb S 91) := by
  have hM2 := h.2.2.1
  obtain ⟨-, n90, n91, th, thR, sp, -, eqs, kin⟩ := q
  refine ⟨fun p n k hp hn hk => ?_, fun e n k he hn hk => ?_, fun p hp => sp (by omega) p 0 hp (by omega)⟩
  · have e := eqs n p (by omega) hp k hk
    have o := (h.2.2.2.1 p hp).2.1
    refine ⟨?_, ?_⟩
    · rw [e.1, pvT_C h hp hn hk th]; exact ev_min
    · rw [e.2, rs_tlu (by omega) (by omega) hn hk th thR]; exact ev_min
  · rw [kin n e k (by omega) he hk]
    exact ev_min
/-- labelled numbers as those by no letter -/
def up3 (Y : Nat → Nat) (x : Nat) : Nat := if x % 8 = 0 then Y (x / 8) else 0
theorem up3_pl {Y : Nat → Nat} {p n : Nat} : up3 Y (pl p n 0) = Y (p * 8 + n) := by
  unfold up3 pl
  rw [if_pos (by omega), show ((p * 8 + n) * 8 + 0) / 8 = p * 8 + n by omega]
theorem sol_N {M : Int → Int} {E TE : Nat → Prop} {S : St} (h : WF M) (q : hdN M E TE 8 S) : sol false true (-2) M E TE (up3 (tb S 93)) (up3 (tb S 94)) := by
  have hM2 := h.2.2.1
  obtain ⟨-, n93, n94, sp, -, eqs, kin⟩ := q
  refine ⟨fun p n k hp hn hk => ?_, fun e n k he hn hk => ?_, fun p hp => ?_⟩
  · have k0 : k = 0 := by simpa [topf] using hk
    subst k0
    obtain ⟨h1, h2, h3, h4, h5, h6⟩ := h.2.2.2.1 p hp
    have e := eqs n p (by omega) hp
    refine ⟨?_, ?_⟩
    · rw [up3_pl]
      refine e.1.tr ?_
      unfold pvL pvC
      by_cases s0 : M (24 + (p : Int)) = 0
      · have := h3 s0
        rw [if_pos s0, if_pos s0]
        by_cases n1 : n = 1
        · rw [if_pos n1, if_pos n1, if_neg (by omega), if_pos rfl]; exact ev.rf
        · rw [if_neg n1, if_neg n1]; exact ev.rf
      rw [if_neg s0, if_neg s0]
      by_cases s1 : M (24 + (p : Int)) = 1
      · rw [if_pos s1, if_pos s1]; exact ev.rf
      rw [if_neg s1, if_neg s1]
      by_cases s2 : M (24 + (p : Int)) = 2
      · rw [if_pos s2, if_pos s2, kY_pl, up3_pl]; exact ev.rf
      rw [if_neg s2, if_neg s2]
      by_cases s7 : M (24 + (p : Int)) = 7
      · rw [if_pos s7, if_pos s7]
        simp only [up3_pl]
        exact ev.rf
      rw [if_neg s7, if_neg s7]
      have h6' := h6 (by omega)
      by_cases n0 : n = 0
      · subst n0
        rw [if_pos rfl]
        unfold nin
        rw [sm_s, sm_0, Nat.zero_add]
        by_cases w : M (48 + (p : Int)) = 0
        · rw [if_pos (Or.inl w)]
          by_cases w6 : M (24 + (p : Int)) = 6
          · rw [if_neg (by omega), show dv (M (24 + (p : Int))) 0 = 0 by unfold dv; rw [if_neg (by omega), if_pos w6], Nat.div_zero]; exact ev.rf
          · rw [if_pos ⟨w, w6⟩]
            rw [show dv (M (24 + (p : Int))) 0 = 1 by unfold dv; rw [if_neg w6]; split <;> rfl, Nat.div_one]
            exact ev.rf
        · rw [if_neg (by omega), if_neg (by omega)]; exact ev.rf
      rw [if_neg n0]
      have e2 : nin (M (24 + (p : Int))) (M (48 + (p : Int))) (fun s => tb S 93 ((M (72 + (p : Int))).toNat * 8 + s)) n = sqv false true M (fun s i => up3 (tb S 93) (pl (M (72 + (p : Int))).toNat s i)) p n 0 := by
        unfold sqv
        rw [if_pos rfl]
        refine nin_cg (fun s a b => ?_)
        rw [show cut false (fun s i => up3 (tb S 93) (pl (M (72 + (p : Int))).toNat s i)) s 0 = up3 (tb S 93) (pl (M (72 + (p : Int))).toNat s 0) from if_pos (Nat.zero_le _), up3_pl]
      rw [e2]
      by_cases w1 : M (48 + (p : Int)) = 1
      · rw [if_pos w1, sqv_1 ⟨by omega, by omega⟩ w1 (by omega) (Nat.zero_le _) (fun _ => rfl)]; exact ev.rf
      · rw [if_neg w1]; exact ev.rf
    · rw [up3_pl]
      refine e.2.tr ?_
      unfold nr tlu
      by_cases z : M (96 + (p : Int)) = -1
      · rw [if_pos (by omega), if_pos z, up3_pl]; exact ev.rf
      · rw [if_neg (by omega), if_neg z]
        refine sm_ev fun s hs => ?_
        rw [show topf false s + 1 = 1 from rfl, sm_s, sm_0, Nat.zero_add]
        unfold tm
        rw [if_pos (by omega), Nat.sub_zero]
        dsimp only
        rw [up3_pl, up3_pl, show wt true n s = cho n s from rfl]
        rw [Nat.mul_comm (tb S 93 (p * 8 + s)) (cho n s), Nat.mul_assoc]
        exact ev.rf
  · have k0 : k = 0 := by simpa [topf] using hk
    subst k0
    rw [up3_pl, kin n e (by omega) he]
    unfold kvL
    simp only [up3_pl]
    exact ev_min
  · have := sp (by omega) p hp
    rw [up3_pl, up3_pl, Nat.add_zero]
    exact this
/-- two solutions are alike -/
theorem sol_uniq {L lab : Bool} {m : Int} {M : Int → Int} {E TE KE : Nat → Prop} {rO rT rK : Nat → Nat} {Y R Y' R' : Nat → Nat} (h : WF M) (hO : Ord M E TE KE rO rT rK) (s1 : sol L lab m M E TE Y R) (s2 : sol L lab m M E TE Y' R') : ∀ n, n ≤ 7 → (∀ p k : Nat, (p : Int) < M 2 → k ≤ topf L n → ev (Y (pl p n k)) (Y' (pl p n k)) ∧ ev (R (pl p n k)) (R' (pl p n k))) ∧ (∀ e k : Nat, (e : Int) < M 0 → k ≤ topf L n → ev (Y (pl (24 + e) n k)) (Y' (pl (24 + e) n k))) := by
  intro n
  induction n using Nat.strongRecOn with
  | ind n ih =>
    intro hn
    have key : ∀ N : Nat, (∀ p k : Nat, (p : Int) < M 2 → k ≤ topf L n → (rO p < N → ev (Y (pl p n k)) (Y' (pl p n k))) ∧ (rT p < N → ev (R (pl p n k)) (R' (pl p n k)))) ∧ (∀ e k : Nat, (e : Int) < M 0 → k ≤ topf L n → rK e < N → ev (Y (pl (24 + e) n k)) (Y' (pl (24 + e) n k))) := by
      intro N
      induction N with
      | zero => exact ⟨fun p k _ _ => ⟨fun x => by omega, fun x => by omega⟩, fun e k _ _ x => by omega⟩
      | succ N jh =>
        refine ⟨fun p k hp hk => ⟨fun hr => ?_, fun hr => ?_⟩, fun e k he hk hr => ?_⟩
        · refine (((s1.1 p n k hp hn hk).1).tr ?_).tr ((s2.1 p n k hp hn hk).1).sm
          exact pvC_ev (rO := rO) (rT := rT) (rK := rK) h hO hp hn hk (fun q s i a b c => ((ih s b (by omega)).1 q i a c).1) (fun q i a b c => (jh.1 q i a c).1 (by omega)) (fun q i a b c => (jh.1 q i a c).2 (by omega)) (fun e i a b c => by rw [kY_pl, kY_pl]; exact jh.2 e i a c (by omega))
        · refine (((s1.1 p n k hp hn hk).2).tr ?_).tr ((s2.1 p n k hp hn hk).2).sm
          exact tlu_ev (rO := rO) (rT := rT) (rK := rK) h hO hp hn hk s1.2.2 s2.2.2 (fun q s i a b c => (ih s b (by omega)).1 q i a c) (fun q i a b c => (jh.1 q i a c).1 (by omega)) (fun q i a b c => (jh.1 q i a c).2 (by omega))
        · have hE := h.2.2.2.2.1 e he
          refine ((s1.2.1 e n k he hn hk).tr ?_).tr (s2.2.1 e n k he hn hk).sm
          refine xs_ev (by omega) hE (fun t ht => ?_)
          have q4 := hE.2.1 t ht
          have := hO.2.2.2 e he t ht
          exact (jh.1 _ k (by omega) hk).2 (by omega)
    exact ⟨fun p k hp hk => ⟨((key (rO p + 1)).1 p k hp hk).1 (by omega), ((key (rT p + 1)).1 p k hp hk).2 (by omega)⟩, fun e k he hk => (key (rK e + 1)).2 e k he hk (by omega)⟩
