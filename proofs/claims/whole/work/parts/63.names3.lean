/-! the reference: labelled, while(more), all sizes -/
theorem supL_of {M : Int → Int} {E TE KE : Nat → Prop} {rO rT rK : Nat → Nat} {Y R : Nat → Nat} (h : WF M) (hO : Ord M E TE KE rO rT rK) (e1 : ∀ p : Nat, (p : Int) < M 2 → eqL M 0 Y R p) (hK : ∀ e : Nat, (e : Int) < M 0 → Y ((24 + e) * 8) ≠ 0 → KE e) : supL M E TE Y R := by
  have hM2 := h.2.2.1
  have key : ∀ d p : Nat, (p : Int) + d = M 2 → 1 ≤ d → (Y (p * 8) ≠ 0 → E p) ∧ (R (p * 8) ≠ 0 → TE p) := by
    intro d
    induction d using Nat.strongRecOn with
    | ind d ih =>
      intro p hpd hd
      have hp : (p : Int) < M 2 := by omega
      have later : ∀ q : Nat, p < q → (q : Int) < M 2 → (Y (q * 8) ≠ 0 → E q) ∧ (R (q * 8) ≠ 0 → TE q) := fun q a b => ih (M 2 - q).toNat (by omega) q (by omega) (by omega)
      obtain ⟨h1, h2, h3, h4, h5, h6⟩ := h.2.2.2.1 p hp
      obtain ⟨c1, c2, c3, c4, c5, c6⟩ := hO.1 p hp
      have e := e1 p hp
      have own : Y (p * 8) ≠ 0 → E p := by
        intro hne
        have hne : pvL M Y R p 0 ≠ 0 := fun z => hne ((ev_zero e.1).mpr z)
        unfold pvL at hne
        by_cases s0 : M (24 + (p : Int)) = 0
        · rw [if_pos s0, if_neg (by omega)] at hne; exact absurd rfl hne
        rw [if_neg s0] at hne
        by_cases s1 : M (24 + (p : Int)) = 1
        · exact c1 s1
        rw [if_neg s1] at hne
        by_cases s2 : M (24 + (p : Int)) = 2
        · have := h4 s2
          rw [if_pos s2] at hne
          exact c2 s2 (hK _ (by omega) hne)
        rw [if_neg s2] at hne
        by_cases s7 : M (24 + (p : Int)) = 7
        · obtain ⟨q1, q2, q3⟩ := h5 s7
          rw [if_pos s7] at hne
          obtain ⟨t, t1, t2⟩ := sm_pos (Nat.pos_of_ne_zero hne)
          have q4 := q3.2.1 t (by omega)
          refine c3 s7 t (by omega) ((later _ (by omega) (by omega)).2 ?_)
          cases ho : offM M (6 + p) t with
          | true => rw [ho] at t2; simp at t2
          | false => rw [ho] at t2; simp at t2; omega
        rw [if_neg s7] at hne
        have h6' := h6 (by omega)
        unfold nin at hne
        rw [sm_s, sm_0, Nat.zero_add] at hne
        by_cases nz : M (48 + (p : Int)) = 0
        · refine c4 ⟨by omega, ?_, by omega⟩
          by_cases s6 : M (24 + (p : Int)) = 6
          · rw [show dv (M (24 + (p : Int))) 0 = 0 by unfold dv; rw [if_neg (by omega), if_pos s6], Nat.div_zero] at hne
            simp at hne
          · omega
        · rw [if_neg (by omega)] at hne; exact absurd rfl hne
      refine ⟨own, fun hne => ?_⟩
      have hne : nr Y R (M (96 + (p : Int))) p 0 ≠ 0 := fun z => hne ((ev_zero e.2).mpr z)
      unfold nr at hne
      by_cases z : M (96 + (p : Int)) < 0
      · rw [if_pos z] at hne
        exact c5 (own hne) (by omega)
      · rw [if_neg z, sm_s, sm_0, Nat.zero_add] at hne
        have a1 : Y (p * 8) ≠ 0 := fun w => hne (by rw [Nat.add_zero, w, Nat.zero_mul, Nat.mul_zero])
        have a2 : R ((M (96 + (p : Int))).toNat * 8) ≠ 0 := fun w => hne (by rw [Nat.sub_self, Nat.add_zero, Nat.add_zero, w, Nat.mul_zero, Nat.mul_zero])
        exact c6 (own a1) (by omega) ((later _ (by omega) (by omega)).2 a2)
  intro p hp
  exact key (M 2 - p).toNat p (by omega) (by omega)
def agBL (n N : Nat) (Y B : Nat → Nat) : Prop := ∀ q s : Nat, q < N → s ≤ 7 → s ≠ n → Y (q * 8 + s) = B (q * 8 + s)
def doneL (M : Int → Int) (n : Nat) (E TE : Nat → Prop) (BY BR Y R : Nat → Nat) : Prop := supL M E TE Y R ∧ agBL n 30 Y BY ∧ agBL n 24 R BR ∧ (∀ p : Nat, (p : Int) < M 2 → eqL M n Y R p) ∧ ∀ e : Nat, (e : Int) < M 0 → Y ((24 + e) * 8 + n) = kvL M R n e
theorem supL_ag {M : Int → Int} {E TE : Nat → Prop} {n : Nat} {Y R BY BR : Nat → Nat} (h : WF M) (hn : n ≠ 0) (s : supL M E TE BY BR) (a : agBL n 30 Y BY) (b : agBL n 24 R BR) : supL M E TE Y R := by
  have hM2 := h.2.2.1
  intro p hp
  have x := a p 0 (by omega) (by omega) (Ne.symm hn)
  have y := b p 0 (by omega) (by omega) (Ne.symm hn)
  rw [Nat.add_zero] at x y
  rw [x, y]
  exact s p hp
def hdL (M : Int → Int) (n : Nat) (E TE KE : Nat → Prop) (rK : Nat → Nat) (BY BR : Nat → Nat) (i : Nat) (S : St) : Prop := S 84 = M ∧ nb S 93 240 1000000000000 ∧ nb S 94 192 1000000000000 ∧ agBL n 30 (tb S 93) BY ∧ agBL n 24 (tb S 94) BR ∧ (n = 0 → ∀ e : Nat, (e : Int) < M 0 → tb S 93 ((24 + e) * 8) ≠ 0 → KE e) ∧ (i = 0 ∨ ∃ Yp Rp : Nat → Nat, (∀ p : Nat, (p : Int) < M 2 → eqL M n Yp Rp p) ∧ supL M E TE Yp Rp ∧ agBL n 30 Yp BY ∧ agBL n 24 Rp BR ∧ (∀ e : Nat, (e : Int) < M 0 → tb S 93 ((24 + e) * 8 + n) = kvL M Rp n e) ∧ (∀ e : Nat, (e : Int) < M 0 → kap M rK e + 1 < i → Yp ((24 + e) * 8 + n) = tb S 93 ((24 + e) * 8 + n)))
theorem passL {M : Int → Int} {n i : Nat} {E TE KE : Nat → Prop} {rO rT rK : Nat → Nat} {BY BR : Nat → Nat} {S : St} {F : Int → St → Option St} {Q : St → Prop} (h : WF M) (hO : Ord M E TE KE rO rT rK) (hn : n ≤ 7) (hB : n ≠ 0 → supL M E TE BY BR) (hS : hdL M n E TE KE rK BY BR i S) (hQ : ∀ (y : Int) (S2 : St), kept [93, 94, 95] [] S S2 → (y = 0 ∨ y = 1) → (y = 0 → nb S2 93 240 1000000000000 ∧ nb S2 94 192 1000000000000 ∧ doneL M n E TE BY BR (tb S2 93) (tb S2 94)) → (y = 1 → i < 6 ∧ hdL M n E TE KE rK BY BR (i + 1) S2) → wp (F y S2) Q) : wp (bd1 (mX12_names_73 (n : Int) FU (M 2 - 1) S) fun S_37 => bd2 (mX12_names_108 (n : Int) FU 0 0 S_37) F) Q := by
  have hM2 := h.2.2.1
  have hM0 := h.1
  obtain ⟨h84, n90, n91, aY, aR, hK, hp⟩ := hS
  rw [wp_bd1]
  refine wp_mono (nm73 (M := M) (n := n) (Y0 := tb S 93) (R0 := tb S 94) h hn (M 2).toNat FU S (M 2 - 1) (by omega) (by omega) (by unfold FU; omega) h84 n90 n91 ⟨fun q a b => by omega, fun j _ _ => rfl, fun j _ _ => rfl⟩) (fun S1 q => ?_)
  obtain ⟨m90, m91, ps, k1⟩ := q
  have e84 : S1 84 = M := (k1.cell 84 (by decide) (by decide)).trans h84
  have eqs : ∀ p : Nat, (p : Int) < M 2 → eqL M n (tb S1 93) (tb S1 94) p := fun p a => ps.1 p (Nat.zero_le _) a
  have ag1 : agBL n 30 (tb S1 93) BY := fun q s a b c => by
    rw [ps.2.1 _ (by omega) (fun q' _ _ => by omega)]; exact aY q s a b c
  have agR1 : agBL n 24 (tb S1 94) BR := fun q s a b c => by
    rw [ps.2.2 _ (by omega) (fun q' _ _ => by omega)]; exact aR q s a b c
  have kin : ∀ e s : Nat, (e : Int) < M 0 → s ≤ 7 → tb S1 93 ((24 + e) * 8 + s) = tb S 93 ((24 + e) * 8 + s) := fun e s a b => ps.2.1 _ (by omega) (fun q' _ c => by omega)
  have sp : supL M E TE (tb S1 93) (tb S1 94) := by
    by_cases z : n = 0
    · subst z
      refine supL_of h hO eqs (fun e a b => hK rfl e a ?_)
      have := kin e 0 a (by omega)
      rw [Nat.add_zero] at this
      rw [← this]; exact b
    · exact supL_ag h z (hB z) ag1 agR1
  have agree : ∀ e : Nat, (e : Int) < M 0 → kap M rK e < i → kvL M (tb S1 94) n e = tb S1 93 ((24 + e) * 8 + n) := by
    intro e he hka
    rcases hp with z | ⟨Yp, Rp, p1, p2, p3, p4, p5, p6⟩
    · omega
    · rw [kin e n he hn, p5 e he]
      have hE := h.2.2.2.2.1 e he
      unfold kvL
      refine xs_ev (by omega) hE (fun t ht => ?_)
      have q4 := hE.2.1 t ht
      have r := hO.2.2.2 e he t ht
      refine ((depL h hn hO p2 sp p1 eqs (fun p s a b => ?_) (rT (fpM M e t).toNat + 1) (fpM M e t).toNat (by omega)).2 (by omega) (fun f hf hr => ?_)).sm
      · rw [p3 p s (by omega) (by omega) (by omega), p4 p s (by omega) (by omega) (by omega), ag1 p s (by omega) (by omega) (by omega), agR1 p s (by omega) (by omega) (by omega)]
        exact ⟨rfl, rfl⟩
      · have := kap_lt (M := M) hM0.2 hf (show rK f < rK e by omega)
        rw [p6 f hf (by omega), kin f n hf hn]
        exact ev.rf
  rw [wp_bd2]
  refine wp_mono (nm108 (M := M) (n := n) (Y := tb S1 93) (R := tb S1 94) h hn (fun j hj => (m90.at hj).2) (M 0).toNat 0 FU S1 0 (by omega) (by unfold FU; omega) e84 m91 rfl (Or.inl rfl) (fun j hj => by rw [if_neg (by rintro ⟨e', a, b⟩; omega)]; exact (m90.at hj).1)) (fun o q => ?_)
  obtain ⟨y, S2⟩ := o
  obtain ⟨q1, q2, q3, k2⟩ := q
  dsimp only at q1 q2 q3 k2 ⊢
  have g91 : S2 94 = S1 94 := k2.cell 94 (by decide) (by decide)
  have t91 : tb S2 94 = tb S1 94 := by funext j; unfold tb; rw [g91]
  have v90 : ∀ j, j < 240 → tb S2 93 j = if ∃ e' : Nat, e' < (M 0).toNat ∧ j = (24 + e') * 8 + n then kvL M (tb S1 94) n (j / 8 - 24) else tb S1 93 j := fun j hj => by
    show (S2 93 (j : Int)).toNat = _
    rw [q3 j hj]; rfl
  have r90 : nb S2 93 240 1000000000000 := fun j hj => by
    refine ⟨_, q3 j hj, ?_⟩
    split
    · exact kvL_le
    · exact (m90.at hj).2
  have r91 : nb S2 94 192 1000000000000 := fun j hj => by rw [g91]; exact m91 j hj
  have ag2 : agBL n 30 (tb S2 93) BY := fun q s a b c => by
    rw [v90 _ (by omega), if_neg (by rintro ⟨e', w1, w2⟩; omega)]
    exact ag1 q s a b c
  have kin2 : ∀ e : Nat, (e : Int) < M 0 → tb S2 93 ((24 + e) * 8 + n) = kvL M (tb S1 94) n e := fun e a => by
    rw [v90 _ (by omega), if_pos ⟨e, by omega, rfl⟩, show ((24 + e) * 8 + n) / 8 - 24 = e by omega]
  refine hQ y S2 (kept.trans k1 (k2.mono (by decide) (by decide))) q1 (fun y0 => ⟨r90, r91, ?_⟩) (fun y1 => ?_)
  · have same := (q2.mp y0).2
    have all : ∀ j, j < 240 → tb S1 93 j = tb S2 93 j := fun j hj => by
      rw [v90 j hj]
      by_cases w : ∃ e' : Nat, e' < (M 0).toNat ∧ j = (24 + e') * 8 + n
      · rw [if_pos w]
        obtain ⟨e', w1, w2⟩ := w
        rw [w2, show ((24 + e') * 8 + n) / 8 - 24 = e' by omega, same e' (Nat.zero_le _) (by omega)]
      · rw [if_neg w]
    refine ⟨fun p a => ?_, ag2, by rw [t91]; exact agR1, fun p a => ?_, fun e a => by rw [t91]; exact kin2 e a⟩
    · rw [← all _ (by omega), t91]
      exact sp p a
    · have hq := (h.2.2.2.1 p a).2.1
      have x := eqs p a
      refine ⟨?_, ?_⟩
      · rw [← all _ (by omega), t91, ← pvL_cg h a hn (fun q s w1 w2 w3 => all _ (by omega)) (fun q s w1 w2 w3 => rfl)]
        exact x.1
      · rw [t91, ← nr_cg (by omega) (by omega) hn (fun s w => all _ (by omega)) (fun q s w1 w2 w3 => rfl)]
        exact x.2
  · refine ⟨Nat.lt_of_not_le fun w => ?_, (k2.cell 84 (by decide) (by decide)).trans e84, r90, r91, ag2, by rw [t91]; exact agR1, fun z e a b => ?_, Or.inr ⟨tb S1 93, tb S1 94, eqs, sp, ag1, agR1, kin2, fun e a c => ?_⟩⟩
    · have : y = 0 := q2.mpr ⟨rfl, fun e' _ a => agree e' a (Nat.lt_of_lt_of_le (kap_le hM0.2 a) w)⟩
      omega
    · subst z
      have x := kin2 e a
      rw [Nat.add_zero] at x
      rw [x] at b
      have b : xs M (fun q => tb S1 94 (q * 8 + 0)) e ≠ 0 := fun z => b (by unfold kvL; rw [z, Nat.min_zero])
      obtain ⟨t, t1, t2⟩ := sm_pos (Nat.pos_of_ne_zero b)
      have hE := h.2.2.2.2.1 e a
      have q4 := hE.2.1 t (by omega)
      refine hO.2.1 e a t (by omega) ((sp (fpM M e t).toNat (by omega)).2 ?_)
      cases ho : offM M e t with
      | true => rw [ho] at t2; simp at t2
      | false => rw [ho] at t2; simp at t2; omega
    · rw [kin2 e a, agree e a (by omega)]
theorem w58L {M : Int → Int} {n : Nat} {E TE KE : Nat → Prop} {rO rT rK : Nat → Nat} {BY BR : Nat → Nat} (h : WF M) (hO : Ord M E TE KE rO rT rK) (hn : n ≤ 7) (hB : n ≠ 0 → supL M E TE BY BR) : ∀ (d i f : Nat) (S : St), i + d = 7 → d + 1 < f → hdL M n E TE KE rK BY BR i S → wp (mX12_names_58 (n : Int) f 1 S) (fun S' => nb S' 93 240 1000000000000 ∧ nb S' 94 192 1000000000000 ∧ kept [93, 94, 95] [] S S' ∧ doneL M n E TE BY BR (tb S' 93) (tb S' 94)) := by
  intro d
  induction d with
  | zero =>
    intro i f S hi hf hS
    obtain ⟨g, rfl⟩ : ∃ g, f = g + 1 := ⟨f - 1, by omega⟩
    rw [mX12_names_58, gd_t (by decide), if_neg (by decide), nx_e, hS.1]
    refine passL h hO hn hB hS (fun y S2 k1 y1 a b => ?_)
    rcases y1 with rfl | rfl
    · obtain ⟨g', rfl⟩ : ∃ g', g = g' + 1 := ⟨g - 1, by omega⟩
      rw [mX12_names_58, gd_t (by decide), if_pos rfl, wp_some]
      exact ⟨(a rfl).1, (a rfl).2.1, k1, (a rfl).2.2⟩
    · have := (b rfl).1; omega
  | succ d ih =>
    intro i f S hi hf hS
    obtain ⟨g, rfl⟩ : ∃ g, f = g + 1 := ⟨f - 1, by omega⟩
    rw [mX12_names_58, gd_t (by decide), if_neg (by decide), nx_e, hS.1]
    refine passL h hO hn hB hS (fun y S2 k1 y1 a b => ?_)
    rcases y1 with rfl | rfl
    · obtain ⟨g', rfl⟩ : ∃ g', g = g' + 1 := ⟨g - 1, by omega⟩
      rw [mX12_names_58, gd_t (by decide), if_pos rfl, wp_some]
      exact ⟨(a rfl).1, (a rfl).2.1, k1, (a rfl).2.2⟩
    · refine wp_mono (ih (i + 1) g S2 (by omega) (by omega) (b rfl).2) (fun S' q => ⟨q.1, q.2.1, kept.trans k1 q.2.2.1, q.2.2.2⟩)
def hdN (M : Int → Int) (E TE : Nat → Prop) (n : Nat) (S : St) : Prop := S 84 = M ∧ nb S 93 240 1000000000000 ∧ nb S 94 192 1000000000000 ∧ (n ≠ 0 → supL M E TE (tb S 93) (tb S 94)) ∧ (∀ q s : Nat, q < 30 → n ≤ s → s ≤ 7 → tb S 93 (q * 8 + s) = 0) ∧ (∀ s p : Nat, s < n → (p : Int) < M 2 → eqL M s (tb S 93) (tb S 94) p) ∧ (∀ s e : Nat, s < n → (e : Int) < M 0 → tb S 93 ((24 + e) * 8 + s) = kvL M (tb S 94) s e)
theorem w50L {M : Int → Int} {E TE KE : Nat → Prop} {rO rT rK : Nat → Nat} (h : WF M) (hO : Ord M E TE KE rO rT rK) : ∀ (d n f : Nat) (S : St), n + d = 8 → d < f → hdN M E TE n S → wp (mX12_names_50 f (n : Int) S) (fun S' => hdN M E TE 8 S' ∧ kept [93, 94, 95] [] S S') := by
  have hM0 := h.1
  have hM2 := h.2.2.1
  intro d
  induction d with
  | zero =>
    intro n f S hi hf hS
    obtain ⟨g, rfl⟩ : ∃ g, f = g + 1 := ⟨f - 1, by omega⟩
    rw [mX12_names_50, gd_t (by omega), if_pos (by omega), wp_some]
    rw [show n = 8 by omega] at hS
    exact ⟨hS, fun _ _ _ _ => rfl⟩
  | succ d ih =>
    intro n f S hi hf hS
    obtain ⟨g, rfl⟩ : ∃ g, f = g + 1 := ⟨f - 1, by omega⟩
    rw [mX12_names_50, gd_t (by omega), if_neg (by omega), wp_bd1]
    obtain ⟨h84, n90, n91, sp, zz, eqs, kin⟩ := hS
    refine wp_mono (w58L (BY := tb S 93) (BR := tb S 94) h hO (by omega) sp 7 0 FU S (by omega) (by unfold FU; omega) ⟨h84, n90, n91, fun _ _ _ _ _ => rfl, fun _ _ _ _ _ => rfl, fun z e a b => ?_, Or.inl rfl⟩) (fun S1 q => ?_)
    · subst z
      exact absurd (zz (24 + e) 0 (by omega) (by omega) (by omega)) b
    · obtain ⟨m90, m91, k1, d1, d4, d5, d6, d7⟩ := q
      have := ih (n + 1) g S1 (by omega) (by omega) ⟨(k1.cell 84 (by decide) (by decide)).trans h84, m90, m91, fun _ => d1, fun q s a b c => by rw [d4 q s a c (by omega)]; exact zz q s a (by omega) c, fun s p a b => ?_, fun s e a b => ?_⟩
      · rw [show ((n + 1 : Nat) : Int) = (n : Int) + 1 by omega] at this
        exact wp_mono this (fun S' q => ⟨q.1, kept.trans k1 q.2⟩)
      · by_cases x : s = n
        · subst x; exact d6 p b
        · have hq := (h.2.2.2.1 p b).2.1
          have x := eqs s p (by omega) b
          refine ⟨?_, ?_⟩
          · rw [d4 p s (by omega) (by omega) (by omega), pvL_cg (Y' := tb S 93) (R' := tb S 94) h b (by omega) (fun q t w1 w2 w3 => d4 q t w2 (by omega) (by omega)) (fun q t w1 w2 w3 => d5 q t w2 (by omega) (by omega))]
            exact x.1
          · rw [d5 p s (by omega) (by omega) (by omega), nr_cg (Y' := tb S 93) (R' := tb S 94) (by omega) (by omega) (by omega) (fun t w => d4 p t (by omega) (by omega) (by omega)) (fun q t w1 w2 w3 => d5 q t w2 (by omega) (by omega))]
            exact x.2
      · by_cases x : s = n
        · subst x; exact d7 e b
        · have hE := h.2.2.2.2.1 e b
          rw [d4 (24 + e) s (by omega) (by omega) (by omega), kin s e (by omega) b]
          unfold kvL xs
          congr 1
          refine sm_congr fun t ht => ?_
          have q4 := hE.2.1 t (by omega)
          cases offM M e t with
          | true => rfl
          | false =>
            simp only [Bool.false_eq_true, if_false]
            exact (d5 _ s (by omega) (by omega) (by omega)).symm
/-- names: the tables satisfy the equations at every size -/
theorem w_names {M : Int → Int} {E TE KE : Nat → Prop} {rO rT rK : Nat → Nat} {S : St} (h : WF M) (hO : Ord M E TE KE rO rT rK) (h84 : S 84 = M) : wp (mX12_names S) (fun S' => hdN M E TE 8 S' ∧ kept [93, 94, 95] [] S S') := by
  unfold mX12_names
  rw [wp_bd1]
  refine wp_mono (z93 240 0 FU S (by omega) (by unfold FU; omega) (fun j hj => by omega)) (fun S1 q1 => ?_)
  rw [wp_bd1]
  refine wp_mono (z94 192 0 FU S1 (by omega) (by unfold FU; omega) (fun j hj => by omega)) (fun S2 q2 => ?_)
  rw [wp_bd1]
  have k2 : kept [93, 94, 95] [] S S2 := kept.trans (q1.2.mono (by decide) (by decide)) (q2.2.mono (by decide) (by decide))
  have c90 : S2 93 = S1 93 := q2.2.cell 93 (by decide) (by decide)
  have z0 : ∀ j : Nat, j < 240 → tb S2 93 j = 0 := fun j hj => by unfold tb; rw [c90, q1.1 j hj]; rfl
  refine wp_mono (w50L h hO 8 0 FU S2 (by omega) (by unfold FU; omega) ⟨(k2.cell 84 (by decide) (by decide)).trans h84, fun j hj => ⟨0, by rw [c90, q1.1 j hj]; rfl, by omega⟩, fun j hj => ⟨0, by rw [q2.1 j hj]; rfl, by omega⟩, fun e => absurd rfl e, fun q s a b c => z0 _ (by omega), fun s p a => by omega, fun s e a => by omega⟩) (fun S3 q3 => ?_)
  rw [wp_some]
  exact ⟨q3.1, kept.trans k2 q3.2⟩
