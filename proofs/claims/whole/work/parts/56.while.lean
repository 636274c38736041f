/-! the reference: while(more) -/
theorem eqP_cg {M : Int → Int} {lett : Int} {L : Bool} {n p : Nat} {Y Y' R R' : Nat → Nat} (h : WF M) (hp : (p : Int) < M 2) (hn : n ≤ 7) (hY : ∀ j, j < 1920 → Y j = Y' j) (hR : ∀ j, j < 1536 → R j = R' j) (e : eqP M lett L n Y R p) : eqP M lett L n Y' R' p := by
  have hM2 := h.2.2.1
  have ht : topf L n ≤ 7 := Nat.le_trans topf_le hn
  have hq := (h.2.2.2.1 p hp).2.1
  have aY : alk 30 p Y Y' := fun q s i a b c d => hY _ (pl_lt2 b c d (by decide))
  have aR : alk 24 p R R' := fun q s i a b c d => hR _ (pl_lt2 b c d (by decide))
  intro k hk
  obtain ⟨e1, e2⟩ := e k hk
  refine ⟨?_, ?_⟩
  · rw [← hY _ (pl_lt2 (N := 30) (by omega) hn (by omega) (by decide)), e1, pvT_cg h hp hn (by omega) ht aY aR]
  · rw [← hR _ (pl_lt2 (N := 24) (by omega) hn (by omega) (by decide)), e2, rs_cg (by omega) (by omega) hn (by omega) (fun s i a b => hY _ (pl_lt2 (N := 30) (by omega) (by omega) (by omega) (by decide))) aR]
/-- alike at all sizes but one -/
def agB (n N : Nat) (Y B : Nat → Nat) : Prop := ∀ q s i : Nat, q < N → s ≤ 7 → s ≠ n → i ≤ 7 → Y (pl q s i) = B (pl q s i)
/-- what the passes at a size come to -/
def done (M : Int → Int) (lett : Int) (L : Bool) (n : Nat) (E TE : Nat → Prop) (BY BR Y R : Nat → Nat) : Prop := sup M E TE Y R ∧ thin L Y ∧ thinR L R ∧ agB n 30 Y BY ∧ agB n 24 R BR ∧ (∀ p : Nat, (p : Int) < M 2 → eqP M lett L n Y R p) ∧ ∀ e k : Nat, (e : Int) < M 0 → k ≤ topf L n → Y (pl (24 + e) n k) = kv M R n e k
theorem sup_ag {M : Int → Int} {E TE : Nat → Prop} {n : Nat} {Y R BY BR : Nat → Nat} (h : WF M) (hn : n ≠ 0) (s : sup M E TE BY BR) (a : agB n 30 Y BY) (b : agB n 24 R BR) : sup M E TE Y R := by
  have hM2 := h.2.2.1
  intro p i hp hi
  rw [a p 0 i (by omega) (by omega) (Ne.symm hn) hi, b p 0 i (by omega) (by omega) (Ne.symm hn) hi]
  exact s p i hp hi
/-- the state at the head of the loop, before the pass i -/
def hd58 (M : Int → Int) (lett : Int) (L : Bool) (n : Nat) (E TE KE : Nat → Prop) (rK : Nat → Nat) (BY BR : Nat → Nat) (i : Nat) (S : St) : Prop := S 84 = M ∧ nb S 90 1920 1000000000000 ∧ nb S 91 1536 1000000000000 ∧ thin L (tb S 90) ∧ thinR L (tb S 91) ∧ agB n 30 (tb S 90) BY ∧ agB n 24 (tb S 91) BR ∧ (n = 0 → ∀ e : Nat, (e : Int) < M 0 → tb S 90 (pl (24 + e) 0 0) ≠ 0 → KE e) ∧ (i = 0 ∨ ∃ Yp Rp : Nat → Nat, (∀ p : Nat, (p : Int) < M 2 → eqP M lett L n Yp Rp p) ∧ sup M E TE Yp Rp ∧ agB n 30 Yp BY ∧ agB n 24 Rp BR ∧ (∀ e k : Nat, (e : Int) < M 0 → k ≤ topf L n → tb S 90 (pl (24 + e) n k) = kv M Rp n e k) ∧ (∀ e k : Nat, (e : Int) < M 0 → k ≤ topf L n → kap M rK e + 1 < i → Yp (pl (24 + e) n k) = tb S 90 (pl (24 + e) n k)))
theorem pass58 {M : Int → Int} {lett : Int} {L : Bool} {n i : Nat} {E TE KE : Nat → Prop} {rO rT rK : Nat → Nat} {BY BR : Nat → Nat} {S : St} {F : Int → St → Option St} {Q : St → Prop} (h : WF M) (hO : Ord M E TE KE rO rT rK) (hn : n ≤ 7) (hl : inI lett) (hB : n ≠ 0 → sup M E TE BY BR) (hS : hd58 M lett L n E TE KE rK BY BR i S) (hQ : ∀ (y : Int) (S2 : St), kept [90, 91, 92] [] S S2 → (y = 0 ∨ y = 1) → (y = 0 → nb S2 90 1920 1000000000000 ∧ nb S2 91 1536 1000000000000 ∧ done M lett L n E TE BY BR (tb S2 90) (tb S2 91)) → (y = 1 → i < 6 ∧ hd58 M lett L n E TE KE rK BY BR (i + 1) S2) → wp (F y S2) Q) : wp (bd1 (mX12_counts_85 ((topf L n : Nat) : Int) (n : Int) lett FU (M 2 - 1) S) fun S_37 => bd2 (mX12_counts_118 ((topf L n : Nat) : Int) (n : Int) lett FU 0 0 S_37) F) Q := by
  have hM2 := h.2.2.1
  have hM0 := h.1
  have ht : topf L n ≤ 7 := Nat.le_trans topf_le hn
  obtain ⟨h84, n90, n91, hth, hthR, aY, aR, hK, hp⟩ := hS
  have k85 := fr_mX12_counts_85 ((topf L n : Nat) : Int) (n : Int) lett FU (M 2 - 1) S
  rw [wp_bd1]
  refine wp_mono (wp_all (Q := fun S' => kept [90, 91, 92] [] S S') (ct85 (M := M) (lett := lett) (L := L) (n := n) (Y0 := tb S 90) (R0 := tb S 91) h hn hl hth (M 2).toNat FU S (M 2 - 1) (by omega) (by omega) (by unfold FU; omega) h84 n90 n91 ⟨fun q a b => by omega, fun j _ _ => rfl, fun j _ _ => rfl⟩) k85) (fun S1 q => ?_)
  obtain ⟨⟨m90, m91, ps⟩, k1⟩ := q
  have e84 : S1 84 = M := (k1.cell 84 (by decide) (by decide)).trans h84
  have th1 := pst_thin hn hth ps
  have thR1 := pst_thinR hn hthR ps
  have eqs : ∀ p : Nat, (p : Int) < M 2 → eqP M lett L n (tb S1 90) (tb S1 91) p := fun p a => ps.1 p (Nat.zero_le _) a
  have off : ∀ q s i q' k' : Nat, s ≠ n → s ≤ 7 → i ≤ 7 → k' ≤ topf L n → pl q s i ≠ pl q' n k' := fun q s i q' k' a b c d e => a (pl_inj e (by omega) (by omega) (by omega) (by omega)).2.1
  have ag1 : agB n 30 (tb S1 90) BY := fun q s i a b c d => by
    rw [ps.2.1 _ (pl_lt2 a b d (by decide)) (fun q' k' _ _ x => off q s i q' k' c b d x)]; exact aY q s i a b c d
  have agR1 : agB n 24 (tb S1 91) BR := fun q s i a b c d => by
    rw [ps.2.2 _ (pl_lt2 a b d (by decide)) (fun q' k' _ _ x => off q s i q' k' c b d x)]; exact aR q s i a b c d
  have kin : ∀ e k : Nat, (e : Int) < M 0 → k ≤ topf L n → tb S1 90 (pl (24 + e) n k) = tb S 90 (pl (24 + e) n k) := fun e k a b => ps.2.1 _ (pl_lt2 (N := 30) (by omega) hn (by omega) (by decide)) (fun q' k' _ c d x => by
    have := (pl_inj x (by omega) (by omega) (by omega) (by omega)).1
    omega)
  have sp : sup M E TE (tb S1 90) (tb S1 91) := by
    by_cases z : n = 0
    · subst z
      exact sup_of h hO th1 thR1 eqs (fun e a b => hK rfl e a (by rw [← kin e 0 a (Nat.zero_le _)]; exact b))
    · exact sup_ag h z (hB z) ag1 agR1
  have agree : ∀ e k : Nat, (e : Int) < M 0 → k ≤ topf L n → kap M rK e < i → kv M (tb S1 91) n e k = tb S1 90 (pl (24 + e) n k) := by
    intro e k he hk hka
    rcases hp with z | ⟨Yp, Rp, p1, p2, p3, p4, p5, p6⟩
    · omega
    · rw [kin e k he hk, p5 e k he hk]
      unfold kv xs
      congr 1
      have hE := h.2.2.2.2.1 e he
      refine sm_congr fun t htt => ?_
      have q4 := hE.2.1 t (by omega)
      cases offM M e t with
      | true => rfl
      | false =>
        simp only [Bool.false_eq_true, if_false]
        have r := hO.2.2.2 e he t (by omega)
        refine ((dep h hn hO p2 sp p1 eqs (fun p s i a b c => ?_) (rT (fpM M e t).toNat + 1) (fpM M e t).toNat (by omega)).2 (by omega) (fun f hf hr k' hk' => ?_) k hk).symm
        · rw [p3 p s i (by omega) (by omega) (by omega) c, p4 p s i (by omega) (by omega) (by omega) c, ag1 p s i (by omega) (by omega) (by omega) c, agR1 p s i (by omega) (by omega) (by omega) c]
          exact ⟨rfl, rfl⟩
        · have := kap_lt (M := M) hM0.2 hf (show rK f < rK e by omega)
          rw [p6 f k' hf hk' (by omega), kin f k' hf hk']
  rw [wp_bd2]
  refine wp_mono (ct118 (M := M) (lett := lett) (L := L) (n := n) (Y := tb S1 90) (R := tb S1 91) h hn (fun j hj => (m90.at hj).2) (M 0).toNat 0 FU S1 0 (by omega) (by unfold FU; omega) e84 m91 rfl (Or.inl rfl) (fun j hj => ⟨_, (m90.at hj).1, (m90.at hj).2, Or.inr ⟨fun e' k' a => by omega, rfl⟩⟩)) (fun o q => ?_)
  obtain ⟨y, S2⟩ := o
  obtain ⟨q1, q2, q3, k2⟩ := q
  dsimp only at q1 q2 q3 k2 ⊢
  have g91 : S2 91 = S1 91 := k2.cell 91 (by decide) (by decide)
  have t91 : tb S2 91 = tb S1 91 := by funext j; unfold tb; rw [g91]
  have v90 : ∀ j, j < 1920 → (∃ e' k' : Nat, (e' : Int) < M 0 ∧ k' < topf L n + 1 ∧ j = pl (24 + e') n k' ∧ tb S2 90 j = kv M (tb S1 91) n e' k') ∨ ((∀ e' k' : Nat, (e' : Int) < M 0 → k' < topf L n + 1 → j ≠ pl (24 + e') n k') ∧ tb S2 90 j = tb S1 90 j) := fun j hj => by
    obtain ⟨x, x1, x2, x3⟩ := q3 j hj
    have ex : tb S2 90 j = x := by unfold tb; rw [x1]; rfl
    rw [ex]; exact x3
  have r90 : nb S2 90 1920 1000000000000 := fun j hj => by obtain ⟨x, x1, x2, -⟩ := q3 j hj; exact ⟨x, x1, x2⟩
  have r91 : nb S2 91 1536 1000000000000 := fun j hj => by rw [g91]; exact m91 j hj
  have th2 : thin L (tb S2 90) := fun q s i a b c d => by
    rcases v90 _ (pl_lt2 a b d (by decide)) with ⟨e', k', w1, w2, w3, -⟩ | ⟨-, w⟩
    · obtain ⟨-, x2, x3⟩ := pl_inj w3 (by omega) (by omega) (by omega) (by omega)
      subst x2; omega
    · rw [w]; exact th1 q s i a b c d
  have ag2 : agB n 30 (tb S2 90) BY := fun q s i a b c d => by
    rcases v90 _ (pl_lt2 a b d (by decide)) with ⟨e', k', w1, w2, w3, -⟩ | ⟨-, w⟩
    · exact absurd w3 (off q s i (24 + e') k' c b d (by omega))
    · rw [w]; exact ag1 q s i a b c d
  have kin2 : ∀ e k : Nat, (e : Int) < M 0 → k ≤ topf L n → tb S2 90 (pl (24 + e) n k) = kv M (tb S1 91) n e k := fun e k a b => by
    rcases v90 _ (pl_lt2 (N := 30) (q := 24 + e) (s := n) (i := k) (by omega) hn (by omega) (by decide)) with ⟨e', k', w1, w2, w3, w4⟩ | ⟨w, -⟩
    · obtain ⟨x1, -, x3⟩ := pl_inj w3 (by omega) (by omega) (by omega) (by omega)
      rw [w4, show e' = e by omega, x3]
    · exact absurd rfl (w e k a (by omega))
  refine hQ y S2 (kept.trans k1 (k2.mono (by decide) (by decide))) q1 (fun y0 => ⟨r90, r91, ?_⟩) (fun y1 => ?_)
  · have same := (q2.mp y0).2
    have all : ∀ j, j < 1920 → tb S1 90 j = tb S2 90 j := fun j hj => by
      rcases v90 j hj with ⟨e', k', w1, w2, w3, w4⟩ | ⟨-, w⟩
      · rw [w4, w3, same e' k' (Nat.zero_le _) w1 (by omega)]
      · exact w.symm
    refine ⟨fun p i a b => ?_, th2, by rw [t91]; exact thR1, ag2, by rw [t91]; exact agR1, fun p a => ?_, fun e k a b => by rw [t91]; exact kin2 e k a b⟩
    · rw [← all _ (pl_lt2 (N := 30) (by omega) (by omega) b (by decide)), t91]
      exact sp p i a b
    exact eqP_cg h a hn all (fun j _ => by rw [t91]) (eqs p a)
  · refine ⟨Nat.lt_of_not_le fun w => ?_, (k2.cell 84 (by decide) (by decide)).trans e84, r90, r91, th2, by rw [t91]; exact thR1, ag2, by rw [t91]; exact agR1, fun z e a b => ?_, Or.inr ⟨tb S1 90, tb S1 91, eqs, sp, ag1, agR1, kin2, fun e k a b c => ?_⟩⟩
    · have : y = 0 := q2.mpr ⟨rfl, fun e' k' _ a b => agree e' k' a b (Nat.lt_of_lt_of_le (kap_le hM0.2 a) w)⟩
      omega
    · subst z
      rw [kin2 e 0 a (Nat.zero_le _)] at b
      have b : xs M (fun q => tb S1 91 (pl q 0 0)) e ≠ 0 := fun z => b (by unfold kv; rw [z, Nat.min_zero])
      obtain ⟨t, t1, t2⟩ := sm_pos (Nat.pos_of_ne_zero b)
      have hE := h.2.2.2.2.1 e a
      have q4 := hE.2.1 t (by omega)
      refine hO.2.1 e a t (by omega) ((sp (fpM M e t).toNat 0 (by omega) (by omega)).2 ?_)
      cases ho : offM M e t with
      | true => rw [ho] at t2; simp at t2
      | false => rw [ho] at t2; simp at t2; omega
    · rw [kin2 e k a b, agree e k a b (by omega)]
/-- the loop at a size -/
theorem w58 {M : Int → Int} {lett : Int} {L : Bool} {n : Nat} {E TE KE : Nat → Prop} {rO rT rK : Nat → Nat} {BY BR : Nat → Nat} (h : WF M) (hO : Ord M E TE KE rO rT rK) (hn : n ≤ 7) (hl : inI lett) (hL : L = decide (0 ≤ lett)) (hB : n ≠ 0 → sup M E TE BY BR) : ∀ (d i f : Nat) (S : St), i + d = 7 → d + 1 < f → hd58 M lett L n E TE KE rK BY BR i S → wp (mX12_counts_58 (n : Int) lett f 1 S) (fun S' => nb S' 90 1920 1000000000000 ∧ nb S' 91 1536 1000000000000 ∧ kept [90, 91, 92] [] S S' ∧ done M lett L n E TE BY BR (tb S' 90) (tb S' 91)) := by
  have hz : (gd (inI lett) <| if 0 ≤ lett then (some (n : Int)) else (some 0)) = some ((topf L n : Nat) : Int) := by
    rw [gd_t hl]
    by_cases c : 0 ≤ lett
    · rw [if_pos c, hL]; simp [topf, c]
    · rw [if_neg c, hL]; simp [topf, c]
  intro d
  induction d with
  | zero =>
    intro i f S hi hf hS
    obtain ⟨g, rfl⟩ : ∃ g, f = g + 1 := ⟨f - 1, by omega⟩
    rw [mX12_counts_58, gd_t (by decide), if_neg (by decide), bd1_e hz, nx_e, hS.1]
    refine pass58 h hO hn hl hB hS (fun y S2 k1 y1 a b => ?_)
    rcases y1 with rfl | rfl
    · obtain ⟨g', rfl⟩ : ∃ g', g = g' + 1 := ⟨g - 1, by omega⟩
      rw [mX12_counts_58, gd_t (by decide), if_pos rfl, wp_some]
      exact ⟨(a rfl).1, (a rfl).2.1, k1, (a rfl).2.2⟩
    · have := (b rfl).1; omega
  | succ d ih =>
    intro i f S hi hf hS
    obtain ⟨g, rfl⟩ : ∃ g, f = g + 1 := ⟨f - 1, by omega⟩
    rw [mX12_counts_58, gd_t (by decide), if_neg (by decide), bd1_e hz, nx_e, hS.1]
    refine pass58 h hO hn hl hB hS (fun y S2 k1 y1 a b => ?_)
    rcases y1 with rfl | rfl
    · obtain ⟨g', rfl⟩ : ∃ g', g = g' + 1 := ⟨g - 1, by omega⟩
      rw [mX12_counts_58, gd_t (by decide), if_pos rfl, wp_some]
      exact ⟨(a rfl).1, (a rfl).2.1, k1, (a rfl).2.2⟩
    · refine wp_mono (ih (i + 1) g S2 (by omega) (by omega) (b rfl).2) (fun S' q => ⟨q.1, q.2.1, kept.trans k1 q.2.2.1, q.2.2.2⟩)
