/-! the reference: a walk over the kinds at a size -/
def kv (M : Int → Int) (R : Nat → Nat) (n e k : Nat) : Nat := min CC (xs M (fun q => R (pl q n k)) e)
theorem kv_le {M : Int → Int} {R : Nat → Nat} {n e k : Nat} : kv M R n e k ≤ 1000000000000 := Nat.min_le_left _ _
theorem ct132 {M : Int → Int} {lett : Int} {L : Bool} {n e : Nat} {Y R : Nat → Nat} (h : WF M) (he : (e : Int) < M 0) (hn : n ≤ 7) (hY : ∀ j, j < 1920 → Y j ≤ 1000000000000) : ∀ (d k f : Nat) (S : St) (m : Int), k + d = topf L n + 1 → d < f → S 84 = M → nb S 91 1536 1000000000000 → tb S 91 = R → (m = 0 ∨ m = 1) → (∀ j : Nat, j < 1920 → S 90 (j : Int) = ((if ∃ k', k' < k ∧ j = pl (24 + e) n k' then kv M R n e (j - pl (24 + e) n 0) else Y j : Nat) : Int)) → wp (mX12_counts_132 (e : Int) ((topf L n : Nat) : Int) (n : Int) lett f (k : Int) m S) (fun o => (o.1 = 0 ∨ o.1 = 1) ∧ (o.1 = 0 ↔ m = 0 ∧ ∀ k', k ≤ k' → k' ≤ topf L n → kv M R n e k' = Y (pl (24 + e) n k')) ∧ (∀ j : Nat, j < 1920 → o.2 90 (j : Int) = ((if ∃ k', k' < topf L n + 1 ∧ j = pl (24 + e) n k' then kv M R n e (j - pl (24 + e) n 0) else Y j : Nat) : Int)) ∧ kept [90] [] S o.2) := by
  have hM0 := h.1
  have ht : topf L n ≤ 7 := Nat.le_trans topf_le hn
  intro d
  induction d with
  | zero =>
    intro k f S m hk hf h84 n91 hR hm h90
    obtain ⟨g, rfl⟩ : ∃ g, f = g + 1 := ⟨f - 1, by omega⟩
    rw [mX12_counts_132, gd_t (by omega), if_pos (by omega), wp_some]
    rw [show k = topf L n + 1 by omega] at h90 ⊢
    exact ⟨hm, ⟨fun q => ⟨q, fun k' a b => by omega⟩, fun q => q.1⟩, h90, kept.rf⟩
  | succ d ih =>
    intro k f S m hk hf h84 n91 hR hm h90
    obtain ⟨g, rfl⟩ : ∃ g, f = g + 1 := ⟨f - 1, by omega⟩
    have hE := h.2.2.2.2.1 e he
    have b : pl (24 + e) n k < 1920 := pl_lt2 (N := 30) (by omega) hn (by omega) (by decide)
    have v : mX12_exprMany S (e : Int) (n : Int) (k : Int) = some ((kv M R n e k : Nat) : Int) := by
      have := e_exprMany (S := S) (e := e) (n := n) (k := k) (lo := 0) (by rw [h84]; exact h) (by omega) (by omega) (by rw [h84]; exact hE) hn (by omega) n91
      rw [this, h84, hR]
      rfl
    have cur : S 90 ((pl (24 + e) n k : Nat) : Int) = ((Y (pl (24 + e) n k) : Nat) : Int) := by
      rw [h90 _ b, if_neg]
      rintro ⟨k', q1, q2⟩
      have := (pl_inj q2 (by omega) (by omega) (by omega) (by omega)).2.2
      omega
    have hy := hY _ b
    have hv := kv_le (M := M) (R := R) (n := n) (e := e) (k := k)
    obtain ⟨z, hz1, hz2, hz3⟩ : ∃ z : Int, (gd (inI m) <| if m = 0 then (bd1 (mX12_place (24 + (e : Int)) (n : Int) (k : Int)) fun r_76 => gd (0 ≤ r_76 ∧ r_76 < 1920) <| gd ((inL ((kv M R n e k : Nat) : Int)) ∧ (inL (S 90 r_76))) <| if ((kv M R n e k : Nat) : Int) = (S 90 r_76) then (some (0 : Int)) else (some 1)) else (some 1)) = some z ∧ (z = 0 ∨ z = 1) ∧ (z = 0 ↔ m = 0 ∧ kv M R n e k = Y (pl (24 + e) n k)) := by
      rcases hm with rfl | rfl
      · by_cases q : kv M R n e k = Y (pl (24 + e) n k)
        · exact ⟨0, by rw [gd_t (by decide), if_pos rfl, show (24 : Int) + (e : Int) = ((24 + e : Nat) : Int) by omega, bd1_e e_pl, gd_t (by omega), cur, gd_t (by omega), if_pos (by omega)], Or.inl rfl, ⟨fun _ => ⟨rfl, q⟩, fun _ => rfl⟩⟩
        · exact ⟨1, by rw [gd_t (by decide), if_pos rfl, show (24 : Int) + (e : Int) = ((24 + e : Nat) : Int) by omega, bd1_e e_pl, gd_t (by omega), cur, gd_t (by omega), if_neg (by omega)], Or.inr rfl, ⟨fun x => by omega, fun x => absurd x.2 q⟩⟩
      · exact ⟨1, by rw [gd_t (by decide), if_neg (by decide)], Or.inr rfl, ⟨fun x => by omega, fun x => by omega⟩⟩
    rw [mX12_counts_132, gd_t (by omega), if_neg (by omega), bd1_e v, bd1_e hz1, show (24 : Int) + (e : Int) = ((24 + e : Nat) : Int) by omega, bd1_e e_pl, gd_t (by omega), nx_e]
    have st := ih (k + 1) g (up S 90 ((pl (24 + e) n k : Nat) : Int) ((kv M R n e k : Nat) : Int)) z (by omega) (by omega) (by rw [up_n (by decide)]; exact h84) (by intro j hj; rw [up_n (by decide)]; exact n91 j hj) (by rw [← hR]; funext j; unfold tb; rw [up_n (by decide)]) hz2 (fun j hj => by
      by_cases q : j = pl (24 + e) n k
      · subst q
        rw [up_eq, if_pos ⟨k, by omega, rfl⟩, show pl (24 + e) n k - pl (24 + e) n 0 = k by unfold pl; omega]
      · rw [up_nk (by omega), h90 j hj]
        by_cases w : ∃ k', k' < k ∧ j = pl (24 + e) n k'
        · rw [if_pos w, if_pos (by obtain ⟨k', w1, w2⟩ := w; exact ⟨k', by omega, w2⟩)]
        · rw [if_neg w, if_neg]
          rintro ⟨k', w1, w2⟩
          by_cases kk : k' = k
          · exact q (by rw [w2, kk])
          · exact w ⟨k', by omega, w2⟩)
    rw [show ((k + 1 : Nat) : Int) = (k : Int) + 1 by omega] at st
    refine wp_mono st (fun o q => ⟨q.1, ?_, q.2.2.1, kept.trans (kept.upA kept.rf (by decide)) q.2.2.2⟩)
    rw [q.2.1, hz3]
    constructor
    · rintro ⟨⟨a, c⟩, r⟩
      refine ⟨a, fun k' k1 k2 => ?_⟩
      by_cases e' : k' = k
      · rw [e']; exact c
      · exact r k' (by omega) k2
    · rintro ⟨a, r⟩
      exact ⟨⟨a, r k (Nat.le_refl _) (by omega)⟩, fun k' k1 k2 => r k' (by omega) k2⟩
theorem ct118 {M : Int → Int} {lett : Int} {L : Bool} {n : Nat} {Y R : Nat → Nat} (h : WF M) (hn : n ≤ 7) (hY : ∀ j, j < 1920 → Y j ≤ 1000000000000) : ∀ (d e f : Nat) (S : St) (m : Int), (e : Int) + d = M 0 → d < f → S 84 = M → nb S 91 1536 1000000000000 → tb S 91 = R → (m = 0 ∨ m = 1) → (∀ j : Nat, j < 1920 → ∃ x : Nat, S 90 (j : Int) = (x : Int) ∧ x ≤ 1000000000000 ∧ ((∃ e' k' : Nat, e' < e ∧ k' < topf L n + 1 ∧ j = pl (24 + e') n k' ∧ x = kv M R n e' k') ∨ ((∀ e' k' : Nat, e' < e → k' < topf L n + 1 → j ≠ pl (24 + e') n k') ∧ x = Y j))) → wp (mX12_counts_118 ((topf L n : Nat) : Int) (n : Int) lett f (e : Int) m S) (fun o => (o.1 = 0 ∨ o.1 = 1) ∧ (o.1 = 0 ↔ m = 0 ∧ ∀ e' k' : Nat, e ≤ e' → (e' : Int) < M 0 → k' ≤ topf L n → kv M R n e' k' = Y (pl (24 + e') n k')) ∧ (∀ j : Nat, j < 1920 → ∃ x : Nat, o.2 90 (j : Int) = (x : Int) ∧ x ≤ 1000000000000 ∧ ((∃ e' k' : Nat, (e' : Int) < M 0 ∧ k' < topf L n + 1 ∧ j = pl (24 + e') n k' ∧ x = kv M R n e' k') ∨ ((∀ e' k' : Nat, (e' : Int) < M 0 → k' < topf L n + 1 → j ≠ pl (24 + e') n k') ∧ x = Y j))) ∧ kept [90] [] S o.2) := by
  have hM0 := h.1
  have ht : topf L n ≤ 7 := Nat.le_trans topf_le hn
  intro d
  induction d with
  | zero =>
    intro e f S m he hf h84 n91 hR hm h90
    obtain ⟨g, rfl⟩ : ∃ g, f = g + 1 := ⟨f - 1, by omega⟩
    rw [mX12_counts_118, h84, gd_t (by omega), if_pos (by omega), wp_some]
    refine ⟨hm, ⟨fun q => ⟨q, fun e' k' a b => by omega⟩, fun q => q.1⟩, fun j hj => ?_, kept.rf⟩
    obtain ⟨x, x1, x2, x3⟩ := h90 j hj
    refine ⟨x, x1, x2, ?_⟩
    rcases x3 with ⟨e', k', a, b⟩ | ⟨a, b⟩
    · exact Or.inl ⟨e', k', by omega, b⟩
    · exact Or.inr ⟨fun e' k' q1 q2 => a e' k' (by omega) q2, b⟩
  | succ d ih =>
    intro e f S m he hf h84 n91 hR hm h90
    obtain ⟨g, rfl⟩ : ∃ g, f = g + 1 := ⟨f - 1, by omega⟩
    have n90 : nb S 90 1920 1000000000000 := fun j hj => by obtain ⟨x, x1, x2, -⟩ := h90 j hj; exact ⟨x, x1, x2⟩
    rw [mX12_counts_118, h84, gd_t (by omega), if_neg (by omega), wp_bd2]
    refine wp_mono (ct132 (M := M) (lett := lett) (L := L) (n := n) (e := e) (Y := tb S 90) (R := R) h (by omega) hn (fun j hj => (n90.at hj).2) (topf L n + 1) 0 FU S m (by omega) (by unfold FU; omega) h84 n91 hR hm (fun j hj => by rw [if_neg (by rintro ⟨k', q1, q2⟩; omega)]; exact (n90.at hj).1)) (fun o q => ?_)
    obtain ⟨o1, S1⟩ := o
    obtain ⟨q1, q2, q3, q4⟩ := q
    dsimp only at q1 q2 q3 q4
    have e84 : S1 84 = S 84 := q4.cell 84 (by decide) (by decide)
    have e91 : S1 91 = S 91 := q4.cell 91 (by decide) (by decide)
    have same : ∀ k', k' ≤ topf L n → tb S 90 (pl (24 + e) n k') = Y (pl (24 + e) n k') := fun k' hk' => by
      have b : pl (24 + e) n k' < 1920 := pl_lt2 (N := 30) (by omega) hn (by omega) (by decide)
      obtain ⟨x, x1, x2, x3⟩ := h90 _ b
      unfold tb
      rw [x1]
      rcases x3 with ⟨e', k2, a, b, c, -⟩ | ⟨a, b⟩
      · have := (pl_inj c (by omega) (by omega) (by omega) (by omega)).1
        omega
      · rw [b]; rfl
    have := ih (e + 1) g S1 o1 (by omega) (by omega) (by rw [e84, h84]) (by intro j hj; rw [e91]; exact n91 j hj) (by rw [← hR]; funext j; unfold tb; rw [e91]) q1 (fun j hj => by
      have v := q3 j hj
      by_cases w : ∃ k', k' < topf L n + 1 ∧ j = pl (24 + e) n k'
      · rw [if_pos w] at v
        obtain ⟨k', w1, w2⟩ := w
        refine ⟨_, v, kv_le, Or.inl ⟨e, k', by omega, w1, w2, ?_⟩⟩
        rw [w2, show pl (24 + e) n k' - pl (24 + e) n 0 = k' by unfold pl; omega]
      · rw [if_neg w] at v
        obtain ⟨x, x1, x2, x3⟩ := h90 j hj
        have ex : tb S 90 j = x := by unfold tb; rw [x1]; rfl
        rw [ex] at v
        refine ⟨x, v, x2, ?_⟩
        rcases x3 with ⟨e', k', a, b, c, dd⟩ | ⟨a, b⟩
        · exact Or.inl ⟨e', k', by omega, b, c, dd⟩
        · refine Or.inr ⟨fun e' k' z1 z2 z3 => ?_, b⟩
          by_cases ee : e' = e
          · exact w ⟨k', z2, by rw [z3, ee]⟩
          · exact a e' k' (by omega) z2 z3)
    rw [show ((e + 1 : Nat) : Int) = (e : Int) + 1 by omega] at this
    refine wp_mono this (fun o r => ⟨r.1, ?_, r.2.2.1, kept.trans q4 r.2.2.2⟩)
    rw [r.2.1, q2]
    constructor
    · rintro ⟨⟨a, c⟩, w⟩
      refine ⟨a, fun e' k' z1 z2 z3 => ?_⟩
      by_cases ee : e' = e
      · rw [ee, c k' (Nat.zero_le _) z3]; exact same k' z3
      · exact w e' k' (by omega) z2 z3
    · rintro ⟨a, w⟩
      exact ⟨⟨a, fun k' _ z3 => by rw [w e k' (Nat.le_refl _) (by omega) z3]; exact (same k' z3).symm⟩, fun e' k' z1 z2 z3 => w e' k' (by omega) z2 z3⟩
