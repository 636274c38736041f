/-! the reference: countsPart -/
theorem laid_of {S S' : St} {M : Int → Int} {Y : Nat → Nat} {p n top : Nat} (h : laid S M Y p n top) (e : S' 92 = S 92) : laid S' M Y p n top := by
  unfold laid at h ⊢
  rw [e]; exact h
theorem cp94 {M : Int → Int} {p n top : Nat} {lett : Int} {Y R : Nat → Nat} (h : WF M) (hp : (p : Int) < M 2) (hn : n ≤ 7) (htop : top ≤ 7) (hl : inI lett) (hY : ∀ j, j < 1920 → Y j ≤ 1000000000000) : ∀ (d k f : Nat) (S : St), k + d = top + 1 → d < f → S 84 = M → nb S 91 1536 1000000000000 → tb S 91 = R → laid S M Y p n top → (∀ j : Nat, j < 1920 → S 90 (j : Int) = ((if ∃ k', k' < k ∧ j = pl p n k' then min CC (pvT M lett Y R p n (j - pl p n 0) top) else Y j : Nat) : Int)) → wp (mX12_countsPart_94 (M (24 + (p : Int))) (p : Int) (n : Int) (top : Int) lett f (k : Int) S) (fun S' => ∀ j : Nat, j < 1920 → S' 90 (j : Int) = ((if ∃ k', k' < top + 1 ∧ j = pl p n k' then min CC (pvT M lett Y R p n (j - pl p n 0) top) else Y j : Nat) : Int)) := by
  intro d
  induction d with
  | zero =>
    intro k f S hk hf h84 n91 hR hL h90
    obtain ⟨g, rfl⟩ : ∃ g, f = g + 1 := ⟨f - 1, by omega⟩
    rw [mX12_countsPart_94, gd_t (by omega), if_pos (by omega), wp_some]
    rw [show k = top + 1 by omega] at h90
    exact h90
  | succ d ih =>
    intro k f S hk hf h84 n91 hR hL h90
    obtain ⟨g, rfl⟩ : ∃ g, f = g + 1 := ⟨f - 1, by omega⟩
    have hM2 := h.2.2.1
    subst h84
    have b1 : pl p n k < 1920 := Nat.lt_of_lt_of_le (pl_lt (by omega) (by omega) (show p < 30 by omega)) (by decide)
    rw [mX12_countsPart_94, gd_t (by omega), if_neg (by omega)]
    rw [cp_val (top := top) (Y := Y) h hp hn (by omega) (by omega) hl (fun j hj hne => by rw [h90 j hj, if_neg (by rintro ⟨k', q1, q2⟩; exact hne k' q1 q2)]) hY n91 hL]
    rw [bd1_e e_pl, gd_t (by omega), nx_e, hR]
    have := ih (k + 1) g (up S 90 ((pl p n k : Nat) : Int) ((min CC (pvT (S 84) lett Y R p n k top) : Nat) : Int)) (by omega) (by omega) (by rw [up_n (by decide)]) (by intro j hj; rw [up_n (by decide)]; exact n91 j hj) (by rw [← hR]; funext j; unfold tb; rw [up_n (by decide)]) (laid_of hL (up_n (by decide))) (fun j hj => by
      by_cases e : j = pl p n k
      · subst e
        rw [up_eq, if_pos ⟨k, by omega, rfl⟩, show pl p n k - pl p n 0 = k by unfold pl; omega]
      · rw [up_nk (by omega), h90 j hj]
        by_cases w : ∃ k', k' < k ∧ j = pl p n k'
        · rw [if_pos w, if_pos (by obtain ⟨k', w1, w2⟩ := w; exact ⟨k', by omega, w2⟩)]
        · rw [if_neg w, if_neg]
          rintro ⟨k', w1, w2⟩
          by_cases kk : k' = k
          · exact e (by rw [w2, kk])
          · exact w ⟨k', by omega, w2⟩)
    rw [show ((k + 1 : Nat) : Int) = (k : Int) + 1 by omega] at this
    exact this
/-- no more atoms of the letter than the size (plain: none) -/
def thin (L : Bool) (Y : Nat → Nat) : Prop := ∀ q s i : Nat, q < 30 → s ≤ 7 → topf L s < i → i ≤ 7 → Y (pl q s i) = 0
theorem w_countsPart {S : St} {p n : Nat} {lett : Int} {L : Bool} (h : WF (S 84)) (hp : (p : Int) < S 84 2) (hn : n ≤ 7) (hl : inI lett) (h90 : nb S 90 1920 1000000000000) (h91 : nb S 91 1536 1000000000000) (hth : thin L (tb S 90)) : wp (mX12_countsPart S (p : Int) (n : Int) ((topf L n : Nat) : Int) lett) (fun S' => kept [90, 92] [] S S' ∧ nb S' 90 1920 1000000000000 ∧ ∀ j : Nat, j < 1920 → tb S' 90 j = if ∃ k', k' < topf L n + 1 ∧ j = pl p n k' then min CC (pvT (S 84) lett (tb S 90) (tb S 91) p n (j - pl p n 0) (topf L n)) else tb S 90 j) := by
  have hM2 := h.2.2.1
  have htop : topf L n ≤ 7 := Nat.le_trans topf_le hn
  obtain ⟨h1, h2, h3, h4, h5, h6⟩ := h.2.2.2.1 p hp
  have hk := fr_mX12_countsPart S (p : Int) (n : Int) ((topf L n : Nat) : Int) lett
  refine wp_mono (wp_all (Q := fun S' => kept [90, 92] [] S S') (P := fun S' => ∀ j : Nat, j < 1920 → S' 90 (j : Int) = ((if ∃ k', k' < topf L n + 1 ∧ j = pl p n k' then min CC (pvT (S 84) lett (tb S 90) (tb S 91) p n (j - pl p n 0) (topf L n)) else tb S 90 j : Nat) : Int)) ?_ hk) (fun S' q => ⟨q.2, fun j hj => ⟨_, q.1 j hj, ?_⟩, fun j hj => ?_⟩)
  · have fin : ∀ S1 : St, kept [92] [] S S1 → laid S1 (S 84) (tb S 90) p n (topf L n) → wp (bd1 (mX12_countsPart_94 (S 84 (24 + (p : Int))) (p : Int) (n : Int) ((topf L n : Nat) : Int) lett FU 0 S1) fun S_11 => some S_11) (fun S' => ∀ j : Nat, j < 1920 → S' 90 (j : Int) = ((if ∃ k', k' < topf L n + 1 ∧ j = pl p n k' then min CC (pvT (S 84) lett (tb S 90) (tb S 91) p n (j - pl p n 0) (topf L n)) else tb S 90 j : Nat) : Int)) := by
      intro S1 k1 hL1
      have e84 := k1.cell 84 (by decide) (by decide)
      have e90 := k1.cell 90 (by decide) (by decide)
      have e91 := k1.cell 91 (by decide) (by decide)
      rw [wp_bd1]
      refine wp_mono (cp94 (M := S 84) (Y := tb S 90) (R := tb S 91) h hp hn htop hl (fun j hj => (h90.at hj).2) (topf L n + 1) 0 FU S1 (by omega) (by unfold FU; omega) e84 (fun j hj => by rw [e91]; exact h91 j hj) (by funext j; unfold tb; rw [e91]) hL1 (fun j hj => ?_)) (fun S' q => ?_)
      · rw [if_neg (by rintro ⟨k', q1, q2⟩; omega), e90]
        exact (h90.at hj).1
      · rw [wp_some]; exact q
    have sqn : (3 ≤ S 84 (24 + (p : Int)) ∧ S 84 (24 + (p : Int)) ≤ 6) → ∃ c : Nat, S 84 (72 + (p : Int)) = (c : Int) ∧ p < c ∧ c < 24 := fun q => ⟨(S 84 (72 + (p : Int))).toNat, by have := h6 q; omega, by have := h6 q; omega, by have := h6 q; omega⟩
    have cyY : ∀ c : Nat, c < 24 → ∀ s i, s ≤ 7 → topf L s < i → i ≤ 7 → cy90 (S 90) c s i = 0 := fun c hc s i q1 q2 q3 => hth c s i (by omega) q1 q2 q3
    unfold mX12_countsPart
    rw [gd_t (by omega), wp_nx, gd_t (by omega), e_in (by omega) (by decide) (by decide)]
    rw [wp_bd1, wp_some]
    by_cases c45 : S 84 (24 + (p : Int)) = 4 ∨ S 84 (24 + (p : Int)) = 5
    · obtain ⟨c, hc, c1, c2⟩ := sqn (by omega)
      rw [if_pos (by omega), wp_bd1, wp_bd1]
      refine wp_eq (a := (0 : Nat)) (by rw [gd_t (by decide), if_neg (by decide)]; rcases c45 with e | e; rw [if_pos e]; rw [if_neg (by omega), if_pos e]) ?_
      rw [if_pos rfl, gd_t (by omega), hc]
      have tail : ∀ o : Int, (o = 0 ∨ o = 1) → (o == 1) = (S 84 (24 + (p : Int)) == 5) → wp (bd1 (mX12_laysBags S (c : Int) (n : Int) ((topf L n : Nat) : Int) o) fun S_67 => some S_67) (fun S1 => kept [92] [] S S1 ∧ laid S1 (S 84) (tb S 90) p n (topf L n)) := by
        intro o ho e5
        rw [wp_bd1]
        refine wp_mono (w_laysBags (S := S) (p := c) (n := n) (top := topf L n) ho (by omega) hn htop h90) (fun S1 q => ?_)
        rw [wp_some]
        refine ⟨q.2.2, fun e => by omega, fun _ j k j1 k1 => ?_⟩
        rw [hc, ← e5, show ((c : Int)).toNat = c from rfl]
        by_cases jn : j ≤ n
        · refine ⟨_, q.1 j n k jn (Nat.le_refl _) k1, Nat.le_trans (Nat.min_le_left _ _) (by decide), ?_⟩
          rw [← Nat.min_assoc, Nat.min_self]
          rfl
        · have b : pl j n k < 512 := Nat.lt_of_lt_of_le (pl_lt (by omega) (by omega) (show j < 8 by omega)) (by decide)
          refine ⟨0, q.2.1 _ (by unfold pl; omega) b, Nat.zero_le _, ?_⟩
          rw [bgS_small n j n k (by omega)]
      rcases c45 with e | e
      · rw [if_neg (by omega)]
        refine wp_mono (tail 0 (Or.inl rfl) (by rw [e]; rfl)) (fun S1 q => fin S1 q.1 q.2)
      · rw [if_pos e]
        refine wp_mono (tail 1 (Or.inr rfl) (by rw [e]; rfl)) (fun S1 q => fin S1 q.1 q.2)
    · by_cases c36 : S 84 (24 + (p : Int)) = 3 ∨ S 84 (24 + (p : Int)) = 6
      · obtain ⟨c, hc, c1, c2⟩ := sqn (by omega)
        rw [if_pos (by omega), wp_bd1, wp_bd1]
        refine wp_eq (a := (1 : Nat)) (by rw [gd_t (by decide), if_neg (by decide), if_neg (by omega), if_neg (by omega)]) ?_
        rw [if_neg (by decide), gd_t (by decide), if_neg (by decide), gd_t (by omega), hc, wp_bd1]
        refine wp_mono (w_laysRows (S := S) (p := c) (n := n) (top := topf L n) (by omega) hn htop h90 (fun s i q1 q2 => cyY c c2 s i (by omega) (Nat.lt_of_le_of_lt topf_le q1) q2) (fun j a k q1 q2 q3 => tr_top (L := L) (cyY c c2) j a k (by omega) (by rw [topf_min q1] at q2; exact q2) q3)) (fun S1 q => ?_)
        rw [wp_some]
        refine fin S1 q.2.2 ⟨fun _ j a k j1 a1 k1 => ?_, fun e => by omega⟩
        have b : pl j a k < 512 := Nat.lt_of_lt_of_le (pl_lt (by omega) (by omega) (show j < 8 by omega)) (by decide)
        rw [(q.1.at b).1, q.2.1 j a k j1 a1 k1, hc]
        rfl
      · rw [if_neg (by omega), wp_bd1, wp_bd1]
        refine wp_eq (a := (1 : Nat)) (by rw [gd_t (by decide), if_pos rfl]) ?_
        rw [if_neg (by decide), gd_t (by decide), if_pos rfl, wp_some]
        exact fin S kept.rf ⟨fun e => by omega, fun e => by omega⟩
  · split
    · exact Nat.min_le_left _ _
    · exact (h90.at hj).2
  · unfold tb
    rw [q.1 j hj]
    rfl
