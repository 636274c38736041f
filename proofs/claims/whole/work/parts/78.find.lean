/-! the class's Leaning 33: findEmpty -/
theorem set1K33 {S : St} {p : Nat} (hc : c0133 S) (hp : p < 24) {r : Bool} (hr : cf33 S p = true → r = true) {β : Type} {K : St → Option β} {Q : β → Prop} (k : ∀ S', c0133 S' ∧ (∀ x, cf33 S' x = setF (cf33 S) p r x) ∧ kept [] [(33, 1)] S S' → wp (K S') Q) : wp (if (if r then (1 : Int) else 0) = 0 then (nx (up S 33 1 (orr (S 33 1) 0)) K) else (nx (up S 33 1 (orr (S 33 1) (shl 1 (p : Int)))) K)) Q := by
  have t := set133 hc hp hr
  cases r with
  | false => rw [if_pos (by decide)] at t ⊢; rw [wp_nx, wp_some] at t; rw [wp_nx]; exact k _ t
  | true => rw [if_neg (by decide)] at t ⊢; rw [wp_nx, wp_some] at t; rw [wp_nx]; exact k _ t
theorem set2K33 {S : St} {p : Nat} (hc : c0133 S) (hp : p < 6) {r : Bool} (hr : cf33 S (24 + p) = true → r = true) {β : Type} {K : St → Option β} {Q : β → Prop} (k : ∀ S', c0133 S' ∧ (∀ x, cf33 S' x = setF (cf33 S) (24 + p) r x) ∧ kept [] [(33, 2)] S S' → wp (K S') Q) : wp (if (if r then (1 : Int) else 0) = 0 then (nx (up S 33 2 (orr (S 33 2) 0)) K) else (nx (up S 33 2 (orr (S 33 2) (shl 1 (p : Int)))) K)) Q := by
  have t := set233 hc hp hr
  cases r with
  | false => rw [if_pos (by decide)] at t ⊢; rw [wp_nx, wp_some] at t; rw [wp_nx]; exact k _ t
  | true => rw [if_neg (by decide)] at t ⊢; rw [wp_nx, wp_some] at t; rw [wp_nx]; exact k _ t
theorem w_findEmpty33 {S : St} {M : Int → Int} (h : WF M) (hG : GM S M) : wp (mX3_findEmpty_33 S) (fun S' => c0133 S' ∧ lfE M (cf33 S') ∧ kept [] [(33, 1), (33, 2)] S S') := by
  have hM2 := h.2.2.1
  have hM0 := h.1
  have gcl : ∀ S' : St, kept [] [(33, 1), (33, 2)] S S' → GM S' M := fun S' k => hG.of (fun i a b => k.cell _ (by simp) (by simp; omega))
  have inF : ∀ z : Int, 0 ≤ z ∧ z < 2 ^ 30 → inI z := fun z hz => by omega
  unfold mX3_findEmpty_33
  rw [nx_e, nx_e, wp_bd1]
  have k0 : kept [] [(33, 1), (33, 2)] S (up (up S 33 1 0) 33 2 0) := kept.upF (kept.upF kept.rf (by simp)) (by simp)
  have u1 : up (up S 33 1 0) 33 2 0 33 1 = 0 := by rw [up_nk (by decide), up_eq]
  have u2 : up (up S 33 1 0) 33 2 0 33 2 = 0 := up_eq
  have c0 : c0133 (up (up S 33 1 0) 33 2 0) := ⟨by rw [u1]; decide, by rw [u2]; decide⟩
  have b0 : ∀ x, vx M x → cf33 (up (up S 33 1 0) 33 2 0) x = false := fun x hx => by unfold cf33; rw [u1, u2, bt_0, bt_0]; split <;> rfl
  refine wp_mono (loopW (fun f v (s : Int × St) => mX3_findEmpty_33_14 f v s.1 s.2) (fun i s => (c0133 s.2 ∧ goE M (cf33 s.2)) ∧ (s.1 = 0 ∨ s.1 = 1) ∧ (s.1 = 0 → ∀ x, vx M x → ru M (cf33 s.2) x = true → cf33 s.2 x = true) ∧ ((∀ x, vx M x → ru M (cf33 s.2) x = true → cf33 s.2 x = true) ∨ i ≤ vF M (cf33 s.2)) ∧ kept [] [(33, 1), (33, 2)] S s.2) (fun S' => c0133 S' ∧ lfE M (cf33 S') ∧ kept [] [(33, 1), (33, 2)] S S') 55 (fun i f s hi hI hk => ?_) (fun f s hI => ?_) 55 0 FU (1, up (up S 33 1 0) 33 2 0) (by omega) (by unfold FU; omega) ⟨⟨c0, goE_0 b0⟩, Or.inr rfl, fun e => absurd (show (1 : Int) = 0 from e) (by decide), Or.inr (Nat.zero_le _), k0⟩) (fun S' q => by rw [wp_some]; exact q)
  · obtain ⟨m, s⟩ := s
    obtain ⟨⟨i1, g1⟩, hm, mc, c1, kk⟩ := hI
    dsimp only at i1 g1 hm mc c1 kk hk ⊢
    rw [mX3_findEmpty_33_14, gd_t (by omega), if_neg (by omega), gd_t (by omega)]
    by_cases m0 : m = 0
    · rw [if_pos m0, wp_some]
      exact ⟨i1, ⟨mc m0, g1.2⟩, kk⟩
    · have g23 : s 2 3 = M 2 := (gcl s kk).1.2.2.2
      rw [if_neg m0, nx_e, nx_e, nx_e, g23, wp_bd1]
      refine wp_mono (loopD (fun f v s' => mX3_findEmpty_33_46 (s 33 2) (s 33 1) (i : Int) f v s') (fun v S' => v < M 2 ∧ c0133 S' ∧ rndE M (cf33 s) (cf33 S') (fun x => v < (x : Int) ∧ x < 24) ∧ kept [] [(33, 1), (33, 2)] S S') (fun S' => c0133 S' ∧ rndE M (cf33 s) (cf33 S') (fun x => x < 24) ∧ kept [] [(33, 1), (33, 2)] S S') 0 (fun v f s' hv hI hk => ?_) (fun f s' hI => ?_) (M 2).toNat FU (M 2 - 1) s (by omega) (by unfold FU; omega) ⟨by omega, i1, ⟨g1, fun x hx hF => hF, fun _ x hx hd => by unfold vx at hx; omega⟩, kk⟩) (fun S2 q2 => ?_)
      · obtain ⟨v0, a1, a2, a3⟩ := hI
        try dsimp only at hk ⊢
        obtain ⟨p, rfl⟩ := Int.eq_ofNat_of_zero_le hv
        have vp : vx M p := Or.inl ⟨by omega, by omega⟩
        have rp : ru M (cf33 s') p = ruP M (cf33 s') p := by unfold ru; rw [if_pos (by omega)]
        rw [mX3_findEmpty_33_46, gd_t (by omega), if_neg (by omega), bd1_e (e_partIsEmpty33 h (gcl s' a3) a1 (by omega)), gd_t (by split <;> decide)]
        refine set1K33 a1 (by omega) (fun hb => by rw [← rp]; exact a2.1.1 p vp hb) (fun S3 q3 => ?_)
        obtain ⟨b1, b2, b3⟩ := q3
        refine hk S3 ⟨by omega, b1, ?_, kept.trans a3 (b3.mono (by simp) (by simp))⟩
        have := rndE_set (done' := fun x => (p : Int) - 1 < (x : Int) ∧ x < 24) h a2 vp (fun y hy => by omega)
        rw [rp] at this
        rw [show cf33 S3 = setF (cf33 s') p (ruP M (cf33 s') p) from funext b2]
        exact this
      · obtain ⟨v0, a1, a2, a3⟩ := hI
        try dsimp only
        rw [mX3_findEmpty_33_46, gd_t (by omega), if_pos (by omega), wp_some]
        exact ⟨a1, ⟨a2.1, a2.2.1, fun e x hx hd => a2.2.2 e x hx (by omega)⟩, a3⟩
      · obtain ⟨a1, a2, a3⟩ := q2
        rw [wp_bd1]
        refine wp_mono (loopW (fun f v s' => mX3_findEmpty_33_86 (s 33 2) (s 33 1) (i : Int) f v s') (fun e S' => c0133 S' ∧ rndE M (cf33 s) (cf33 S') (fun x => x < 24 + e) ∧ kept [] [(33, 1), (33, 2)] S S') (fun S' => c0133 S' ∧ rndE M (cf33 s) (cf33 S') (fun x => vx M x) ∧ kept [] [(33, 1), (33, 2)] S S') (M 0).toNat (fun p f s' hp hI hk => ?_) (fun f s' hI => ?_) (M 0).toNat 0 FU S2 (by omega) (by unfold FU; omega) ⟨a1, ⟨a2.1, a2.2.1, fun e x hx hd => a2.2.2 e x hx (by omega)⟩, a3⟩) (fun S3 q3 => ?_)
        · obtain ⟨b1, b2, b3⟩ := hI
          try dsimp only at hk ⊢
          have g21 : s' 2 1 = M 0 := (gcl s' b3).1.2.1
          have vp : vx M (24 + p) := Or.inr ⟨by omega, by omega⟩
          have rp : ru M (cf33 s') (24 + p) = xE M (cf33 s') p := by unfold ru; rw [if_neg (by omega), show 24 + p - 24 = p by omega]
          rw [mX3_findEmpty_33_86, g21, gd_t (by omega), if_neg (by omega), bd1_e (e_exprIsEmpty33 (lo := 0) h (gcl s' b3) b1 (by omega) (by omega) (h.2.2.2.2.1 p (by omega))), gd_t (by split <;> decide)]
          refine set2K33 b1 (by omega) (fun hb => by rw [← rp]; exact b2.1.1 _ vp hb) (fun S4 q4 => ?_)
          obtain ⟨d1, d2, d3⟩ := q4
          refine hk S4 ⟨d1, ?_, kept.trans b3 (d3.mono (by simp) (by simp))⟩
          have := rndE_set (done' := fun x => x < 24 + (p + 1)) h b2 vp (fun y hy => by omega)
          rw [rp] at this
          rw [show cf33 S4 = setF (cf33 s') (24 + p) (xE M (cf33 s') p) from funext d2]
          exact this
        · obtain ⟨b1, b2, b3⟩ := hI
          try dsimp only
          have g21 : s' 2 1 = M 0 := (gcl s' b3).1.2.1
          rw [mX3_findEmpty_33_86, g21, gd_t (by omega), if_pos (by omega), wp_some]
          exact ⟨b1, ⟨b2.1, b2.2.1, fun e x hx hd => b2.2.2 e x hx (by unfold vx at hd; omega)⟩, b3⟩
        · obtain ⟨b1, b2, b3⟩ := q3
          have st2 : (∀ x, vx M x → cf33 s x = cf33 S3 x) → ∀ x, vx M x → ru M (cf33 S3) x = true → cf33 S3 x = true := fun st x hx hr => by
            rw [← st x hx]
            exact b2.2.2 st x hx hx (ru_mono h (fun z hz hF => by rw [st z hz]; exact hF) hx hr)
          have nxt : (∀ x, vx M x → ru M (cf33 S3) x = true → cf33 S3 x = true) ∨ i + 1 ≤ vF M (cf33 S3) := by
            by_cases st : ∀ x, vx M x → cf33 s x = cf33 S3 x
            · exact Or.inl (st2 st)
            · have : ∃ x, vx M x ∧ cf33 s x ≠ cf33 S3 x := Classical.byContradiction fun w => st fun x hx => Classical.byContradiction fun v => w ⟨x, hx, v⟩
              obtain ⟨x, hx, hne⟩ := this
              have lt : vF M (cf33 s) < vF M (cf33 S3) := by
                cases hF : cf33 s x
                · cases hG : cf33 S3 x
                  · rw [hF, hG] at hne; exact absurd rfl hne
                  · exact vF_lt hM0.2 b2.2.1 hx hF hG
                · rw [hF, b2.2.1 x hx hF] at hne; exact absurd rfl hne
              rcases c1 with c1 | c1
              · exfalso
                have le : leF M (cf33 S3) (cf33 s) := b2.1.2 (cf33 s) c1
                apply hne
                cases hF : cf33 s x
                · cases hG : cf33 S3 x
                  · rfl
                  · rw [le x hx hG] at hF; cases hF
                · rw [b2.2.1 x hx hF]
              · exact Or.inr (by omega)
          rw [gd_t ⟨inF _ i1.1, inF _ b1.1⟩]
          by_cases w1 : s 33 1 = S3 33 1
          · rw [if_pos w1, gd_t ⟨inF _ i1.2, inF _ b1.2⟩]
            by_cases w2 : s 33 2 = S3 33 2
            · rw [if_pos w2]
              refine hk (0, S3) ⟨⟨b1, b2.1⟩, Or.inl rfl, fun _ => st2 (fun x _ => by unfold cf33; rw [w1, w2]), nxt, b3⟩
            · rw [if_neg w2]
              exact hk (1, S3) ⟨⟨b1, b2.1⟩, Or.inr rfl, fun e => absurd (show (1 : Int) = 0 from e) (by decide), nxt, b3⟩
          · rw [if_neg w1]
            exact hk (1, S3) ⟨⟨b1, b2.1⟩, Or.inr rfl, fun e => absurd (show (1 : Int) = 0 from e) (by decide), nxt, b3⟩
  · obtain ⟨m, s⟩ := s
    obtain ⟨⟨i1, g1⟩, hm, mc, c1, kk⟩ := hI
    dsimp only at i1 g1 hm mc c1 kk ⊢
    rw [mX3_findEmpty_33_14, gd_t (by omega), if_pos (by omega), wp_some]
    refine ⟨i1, ⟨?_, g1.2⟩, kk⟩
    rcases c1 with c1 | c1
    · exact c1
    · have := vF_le (M := M) (F := cf33 s); omega
/-! the class's Leaning 26: findEmpty -/
theorem set1K26 {S : St} {p : Nat} (hc : c0126 S) (hp : p < 24) {r : Bool} (hr : cf26 S p = true → r = true) {β : Type} {K : St → Option β} {Q : β → Prop} (k : ∀ S', c0126 S' ∧ (∀ x, cf26 S' x = setF (cf26 S) p r x) ∧ kept [] [(26, 1)] S S' → wp (K S') Q) : wp (if (if r then (1 : Int) else 0) = 0 then (nx (up S 26 1 (orr (S 26 1) 0)) K) else (nx (up S 26 1 (orr (S 26 1) (shl 1 (p : Int)))) K)) Q := by
  have t := set126 hc hp hr
  cases r with
  | false => rw [if_pos (by decide)] at t ⊢; rw [wp_nx, wp_some] at t; rw [wp_nx]; exact k _ t
  | true => rw [if_neg (by decide)] at t ⊢; rw [wp_nx, wp_some] at t; rw [wp_nx]; exact k _ t
theorem set2K26 {S : St} {p : Nat} (hc : c0126 S) (hp : p < 6) {r : Bool} (hr : cf26 S (24 + p) = true → r = true) {β : Type} {K : St → Option β} {Q : β → Prop} (k : ∀ S', c0126 S' ∧ (∀ x, cf26 S' x = setF (cf26 S) (24 + p) r x) ∧ kept [] [(26, 2)] S S' → wp (K S') Q) : wp (if (if r then (1 : Int) else 0) = 0 then (nx (up S 26 2 (orr (S 26 2) 0)) K) else (nx (up S 26 2 (orr (S 26 2) (shl 1 (p : Int)))) K)) Q := by
  have t := set226 hc hp hr
  cases r with
  | false => rw [if_pos (by decide)] at t ⊢; rw [wp_nx, wp_some] at t; rw [wp_nx]; exact k _ t
  | true => rw [if_neg (by decide)] at t ⊢; rw [wp_nx, wp_some] at t; rw [wp_nx]; exact k _ t
theorem w_findEmpty26 {S : St} {M : Int → Int} (h : WF M) (hG : GM (sh11 S) M) : wp (mX3_findEmpty_26 S) (fun S' => c0126 S' ∧ lfE M (cf26 S') ∧ kept [] [(26, 1), (26, 2)] S S') := by
  have hM2 := h.2.2.1
  have hM0 := h.1
  have gcl : ∀ S' : St, kept [] [(26, 1), (26, 2)] S S' → GM (sh11 S') M := fun S' k => hG.of (fun i a b => k.cell _ (by simp) (by simp; omega))
  have inF : ∀ z : Int, 0 ≤ z ∧ z < 2 ^ 30 → inI z := fun z hz => by omega
  unfold mX3_findEmpty_26
  rw [nx_e, nx_e, wp_bd1]
  have k0 : kept [] [(26, 1), (26, 2)] S (up (up S 26 1 0) 26 2 0) := kept.upF (kept.upF kept.rf (by simp)) (by simp)
  have u1 : up (up S 26 1 0) 26 2 0 26 1 = 0 := by rw [up_nk (by decide), up_eq]
  have u2 : up (up S 26 1 0) 26 2 0 26 2 = 0 := up_eq
  have c0 : c0126 (up (up S 26 1 0) 26 2 0) := ⟨by rw [u1]; decide, by rw [u2]; decide⟩
  have b0 : ∀ x, vx M x → cf26 (up (up S 26 1 0) 26 2 0) x = false := fun x hx => by unfold cf26; rw [u1, u2, bt_0, bt_0]; split <;> rfl
  refine wp_mono (loopW (fun f v (s : Int × St) => mX3_findEmpty_26_14 f v s.1 s.2) (fun i s => (c0126 s.2 ∧ goE M (cf26 s.2)) ∧ (s.1 = 0 ∨ s.1 = 1) ∧ (s.1 = 0 → ∀ x, vx M x → ru M (cf26 s.2) x = true → cf26 s.2 x = true) ∧ ((∀ x, vx M x → ru M (cf26 s.2) x = true → cf26 s.2 x = true) ∨ i ≤ vF M (cf26 s.2)) ∧ kept [] [(26, 1), (26, 2)] S s.2) (fun S' => c0126 S' ∧ lfE M (cf26 S') ∧ kept [] [(26, 1), (26, 2)] S S') 55 (fun i f s hi hI hk => ?_) (fun f s hI => ?_) 55 0 FU (1, up (up S 26 1 0) 26 2 0) (by omega) (by unfold FU; omega) ⟨⟨c0, goE_0 b0⟩, Or.inr rfl, fun e => absurd (show (1 : Int) = 0 from e) (by decide), Or.inr (Nat.zero_le _), k0⟩) (fun S' q => by rw [wp_some]; exact q)
  · obtain ⟨m, s⟩ := s
    obtain ⟨⟨i1, g1⟩, hm, mc, c1, kk⟩ := hI
    dsimp only at i1 g1 hm mc c1 kk hk ⊢
    rw [mX3_findEmpty_26_14, gd_t (by omega), if_neg (by omega), gd_t (by omega)]
    by_cases m0 : m = 0
    · rw [if_pos m0, wp_some]
      exact ⟨i1, ⟨mc m0, g1.2⟩, kk⟩
    · have g23 : s 13 3 = M 2 := (gcl s kk).1.2.2.2
      rw [if_neg m0, nx_e, nx_e, nx_e, g23, wp_bd1]
      refine wp_mono (loopD (fun f v s' => mX3_findEmpty_26_46 (s 26 2) (s 26 1) (i : Int) f v s') (fun v S' => v < M 2 ∧ c0126 S' ∧ rndE M (cf26 s) (cf26 S') (fun x => v < (x : Int) ∧ x < 24) ∧ kept [] [(26, 1), (26, 2)] S S') (fun S' => c0126 S' ∧ rndE M (cf26 s) (cf26 S') (fun x => x < 24) ∧ kept [] [(26, 1), (26, 2)] S S') 0 (fun v f s' hv hI hk => ?_) (fun f s' hI => ?_) (M 2).toNat FU (M 2 - 1) s (by omega) (by unfold FU; omega) ⟨by omega, i1, ⟨g1, fun x hx hF => hF, fun _ x hx hd => by unfold vx at hx; omega⟩, kk⟩) (fun S2 q2 => ?_)
      · obtain ⟨v0, a1, a2, a3⟩ := hI
        try dsimp only at hk ⊢
        obtain ⟨p, rfl⟩ := Int.eq_ofNat_of_zero_le hv
        have vp : vx M p := Or.inl ⟨by omega, by omega⟩
        have rp : ru M (cf26 s') p = ruP M (cf26 s') p := by unfold ru; rw [if_pos (by omega)]
        rw [mX3_findEmpty_26_46, gd_t (by omega), if_neg (by omega), bd1_e (e_partIsEmpty26 h (gcl s' a3) a1 (by omega)), gd_t (by split <;> decide)]
        refine set1K26 a1 (by omega) (fun hb => by rw [← rp]; exact a2.1.1 p vp hb) (fun S3 q3 => ?_)
        obtain ⟨b1, b2, b3⟩ := q3
        refine hk S3 ⟨by omega, b1, ?_, kept.trans a3 (b3.mono (by simp) (by simp))⟩
        have := rndE_set (done' := fun x => (p : Int) - 1 < (x : Int) ∧ x < 24) h a2 vp (fun y hy => by omega)
        rw [rp] at this
        rw [show cf26 S3 = setF (cf26 s') p (ruP M (cf26 s') p) from funext b2]
        exact this
      · obtain ⟨v0, a1, a2, a3⟩ := hI
        try dsimp only
        rw [mX3_findEmpty_26_46, gd_t (by omega), if_pos (by omega), wp_some]
        exact ⟨a1, ⟨a2.1, a2.2.1, fun e x hx hd => a2.2.2 e x hx (by omega)⟩, a3⟩
      · obtain ⟨a1, a2, a3⟩ := q2
        rw [wp_bd1]
        refine wp_mono (loopW (fun f v s' => mX3_findEmpty_26_86 (s 26 2) (s 26 1) (i : Int) f v s') (fun e S' => c0126 S' ∧ rndE M (cf26 s) (cf26 S') (fun x => x < 24 + e) ∧ kept [] [(26, 1), (26, 2)] S S') (fun S' => c0126 S' ∧ rndE M (cf26 s) (cf26 S') (fun x => vx M x) ∧ kept [] [(26, 1), (26, 2)] S S') (M 0).toNat (fun p f s' hp hI hk => ?_) (fun f s' hI => ?_) (M 0).toNat 0 FU S2 (by omega) (by unfold FU; omega) ⟨a1, ⟨a2.1, a2.2.1, fun e x hx hd => a2.2.2 e x hx (by omega)⟩, a3⟩) (fun S3 q3 => ?_)
        · obtain ⟨b1, b2, b3⟩ := hI
          try dsimp only at hk ⊢
          have g21 : s' 13 1 = M 0 := (gcl s' b3).1.2.1
          have vp : vx M (24 + p) := Or.inr ⟨by omega, by omega⟩
          have rp : ru M (cf26 s') (24 + p) = xE M (cf26 s') p := by unfold ru; rw [if_neg (by omega), show 24 + p - 24 = p by omega]
          rw [mX3_findEmpty_26_86, g21, gd_t (by omega), if_neg (by omega), bd1_e (e_exprIsEmpty26 (lo := 0) h (gcl s' b3) b1 (by omega) (by omega) (h.2.2.2.2.1 p (by omega))), gd_t (by split <;> decide)]
          refine set2K26 b1 (by omega) (fun hb => by rw [← rp]; exact b2.1.1 _ vp hb) (fun S4 q4 => ?_)
          obtain ⟨d1, d2, d3⟩ := q4
          refine hk S4 ⟨d1, ?_, kept.trans b3 (d3.mono (by simp) (by simp))⟩
          have := rndE_set (done' := fun x => x < 24 + (p + 1)) h b2 vp (fun y hy => by omega)
          rw [rp] at this
          rw [show cf26 S4 = setF (cf26 s') (24 + p) (xE M (cf26 s') p) from funext d2]
          exact this
        · obtain ⟨b1, b2, b3⟩ := hI
          try dsimp only
          have g21 : s' 13 1 = M 0 := (gcl s' b3).1.2.1
          rw [mX3_findEmpty_26_86, g21, gd_t (by omega), if_pos (by omega), wp_some]
          exact ⟨b1, ⟨b2.1, b2.2.1, fun e x hx hd => b2.2.2 e x hx (by unfold vx at hd; omega)⟩, b3⟩
        · obtain ⟨b1, b2, b3⟩ := q3
          have st2 : (∀ x, vx M x → cf26 s x = cf26 S3 x) → ∀ x, vx M x → ru M (cf26 S3) x = true → cf26 S3 x = true := fun st x hx hr => by
            rw [← st x hx]
            exact b2.2.2 st x hx hx (ru_mono h (fun z hz hF => by rw [st z hz]; exact hF) hx hr)
          have nxt : (∀ x, vx M x → ru M (cf26 S3) x = true → cf26 S3 x = true) ∨ i + 1 ≤ vF M (cf26 S3) := by
            by_cases st : ∀ x, vx M x → cf26 s x = cf26 S3 x
            · exact Or.inl (st2 st)
            · have : ∃ x, vx M x ∧ cf26 s x ≠ cf26 S3 x := Classical.byContradiction fun w => st fun x hx => Classical.byContradiction fun v => w ⟨x, hx, v⟩
              obtain ⟨x, hx, hne⟩ := this
              have lt : vF M (cf26 s) < vF M (cf26 S3) := by
                cases hF : cf26 s x
                · cases hG : cf26 S3 x
                  · rw [hF, hG] at hne; exact absurd rfl hne
                  · exact vF_lt hM0.2 b2.2.1 hx hF hG
                · rw [hF, b2.2.1 x hx hF] at hne; exact absurd rfl hne
              rcases c1 with c1 | c1
              · exfalso
                have le : leF M (cf26 S3) (cf26 s) := b2.1.2 (cf26 s) c1
                apply hne
                cases hF : cf26 s x
                · cases hG : cf26 S3 x
                  · rfl
                  · rw [le x hx hG] at hF; cases hF
                · rw [b2.2.1 x hx hF]
              · exact Or.inr (by omega)
          rw [gd_t ⟨inF _ i1.1, inF _ b1.1⟩]
          by_cases w1 : s 26 1 = S3 26 1
          · rw [if_pos w1, gd_t ⟨inF _ i1.2, inF _ b1.2⟩]
            by_cases w2 : s 26 2 = S3 26 2
            · rw [if_pos w2]
              refine hk (0, S3) ⟨⟨b1, b2.1⟩, Or.inl rfl, fun _ => st2 (fun x _ => by unfold cf26; rw [w1, w2]), nxt, b3⟩
            · rw [if_neg w2]
              exact hk (1, S3) ⟨⟨b1, b2.1⟩, Or.inr rfl, fun e => absurd (show (1 : Int) = 0 from e) (by decide), nxt, b3⟩
          · rw [if_neg w1]
            exact hk (1, S3) ⟨⟨b1, b2.1⟩, Or.inr rfl, fun e => absurd (show (1 : Int) = 0 from e) (by decide), nxt, b3⟩
  · obtain ⟨m, s⟩ := s
    obtain ⟨⟨i1, g1⟩, hm, mc, c1, kk⟩ := hI
    dsimp only at i1 g1 hm mc c1 kk ⊢
    rw [mX3_findEmpty_26_14, gd_t (by omega), if_pos (by omega), wp_some]
    refine ⟨i1, ⟨?_, g1.2⟩, kk⟩
    rcases c1 with c1 | c1
    · exact c1
    · have := vF_le (M := M) (F := cf26 s); omega
