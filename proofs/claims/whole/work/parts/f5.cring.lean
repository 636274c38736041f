/-! the class: turns of a row told by codes -/
theorem cd_eq {x y : Nat × Nat} (hx : x.2 ≤ 1023) (hy : y.2 ≤ 1023) : cdN x = cdN y ↔ x = y := by
  unfold cdN
  exact ⟨fun h => p_eq (by omega) (by omega), fun h => by rw [h]⟩
theorem cd_lt {x y : Nat × Nat} (hx : x.2 ≤ 1023) (hy : y.2 ≤ 1023) : cdN x < cdN y ↔ plt x y = true := by
  rw [plt_i]
  unfold cdN
  omega
theorem cds.at {S : St} {L : List (Nat × Nat)} (h : cds S L) {i : Nat} (hi : i < L.length) : S 62 ((i : Nat) : Int) = ((cdN (gx L i) : Nat) : Int) := h.2 i _ (gx_some hi)
theorem cd_b {x : Nat × Nat} (h : x.1 ≤ 7 ∧ x.2 ≤ 1023) : cdN x ≤ 8191 := by unfold cdN; omega
theorem e_ct2 {S : St} {L : List (Nat × Nat)} (h : cds S L) (hs : smL' L) (hl : L.length ≤ 8) {t : Nat} (ht : t < L.length) : ∀ (d i f : Nat), i + d = L.length → d < f → (∀ j : Nat, j < i → gx (rot t L) j = gx L j) → (rot t L = L ∧ mX8_compareTurn_2 S (t : Int) f (i : Int) = some (1, ((L.length : Nat) : Int), 0)) ∨ ∃ K : Nat, K < L.length ∧ (∀ j : Nat, j < K → gx (rot t L) j = gx L j) ∧ gx (rot t L) K ≠ gx L K ∧ mX8_compareTurn_2 S (t : Int) f (i : Int) = some (0, (K : Int), ((cdN (gx (rot t L) K) : Nat) : Int)) := by
  intro d
  induction d with
  | zero =>
    intro i f hi hf hj
    obtain ⟨f, rfl⟩ : ∃ f', f = f' + 1 := ⟨f - 1, by omega⟩
    refine Or.inl ⟨gx_ext rot_len (fun j hj' => hj j (by rw [rot_len] at hj'; omega)), ?_⟩
    rw [mX8_compareTurn_2, h.1, gd_t ⟨by omega, by omega⟩, if_pos (by omega), show i = L.length by omega]
  | succ d ih =>
    intro i f hi hf hj
    obtain ⟨f, rfl⟩ : ∃ f', f = f' + 1 := ⟨f - 1, by omega⟩
    have md : (i + t) % L.length < L.length := Nat.mod_lt _ (by omega)
    have er := gx_rot (l := L) (t := t) (k := i) ht (by omega)
    have b1 := hs.at md
    have b2 := hs.at (show i < L.length by omega)
    have c1 := cd_b b1
    have c2 := cd_b b2
    have st : mX8_compareTurn_2 S (t : Int) (f + 1) (i : Int) = if ((cdN (gx L ((i + t) % L.length)) : Nat) : Int) = ((cdN (gx L i) : Nat) : Int) then mX8_compareTurn_2 S (t : Int) f ((i : Int) + 1) else some (0, (i : Int), ((cdN (gx L ((i + t) % L.length)) : Nat) : Int)) := by
      rw [mX8_compareTurn_2, h.1, gd_t ⟨by omega, by omega⟩, if_neg (by omega), gd_t ⟨by omega, by omega⟩, show ((t : Int) + (i : Int)) % ((L.length : Nat) : Int) = (((i + t) % L.length : Nat) : Int) by rw [Int.natCast_emod, Int.natCast_add, Int.add_comm], gd_t ⟨by omega, by omega⟩, h.at md, nx_e, gd_t ⟨by omega, by omega⟩, h.at (show i < L.length by omega), gd_t ⟨by omega, by omega⟩]
    rw [st]
    by_cases z : gx L ((i + t) % L.length) = gx L i
    · rw [z, if_pos rfl]
      have := ih (i + 1) f (by omega) (by omega) (fun j hj' => by
        by_cases e : j = i
        · rw [e, er, z]
        · exact hj j (by omega))
      rw [show ((i + 1 : Nat) : Int) = (i : Int) + 1 by omega] at this
      exact this
    · rw [if_neg (fun w => z ((cd_eq b1.2 b2.2).mp (by omega)))]
      exact Or.inr ⟨i, by omega, hj, by rw [er]; exact z, by rw [er]⟩
theorem e_cTurn {S : St} {L : List (Nat × Nat)} (h : cds S L) (hs : smL' L) (hl : L.length ≤ 8) {t : Nat} (ht : t < L.length) : ∃ r : Int, mX8_compareTurn S (t : Int) = some r ∧ inI r ∧ (r < 0 ↔ lxt (rot t L) L = true) ∧ (r = 0 ↔ rot t L = L) := by
  unfold mX8_compareTurn
  rcases e_ct2 h hs hl ht L.length 0 FU (by omega) (by unfold FU; omega) (fun j hj => by omega) with ⟨e, a⟩ | ⟨K, k1, k2, k3, a⟩
  · refine ⟨0, ?_, by omega, ?_, fun _ => e, fun _ => rfl⟩
    · rw [bd3_e (show mX8_compareTurn_2 S (t : Int) FU 0 = _ from a), if_neg (by decide)]
    · rw [e]
      exact ⟨fun q => by omega, fun q => absurd q (lxt_irr L)⟩
  · have ix := lxt_ix (l := rot t L) (m := L) rot_len
    rw [rot_len] at ix
    have md : (K + t) % L.length < L.length := Nat.mod_lt _ (by omega)
    have er := gx_rot (l := L) (t := t) (k := K) ht k1
    have b1 := hs.at md
    rw [← er] at b1
    have b2 := hs.at k1
    have c1 := cd_b b1
    have c2 := cd_b b2
    have ne : cdN (gx (rot t L) K) ≠ cdN (gx L K) := fun w => k3 ((cd_eq b1.2 b2.2).mp w)
    have ll : lxt (rot t L) L = true ↔ cdN (gx (rot t L) K) < cdN (gx L K) := by
      rw [ix, cd_lt b1.2 b2.2]
      constructor
      · rintro ⟨k, a1, a2, a3⟩
        rcases Nat.lt_trichotomy k K with q | q | q
        · rw [k2 k q] at a3
          have := plt_i.mp a3
          omega
        · rw [q] at a3; exact a3
        · exact absurd (a2 K q) k3
      · intro q; exact ⟨K, k1, k2, q⟩
    have re : ¬ rot t L = L := fun w => k3 (by rw [w])
    rw [bd3_e (show mX8_compareTurn_2 S (t : Int) FU 0 = _ from a), if_pos rfl, gd_t (by omega), h.at k1]
    refine ⟨_, rfl, by omega, ?_, ⟨fun w => by omega, fun w => absurd w re⟩⟩
    by_cases z : cdN (gx (rot t L) K) < cdN (gx L K)
    · exact ⟨fun _ => ll.mpr z, fun _ => by omega⟩
    · exact ⟨fun w => by omega, fun w => absurd (ll.mp w) z⟩
theorem e_first {S : St} {L : List (Nat × Nat)} (h : cds S L) (hs : smL' L) (hl : L.length ≤ 8) : mX8_isFirstTurn S = some (if lst L = true then 1 else 0) := by
  have key : ∀ (d t f : Nat), 1 ≤ t → t + d = L.length ∨ (d = 0 ∧ L.length ≤ t) → t ≤ 8 → d < f → (∀ j, j < t → j < L.length → ¬ lxt (rot j L) L = true) → mX8_isFirstTurn_2 S f (t : Int) = some (if lst L = true then 1 else 0) := by
    intro d
    induction d with
    | zero =>
      intro t f t1 ht t8 hf hj
      obtain ⟨f, rfl⟩ : ∃ f', f = f' + 1 := ⟨f - 1, by omega⟩
      rw [mX8_isFirstTurn_2, h.1, gd_t ⟨by omega, by omega⟩, if_pos (by omega), if_pos (lst_i.mpr (fun j hj' => hj j (by omega) hj'))]
    | succ d ih =>
      intro t f t1 ht t8 hf hj
      obtain ⟨f, rfl⟩ : ∃ f', f = f' + 1 := ⟨f - 1, by omega⟩
      obtain ⟨r, r1, r2, r3, r4⟩ := e_cTurn h hs hl (t := t) (by omega)
      rw [mX8_isFirstTurn_2, h.1, gd_t ⟨by omega, by omega⟩, if_neg (by omega), bd1_e r1, gd_t r2]
      by_cases z : lxt (rot t L) L = true
      · rw [if_neg (by have := r3.mpr z; omega), if_neg (fun w => lst_i.mp w t (by omega) z)]
      · have nr : ¬ r < 0 := fun q => z (r3.mp q)
        rw [if_pos (by omega)]
        have := ih (t + 1) f (by omega) (by omega) (by omega) (by omega) (fun j hj1 hj2 => by
          by_cases e : j = t
          · rw [e]; exact z
          · exact hj j (by omega) hj2)
        rw [show ((t + 1 : Nat) : Int) = (t : Int) + 1 by omega] at this
        exact this
  unfold mX8_isFirstTurn
  have k := key (L.length - 1) 1 FU (by omega) (by omega) (by omega) (by unfold FU; omega) (fun j hj hl => by
    rw [show j = 0 by omega, rot_0]; exact lxt_irr L)
  rw [bd1_e (show mX8_isFirstTurn_2 S FU 1 = _ from k)]
  by_cases z : lst L = true
  · rw [if_pos z, if_neg (by decide)]
  · rw [if_neg z, if_pos rfl]
theorem e_tAlike {S : St} {L : List (Nat × Nat)} (h : cds S L) (hs : smL' L) (hl : 1 ≤ L.length ∧ L.length ≤ 8) : mX8_turnsAlike S = some ((stb L : Nat) : Int) := by
  have key : ∀ (d t f : Nat), t + d = L.length → 1 ≤ t → d < f → mX8_turnsAlike_4 S f (t : Int) ((sm t (fun t => if rot t L = L then 1 else 0) : Nat) : Int) = some ((stb L : Nat) : Int) := by
    intro d
    induction d with
    | zero =>
      intro t f ht t1 hf
      obtain ⟨f, rfl⟩ : ∃ f', f = f' + 1 := ⟨f - 1, by omega⟩
      rw [mX8_turnsAlike_4, h.1, gd_t ⟨by omega, by omega⟩, if_pos (by omega)]
      unfold stb
      rw [show t = L.length by omega]
    | succ d ih =>
      intro t f ht t1 hf
      obtain ⟨f, rfl⟩ : ∃ f', f = f' + 1 := ⟨f - 1, by omega⟩
      obtain ⟨r, r1, r2, r3, r4⟩ := e_cTurn h hs hl.2 (t := t) (by omega)
      have ih' := ih (t + 1) f (by omega) (by omega) (by omega)
      rw [show ((t + 1 : Nat) : Int) = (t : Int) + 1 by omega, sm_s] at ih'
      rw [mX8_turnsAlike_4, h.1, gd_t ⟨by omega, by omega⟩, if_neg (by omega), bd1_e r1, gd_t r2]
      by_cases z : rot t L = L
      · rw [if_pos z] at ih'
        rw [if_pos (r4.mpr z)]
        exact ih'
      · rw [if_neg z] at ih'
        rw [if_neg (fun w => z (r4.mp w))]
        exact ih'
  unfold mX8_turnsAlike
  have k := key (L.length - 1) 1 FU (by omega) (by omega) (by unfold FU; omega)
  rw [sm_s, sm_0, Nat.zero_add, rot_0, if_pos rfl] at k
  rw [bd1_e (show mX8_turnsAlike_4 S FU 1 1 = _ from k)]
theorem e_cAlike {S : St} {L : List (Nat × Nat)} (h : cds S L) (hs : smL' L) (hl : L.length ≤ 8) : mX8_changesAlike S = some ((chg L : Nat) : Int) := by
  have l6 : ∀ (l : List (Nat × Nat)) (i r w f : Nat), i + l.length = L.length → (∀ j, j < l.length → gx l j = gx L (i + j)) → 1 ≤ i → l.length < f → mX8_changesAlike_6 S f (i : Int) (r : Int) (w : Int) = some ((chG (gx L (i - 1)) r w l : Nat) : Int) := by
    intro l
    induction l with
    | nil =>
      intro i r w f hi _ i1 hf
      obtain ⟨f, rfl⟩ : ∃ f', f = f' + 1 := ⟨f - 1, by omega⟩
      rw [List.length_nil] at hi
      rw [mX8_changesAlike_6, h.1, gd_t ⟨by omega, by omega⟩, if_pos (by omega)]
      rfl
    | cons x l ih =>
      intro i r w f hi hg i1 hf
      obtain ⟨f, rfl⟩ : ∃ f', f = f' + 1 := ⟨f - 1, by omega⟩
      rw [List.length_cons] at hi hf
      have ex : x = gx L i := hg 0 (by rw [List.length_cons]; omega)
      have b1 := hs.at (show i < L.length by omega)
      have b2 := hs.at (show i - 1 < L.length by omega)
      have c1 := cd_b b1
      have c2 := cd_b b2
      have z14 : (gd ((inI (S 62 (i : Int))) ∧ (inI (S 62 ((i : Int) - 1)))) <| if S 62 (i : Int) = S 62 ((i : Int) - 1) then some ((r : Int) + 1) else some 1) = some (((if gx L (i - 1) = x then r + 1 else 1 : Nat) : Nat) : Int) := by
        rw [show (i : Int) - 1 = ((i - 1 : Nat) : Int) by omega, h.at (show i < L.length by omega), h.at (show i - 1 < L.length by omega), gd_t ⟨by omega, by omega⟩, ex]
        by_cases z : gx L (i - 1) = gx L i
        · rw [if_pos (by rw [z]), if_pos z]; rfl
        · rw [if_neg (fun w => z ((cd_eq b2.2 b1.2).mp (by omega))), if_neg z]; rfl
      have := ih (i + 1) (if gx L (i - 1) = x then r + 1 else 1) (w * (if gx L (i - 1) = x then r + 1 else 1)) f (by omega) (fun j hj => by
        have := hg (j + 1) (by rw [List.length_cons]; omega)
        rw [show i + 1 + j = i + (j + 1) by omega]
        exact this) (by omega) (by omega)
      rw [show ((i + 1 : Nat) : Int) = (i : Int) + 1 by omega, Nat.add_sub_cancel, Int.natCast_mul, ← ex] at this
      rw [mX8_changesAlike_6, h.1, gd_t ⟨by omega, by omega⟩, if_neg (by omega), gd_t (by omega), gd_t (by omega), bd1_e z14, nx_e]
      exact this
  unfold mX8_changesAlike
  cases L with
  | nil =>
    rw [show FU = 1999999 + 1 from rfl, mX8_changesAlike_6, h.1, List.length_nil, gd_t ⟨by omega, by omega⟩, if_pos (by omega)]
    rfl
  | cons a l =>
    have := l6 l 1 1 1 FU (by rw [List.length_cons]; omega) (fun j hj => by rw [Nat.add_comm 1 j]; rfl) (Nat.le_refl _) (by rw [List.length_cons] at hl; unfold FU; omega)
    rw [bd1_e (show mX8_changesAlike_6 S FU 1 1 1 = _ from this)]
    rfl
