/-! things in a row by place; the reference's look at rings -/
def gx (l : List (Nat × Nat)) (i : Nat) : Nat × Nat := l[i]?.getD (0, 0)
theorem gx_some {l : List (Nat × Nat)} {i : Nat} (h : i < l.length) : l[i]? = some (gx l i) := by
  unfold gx
  rw [List.getElem?_eq_getElem h]; rfl
theorem gx_c0 {a : Nat × Nat} {l : List (Nat × Nat)} : gx (a :: l) 0 = a := rfl
theorem gx_cs {a : Nat × Nat} {l : List (Nat × Nat)} {i : Nat} : gx (a :: l) (i + 1) = gx l i := rfl
theorem gx_ext : ∀ {l m : List (Nat × Nat)}, l.length = m.length → (∀ i, i < l.length → gx l i = gx m i) → l = m := by
  intro l
  induction l with
  | nil => intro m h _; exact (List.eq_nil_of_length_eq_zero h.symm).symm
  | cons a l ih =>
    intro m h k
    cases m with
    | nil => cases h
    | cons b m =>
      rw [List.length_cons, List.length_cons] at h
      rw [show a = b from k 0 (by rw [List.length_cons]; omega), ih (m := m) (by omega) (fun i hi => k (i + 1) (by rw [List.length_cons]; omega))]
theorem gx_app {l m : List (Nat × Nat)} {i : Nat} : gx (l ++ m) i = if i < l.length then gx l i else gx m (i - l.length) := by
  unfold gx
  by_cases z : i < l.length
  · rw [if_pos z, List.getElem?_append_left z]
  · rw [if_neg z, List.getElem?_append_right (by omega)]
theorem gx_rot {l : List (Nat × Nat)} {t k : Nat} (ht : t < l.length) (hk : k < l.length) : gx (rot t l) k = gx l ((k + t) % l.length) := by
  unfold rot
  rw [gx_app, List.length_drop]
  by_cases z : k < l.length - t
  · rw [if_pos z, Nat.mod_eq_of_lt (by omega)]
    unfold gx
    rw [List.getElem?_drop, Nat.add_comm]
  · rw [if_neg z, Nat.mod_eq_sub_mod (by omega), Nat.mod_eq_of_lt (by omega)]
    unfold gx
    rw [List.getElem?_take, if_pos (by omega), show k - (l.length - t) = k + t - l.length by omega]
theorem lxt_ix : ∀ {l m : List (Nat × Nat)}, l.length = m.length → (lxt l m = true ↔ ∃ k, k < l.length ∧ (∀ j, j < k → gx l j = gx m j) ∧ plt (gx l k) (gx m k) = true) := by
  intro l
  induction l with
  | nil => intro m h; exact ⟨fun q => (by cases q), fun ⟨k, a, _⟩ => by cases a⟩
  | cons a l ih =>
    intro m h
    cases m with
    | nil => cases h
    | cons b m =>
      rw [List.length_cons, List.length_cons] at h
      rw [lxt_c, ih (by omega)]
      constructor
      · rintro (q | ⟨q, k, k1, k2, k3⟩)
        · exact ⟨0, by rw [List.length_cons]; omega, fun j hj => by omega, q⟩
        · refine ⟨k + 1, by rw [List.length_cons]; omega, fun j hj => ?_, k3⟩
          cases j with
          | zero => exact q
          | succ j => exact k2 j (by omega)
      · rintro ⟨k, k1, k2, k3⟩
        cases k with
        | zero => exact Or.inl k3
        | succ k =>
          refine Or.inr ⟨k2 0 (by omega), k, by rw [List.length_cons] at k1; omega, fun j hj => k2 (j + 1) (by omega), k3⟩
theorem els_i : ∀ (L : List (Nat × Nat)) (T : St) (b : Nat), els T b L ↔ ∀ i, i < L.length → T 97 ((b + i : Nat) : Int) = ((gx L i).1 : Int) ∧ T 98 ((b + i : Nat) : Int) = ((gx L i).2 : Int) := by
  intro L
  induction L with
  | nil => intro T b; exact ⟨fun _ i hi => (by cases hi), fun _ => trivial⟩
  | cons x L ih =>
    intro T b
    show (T 97 (b : Int) = (x.1 : Int) ∧ T 98 (b : Int) = (x.2 : Int)) ∧ els T (b + 1) L ↔ _
    rw [ih]
    constructor
    · rintro ⟨h1, h2⟩ i hi
      cases i with
      | zero => exact h1
      | succ i =>
        have := h2 i (by rw [List.length_cons] at hi; omega)
        rw [show b + 1 + i = b + (i + 1) by omega] at this
        exact this
    · intro h
      refine ⟨h 0 (by rw [List.length_cons]; omega), fun i hi => ?_⟩
      have := h (i + 1) (by rw [List.length_cons]; omega)
      rw [show b + (i + 1) = b + 1 + i by omega] at this
      exact this
theorem els.of {T T' : St} {b : Nat} {L : List (Nat × Nat)} (h : els T b L) (k : ∀ i, i < L.length → T' 97 ((b + i : Nat) : Int) = T 97 ((b + i : Nat) : Int) ∧ T' 98 ((b + i : Nat) : Int) = T 98 ((b + i : Nat) : Int)) : els T' b L := by
  rw [els_i] at h ⊢
  intro i hi
  rw [(k i hi).1, (k i hi).2]
  exact h i hi
/-- codes are small -/
def smL' (L : List (Nat × Nat)) : Prop := ∀ x ∈ L, x.1 ≤ 7 ∧ x.2 ≤ 1023
theorem smL'.at {L : List (Nat × Nat)} (h : smL' L) {i : Nat} (hi : i < L.length) : (gx L i).1 ≤ 7 ∧ (gx L i).2 ≤ 1023 := h _ (List.mem_of_getElem? (gx_some hi))
theorem e_alike {T : St} {b : Nat} {L : List (Nat × Nat)} (h : els T b L) (hs : smL' L) (hb : b + L.length ≤ 512) {i j : Nat} (hi : i < L.length) (hj : j < L.length) : mX12_areAlike T ((b + i : Nat) : Int) ((b + j : Nat) : Int) = some (if gx L i = gx L j then 1 else 0) := by
  rw [els_i] at h
  obtain ⟨a1, a2⟩ := h i hi
  obtain ⟨b1, b2⟩ := h j hj
  have s1 := hs.at hi
  have s2 := hs.at hj
  unfold mX12_areAlike
  rw [gd_t (by omega), gd_t (by omega), a1, b1, gd_t ⟨by omega, by omega⟩, a2, b2]
  by_cases z : gx L i = gx L j
  · rw [if_pos (by rw [z]), gd_t ⟨by omega, by omega⟩, if_pos (by rw [z]), if_pos z]
  · rw [if_neg z]
    by_cases y : (gx L i).1 = (gx L j).1
    · rw [if_pos (by omega), gd_t ⟨by omega, by omega⟩, if_neg (fun w => z (p_eq y (by omega)))]
    · rw [if_neg (by omega)]
theorem e_below {T : St} {b s r : Nat} {L : List (Nat × Nat)} (h : els T b L) (hs : smL' L) (hb : b + L.length ≤ 512) {j : Nat} (hj : j < L.length) (h1 : s ≤ 7) (h2 : r ≤ 2000000) : mX12_isBelow T (s : Int) (r : Int) ((b + j : Nat) : Int) = some (if plt (s, r) (gx L j) = true then 1 else 0) := by
  rw [els_i] at h
  obtain ⟨b1, b2⟩ := h j hj
  have s2 := hs.at hj
  unfold mX12_isBelow
  rw [gd_t (by omega), b1, gd_t ⟨by omega, by omega⟩]
  by_cases z : s < (gx L j).1
  · rw [if_pos (by omega), if_pos (plt_i.mpr (Or.inl z))]
  · rw [if_neg (by omega)]
    by_cases y : s = (gx L j).1
    · rw [if_pos (by omega), b2, gd_t ⟨by omega, by omega⟩]
      by_cases x : (gx L j).2 ≤ r
      · rw [if_pos (by omega), if_neg (fun w => by have := plt_i.mp w; dsimp only at this; omega)]
      · rw [if_neg (by omega), if_pos (plt_i.mpr (Or.inr ⟨y, by show r < _; omega⟩))]
    · rw [if_neg (by omega), if_neg (fun w => by have := plt_i.mp w; dsimp only at this; omega)]
/-- up to where a turn is as the row itself -/
theorem e_il17 {T : St} {b : Nat} {L : List (Nat × Nat)} (h : els T b L) (hs : smL' L) (hb : b + L.length ≤ 512) {t : Nat} (ht : t < L.length) : ∀ (d k f : Nat), k + d = L.length → d < f → (∀ j : Nat, j < k → gx (rot t L) j = gx L j) → ∃ K : Nat, mX12_isLeast_17 T (t : Int) ((L.length : Nat) : Int) (b : Int) f (k : Int) = some (K : Int) ∧ K ≤ L.length ∧ (∀ j : Nat, j < K → gx (rot t L) j = gx L j) ∧ (K < L.length → gx (rot t L) K ≠ gx L K) := by
  intro d
  induction d with
  | zero =>
    intro k f hk hf hj
    obtain ⟨f, rfl⟩ : ∃ f', f = f' + 1 := ⟨f - 1, by omega⟩
    refine ⟨k, ?_, by omega, hj, fun z => by omega⟩
    rw [mX12_isLeast_17, gd_t (by omega), if_pos (by omega)]
  | succ d ih =>
    intro k f hk hf hj
    obtain ⟨f, rfl⟩ : ∃ f', f = f' + 1 := ⟨f - 1, by omega⟩
    have md : (k + t) % L.length < L.length := Nat.mod_lt _ (by omega)
    have st : mX12_isLeast_17 T (t : Int) ((L.length : Nat) : Int) (b : Int) (f + 1) (k : Int) = if gx L k = gx L ((k + t) % L.length) then mX12_isLeast_17 T (t : Int) ((L.length : Nat) : Int) (b : Int) f ((k : Int) + 1) else some (k : Int) := by
      rw [mX12_isLeast_17, gd_t (by omega), if_neg (by omega), gd_t ⟨by omega, by omega⟩, show (b : Int) + (k : Int) = ((b + k : Nat) : Int) by omega, show (b : Int) + ((k : Int) + (t : Int)) % ((L.length : Nat) : Int) = ((b + (k + t) % L.length : Nat) : Int) by rw [Int.natCast_add, Int.natCast_emod, Int.natCast_add], bd1_e (e_alike h hs hb (by omega) md)]
      by_cases z : gx L k = gx L ((k + t) % L.length)
      · rw [if_pos z, if_pos z, gd_t (by decide), if_neg (by decide)]
      · rw [if_neg z, if_neg z, gd_t (by decide), if_pos rfl]
    have er := gx_rot (l := L) ht (show k < L.length by omega)
    by_cases z : gx L k = gx L ((k + t) % L.length)
    · rw [st, if_pos z]
      have := ih (k + 1) f (by omega) (by omega) (fun j hj' => by
        by_cases e : j = k
        · rw [e, er, z]
        · exact hj j (by omega))
      rw [show ((k + 1 : Nat) : Int) = (k : Int) + 1 by omega] at this
      exact this
    · exact ⟨k, by rw [st, if_neg z], by omega, hj, fun _ e => z (by rw [← er, e])⟩
theorem e_isLeast {T : St} {b : Nat} {L : List (Nat × Nat)} (h : els T b L) (hs : smL' L) (hb : b + L.length ≤ 512) (hT : T 83 31 = ((b + L.length : Nat) : Int)) : mX12_isLeast T (b : Int) = some (if lst L = true then 1 else 0) := by
  have key : ∀ (d t f : Nat), 1 ≤ t → t + d = L.length ∨ (d = 0 ∧ L.length ≤ t) → d < f → (∀ j, j < t → j < L.length → ¬ lxt (rot j L) L = true) → t ≤ 512 → mX12_isLeast_9 T ((L.length : Nat) : Int) (b : Int) f (t : Int) = some (if lst L = true then 1 else 0) := by
    intro d
    induction d with
    | zero =>
      intro t f t1 ht hf hj ht5
      obtain ⟨f, rfl⟩ : ∃ f', f = f' + 1 := ⟨f - 1, by omega⟩
      rw [mX12_isLeast_9, gd_t ⟨by omega, by omega⟩, if_pos (by omega), if_pos (lst_i.mpr (fun j hj' => hj j (by omega) hj'))]
    | succ d ih =>
      intro t f t1 ht hf hj ht5
      obtain ⟨f, rfl⟩ : ∃ f', f = f' + 1 := ⟨f - 1, by omega⟩
      have ht' : t + (d + 1) = L.length := by
        rcases ht with a | a
        · exact a
        · omega
      clear ht
      obtain ⟨K, k1, k2, k3, k4⟩ := e_il17 h hs hb (t := t) (by omega) L.length 0 FU (by omega) (by unfold FU; omega) (fun j hj => by omega)
      have ix := lxt_ix (l := rot t L) (m := L) rot_len
      rw [rot_len] at ix
      rw [mX12_isLeast_9, gd_t ⟨by omega, by omega⟩, if_neg (by omega), bd1_e (show mX12_isLeast_17 T (t : Int) ((L.length : Nat) : Int) (b : Int) FU 0 = _ from k1), gd_t (by omega)]
      have go : ¬ lxt (rot t L) L = true → mX12_isLeast_9 T ((L.length : Nat) : Int) (b : Int) f ((t : Int) + 1) = some (if lst L = true then 1 else 0) := fun q => by
        have := ih (t + 1) f (Nat.le_add_left 1 t) (Or.inl (by rw [← ht']; omega)) (Nat.lt_of_succ_lt_succ hf) (fun j hj1 hj2 => by
          by_cases e : j = t
          · rw [e]; exact q
          · exact hj j (by omega) hj2) (by omega)
        rw [show ((t + 1 : Nat) : Int) = (t : Int) + 1 by omega] at this
        exact this
      by_cases z : K = L.length
      · rw [if_pos (by omega)]
        refine go (fun w => ?_)
        obtain ⟨k, a1, a2, a3⟩ := ix.mp w
        rw [k3 k (by omega)] at a3
        have := plt_i.mp a3
        omega
      · have md : (K + t) % L.length < L.length := Nat.mod_lt _ (by omega)
        have h' := (els_i L T b).mp h ((K + t) % L.length) md
        have sm := hs.at md
        rw [if_neg (by omega), gd_t ⟨by omega, by omega⟩, show (b : Int) + ((K : Int) + (t : Int)) % ((L.length : Nat) : Int) = ((b + (K + t) % L.length : Nat) : Int) by rw [Int.natCast_add, Int.natCast_emod, Int.natCast_add], gd_t (by omega), h'.1, h'.2, show (b : Int) + (K : Int) = ((b + K : Nat) : Int) by omega, bd1_e (e_below h hs hb (show K < L.length by omega) sm.1 (by omega))]
        have er := gx_rot (l := L) (t := t) (k := K) (by omega) (by omega)
        rw [show (((gx L ((K + t) % L.length)).1, (gx L ((K + t) % L.length)).2) : Nat × Nat) = gx (rot t L) K from er.symm]
        by_cases y : plt (gx (rot t L) K) (gx L K) = true
        · rw [if_pos y, gd_t (by decide), if_neg (by decide), if_neg (fun w => lst_i.mp w t (by omega) (ix.mpr ⟨K, by omega, k3, y⟩))]
        · rw [if_neg y, gd_t (by decide), if_pos rfl]
          refine go (fun w => ?_)
          obtain ⟨k, a1, a2, a3⟩ := ix.mp w
          rcases Nat.lt_trichotomy k K with q | q | q
          · rw [k3 k q] at a3
            have := plt_i.mp a3
            omega
          · rw [q] at a3; exact y a3
          · exact k4 (by omega) (a2 K q)
  unfold mX12_isLeast
  rw [hT, nx_e, show ((b + L.length : Nat) : Int) - (b : Int) = ((L.length : Nat) : Int) by omega]
  have k := key (L.length - 1) 1 FU (by omega) (by omega) (by unfold FU; omega) (fun j hj hl => by
    rw [show j = 0 by omega, rot_0]; exact lxt_irr L) (by omega)
  rw [bd1_e (show mX12_isLeast_9 T ((L.length : Nat) : Int) (b : Int) FU 1 = _ from k)]
  by_cases z : lst L = true
  · rw [if_pos z, if_neg (by decide)]
  · rw [if_neg z, if_pos rfl]
/-- by how many turns a ring is as before -/
def stb (L : List (Nat × Nat)) : Nat := sm L.length (fun t => if rot t L = L then 1 else 0)
theorem rot_id {L : List (Nat × Nat)} {t : Nat} (ht : t < L.length) : rot t L = L ↔ ∀ k, k < L.length → gx L k = gx L ((k + t) % L.length) := by
  constructor
  · intro e k hk
    rw [← gx_rot ht hk, e]
  · intro h
    exact gx_ext rot_len (fun i hi => by
      rw [rot_len] at hi
      rw [gx_rot ht hi, ← h i hi])
theorem e_turnsIn {T : St} {b : Nat} {L : List (Nat × Nat)} (h : els T b L) (hs : smL' L) (hb : b + L.length ≤ 512) : mX12_turnsIn T (b : Int) ((b + L.length : Nat) : Int) = some ((stb L : Nat) : Int) := by
  have l22 : ∀ (t : Nat) (x : Int), t < L.length → ∀ (d k f : Nat), k + d = L.length → d + 1 < f → (∀ j, j < k → gx L j = gx L ((j + t) % L.length)) → mX12_turnsIn_22 T (t : Int) x ((L.length : Nat) : Int) (b : Int) f (k : Int) 1 = some (if rot t L = L then 1 else 0) := by
    intro t x ht d
    induction d with
    | zero =>
      intro k f hk hf hj
      obtain ⟨f, rfl⟩ : ∃ f', f = f' + 1 := ⟨f - 1, by omega⟩
      rw [mX12_turnsIn_22, gd_t (by omega), if_pos (by omega), if_pos ((rot_id ht).mpr (fun j hj' => hj j (by omega)))]
    | succ d ih =>
      intro k f hk hf hj
      obtain ⟨f, rfl⟩ : ∃ f', f = f' + 1 := ⟨f - 1, by omega⟩
      have md : (k + t) % L.length < L.length := Nat.mod_lt _ (by omega)
      rw [mX12_turnsIn_22, gd_t (by omega), if_neg (by omega), gd_t (by decide), if_neg (by decide), gd_t ⟨by omega, by omega⟩, show (b : Int) + (k : Int) = ((b + k : Nat) : Int) by omega, show (b : Int) + ((k : Int) + (t : Int)) % ((L.length : Nat) : Int) = ((b + (k + t) % L.length : Nat) : Int) by rw [Int.natCast_add, Int.natCast_emod, Int.natCast_add], bd1_e (e_alike h hs hb (by omega) md)]
      by_cases z : gx L k = gx L ((k + t) % L.length)
      · rw [if_pos z]
        have := ih (k + 1) f (by omega) (by omega) (fun j hj' => by
          by_cases e : j = k
          · rw [e]; exact z
          · exact hj j (by omega))
        rw [show ((k + 1 : Nat) : Int) = (k : Int) + 1 by omega] at this
        exact this
      · rw [if_neg z]
        obtain ⟨f, rfl⟩ : ∃ f', f = f' + 1 := ⟨f - 1, by omega⟩
        rw [mX12_turnsIn_22, gd_t (by omega), if_neg (fun w => z ((rot_id ht).mp w k (by omega)))]
        by_cases y : ((L.length : Nat) : Int) ≤ (k : Int) + 1
        · rw [if_pos y]
        · rw [if_neg y, gd_t (by decide), if_pos rfl]
  have l10 : ∀ (d t f : Nat), t + d = L.length → d < f → mX12_turnsIn_10 T ((L.length : Nat) : Int) (b : Int) f (t : Int) ((sm t (fun t => if rot t L = L then 1 else 0) : Nat) : Int) = some ((stb L : Nat) : Int) := by
    intro d
    induction d with
    | zero =>
      intro t f ht hf
      obtain ⟨f, rfl⟩ : ∃ f', f = f' + 1 := ⟨f - 1, by omega⟩
      rw [mX12_turnsIn_10, gd_t ⟨by omega, by omega⟩, if_pos (by omega)]
      unfold stb
      rw [show t = L.length by omega]
    | succ d ih =>
      intro t f ht hf
      obtain ⟨f, rfl⟩ : ∃ f', f = f' + 1 := ⟨f - 1, by omega⟩
      have k := l22 t ((sm t (fun t => if rot t L = L then 1 else 0) : Nat) : Int) (by omega) L.length 0 FU (by omega) (by unfold FU; omega) (fun j hj => by omega)
      have ih' := ih (t + 1) f (by omega) (by omega)
      rw [show ((t + 1 : Nat) : Int) = (t : Int) + 1 by omega, sm_s] at ih'
      rw [mX12_turnsIn_10, gd_t ⟨by omega, by omega⟩, if_neg (by omega), bd1_e (show mX12_turnsIn_22 T (t : Int) _ ((L.length : Nat) : Int) (b : Int) FU 0 1 = _ from k)]
      by_cases z : rot t L = L
      · rw [if_pos z] at ih'
        rw [if_pos z, gd_t (by decide), if_neg (by decide), nx_e]
        exact ih'
      · rw [if_neg z] at ih'
        rw [if_neg z, gd_t (by decide), if_pos rfl, nx_e]
        exact ih'
  unfold mX12_turnsIn
  rw [nx_e, show ((b + L.length : Nat) : Int) - (b : Int) = ((L.length : Nat) : Int) by omega, bd1_e (show mX12_turnsIn_10 T ((L.length : Nat) : Int) (b : Int) FU 0 0 = _ from l10 L.length 0 FU (by omega) (by unfold FU; omega))]
/-- in how many ways like things side by side change places -/
def chG : Nat × Nat → Nat → Nat → List (Nat × Nat) → Nat
  | _, _, w, [] => w
  | a, r, w, x :: l => chG x (if a = x then r + 1 else 1) (w * (if a = x then r + 1 else 1)) l
def chg : List (Nat × Nat) → Nat
  | [] => 1
  | a :: l => chG a 1 1 l
theorem e_changes {T : St} {b : Nat} {L : List (Nat × Nat)} (h : els T b L) (hs : smL' L) (hb : b + L.length ≤ 512) : mX12_changes T (b : Int) ((b + L.length : Nat) : Int) = some ((chg L : Nat) : Int) := by
  have l10 : ∀ (l : List (Nat × Nat)) (i r w f : Nat), i + l.length = L.length → (∀ j, j < l.length → gx l j = gx L (i + j)) → 1 ≤ i → l.length < f → mX12_changes_10 T ((b + L.length : Nat) : Int) f ((b + i : Nat) : Int) (r : Int) (w : Int) = some ((chG (gx L (i - 1)) r w l : Nat) : Int) := by
    intro l
    induction l with
    | nil =>
      intro i r w f hi _ i1 hf
      obtain ⟨f, rfl⟩ : ∃ f', f = f' + 1 := ⟨f - 1, by omega⟩
      rw [List.length_nil] at hi
      rw [mX12_changes_10, gd_t ⟨by omega, by omega⟩, if_pos (by omega)]
      rfl
    | cons x l ih =>
      intro i r w f hi hg i1 hf
      obtain ⟨f, rfl⟩ : ∃ f', f = f' + 1 := ⟨f - 1, by omega⟩
      rw [List.length_cons] at hi hf
      have ex : x = gx L i := hg 0 (by rw [List.length_cons]; omega)
      rw [mX12_changes_10, gd_t ⟨by omega, by omega⟩, if_neg (by omega), show ((b + i : Nat) : Int) - 1 = ((b + (i - 1) : Nat) : Int) by omega, bd1_e (e_alike h hs hb (by omega) (by omega))]
      have z15 : (gd (inI (if gx L (i - 1) = gx L i then (1 : Int) else 0)) <| if (if gx L (i - 1) = gx L i then (1 : Int) else 0) = 0 then some 1 else some ((r : Int) + 1)) = some (((if gx L (i - 1) = x then r + 1 else 1 : Nat) : Nat) : Int) := by
        rw [ex]
        by_cases z : gx L (i - 1) = gx L i
        · rw [if_pos z, if_pos z, gd_t (by decide), if_neg (by decide)]; rfl
        · rw [if_neg z, if_neg z, gd_t (by decide), if_pos rfl]; rfl
      have := ih (i + 1) (if gx L (i - 1) = x then r + 1 else 1) (w * (if gx L (i - 1) = x then r + 1 else 1)) f (by omega) (fun j hj => by
        have := hg (j + 1) (by rw [List.length_cons]; omega)
        rw [show i + 1 + j = i + (j + 1) by omega]
        exact this) (by omega) (by omega)
      rw [show ((b + (i + 1) : Nat) : Int) = ((b + i : Nat) : Int) + 1 by omega, Nat.add_sub_cancel, Int.natCast_mul, ← ex] at this
      rw [bd1_e z15, nx_e]
      exact this
  unfold mX12_changes
  cases L with
  | nil =>
    rw [nx_e, show FU = 1999999 + 1 from rfl, mX12_changes_10, List.length_nil, gd_t ⟨by rw [List.length_nil] at hb; omega, by rw [List.length_nil] at hb; omega⟩, if_pos (by omega)]
    rfl
  | cons a l =>
    rw [nx_e]
    have := l10 l 1 1 1 FU (by rw [List.length_cons]; omega) (fun j hj => by rw [Nat.add_comm 1 j]; rfl) (Nat.le_refl _) (by rw [List.length_cons] at hb; unfold FU; omega)
    rw [show ((b + 1 : Nat) : Int) = (b : Int) + 1 by omega] at this
    rw [bd1_e (show mX12_changes_10 T ((b + (a :: l).length : Nat) : Int) FU ((b : Int) + 1) 1 1 = _ from this)]
    rfl
