/-! texts in an order of their own -/
def lxc : List Int → List Int → Int
  | [], [] => 0
  | [], _ :: _ => -1
  | _ :: _, [] => 1
  | a :: l, b :: m => if a = b then lxc l m else if a < b then -1 else 1
theorem lxc_rf : ∀ l : List Int, lxc l l = 0 := by
  intro l
  induction l with
  | nil => rfl
  | cons a l ih => show (if a = a then lxc l l else _) = 0; rw [if_pos rfl, ih]
theorem lxc_3 : ∀ l m : List Int, lxc l m = -1 ∨ lxc l m = 0 ∨ lxc l m = 1 := by
  intro l
  induction l with
  | nil => intro m; cases m with
    | nil => exact Or.inr (Or.inl rfl)
    | cons b m => exact Or.inl rfl
  | cons a l ih => intro m; cases m with
    | nil => exact Or.inr (Or.inr rfl)
    | cons b m =>
      show (if a = b then lxc l m else if a < b then -1 else 1) = -1 ∨ (if a = b then lxc l m else if a < b then -1 else 1) = 0 ∨ (if a = b then lxc l m else if a < b then -1 else 1) = 1
      split
      · exact ih m
      · split
        · exact Or.inl rfl
        · exact Or.inr (Or.inr rfl)
theorem lxc_an : ∀ l m : List Int, lxc m l = - lxc l m := by
  intro l
  induction l with
  | nil => intro m; cases m <;> rfl
  | cons a l ih => intro m; cases m with
    | nil => rfl
    | cons b m =>
      show (if b = a then lxc m l else if b < a then -1 else 1) = - (if a = b then lxc l m else if a < b then -1 else 1)
      by_cases c : a = b
      · rw [if_pos c, if_pos c.symm, ih]
      · rw [if_neg c, if_neg (fun e => c e.symm)]
        by_cases d : a < b
        · rw [if_pos d, if_neg (by omega)]; rfl
        · rw [if_neg d, if_pos (by omega)]
theorem lxc_0 : ∀ {l m : List Int}, lxc l m = 0 → l = m := by
  intro l
  induction l with
  | nil => intro m h; cases m with
    | nil => rfl
    | cons b m => exact absurd h (by show ¬ ((-1 : Int) = 0); decide)
  | cons a l ih => intro m h; cases m with
    | nil => exact absurd h (by show ¬ ((1 : Int) = 0); decide)
    | cons b m =>
      have h' : (if a = b then lxc l m else if a < b then -1 else 1) = (0 : Int) := h
      by_cases c : a = b
      · rw [if_pos c] at h'
        rw [c, ih h']
      · rw [if_neg c] at h'
        split at h' <;> omega
theorem lxc_tr : ∀ {l m n : List Int}, lxc l m ≤ 0 → lxc m n ≤ 0 → lxc l n ≤ 0 := by
  intro l
  induction l with
  | nil => intro m n _ _; cases n with
    | nil => exact Int.le_refl _
    | cons b n => show (-1 : Int) ≤ 0; decide
  | cons a l ih =>
    intro m n h k
    cases m with
    | nil => exact absurd h (by show ¬ ((1 : Int) ≤ 0); decide)
    | cons b m =>
      cases n with
      | nil => exact absurd k (by show ¬ ((1 : Int) ≤ 0); decide)
      | cons c n =>
        have h' : (if a = b then lxc l m else if a < b then -1 else 1) ≤ (0 : Int) := h
        have k' : (if b = c then lxc m n else if b < c then -1 else 1) ≤ (0 : Int) := k
        show (if a = c then lxc l n else if a < c then -1 else 1) ≤ (0 : Int)
        by_cases e1 : a = b
        · subst e1
          rw [if_pos rfl] at h'
          by_cases e2 : a = c
          · rw [if_pos e2] at k' ⊢
            exact ih h' k'
          · rw [if_neg e2] at k' ⊢
            exact k'
        · rw [if_neg e1] at h'
          have l1 : a < b := by
            by_cases z : a < b
            · exact z
            · rw [if_neg z] at h'; omega
          by_cases e2 : b = c
          · subst e2
            rw [if_neg e1, if_pos l1]; decide
          · rw [if_neg e2] at k'
            have l2 : b < c := by
              by_cases z : b < c
              · exact z
              · rw [if_neg z] at k'; omega
            rw [if_neg (by omega), if_pos (by omega)]; decide
def lle (a b : List Int) : Bool := decide (lxc a b ≤ 0)
theorem lle_tr (a b c : List Int) (h : lle a b = true) (k : lle b c = true) : lle a c = true := decide_eq_true (lxc_tr (of_decide_eq_true h) (of_decide_eq_true k))
theorem lle_to (a b : List Int) : (lle a b || lle b a) = true := by
  have := lxc_an a b
  rcases lxc_3 a b with h | h | h
  · rw [show lle a b = true from decide_eq_true (by omega)]; rfl
  · rw [show lle a b = true from decide_eq_true (by omega)]; rfl
  · rw [show lle b a = true from decide_eq_true (by omega)]; exact Bool.or_true _
theorem lle_as (a b : List Int) (h : lle a b = true) (k : lle b a = true) : a = b := by
  have h' := of_decide_eq_true h
  have k' := of_decide_eq_true k
  have := lxc_an a b
  exact lxc_0 (by omega)
def srtT (l : List (List Int)) : List (List Int) := l.mergeSort lle
theorem srtT_pm (l : List (List Int)) : (srtT l).Perm l := List.mergeSort_perm l lle
theorem srtT_pw (l : List (List Int)) : (srtT l).Pairwise (fun a b => lle a b = true) := List.pairwise_mergeSort lle_tr lle_to l
theorem srtT_eq {l m : List (List Int)} (h : l.Perm m) : srtT l = srtT m := List.Perm.eq_of_pairwise (le := fun a b => lle a b = true) (fun a b _ _ x y => lle_as a b x y) (srtT_pw l) (srtT_pw m) ((srtT_pm l).trans (h.trans (srtT_pm m).symm))
/-- whatever is in order and of the same is it -/
theorem srtT_of {l m : List (List Int)} (h : m.Perm l) (k : m.Pairwise (fun a b => lle a b = true)) : m = srtT l := List.Perm.eq_of_pairwise (le := fun a b => lle a b = true) (fun a b _ _ x y => lle_as a b x y) k (srtT_pw l) (h.trans (srtT_pm l).symm)
/-! turned round -/
def RT {α : Type} (l m : List α) : Prop := ∃ a b, l = a ++ b ∧ m = b ++ a
theorem RT.rf {α : Type} (l : List α) : RT l l := ⟨[], l, rfl, (List.append_nil l).symm⟩
theorem RT.sy {α : Type} {l m : List α} (h : RT l m) : RT m l := by
  obtain ⟨a, b, h1, h2⟩ := h
  exact ⟨b, a, h2, h1⟩
theorem RT.tr {α : Type} {l m n : List α} (h : RT l m) (k : RT m n) : RT l n := by
  obtain ⟨a, b, h1, h2⟩ := h
  obtain ⟨c, d, k1, k2⟩ := k
  rw [h2] at k1
  rcases List.append_eq_append_iff.mp k1 with ⟨x, x1, x2⟩ | ⟨x, x1, x2⟩
  · -- c = b ++ x, a = x ++ d
    subst x1; subst x2
    exact ⟨x, d ++ b, by rw [h1, List.append_assoc], by rw [k2, List.append_assoc]⟩
  · -- b = c ++ x, d = x ++ a
    subst x1; subst x2
    exact ⟨a ++ c, x, by rw [h1, List.append_assoc], by rw [k2, List.append_assoc]⟩
theorem RT.pm {α : Type} {l m : List α} (h : RT l m) : l.Perm m := by
  obtain ⟨a, b, h1, h2⟩ := h
  rw [h1, h2]
  exact List.perm_append_comm
def rotL (k : Nat) (l : List (List Int)) : List (List Int) := l.drop k ++ l.take k
theorem rotL_rt (k : Nat) (l : List (List Int)) : RT l (rotL k l) := ⟨l.take k, l.drop k, (List.take_append_drop k l).symm, rfl⟩
def rngB (l : List (List Int)) : Nat → Nat
  | 0 => 0
  | j + 1 => if lxc (rotL j l).flatten (rotL (rngB l j) l).flatten < 0 then j else rngB l j
def rngT (l : List (List Int)) : List (List Int) := rotL (rngB l l.length) l
theorem rngB_mn (l : List (List Int)) : ∀ j k : Nat, k < j → lxc (rotL (rngB l j) l).flatten (rotL k l).flatten ≤ 0 := by
  intro j
  induction j with
  | zero => intro k h; omega
  | succ j ih =>
    intro k h
    have e : rngB l (j + 1) = (if lxc (rotL j l).flatten (rotL (rngB l j) l).flatten < 0 then j else rngB l j) := rfl
    rw [e]
    by_cases c : lxc (rotL j l).flatten (rotL (rngB l j) l).flatten < 0
    · rw [if_pos c]
      by_cases d : k = j
      · subst d; rw [lxc_rf]; exact Int.le_refl _
      · exact lxc_tr (by omega) (ih k (by omega))
    · rw [if_neg c]
      by_cases d : k = j
      · subst d
        have := lxc_an (rotL k l).flatten (rotL (rngB l k) l).flatten
        omega
      · exact ih k (by omega)
theorem rngT_rt (l : List (List Int)) : RT l (rngT l) := rotL_rt _ l
theorem rngT_mn {l m : List (List Int)} (h : RT l m) : lxc (rngT l).flatten m.flatten ≤ 0 := by
  obtain ⟨a, b, h1, h2⟩ := h
  have e : ∀ k : Nat, k = a.length → rotL k l = m := fun k hk => by
    unfold rotL
    rw [hk, h1, h2, List.drop_left, List.take_left]
  unfold rngT
  cases b with
  | nil =>
    have hm : m = l := by rw [h1, h2, List.append_nil]; rfl
    rw [hm]
    cases hl : l with
    | nil => exact Int.le_refl _
    | cons x l' =>
      have := rngB_mn (x :: l') (x :: l').length 0 (by rw [List.length_cons]; omega)
      have z : rotL 0 (x :: l') = x :: l' := List.append_nil _
      rw [z] at this
      exact this
  | cons x b' =>
    have := rngB_mn l l.length a.length (by rw [h1, List.length_append, List.length_cons]; omega)
    rw [e _ rfl] at this
    exact this
theorem rngT_eq {l m : List (List Int)} (h : RT l m) : (rngT l).flatten = (rngT m).flatten := by
  have a := rngT_mn (h.tr (rngT_rt m))
  have b := rngT_mn (h.sy.tr (rngT_rt l))
  have := lxc_an (rngT l).flatten (rngT m).flatten
  exact lxc_0 (by omega)
/-! a sequence's things, in its order -/
def sqL (ty : Int) (l : List (List Int)) : List (List Int) := if ty = 3 then l else if ty = 6 then rngT l else srtT l
/-- alike but for what has no order, no beginning -/
def CQ (ty : Int) (l m : List (List Int)) : Prop := if ty = 3 then l = m else if ty = 6 then RT l m else l.Perm m
theorem CQ.rf (ty : Int) (l : List (List Int)) : CQ ty l l := by
  unfold CQ
  split
  · rfl
  · split
    · exact RT.rf l
    · exact List.Perm.refl l
theorem CQ.sy {ty : Int} {l m : List (List Int)} (h : CQ ty l m) : CQ ty m l := by
  unfold CQ at h ⊢
  split
  · next c => rw [if_pos c] at h; exact h.symm
  · next c =>
    rw [if_neg c] at h
    split
    · next d => rw [if_pos d] at h; exact h.sy
    · next d => rw [if_neg d] at h; exact h.symm
theorem CQ.tr {ty : Int} {l m n : List (List Int)} (h : CQ ty l m) (k : CQ ty m n) : CQ ty l n := by
  unfold CQ at h k ⊢
  split
  · next c => rw [if_pos c] at h k; exact h.trans k
  · next c =>
    rw [if_neg c] at h k
    split
    · next d => rw [if_pos d] at h k; exact h.tr k
    · next d => rw [if_neg d] at h k; exact h.trans k
theorem CQ.pm {ty : Int} {l m : List (List Int)} (h : CQ ty l m) : l.Perm m := by
  unfold CQ at h
  split at h
  · rw [h]
  · split at h
    · exact h.pm
    · exact h
theorem sqL_cq (ty : Int) (l : List (List Int)) : CQ ty l (sqL ty l) := by
  unfold CQ sqL
  split
  · rfl
  · split
    · exact rngT_rt l
    · exact (srtT_pm l).symm
theorem sqL_eq {ty : Int} {l m : List (List Int)} (h : CQ ty l m) : (sqL ty l).flatten = (sqL ty m).flatten := by
  unfold CQ at h
  unfold sqL
  split
  · next c => rw [if_pos c] at h; rw [h]
  · next c =>
    rw [if_neg c] at h
    split
    · next d => rw [if_pos d] at h; exact rngT_eq h
    · next d => rw [if_neg d] at h; rw [srtT_eq h]
