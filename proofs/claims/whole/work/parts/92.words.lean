/-! words and names -/
theorem tk_cases (u : Int → Int) (n a : Nat) : (tk u n a = 0 ∧ tkC u n a = 3 ∧ a = n) ∨ (tk u n a = 1 ∧ tkC u n a = 1 ∧ a ≠ n) ∨ (tk u n a = 2 ∧ tkC u n a = 2 ∧ a ≠ n) ∨ (tk u n a = 3 ∧ tkC u n a = u (a : Int) ∧ (u (a : Int) = 61 ∨ u (a : Int) = 59 ∨ u (a : Int) = 40 ∨ u (a : Int) = 41) ∧ a ≠ n) ∨ (tk u n a = 4 ∧ tkC u n a = 4 ∧ a ≠ n) := by
  unfold tk tkC
  by_cases c : a = n
  · rw [if_pos c, if_pos c]; exact Or.inl ⟨rfl, rfl, c⟩
  rw [if_neg c, if_neg c]
  by_cases d : isLt (u (a : Int)) = true
  · rw [if_pos d, if_pos d]; exact Or.inr (Or.inl ⟨rfl, rfl, c⟩)
  rw [if_neg d, if_neg d]
  by_cases e : isDg (u (a : Int)) = true
  · rw [if_pos e, if_pos e]; exact Or.inr (Or.inr (Or.inl ⟨rfl, rfl, c⟩))
  rw [if_neg e, if_neg e]
  by_cases f : isSg (u (a : Int)) = true
  · rw [if_pos f, if_pos f]; exact Or.inr (Or.inr (Or.inr (Or.inl ⟨rfl, rfl, isSg_t.mp f, c⟩)))
  · rw [if_neg f, if_neg f]; exact Or.inr (Or.inr (Or.inr (Or.inr ⟨rfl, rfl, c⟩)))
def wc (bs : List Int32) (i : Int) : Int := i2cF (an (sby bs i) 255)
def wdL (k : Nat) : List Int32 := if k = 0 then tx0 else if k = 1 then tx1 else if k = 2 then tx2 else if k = 3 then tx3 else if k = 4 then tx8 else if k = 5 then tx9 else if k = 6 then tx4 else if k = 7 then tx5 else if k = 8 then tx6 else tx7
def gWd (bs : List Int32) : Prop := bs.length ≤ 7 ∧ mJ0_length_8abf5 bs = some ((bs.length : Nat) : Int) ∧ ∀ i : Nat, i < bs.length → mJ0_charAt_5068e bs (i : Int) = some (wc bs (i : Int)) ∧ 97 ≤ wc bs (i : Int) ∧ wc bs (i : Int) ≤ 122
theorem gWd_all : ∀ k : Nat, k < 10 → gWd (wdL k) := by
  unfold gWd
  decide
theorem wd_ne : ∀ j : Nat, j < 10 → ∀ k : Nat, k < 10 → j ≠ k → ((wdL j).length ≠ (wdL k).length ∨ wc (wdL j) 0 ≠ wc (wdL k) 0) ∧ 0 < (wdL j).length := by decide
theorem wd_str : ∀ k : Nat, k < 10 → bd1 (mX12_wordOf (k : Int)) strB = some (wdL k) := by decide
def wIs (u : Int → Int) (n a : Nat) (bs : List Int32) : Prop := tk u n a = 1 ∧ en u n a = a + bs.length ∧ ∀ i : Nat, i < bs.length → u ((a + i : Nat) : Int) = wc bs (i : Int)
theorem wIs_ne {u : Int → Int} {n a j k : Nat} (hj : j < 10) (hk : k < 10) (hne : j ≠ k) (h : wIs u n a (wdL j)) : ¬ wIs u n a (wdL k) := fun w => by
  obtain ⟨d, p⟩ := wd_ne j hj k hk hne
  have l : (wdL j).length = (wdL k).length := by have := h.2.1; have := w.2.1; omega
  rcases d with d | d
  · exact d l
  · have x := h.2.2 0 p
    have y := w.2.2 0 (by omega)
    exact d (by rw [show (0 : Int) = ((0 : Nat) : Int) from rfl, ← x, y])
theorem e_isWordC {S : St} {u : Int → Int} {n a : Nat} {bs : List Int32} (h : TC S u n) (hc : CL S u n a) (g : gWd bs) : tells (mX5_isWord_12_s bs S) (wIs u n a bs) := by
  obtain ⟨hn, c8, c6, c7, _⟩ := hc
  obtain ⟨g1, g2, g3⟩ := g
  have h4 := h.1.2.2
  have eb := en_b (u := u) hn
  unfold mX5_isWord_12_s wIs
  rw [c7, c6, c8]
  by_cases t1 : tk u n a = 1
  · have tc : tkC u n a = 1 := by
      rcases tk_cases u n a with q | q | q | q | q <;> omega
    rw [tc, gd_t (by decide), if_pos rfl, bd1_e g2, gd_t (by omega)]
    by_cases le : en u n a = a + bs.length
    · rw [if_pos (by omega)]
      have key : ∀ d i f : Nat, i + d = bs.length → d < f → ∃ r : Int, mX5_isWord_12_s_28 bs S f (i : Int) = some r ∧ (r = 0 ∨ r = 1) ∧ (r = 1 ↔ ∀ j : Nat, i ≤ j → j < bs.length → u ((a + j : Nat) : Int) = wc bs (j : Int)) := by
        intro d
        induction d with
        | zero =>
          intro i f hi hf
          obtain ⟨f', rfl⟩ : ∃ g, f = g + 1 := ⟨f - 1, by omega⟩
          refine ⟨1, ?_, by omega, ⟨fun _ j x y => by omega, fun _ => rfl⟩⟩
          rw [mX5_isWord_12_s_28, bd1_e g2, gd_t (by omega), if_pos (by omega)]
        | succ d ih =>
          intro i f hi hf
          obtain ⟨f', rfl⟩ : ∃ g, f = g + 1 := ⟨f - 1, by omega⟩
          obtain ⟨r, r1, r2, r3⟩ := ih (i + 1) f' (by omega) (by omega)
          rw [show ((i + 1 : Nat) : Int) = (i : Int) + 1 by omega] at r1
          obtain ⟨v, v0, v1⟩ := h.2 (a + i) (by omega)
          have lt := isLt_t.mp (en_let (u := u) (n := n) (a := a) (j := a + i) t1 (by omega) (by omega))
          have sbe : sb (u ((a + i : Nat) : Int)) = u ((a + i : Nat) : Int) := by unfold sb; rw [if_pos (by omega)]
          obtain ⟨w1, w2, w3⟩ := g3 i (by omega)
          rw [mX5_isWord_12_s_28, bd1_e g2, gd_t (by omega), if_neg (by omega), gd_t h.1.1, c8, gd_t (by omega), bd1_e w1, show (a : Int) + (i : Int) = ((a + i : Nat) : Int) by omega, v, sbe, gd_t (by omega)]
          by_cases e : u ((a + i : Nat) : Int) = wc bs (i : Int)
          · refine ⟨r, by rw [if_pos e, r1], r2, r3.trans ⟨fun x j y z => ?_, fun x j y z => x j (by omega) z⟩⟩
            by_cases ej : j = i
            · subst ej; exact e
            · exact x j (by omega) z
          · exact ⟨0, by rw [if_neg e], by omega, ⟨fun x => by omega, fun x => absurd (x i (Nat.le_refl _) (by omega)) e⟩⟩
      obtain ⟨r, r1, r2, r3⟩ := key bs.length 0 FU (by omega) (by unfold FU; omega)
      rw [bd1_e (show mX5_isWord_12_s_28 bs S FU 0 = some r from r1)]
      refine ⟨r, ?_, r2, r3.trans ⟨fun x => ⟨t1, le, fun i hi => x i (Nat.zero_le _) hi⟩, fun x j _ hj => x.2.2 j hj⟩⟩
      rcases r2 with e | e <;> rw [e] <;> rfl
    · rw [if_neg (by omega)]
      exact ⟨0, rfl, Or.inl rfl, ⟨fun x => by omega, fun x => absurd x.2.1 le⟩⟩
  · have tc : tkC u n a ≠ 1 ∧ inI (tkC u n a) := by
      rcases tk_cases u n a with q | q | q | q | q <;> omega
    rw [gd_t tc.2, if_neg tc.1]
    exact ⟨0, rfl, Or.inl rfl, ⟨fun x => by omega, fun x => absurd x.1 t1⟩⟩
theorem e_isWordF {T : St} {u : Int → Int} {n a k : Nat} (h : TF T u n) (hc : FL T u n a) (hk : k < 10) : tells (mX12_isWord T (k : Int)) (wIs u n a (wdL k)) := by
  obtain ⟨hn, c8, c6, c7, _⟩ := hc
  obtain ⟨g1, g2, g3⟩ := gWd_all k hk
  have h4 := h.1.2
  have eb := en_b (u := u) hn
  have ws := wd_str k hk
  obtain ⟨r, hr⟩ : ∃ r, mX12_wordOf (k : Int) = some r := by
    cases e : mX12_wordOf (k : Int) with
    | none => rw [e] at ws; cases ws
    | some r => exact ⟨r, rfl⟩
  rw [bd1_e hr] at ws
  unfold mX12_isWord wIs
  generalize wdL k = bs at g1 g2 g3 ws ⊢
  rw [bd1_e hr, bd1_e ws, c7, c6, c8]
  by_cases t1 : tk u n a = 1
  · rw [t1, gd_t (by decide), if_pos rfl, bd1_e g2, gd_t (by omega)]
    by_cases le : en u n a = a + bs.length
    · rw [if_pos (by omega)]
      have key : ∀ d i f : Nat, i + d = bs.length → d < f → ∃ r : Int, mX12_isWord_33 bs T f (i : Int) = some r ∧ (r = 0 ∨ r = 1) ∧ (r = 1 ↔ ∀ j : Nat, i ≤ j → j < bs.length → u ((a + j : Nat) : Int) = wc bs (j : Int)) := by
        intro d
        induction d with
        | zero =>
          intro i f hi hf
          obtain ⟨f', rfl⟩ : ∃ g, f = g + 1 := ⟨f - 1, by omega⟩
          refine ⟨1, ?_, by omega, ⟨fun _ j x y => by omega, fun _ => rfl⟩⟩
          rw [mX12_isWord_33, bd1_e g2, gd_t (by omega), if_pos (by omega)]
        | succ d ih =>
          intro i f hi hf
          obtain ⟨f', rfl⟩ : ∃ g, f = g + 1 := ⟨f - 1, by omega⟩
          obtain ⟨r, r1, r2, r3⟩ := ih (i + 1) f' (by omega) (by omega)
          rw [show ((i + 1 : Nat) : Int) = (i : Int) + 1 by omega] at r1
          obtain ⟨v, v0, v1⟩ := h.2 (a + i) (by omega)
          obtain ⟨w1, w2, w3⟩ := g3 i (by omega)
          rw [mX12_isWord_33, bd1_e g2, gd_t (by omega), if_neg (by omega), c8, gd_t (by omega), bd1_e w1, show (a : Int) + (i : Int) = ((a + i : Nat) : Int) by omega, v, gd_t (by omega)]
          by_cases e : u ((a + i : Nat) : Int) = wc bs (i : Int)
          · refine ⟨r, by rw [if_pos e, r1], r2, r3.trans ⟨fun x j y z => ?_, fun x j y z => x j (by omega) z⟩⟩
            by_cases ej : j = i
            · subst ej; exact e
            · exact x j (by omega) z
          · exact ⟨0, by rw [if_neg e], by omega, ⟨fun x => by omega, fun x => absurd (x i (Nat.le_refl _) (by omega)) e⟩⟩
      obtain ⟨r, r1, r2, r3⟩ := key bs.length 0 FU (by omega) (by unfold FU; omega)
      rw [bd1_e (show mX12_isWord_33 bs T FU 0 = some r from r1)]
      refine ⟨r, ?_, r2, r3.trans ⟨fun x => ⟨rfl, le, fun i hi => x i (Nat.zero_le _) hi⟩, fun x j _ hj => x.2.2 j hj⟩⟩
      rcases r2 with e | e <;> rw [e] <;> rfl
    · rw [if_neg (by omega)]
      exact ⟨0, rfl, Or.inl rfl, ⟨fun x => by omega, fun x => absurd x.2.1 le⟩⟩
  · have tc : inI (tk u n a) := by
      rcases tk_cases u n a with q | q | q | q | q <;> omega
    rw [gd_t tc, if_neg t1]
    exact ⟨0, rfl, Or.inl rfl, ⟨fun x => by omega, fun x => absurd x.1 t1⟩⟩
/-- which of the ten words -/
def KW (u : Int → Int) (n a : Nat) (k : Int) : Prop := (∃ j : Nat, j < 10 ∧ k = (j : Int) ∧ wIs u n a (wdL j)) ∨ (k = -1 ∧ ∀ j : Nat, j < 10 → ¬ wIs u n a (wdL j))
theorem e_key {T : St} {u : Int → Int} {n a : Nat} (h : TF T u n) (hc : FL T u n a) : ∃ k : Int, mX12_key T = some k ∧ KW u n a k := by
  have key : ∀ d i f : Nat, i + d = 10 → d < f → (∀ j, j < i → ¬ wIs u n a (wdL j)) → (∃ j : Nat, j < 10 ∧ wIs u n a (wdL j) ∧ mX12_key_2 T f (i : Int) = some (0, (j : Int))) ∨ ((∀ j, j < 10 → ¬ wIs u n a (wdL j)) ∧ ∃ y, mX12_key_2 T f (i : Int) = some (1, y)) := by
    intro d
    induction d with
    | zero =>
      intro i f hi hf hn
      obtain ⟨f', rfl⟩ : ∃ g, f = g + 1 := ⟨f - 1, by omega⟩
      refine Or.inr ⟨fun j hj => hn j (by omega), (i : Int), ?_⟩
      rw [mX12_key_2, gd_t (by omega), if_pos (by omega)]
    | succ d ih =>
      intro i f hi hf hn
      obtain ⟨f', rfl⟩ : ∃ g, f = g + 1 := ⟨f - 1, by omega⟩
      obtain ⟨r, r1, r2, r3⟩ := e_isWordF (k := i) h hc (by omega)
      rw [mX12_key_2, gd_t (by omega), if_neg (by omega), bd1_e r1]
      rcases r2 with e | e
      · subst e
        rw [gd_t (by decide), if_pos rfl]
        have := ih (i + 1) f' (by omega) (by omega) (fun j hj => by
          by_cases w : j = i
          · subst w; exact fun x => absurd (r3.mpr x) (by decide)
          · exact hn j (by omega))
        rw [show ((i + 1 : Nat) : Int) = (i : Int) + 1 by omega] at this
        exact this
      · subst e
        rw [gd_t (by decide), if_neg (by decide)]
        exact Or.inl ⟨i, by omega, r3.mp rfl, rfl⟩
  unfold mX12_key
  rcases key 10 0 FU (by omega) (by unfold FU; omega) (fun j hj => by omega) with ⟨j, j1, j2, j3⟩ | ⟨j1, y, j2⟩
  · rw [bd2_e (show mX12_key_2 T FU 0 = _ from j3), if_pos rfl]
    exact ⟨_, rfl, Or.inl ⟨j, j1, rfl, j2⟩⟩
  · rw [bd2_e (show mX12_key_2 T FU 0 = _ from j2), if_neg (by decide)]
    exact ⟨_, rfl, Or.inr ⟨rfl, j1⟩⟩
def pbt (k : Int) : Int := if k = 2 then 0 else if k = 3 then 1 else if k = 6 then 3 else if k = 7 then 4 else if k = 8 then 5 else if k = 9 then 6 else if k = -1 then 2 else 8
theorem e_partBegun {S : St} {u : Int → Int} {n a : Nat} {k : Int} (h : TC S u n) (hc : CL S u n a) (hk : KW u n a k) : mX5_partBegun S = some (if tk u n a = 1 then pbt k else if tkC u n a = 40 then 7 else -1) := by
  have wj : ∀ j : Nat, j < 10 → mX5_isWord_12_s (wdL j) S = some (if k = (j : Int) then 1 else 0) := fun j hj => by
    obtain ⟨r, r1, r2, r3⟩ := e_isWordC h hc (gWd_all j hj)
    rw [r1]
    by_cases e : k = (j : Int)
    · rw [if_pos e]
      have : wIs u n a (wdL j) := by
        rcases hk with ⟨i, i1, i2, i3⟩ | ⟨i1, _⟩
        · rw [show j = i by omega]; exact i3
        · omega
      rw [r3.mpr this]
    · rw [if_neg e]
      rcases r2 with x | x
      · rw [x]
      · exfalso
        rcases hk with ⟨i, i1, i2, i3⟩ | ⟨_, i2⟩
        · exact wIs_ne i1 hj (by omega) i3 (r3.mp x)
        · exact i2 j hj (r3.mp x)
  have c7 := hc.2.2.2.1
  unfold mX5_partBegun
  rw [c7]
  by_cases t1 : tk u n a = 1
  · have tc : tkC u n a = 1 := by
      rcases tk_cases u n a with q | q | q | q | q <;> omega
    rw [if_pos t1, tc, gd_t (by decide), if_neg (by decide), if_pos rfl]
    rw [show mX5_isWord_12_s tx0 S = _ from wj 0 (by decide), show mX5_isWord_12_s tx1 S = _ from wj 1 (by decide), show mX5_isWord_12_s tx2 S = _ from wj 2 (by decide), show mX5_isWord_12_s tx3 S = _ from wj 3 (by decide), show mX5_isWord_12_s tx8 S = _ from wj 4 (by decide), show mX5_isWord_12_s tx9 S = _ from wj 5 (by decide), show mX5_isWord_12_s tx4 S = _ from wj 6 (by decide), show mX5_isWord_12_s tx5 S = _ from wj 7 (by decide), show mX5_isWord_12_s tx6 S = _ from wj 8 (by decide), show mX5_isWord_12_s tx7 S = _ from wj 9 (by decide)]
    have kb : k = -1 ∨ k = 0 ∨ k = 1 ∨ k = 2 ∨ k = 3 ∨ k = 4 ∨ k = 5 ∨ k = 6 ∨ k = 7 ∨ k = 8 ∨ k = 9 := by
      rcases hk with ⟨i, i1, i2, _⟩ | ⟨i1, _⟩ <;> omega
    clear wj hk
    rcases kb with e | e | e | e | e | e | e | e | e | e | e <;> rw [e] <;> rfl
  · have tc : tkC u n a ≠ 1 ∧ inI (tkC u n a) := by
      rcases tk_cases u n a with q | q | q | q | q <;> omega
    rw [if_neg t1, gd_t tc.2]
    by_cases e : tkC u n a = 40
    · rw [if_pos e, if_pos e]
    · rw [if_neg e, if_neg e, if_neg tc.1]
