/-! rows filled; both grammars before they are read -/
def flS (S : St) (X : Nat) (N : Int) (V : Int → Int) : St := fun i => if i = X then (fun k => if 0 ≤ k ∧ k < N then V k else S X k) else S i
theorem flS_at {S : St} {X : Nat} {N k : Int} {V : Int → Int} (h0 : 0 ≤ k) (h1 : k < N) : flS S X N V X k = V k := by
  unfold flS; rw [if_pos rfl, if_pos ⟨h0, h1⟩]
theorem flS_out {S : St} {X : Nat} {N k : Int} {V : Int → Int} (h : k < 0 ∨ N ≤ k) : flS S X N V X k = S X k := by
  unfold flS; rw [if_pos rfl, if_neg (by omega)]
theorem flS_n {S : St} {X i : Nat} {N : Int} {V : Int → Int} (h : i ≠ X) : flS S X N V i = S i := by
  unfold flS; rw [if_neg h]
theorem flS_kept {S : St} {X : Nat} {N : Int} {V : Int → Int} {L : List Nat} {F : List (Nat × Int)} (h : X ∈ L) : kept L F S (flS S X N V) := fun i k a b => by
  rw [flS_n (fun w => a (by rw [w]; exact h))]
theorem fillW {X N : Nat} {V : Int → Int} {S0 : St} (F : Nat → Int → St → Option St) (step : ∀ (k f : Nat) (S : St), k < N → (∀ i, i ≠ X → S i = S0 i) → F (f + 1) (k : Int) S = F f ((k : Int) + 1) (up S X (k : Int) (V (k : Int)))) (stop : ∀ (f : Nat) (S : St), F (f + 1) (N : Int) S = some S) : ∀ f : Nat, N < f → F f 0 S0 = some (flS S0 X (N : Int) V) := by
  have key : ∀ d k f : Nat, k + d = N → d < f → F f (k : Int) (flS S0 X (k : Int) V) = some (flS S0 X (N : Int) V) := by
    intro d
    induction d with
    | zero =>
      intro k f hk hf
      obtain ⟨g, rfl⟩ : ∃ g, f = g + 1 := ⟨f - 1, by omega⟩
      rw [show k = N by omega]
      exact stop g _
    | succ d ih =>
      intro k f hk hf
      obtain ⟨g, rfl⟩ : ∃ g, f = g + 1 := ⟨f - 1, by omega⟩
      rw [step k g _ (by omega) (fun i hi => flS_n hi)]
      have e : up (flS S0 X (k : Int) V) X (k : Int) (V (k : Int)) = flS S0 X ((k + 1 : Nat) : Int) V := by
        funext i q
        by_cases c : i = X
        · subst c
          rw [up_if]
          unfold flS
          rw [if_pos rfl, if_pos rfl]
          show (if q = (k : Int) then V (k : Int) else if 0 ≤ q ∧ q < (k : Int) then V q else S0 i q) = if 0 ≤ q ∧ q < ((k + 1 : Nat) : Int) then V q else S0 i q
          by_cases c1 : q = (k : Int)
          · rw [if_pos c1, if_pos (by omega), c1]
          · rw [if_neg c1]
            by_cases c2 : 0 ≤ q ∧ q < (k : Int)
            · rw [if_pos c2, if_pos (by omega)]
            · rw [if_neg c2, if_neg (by omega)]
        · rw [up_at (Or.inl c), flS_n c, flS_n c]
      rw [e]
      have := ih (k + 1) g (by omega) (by omega)
      rw [show ((k + 1 : Nat) : Int) = (k : Int) + 1 by omega] at this ⊢
      exact this
  intro f hf
  have := key N 0 f (by omega) hf
  have e : flS S0 X ((0 : Nat) : Int) V = S0 := by
    funext i q
    by_cases c : i = X
    · subst c; rw [flS_out (by omega)]
    · rw [flS_n c]
  rw [e] at this
  exact this
theorem e_fill19 {S : St} : mJ7_fill_53178_19 S 0 = some (flS S 19 30 (fun _ => 0)) := by
  unfold mJ7_fill_53178_19
  rw [bd1_e (show mJ7_fill_53178_19_5 0 FU 0 S = some (flS S 19 30 (fun _ => 0)) from fillW (N := 30) (mJ7_fill_53178_19_5 0) (fun k f S' hk _ => by rw [mJ7_fill_53178_19_5, gd_t (by omega), if_neg (by omega), gd_t (by omega), nx_e]) (fun f S' => by rw [mJ7_fill_53178_19_5, gd_t (by omega), if_pos (by omega)]) FU (by unfold FU; omega))]
theorem e_fill21 {S : St} : mJ7_fill_53178_21 S 0 = some (flS S 21 30 (fun _ => 0)) := by
  unfold mJ7_fill_53178_21
  rw [bd1_e (show mJ7_fill_53178_21_5 0 FU 0 S = some (flS S 21 30 (fun _ => 0)) from fillW (N := 30) (mJ7_fill_53178_21_5 0) (fun k f S' hk _ => by rw [mJ7_fill_53178_21_5, gd_t (by omega), if_neg (by omega), gd_t (by omega), nx_e]) (fun f S' => by rw [mJ7_fill_53178_21_5, gd_t (by omega), if_pos (by omega)]) FU (by unfold FU; omega))]
theorem e_fill79 {S : St} {v : Int} : mJ7_fill_53178_79 S v = some (flS S 79 26 (fun _ => v)) := by
  unfold mJ7_fill_53178_79
  rw [bd1_e (show mJ7_fill_53178_79_5 v FU 0 S = some (flS S 79 26 (fun _ => v)) from fillW (N := 26) (mJ7_fill_53178_79_5 v) (fun k f S' hk _ => by rw [mJ7_fill_53178_79_5, gd_t (by omega), if_neg (by omega), gd_t (by omega), nx_e]) (fun f S' => by rw [mJ7_fill_53178_79_5, gd_t (by omega), if_pos (by omega)]) FU (by unfold FU; omega))]
theorem e_fill65 {S : St} {v : Int} : mJ7_fill_53178_65 S v = some (flS S 65 26 (fun _ => v)) := by
  unfold mJ7_fill_53178_65
  rw [bd1_e (show mJ7_fill_53178_65_5 v FU 0 S = some (flS S 65 26 (fun _ => v)) from fillW (N := 26) (mJ7_fill_53178_65_5 v) (fun k f S' hk _ => by rw [mJ7_fill_53178_65_5, gd_t (by omega), if_neg (by omega), gd_t (by omega), nx_e]) (fun f S' => by rw [mJ7_fill_53178_65_5, gd_t (by omega), if_pos (by omega)]) FU (by unfold FU; omega))]
def M0 (k : Int) : Int := if 96 ≤ k ∧ k < 198 then -1 else 0
theorem e_clears {T : St} : mX12_clears T = some (flS T 84 228 M0) := by
  unfold mX12_clears
  rw [bd1_e (show mX12_clears_2 FU 0 T = some (flS T 84 228 M0) from fillW (N := 228) mX12_clears_2 (fun k f S' hk _ => by
    rw [mX12_clears_2, gd_t (by omega), if_neg (by omega)]
    unfold M0
    by_cases c : (k : Int) < 96
    · rw [if_pos c, if_neg (by omega), gd_t (by omega), nx_e]
    · rw [if_neg c]
      by_cases c2 : 198 ≤ (k : Int)
      · rw [if_pos c2, if_neg (by omega), gd_t (by omega), nx_e]
      · rw [if_neg c2, if_pos (by omega), gd_t (by omega), nx_e]) (fun f S' => by rw [mX12_clears_2, gd_t (by omega), if_pos (by omega)]) FU (by unfold FU; omega))]
theorem e_gram2 {T : St} : mX12_grammar_2 FU 0 T = some (flS T 85 228 (T 84)) :=
  fillW (N := 228) mX12_grammar_2 (fun k f S' hk hS => by rw [mX12_grammar_2, gd_t (by omega), if_neg (by omega), gd_t (by omega), nx_e, hS 84 (by decide)]) (fun f S' => by rw [mX12_grammar_2, gd_t (by omega), if_pos (by omega)]) FU (by unfold FU; omega)
theorem e_gram151 {T : St} : mX12_grammar_151 FU 0 T = some (flS T 84 228 (T 85)) :=
  fillW (N := 228) mX12_grammar_151 (fun k f S' hk hS => by rw [mX12_grammar_151, gd_t (by omega), if_neg (by omega), gd_t (by omega), nx_e, hS 85 (by decide)]) (fun f S' => by rw [mX12_grammar_151, gd_t (by omega), if_pos (by omega)]) FU (by unfold FU; omega)
theorem e_clear13 {S : St} : ∃ S' : St, mX2_clear_13 S = some S' ∧ kept [19, 21] [(13, 0), (13, 1), (13, 2), (13, 3), (13, 4)] S S' ∧ (S' 13 0 = 0 ∧ S' 13 1 = 0 ∧ S' 13 2 = 0 ∧ S' 13 3 = 0 ∧ S' 13 4 = 0) ∧ (∀ k : Int, 0 ≤ k → k < 30 → S' 19 k = 0 ∧ S' 21 k = 0) := by
  refine ⟨flS (flS (up (up (up (up (up S 13 0 0) 13 1 0) 13 2 0) 13 3 0) 13 4 0) 19 30 (fun _ => 0)) 21 30 (fun _ => 0), ?_, ?_, ?_, ?_⟩
  · unfold mX2_clear_13
    rw [nx_e, nx_e, nx_e, nx_e, nx_e, bd1_e e_fill19, bd1_e e_fill21]
  · refine kept.trans ?_ (flS_kept (by decide))
    refine kept.trans ?_ (flS_kept (by decide))
    exact ((((kept.rf.upF (by decide)).upF (by decide)).upF (by decide)).upF (by decide)).upF (by decide)
  · rw [flS_n (by decide), flS_n (by decide)]
    exact ⟨rfl, rfl, rfl, rfl, rfl⟩
  · intro k h0 h1
    refine ⟨?_, flS_at h0 h1⟩
    rw [flS_n (by decide), flS_at h0 h1]
