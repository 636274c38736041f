/-! the class: the roll of a box's things -/
/-- the first of the greatest, so far -/
def mst (g : Nat → Nat) : Nat → Int × Nat
  | 0 => (-1, 0)
  | v + 1 => if (g v : Int) ≤ (mst g v).1 then mst g v else ((g v : Int), v)
def sgM (g : Nat → Nat) : Nat → Nat
  | 0 => 0
  | v + 1 => sgM g v + g v
/-- what a box's roll holds after v things -/
def RLv (M : Int → Int) (S : St) (e n v : Nat) : Prop :=
  (S 73 6 = (mst (tD M e n) v).1 ∧ (1 ≤ v → S 75 ((e * 8 + n : Nat) : Int) = (((mst (tD M e n) v).2 : Nat) : Int))) ∧
  (S 73 7 = (mst (tR M e n) v).1 ∧ (1 ≤ v → S 76 ((e * 8 + n : Nat) : Int) = (((mst (tR M e n) v).2 : Nat) : Int))) ∧
  ∀ a : Nat, a < 26 → S 79 (a : Int) = (mst (fun u => cnI (97 + (a : Int)) (tX M e n u)) v).1 ∧ (1 ≤ v → S 77 (((e * 8 + n) * 26 + a : Nat) : Int) = (((mst (fun u => cnI (97 + (a : Int)) (tX M e n u)) v).2 : Nat) : Int)) ∧ S 78 (((e * 8 + n) * 26 + a : Nat) : Int) = ((sgM (fun u => cnI (97 + (a : Int)) (tX M e n u)) v : Nat) : Int)
theorem mst_1 {g : Nat → Nat} {B : Nat} : ∀ v : Nat, (∀ u, u < v → g u ≤ B) → -1 ≤ (mst g v).1 ∧ (mst g v).1 ≤ (B : Int) ∧ ((mst g v).2 ≤ v) := by
  intro v
  induction v with
  | zero => intro _; exact ⟨Int.le_refl _, by show (-1 : Int) ≤ _; omega, Nat.le_refl _⟩
  | succ v ih =>
    intro h
    have i := ih (fun u hu => h u (by omega))
    have k := h v (by omega)
    show -1 ≤ (if (g v : Int) ≤ (mst g v).1 then mst g v else ((g v : Int), v)).1 ∧ (if (g v : Int) ≤ (mst g v).1 then mst g v else ((g v : Int), v)).1 ≤ (B : Int) ∧ (if (g v : Int) ≤ (mst g v).1 then mst g v else ((g v : Int), v)).2 ≤ v + 1
    by_cases z : (g v : Int) ≤ (mst g v).1
    · rw [if_pos z]; omega
    · rw [if_neg z]
      dsimp only
      omega
theorem mst_s {g : Nat → Nat} {v : Nat} : mst g (v + 1) = if (g v : Int) ≤ (mst g v).1 then mst g v else ((g v : Int), v) := rfl
theorem e_cA2 {S : St} {b r : Int} {w v : Nat} {c : Nat → Nat} {G : Nat → Nat → Nat} (hw : w < 48) (hb : b = (((w * 26 : Nat)) : Int)) (hr : r = (v : Int)) (hB : ∀ a u, a < 26 → u ≤ v → G a u ≤ 1000000) (hv : v ≤ 200) (hc : ∀ a : Nat, a < 26 → S 65 (a : Int) = ((G a v : Nat) : Int)) : ∀ (d k f : Nat) (T : St), k + d = 26 → d < f → (∀ a : Nat, a < 26 → T 65 (a : Int) = ((G a v : Nat) : Int)) → (∀ a : Nat, a < k → T 79 (a : Int) = (mst (G a) (v + 1)).1 ∧ T 77 ((w * 26 + a : Nat) : Int) = (((mst (G a) (v + 1)).2 : Nat) : Int) ∧ T 78 ((w * 26 + a : Nat) : Int) = ((sgM (G a) (v + 1) : Nat) : Int)) → (∀ a : Nat, k ≤ a → a < 26 → T 79 (a : Int) = (mst (G a) v).1 ∧ (1 ≤ v → T 77 ((w * 26 + a : Nat) : Int) = (((mst (G a) v).2 : Nat) : Int)) ∧ T 78 ((w * 26 + a : Nat) : Int) = ((sgM (G a) v : Nat) : Int)) → ∃ U, mX7_countAtoms_2 b r f (k : Int) T = some U ∧ (∀ a : Nat, a < 26 → U 79 (a : Int) = (mst (G a) (v + 1)).1 ∧ U 77 ((w * 26 + a : Nat) : Int) = (((mst (G a) (v + 1)).2 : Nat) : Int) ∧ U 78 ((w * 26 + a : Nat) : Int) = ((sgM (G a) (v + 1) : Nat) : Int)) ∧ (∀ i, i ≠ 77 → i ≠ 78 → i ≠ 79 → U i = T i) ∧ ∀ q : Int, (q < ((w * 26 : Nat) : Int) ∨ ((w * 26 + 26 : Nat) : Int) ≤ q) → U 77 q = T 77 q ∧ U 78 q = T 78 q := by
  subst hb; subst hr
  intro d
  induction d with
  | zero =>
    intro k f T hk hf h65 h1 h2
    obtain ⟨f, rfl⟩ : ∃ f', f = f' + 1 := ⟨f - 1, by omega⟩
    refine ⟨T, ?_, fun a ha => h1 a (by omega), fun _ _ _ _ => rfl, fun _ _ => ⟨rfl, rfl⟩⟩
    rw [mX7_countAtoms_2, gd_t (by omega), if_pos (by omega)]
  | succ d ih =>
    intro k f T hk hf h65 h1 h2
    obtain ⟨f, rfl⟩ : ∃ f', f = f' + 1 := ⟨f - 1, by omega⟩
    obtain ⟨q1, q2, q3⟩ := h2 k (Nat.le_refl _) (by omega)
    have c1 := h65 k (by omega)
    have b1 := mst_1 (g := G k) (B := 1000000) v (fun u hu => hB k u (by omega) (by omega))
    have b2 := hB k v (by omega) (Nat.le_refl _)
    have es : ((w * 26 : Nat) : Int) + (k : Int) = ((w * 26 + k : Nat) : Int) := by omega
    obtain ⟨P, hP⟩ : ∃ P, P = up T 78 ((w * 26 + k : Nat) : Int) (((sgM (G k) v : Nat) : Int) + ((G k v : Nat) : Int)) := ⟨_, rfl⟩
    obtain ⟨Q, hQ⟩ : ∃ Q, Q = if ((G k v : Nat) : Int) ≤ (mst (G k) v).1 then P else up (up P 79 (k : Int) ((G k v : Nat) : Int)) 77 ((w * 26 + k : Nat) : Int) (v : Int) := ⟨_, rfl⟩
    have Pi : ∀ i, i ≠ 78 → P i = T i := fun i a => by rw [hP, up_n a]
    have Qi : ∀ i, i ≠ 77 → i ≠ 78 → i ≠ 79 → Q i = T i := fun i a b c => by
      rw [hQ]
      split
      · exact Pi i b
      · rw [up_n a, up_n c]; exact Pi i b
    have Q78 : Q 78 = P 78 := by
      rw [hQ]
      split
      · rfl
      · rw [up_n (by decide), up_n (by decide)]
    have Q79 : ∀ q : Int, q ≠ (k : Int) → Q 79 q = T 79 q := fun q hq => by
      rw [hQ]
      split
      · rw [Pi 79 (by decide)]
      · rw [up_n (by decide), up_nk hq, Pi 79 (by decide)]
    have Q77 : ∀ q : Int, q ≠ ((w * 26 + k : Nat) : Int) → Q 77 q = T 77 q := fun q hq => by
      rw [hQ]
      split
      · rw [Pi 77 (by decide)]
      · rw [up_nk hq, up_n (by decide), Pi 77 (by decide)]
    have at1 : Q 79 (k : Int) = (mst (G k) (v + 1)).1 := by
      rw [hQ, mst_s]
      by_cases z : ((G k v : Nat) : Int) ≤ (mst (G k) v).1
      · rw [if_pos z, if_pos z, Pi 79 (by decide)]; exact q1
      · rw [if_neg z, if_neg z, up_n (by decide), up_eq]
    have at2 : Q 77 ((w * 26 + k : Nat) : Int) = (((mst (G k) (v + 1)).2 : Nat) : Int) := by
      rw [hQ, mst_s]
      by_cases z : ((G k v : Nat) : Int) ≤ (mst (G k) v).1
      · rw [if_pos z, if_pos z, Pi 77 (by decide)]
        refine q2 ?_
        rcases Nat.eq_zero_or_pos v with y | y
        · subst y
          have : (mst (G k) 0).1 = -1 := rfl
          omega
        · exact y
      · rw [if_neg z, if_neg z, up_eq]
    have at3 : Q 78 ((w * 26 + k : Nat) : Int) = ((sgM (G k) (v + 1) : Nat) : Int) := by
      rw [Q78, hP, up_eq]
      show _ = ((sgM (G k) v + G k v : Nat) : Int)
      omega
    obtain ⟨U, u1, u2, u3, u4⟩ := ih (k + 1) f Q (by omega) (by omega) (fun a ha => by rw [Qi 65 (by decide) (by decide) (by decide)]; exact h65 a ha) (fun a ha => by
      by_cases e : a = k
      · subst e; exact ⟨at1, at2, at3⟩
      · rw [Q79 _ (by omega), Q77 _ (by omega), Q78, hP, up_nk (by omega)]
        exact h1 a (by omega)) (fun a ha1 ha2 => by
      rw [Q79 _ (by omega), Q77 _ (by omega), Q78, hP, up_nk (by omega)]
      exact h2 a (by omega) ha2)
    refine ⟨U, ?_, u2, fun i a b c => (u3 i a b c).trans (Qi i a b c), fun q hq => ?_⟩
    · rw [show ((k + 1 : Nat) : Int) = (k : Int) + 1 by omega] at u1
      rw [mX7_countAtoms_2, gd_t (by omega), if_neg (by omega), gd_t (by omega), nx_e, c1, nx_e, es, gd_t (by omega), nx_e, q3, ← hP, Pi 79 (by decide), q1, gd_t ⟨by omega, by omega⟩]
      by_cases z : ((G k v : Nat) : Int) ≤ (mst (G k) v).1
      · rw [if_pos z] at hQ
        rw [if_pos z, ← hQ]
        exact u1
      · rw [if_neg z] at hQ
        rw [if_neg z, nx_e, gd_t (by omega), nx_e, ← hQ]
        exact u1
    · obtain ⟨y1, y2⟩ := u4 q hq
      rw [y1, y2, Q77 _ (by omega), Q78, hP, up_nk (by omega)]
      exact ⟨rfl, rfl⟩

theorem e_fil79 {z : Int} : ∀ (d k f : Nat) (S : St), k + d = 26 → d < f → ∃ T, mJ7_fill_53178_79_5 z f (k : Int) S = some T ∧ kept [79] [] S T ∧ (∀ a : Nat, k ≤ a → a < 26 → T 79 (a : Int) = z) ∧ ∀ a : Nat, a < k → T 79 (a : Int) = S 79 (a : Int) := by
  intro d
  induction d with
  | zero =>
    intro k f S hk hf
    obtain ⟨f, rfl⟩ : ∃ f', f = f' + 1 := ⟨f - 1, by omega⟩
    refine ⟨S, ?_, kept.rf, fun a h1 h2 => by omega, fun a _ => rfl⟩
    rw [mJ7_fill_53178_79_5, gd_t (by omega), if_pos (by omega)]
  | succ d ih =>
    intro k f S hk hf
    obtain ⟨f, rfl⟩ : ∃ f', f = f' + 1 := ⟨f - 1, by omega⟩
    obtain ⟨T, t1, t2, t3, t4⟩ := ih (k + 1) f (up S 79 (k : Int) z) (by omega) (by omega)
    refine ⟨T, ?_, (kept.rf.upA (by simp)).trans t2, fun a h1 h2 => ?_, fun a h => ?_⟩
    · rw [mJ7_fill_53178_79_5, gd_t (by omega), if_neg (by omega), gd_t (by omega), nx_e, show (k : Int) + 1 = ((k + 1 : Nat) : Int) by omega]
      exact t1
    · by_cases e : a = k
      · subst e; rw [t4 a (by omega), up_eq]
      · exact t3 a (by omega) h2
    · rw [t4 a (by omega), up_nk (by omega)]
theorem e_fil78 {z : Int} {hi : Nat} (hh : hi ≤ 1248) : ∀ (d k f : Nat) (S : St), k + d = hi → d < f → ∃ T, mJ7_fill_fda19_78_10 (hi : Int) z f (k : Int) S = some T ∧ kept [78] [] S T ∧ (∀ a : Nat, k ≤ a → a < hi → T 78 (a : Int) = z) ∧ ∀ q : Int, q < (k : Int) ∨ (hi : Int) ≤ q → T 78 q = S 78 q := by
  intro d
  induction d with
  | zero =>
    intro k f S hk hf
    obtain ⟨f, rfl⟩ : ∃ f', f = f' + 1 := ⟨f - 1, by omega⟩
    refine ⟨S, ?_, kept.rf, fun a h1 h2 => by omega, fun a _ => rfl⟩
    rw [mJ7_fill_fda19_78_10, gd_t (by omega), if_pos (by omega)]
  | succ d ih =>
    intro k f S hk hf
    obtain ⟨f, rfl⟩ : ∃ f', f = f' + 1 := ⟨f - 1, by omega⟩
    obtain ⟨T, t1, t2, t3, t4⟩ := ih (k + 1) f (up S 78 (k : Int) z) (by omega) (by omega)
    refine ⟨T, ?_, (kept.rf.upA (by simp)).trans t2, fun a h1 h2 => ?_, fun q h => ?_⟩
    · rw [mJ7_fill_fda19_78_10, gd_t (by omega), if_neg (by omega), gd_t (by omega), nx_e, show (k : Int) + 1 = ((k + 1 : Nat) : Int) by omega]
      exact t1
    · by_cases e : a = k
      · subst e; rw [t4 (a : Int) (Or.inl (by omega)), up_eq]
      · exact t3 a (by omega) h2
    · rw [t4 q (by omega), up_nk (by omega)]
