/-! the reference's reader: a part alone, a node made, a node put behind -/
theorem nb_off {S : St} (h : Cor S) {p m : Nat} (hp : (p : Int) < S 84 2) (hm : m ≤ 7) (ty : S 84 (24 + (p : Int)) = 2 ∨ S 84 (24 + (p : Int)) = 7) (c1 : cnE (S 84) (exN (S 84) p) = 1) (hy : 1 ≤ yM (S 84) p m) : offM (S 84) (exN (S 84) p) 0 = false := by
  have q := y_ex h hp hm ty
  rw [c1] at q
  have r := ev_ps1 q.symm hy
  cases o : offM (S 84) (exN (S 84) p) 0 with
  | false => rfl
  | true =>
    have e : sm 1 (fun t => byM (S 84) (exN (S 84) p) t m) = 0 + byM (S 84) (exN (S 84) p) 0 m := rfl
    have b : byM (S 84) (exN (S 84) p) 0 m = 0 := by unfold byM; rw [o, if_pos rfl]
    rw [e, b] at r
    exact absurd r (by decide)
def DNp (M : Int → Int) (p : Nat) : Prop := (∀ m, m ≤ 7 → yM M p m = 0) ∨ ¬ (M (24 + (p : Int)) = 2 ∨ M (24 + (p : Int)) = 7) ∨ ¬ sgl M (exN M p)
theorem e_part2 {S T : St} {rO : Nat → Nat} (h : Cor S) (rx : RKx (S 84) rO) (hT : cnt (S 84) (-1) T) : ∀ (N p f : Nat), (p : Int) < S 84 2 → rO p < N → N < f → ∃ (t p' k : Nat), mX12_partOf_2 T f (p : Int) = some ((t : Int), (p' : Int)) ∧ (p' : Int) < S 84 2 ∧ COL (S 84) k p p' ∧ rO p' ≤ rO p ∧ DNp (S 84) p' := by
  intro N
  induction N with
  | zero => intro p f _ hr; omega
  | succ N ih =>
    intro p f hp hr hf
    obtain ⟨f, rfl⟩ : ∃ g, f = g + 1 := ⟨f - 1, by omega⟩
    have wf := h.wf
    have hM0 := wf.1
    have hM2 := wf.2.2.1
    obtain ⟨ok1, ok2, ok3, ok4, ok5, ok6⟩ := wf.2.2.2.1 p hp
    have e84 : T 84 = S 84 := hT.1
    rw [mX12_partOf_2, e84, gd_t (by omega), gd_t (by unfold inI; omega)]
    by_cases ty : S 84 (24 + (p : Int)) = 2 ∨ S 84 (24 + (p : Int)) = 7
    · have hz : (if S 84 (24 + (p : Int)) = 2 then some (0 : Nat) else if S 84 (24 + (p : Int)) = 7 then some 0 else some 1) = some 0 := by
        rcases ty with e | e
        · rw [if_pos e]
        · rw [if_neg (by omega), if_pos e]
      rw [bd1_e hz, if_pos rfl, gd_t (by omega), nx_e]
      obtain ⟨z, z1, z2⟩ := e_blank hT hp hM2.2
      rw [bd1_e z1]
      rcases z2 with ⟨z3, m, m1, m2⟩ | ⟨z3, z4⟩
      · rw [gd_t (by unfold inI; omega), if_pos z3]
        obtain ⟨ex, lo, l0, oe⟩ := ex_ok wf hp ty
        have ee : S 84 (48 + (p : Int)) = ((exN (S 84) p : Nat) : Int) := by
          unfold exN
          rcases ty with e | e
          · have := ok4 e; omega
          · have := ok5 e; omega
        rw [ee, gd_t (by omega), gd_t (by have := oe.1; unfold inI; omega)]
        by_cases c1 : S 84 (198 + ((exN (S 84) p : Nat) : Int)) = 1
        · obtain ⟨t1, t2, t3⟩ := oe.2.1 0 (by omega)
          have t1' : 0 ≤ S 84 (168 + ((exN (S 84) p : Nat) : Int)) ∧ S 84 (168 + ((exN (S 84) p : Nat) : Int)) < 24 := t1
          have ef : S 84 (120 + S 84 (168 + ((exN (S 84) p : Nat) : Int))) = fpM (S 84) (exN (S 84) p) 0 := rfl
          obtain ⟨q, eq⟩ : ∃ q : Nat, fpM (S 84) (exN (S 84) p) 0 = (q : Int) := ⟨(fpM (S 84) (exN (S 84) p) 0).toNat, by omega⟩
          rw [if_pos c1, gd_t (by omega), ef, gd_t (by omega), gd_t (by omega)]
          have ok' := (wf.2.2.2.1 q (by omega)).2.1
          rw [eq, gd_t (by unfold inI; omega)]
          by_cases c2 : S 84 (96 + (q : Int)) < 0
          · rw [if_pos c2, nx_e]
            have hc1 : cnE (S 84) (exN (S 84) p) = 1 := by unfold cnE; omega
            have fall := rx.2 p 0 hp ty (by omega) (by rw [eq]; omega)
            have eN : (fpM (S 84) (exN (S 84) p) 0).toNat = q := by omega
            rw [eN] at fall
            obtain ⟨t, p', k, g1, g2, g3, g4, g5⟩ := ih q f (by omega) (by omega) (by omega)
            refine ⟨t, p', k + 1, g1, g2, ⟨⟨ty, ⟨hc1, by rw [eq]; exact c2⟩, nb_off h hp m1 ty hc1 m2, by omega⟩, by rw [eN]; exact g3⟩, by omega, g5⟩
          · rw [if_neg c2]
            exact ⟨0, p, 0, rfl, hp, rfl, Nat.le_refl _, Or.inr (Or.inr fun s => c2 (by rw [← eq]; exact s.2))⟩
        · rw [if_neg c1]
          exact ⟨0, p, 0, rfl, hp, rfl, Nat.le_refl _, Or.inr (Or.inr fun s => c1 (by have := s.1; unfold cnE at this; omega))⟩
      · rw [gd_t (by unfold inI; omega), if_neg (by omega)]
        exact ⟨0, p, 0, rfl, hp, rfl, Nat.le_refl _, Or.inl z4⟩
    · have hz : (if S 84 (24 + (p : Int)) = 2 then some (0 : Nat) else if S 84 (24 + (p : Int)) = 7 then some 0 else some 1) = some 1 := by
        rw [if_neg (fun e => ty (Or.inl e)), if_neg (fun e => ty (Or.inr e))]
      rw [bd1_e hz, if_neg (by decide)]
      exact ⟨1, p, 0, rfl, hp, rfl, Nat.le_refl _, Or.inr (Or.inl ty)⟩
theorem e_partOf {S T : St} {rO : Nat → Nat} (h : Cor S) (rx : RKx (S 84) rO) (hT : cnt (S 84) (-1) T) {p : Nat} (hp : (p : Int) < S 84 2) : ∃ (p' k : Nat), mX12_partOf T (p : Int) = some (p' : Int) ∧ (p' : Int) < S 84 2 ∧ COL (S 84) k p p' ∧ rO p' ≤ rO p ∧ DNp (S 84) p' := by
  obtain ⟨t, p', k, g1, g2, g3, g4, g5⟩ := e_part2 h rx hT 54 p FU hp (rx.1 p hp) (by unfold FU; omega)
  refine ⟨p', k, ?_, g2, g3, g4, g5⟩
  unfold mX12_partOf
  rw [bd2_e g1]
  split <;> rfl
/-- a node made -/
def nwS (S : St) (k a b c : Int) : St := up (up (up (up (up (up S 99 k a) 100 k b) 101 k c) 102 k (-1)) 103 k (-1)) 83 38 (k + 1)
theorem e_node {S : St} {k : Nat} {a b c : Int} (h : S 83 38 = (k : Int)) (hk : k < 1024) : mX12_node S a b c = some ((k : Int), nwS S (k : Int) a b c) := by
  unfold mX12_node
  rw [h, gd_t (by omega), nx_e, up_n (show (83 : Nat) ≠ 99 by decide), h, gd_t (by omega), nx_e, up_n (show (83 : Nat) ≠ 100 by decide), up_n (show (83 : Nat) ≠ 99 by decide), h, gd_t (by omega), nx_e, up_n (show (83 : Nat) ≠ 101 by decide), up_n (show (83 : Nat) ≠ 100 by decide), up_n (show (83 : Nat) ≠ 99 by decide), h, gd_t (by omega), nx_e, up_n (show (83 : Nat) ≠ 102 by decide), up_n (show (83 : Nat) ≠ 101 by decide), up_n (show (83 : Nat) ≠ 100 by decide), up_n (show (83 : Nat) ≠ 99 by decide), h, gd_t (by omega), nx_e, up_n (show (83 : Nat) ≠ 103 by decide), up_n (show (83 : Nat) ≠ 102 by decide), up_n (show (83 : Nat) ≠ 101 by decide), up_n (show (83 : Nat) ≠ 100 by decide), up_n (show (83 : Nat) ≠ 99 by decide), h, nx_e, up_eq]
  rw [show (k : Int) + 1 - 1 = (k : Int) by omega]
  rfl
theorem nwS_at {S : St} {k a b c : Int} : nwS S k a b c 99 k = a ∧ nwS S k a b c 100 k = b ∧ nwS S k a b c 101 k = c ∧ nwS S k a b c 102 k = -1 ∧ nwS S k a b c 103 k = -1 ∧ nwS S k a b c 83 38 = k + 1 := by
  unfold nwS
  refine ⟨?_, ?_, ?_, ?_, ?_, up_eq⟩
  · rw [up_n (by decide), up_n (by decide), up_n (by decide), up_n (by decide), up_n (by decide), up_eq]
  · rw [up_n (by decide), up_n (by decide), up_n (by decide), up_n (by decide), up_eq]
  · rw [up_n (by decide), up_n (by decide), up_n (by decide), up_eq]
  · rw [up_n (by decide), up_n (by decide), up_eq]
  · rw [up_n (by decide), up_eq]
theorem nwS_ot {S : St} {k a b c : Int} {i : Nat} {q : Int} (h : (i ≠ 83 ∧ (i < 99 ∨ 103 < i ∨ q ≠ k)) ∨ (i = 83 ∧ q ≠ 38)) : nwS S k a b c i q = S i q := by
  unfold nwS
  rw [up_at (by omega), up_at (by omega), up_at (by omega), up_at (by omega), up_at (by omega), up_at (by omega)]
/-- children made so far, with their parts -/
def CHN (M : Int → Int) (S : St) (x k f : Nat) (l : List (Nat × Nat × List Int × Nat)) (last : Int) : Prop := (l = [] ∧ last = -1 ∧ S 102 (x : Int) = -1) ∨ (∃ l0 y, l = l0 ++ [y] ∧ last = (y.2.1 : Int) ∧ S 103 (y.2.1 : Int) = -1 ∧ lnk S (S 102 (x : Int)) (l.map (fun z => z.2.1)) ∧ (∀ z ∈ l0, ND M S y.2.1 f (x + 1) z.1 z.2) ∧ ND M S k f (x + 1) y.1 y.2)
theorem CHN.all {M : Int → Int} {S : St} {x k f : Nat} {l : List (Nat × Nat × List Int × Nat)} {last : Int} (h : CHN M S x k f l last) : lnk S (S 102 (x : Int)) (l.map (fun z => z.2.1)) ∧ ∀ z ∈ l, ND M S k f (x + 1) z.1 z.2 := by
  rcases h with ⟨h1, h2, h3⟩ | ⟨l0, y, h1, h2, h3, h4, h5, h6⟩
  · rw [h1]
    exact ⟨h3, fun z hz => (by cases hz)⟩
  · refine ⟨h4, fun z hz => ?_⟩
    rw [h1] at hz
    obtain ⟨⟨a1, a2⟩, _⟩ := h6.c
    rcases List.mem_append.mp hz with e | e
    · exact ND.fr (Nat.le_of_lt a2) f f (x + 1) (x + 1) z.1 z.2 (Nat.le_refl _) (Nat.le_refl _) (fun _ _ _ _ _ _ => rfl) (fun _ _ _ _ => rfl) (h5 z e)
    · rw [List.mem_singleton.mp e]; exact h6
theorem lnk_app {S T : St} {z : Nat} (hz : z < 1024) (tz : T 103 (z : Int) = -1) : ∀ {l : List Nat} {y : Nat} {q : Int}, lnk S q (l ++ [y]) → (∀ j ∈ l, T 103 (j : Int) = S 103 (j : Int)) → T 103 (y : Int) = (z : Int) → lnk T q (l ++ [y] ++ [z]) := by
  intro l
  induction l with
  | nil =>
    intro y q h _ e
    obtain ⟨a, b, _⟩ := h
    exact ⟨a, b, e, hz, tz⟩
  | cons j l ih =>
    intro y q h k e
    obtain ⟨a, b, c⟩ := h
    refine ⟨a, b, ?_⟩
    rw [k j (List.mem_cons_self ..)]
    exact ih c (fun i hi => k i (List.mem_cons_of_mem _ hi)) e
def cbS (S : St) (x : Nat) (last : Int) (z : Nat) (n : Int) : St := up (if 0 ≤ last then up S 103 last (z : Int) else up S 102 (x : Int) (z : Int)) 101 (x : Int) (S 101 (x : Int) + n)
theorem e_comes {S : St} {x z : Nat} {last n : Int} (hx : x < 1024) (h2 : -1 ≤ last ∧ last < 1024) : mX12_comesBehind S (x : Int) last (z : Int) n = some ((z : Int), cbS S x last z n) := by
  unfold mX12_comesBehind cbS
  rw [gd_t (by unfold inI; omega)]
  by_cases c : 0 ≤ last
  · rw [if_pos c, if_pos c, gd_t (by omega), nx_e, bd1_e rfl, gd_t (by omega), nx_e, up_n (show (101 : Nat) ≠ 103 by decide)]
  · rw [if_neg c, if_neg c, gd_t (by omega), nx_e, bd1_e rfl, gd_t (by omega), nx_e, up_n (show (101 : Nat) ≠ 102 by decide)]
theorem CHN.last {M : Int → Int} {S : St} {x k f : Nat} {l : List (Nat × Nat × List Int × Nat)} {last : Int} (h : CHN M S x k f l last) (hk : k ≤ 1024) : -1 ≤ last ∧ last < 1024 := by
  rcases h with ⟨h1, h2, h3⟩ | ⟨l0, y, h1, h2, h3, h4, h5, h6⟩
  · omega
  · obtain ⟨⟨a1, a2⟩, _⟩ := h6.c
    omega
theorem CHN.nx {M : Int → Int} {S S1 : St} {x k k1 f f1 p : Nat} {l : List (Nat × Nat × List Int × Nat)} {last n : Int} {z : Nat × List Int × Nat} (h : CHN M S x k f l last) (fr : ∀ a j : Nat, 99 ≤ a → a ≤ 103 → j < k → S1 a (j : Int) = S a (j : Int)) (hz : ND M S1 k1 f1 k p z) (z3 : S1 103 (z.1 : Int) = -1) (hx : x < k) (k1l : k1 ≤ 1024) : CHN M (cbS S1 x last z.1 n) x k1 (f + f1) (l ++ [(p, z)]) (z.1 : Int) := by
  obtain ⟨⟨b1, b2⟩, _⟩ := hz.c
  right
  rcases h with ⟨h1, h2, h3⟩ | ⟨l0, y, h1, h2, h3, h4, h5, h6⟩
  · subst h1
    have e : cbS S1 x last z.1 n = up (up S1 102 (x : Int) (z.1 : Int)) 101 (x : Int) (S1 101 (x : Int) + n) := by
      unfold cbS; rw [if_neg (by omega)]
    rw [e]
    refine ⟨[], (p, z), rfl, rfl, ?_, ?_, fun z hz => (by cases hz), ?_⟩
    · show up (up S1 102 (x : Int) (z.1 : Int)) 101 (x : Int) (S1 101 (x : Int) + n) 103 (z.1 : Int) = -1
      rw [up_n (by decide), up_n (by decide)]; exact z3
    · refine ⟨?_, (show z.1 < 1024 by omega), ?_⟩
      · rw [up_n (by decide), up_eq]
      · show up (up S1 102 (x : Int) (z.1 : Int)) 101 (x : Int) (S1 101 (x : Int) + n) 103 (z.1 : Int) = -1
        rw [up_n (by decide), up_n (by decide)]; exact z3
    · refine ND.fr (Nat.le_refl _) f1 (f + f1) k (x + 1) p z (by omega) (by omega) (fun a j a1 a2 a3 a4 => ?_) (fun j a3 a4 _ => ?_) hz
      · rw [up_at (by omega), up_at (by omega)]
      · rw [up_at (by omega), up_at (by omega)]
  · obtain ⟨⟨c1, c2⟩, _⟩ := h6.c
    have e : cbS S1 x last z.1 n = up (up S1 103 (y.2.1 : Int) (z.1 : Int)) 101 (x : Int) (S1 101 (x : Int) + n) := by
      unfold cbS; rw [if_pos (by omega), h2]
    have g : ∀ (a : Nat) (j : Int), (a ≠ 103 ∨ j ≠ (y.2.1 : Int)) → (a ≠ 101 ∨ j ≠ (x : Int)) → cbS S1 x last z.1 n a j = S1 a j := fun a j a1 a2 => by
      rw [e, up_at (by omega), up_at (by omega)]
    have gy : cbS S1 x last z.1 n 103 (y.2.1 : Int) = (z.1 : Int) := by
      rw [e, up_n (by decide), up_eq]
    have g2 : cbS S1 x last z.1 n 102 (x : Int) = S 102 (x : Int) := by
      rw [g 102 _ (by omega) (by omega)]
      exact fr 102 x (by omega) (by omega) hx
    have gz : cbS S1 x last z.1 n 103 (z.1 : Int) = -1 := by
      rw [g 103 _ (by omega) (by omega)]; exact z3
    refine ⟨l, (p, z), rfl, rfl, gz, ?_, fun w hw => ?_, ?_⟩
    · rw [g2, h1, List.map_append, List.map_append]
      refine lnk_app (S := S) (by omega) gz ?_ (fun j hj => ?_) gy
      · rw [h1, List.map_append] at h4
        exact h4
      · obtain ⟨w, w1, w2⟩ := List.mem_map.mp hj
        obtain ⟨⟨d1, d2⟩, _⟩ := (h5 w w1).c
        rw [← w2, g 103 _ (by omega) (by omega)]
        exact fr 103 w.2.1 (by omega) (by omega) (by omega)
    · rw [h1] at hw
      rcases List.mem_append.mp hw with q | q
      · obtain ⟨⟨d1, d2⟩, _⟩ := (h5 w q).c
        refine ND.fr (show y.2.1 ≤ z.1 by omega) f (f + f1) (x + 1) (x + 1) w.1 w.2 (by omega) (Nat.le_refl _) (fun a j a1 a2 a3 a4 => ?_) (fun j a3 a4 _ => ?_) (h5 w q)
        · rw [g a _ (by omega) (by omega)]; exact fr a j (by omega) (by omega) (by omega)
        · rw [g 103 _ (by omega) (by omega)]; exact fr 103 j (by omega) (by omega) (by omega)
      · rw [List.mem_singleton.mp q]
        refine ND.fr (show k ≤ z.1 by omega) f (f + f1) (x + 1) (x + 1) y.1 y.2 (by omega) (Nat.le_refl _) (fun a j a1 a2 a3 a4 => ?_) (fun j a3 a4 a5 => ?_) h6
        · rw [g a _ (by omega) (by omega)]; exact fr a j (by omega) (by omega) (by omega)
        · rw [g 103 _ (by omega) (by omega)]; exact fr 103 j (by omega) (by omega) (by omega)
    · refine ND.fr (Nat.le_refl _) f1 (f + f1) k (x + 1) p z (by omega) (by omega) (fun a j a1 a2 a3 a4 => ?_) (fun j a3 a4 a5 => ?_) hz
      · rw [g a _ (by omega) (by omega)]
      · rw [g 103 _ (by omega) (by omega)]
