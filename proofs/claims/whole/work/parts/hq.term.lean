/-! the reference's reader: the parts of a term -/
theorem rdC_sz {M : Int → Int} {rec : Nat → List Int → Option (List Int × Nat × List Int)} (hr : ∀ p w c n r, rec p w = some (c, n, r) → n ≤ c.length) : ∀ (k : Nat) (q : Int) (w : List Int) (s : List (List Int × Nat)) (r : List Int), rdC M rec k q w = some (s, r) → szs s ≤ (fl1 s).length := by
  intro k
  induction k with
  | zero => intro q w s r h; cases h
  | succ k ih =>
    intro q w s r h
    rw [rdC] at h
    by_cases c : q < 0
    · rw [if_pos c] at h
      cases h
      exact Nat.le_refl _
    · rw [if_neg c] at h
      obtain ⟨⟨c1, n1, r1⟩, o1, o2⟩ := Option.bind_eq_some_iff.mp h
      obtain ⟨⟨s2, r2⟩, p1, p2⟩ := Option.bind_eq_some_iff.mp o2
      cases p2
      have a := hr _ _ _ _ _ o1
      have b := ih _ _ _ _ p1
      show n1 + szs s2 ≤ (c1 ++ fl1 s2).length
      rw [List.length_append]
      omega
theorem rdL_sz {rec : List Int → Option (List Int × Nat × List Int)} {cl : Int} (hr : ∀ w c n r, rec w = some (c, n, r) → n ≤ c.length) : ∀ (k : Nat) (w : List Int) (s : List (List Int × Nat)) (r : List Int), rdL rec cl k w = some (s, r) → szs s ≤ (fl1 s).length := by
  intro k
  induction k with
  | zero => intro w s r h; cases h
  | succ k ih =>
    intro w s r h
    cases w with
    | nil => cases h
    | cons a w =>
      rw [rdL] at h
      by_cases c : a = cl
      · rw [if_pos c] at h
        cases h
        exact Nat.le_refl _
      · rw [if_neg c] at h
        obtain ⟨⟨c1, n1, r1⟩, o1, o2⟩ := Option.bind_eq_some_iff.mp h
        obtain ⟨⟨s2, r2⟩, p1, p2⟩ := Option.bind_eq_some_iff.mp o2
        cases p2
        have a := hr _ _ _ _ o1
        have b := ih _ _ _ p1
        show n1 + szs s2 ≤ (c1 ++ fl1 s2).length
        rw [List.length_append]
        omega
theorem rdE_sz {M : Int → Int} {rec : Nat → List Int → Option (List Int × Nat × List Int)} (hr : ∀ p w c n r, rec p w = some (c, n, r) → n ≤ c.length) {e : Nat} {w c r : List Int} {n : Nat} (h : rdE M rec e w = some (c, n, r)) : n ≤ c.length := by
  unfold rdE at h
  split at h
  · split at h
    · next z =>
      obtain ⟨⟨s, r'⟩, o1, o2⟩ := Option.bind_eq_some_iff.mp h
      cases o2
      exact rdC_sz hr _ _ _ _ _ o1
    · cases h
  · cases w with
    | nil => cases h
    | cons a w =>
      dsimp only at h
      split at h
      · obtain ⟨⟨s, r'⟩, o1, o2⟩ := Option.bind_eq_some_iff.mp h
        cases o2
        have := rdC_sz hr _ _ _ _ _ o1
        show szs s ≤ (fl1 s).length + 1
        omega
      · cases h
theorem rdP_sz {M : Int → Int} : ∀ (f p : Nat) (w c : List Int) (n : Nat) (r : List Int), rdP M f p w = some (c, n, r) → n ≤ c.length := by
  intro f
  induction f with
  | zero => intro p w c n r h; cases h
  | succ f ih =>
    intro p w c n r h
    by_cases t1 : M (24 + (p : Int)) ≤ 1
    · rw [rdP_leaf t1] at h
      cases w with
      | nil => cases h
      | cons a w =>
        dsimp only at h
        split at h
        · cases h
          unfold lfN
          split
          · exact Nat.le_refl _
          · exact Nat.zero_le _
        · cases h
    · by_cases t2 : M (24 + (p : Int)) = 2 ∨ M (24 + (p : Int)) = 7
      · rw [rdP_nm t2] at h
        exact rdE_sz (fun p w c n r => ih p w c n r) h
      · rw [rdP_s] at h
        unfold rdB at h
        rw [if_neg t1, if_neg t2] at h
        cases w with
        | nil => cases h
        | cons a w =>
          dsimp only at h
          split at h
          · obtain ⟨⟨s, r'⟩, o1, o2⟩ := Option.bind_eq_some_iff.mp h
            split at o2
            · cases o2
              have a := rdL_sz (fun w c n r => ih _ w c n r) _ _ _ _ o1
              have e := ((sqL_cq (M (24 + (p : Int))) (s.map Prod.fst)).pm.flatten).length_eq
              have e' : (fl1 s).length = ((sqL (M (24 + (p : Int))) (s.map Prod.fst)).flatten).length := e
              dsimp only
              rw [List.length_cons, List.length_append]
              omega
            · cases o2
          · cases h
/-- cells of nodes are ints -/
def hIn (S : St) : Prop := ∀ (c : Nat) (j : Nat), 99 ≤ c → c ≤ 103 → j < 1024 → inI (S c (j : Int))
/-- what a reading leaves as it was: all but nodes, their number, the place -/
def NFx (S T : St) : Prop := (∀ (c : Nat) (i : Int), c ≠ 83 → (c < 99 ∨ 103 < c) → T c i = S c i) ∧ ∀ i : Int, i ≠ 38 → i ≠ 41 → T 83 i = S 83 i
theorem NFx.rf {S : St} : NFx S S := ⟨fun _ _ _ _ => rfl, fun _ _ _ => rfl⟩
theorem NFx.tr {S T U : St} (h : NFx S T) (k : NFx T U) : NFx S U := ⟨fun c i a b => (k.1 c i a b).trans (h.1 c i a b), fun i a b => (k.2 i a b).trans (h.2 i a b)⟩
theorem NFx.cn {S T : St} {M : Int → Int} (h : NFx S T) (k : cnt M (-1) S) : cnt M (-1) T := k.of (funext fun i => h.1 84 i (by decide) (by omega)) (funext fun i => h.1 90 i (by decide) (by omega)) (funext fun i => h.1 91 i (by decide) (by omega))
/-- one part read -/
def OUT2 (M : Int → Int) (mu : Nat → Nat) (S T : St) (p k : Nat) (w : List Int) (r : Int) : Prop := NFx S T ∧ (∀ a j : Nat, 99 ≤ a → a ≤ 103 → j < k → T a (j : Int) = S a (j : Int)) ∧ hIn T ∧ ∃ k' : Nat, T 83 38 = (k' : Int) ∧ k ≤ k' ∧ k' ≤ 1024 ∧
  ((∃ (j : Nat) (c : List Int) (n : Nat) (w' : List Int), r = (j : Int) ∧ (∃ f, rdP M f p w = some (c, n, w')) ∧ TXr T w' ∧ (∃ f, ND M T k' f k p (j, c, n)) ∧ T 103 (j : Int) = -1 ∧ k' + 1 ≤ k + 2 * c.length) ∨
  (r = -1 ∧ (∀ f c n w', rdP M f p w = some (c, n, w') → M 1 < ((n : Nat) : Int)) ∧ k' ≤ k + 14 * w.length + mu p + 1))
def CL2 (M : Int → Int) (mu : Nat → Nat) (g : Nat) : Prop := ∀ (p k : Nat) (w : List Int) (S : St), (p : Int) < M 2 → cnt M (-1) S → hIn S → TXr S w → S 83 38 = (k : Int) → k + 14 * w.length + mu p + 1 ≤ 1024 → 2 * (13 * w.length + mu p) + 2 ≤ g → ∃ r T, RX12_readsMany g 2 (p : Int) S = some (r, T) ∧ OUT2 M mu S T p k w r
def chQ (M : Int → Int) : Int → List (Nat × Nat × List Int × Nat) → Prop
  | q, [] => q < 0
  | q, z :: l => 0 ≤ q ∧ z.1 = q.toNat ∧ chQ M (M (96 + q)) l
theorem chQ.ch {M : Int → Int} {D : Nat → Nat × List Int × Nat → Prop} : ∀ {l : List (Nat × Nat × List Int × Nat)} {q : Int}, chQ M q l → (∀ z ∈ l, D z.1 z.2) → chD M D q (l.map Prod.snd) := by
  intro l
  induction l with
  | nil => intro q h _; exact h
  | cons z l ih =>
    intro q h k
    obtain ⟨a, b, c⟩ := h
    refine ⟨a, ?_, ih c (fun y hy => k y (List.mem_cons_of_mem _ hy))⟩
    rw [← b]
    exact k z (List.mem_cons_self ..)
theorem cb_ot {S : St} {x z : Nat} {last n : Int} {a : Nat} {i : Int} (h : (a ≠ 101 ∨ i ≠ (x : Int)) ∧ (a ≠ 102 ∨ i ≠ (x : Int)) ∧ (a ≠ 103 ∨ i ≠ last)) : cbS S x last z n a i = S a i := by
  unfold cbS
  rw [up_at (by omega)]
  split
  · rw [up_at (by omega)]
  · rw [up_at (by omega)]
theorem cb_nf {S : St} {x z : Nat} {last n : Int} : NFx S (cbS S x last z n) := ⟨fun c i a b => cb_ot (by omega), fun i a b => cb_ot (by omega)⟩
theorem hIn.up {S : St} {a : Nat} {k v : Int} (h : hIn S) (hv : inI v) : hIn (up S a k v) := by
  intro c j x y z
  by_cases e : c = a
  · subst e
    rw [up_if]
    split
    · exact hv
    · exact h c j x y z
  · rw [up_n e]
    exact h c j x y z
theorem cb_hI {S : St} {x z : Nat} {last n : Int} (h : hIn S) (hz : z < 1024) (hn : inI (S 101 (x : Int) + n)) : hIn (cbS S x last z n) := by
  have iz : inI (z : Int) := by unfold inI; omega
  unfold cbS
  refine hIn.up ?_ hn
  split
  · exact h.up iz
  · exact h.up iz
/-- the loop over a term's parts -/
theorem e_rd97 {M : Int → Int} {mu : Nat → Nat} {g x B : Nat} (wf : WF M) (m12 : ∀ p : Nat, (p : Int) < M 2 → mu p ≤ 12) (H : CL2 M mu g) (hB : B ≤ 1024) : ∀ (d : Nat) (q : Int) (w : List Int) (S : St) (k f n0 F : Nat) (last : Int) (l : List (Nat × Nat × List Int × Nat)), (q < 0 ∨ (0 ≤ q ∧ q < M 2 ∧ 24 ≤ q + (d : Int))) → -1 ≤ q → d < F → CHN M S x k f l last → x < k → k ≤ 1024 → S 83 38 = (k : Int) → cnt M (-1) S → hIn S → TXr S w → S 101 (x : Int) = (n0 : Int) → n0 + w.length ≤ 1000 → (0 ≤ q → k + 14 * w.length + mu q.toNat + 1 ≤ B ∧ 2 * (13 * w.length + mu q.toNat) + 2 ≤ g) → ∃ (t : Int) (T : St), mX12_readsTerm_97 (RX12_readsMany g) (x : Int) F q last S = some (t, T) ∧ NFx S T ∧ (∀ a j : Nat, 99 ≤ a → a ≤ 103 → j < x → T a (j : Int) = S a (j : Int)) ∧ (T 99 (x : Int) = S 99 (x : Int) ∧ T 100 (x : Int) = S 100 (x : Int) ∧ T 103 (x : Int) = S 103 (x : Int)) ∧ hIn T ∧ ∃ k' : Nat, T 83 38 = (k' : Int) ∧ k ≤ k' ∧ k' ≤ 1024 ∧
    ((t = 1 ∧ ∃ (s : List (List Int × Nat)) (w' : List Int) (l2 : List (Nat × Nat × List Int × Nat)) (f' : Nat) (last' : Int), (∃ f0, ∀ K, d < K → rdC M (rdP M f0) K q w = some (s, w')) ∧ TXr T w' ∧ CHN M T x k' f' (l ++ l2) last' ∧ chQ M q l2 ∧ l2.map (fun z => (z.2.2.1, z.2.2.2)) = s ∧ T 101 (x : Int) = ((n0 + szs s : Nat) : Int) ∧ k' + l2.length ≤ k + 2 * (fl1 s).length) ∨
     (t = 0 ∧ (∀ f0 K s w', rdC M (rdP M f0) K q w = some (s, w') → M 1 < ((szs s : Nat) : Int)) ∧ k' ≤ B)) := by
  intro d
  induction d with
  | zero =>
    intro q w S k f n0 F last l hq hq1 hF hc hx hk h38 hT hI hw h101 hn hb
    obtain ⟨F, rfl⟩ : ∃ F', F = F' + 1 := ⟨F - 1, by omega⟩
    have hM2 := wf.2.2.1
    have qn : q < 0 := by omega
    refine ⟨1, S, ?_, NFx.rf, fun _ _ _ _ _ => rfl, ⟨rfl, rfl, rfl⟩, hI, k, h38, Nat.le_refl _, hk, Or.inl ⟨rfl, [], w, [], f, last, ⟨0, fun K hK => ?_⟩, hw, by rw [List.append_nil]; exact hc, qn, rfl, h101, Nat.le_refl _⟩⟩
    · rw [mX12_readsTerm_97, gd_t (by unfold inI; omega), if_pos qn]
    · obtain ⟨K, rfl⟩ : ∃ K', K = K' + 1 := ⟨K - 1, by omega⟩
      rw [rdC, if_pos qn]
  | succ d ih =>
    intro q w S k f n0 F last l hq hq1 hF hc hx hk h38 hT hI hw h101 hn hb
    obtain ⟨F, rfl⟩ : ∃ F', F = F' + 1 := ⟨F - 1, by omega⟩
    have hM2 := wf.2.2.1
    by_cases qn : q < 0
    · refine ⟨1, S, ?_, NFx.rf, fun _ _ _ _ _ => rfl, ⟨rfl, rfl, rfl⟩, hI, k, h38, Nat.le_refl _, hk, Or.inl ⟨rfl, [], w, [], f, last, ⟨0, fun K hK => ?_⟩, hw, by rw [List.append_nil]; exact hc, qn, rfl, h101, Nat.le_refl _⟩⟩
      · rw [mX12_readsTerm_97, gd_t (by unfold inI; omega), if_pos qn]
      · obtain ⟨K, rfl⟩ : ∃ K', K = K' + 1 := ⟨K - 1, by omega⟩
        rw [rdC, if_pos qn]
    · obtain ⟨p, rfl⟩ : ∃ p : Nat, q = (p : Int) := ⟨q.toNat, by omega⟩
      obtain ⟨q1, q2, q3⟩ : (0 : Int) ≤ p ∧ (p : Int) < M 2 ∧ 24 ≤ (p : Int) + ((d + 1 : Nat) : Int) := by
        rcases hq with z | z
        · exact absurd z qn
        · exact z
      obtain ⟨b1, b2⟩ := hb q1
      rw [Int.toNat_natCast] at b1 b2
      obtain ⟨r, T1, r1, fr, fn, hI1, k1, h1, kk, k1l, out⟩ := H p k w S q2 hT hI hw h38 (by omega) b2
      rw [mX12_readsTerm_97, gd_t (by unfold inI; omega), if_neg qn, bd2_e r1]
      have fx : ∀ a : Nat, 99 ≤ a → a ≤ 103 → T1 a (x : Int) = S a (x : Int) := fun a y z => fn a x y z hx
      rcases out with ⟨j, c, n, w', e1, ⟨f1, o1⟩, o2, ⟨f2, o3⟩, o4, o5⟩ | ⟨e1, o1, o2⟩
      · have at' := (rdP_ate f1 p w c n w' o1).len
        have sz := rdP_sz f1 p w c n w' o1
        obtain ⟨⟨j1, j2⟩, _, _, j5⟩ := o3.c
        have j5' : T1 101 (j : Int) = (n : Int) := j5
        have j2' : j < k1 := j2
        subst e1
        have e101 : T1 101 (x : Int) = (n0 : Int) := by rw [fx 101 (by omega) (by omega)]; exact h101
        rw [gd_t (by unfold inI; omega), if_pos (by omega), gd_t (by omega), j5', bd2_e (e_comes (by omega) (hc.last hk)), gd_t (by omega), nx_e]
        have C := CHN.nx (n := (n : Int)) hc fn o3 o4 hx k1l
        have lastb := hc.last hk
        obtain ⟨T2, eT2⟩ : ∃ T2, T2 = cbS T1 x last j (n : Int) := ⟨_, rfl⟩
        have C' : CHN M T2 x k1 (f + f2) (l ++ [(p, (j, c, n))]) (j : Int) := by rw [eT2]; exact C
        have nf2 : NFx T1 T2 := by rw [eT2]; exact cb_nf
        have hI2 : hIn T2 := by rw [eT2]; exact cb_hI hI1 (by omega) (by rw [e101]; unfold inI; omega)
        have e84 : T2 84 = M := (nf2.cn (fr.cn hT)).1
        have h38' : T2 83 38 = (k1 : Int) := by rw [eT2, cb_ot (by omega)]; exact h1
        have hw2 : TXr T2 w' := o2.of (by rw [eT2, cb_ot (by omega)]) (by rw [eT2, cb_ot (by omega)]) (by rw [eT2]; exact funext fun i => cb_ot (by omega))
        have e101' : T2 101 (x : Int) = ((n0 + n : Nat) : Int) := by
          rw [eT2]; unfold cbS; rw [up_eq, e101]; omega
        have oth : ∀ a : Nat, a = 99 ∨ a = 100 ∨ a = 103 → T2 a (x : Int) = S a (x : Int) := fun a ha => by
          have lx : last ≠ (x : Int) := by
            rcases hc with ⟨_, z, _⟩ | ⟨l0, y, _, z, _, _, _, y6⟩
            · omega
            · obtain ⟨⟨z1, _⟩, _⟩ := y6.c; omega
          rw [eT2, cb_ot (by omega)]
          exact fx a (by omega) (by omega)
        have low : ∀ a i : Nat, 99 ≤ a → a ≤ 103 → i < x → T2 a (i : Int) = S a (i : Int) := fun a i a1 a2 a3 => by
          have lx : last = -1 ∨ (x : Int) < last := by
            rcases hc with ⟨_, z, _⟩ | ⟨l0, y, _, z, _, _, _, y6⟩
            · exact Or.inl z
            · obtain ⟨⟨z1, _⟩, _⟩ := y6.c; exact Or.inr (by omega)
          rw [eT2, cb_ot (by omega)]
          exact fn a i a1 a2 (by omega)
        rw [← eT2, e84]
        have ok := (wf.2.2.2.1 p q2).2.1
        obtain ⟨t, T, g1, g2, g3, ⟨g4, g5, g6⟩, g7, k', g8, g9, g10, g11⟩ := ih (M (96 + (p : Int))) w' T2 k1 (f + f2) (n0 + n) F (j : Int) (l ++ [(p, (j, c, n))]) (by omega) (by omega) (by omega) C' (by omega) k1l h38' (nf2.cn (fr.cn hT)) hI2 hw2 e101' (by omega) (fun z => by
          have := m12 (M (96 + (p : Int))).toNat (by omega)
          omega)
        refine ⟨t, T, g1, (fr.tr nf2).tr g2, fun a i a1 a2 a3 => (g3 a i a1 a2 a3).trans (low a i a1 a2 a3), ⟨g4.trans (oth 99 (by omega)), g5.trans (oth 100 (by omega)), g6.trans (oth 103 (by omega))⟩, g7, k', g8, by omega, g10, ?_⟩
        rcases g11 with ⟨t1, s, w2, l2, f', last', ⟨f0, u1⟩, u2, u3, u4, u5, u6, u7⟩ | ⟨t1, u1, u2⟩
        · refine Or.inl ⟨t1, (c, n) :: s, w2, (p, (j, c, n)) :: l2, f', last', ⟨f0 + f1, fun K hK => ?_⟩, u2, ?_, ⟨q1, by omega, u4⟩, ?_, ?_, ?_⟩
          · obtain ⟨K, rfl⟩ : ∃ K', K = K' + 1 := ⟨K - 1, by omega⟩
            have v1 := rdP_le (show f1 ≤ f0 + f1 by omega) o1
            have v2 := rdC_mo (rec' := rdP M (f0 + f1)) (fun p w x z => rdP_le (show f0 ≤ f0 + f1 by omega) z) K _ _ _ (u1 K (by omega))
            rw [rdC, if_neg qn, Int.toNat_natCast, v1]
            show ((rdC M (rdP M (f0 + f1)) K (M (96 + (p : Int))) w').bind fun s => some ((c, n) :: s.1, s.2)) = _
            rw [v2]; rfl
          · rw [List.append_assoc] at u3; exact u3
          · rw [List.map_cons, u5]
          · rw [u6]; show ((n0 + n + szs s : Nat) : Int) = ((n0 + (n + szs s) : Nat) : Int); omega
          · show k' + (l2.length + 1) ≤ k + 2 * (c ++ fl1 s).length
            rw [List.length_append]
            omega
        · refine Or.inr ⟨t1, fun f0 K s w2 z => ?_, u2⟩
          cases K with
          | zero => cases z
          | succ K =>
            rw [rdC, if_neg qn, Int.toNat_natCast] at z
            obtain ⟨⟨c', n', r'⟩, y1, y2⟩ := Option.bind_eq_some_iff.mp z
            obtain ⟨⟨s2, r2⟩, y3, y4⟩ := Option.bind_eq_some_iff.mp y2
            cases y4
            have dt := rdP_det y1 o1
            cases dt
            have := u1 f0 K s2 r2 y3
            show M 1 < ((n + szs s2 : Nat) : Int)
            omega
      · subst e1
        rw [gd_t (by unfold inI; omega), if_neg (by omega)]
        refine ⟨0, T1, rfl, fr, fun a i a1 a2 a3 => fn a i a1 a2 (by omega), ⟨fx 99 (by omega) (by omega), fx 100 (by omega) (by omega), fx 103 (by omega) (by omega)⟩, hI1, k1, h1, kk, k1l, Or.inr ⟨rfl, fun f0 K s w2 z => ?_, by omega⟩⟩
        cases K with
        | zero => cases z
        | succ K =>
          rw [rdC, if_neg qn, Int.toNat_natCast] at z
          obtain ⟨⟨c', n', r'⟩, y1, y2⟩ := Option.bind_eq_some_iff.mp z
          obtain ⟨⟨s2, r2⟩, y3, y4⟩ := Option.bind_eq_some_iff.mp y2
          cases y4
          have := o1 f0 c' n' r' y1
          show M 1 < ((n' + szs s2 : Nat) : Int)
          omega
