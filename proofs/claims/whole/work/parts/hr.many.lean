/-! the reference's reader: the things of a sequence -/
theorem e_among7 {S : St} {z : Nat × List Int × Nat} : ∀ (l : List (Nat × List Int × Nat)) (f : Nat) (q : Int), l.length < f → lnk S q (l.map Prod.fst) → (∀ y ∈ l, SMd S 200 y z) → ∃ t : Int, mX12_isAmong_7 S (z.1 : Int) f q = some t ∧ ((t = 0 ∧ z.2.1 ∈ mpC l) ∨ (t = 1 ∧ z.2.1 ∉ mpC l)) := by
  intro l
  induction l with
  | nil =>
    intro f q hf hq hs
    obtain ⟨f, rfl⟩ : ∃ f', f = f' + 1 := ⟨f - 1, by have : 0 < f := hf; omega⟩
    have q1 : q = -1 := hq
    refine ⟨1, ?_, Or.inr ⟨rfl, fun h => (by cases h)⟩⟩
    rw [mX12_isAmong_7, q1, gd_t (by decide), if_pos (by decide)]
  | cons y l ih =>
    intro f q hf hq hs
    have hf' : l.length + 1 < f := hf
    obtain ⟨f, rfl⟩ : ∃ f', f = f' + 1 := ⟨f - 1, by omega⟩
    obtain ⟨a1, a2, a3⟩ := hq
    have s0 := hs y (List.mem_cons_self ..)
    have s1 : mX12_areSame S (y.1 : Int) (z.1 : Int) = some (if y.2.1 = z.2.1 then 1 else 0) := s0
    rw [mX12_isAmong_7, a1, gd_t (by unfold inI; omega), if_neg (by omega), bd1_e s1]
    by_cases c : y.2.1 = z.2.1
    · rw [if_pos c, gd_t (by decide), if_neg (by decide)]
      refine ⟨0, rfl, Or.inl ⟨rfl, ?_⟩⟩
      show z.2.1 ∈ y.2.1 :: mpC l
      rw [c]; exact List.mem_cons_self ..
    · rw [if_neg c, gd_t (by decide), if_pos rfl, gd_t (by omega), nx_e]
      obtain ⟨t, t1, t2⟩ := ih f _ (by omega) a3 (fun y hy => hs y (List.mem_cons_of_mem _ hy))
      refine ⟨t, t1, ?_⟩
      rcases t2 with ⟨e, p⟩ | ⟨e, p⟩
      · exact Or.inl ⟨e, List.mem_cons_of_mem _ p⟩
      · refine Or.inr ⟨e, fun h => ?_⟩
        rcases List.mem_cons.mp (show z.2.1 ∈ y.2.1 :: mpC l from h) with q | q
        · exact c q.symm
        · exact p q
theorem e_among {S : St} {x : Nat} {z : Nat × List Int × Nat} {l : List (Nat × List Int × Nat)} (hx : x < 1024) (hl : l.length < 1000) (hq : lnk S (S 102 (x : Int)) (l.map Prod.fst)) (hs : ∀ y ∈ l, SMd S 200 y z) : ∃ t : Int, mX12_isAmong S (x : Int) (z.1 : Int) = some t ∧ ((t = 1 ∧ z.2.1 ∈ mpC l) ∨ (t = 0 ∧ z.2.1 ∉ mpC l)) := by
  obtain ⟨t, t1, t2⟩ := e_among7 (z := z) l FU _ (by unfold FU; omega) hq hs
  unfold mX12_isAmong
  rw [gd_t (by omega), nx_e, bd1_e t1]
  rcases t2 with ⟨e, p⟩ | ⟨e, p⟩
  · rw [if_pos e]; exact ⟨1, rfl, Or.inl ⟨rfl, p⟩⟩
  · rw [if_neg (by omega)]; exact ⟨0, rfl, Or.inr ⟨rfl, p⟩⟩
def prl (l : List (Nat × Nat × List Int × Nat)) : List (List Int × Nat) := l.map (fun z => (z.2.2.1, z.2.2.2))
def tls (l : List (Nat × Nat × List Int × Nat)) : List (List Int) := l.map (fun z => z.2.2.1)
theorem tls_mp (l : List (Nat × Nat × List Int × Nat)) : mpC (l.map Prod.snd) = tls l := by
  unfold mpC tls
  rw [List.map_map]
  rfl
theorem tls_app (l m : List (Nat × Nat × List Int × Nat)) : tls (l ++ m) = tls l ++ tls m := List.map_append
theorem clS_b2 {t : Int} : 0 ≤ clS t ∧ clS t < 128 := by
  unfold clS
  split
  · decide
  · split
    · decide
    · split <;> decide
theorem nd_bad {A B : List (List Int)} {c : List Int} (h : c ∈ A) : ¬ (A ++ c :: B).Nodup := fun n => by
  have := (List.nodup_append.mp n).2.2 c h c (List.mem_cons_self ..)
  exact this rfl
/-- the loop over a sequence's things -/
theorem e_rd60 {M : Int → Int} {mu : Nat → Nat} {g x B p q : Nat} (wf : WF M) (H : CL2 M mu g) (hB : B ≤ 1024) (hp : (p : Int) < M 2) (hq : (q : Int) < M 2) (ty : 3 ≤ M (24 + (p : Int)) ∧ M (24 + (p : Int)) ≤ 6) (eq' : M (72 + (p : Int)) = (q : Int)) : ∀ (m : Nat) (w : List Int) (S : St) (k f n0 F : Nat) (last : Int) (l : List (Nat × Nat × List Int × Nat)), w.length ≤ m → m < F → CHN M S x k f l last → (∀ z ∈ l, z.1 = q ∧ z.2.2.1.length ≤ 40) → x < k → k ≤ 1024 → S 83 38 = (k : Int) → cnt M (-1) S → hIn S → TXr S w → S 100 (x : Int) = ((l.length : Nat) : Int) → l.length + w.length ≤ 40 → S 101 (x : Int) = (n0 : Int) → n0 + w.length ≤ 1000 → k + 14 * w.length + mu q + 1 ≤ B → 2 * (13 * w.length + mu q) + 2 ≤ g → (M (24 + (p : Int)) = 5 → (tls l).Nodup) → ∃ (t : Int) (T : St), mX12_readsMany_60 (RX12_readsMany g) (x : Int) (clS (M (24 + (p : Int)))) (M (24 + (p : Int))) (p : Int) F last S = some (t, T) ∧ NFx S T ∧ (∀ a j : Nat, 99 ≤ a → a ≤ 103 → j < x → T a (j : Int) = S a (j : Int)) ∧ (T 99 (x : Int) = S 99 (x : Int) ∧ T 103 (x : Int) = S 103 (x : Int)) ∧ hIn T ∧ ∃ k' : Nat, T 83 38 = (k' : Int) ∧ k ≤ k' ∧ k' ≤ 1024 ∧
    ((t = 1 ∧ ∃ (w' : List Int) (l2 : List (Nat × Nat × List Int × Nat)) (f' : Nat) (last' : Int), (∃ f0, ∀ K, l2.length < K → rdL (rdP M f0 q) (clS (M (24 + (p : Int)))) K w = some (prl l2, w')) ∧ TXr T (clS (M (24 + (p : Int))) :: w') ∧ CHN M T x k' f' (l ++ l2) last' ∧ (∀ z ∈ l2, z.1 = q) ∧ T 100 (x : Int) = (((l ++ l2).length : Nat) : Int) ∧ T 101 (x : Int) = ((n0 + szs (prl l2) : Nat) : Int) ∧ (M (24 + (p : Int)) = 5 → (tls (l ++ l2)).Nodup) ∧ k' + l2.length ≤ k + 2 * (fl1 (prl l2)).length ∧ (l ++ l2).length ≤ 40) ∨
     (t = 0 ∧ (∀ f0 K s w', rdL (rdP M f0 q) (clS (M (24 + (p : Int)))) K w = some (s, w') → M 1 < ((szs s : Nat) : Int) ∨ (M (24 + (p : Int)) = 5 ∧ ¬ (tls l ++ s.map Prod.fst).Nodup)) ∧ k' ≤ B)) := by
  intro m
  induction m with
  | zero =>
    intro w S k f n0 F last l hm hF hc hl hx hk h38 hT hI hw h100 h40 h101 hn hb hg hnd
    obtain ⟨F, rfl⟩ : ∃ F', F = F' + 1 := ⟨F - 1, by omega⟩
    have cb := clS_b2 (t := M (24 + (p : Int)))
    have wn : w = [] := List.eq_nil_of_length_eq_zero (by omega)
    subst wn
    have eh := here_nil hw
    refine ⟨0, S, ?_, NFx.rf, fun _ _ _ _ _ => rfl, ⟨rfl, rfl⟩, hI, k, h38, Nat.le_refl _, hk, Or.inr ⟨rfl, fun f0 K s w' z => ?_, by omega⟩⟩
    · rw [mX12_readsMany_60, bd1_e eh, gd_t (by unfold inI; omega), if_neg (by omega), bd1_e eh]
      rw [gd_t (show inI (-1) by decide), if_neg (show ¬ (0 : Int) ≤ -1 by decide)]
      rfl
    · cases K with
      | zero => cases z
      | succ K => cases z
  | succ m ih =>
    intro w S k f n0 F last l hm hF hc hl hx hk h38 hT hI hw h100 h40 h101 hn hb hg hnd
    obtain ⟨F, rfl⟩ : ∃ F', F = F' + 1 := ⟨F - 1, by omega⟩
    have cb := clS_b2 (t := M (24 + (p : Int)))
    have hM2 := wf.2.2.1
    cases w with
    | nil =>
      have eh := here_nil hw
      refine ⟨0, S, ?_, NFx.rf, fun _ _ _ _ _ => rfl, ⟨rfl, rfl⟩, hI, k, h38, Nat.le_refl _, hk, Or.inr ⟨rfl, fun f0 K s w' z => ?_, by omega⟩⟩
      · rw [mX12_readsMany_60, bd1_e eh, gd_t (by unfold inI; omega), if_neg (by omega), bd1_e eh]
        rw [gd_t (show inI (-1) by decide), if_neg (show ¬ (0 : Int) ≤ -1 by decide)]
        rfl
      · cases K with
        | zero => cases z
        | succ K => cases z
    | cons a w =>
      obtain ⟨y, eh, yb, ya⟩ := here_c hw
      have yc := sb_eq yb cb
      rw [mX12_readsMany_60, bd1_e eh, gd_t (by unfold inI; omega)]
      by_cases ca : a = clS (M (24 + (p : Int)))
      · -- closed
        rw [if_pos (yc.mp (by rw [← ya]; exact ca))]
        refine ⟨1, S, rfl, NFx.rf, fun _ _ _ _ _ => rfl, ⟨rfl, rfl⟩, hI, k, h38, Nat.le_refl _, hk, Or.inl ⟨rfl, w, [], f, last, ⟨0, fun K hK => ?_⟩, by rw [← ca]; exact hw, by rw [List.append_nil]; exact hc, fun z hz => (by cases hz), by rw [List.append_nil]; exact h100, h101, by rw [List.append_nil]; exact hnd, Nat.le_refl _, by rw [List.append_nil]; omega⟩⟩
        obtain ⟨K, rfl⟩ : ∃ K', K = K' + 1 := ⟨K - 1, by omega⟩
        rw [rdL, if_pos ca]; rfl
      · rw [if_neg (fun e => ca (by rw [ya]; exact yc.mpr e)), bd1_e eh]
        obtain ⟨r, T1, r1, fr, fn, hI1, k1, h1, kk, k1l, out⟩ := H q k (a :: w) S hq hT hI hw h38 (by omega) hg
        have e84 : S 84 = M := hT.1
        have call : (gd (inI y) <| if 0 ≤ y then (gd (0 ≤ (72 + (p : Int)) ∧ (72 + (p : Int)) < 228) <| bd2 (RX12_readsMany g 2 (S 84 (72 + (p : Int))) S) fun r_73 S_74 => some (r_73, S_74)) else (some ((-1), S))) = some (r, T1) := by
          rw [gd_t (by unfold inI; omega), if_pos yb.1, gd_t (by omega), e84, eq', bd2_e r1]
        rw [bd2_e call]
        have fx : ∀ a : Nat, 99 ≤ a → a ≤ 103 → T1 a (x : Int) = S a (x : Int) := fun a y z => fn a x y z hx
        rcases out with ⟨j, c, n, w', e1, ⟨f1, o1⟩, o2, ⟨f2, o3⟩, o4, o5⟩ | ⟨e1, o1, o2⟩
        · have at' := (rdP_ate f1 q (a :: w) c n w' o1).len
          have wl : (a :: w).length = w.length + 1 := rfl
          have sz := rdP_sz f1 q (a :: w) c n w' o1
          obtain ⟨⟨j1, j2⟩, _, _, j5⟩ := o3.c
          have j5' : T1 101 (j : Int) = (n : Int) := j5
          have j2' : j < k1 := j2
          subst e1
          have lastb := hc.last hk
          obtain ⟨ca1, ca2⟩ := hc.all
          have e101 : T1 101 (x : Int) = (n0 : Int) := by rw [fx 101 (by omega) (by omega)]; exact h101
          have e100 : T1 100 (x : Int) = ((l.length : Nat) : Int) := by rw [fx 100 (by omega) (by omega)]; exact h100
          rw [gd_t (by unfold inI; omega), if_neg (by omega)]
          have lk1 : lnk T1 (T1 102 (x : Int)) ((l.map Prod.snd).map Prod.fst) := by
            rw [fx 102 (by omega) (by omega), List.map_map]
            refine lnk_fr ca1 (fun i hi => ?_)
            obtain ⟨z, z1, z2⟩ := List.mem_map.mp hi
            obtain ⟨⟨_, z3⟩, _⟩ := (ca2 z z1).c
            rw [← z2]
            exact fn 103 _ (by omega) (by omega) z3
          obtain ⟨tA, tA1, tA2⟩ := e_among (z := (j, c, n)) (S := T1) (x := x) (l := l.map Prod.snd) (by omega) (by rw [List.length_map]; omega) lk1 (fun v hv => by
            obtain ⟨z, z1, z2⟩ := List.mem_map.mp hv
            have nz := ca2 z z1
            obtain ⟨hz1, hz2⟩ := hl z z1
            rw [hz1] at nz
            have nz' := ND.fr (T := T1) (Nat.le_refl k) f f (x + 1) (x + 1) q z.2 (Nat.le_refl _) (Nat.le_refl _) (fun a i a1 a2 a3 a4 => fn a i a1 (by omega) a4) (fun i a3 a4 _ => fn 103 i (by omega) (by omega) a4) nz
            rw [← z2]
            exact e_same hk k1l hI1 f f2 200 q _ _ z.2 (j, c, n) nz' o3 (by omega) (by omega))
          rw [tls_mp] at tA2
          by_cases bad : M (24 + (p : Int)) = 5 ∧ c ∈ tls l
          · have ht : tA = 1 := by
              rcases tA2 with ⟨e, _⟩ | ⟨_, e⟩
              · exact e
              · exact absurd bad.2 e
            have sw : (gd (inI (M (24 + (p : Int)))) <| if (M (24 + (p : Int))) = 5 then (bd1 (mX12_isAmong T1 (x : Int) (j : Int)) fun r_66 => gd (inI r_66) <| if r_66 = 0 then (some (1 : Nat)) else (some (0))) else (some (1))) = some 0 := by
              have tA1' : mX12_isAmong T1 (x : Int) (j : Int) = some tA := tA1
              rw [gd_t (by unfold inI; omega), if_pos bad.1, bd1_e tA1', gd_t (by unfold inI; omega), if_neg (by omega)]
            rw [bd1_e sw, if_pos rfl]
            refine ⟨0, T1, rfl, fr, fun a i a1 a2 a3 => fn a i a1 a2 (by omega), ⟨fx 99 (by omega) (by omega), fx 103 (by omega) (by omega)⟩, hI1, k1, h1, kk, k1l, Or.inr ⟨rfl, fun f0 K s w2 z => ?_, by omega⟩⟩
            cases K with
            | zero => cases z
            | succ K =>
              rw [rdL, if_neg ca] at z
              obtain ⟨⟨c', n', r'⟩, y1, y2⟩ := Option.bind_eq_some_iff.mp z
              obtain ⟨⟨s2, r2⟩, y3, y4⟩ := Option.bind_eq_some_iff.mp y2
              cases y4
              cases rdP_det y1 o1
              exact Or.inr ⟨bad.1, nd_bad bad.2⟩
          · have sw : (gd (inI (M (24 + (p : Int)))) <| if (M (24 + (p : Int))) = 5 then (bd1 (mX12_isAmong T1 (x : Int) (j : Int)) fun r_66 => gd (inI r_66) <| if r_66 = 0 then (some (1 : Nat)) else (some (0))) else (some (1))) = some 1 := by
              have tA1' : mX12_isAmong T1 (x : Int) (j : Int) = some tA := tA1
              rw [gd_t (by unfold inI; omega)]
              by_cases c5 : M (24 + (p : Int)) = 5
              · have ht : tA = 0 := by
                  rcases tA2 with ⟨_, e⟩ | ⟨e, _⟩
                  · exact absurd ⟨c5, e⟩ bad
                  · exact e
                rw [if_pos c5, bd1_e tA1', gd_t (by unfold inI; omega), if_pos ht]
              · rw [if_neg c5]
            rw [bd1_e sw, if_neg (by decide), gd_t (by omega), j5', bd2_e (e_comes (by omega) lastb), gd_t (by omega), nx_e]
            have C := CHN.nx (n := (n : Int)) hc fn o3 o4 hx k1l
            obtain ⟨T2, eT2⟩ : ∃ T2, T2 = up (cbS T1 x last j (n : Int)) 100 (x : Int) (cbS T1 x last j (n : Int) 100 (x : Int) + 1) := ⟨_, rfl⟩
            have t2o : ∀ (a : Nat) (i : Int), (a ≠ 100 ∨ i ≠ (x : Int)) → T2 a i = cbS T1 x last j (n : Int) a i := fun a i h => by rw [eT2, up_at h]
            have C' : CHN M T2 x k1 (f + f2) (l ++ [(q, (j, c, n))]) (j : Int) := by
              rcases C with ⟨u1, _, _⟩ | ⟨l0, yy, u1, u2, u3, u4, u5, u6⟩
              · exact absurd u1 (by simp)
              · refine Or.inr ⟨l0, yy, u1, u2, by rw [t2o _ _ (by omega)]; exact u3, ?_, fun z hz => ?_, ?_⟩
                · rw [t2o _ _ (by omega)]
                  exact lnk_fr u4 (fun i _ => t2o 103 _ (by omega))
                · refine ND.fr (Nat.le_refl _) _ _ _ _ _ _ (Nat.le_refl _) (Nat.le_refl _) (fun a i a1 a2 a3 a4 => t2o a _ (by omega)) (fun i _ _ _ => t2o 103 _ (by omega)) (u5 z hz)
                · refine ND.fr (Nat.le_refl _) _ _ _ _ _ _ (Nat.le_refl _) (Nat.le_refl _) (fun a i a1 a2 a3 a4 => t2o a _ (by omega)) (fun i _ _ _ => t2o 103 _ (by omega)) u6
            have nf2 : NFx T1 T2 := cb_nf.tr ⟨fun c i a b => t2o c i (by omega), fun i a b => t2o 83 i (by omega)⟩
            have l100 : cbS T1 x last j (n : Int) 100 (x : Int) = ((l.length : Nat) : Int) := by rw [cb_ot (by omega)]; exact e100
            have hI2 : hIn T2 := by
              rw [eT2]
              exact (cb_hI hI1 (by omega) (by rw [e101]; unfold inI; omega)).up (by rw [l100]; unfold inI; omega)
            have h38' : T2 83 38 = (k1 : Int) := by rw [t2o _ _ (by omega), cb_ot (by omega)]; exact h1
            have hw2 : TXr T2 w' := TXr.of o2 (by rw [t2o _ _ (by omega), cb_ot (by omega)]) (by rw [t2o _ _ (by omega), cb_ot (by omega)]) (funext fun i => by rw [t2o _ _ (by omega), cb_ot (by omega)])
            have e101' : T2 101 (x : Int) = ((n0 + n : Nat) : Int) := by
              rw [t2o _ _ (by omega)]; unfold cbS; rw [up_eq, e101]; omega
            have e100' : T2 100 (x : Int) = (((l ++ [(q, (j, c, n))]).length : Nat) : Int) := by
              rw [eT2, up_eq, l100, List.length_append]; rfl
            have lx : last = -1 ∨ (x : Int) < last := by
              rcases hc with ⟨_, z, _⟩ | ⟨l0, y, _, z, _, _, _, y6⟩
              · exact Or.inl z
              · obtain ⟨⟨z1, _⟩, _⟩ := y6.c; exact Or.inr (by omega)
            have oth : ∀ a : Nat, a = 99 ∨ a = 103 → T2 a (x : Int) = S a (x : Int) := fun a ha => by
              rw [t2o _ _ (by omega), cb_ot (by omega)]
              exact fx a (by omega) (by omega)
            have low : ∀ a i : Nat, 99 ≤ a → a ≤ 103 → i < x → T2 a (i : Int) = S a (i : Int) := fun a i a1 a2 a3 => by
              rw [t2o _ _ (by omega), cb_ot (by omega)]
              exact fn a i a1 a2 (by omega)
            rw [← eT2]
            have cl40 : c.length ≤ 40 := by omega
            obtain ⟨t, T, g1, g2, g3, ⟨g4, g6⟩, g7, k', g8, g9, g10, g11⟩ := ih w' T2 k1 (f + f2) (n0 + n) F (j : Int) (l ++ [(q, (j, c, n))]) (by omega) (by omega) C' (fun z hz => by
              rcases List.mem_append.mp hz with e | e
              · exact hl z e
              · rw [List.mem_singleton.mp e]; exact ⟨rfl, cl40⟩) (by omega) k1l h38' (nf2.cn (fr.cn hT)) hI2 hw2 e100' (by rw [List.length_append]; show l.length + 1 + _ ≤ 40; omega) e101' (by omega) (by omega) (by omega) (fun c5 => by
              rw [tls_app]
              refine List.nodup_append.mpr ⟨hnd c5, List.nodup_cons.mpr ⟨fun h => (by cases h), List.nodup_nil⟩, fun u hu v hv => ?_⟩
              rw [show v = c from List.mem_singleton.mp hv]
              intro e
              exact bad ⟨c5, by rw [← e]; exact hu⟩)
            refine ⟨t, T, g1, (fr.tr nf2).tr g2, fun a i a1 a2 a3 => (g3 a i a1 a2 a3).trans (low a i a1 a2 a3), ⟨g4.trans (oth 99 (by omega)), g6.trans (oth 103 (by omega))⟩, g7, k', g8, by omega, g10, ?_⟩
            rcases g11 with ⟨t1, w2, l2, f', last', ⟨f0, u1⟩, u2, u3, u4, u5, u6, u7, u8, u9⟩ | ⟨t1, u1, u2⟩
            · rw [List.append_assoc] at u3 u5 u7 u9
              refine Or.inl ⟨t1, w2, (q, (j, c, n)) :: l2, f', last', ⟨f0 + f1, fun K hK => ?_⟩, u2, u3, fun z hz => ?_, u5, ?_, u7, ?_, u9⟩
              · obtain ⟨K, rfl⟩ : ∃ K', K = K' + 1 := ⟨K - 1, by omega⟩
                have hK' : l2.length + 1 < K + 1 := hK
                have v1 := rdP_le (show f1 ≤ f0 + f1 by omega) o1
                have v2 := rdL_mo (rec' := rdP M (f0 + f1) q) (fun w x z => rdP_le (show f0 ≤ f0 + f1 by omega) z) K _ _ (u1 K (by omega))
                rw [rdL, if_neg ca, v1]
                show ((rdL (rdP M (f0 + f1) q) (clS (M (24 + (p : Int)))) K w').bind fun s => some ((c, n) :: s.1, s.2)) = _
                rw [v2]; rfl
              · rcases List.mem_cons.mp hz with e | e
                · rw [e]
                · exact u4 z e
              · rw [u6]; show ((n0 + n + szs (prl l2) : Nat) : Int) = ((n0 + (n + szs (prl l2)) : Nat) : Int); omega
              · show k' + (l2.length + 1) ≤ k + 2 * (c ++ fl1 (prl l2)).length
                rw [List.length_append]
                omega
            · refine Or.inr ⟨t1, fun f0 K s w2 z => ?_, u2⟩
              cases K with
              | zero => cases z
              | succ K =>
                rw [rdL, if_neg ca] at z
                obtain ⟨⟨c', n', r'⟩, y1, y2⟩ := Option.bind_eq_some_iff.mp z
                obtain ⟨⟨s2, r2⟩, y3, y4⟩ := Option.bind_eq_some_iff.mp y2
                cases y4
                cases rdP_det y1 o1
                rcases u1 f0 K s2 r2 y3 with v | ⟨v1, v2⟩
                · left
                  show M 1 < ((n + szs s2 : Nat) : Int)
                  omega
                · right
                  rw [tls_app, List.append_assoc] at v2
                  exact ⟨v1, v2⟩
        · subst e1
          rw [gd_t (by decide), if_pos (by decide)]
          refine ⟨0, T1, rfl, fr, fun a i a1 a2 a3 => fn a i a1 a2 (by omega), ⟨fx 99 (by omega) (by omega), fx 103 (by omega) (by omega)⟩, hI1, k1, h1, kk, k1l, Or.inr ⟨rfl, fun f0 K s w2 z => ?_, by omega⟩⟩
          cases K with
          | zero => cases z
          | succ K =>
            rw [rdL, if_neg ca] at z
            obtain ⟨⟨c', n', r'⟩, y1, y2⟩ := Option.bind_eq_some_iff.mp z
            obtain ⟨⟨s2, r2⟩, y3, y4⟩ := Option.bind_eq_some_iff.mp y2
            cases y4
            have := o1 f0 c' n' r' y1
            left
            show M 1 < ((n' + szs s2 : Nat) : Int)
            omega
