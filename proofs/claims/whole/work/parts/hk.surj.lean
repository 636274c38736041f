/-! what is read is a thing -/
theorem byM_on {M : Int → Int} {e t n : Nat} (h : offM M e t = false) : byM M e t n = rM M (fpM M e t).toNat n := by
  unfold byM
  rw [h, if_neg Bool.false_ne_true]; rfl
theorem ev_ps1 {x y : Nat} (h : ev x y) (k : 1 ≤ y) : 1 ≤ x := by
  rcases ev_to h with z | ⟨z, _⟩
  · omega
  · rw [CC_eq] at z; omega
theorem y_ex {S : St} (h : Cor S) {p n : Nat} (hp : (p : Int) < S 84 2) (hn : n ≤ 7) (ty : S 84 (24 + (p : Int)) = 2 ∨ S 84 (24 + (p : Int)) = 7) : ev (yM (S 84) p n) (sm (cnE (S 84) (exN (S 84) p)) (fun t => byM (S 84) (exN (S 84) p) t n)) := by
  have w := h.wf
  have hM0 := w.1
  obtain ⟨ok1, ok2, ok3, ok4, ok5, ok6⟩ := w.2.2.2.1 p hp
  by_cases t2 : S 84 (24 + (p : Int)) = 2
  · have k := ok4 t2
    rw [y_name h hp hn t2]
    exact k_terms h (show (((S 84 (48 + (p : Int))).toNat : Nat) : Int) < S 84 0 by omega) hn
  · have t7 : S 84 (24 + (p : Int)) = 7 := by omega
    obtain ⟨k1, k2, k3⟩ := ok5 t7
    have ek : exN (S 84) p = 6 + p := by unfold exN; omega
    rw [ek]
    exact y_group h hp hn t7
def SURp (S : St) (f : Nat) : Prop := ∀ (p : Nat) (w c : List Int) (n : Nat) (r : List Int), (p : Int) < S 84 2 → rdP (S 84) f p w = some (c, n, r) → (n : Int) ≤ S 84 1 → 1 ≤ yM (S 84) p n ∧ (yM (S 84) p n ≤ 200 → ∃ v, v < yM (S 84) p n ∧ CNx (S 84) (p, n, v) c)
theorem szs_le {y : List Int × Nat} {s : List (List Int × Nat)} (h : y ∈ s) : y.2 ≤ szs s := by
  induction s with
  | nil => cases h
  | cons a s ih =>
    show y.2 ≤ a.2 + szs s
    rcases List.mem_cons.mp h with e | e
    · subst e; omega
    · have := ih e; omega
theorem sur_ch {S : St} (h : Cor S) {f : Nat} (H : SURp S f) : ∀ (K q : Nat) (w : List Int) (s : List (List Int × Nat)) (r : List Int), (q : Int) < S 84 2 → rdC (S 84) (rdP (S 84) f) K (q : Int) w = some (s, r) → (szs s : Int) ≤ S 84 1 → 1 ≤ rM (S 84) q (szs s) ∧ (rM (S 84) q (szs s) ≤ 200 → ∃ u, u < rM (S 84) q (szs s) ∧ ∀ j, 24 ≤ q + j → prs (S 84) (tmI (S 84) j (q : Int) (szs s) u) = s ∧ ∀ y ∈ tmI (S 84) j (q : Int) (szs s) u, ∃ c, CNx (S 84) y c) := by
  have wf := h.wf
  have hM1 := wf.2.1
  have hM2 := wf.2.2.1
  intro K
  induction K with
  | zero => intro q w s r _ e; cases e
  | succ K ih =>
    intro q w s r hq e hn
    rw [rdC, if_neg (by omega)] at e
    obtain ⟨⟨c1, n1, r1⟩, o1, o2⟩ := Option.bind_eq_some_iff.mp e
    obtain ⟨⟨s2, r2⟩, q1, q2⟩ := Option.bind_eq_some_iff.mp o2
    cases q2
    have se : szs ((c1, n1) :: s2) = n1 + szs s2 := rfl
    rw [se] at hn ⊢
    obtain ⟨y1, y2⟩ := H q w c1 n1 r1 hq o1 (by omega)
    obtain ⟨n, hnn⟩ : ∃ n, n = n1 + szs s2 := ⟨_, rfl⟩
    rw [← hnn] at hn ⊢
    have hr := r_parts h hq (n := n) (by omega)
    have term := le_sm (n := n + 1) (f := fun s => yM (S 84) q s * bhM (S 84) q (n - s)) (i := n1) (by omega)
    try dsimp only at term
    have h0 : sm (n + 1) (fun s => yM (S 84) q s * bhM (S 84) q (n - s)) = sm (n + 1) (fun i => (fun s => yM (S 84) q s * bhM (S 84) q (n - s)) (0 + i)) := sm_congr fun i _ => by rw [Nat.zero_add]
    have z0 : sm (n1 - 0) (fun i => (fun s => yM (S 84) q s * bhM (S 84) q (n - s)) (0 + i)) = sm n1 (fun s => yM (S 84) q s * bhM (S 84) q (n - s)) := by rw [Nat.sub_zero]; exact sm_congr fun i _ => by rw [Nat.zero_add]
    rcases (wf.2.2.2.1 q hq).2.1 with z | z
    · -- the last
      rw [z] at q1
      have e2 : s2 = [] := by
        cases K with
        | zero => cases q1
        | succ K => rw [rdC, if_pos (by decide)] at q1; cases q1; rfl
      subst e2
      have en : n = n1 := by rw [hnn]; rfl
      subst en
      have b1 : bhM (S 84) q (n - n) = 1 := by rw [bh_l (by omega), if_pos (Nat.sub_self n)]
      rw [b1, Nat.mul_one] at term
      refine ⟨ev_ps1 hr (by omega), fun h2 => ?_⟩
      have er := ev_200 hr h2
      rw [← er] at term
      obtain ⟨v, v1, v2⟩ := y2 (by omega)
      obtain ⟨p1, p2⟩ := pk_mk (g := fun s => yM (S 84) q s * bhM (S 84) q (n - s)) (n + 1) 0 n v (Nat.zero_le _) (by omega) (by rw [b1, Nat.mul_one]; exact v1)
      rw [← h0, ← er] at p2
      refine ⟨_, p2, fun j hj => ?_⟩
      obtain ⟨j, rfl⟩ : ∃ j', j = j' + 1 := ⟨j - 1, by omega⟩
      rw [tmI_s p1, z, tmI_n (by decide), b1, Nat.div_one]
      refine ⟨?_, fun y hy => ?_⟩
      · rw [prs_c, v2.eq]; rfl
      · rw [List.mem_singleton.mp hy]; exact ⟨_, v2⟩
    · obtain ⟨q', hq'⟩ : ∃ q' : Nat, S 84 (96 + (q : Int)) = (q' : Int) := ⟨(S 84 (96 + (q : Int))).toNat, by omega⟩
      rw [hq'] at q1 z
      obtain ⟨i1, i2⟩ := ih q' _ s2 r2 (by omega) q1 (by omega)
      have en : n - n1 = szs s2 := by omega
      have b1 : bhM (S 84) q (n - n1) = rM (S 84) q' (szs s2) := by
        rw [bh_n (by omega), hq', en]; rfl
      rw [b1] at term
      have pos : 1 ≤ yM (S 84) q n1 * rM (S 84) q' (szs s2) := Nat.mul_pos y1 i1
      refine ⟨ev_ps1 hr (by omega), fun h2 => ?_⟩
      have er := ev_200 hr h2
      rw [← er] at term
      have l1 : yM (S 84) q n1 ≤ 200 := Nat.le_trans (Nat.le_mul_of_pos_right _ i1) (by omega)
      have l2 : rM (S 84) q' (szs s2) ≤ 200 := Nat.le_trans (Nat.le_mul_of_pos_left _ y1) (Nat.le_trans term h2)
      obtain ⟨v, v1, v2⟩ := y2 l1
      obtain ⟨u', u1, u2⟩ := i2 l2
      have wl : v * rM (S 84) q' (szs s2) + u' < yM (S 84) q n1 * bhM (S 84) q (n - n1) := by
        rw [b1]
        have := Nat.mul_le_mul_right (rM (S 84) q' (szs s2)) (show v + 1 ≤ yM (S 84) q n1 by omega)
        rw [Nat.add_mul, Nat.one_mul] at this
        omega
      obtain ⟨p1, p2⟩ := pk_mk (g := fun s => yM (S 84) q s * bhM (S 84) q (n - s)) (n + 1) 0 n1 (v * rM (S 84) q' (szs s2) + u') (Nat.zero_le _) (by omega) wl
      obtain ⟨m1, m2⟩ := dm_mk (r := v) u1
      rw [← h0, ← er] at p2
      refine ⟨_, p2, fun j hj => ?_⟩
      obtain ⟨j, rfl⟩ : ∃ j', j = j' + 1 := ⟨j - 1, by omega⟩
      obtain ⟨t1, t2⟩ := u2 j (by omega)
      rw [tmI_s p1, hq', b1, m1, m2, en]
      refine ⟨?_, fun y hy => ?_⟩
      · rw [prs_c, v2.eq, t1]
      · rcases List.mem_cons.mp hy with e | e
        · subst e; exact ⟨_, v2⟩
        · exact t2 y e
theorem rdL_src {rec : List Int → Option (List Int × Nat × List Int)} {cl : Int} : ∀ (k : Nat) (w : List Int) (s : List (List Int × Nat)) (r : List Int), rdL rec cl k w = some (s, r) → ∀ y ∈ s, ∃ w' r', rec w' = some (y.1, y.2, r') := by
  intro k
  induction k with
  | zero => intro w s r h; cases h
  | succ k ih =>
    intro w s r h
    cases w with
    | nil => cases h
    | cons a w =>
      rw [rdL] at h
      split at h
      · cases h; exact fun y hy => (by cases hy)
      · obtain ⟨⟨c1, n1, r1⟩, o1, o2⟩ := Option.bind_eq_some_iff.mp h
        obtain ⟨⟨s2, r2⟩, p1, p2⟩ := Option.bind_eq_some_iff.mp o2
        cases p2
        intro y hy
        rcases List.mem_cons.mp hy with q | q
        · subst q; exact ⟨_, _, o1⟩
        · exact ih _ _ _ p1 y q
/-- ranks for the things of a sequence, found or made up where there are many -/
theorem ranks {M : Int → Int} {q : Nat} : ∀ (s : List (List Int × Nat)) (i0 : Nat), i0 + s.length ≤ 200 → (∀ y ∈ s, 1 ≤ yM M q y.2 ∧ (yM M q y.2 ≤ 200 → ∃ v, v < yM M q y.2 ∧ CNx M (q, y.2, v) y.1)) → ∃ L : List (Nat × Nat), L.length = s.length ∧ tot L = szs s ∧ (∀ x ∈ L, x.2 < yM M q x.1 ∧ ∃ y ∈ s, x.1 = y.2) ∧ ((∀ x ∈ L, yM M q x.1 ≤ 200) → L.map (fun x => cnl M (q, x.1, x.2)) = s.map Prod.fst) ∧ (∀ x ∈ L, 200 < yM M q x.1 → i0 ≤ x.2) ∧ ((s.map Prod.fst).Nodup → L.Nodup ∧ ∀ x ∈ L, yM M q x.1 ≤ 200 → ∃ y ∈ s, CNx M (q, x.1, x.2) y.1) := by
  intro s
  induction s with
  | nil => intro i0 _ _; exact ⟨[], rfl, rfl, fun x hx => (by cases hx), fun _ => rfl, fun x hx => (by cases hx), fun _ => ⟨List.nodup_nil, fun x hx => (by cases hx)⟩⟩
  | cons y s ih =>
    intro i0 hi h
    rw [List.length_cons] at hi
    obtain ⟨L, l1, l2, l3, l4, l5, l6⟩ := ih (i0 + 1) (by omega) (fun z hz => h z (List.mem_cons_of_mem _ hz))
    obtain ⟨y1, y2⟩ := h y (List.mem_cons_self ..)
    by_cases c : yM M q y.2 ≤ 200
    · obtain ⟨v, v1, v2⟩ := y2 c
      refine ⟨(y.2, v) :: L, by rw [List.length_cons, List.length_cons, l1], by show y.2 + tot L = y.2 + szs s; rw [l2], fun x hx => ?_, fun a => ?_, fun x hx g => ?_, fun nd => ⟨?_, fun x hx a => ?_⟩⟩
      · rcases List.mem_cons.mp hx with e | e
        · subst e; exact ⟨v1, y, List.mem_cons_self .., rfl⟩
        · obtain ⟨a, z, z1, z2⟩ := l3 x e
          exact ⟨a, z, List.mem_cons_of_mem _ z1, z2⟩
      · rw [List.map_cons, List.map_cons, l4 (fun x hx => a x (List.mem_cons_of_mem _ hx))]
        exact congrArg (· :: _) v2.eq
      · rcases List.mem_cons.mp hx with e | e
        · subst e; exact absurd c (by dsimp only at g; omega)
        · have := l5 x e g; omega
      · rw [List.map_cons, List.nodup_cons] at nd
        refine List.nodup_cons.mpr ⟨fun m => ?_, (l6 nd.2).1⟩
        obtain ⟨z, z1, z2⟩ := (l6 nd.2).2 _ m c
        have := v2.det z2
        exact nd.1 (by rw [this]; exact List.mem_map.mpr ⟨z, z1, rfl⟩)
      · rw [List.map_cons, List.nodup_cons] at nd
        rcases List.mem_cons.mp hx with e | e
        · subst e; exact ⟨y, List.mem_cons_self .., v2⟩
        · obtain ⟨z, z1, z2⟩ := (l6 nd.2).2 x e a
          exact ⟨z, List.mem_cons_of_mem _ z1, z2⟩
    · refine ⟨(y.2, i0) :: L, by rw [List.length_cons, List.length_cons, l1], by show y.2 + tot L = y.2 + szs s; rw [l2], fun x hx => ?_, fun a => ?_, fun x hx g => ?_, fun nd => ⟨?_, fun x hx a => ?_⟩⟩
      · rcases List.mem_cons.mp hx with e | e
        · subst e; exact ⟨by show i0 < yM M q y.2; omega, y, List.mem_cons_self .., rfl⟩
        · obtain ⟨a, z, z1, z2⟩ := l3 x e
          exact ⟨a, z, List.mem_cons_of_mem _ z1, z2⟩
      · exact absurd (a _ (List.mem_cons_self ..)) c
      · rcases List.mem_cons.mp hx with e | e
        · subst e; exact Nat.le_refl _
        · have := l5 x e g; omega
      · rw [List.map_cons, List.nodup_cons] at nd
        refine List.nodup_cons.mpr ⟨fun m => ?_, (l6 nd.2).1⟩
        have := l5 _ m (by show 200 < yM M q y.2; omega)
        dsimp only at this
        omega
      · rw [List.map_cons, List.nodup_cons] at nd
        rcases List.mem_cons.mp hx with e | e
        · subst e; exact absurd a c
        · obtain ⟨z, z1, z2⟩ := (l6 nd.2).2 x e a
          exact ⟨z, List.mem_cons_of_mem _ z1, z2⟩
theorem tot_pm {l m : List (Nat × Nat)} (h : l.Perm m) : tot l = tot m := by
  induction h with
  | nil => rfl
  | cons x _ ih => show x.1 + _ = x.1 + _; rw [ih]
  | swap x y l => show y.1 + (x.1 + tot l) = x.1 + (y.1 + tot l); omega
  | trans _ _ a b => exact a.trans b
theorem seq_mk {ty : Int} {n : Nat} {L : List (Nat × Nat)} (h6 : ty = 6 → L ≠ []) (nd : ty = 5 → L.Nodup) (hb : ∀ y ∈ L, y.1 < n + 1) : ∃ L', CQg ty L L' ∧ seqP ty n L' := by
  by_cases t3 : ty = 3
  · exact ⟨L, by unfold CQg; rw [if_pos t3], fun e => by omega, fun e => absurd t3 e⟩
  · by_cases t6 : ty = 6
    · obtain ⟨m, m1, m2⟩ := lst_mk L (h6 t6)
      refine ⟨m, by unfold CQg; rw [if_neg t3, if_pos t6]; exact m1, fun _ => ⟨fun e => h6 t6 ?_, m2⟩, fun _ e => absurd t6 e⟩
      rw [e] at m1
      exact m1.pm.eq_nil
    · obtain ⟨m, m1, m2⟩ := dsl_mk (once := (ty == 5)) L (fun o => nd (by simpa using o))
      refine ⟨m, by unfold CQg; rw [if_neg t3, if_neg t6]; exact m1.symm, fun e => absurd e t6, fun _ _ => m2 (n + 1) hb⟩
theorem sur_all {S : St} (h : Cor S) (nx' : NEX (S 84)) : ∀ f, SURp S f := by
  have wf := h.wf
  have hM1 := wf.2.1
  have hM2 := wf.2.2.1
  obtain ⟨E, TE, rO, rT, rK, rk⟩ := h.rks
  intro f
  induction f with
  | zero => intro p w c n r _ e; cases e
  | succ f ih =>
    intro p w c n r hp e hn
    have ok := (wf.2.2.2.1 p hp).1
    by_cases t1 : S 84 (24 + (p : Int)) ≤ 1
    · have yl := y_leaf h hp (n := n) (by omega)
      rw [rdP_leaf t1] at e
      cases w with
      | nil => cases e
      | cons a w =>
        dsimp only at e
        split at e
        · next ea =>
          cases e
          have y1 : yM (S 84) p (lfN (S 84) p) = 1 := by
            unfold lfN at yl ⊢
            by_cases t0 : S 84 (24 + (p : Int)) = 0
            · rw [if_pos t0] at yl ⊢
              rw [yl.1 t0, if_pos rfl]
            · rw [if_neg t0] at yl ⊢
              rw [yl.2 (by omega), if_pos rfl]
          refine ⟨by omega, fun _ => ⟨0, by omega, ?_⟩⟩
          rw [ea]
          exact K_leaf h (x := (p, lfN (S 84) p, 0)) ⟨hp, hn, by show 0 < yM (S 84) p (lfN (S 84) p); omega, by show yM (S 84) p (lfN (S 84) p) ≤ 200; omega⟩ t1
        · cases e
    · by_cases ty : S 84 (24 + (p : Int)) = 2 ∨ S 84 (24 + (p : Int)) = 7
      · rw [rdP_nm ty] at e
        obtain ⟨e30, lo, l0, eE⟩ := ex_ok wf hp ty
        have cE := eE.1
        have cc : ((cnE (S 84) (exN (S 84) p) : Nat) : Int) = S 84 (198 + ((exN (S 84) p : Nat) : Int)) := by unfold cnE; omega
        -- its term
        obtain ⟨t, w', s, t1', t2, t3, t4, t5⟩ : ∃ (t : Nat) (w' : List Int) (s : List (List Int × Nat)), t < cnE (S 84) (exN (S 84) p) ∧ offM (S 84) (exN (S 84) p) t = false ∧ rdC (S 84) (rdP (S 84) f) 25 (fpM (S 84) (exN (S 84) p) t) w' = some (s, r) ∧ n = szs s ∧ c = (if cnE (S 84) (exN (S 84) p) ≤ 1 then [] else [48 + ((t : Nat) : Int)]) ++ fl1 s := by
          unfold rdE at e
          split at e
          · next q =>
            split at e
            · next z =>
              obtain ⟨⟨s, r'⟩, o1, o2⟩ := Option.bind_eq_some_iff.mp e
              cases o2
              exact ⟨0, w, s, by omega, z.1.2, o1, rfl, by rw [if_pos q]; rfl⟩
            · cases e
          · next q =>
            cases w with
            | nil => cases e
            | cons a w =>
              dsimp only at e
              split at e
              · next z =>
                obtain ⟨⟨s, r'⟩, o1, o2⟩ := Option.bind_eq_some_iff.mp e
                cases o2
                refine ⟨(a - 48).toNat, w, s, by omega, z.1.2, o1, rfl, ?_⟩
                rw [if_neg q, show 48 + (((a - 48).toNat : Nat) : Int) = a by omega]; rfl
              · cases e
        have tc : (t : Int) < S 84 (198 + ((exN (S 84) p : Nat) : Int)) := by omega
        have q := (eE.2.1 t tc).2
        obtain ⟨F, hF⟩ : ∃ F : Nat, fpM (S 84) (exN (S 84) p) t = (F : Int) := ⟨(fpM (S 84) (exN (S 84) p) t).toNat, by omega⟩
        rw [hF] at t3
        rw [t4] at hn
        obtain ⟨c1, c2⟩ := sur_ch h ih 25 F w' s r (by omega) t3 hn
        rw [← t4] at c1 c2 hn
        have yx := y_ex h hp (n := n) (by omega) ty
        have by1 : byM (S 84) (exN (S 84) p) t n = rM (S 84) F n := by rw [byM_on t2, hF]; rfl
        have le := le_sm (f := fun t => byM (S 84) (exN (S 84) p) t n) t1'
        try dsimp only at le
        rw [by1] at le
        refine ⟨ev_ps1 yx (by omega), fun h2 => ?_⟩
        have er := ev_200 yx h2
        obtain ⟨u, u1, u2⟩ := c2 (by omega)
        obtain ⟨p1, p2⟩ := pk_mk (g := fun t => byM (S 84) (exN (S 84) p) t n) (cnE (S 84) (exN (S 84) p)) 0 t u (Nat.zero_le _) (by omega) (by rw [by1]; exact u1)
        have sh : sm (cnE (S 84) (exN (S 84) p)) (fun t => byM (S 84) (exN (S 84) p) t n) = sm (cnE (S 84) (exN (S 84) p)) (fun i => (fun t => byM (S 84) (exN (S 84) p) t n) (0 + i)) := sm_congr fun i _ => by rw [Nat.zero_add]
        rw [← sh, ← er] at p2
        obtain ⟨v, hv⟩ : ∃ v, v = sm (t - 0) (fun i => (fun t => byM (S 84) (exN (S 84) p) t n) (0 + i)) + u := ⟨_, rfl⟩
        rw [← hv] at p1 p2
        have vn : VN (S 84) (p, n, v) := ⟨hp, hn, p2, h2⟩
        have tp : tmP (S 84) (exN (S 84) p) n v = (t, u) := p1
        obtain ⟨x1, x2⟩ := u2 24 (by omega)
        have ei : itm (S 84) (p, n, v) = tmI (S 84) 24 (F : Int) n u := by
          unfold itm
          rw [if_neg (by dsimp only; omega), if_pos ty]
          show exI (S 84) (exN (S 84) p) n v = _
          unfold exI
          rw [tp]
          dsimp only
          rw [hF]
        have K := K_nm h vn ty (fun y hy => x2 y (by rw [← ei]; exact hy))
        rw [ei, x1] at K
        refine ⟨v, p2, ?_⟩
        rw [t5]
        dsimp only at K
        unfold dgS at K
        rw [tp] at K
        exact K
      · have hs : isSq (S 84) p := by unfold isSq; omega
        have hs' := hs
        unfold isSq at hs'
        have k6 := (wf.2.2.2.1 p hp).2.2.2.2.2 hs
        have nu := nu_ge wf hp hs
        obtain ⟨w', s, e1, e2, e3, e4, e5⟩ := (rdP_sq hs').mp e
        have el := rdL_src _ _ _ _ e2
        have sl := (rdL_ate (fun w c n r => rdP_ate f (chM (S 84) p) w c n r) _ _ _ _ e2).2.1
        have each : ∀ y ∈ s, 1 ≤ yM (S 84) (chM (S 84) p) y.2 ∧ (yM (S 84) (chM (S 84) p) y.2 ≤ 200 → ∃ v, v < yM (S 84) (chM (S 84) p) y.2 ∧ CNx (S 84) (chM (S 84) p, y.2, v) y.1) := fun y hy => by
          obtain ⟨w1, r1, o⟩ := el y hy
          have := szs_le hy
          exact ih (chM (S 84) p) w1 y.1 y.2 r1 (by unfold chM; omega) o (by omega)
        obtain ⟨L, l1, l2, l3, l4, l5, l6⟩ := ranks s 0 (by omega) each
        have okl : okL (cM (S 84) p) L := fun x hx => by
          obtain ⟨a1, y, a2, a3⟩ := l3 x hx
          refine ⟨?_, a1⟩
          rcases Nat.eq_zero_or_pos x.1 with z | z
          · have c0 := y_child0 h nx' hp hs
            have := (each y a2).1
            unfold cM at c0
            rw [← a3, z] at this
            omega
          · exact z
        have ndL : S 84 (24 + (p : Int)) = 5 → L.Nodup := fun t5 => (l6 ((ndp_iff _).mp (e3.2.2 t5))).1
        rw [← e5] at l2
        have bl := (ok_sm okl l2).2
        obtain ⟨L', m1, m2⟩ := seq_mk (ty := S 84 (24 + (p : Int))) (n := n) (L := L) (fun t6 q => by
          have := e3.2.1 t6
          rw [List.length_map, ← l1, q] at this
          exact absurd this (by decide)) ndL (fun y hy => by have := bl y hy; omega)
        have okl' : okL (cM (S 84) p) L' := fun x hx => okl x (m1.pm.mem_iff.mpr hx)
        have tl' : tot L' = n := by rw [← tot_pm m1.pm]; exact l2
        have nl' : 0 ≤ nuM (S 84) p → ((L'.length : Nat) : Int) = nuM (S 84) p := fun z => by
          rw [← m1.pm.length_eq, l1]
          have a := e3.1
          rw [List.length_map] at a
          unfold nuM at z ⊢
          by_cases y : S 84 (48 + (p : Int)) = 0
          · rw [if_pos y] at z; omega
          · rw [if_neg y]
            rcases a with a | a
            · exact absurd a y
            · exact a
        obtain ⟨y1, y2⟩ := sqI_sur h hp hs hn okl' tl' nl' m2
        refine ⟨y1, fun h2 => ?_⟩
        obtain ⟨v, v1, v2⟩ := y2 h2
        have vn : VN (S 84) (p, n, v) := ⟨hp, hn, v1, h2⟩
        obtain ⟨x1, x2, x3, x4⟩ := sqI_ok h hp hs hn v1 h2
        rw [v2] at x4
        have few : ∀ x ∈ L, yM (S 84) (chM (S 84) p) x.1 ≤ 200 := fun x hx => x4 x (m1.pm.mem_iff.mp hx)
        have mL := l4 few
        have ei : itm (S 84) (p, n, v) = L'.map (fun y => (chM (S 84) p, y.1, y.2)) := by
          unfold itm
          rw [if_neg (by dsimp only; omega), if_neg (by dsimp only; omega)]
          show (sqI (S 84) p n v).map _ = _
          rw [v2]
        have eic : (itm (S 84) (p, n, v)).map (cnl (S 84)) = L'.map (fun x => cnl (S 84) (chM (S 84) p, x.1, x.2)) := by rw [ei, List.map_map]; rfl
        have cq : CQ (S 84 (24 + (p : Int))) (s.map Prod.fst) (L'.map (fun x => cnl (S 84) (chM (S 84) p, x.1, x.2))) := by
          rw [← mL]; exact m1.map _
        obtain ⟨i1, -⟩ : True ∧ True := ⟨trivial, trivial⟩
        have K := K_sq h vn hs (fun y hy => (by
          obtain ⟨a1, a2, a3⟩ := itm_ok h rk vn y hy
          exact (TH h rk (54 * y.2.1 + rO y.1 + 1) y.1 y.2.1 (by omega)).1 y.2.2 a1)) (fun t5 => by
          rw [eic, ndp_iff]
          exact cq.pm.nodup ((ndp_iff _).mp (e3.2.2 t5)))
        rw [eic] at K
        refine ⟨v, v1, ?_⟩
        rw [e4, sqL_eq cq]
        exact K
