/-! sequences: lists of things, as they are numbered -/
def CQg {α : Type} (ty : Int) (l m : List α) : Prop := if ty = 3 then l = m else if ty = 6 then RT l m else l.Perm m
theorem CQg.pm {α : Type} {ty : Int} {l m : List α} (h : CQg ty l m) : l.Perm m := by
  unfold CQg at h
  split at h
  · rw [h]
  · split at h
    · exact h.pm
    · exact h
theorem CQg.sy {α : Type} {ty : Int} {l m : List α} (h : CQg ty l m) : CQg ty m l := by
  unfold CQg at h ⊢
  split
  · next c => rw [if_pos c] at h; exact h.symm
  · next c =>
    rw [if_neg c] at h
    split
    · next d => rw [if_pos d] at h; exact h.sy
    · next d => rw [if_neg d] at h; exact h.symm
theorem CQg.tr {α : Type} {ty : Int} {l m n : List α} (h : CQg ty l m) (k : CQg ty m n) : CQg ty l n := by
  unfold CQg at h k ⊢
  split
  · next c => rw [if_pos c] at h k; exact h.trans k
  · next c =>
    rw [if_neg c] at h k
    split
    · next d => rw [if_pos d] at h k; exact h.tr k
    · next d => rw [if_neg d] at h k; exact h.trans k
theorem CQg.map {α β : Type} {ty : Int} {l m : List α} (f : α → β) (h : CQg ty l m) : CQg ty (l.map f) (m.map f) := by
  unfold CQg at h ⊢
  split
  · next c => rw [if_pos c] at h; rw [h]
  · next c =>
    rw [if_neg c] at h
    split
    · next d =>
      rw [if_pos d] at h
      obtain ⟨a, b, h1, h2⟩ := h
      exact ⟨a.map f, b.map f, by rw [h1, List.map_append], by rw [h2, List.map_append]⟩
    · next d => rw [if_neg d] at h; exact h.map f
theorem CQg.cq {ty : Int} {l m : List (List Int)} : CQg ty l m ↔ CQ ty l m := Iff.rfl
theorem cq_lift {α β : Type} {ty : Int} {f : α → β} {s : List α} {m : List β} (h : CQg ty (s.map f) m) : ∃ ds, CQg ty s ds ∧ ds.map f = m := by
  unfold CQg at h
  unfold CQg
  split at h
  · next c => exact ⟨s, by rw [if_pos c], h⟩
  · next c =>
    split at h
    · next d =>
      obtain ⟨a, b, h1, h2⟩ := h
      obtain ⟨A, B, e, e1, e2⟩ := List.map_eq_append_iff.mp h1
      refine ⟨B ++ A, ?_, by rw [List.map_append, e1, e2, h2]⟩
      rw [if_neg c, if_pos d]
      exact ⟨A, B, e, rfl⟩
    · next d =>
      obtain ⟨ds, d1, d2⟩ := pm_map h s rfl
      refine ⟨ds, ?_, d2⟩
      rw [if_neg c, if_neg d]
      exact d1.symm
theorem map_on {α β : Type} {f : α → β} : ∀ l m : List α, (∀ a ∈ l, ∀ b ∈ m, f a = f b → a = b) → l.map f = m.map f → l = m := by
  intro l
  induction l with
  | nil => intro m _ e; cases m with
    | nil => rfl
    | cons b m => cases e
  | cons a l ih => intro m h e; cases m with
    | nil => cases e
    | cons b m =>
      obtain ⟨e1, e2⟩ := List.cons.inj e
      rw [h a (List.mem_cons_self ..) b (List.mem_cons_self ..) e1, ih m (fun x hx y hy => h x (List.mem_cons_of_mem _ hx) y (List.mem_cons_of_mem _ hy)) e2]
theorem cq_on {α β : Type} {ty : Int} {f : α → β} {l m : List α} (h : ∀ a ∈ l, ∀ b ∈ m, f a = f b → a = b) (k : CQg ty (l.map f) (m.map f)) : CQg ty l m := by
  obtain ⟨ds, d1, d2⟩ := cq_lift k
  have : ds = m := map_on ds m (fun a ha b hb => h a (d1.pm.mem_iff.mpr ha) b hb) d2
  rw [← this]; exact d1
/-! the greatest first -/
def gep (a b : Nat × Nat) : Prop := b.1 < a.1 ∨ (b.1 = a.1 ∧ b.2 ≤ a.2)
theorem dsl_all {once : Bool} : ∀ (l : List (Nat × Nat)) (s F : Nat), DSL once s F l → ∀ y ∈ l, y.1 < s ∨ (y.1 = s ∧ y.2 < F) := by
  intro l
  induction l with
  | nil => intro s F _ y hy; cases hy
  | cons x l ih =>
    intro s F h y hy
    obtain ⟨h1, h2⟩ := h
    rcases List.mem_cons.mp hy with e | e
    · subst e; exact h1
    · have := ih _ _ h2 y e
      split at this <;> omega
theorem dsl_pw {once : Bool} : ∀ (l : List (Nat × Nat)) (s F : Nat), DSL once s F l → l.Pairwise gep := by
  intro l
  induction l with
  | nil => intro s F _; exact List.Pairwise.nil
  | cons x l ih =>
    intro s F h
    obtain ⟨h1, h2⟩ := h
    refine List.Pairwise.cons (fun y hy => ?_) (ih _ _ h2)
    have := dsl_all l _ _ h2 y hy
    unfold gep
    split at this <;> omega
theorem dsl_nd : ∀ (l : List (Nat × Nat)) (s F : Nat), DSL true s F l → l.Nodup := by
  intro l
  induction l with
  | nil => intro s F _; exact List.nodup_nil
  | cons x l ih =>
    intro s F h
    obtain ⟨h1, h2⟩ := h
    refine List.nodup_cons.mpr ⟨fun hx => ?_, ih _ _ h2⟩
    have := dsl_all l _ _ h2 x hx
    rw [if_pos rfl] at this
    omega
theorem dsl_eq {once : Bool} {l m : List (Nat × Nat)} {s F s' F' : Nat} (h : DSL once s F l) (k : DSL once s' F' m) (e : l.Perm m) : l = m := List.Perm.eq_of_pairwise (le := gep) (fun a b _ _ x y => by
  unfold gep at x y
  exact Prod.ext (by omega) (by omega)) (dsl_pw l s F h) (dsl_pw m s' F' k) e
/-- any list has an order from the greatest on -/
theorem dsl_mk {once : Bool} (l : List (Nat × Nat)) (nd : once = true → l.Nodup) : ∃ m, m.Perm l ∧ ∀ s, (∀ y ∈ l, y.1 < s) → DSL once s 0 m := by
  obtain ⟨le, hle⟩ : ∃ le : Nat × Nat → Nat × Nat → Bool, ∀ a b, le a b = true ↔ gep a b := ⟨fun a b => decide (b.1 < a.1 ∨ (b.1 = a.1 ∧ b.2 ≤ a.2)), fun a b => decide_eq_true_iff⟩
  have pw := List.pairwise_mergeSort (le := le) (fun a b c x y => by rw [hle] at x y ⊢; unfold gep at x y ⊢; omega) (fun a b => by
    rw [Bool.or_eq_true, hle, hle]; unfold gep; omega) l
  refine ⟨l.mergeSort le, List.mergeSort_perm l le, fun s hs => ?_⟩
  have key : ∀ (m : List (Nat × Nat)) (s F : Nat), m.Pairwise (fun a b => le a b = true) → (once = true → m.Nodup) → (∀ y ∈ m, y.1 < s ∨ (y.1 = s ∧ y.2 < F)) → DSL once s F m := by
    intro m
    induction m with
    | nil => intro s F _ _ _; trivial
    | cons x m ih =>
      intro s F hp hn hb
      obtain ⟨p1, p2⟩ := List.pairwise_cons.mp hp
      refine ⟨hb x (List.mem_cons_self ..), ih _ _ p2 (fun o => (List.nodup_cons.mp (hn o)).2) (fun y hy => ?_)⟩
      have g := (hle x y).mp (p1 y hy)
      unfold gep at g
      cases once with
      | false => rw [if_neg (by decide)]; omega
      | true =>
        rw [if_pos rfl]
        have ne : y ≠ x := fun e => (List.nodup_cons.mp (hn rfl)).1 (e ▸ hy)
        by_cases z : y.1 = x.1 ∧ y.2 = x.2
        · exact absurd (Prod.ext z.1 z.2) ne
        · omega
  refine key _ s 0 pw (fun o => (List.mergeSort_perm l le).symm.nodup (nd o)) (fun y hy => ?_)
  exact Or.inl (hs y ((List.mergeSort_perm l le).mem_iff.mp hy))
/-! rings -/
theorem lst_eq {l m : List (Nat × Nat)} (h : RT l m) (hl : lst l = true) (hm : lst m = true) : l = m := by
  have key : ∀ {l m : List (Nat × Nat)}, RT l m → lst l = true → ¬ lxt m l = true := fun {l m} r hl => by
    obtain ⟨a, b, e1, e2⟩ := r
    have er : rot a.length l = m := by
      unfold rot
      rw [e1, e2, List.drop_left, List.take_left]
    by_cases c : a.length < l.length
    · have := lst_i.mp hl _ c
      rw [er] at this
      exact this
    · have : b = [] := by
        have : l.length = a.length + b.length := by rw [e1, List.length_append]
        exact List.eq_nil_of_length_eq_zero (by omega)
      subst this
      have : m = l := by rw [e1, e2, List.append_nil]; rfl
      rw [this]
      exact lxt_irr l
  rcases lxt_tri l m h.pm.length_eq with x | x | x
  · exact absurd x (key h.sy hm)
  · exact x
  · exact absurd x (key h hl)
theorem lst_mk (l : List (Nat × Nat)) (h : l ≠ []) : ∃ m, RT l m ∧ lst m = true := by
  have lp : 1 ≤ l.length := by
    cases l with
    | nil => exact absurd rfl h
    | cons a l => rw [List.length_cons]; omega
  obtain ⟨t0, t1, t2⟩ := lst_ex (l := l) l.length lp
  refine ⟨rot t0 l, ⟨l.take t0, l.drop t0, (List.take_append_drop t0 l).symm, rfl⟩, lst_i.mpr fun t ht => ?_⟩
  rw [rot_len] at ht
  rw [rot_mod ht t1]
  exact t2 _ (Nat.mod_lt _ (by omega))
/-! a sequence's number and its list -/
theorem sqI_cnt {S : St} (h : Cor S) {p n : Nat} (hp : (p : Int) < S 84 2) (hs : isSq (S 84) p) (hn : (n : Int) ≤ S 84 1) : (S 84 (24 + (p : Int)) = 3 → ev (yM (S 84) p n) (rwW (cM (S 84) p) (nuM (S 84) p) n)) ∧ (S 84 (24 + (p : Int)) = 6 → ev (yM (S 84) p n) (rgM (S 84) p n).length) ∧ (S 84 (24 + (p : Int)) ≠ 3 → S 84 (24 + (p : Int)) ≠ 6 → ev (yM (S 84) p n) (bgN (cM (S 84) p) (S 84 (24 + (p : Int)) == 5) n (nuM (S 84) p) n (cM (S 84) p n))) := by
  have hM1 := h.wf.2.1
  refine ⟨fun t3 => ?_, fun t6 => y_ring h hp (n := n) (by omega) t6, fun t3 t6 => ?_⟩
  · have e := y_seq h hp (n := n) (by omega) hs (by omega)
    unfold sqN at e
    rw [if_pos t3] at e
    exact e
  · have e := y_seq h hp (n := n) (by omega) hs t6
    unfold sqN at e
    rw [if_neg t3] at e
    exact e
theorem ev_200 {x y : Nat} (h : ev x y) (k : x ≤ 200) : x = y := by
  rcases ev_to h with q | ⟨q, _⟩
  · exact q
  · rw [CC_eq] at q; omega
/-- what holds of a sequence's list besides sizes and ranks -/
def seqP (ty : Int) (n : Nat) (L : List (Nat × Nat)) : Prop := (ty = 6 → L ≠ [] ∧ lst L = true) ∧ (ty ≠ 3 → ty ≠ 6 → DSL (ty == 5) (n + 1) 0 L)
theorem sqI_p {S : St} (h : Cor S) {p n v : Nat} (hp : (p : Int) < S 84 2) (hs : isSq (S 84) p) (hn : (n : Int) ≤ S 84 1) (hv : v < yM (S 84) p n) (h2 : yM (S 84) p n ≤ 200) : seqP (S 84 (24 + (p : Int))) n (sqI (S 84) p n v) := by
  have hM1 := h.wf.2.1
  have nu := nu_ge h.wf hp hs
  obtain ⟨c3, c6, cb⟩ := sqI_cnt h hp hs hn
  unfold sqI
  refine ⟨fun t6 => ?_, fun t3 t6 => ?_⟩
  · rw [if_neg (by omega), if_pos t6]
    have e := ev_200 (c6 t6) h2
    rw [e] at hv
    obtain ⟨x, hx⟩ : ∃ x, (rgM (S 84) p n)[v]? = some x := ⟨_, List.getElem?_eq_getElem hv⟩
    rw [hx]
    show x ≠ [] ∧ lst x = true
    have m := (rgE_mem (c := cM (S 84) p) 7 n (nuM (S 84) p) [] x (by omega) (by omega) nu.1).mp (List.mem_of_getElem? hx)
    obtain ⟨s, _, _, _, _, m1, m2⟩ := m
    exact ⟨m1, m2⟩
  · rw [if_neg t3, if_neg t6]
    have e := ev_200 (cb t3 t6) h2
    rw [e] at hv
    refine bg_ds 7 n v (n + 1) 0 (nuM (S 84) p) (by omega) nu.1 hv ?_ (Or.inr (by omega))
    rw [bg_f0 nu.1]; exact hv
theorem sqI_inj {S : St} (h : Cor S) {p n v v' : Nat} (hp : (p : Int) < S 84 2) (hs : isSq (S 84) p) (hn : (n : Int) ≤ S 84 1) (hv : v < yM (S 84) p n) (hv' : v' < yM (S 84) p n) (h2 : yM (S 84) p n ≤ 200) (e : sqI (S 84) p n v = sqI (S 84) p n v') : v = v' := by
  have hM1 := h.wf.2.1
  have nu := nu_ge h.wf hp hs
  obtain ⟨c3, c6, cb⟩ := sqI_cnt h hp hs hn
  unfold sqI at e
  by_cases t3 : S 84 (24 + (p : Int)) = 3
  · rw [if_pos t3, if_pos t3] at e
    have e' := ev_200 (c3 t3) h2
    rw [e'] at hv hv'
    exact rw_inj 7 n _ v v' (by omega) (by omega) hv hv' e
  · rw [if_neg t3, if_neg t3] at e
    by_cases t6 : S 84 (24 + (p : Int)) = 6
    · rw [if_pos t6, if_pos t6] at e
      have e' := ev_200 (c6 t6) h2
      rw [e'] at hv hv'
      obtain ⟨x, hx⟩ : ∃ x, (rgM (S 84) p n)[v]? = some x := ⟨_, List.getElem?_eq_getElem hv⟩
      obtain ⟨y, hy⟩ : ∃ y, (rgM (S 84) p n)[v']? = some y := ⟨_, List.getElem?_eq_getElem hv'⟩
      rw [hx, hy] at e
      have nd := rgE_nd (c := cM (S 84) p) 7 n (nuM (S 84) p) [] (by omega) (by omega) nu.1
      have e2 : x = y := e
      refine (List.getElem?_inj (l := rgM (S 84) p n) hv nd).mp ?_
      rw [hx, hy, e2]
    · rw [if_neg t6, if_neg t6] at e
      have e' := ev_200 (cb t3 t6) h2
      rw [e'] at hv hv'
      exact bg_inj 7 n _ v v' (by omega) nu.1 hv hv' e
/-- each list that is so has its number -/
theorem sqI_sur {S : St} (h : Cor S) {p n : Nat} {L : List (Nat × Nat)} (hp : (p : Int) < S 84 2) (hs : isSq (S 84) p) (hn : (n : Int) ≤ S 84 1) (ok : okL (cM (S 84) p) L) (ht : tot L = n) (hl : 0 ≤ nuM (S 84) p → ((L.length : Nat) : Int) = nuM (S 84) p) (sp : seqP (S 84 (24 + (p : Int))) n L) : 1 ≤ yM (S 84) p n ∧ (yM (S 84) p n ≤ 200 → ∃ v, v < yM (S 84) p n ∧ sqI (S 84) p n v = L) := by
  have hM1 := h.wf.2.1
  have nu := nu_ge h.wf hp hs
  obtain ⟨c3, c6, cb⟩ := sqI_cnt h hp hs hn
  have pos : ∀ {x y v : Nat}, ev x y → v < y → 1 ≤ x := fun {x y v} q hv => by
    rcases ev_to q with z | ⟨z, _⟩
    · omega
    · rw [CC_eq] at z; omega
  unfold sqI
  by_cases t3 : S 84 (24 + (p : Int)) = 3
  · obtain ⟨v, v1, v2⟩ := rw_sur 7 n (nuM (S 84) p) L (by omega) (by omega) nu.1 ok ht hl
    refine ⟨pos (c3 t3) v1, fun h2 => ⟨v, by rw [ev_200 (c3 t3) h2]; exact v1, ?_⟩⟩
    rw [if_pos t3]; exact v2
  · by_cases t6 : S 84 (24 + (p : Int)) = 6
    · obtain ⟨q1, q2⟩ := sp.1 t6
      have m := (rgE_mem (c := cM (S 84) p) 7 n (nuM (S 84) p) [] L (by omega) (by omega) nu.1).mpr ⟨L, rfl, ok, ht, hl, q1, q2⟩
      obtain ⟨v, v1, v2⟩ := List.mem_iff_getElem.mp m
      have v1' : v < (rgM (S 84) p n).length := v1
      refine ⟨pos (c6 t6) v1', fun h2 => ⟨v, by rw [ev_200 (c6 t6) h2]; exact v1', ?_⟩⟩
      rw [if_neg t3, if_pos t6, List.getElem?_eq_getElem v1']
      exact v2
    · obtain ⟨v, v1, v2⟩ := bg_sur 7 n (n + 1) 0 (nuM (S 84) p) L (by omega) nu.1 ok ht hl (sp.2 t3 t6)
      rw [bg_f0 nu.1] at v1
      refine ⟨pos (cb t3 t6) v1, fun h2 => ⟨v, by rw [ev_200 (cb t3 t6) h2]; exact v1, ?_⟩⟩
      rw [if_neg t3, if_neg t6]; exact v2
