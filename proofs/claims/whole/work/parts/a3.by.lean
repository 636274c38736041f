/-! by terms; idle terms; blank kinds -/
def byM (M : Int → Int) (e t n : Nat) : Nat := if offM M e t then 0 else RP M (-1) (pl (fpM M e t).toNat n 0)
theorem Cor.rle {S : St} (h : Cor S) {p n : Nat} (hp : (p : Int) < S 84 2) (hn : n ≤ 7) : RP (S 84) (-1) (pl p n 0) ≤ 1000000000000 := by
  obtain ⟨E, TE, KE, rO, rT, rK, st, w, o, -⟩ := h
  exact RP_le w o (by decide) (pl_lt2 (show p < 24 by have := w.2.2.1; omega) hn (by omega) (by decide))
theorem Cor.ble {S : St} (h : Cor S) {e t n : Nat} (he : (e : Int) < S 84 0) (ht : (t : Int) < S 84 (198 + (e : Int))) (hn : n ≤ 7) : byM (S 84) e t n ≤ 1000000000000 := by
  have q := ((h.wf.2.2.2.2.1 e he).2.1 t ht).2
  unfold byM
  split
  · omega
  · exact h.rle (by omega) hn
theorem ev_0 : ev 0 0 := by unfold ev; exact Eq.refl _
theorem e_byTerm40 {S : St} (h : Cor S) {e t n : Nat} (he : (e : Int) < S 84 0) (ht : (t : Int) < S 84 (198 + (e : Int))) (hn : (n : Int) ≤ S 84 1) : ∃ x : Nat, mX0_byTerm_40 S (e : Int) (t : Int) (n : Int) = some (x : Int) ∧ ev x (byM (S 84) e t n) ∧ x ≤ HH := by
  have w := h.wf
  have hM0 := w.1
  have oe := w.2.2.2.2.1 e he
  have q := (oe.2.1 t ht).2
  unfold mX0_byTerm_40 byM
  rw [bd1_e (e_isOff2 w h.gm (by omega) (by have := oe.1; omega))]
  cases ho : offM (S 84) e t with
  | true =>
    refine ⟨0, ?_, ?_, Nat.zero_le HH⟩
    · rw [if_pos (show true = true from rfl), gd_t (by decide), if_neg (by decide)]
      rfl
    · rw [if_pos (show true = true from rfl)]; exact ev_0
  | false =>
    obtain ⟨x, x1, x2, x3⟩ := e_from40 h (p := (fpM (S 84) e t).toNat) (n := n) (by omega) hn
    refine ⟨x, ?_, by rw [if_neg (by decide)]; exact x2, x3⟩
    rw [if_neg (by decide), gd_t (by decide), if_pos rfl, bd1_e (e_start2 (lo := 0) (by omega) h.gm (by omega) oe ht).1, bd1_e x1]
theorem e_termAt {T : St} {M : Int → Int} (h : WF M) (hT : T 84 = M) {e t : Nat} (he : (e : Int) < M 0) (ht : (t : Int) < M (198 + (e : Int))) : mX12_termAt T (e : Int) (t : Int) = some (tlM M e t) := by
  have hM0 := h.1
  have oe := h.2.2.2.2.1 e he
  have key : ∀ d i f : Nat, i + d = t → d < f → mX12_termAt_14 T (t : Int) f (i : Int) (tlM M e i) = some (tlM M e t) := by
    intro d
    induction d with
    | zero =>
      intro i f hi hf
      obtain ⟨g, rfl⟩ : ∃ g, f = g + 1 := ⟨f - 1, by omega⟩
      have := oe.1
      rw [mX12_termAt_14, gd_t (by omega), if_pos (by omega), show i = t by omega]
    | succ d ih =>
      intro i f hi hf
      obtain ⟨g, rfl⟩ : ∃ g, f = g + 1 := ⟨f - 1, by omega⟩
      have b := (oe.2.1 i (by omega)).1
      have := oe.1
      have r := ih (i + 1) g (by omega) (by omega)
      rw [mX12_termAt_14, gd_t (by omega), if_neg (by omega), gd_t (by omega), nx_e, hT]
      rw [show ((i + 1 : Nat) : Int) = (i : Int) + 1 by omega] at r
      exact r
  unfold mX12_termAt
  rw [gd_t (by omega), nx_e, hT, bd1_e (show mX12_termAt_14 T (t : Int) FU 0 (M (168 + (e : Int))) = _ from key t 0 FU (by omega) (by have := oe.1; unfold FU; omega))]
theorem e_byTermF {T : St} {M : Int → Int} (h : WF M) (hT : cnt M (-1) T) {e t n : Nat} (he : (e : Int) < M 0) (ht : (t : Int) < M (198 + (e : Int))) (hn : n ≤ 7) : mX12_byTerm T (e : Int) (n : Int) (t : Int) = some ((byM M e t n : Nat) : Int) := by
  have hM0 := h.1
  have hM2 := h.2.2.1
  have oe := h.2.2.2.2.1 e he
  obtain ⟨q1, q2⟩ := oe.2.1 t ht
  have oc := oe.1
  unfold mX12_byTerm byM
  have io := e_isOff (S := T) (e := e) (t := t) (by rw [hT.1]; exact h) (by omega) (by omega)
  rw [hT.1] at io
  rw [bd1_e io]
  cases ho : offM M e t with
  | true =>
    rw [if_pos rfl, gd_t (by decide), if_neg (by decide)]
    rfl
  | false =>
    have fe : T 84 (120 + tlM M e t) = (((fpM M e t).toNat : Nat) : Int) := by rw [hT.1]; show fpM M e t = _; omega
    have b2 : pl (fpM M e t).toNat n 0 < 1536 := pl_lt2 (show (fpM M e t).toNat < 24 by omega) hn (by omega) (by decide)
    have e1 : mX12_place (((fpM M e t).toNat : Nat) : Int) (n : Int) 0 = some ((pl (fpM M e t).toNat n 0 : Nat) : Int) := e_pl (k := 0)
    rw [if_neg (by decide), gd_t (by decide), if_pos rfl, bd1_e (e_termAt h hT.1 he ht), gd_t (by omega), fe, bd1_e e1, gd_t (by omega), (hT.2.2.1 (fpM M e t).toNat n 0 (by omega) hn (by omega)).2, if_neg (by decide)]
abbrev isT (M : Int → Int) (a b : Int) : Prop := isK M a ∧ 0 ≤ b ∧ b < M (198 + a)
theorem e_termed {S : St} (h : Cor S) {a b : Int} (ha : inI a) (hb : inI b) : mX11_termed S a b = some (if isT (S 84) a b then 1 else 0) := by
  have hM0 := h.wf.1
  unfold mX11_termed
  rw [bd1_e (e_kn h ha)]
  by_cases x : 0 ≤ a ∧ a < S 84 0
  · obtain ⟨e, rfl⟩ : ∃ e : Nat, a = (e : Int) := ⟨a.toNat, by omega⟩
    have oc := (h.wf.2.2.2.2.1 e x.2).1
    rw [if_pos x, gd_t (by decide), if_neg (by decide), gd_t hb]
    by_cases y : b < 0
    · rw [if_pos y, if_neg (by omega)]
    · rw [if_neg y, gd_t (by omega), h.gm.2.2.1 e (by omega), gd_t (by omega)]
      by_cases z : S 84 (198 + (e : Int)) ≤ b
      · rw [if_pos z, if_neg (by omega)]
      · rw [if_neg z, if_pos (by omega)]
  · rw [if_neg x, gd_t (by decide), if_pos rfl, if_neg (by omega)]
theorem e_isTerm {S T : St} (h : Cor S) (hT : T 84 = S 84) {a b : Int} (ha : inI a) (hb : inI b) : mX12_isTerm T a b = some (if isT (S 84) a b then 1 else 0) := by
  have hM0 := h.wf.1
  unfold mX12_isTerm
  rw [bd1_e (e_ik h hT ha)]
  by_cases x : 0 ≤ a ∧ a < S 84 0
  · obtain ⟨e, rfl⟩ : ∃ e : Nat, a = (e : Int) := ⟨a.toNat, by omega⟩
    have oc := (h.wf.2.2.2.2.1 e x.2).1
    rw [if_pos x, gd_t (by decide), if_neg (by decide), gd_t hb, gd_t (by omega), hT, gd_t (by omega), bd1_e (e_in (by omega) (by omega) (by omega))]
    by_cases z : 0 ≤ b ∧ b < S 84 (198 + (e : Int))
    · rw [if_pos (by omega), gd_t (by decide), if_neg (by decide), if_pos (by omega)]
    · rw [if_neg (by omega), gd_t (by decide), if_pos rfl, if_neg (by omega)]
  · rw [if_neg x, gd_t (by decide), if_pos rfl, if_neg (by omega)]
theorem s_by {S : St} (h : Cor S) {a b c : Int} (ha : inI a) (hb : inI b) (hc : inI c) : ∃ (r : Int) (S' : St), mX11_by S a b c = some r ∧ mX12_by S a b c = some (r, S') ∧ inL r ∧ kept [90, 91, 92] [] S S' := by
  have hM1 := h.wf.2.1
  have sz := e_sized h ha hb
  have tm := e_termed h ha hc
  have it := e_isTerm h rfl ha hc
  have is := e_isSize h rfl hb
  by_cases x : isT (S 84) a c
  · rw [if_pos x] at tm it
    by_cases y : 0 ≤ b ∧ b ≤ S 84 1
    · rw [if_pos y] at is
      rw [if_pos (by omega)] at sz
      obtain ⟨e, rfl⟩ : ∃ e : Nat, a = (e : Int) := ⟨a.toNat, by omega⟩
      obtain ⟨n, rfl⟩ : ∃ e : Nat, b = (e : Int) := ⟨b.toNat, by omega⟩
      obtain ⟨t, rfl⟩ : ∃ e : Nat, c = (e : Int) := ⟨c.toNat, by omega⟩
      obtain ⟨z, z1, z2, z3⟩ := e_byTerm40 h (e := e) (t := t) (n := n) x.1.2 x.2.2 (by omega)
      obtain ⟨S', s1, s2, s3⟩ := h.cnt (l := -1) (by decide) rfl
      have bl := h.ble (e := e) (t := t) (n := n) x.1.2 x.2.2 (by omega)
      have := HHn z3
      refine ⟨((byM (S 84) e t n : Nat) : Int), S', ?_, ?_, by omega, s3⟩
      · unfold mX11_by
        rw [bd1_e sz, gd_t (by decide), if_neg (by decide), bd1_e tm, gd_t (by decide), if_neg (by decide), bd1_e z1, gd_t (by omega), min_ev z2 bl]
      · unfold mX12_by
        rw [bd1_e it, gd_t (by decide), if_neg (by decide), bd1_e is, gd_t (by decide), if_neg (by decide), bd1_e s1, bd1_e (e_byTermF h.wf s2 x.1.2 x.2.2 (by omega))]
    · rw [if_neg y] at is
      rw [if_neg (by omega)] at sz
      refine ⟨-2, S, ?_, ?_, by omega, kept.rf⟩
      · unfold mX11_by
        rw [bd1_e sz, gd_t (by decide), if_pos rfl]
      · unfold mX12_by
        rw [bd1_e it, gd_t (by decide), if_neg (by decide), bd1_e is, gd_t (by decide), if_pos rfl]
  · rw [if_neg x] at tm it
    refine ⟨-2, S, ?_, ?_, by omega, kept.rf⟩
    · unfold mX11_by
      rw [bd1_e sz]
      by_cases y : isK (S 84) a ∧ isN (S 84) b
      · rw [if_pos y, gd_t (by decide), if_neg (by decide), bd1_e tm, gd_t (by decide), if_pos rfl]
      · rw [if_neg y, gd_t (by decide), if_pos rfl]
    · unfold mX12_by
      rw [bd1_e it, gd_t (by decide), if_pos rfl]
/-! idle terms, blank kinds -/
theorem ev_pos {x y : Nat} (h : ev x y) : x = 0 ↔ y = 0 := by
  unfold ev at h
  rw [CC_eq] at h
  omega
/-- a term that is there, and by which there is nothing -/
theorem sm_split {f : Nat → Nat} : ∀ d, sm (d + 1) f = f 0 + sm d (fun i => f (i + 1)) := by
  intro d
  induction d with
  | zero => rw [sm_s, sm_0, sm_0]; omega
  | succ d ih => rw [sm_s, ih, sm_s]; omega
def nvr (M : Int → Int) (e t : Nat) : Nat → Nat → Bool
  | 0, _ => true
  | d + 1, n => byM M e t n == 0 && nvr M e t d (n + 1)
def idF (M : Int → Int) (e t : Nat) : Nat := if (t : Int) < M (198 + (e : Int)) ∧ offM M e t = false ∧ nvr M e t ((M 1).toNat + 1) 0 = true then 1 else 0
theorem e_ever {S : St} (h : Cor S) {e t : Nat} (he : (e : Int) < S 84 0) (ht : (t : Int) < S 84 (198 + (e : Int))) : ∀ (d n f : Nat), (n : Int) + d = S 84 1 + 1 → d < f → mX0_everBy_40_2 S (e : Int) (t : Int) f (n : Int) = some (if nvr (S 84) e t d n then 1 else 0) := by
  have hM1 := h.wf.2.1
  have g := h.gm.1.1
  intro d
  induction d with
  | zero =>
    intro n f hn hf
    obtain ⟨g', rfl⟩ : ∃ g, f = g + 1 := ⟨f - 1, by omega⟩
    rw [mX0_everBy_40_2, g, gd_t (by omega), if_pos (by omega)]
    rfl
  | succ d ih =>
    intro n f hn hf
    obtain ⟨g', rfl⟩ : ∃ g, f = g + 1 := ⟨f - 1, by omega⟩
    obtain ⟨x, x1, x2, x3⟩ := e_byTerm40 h he ht (n := n) (by omega)
    have := HHn x3
    have z := ev_pos x2
    have r := ih (n + 1) g' (by omega) (by omega)
    rw [mX0_everBy_40_2, g, gd_t (by omega), if_neg (by omega), bd1_e x1, gd_t (by omega)]
    by_cases c : byM (S 84) e t n = 0
    · rw [if_pos (by omega), show (n : Int) + 1 = ((n + 1 : Nat) : Int) by omega, r]
      have : nvr (S 84) e t (d + 1) n = nvr (S 84) e t d (n + 1) := by
        show (byM (S 84) e t n == 0 && nvr (S 84) e t d (n + 1)) = _
        rw [c]; rfl
      rw [this]
    · rw [if_neg (by omega)]
      have : nvr (S 84) e t (d + 1) n = false := by
        show (byM (S 84) e t n == 0 && nvr (S 84) e t d (n + 1)) = _
        rw [beq_eq_false_iff_ne.mpr c]; rfl
      rw [this]; rfl
theorem e_everBy {S : St} (h : Cor S) {e t : Nat} (he : (e : Int) < S 84 0) (ht : (t : Int) < S 84 (198 + (e : Int))) : mX0_everBy_40 S (e : Int) (t : Int) = some (if nvr (S 84) e t ((S 84 1).toNat + 1) 0 then 0 else 1) := by
  have hM1 := h.wf.2.1
  unfold mX0_everBy_40
  rw [bd1_e (show mX0_everBy_40_2 S (e : Int) (t : Int) FU 0 = _ from e_ever h he ht ((S 84 1).toNat + 1) 0 FU (by omega) (by unfold FU; omega))]
  cases nvr (S 84) e t ((S 84 1).toNat + 1) 0 <;> rfl
theorem idF_le {M : Int → Int} {e t : Nat} : idF M e t ≤ 1 := by unfold idF; split <;> omega
theorem e_id30 {S : St} (h : Cor S) {e : Nat} (he : (e : Int) < S 84 0) : ∀ (d t f v : Nat), (t : Int) + d = S 84 (198 + (e : Int)) → d < f → ∃ w : Nat, w = v + sm d (fun i => idF (S 84) e (t + i)) ∧ mX11_idle_30 S (e : Int) f (t : Int) (v : Int) = some (w : Int) := by
  have w := h.wf
  have hM0 := w.1
  have oe := w.2.2.2.2.1 e he
  have g8 := h.gm.2.2.1 e (by omega)
  intro d
  induction d with
  | zero =>
    intro t f v ht hf
    obtain ⟨g', rfl⟩ : ∃ g, f = g + 1 := ⟨f - 1, by omega⟩
    refine ⟨v, by rw [sm_0]; rfl, ?_⟩
    have := oe.1
    rw [mX11_idle_30, gd_t (by omega), g8, gd_t (by omega), if_pos (by omega)]
  | succ d ih =>
    intro t f v ht hf
    obtain ⟨g', rfl⟩ : ∃ g, f = g + 1 := ⟨f - 1, by omega⟩
    have := oe.1
    have sp : sm (d + 1) (fun i => idF (S 84) e (t + i)) = idF (S 84) e t + sm d (fun i => idF (S 84) e (t + 1 + i)) := by
      rw [sm_split]
      exact congrArg (idF (S 84) e t + ·) (sm_congr fun i _ => by rw [show t + (i + 1) = t + 1 + i by omega])
    rw [mX11_idle_30, gd_t (by omega), g8, gd_t (by omega), if_neg (by omega), bd1_e (e_isOff2 w h.gm (by omega) (by omega)), sp]
    obtain ⟨w1, q1, q2⟩ := ih (t + 1) g' v (by omega) (by omega)
    obtain ⟨w2, p1, p2⟩ := ih (t + 1) g' (v + 1) (by omega) (by omega)
    rw [show ((t + 1 : Nat) : Int) = (t : Int) + 1 by omega] at q2 p2
    rw [show ((v + 1 : Nat) : Int) = (v : Int) + 1 by omega] at p2
    cases ho : offM (S 84) e t with
    | true =>
      refine ⟨w1, ?_, ?_⟩
      · unfold idF
        rw [if_neg (fun x => by rw [ho] at x; cases x.2.1)]
        rw [q1]; unfold idF; omega
      · rw [if_pos (show true = true from rfl), gd_t (by decide), if_neg (by decide)]; exact q2
    | false =>
      rw [if_neg (by decide), gd_t (by decide), if_pos rfl, bd1_e (e_everBy h he (by omega))]
      cases hv : nvr (S 84) e t ((S 84 1).toNat + 1) 0 with
      | true =>
        refine ⟨w2, ?_, ?_⟩
        · rw [show idF (S 84) e t = 1 by unfold idF; rw [if_pos ⟨by omega, ho, hv⟩]]
          omega
        · rw [if_pos (show true = true from rfl), gd_t (by decide), if_pos rfl]; exact p2
      | false =>
        refine ⟨w1, ?_, ?_⟩
        · rw [show idF (S 84) e t = 0 by unfold idF; rw [if_neg (fun x => by rw [hv] at x; cases x.2.2)]]
          omega
        · rw [if_neg (by decide), gd_t (by decide), if_neg (by decide)]; exact q2
