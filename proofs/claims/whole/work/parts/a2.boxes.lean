/-! sums over sizes, first sizes -/
def bwL (M : Int → Int) (e : Nat) : Nat → Nat → Nat → Nat
  | 0, _, v => v
  | d + 1, n, v => bwL M e d (n + 1) (min 1000000000000 (v + kM M e n))
theorem bwL_le {M : Int → Int} {e : Nat} : ∀ d n v, v ≤ 1000000000000 → bwL M e d n v ≤ 1000000000000 := by
  intro d
  induction d with
  | zero => intro n v hv; exact hv
  | succ d ih => intro n v hv; exact ih (n + 1) _ (Nat.min_le_left _ _)
theorem e_btw {S : St} (h : Cor S) {e hi : Nat} (he : (e : Int) < S 84 0) (hh : (hi : Int) ≤ S 84 1) : ∀ (d n v f : Nat), n + d = hi + 1 → d < f → v ≤ 1000000000000 → mX0_between_40_6 S (e : Int) (hi : Int) f (n : Int) (v : Int) = some ((bwL (S 84) e d n v : Nat) : Int) := by
  have hM1 := h.wf.2.1
  intro d
  induction d with
  | zero =>
    intro n v f hn hf hv
    obtain ⟨g, rfl⟩ : ∃ g, f = g + 1 := ⟨f - 1, by omega⟩
    rw [mX0_between_40_6, gd_t (by omega), if_pos (by omega)]
    rfl
  | succ d ih =>
    intro n v f hn hf hv
    obtain ⟨g, rfl⟩ : ∃ g, f = g + 1 := ⟨f - 1, by omega⟩
    have hk := h.kle he (n := n) (by omega)
    have := ih (n + 1) (min 1000000000000 (v + kM (S 84) e n)) g (by omega) (by omega) (Nat.min_le_left _ _)
    rw [mX0_between_40_6, gd_t (by omega), if_neg (by omega), bd1_e (e_thingsAt h he (by omega)), gd_t (by omega), nx_e]
    rw [show ((n + 1 : Nat) : Int) = (n : Int) + 1 by omega, show ((min 1000000000000 (v + kM (S 84) e n) : Nat) : Int) = min 1000000000000 ((v : Int) + ((kM (S 84) e n : Nat) : Int)) by omega] at this
    exact this
theorem e_upT {T : St} {M : Int → Int} (h : WF M) (hk : ∀ n, n ≤ 7 → ∀ e : Nat, (e : Int) < M 0 → kM M e n ≤ 1000000000000) (hT : cnt M (-1) T) {e hi : Nat} (he : (e : Int) < M 0) (hh : hi ≤ 7) : ∀ (d n v f : Nat), n + d = hi + 1 → d < f → v ≤ 1000000000000 → mX12_upTo_6 T (e : Int) (hi : Int) f (n : Int) (v : Int) = some ((bwL M e d n v : Nat) : Int) := by
  intro d
  induction d with
  | zero =>
    intro n v f hn hf hv
    obtain ⟨g, rfl⟩ : ∃ g, f = g + 1 := ⟨f - 1, by omega⟩
    rw [mX12_upTo_6, gd_t (by omega), if_pos (by omega)]
    rfl
  | succ d ih =>
    intro n v f hn hf hv
    obtain ⟨g, rfl⟩ : ∃ g, f = g + 1 := ⟨f - 1, by omega⟩
    have hk' := hk n (by omega) e he
    have := ih (n + 1) (min 1000000000000 (v + kM M e n)) g (by omega) (by omega) (Nat.min_le_left _ _)
    have ea : mX12_add (v : Int) ((kM M e n : Nat) : Int) 1000000000000 = some (min 1000000000000 ((v : Int) + ((kM M e n : Nat) : Int))) := by
      unfold mX12_add
      rw [gd_t (by omega)]
    rw [mX12_upTo_6, gd_t (by omega), if_neg (by omega), bd1_e (e_kindMany h hT he (by omega)), bd1_e ea]
    rw [show ((n + 1 : Nat) : Int) = (n : Int) + 1 by omega, show ((min 1000000000000 (v + kM M e n) : Nat) : Int) = min 1000000000000 ((v : Int) + ((kM M e n : Nat) : Int)) by omega] at this
    exact this
/-- how many a box has, as told -/
def bx (M : Int → Int) (e lo hi : Nat) : Nat := bwL M e (hi + 1 - lo) lo 0
theorem bx_le {M : Int → Int} {e lo hi : Nat} : bx M e lo hi ≤ 1000000000000 := bwL_le _ _ _ (by omega)
theorem e_between {S : St} (h : Cor S) {e lo hi : Nat} (he : (e : Int) < S 84 0) (hh : (hi : Int) ≤ S 84 1) (hl : lo ≤ hi) : mX0_between_40 S (e : Int) (lo : Int) (hi : Int) = some ((bx (S 84) e lo hi : Nat) : Int) := by
  have hM1 := h.wf.2.1
  unfold mX0_between_40
  rw [bd1_e (show mX0_between_40_6 S (e : Int) (hi : Int) FU (lo : Int) 0 = _ from e_btw h he hh (hi + 1 - lo) lo 0 FU (by omega) (by unfold FU; omega) (by omega))]
  rfl
theorem Cor.kall {S : St} (h : Cor S) : ∀ n, n ≤ 7 → ∀ e : Nat, (e : Int) < S 84 0 → kM (S 84) e n ≤ 1000000000000 := fun n hn e he => h.kle he hn
theorem e_upTo {S T : St} (h : Cor S) (hT : cnt (S 84) (-1) T) {e lo hi : Nat} (he : (e : Int) < S 84 0) (hh : hi ≤ 7) (hl : lo ≤ hi) : mX12_upTo T (e : Int) (lo : Int) (hi : Int) = some ((bx (S 84) e lo hi : Nat) : Int) := by
  unfold mX12_upTo
  rw [bd1_e (show mX12_upTo_6 T (e : Int) (hi : Int) FU (lo : Int) 0 = _ from e_upT h.wf h.kall hT he hh (hi + 1 - lo) lo 0 FU (by omega) (by unfold FU; omega) (by omega))]
  rfl
abbrev isB (M : Int → Int) (a b c : Int) : Prop := isK M a ∧ isN M b ∧ isN M c ∧ b ≤ c
theorem e_boxy {S : St} (h : Cor S) {a b c : Int} (ha : inI a) (hb : inI b) (hc : inI c) : mX11_boxy S a b c = some (if isB (S 84) a b c then 1 else 0) := by
  unfold mX11_boxy
  rw [bd1_e (e_sized h ha hb)]
  by_cases x : isK (S 84) a ∧ isN (S 84) b
  · rw [if_pos x, gd_t (by decide), if_neg (by decide), bd1_e (e_sized h ha hc)]
    by_cases y : isK (S 84) a ∧ isN (S 84) c
    · rw [if_pos y, gd_t (by decide), if_neg (by decide), gd_t (by omega)]
      by_cases z : c < b
      · rw [if_pos z, if_neg (by omega)]
      · rw [if_neg z, if_pos (by omega)]
    · rw [if_neg y, gd_t (by decide), if_pos rfl, if_neg (by omega)]
  · rw [if_neg x, gd_t (by decide), if_pos rfl, if_neg (by omega)]
theorem e_isBox {S T : St} (h : Cor S) (hT : T 84 = S 84) {a b c : Int} (ha : inI a) (hb : inI b) (hc : inI c) : mX12_isBox T a b c = some (if isB (S 84) a b c then 1 else 0) := by
  unfold mX12_isBox
  rw [bd1_e (e_ik h hT ha)]
  by_cases x : 0 ≤ a ∧ a < S 84 0
  · rw [if_pos x, gd_t (by decide), if_neg (by decide), bd1_e (e_isSize h hT hb)]
    by_cases y : 0 ≤ b ∧ b ≤ S 84 1
    · rw [if_pos y, gd_t (by decide), if_neg (by decide), bd1_e (e_isSize h hT hc)]
      by_cases w : 0 ≤ c ∧ c ≤ S 84 1
      · rw [if_pos w, gd_t (by decide), if_neg (by decide), gd_t (by omega)]
        by_cases z : c < b
        · rw [if_pos z, if_neg (by omega)]
        · rw [if_neg z, if_pos (by omega)]
      · rw [if_neg w, gd_t (by decide), if_pos rfl, if_neg (by omega)]
    · rw [if_neg y, gd_t (by decide), if_pos rfl, if_neg (by omega)]
  · rw [if_neg x, gd_t (by decide), if_pos rfl, if_neg (by omega)]
theorem c_boxed {S : St} (h : Cor S) {a b c : Int} (ha : inI a) (hb : inI b) (hc : inI c) : mX11_boxed S a b c = some (if isB (S 84) a b c then ((bx (S 84) a.toNat b.toNat c.toNat : Nat) : Int) else -2) := by
  unfold mX11_boxed
  rw [bd1_e (e_boxy h ha hb hc)]
  by_cases x : isB (S 84) a b c
  · have := e_between h (e := a.toNat) (lo := b.toNat) (hi := c.toNat) (by omega) (by omega) (by omega)
    rw [show ((a.toNat : Nat) : Int) = a by omega, show ((b.toNat : Nat) : Int) = b by omega, show ((c.toNat : Nat) : Int) = c by omega] at this
    rw [if_pos x, if_pos x, gd_t (by decide), if_neg (by decide), bd1_e this]
  · rw [if_neg x, if_neg x, gd_t (by decide), if_pos rfl]
theorem s_boxed {S : St} (h : Cor S) {a b c : Int} (ha : inI a) (hb : inI b) (hc : inI c) : ∃ (r : Int) (S' : St), mX11_boxed S a b c = some r ∧ mX12_boxed S a b c = some (r, S') ∧ inL r ∧ kept [90, 91, 92] [] S S' := by
  have hM1 := h.wf.2.1
  have cb := c_boxed h ha hb hc
  have ib := e_isBox h rfl ha hb hc
  by_cases x : isB (S 84) a b c
  · rw [if_pos x] at cb ib
    obtain ⟨S', s1, s2, s3⟩ := h.cnt (l := -1) (by decide) rfl
    have := e_upTo h s2 (e := a.toNat) (lo := b.toNat) (hi := c.toNat) (by omega) (by omega) (by omega)
    rw [show ((a.toNat : Nat) : Int) = a by omega, show ((b.toNat : Nat) : Int) = b by omega, show ((c.toNat : Nat) : Int) = c by omega] at this
    have bl := bx_le (M := S 84) (e := a.toNat) (lo := b.toNat) (hi := c.toNat)
    refine ⟨_, S', cb, ?_, by omega, s3⟩
    unfold mX12_boxed
    rw [bd1_e ib, gd_t (by decide), if_neg (by decide), bd1_e s1, bd1_e this]
  · rw [if_neg x] at cb ib
    refine ⟨_, S, cb, ?_, by omega, kept.rf⟩
    unfold mX12_boxed
    rw [bd1_e ib, gd_t (by decide), if_pos rfl]
theorem s_upto {S : St} (h : Cor S) {a b : Int} (ha : inI a) (hb : inI b) : ∃ (r : Int) (S' : St), mX11_upto S a b = some r ∧ mX12_upto S a b = some (r, S') ∧ inL r ∧ kept [90, 91, 92] [] S S' := by
  have hM1 := h.wf.2.1
  have cb := c_boxed h ha (b := 0) (by decide) hb
  have is := e_isSize h rfl hb
  have ik := e_ik h rfl ha
  have eC : ∀ r, mX11_boxed S a 0 b = some r → mX11_upto S a b = some r := fun r x => by
    unfold mX11_upto; rw [bd1_e x]
  by_cases x : 0 ≤ a ∧ a < S 84 0
  · rw [if_pos x] at ik
    by_cases y : 0 ≤ b ∧ b ≤ S 84 1
    · rw [if_pos y] at is
      rw [if_pos (by omega)] at cb
      obtain ⟨S', s1, s2, s3⟩ := h.cnt (l := -1) (by decide) rfl
      have := e_upTo h s2 (e := a.toNat) (lo := 0) (hi := b.toNat) (by omega) (by omega) (by omega)
      rw [show ((a.toNat : Nat) : Int) = a by omega, show ((b.toNat : Nat) : Int) = b by omega] at this
      have bl := bx_le (M := S 84) (e := a.toNat) (lo := (0 : Int).toNat) (hi := b.toNat)
      refine ⟨_, S', eC _ cb, ?_, by omega, s3⟩
      unfold mX12_upto
      rw [bd1_e ik, gd_t (by decide), if_neg (by decide), bd1_e is, gd_t (by decide), if_neg (by decide), bd1_e s1, bd1_e (show mX12_upTo S' a 0 b = _ from this)]
      rfl
    · rw [if_neg y] at is
      rw [if_neg (by omega)] at cb
      refine ⟨_, S, eC _ cb, ?_, by omega, kept.rf⟩
      unfold mX12_upto
      rw [bd1_e ik, gd_t (by decide), if_neg (by decide), bd1_e is, gd_t (by decide), if_pos rfl]
  · rw [if_neg x] at ik
    rw [if_neg (by omega)] at cb
    refine ⟨_, S, eC _ cb, ?_, by omega, kept.rf⟩
    unfold mX12_upto
    rw [bd1_e ik, gd_t (by decide), if_pos rfl]
/-- the first size, from n on, that has v things -/
def fiL (M : Int → Int) (e : Nat) (v : Int) : Nat → Nat → Int
  | 0, _ => -1
  | d + 1, n => if v ≤ ((kM M e n : Nat) : Int) then (n : Int) else fiL M e v d (n + 1)
theorem e_fi28 {S : St} (h : Cor S) {e : Nat} {v : Int} (he : (e : Int) < S 84 0) (hv : inL v) : ∀ (d n f : Nat), (n : Int) + d = S 84 1 + 1 → d < f → ∃ t y, mX11_first_28 S (e : Int) v f (n : Int) = some (t, y) ∧ (if t = 0 then some y else some (-1)) = some (fiL (S 84) e v d n) := by
  have hM1 := h.wf.2.1
  have g := h.gm.1.1
  intro d
  induction d with
  | zero =>
    intro n f hn hf
    obtain ⟨g', rfl⟩ : ∃ g, f = g + 1 := ⟨f - 1, by omega⟩
    refine ⟨1, (n : Int), ?_, rfl⟩
    rw [mX11_first_28, g, gd_t (by omega), if_pos (by omega)]
  | succ d ih =>
    intro n f hn hf
    obtain ⟨g', rfl⟩ : ∃ g, f = g + 1 := ⟨f - 1, by omega⟩
    have hk := h.kle he (n := n) (by omega)
    obtain ⟨t, y, a1, a2⟩ := ih (n + 1) g' (by omega) (by omega)
    by_cases c : v ≤ ((kM (S 84) e n : Nat) : Int)
    · refine ⟨0, (n : Int), ?_, ?_⟩
      · rw [mX11_first_28, g, gd_t (by omega), if_neg (by omega), bd1_e (e_thingsAt h he (by omega)), gd_t (by omega), if_neg (by omega)]
      · show some (n : Int) = some (if v ≤ ((kM (S 84) e n : Nat) : Int) then (n : Int) else fiL (S 84) e v d (n + 1))
        rw [if_pos c]
    · refine ⟨t, y, ?_, ?_⟩
      · rw [mX11_first_28, g, gd_t (by omega), if_neg (by omega), bd1_e (e_thingsAt h he (by omega)), gd_t (by omega), if_pos (by omega), ← a1]
        rfl
      · rw [a2]
        show some _ = some (if v ≤ ((kM (S 84) e n : Nat) : Int) then (n : Int) else fiL (S 84) e v d (n + 1))
        rw [if_neg c]
theorem e_fi30 {T : St} {M : Int → Int} (h : WF M) (hk : ∀ n, n ≤ 7 → ∀ e : Nat, (e : Int) < M 0 → kM M e n ≤ 1000000000000) (hT : cnt M (-1) T) {e : Nat} {v : Int} (he : (e : Int) < M 0) (hv : inL v) : ∀ (d n f : Nat), (n : Int) + d = M 1 + 1 → d < f → ∃ t y, mX12_first_30 T (e : Int) v f (n : Int) = some (t, y) ∧ (if t = 0 then some (y, T) else some (-1, T)) = some (fiL M e v d n, T) := by
  have hM1 := h.2.1
  have g : T 84 1 = M 1 := by rw [hT.1]
  intro d
  induction d with
  | zero =>
    intro n f hn hf
    obtain ⟨g', rfl⟩ : ∃ g, f = g + 1 := ⟨f - 1, by omega⟩
    refine ⟨1, (n : Int), ?_, rfl⟩
    rw [mX12_first_30, g, gd_t (by omega), if_pos (by omega)]
  | succ d ih =>
    intro n f hn hf
    obtain ⟨g', rfl⟩ : ∃ g, f = g + 1 := ⟨f - 1, by omega⟩
    have hk' := hk n (by omega) e he
    obtain ⟨t, y, a1, a2⟩ := ih (n + 1) g' (by omega) (by omega)
    by_cases c : v ≤ ((kM M e n : Nat) : Int)
    · refine ⟨0, (n : Int), ?_, ?_⟩
      · rw [mX12_first_30, g, gd_t (by omega), if_neg (by omega), bd1_e (e_kindMany h hT he (by omega)), gd_t (by omega), if_neg (by omega)]
      · show some ((n : Int), T) = some (if v ≤ ((kM M e n : Nat) : Int) then (n : Int) else fiL M e v d (n + 1), T)
        rw [if_pos c]
    · refine ⟨t, y, ?_, ?_⟩
      · rw [mX12_first_30, g, gd_t (by omega), if_neg (by omega), bd1_e (e_kindMany h hT he (by omega)), gd_t (by omega), if_pos (by omega), ← a1]
        rfl
      · rw [a2]
        show some _ = some (if v ≤ ((kM M e n : Nat) : Int) then (n : Int) else fiL M e v d (n + 1), T)
        rw [if_neg c]
theorem fiL_b {M : Int → Int} {e : Nat} {v : Int} : ∀ d n, -1 ≤ fiL M e v d n ∧ fiL M e v d n ≤ (n + d : Nat) := by
  intro d
  induction d with
  | zero => intro n; exact ⟨by show (-1 : Int) ≤ -1; omega, by show (-1 : Int) ≤ _; omega⟩
  | succ d ih =>
    intro n
    have := ih (n + 1)
    show -1 ≤ (if v ≤ ((kM M e n : Nat) : Int) then (n : Int) else fiL M e v d (n + 1)) ∧ (if v ≤ ((kM M e n : Nat) : Int) then (n : Int) else fiL M e v d (n + 1)) ≤ _
    split <;> omega
def fiM (M : Int → Int) (e : Nat) (v : Int) : Int := fiL M e v ((M 1).toNat + 1) 0
theorem c_first {S : St} (h : Cor S) {a v : Int} (ha : inI a) (hv : inL v) : mX11_first S a v = some (if isK (S 84) a ∧ 1 ≤ v ∧ v ≤ 1000000000000 then fiM (S 84) a.toNat v else -2) := by
  have hM1 := h.wf.2.1
  unfold mX11_first
  rw [bd1_e (e_kn h ha)]
  by_cases x : 0 ≤ a ∧ a < S 84 0
  · rw [if_pos x, gd_t (by decide), if_neg (by decide), gd_t hv]
    by_cases y : v < 1
    · rw [if_pos y, if_neg (by omega)]
    · rw [if_neg y]
      by_cases z : v ≤ 1000000000000
      · obtain ⟨t, w, a1, a2⟩ := e_fi28 h (e := a.toNat) (by omega) hv ((S 84 1).toNat + 1) 0 FU (by omega) (by unfold FU; omega)
        rw [show ((a.toNat : Nat) : Int) = a by omega] at a1
        rw [if_pos z, if_pos (by omega), bd2_e (show mX11_first_28 S a v FU 0 = _ from a1)]
        exact a2
      · rw [if_neg z, if_neg (by omega)]
  · rw [if_neg x, gd_t (by decide), if_pos rfl, if_neg (by omega)]
theorem f_first {S : St} (h : Cor S) {a v : Int} (ha : inI a) (hv : inL v) : ∃ S' : St, mX12_first S a v = some (if isK (S 84) a ∧ 1 ≤ v ∧ v ≤ 1000000000000 then fiM (S 84) a.toNat v else -2, S') ∧ kept [90, 91, 92] [] S S' := by
  have hM1 := h.wf.2.1
  have ik := e_ik h rfl ha
  by_cases x : 0 ≤ a ∧ a < S 84 0
  · rw [if_pos x] at ik
    have iv := e_in (v := v) (lo := 1) (hi := 1000000000000) hv (by decide) (by decide)
    by_cases y : 1 ≤ v ∧ v ≤ 1000000000000
    · rw [if_pos y] at iv
      obtain ⟨S', s1, s2, s3⟩ := h.cnt (l := -1) (by decide) rfl
      obtain ⟨t, w, a1, a2⟩ := e_fi30 h.wf h.kall s2 (e := a.toNat) (by omega) hv ((S 84 1).toNat + 1) 0 FU (by omega) (by unfold FU; omega)
      rw [show ((a.toNat : Nat) : Int) = a by omega] at a1
      refine ⟨S', ?_, s3⟩
      unfold mX12_first
      rw [bd1_e ik, gd_t (by decide), if_neg (by decide), bd1_e iv, gd_t (by decide), if_neg (by decide), bd1_e s1, bd2_e (show mX12_first_30 S' a v FU 0 = _ from a1), if_pos (show isK (S 84) a ∧ 1 ≤ v ∧ v ≤ 1000000000000 from ⟨x, y⟩)]
      exact a2
    · rw [if_neg y] at iv
      refine ⟨S, ?_, kept.rf⟩
      unfold mX12_first
      rw [bd1_e ik, gd_t (by decide), if_neg (by decide), bd1_e iv, gd_t (by decide), if_pos rfl, if_neg (by omega)]
  · rw [if_neg x] at ik
    refine ⟨S, ?_, kept.rf⟩
    unfold mX12_first
    rw [bd1_e ik, gd_t (by decide), if_pos rfl, if_neg (by omega)]
theorem fir_in {M : Int → Int} {a v : Int} (h : 0 ≤ M 1 ∧ M 1 ≤ 7) : inI (if isK M a ∧ 1 ≤ v ∧ v ≤ 1000000000000 then fiM M a.toNat v else -2) := by
  have := fiL_b (M := M) (e := a.toNat) (v := v) ((M 1).toNat + 1) 0
  unfold fiM
  split <;> omega
