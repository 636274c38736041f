/-! bits of a box; drawn numbers; where a number is -/
theorem lsh_1 {b : Nat} (hb : b < 54) : lsh 1 (b : Int) = ((2 ^ b : Nat) : Int) := lsh1 hb
theorem e_bits {k : Nat} (hk : k ≤ 2 ^ 20) : ∀ d b f : Nat, b + d = 20 → d < f → (∀ j, j < b → 2 ^ j < k) → ∃ y : Nat, y ≤ 20 ∧ mX1_bitsFor_2 (k : Int) f (b : Int) = some (y : Int) ∧ mX12_bitsFor_2 (k : Int) f (b : Int) = some (y : Int) ∧ k ≤ 2 ^ y ∧ ∀ j, j < y → 2 ^ j < k := by
  intro d
  induction d with
  | zero =>
    intro b f hb hf hj
    obtain ⟨g, rfl⟩ : ∃ g, f = g + 1 := ⟨f - 1, by omega⟩
    have e : b = 20 := by omega
    subst e
    have k' : k ≤ 1048576 := hk
    refine ⟨20, by omega, ?_, ?_, hk, hj⟩
    · rw [mX1_bitsFor_2, gd_t (by omega), if_neg (by omega), lsh_1 (by omega), gd_t (by omega), if_pos (by omega)]
    · rw [mX12_bitsFor_2, lsh_1 (by omega), gd_t (by omega), if_pos (by omega)]
  | succ d ih =>
    intro b f hb hf hj
    obtain ⟨g, rfl⟩ : ∃ g, f = g + 1 := ⟨f - 1, by omega⟩
    have k' : k ≤ 1048576 := hk
    have p : (2 : Nat) ^ b ≤ 2 ^ 20 := Nat.pow_le_pow_right (by omega) (by omega)
    have p' : (2 : Nat) ^ b ≤ 1048576 := p
    have p0 : 0 < (2 : Nat) ^ b := Nat.two_pow_pos b
    by_cases c : k ≤ 2 ^ b
    · refine ⟨b, by omega, ?_, ?_, c, hj⟩
      · rw [mX1_bitsFor_2, gd_t (by omega), if_neg (by omega), lsh_1 (by omega), gd_t (by omega), if_pos (by omega)]
      · rw [mX12_bitsFor_2, lsh_1 (by omega), gd_t (by omega), if_pos (by omega)]
    · obtain ⟨y, y1, y2, y3, y4⟩ := ih (b + 1) g (by omega) (by omega) (fun j hj' => by
        by_cases e : j = b
        · rw [e]; omega
        · exact hj j (by omega))
      rw [show ((b + 1 : Nat) : Int) = (b : Int) + 1 by omega] at y2 y3
      refine ⟨y, y1, ?_, ?_, y4⟩
      · rw [mX1_bitsFor_2, gd_t (by omega), if_neg (by omega), lsh_1 (by omega), gd_t (by omega), if_neg (by omega)]; exact y2
      · rw [mX12_bitsFor_2, lsh_1 (by omega), gd_t (by omega), if_neg (by omega)]; exact y3
theorem e_bitsFor {k : Nat} (hk : k ≤ 1000000) : ∃ y : Nat, y ≤ 20 ∧ mX1_bitsFor (k : Int) = some (y : Int) ∧ mX12_bitsFor (k : Int) = some (y : Int) ∧ k ≤ 2 ^ y ∧ ∀ j, j < y → 2 ^ j < k := by
  obtain ⟨y, y1, y2, y3, y4⟩ := e_bits (k := k) (by have : (2 : Nat) ^ 20 = 1048576 := rfl; omega) 20 0 FU (by omega) (by unfold FU; omega) (fun j hj => by omega)
  refine ⟨y, y1, ?_, ?_, y4⟩
  · unfold mX1_bitsFor
    rw [bd1_e (show mX1_bitsFor_2 (k : Int) FU 0 = _ from y2)]
  · unfold mX12_bitsFor
    rw [bd1_e (show mX12_bitsFor_2 (k : Int) FU 0 = _ from y3)]
theorem f_inBox {S : St} (h : Cor S) {a b c : Int} {most : Nat} (hm : most ≤ 1000000) (ha : inI a) (hb : inI b) (hc : inI c) : ∃ S' : St, mX12_inBox S a b c (most : Int) = some (if isB (S 84) a b c then (if bx (S 84) a.toNat b.toNat c.toNat ≤ most then (if bx (S 84) a.toNat b.toNat c.toNat = 0 then -1 else ((bx (S 84) a.toNat b.toNat c.toNat : Nat) : Int)) else -3) else -2, S') ∧ kept [90, 91, 92] [] S S' ∧ (isB (S 84) a b c → cnt (S 84) (-1) S') := by
  have hM1 := h.wf.2.1
  have ib := e_isBox h rfl ha hb hc
  by_cases x : isB (S 84) a b c
  · rw [if_pos x] at ib
    obtain ⟨S', s1, s2, s3⟩ := h.cnt (l := -1) (by decide) rfl
    have u := e_upTo h s2 (e := a.toNat) (lo := b.toNat) (hi := c.toNat) (by omega) (by omega) (by omega)
    rw [show ((a.toNat : Nat) : Int) = a by omega, show ((b.toNat : Nat) : Int) = b by omega, show ((c.toNat : Nat) : Int) = c by omega] at u
    have bl := bx_le (M := S 84) (e := a.toNat) (lo := b.toNat) (hi := c.toNat)
    refine ⟨S', ?_, s3, fun _ => s2⟩
    unfold mX12_inBox
    rw [bd1_e ib, gd_t (by decide), if_neg (by decide), bd1_e s1, bd1_e u, gd_t (by omega), gd_t (by omega), if_pos x]
    by_cases y : bx (S 84) a.toNat b.toNat c.toNat ≤ most
    · rw [if_pos (by omega), if_pos y]
      by_cases z : bx (S 84) a.toNat b.toNat c.toNat = 0
      · rw [if_pos (by omega), if_pos z]
      · rw [if_neg (by omega), if_neg z]
    · rw [if_neg (by omega), if_neg y]
  · rw [if_neg x] at ib
    refine ⟨S, ?_, kept.rf, fun y => absurd y x⟩
    unfold mX12_inBox
    rw [bd1_e ib, gd_t (by decide), if_pos rfl, if_neg x]
theorem c_btw {S : St} (h : Cor S) {a b c : Int} (x : isB (S 84) a b c) : mX0_between_40 S a b c = some ((bx (S 84) a.toNat b.toNat c.toNat : Nat) : Int) := by
  have := e_between h (e := a.toNat) (lo := b.toNat) (hi := c.toNat) (by omega) (by omega) (by omega)
  rw [show ((a.toNat : Nat) : Int) = a by omega, show ((b.toNat : Nat) : Int) = b by omega, show ((c.toNat : Nat) : Int) = c by omega] at this
  exact this
theorem s_bits {S : St} (h : Cor S) {a b c : Int} (ha : inI a) (hb : inI b) (hc : inI c) : ∃ (r : Int) (S' : St), mX11_bits S a b c = some r ∧ mX12_bits S a b c = some (r, S') ∧ inI r ∧ kept [90, 91, 92] [] S S' := by
  obtain ⟨S', s1, s2, -⟩ := f_inBox h (most := 1000000) (by omega) ha hb hc
  have bo := e_boxy h ha hb hc
  unfold mX12_bits
  rw [bd2_e (show mX12_inBox S a b c 1000000 = _ from s1)]
  unfold mX11_bits
  by_cases x : isB (S 84) a b c
  · have bl := bx_le (M := S 84) (e := a.toNat) (lo := b.toNat) (hi := c.toNat)
    rw [if_pos x] at bo
    rw [bd1_e bo, gd_t (by decide), if_neg (by decide), bd1_e (c_btw h x), gd_t (by omega), if_pos x]
    by_cases y : bx (S 84) a.toNat b.toNat c.toNat ≤ 1000000
    · rw [if_pos (by omega), if_pos y]
      by_cases z : bx (S 84) a.toNat b.toNat c.toNat = 0
      · refine ⟨-1, S', by rw [if_pos (by omega)], by rw [if_pos z, gd_t (by decide), if_neg (by decide)], by omega, s2⟩
      · obtain ⟨w, w1, w2, w3, -⟩ := e_bitsFor y
        refine ⟨(w : Int), S', by rw [if_neg (by omega), bd1_e w2], by rw [if_neg z, gd_t (by omega), if_pos (by omega), bd1_e w3], by omega, s2⟩
    · refine ⟨-3, S', by rw [if_neg (by omega)], by rw [if_neg y, gd_t (by decide), if_neg (by decide)], by omega, s2⟩
  · rw [if_neg x] at bo
    refine ⟨-2, S', by rw [bd1_e bo, gd_t (by decide), if_pos rfl], by rw [if_neg x, gd_t (by decide), if_neg (by decide)], by omega, s2⟩
/-! sums, uncapped -/
def sN (M : Int → Int) (e d n : Nat) : Nat := sm d (fun i => kM M e (n + i))
theorem sN_s {M : Int → Int} {e d n : Nat} : sN M e (d + 1) n = kM M e n + sN M e d (n + 1) := by
  unfold sN
  rw [sm_split]
  exact congrArg (kM M e n + ·) (sm_congr fun i _ => by rw [show n + (i + 1) = n + 1 + i by omega])
theorem bw_sN {M : Int → Int} {e : Nat} : ∀ d n v, bwL M e d n v = if d = 0 then v else min 1000000000000 (v + sN M e d n) := by
  intro d
  induction d with
  | zero => intro n v; rw [if_pos rfl]; rfl
  | succ d ih =>
    intro n v
    show bwL M e d (n + 1) (min 1000000000000 (v + kM M e n)) = _
    rw [ih, if_neg (show ¬ d + 1 = 0 by omega), sN_s]
    by_cases c : d = 0
    · subst c
      rw [if_pos rfl]
      have : sN M e 0 (n + 1) = 0 := rfl
      omega
    · rw [if_neg c]; omega
theorem bx_sN {M : Int → Int} {e lo hi : Nat} (h : lo ≤ hi) (hb : bx M e lo hi < 1000000000000) : bx M e lo hi = sN M e (hi + 1 - lo) lo := by
  unfold bx at hb ⊢
  rw [bw_sN, if_neg (by omega)] at hb ⊢
  omega
/-- size and rank of a number -/
def psn (M : Int → Int) (e : Nat) : Nat → Nat → Nat → Nat × Nat
  | 0, n, k => (n, k)
  | d + 1, n, k => if k < kM M e n then (n, k) else psn M e d (n + 1) (k - kM M e n)
theorem psn_ok {M : Int → Int} {e : Nat} : ∀ d n k, k < sN M e d n → (n ≤ (psn M e d n k).1 ∧ (psn M e d n k).1 < n + d) ∧ (psn M e d n k).2 < kM M e (psn M e d n k).1 ∧ k = sN M e ((psn M e d n k).1 - n) n + (psn M e d n k).2 := by
  intro d
  induction d with
  | zero => intro n k hk; exact absurd hk (by unfold sN; rw [sm_0]; omega)
  | succ d ih =>
    intro n k hk
    rw [sN_s] at hk
    by_cases c : k < kM M e n
    · have e1 : psn M e (d + 1) n k = (n, k) := by
        show (if k < kM M e n then (n, k) else _) = _
        rw [if_pos c]
      rw [e1]
      refine ⟨by omega, c, ?_⟩
      show k = sN M e (n - n) n + k
      rw [Nat.sub_self]
      show k = 0 + k
      omega
    · have e1 : psn M e (d + 1) n k = psn M e d (n + 1) (k - kM M e n) := by
        show (if k < kM M e n then (n, k) else _) = _
        rw [if_neg c]
      rw [e1]
      obtain ⟨a, b, c2⟩ := ih (n + 1) (k - kM M e n) (by omega)
      refine ⟨by omega, b, ?_⟩
      generalize psn M e d (n + 1) (k - kM M e n) = q at a b c2
      have : sN M e (q.1 - n) n = kM M e n + sN M e (q.1 - (n + 1)) (n + 1) := by
        rw [show q.1 - n = (q.1 - (n + 1)) + 1 by omega, sN_s]
      omega
theorem e_sizeAt {S : St} (h : Cor S) {e : Nat} (he : (e : Int) < S 84 0) : ∀ (d n k f : Nat), (n : Int) + d ≤ S 84 1 + 1 → d < f → k < sN (S 84) e d n → k ≤ 1000000 → mX0_sizeAt_40_7 S (e : Int) f (n : Int) (k : Int) = some (((psn (S 84) e d n k).1 : Nat) : Int) := by
  have hM1 := h.wf.2.1
  have g := h.gm.1.1
  intro d
  induction d with
  | zero => intro n k f _ _ hk _; exact absurd hk (by unfold sN; rw [sm_0]; omega)
  | succ d ih =>
    intro n k f hn hf hk hm
    obtain ⟨g', rfl⟩ : ∃ g, f = g + 1 := ⟨f - 1, by omega⟩
    have hkl := h.kle he (n := n) (by omega)
    rw [sN_s] at hk
    rw [mX0_sizeAt_40_7, g, gd_t (by omega)]
    by_cases c : k < kM (S 84) e n
    · have e1 : psn (S 84) e (d + 1) n k = (n, k) := by
        show (if k < kM (S 84) e n then (n, k) else _) = _
        rw [if_pos c]
      rw [e1]
      by_cases z : S 84 1 ≤ (n : Int)
      · rw [if_pos z]
      · rw [if_neg z, bd1_e (e_thingsAt h he (by omega)), gd_t (by omega), if_pos (by omega)]
    · have e1 : psn (S 84) e (d + 1) n k = psn (S 84) e d (n + 1) (k - kM (S 84) e n) := by
        show (if k < kM (S 84) e n then (n, k) else _) = _
        rw [if_neg c]
      have dn : d ≠ 0 := fun w => by
        subst w
        have : sN (S 84) e 0 (n + 1) = 0 := rfl
        omega
      have r := ih (n + 1) (k - kM (S 84) e n) g' (by omega) (by omega) (by omega) (by omega)
      rw [show ((n + 1 : Nat) : Int) = (n : Int) + 1 by omega, show ((k - kM (S 84) e n : Nat) : Int) = (k : Int) - ((kM (S 84) e n : Nat) : Int) by omega] at r
      rw [e1, if_neg (by omega), bd1_e (e_thingsAt h he (by omega)), gd_t (by omega), if_neg (by omega), bd1_e (e_thingsAt h he (by omega)), nx_e, r]
theorem c_sizeAt {S : St} (h : Cor S) {e d n k : Nat} (he : (e : Int) < S 84 0) (hn : (n : Int) + d ≤ S 84 1 + 1) (hk : k < sN (S 84) e d n) (hm : k ≤ 1000000) : mX0_sizeAt_40 S (e : Int) (n : Int) (k : Int) = some (((psn (S 84) e d n k).1 : Nat) : Int) ∧ mX0_rankAt_40 S (e : Int) (n : Int) (k : Int) = some (((psn (S 84) e d n k).2 : Nat) : Int) := by
  have hM1 := h.wf.2.1
  have s : mX0_sizeAt_40 S (e : Int) (n : Int) (k : Int) = some (((psn (S 84) e d n k).1 : Nat) : Int) := by
    unfold mX0_sizeAt_40
    rw [gd_t (by omega), bd1_e (e_sizeAt h he d n k FU hn (by unfold FU; omega) hk hm)]
  refine ⟨s, ?_⟩
  obtain ⟨a, b, c⟩ := psn_ok d n k hk
  unfold mX0_rankAt_40
  rw [bd1_e s, gd_t (by omega)]
  generalize psn (S 84) e d n k = q at a b c
  by_cases z : q.1 ≤ n
  · rw [if_pos (by omega)]
    have : sN (S 84) e (q.1 - n) n = 0 := by
      rw [show q.1 - n = 0 by omega]; rfl
    rw [show k = q.2 by omega]
  · have bt := e_between h (e := e) (lo := n) (hi := q.1 - 1) he (by omega) (by omega)
    rw [show ((q.1 - 1 : Nat) : Int) = (q.1 : Int) - 1 by omega] at bt
    have e2 : bx (S 84) e n (q.1 - 1) = sN (S 84) e (q.1 - n) n := by
      unfold bx
      rw [bw_sN, if_neg (by omega), show q.1 - 1 + 1 - n = q.1 - n by omega]
      omega
    rw [if_neg (by omega), bd1_e bt, e2]
    congr 1
    omega
theorem f_rankIn {T : St} {M : Int → Int} (h : WF M) (hk' : ∀ n, n ≤ 7 → ∀ e : Nat, (e : Int) < M 0 → kM M e n ≤ 1000000000000) (hT : cnt M (-1) T) {e : Nat} (he : (e : Int) < M 0) : ∀ (d n k f : Nat), n + d ≤ 8 → d < f → k < sN M e d n → k ≤ 1000000 → mX12_rankIn_7 T (e : Int) f (k : Int) (n : Int) = some ((((psn M e d n k).1 : Nat) : Int), (((psn M e d n k).2 : Nat) : Int)) := by
  intro d
  induction d with
  | zero => intro n k f _ _ hk _; exact absurd hk (by unfold sN; rw [sm_0]; omega)
  | succ d ih =>
    intro n k f hn hf hk hm
    obtain ⟨g', rfl⟩ : ∃ g, f = g + 1 := ⟨f - 1, by omega⟩
    have hkl := hk' n (by omega) e he
    rw [sN_s] at hk
    rw [mX12_rankIn_7, bd1_e (e_kindMany h hT he (by omega)), gd_t (by omega)]
    by_cases c : k < kM M e n
    · have e1 : psn M e (d + 1) n k = (n, k) := by
        show (if k < kM M e n then (n, k) else _) = _
        rw [if_pos c]
      rw [e1, if_pos (by omega)]
    · have e1 : psn M e (d + 1) n k = psn M e d (n + 1) (k - kM M e n) := by
        show (if k < kM M e n then (n, k) else _) = _
        rw [if_neg c]
      have r := ih (n + 1) (k - kM M e n) g' (by omega) (by omega) (by omega) (by omega)
      rw [show ((n + 1 : Nat) : Int) = (n : Int) + 1 by omega, show ((k - kM M e n : Nat) : Int) = (k : Int) - ((kM M e n : Nat) : Int) by omega] at r
      rw [e1, if_neg (by omega), bd1_e (e_kindMany h hT he (by omega)), nx_e, r]
