/-! idle(), blank() -/
def cnE (M : Int → Int) (e : Nat) : Nat := (M (198 + (e : Int))).toNat
def idE (M : Int → Int) (e : Nat) : Nat := sm (cnE M e) (idF M e)
theorem e_id17 {S : St} (h : Cor S) : ∀ (d e f v : Nat), (e : Int) + d = S 84 0 → d < f → mX11_idle_17 S f (e : Int) (v : Int) = some ((v + sm d (fun i => idE (S 84) (e + i)) : Nat) : Int) := by
  have w := h.wf
  have hM0 := w.1
  have g := h.gm.1.2.1
  intro d
  induction d with
  | zero =>
    intro e f v he hf
    obtain ⟨g', rfl⟩ : ∃ g, f = g + 1 := ⟨f - 1, by omega⟩
    rw [mX11_idle_17, g, gd_t (by omega), if_pos (by omega), sm_0]
    rfl
  | succ d ih =>
    intro e f v he hf
    obtain ⟨g', rfl⟩ : ∃ g, f = g + 1 := ⟨f - 1, by omega⟩
    have oe := w.2.2.2.2.1 e (by omega)
    obtain ⟨x, x1, x2⟩ := e_id30 h (e := e) (by omega) (S 84 (198 + (e : Int))).toNat 0 FU v (by have := oe.1; omega) (by have := oe.1; unfold FU; omega)
    have r := ih (e + 1) g' x (by omega) (by omega)
    rw [show ((e + 1 : Nat) : Int) = (e : Int) + 1 by omega] at r
    rw [mX11_idle_17, g, gd_t (by omega), if_neg (by omega), bd1_e (show mX11_idle_30 S (e : Int) FU 0 (v : Int) = _ from x2), r, sm_split]
    have q : sm d (fun i => idE (S 84) (e + 1 + i)) = sm d (fun i => idE (S 84) (e + (i + 1))) := sm_congr fun i _ => by rw [show e + (i + 1) = e + 1 + i by omega]
    have q2 : x = v + idE (S 84) e := by
      rw [x1]
      unfold idE cnE
      rw [sm_congr (g := idF (S 84) e) (fun i _ => by rw [Nat.zero_add])]
    show some ((x + sm d (fun i => idE (S 84) (e + 1 + i)) : Nat) : Int) = some ((v + (idE (S 84) e + sm d (fun i => idE (S 84) (e + (i + 1)))) : Nat) : Int)
    rw [q, q2, Nat.add_assoc]
theorem e_id75 {T : St} {M : Int → Int} (h : WF M) (hk : ∀ e t n : Nat, (e : Int) < M 0 → (t : Int) < M (198 + (e : Int)) → n ≤ 7 → byM M e t n ≤ 1000000000000) (hT : cnt M (-1) T) {e t : Nat} {a b : Int} : ∀ (d n f : Nat), (n : Int) + d = M 1 + 1 → d < f → mX12_idle_75 T (t : Int) (e : Int) a b f (n : Int) 0 = some 0 ∧ ((e : Int) < M 0 → (t : Int) < M (198 + (e : Int)) → mX12_idle_75 T (t : Int) (e : Int) a b f (n : Int) 1 = some (if nvr M e t d n then 1 else 0)) := by
  have hM1 := h.2.1
  have g : T 84 1 = M 1 := by rw [hT.1]
  intro d
  induction d with
  | zero =>
    intro n f hn hf
    obtain ⟨g', rfl⟩ : ∃ g, f = g + 1 := ⟨f - 1, by omega⟩
    refine ⟨?_, fun _ _ => ?_⟩
    · rw [mX12_idle_75, g, gd_t (by omega), if_pos (by omega)]
    · rw [mX12_idle_75, g, gd_t (by omega), if_pos (by omega)]
      rfl
  | succ d ih =>
    intro n f hn hf
    obtain ⟨g', rfl⟩ : ∃ g, f = g + 1 := ⟨f - 1, by omega⟩
    obtain ⟨r0, r1⟩ := ih (n + 1) g' (by omega) (by omega)
    rw [show ((n + 1 : Nat) : Int) = (n : Int) + 1 by omega] at r0 r1
    refine ⟨?_, fun he ht => ?_⟩
    · rw [mX12_idle_75, g, gd_t (by omega), if_neg (by omega), gd_t (by decide), if_pos rfl]
    · have bl := hk e t n he ht (by omega)
      rw [mX12_idle_75, g, gd_t (by omega), if_neg (by omega), gd_t (by decide), if_neg (by decide), bd1_e (e_byTermF h hT he ht (by omega)), gd_t (by omega)]
      by_cases c : byM M e t n = 0
      · rw [if_pos (by omega), r1 he ht]
        have : nvr M e t (d + 1) n = nvr M e t d (n + 1) := by
          show (byM M e t n == 0 && nvr M e t d (n + 1)) = _
          rw [c]; rfl
        rw [this]
      · rw [if_neg (by omega), r0]
        have : nvr M e t (d + 1) n = false := by
          show (byM M e t n == 0 && nvr M e t d (n + 1)) = _
          rw [beq_eq_false_iff_ne.mpr c]; rfl
        rw [this]; rfl
theorem e_id21 {S T : St} (h : Cor S) (hT : cnt (S 84) (-1) T) : ∀ (d c f v : Nat), (c : Int) + d = S 84 0 * 10 → d < f → mX12_idle_21 T f (c : Int) (v : Int) = some ((v + sm d (fun i => idF (S 84) ((c + i) / 10) ((c + i) % 10)) : Nat) : Int) := by
  have w := h.wf
  have hM0 := w.1
  have hM1 := w.2.1
  have g : T 84 0 = S 84 0 := by rw [hT.1]
  intro d
  induction d with
  | zero =>
    intro c f v hc hf
    obtain ⟨g', rfl⟩ : ∃ g, f = g + 1 := ⟨f - 1, by omega⟩
    rw [mX12_idle_21, g, gd_t (by omega), if_pos (by omega), sm_0]
    rfl
  | succ d ih =>
    intro c f v hc hf
    obtain ⟨g', rfl⟩ : ∃ g, f = g + 1 := ⟨f - 1, by omega⟩
    have sp : sm (d + 1) (fun i => idF (S 84) ((c + i) / 10) ((c + i) % 10)) = idF (S 84) (c / 10) (c % 10) + sm d (fun i => idF (S 84) ((c + 1 + i) / 10) ((c + 1 + i) % 10)) := by
      rw [sm_split]
      exact congrArg (idF (S 84) (c / 10) (c % 10) + ·) (sm_congr fun i _ => by rw [show c + (i + 1) = c + 1 + i by omega])
    have d1 : (c : Int) / 10 = ((c / 10 : Nat) : Int) := by omega
    have d2 : (c : Int) % 10 = ((c % 10 : Nat) : Int) := by omega
    have ke : ((c / 10 : Nat) : Int) < S 84 0 := by omega
    have oe := w.2.2.2.2.1 (c / 10) ke
    have it := e_isTerm h hT.1 (a := ((c / 10 : Nat) : Int)) (b := ((c % 10 : Nat) : Int)) (by omega) (by omega)
    have io := e_isOff (S := T) (e := c / 10) (t := c % 10) (by rw [hT.1]; exact w) (by omega) (by omega)
    rw [hT.1] at io
    obtain ⟨z0, z1⟩ := e_id75 w (fun e t n a b c => h.ble a b c) hT (e := c / 10) (t := c % 10) (a := (c : Int)) (b := (v : Int)) ((S 84 1).toNat + 1) 0 FU (by omega) (by unfold FU; omega)
    have zz : (gd (inI (if isT (S 84) ((c / 10 : Nat) : Int) ((c % 10 : Nat) : Int) then 1 else 0)) <| if (if isT (S 84) ((c / 10 : Nat) : Int) ((c % 10 : Nat) : Int) then (1 : Int) else 0) = 0 then (some (0 : Int)) else (bd1 (mX12_isOff T ((c / 10 : Nat) : Int) ((c % 10 : Nat) : Int)) fun r_46 => gd (inI r_46) <| if r_46 = 0 then (some (1)) else (some (0)))) = some (if isT (S 84) ((c / 10 : Nat) : Int) ((c % 10 : Nat) : Int) ∧ offM (S 84) (c / 10) (c % 10) = false then 1 else 0) := by
      by_cases x : isT (S 84) ((c / 10 : Nat) : Int) ((c % 10 : Nat) : Int)
      · rw [if_pos x, gd_t (by decide), if_neg (by decide), bd1_e io]
        cases ho : offM (S 84) (c / 10) (c % 10) with
        | true => rw [if_pos (show true = true from rfl), gd_t (by decide), if_neg (by decide), if_neg (fun y => by cases y.2)]
        | false => rw [if_neg (by decide), gd_t (by decide), if_pos rfl, if_pos ⟨x, rfl⟩]
      · rw [if_neg x, gd_t (by decide), if_pos rfl, if_neg (fun y => x y.1)]
    have y25 : mX12_idle_75 T ((c % 10 : Nat) : Int) ((c / 10 : Nat) : Int) (c : Int) (v : Int) FU 0 (if isT (S 84) ((c / 10 : Nat) : Int) ((c % 10 : Nat) : Int) ∧ offM (S 84) (c / 10) (c % 10) = false then 1 else 0) = some ((idF (S 84) (c / 10) (c % 10) : Nat) : Int) := by
      unfold idF
      by_cases x : isT (S 84) ((c / 10 : Nat) : Int) ((c % 10 : Nat) : Int) ∧ offM (S 84) (c / 10) (c % 10) = false
      · rw [if_pos x, show mX12_idle_75 T ((c % 10 : Nat) : Int) ((c / 10 : Nat) : Int) (c : Int) (v : Int) FU 0 1 = _ from z1 ke x.1.2.2]
        cases hv : nvr (S 84) (c / 10) (c % 10) ((S 84 1).toNat + 1) 0 with
        | true => rw [if_pos (show true = true from rfl), if_pos ⟨x.1.2.2, x.2, rfl⟩]; rfl
        | false => rw [if_neg (by decide), if_neg (fun y => by cases y.2.2)]; rfl
      · rw [if_neg x, show mX12_idle_75 T ((c % 10 : Nat) : Int) ((c / 10 : Nat) : Int) (c : Int) (v : Int) FU 0 0 = _ from z0, if_neg (fun y => x ⟨⟨⟨by omega, ke⟩, by omega, y.1⟩, y.2.1⟩)]
        rfl
    have il := idF_le (M := S 84) (e := c / 10) (t := c % 10)
    rw [mX12_idle_21, g, gd_t (by omega), if_neg (by omega), gd_t (by omega), nx_e, nx_e, d1, d2, bd1_e it, bd1_e zz, bd1_e y25, gd_t (by omega), sp]
    by_cases c0 : idF (S 84) (c / 10) (c % 10) = 0
    · have r := ih (c + 1) g' v (by omega) (by omega)
      rw [show ((c + 1 : Nat) : Int) = (c : Int) + 1 by omega] at r
      rw [if_pos (by omega), nx_e, Int.add_zero, r, c0]
      congr 2
      omega
    · have r := ih (c + 1) g' (v + 1) (by omega) (by omega)
      rw [show ((c + 1 : Nat) : Int) = (c : Int) + 1 by omega, show ((v + 1 : Nat) : Int) = (v : Int) + 1 by omega] at r
      rw [if_neg (by omega), nx_e, r, show idF (S 84) (c / 10) (c % 10) = 1 by omega]
      congr 2
      omega
theorem sm_add {f : Nat → Nat} {a : Nat} : ∀ b, sm (a + b) f = sm a f + sm b (fun i => f (a + i)) := by
  intro b
  induction b with
  | zero => rw [sm_0, Nat.add_zero, Nat.add_zero]
  | succ b ih => rw [show a + (b + 1) = a + b + 1 by omega, sm_s, ih, sm_s, Nat.add_assoc]
theorem sm_ten {g : Nat → Nat → Nat} : ∀ a, sm (a * 10) (fun c => g (c / 10) (c % 10)) = sm a (fun e => sm 10 (g e)) := by
  intro a
  induction a with
  | zero => rw [Nat.zero_mul, sm_0, sm_0]
  | succ a ih =>
    have q : sm 10 (fun i => g ((a * 10 + i) / 10) ((a * 10 + i) % 10)) = sm 10 (g a) := sm_congr fun i hi => by
      rw [show (a * 10 + i) / 10 = a by omega, show (a * 10 + i) % 10 = i by omega]
    rw [show (a + 1) * 10 = a * 10 + 10 by omega, sm_add, ih, q, sm_s (n := a)]
theorem s_idle {S : St} (h : Cor S) (h3 : 0 ≤ S 84 3 ∧ S 84 3 ≤ 25) : ∃ (r : Int) (S' : St), mX11_idle S = some r ∧ mX12_idle S = some (r, S') ∧ inI r ∧ kept [90, 91, 92] [] S S' := by
  have w := h.wf
  have hM0 := w.1
  have g := h.gm.1.2.2.1
  unfold mX11_idle mX12_idle
  by_cases c : S 84 3 = 0
  · refine ⟨-2, S, ?_, ?_, by omega, kept.rf⟩
    · rw [g, gd_t (by omega), if_pos c]
    · rw [gd_t (by omega), if_pos c]
  · obtain ⟨S', s1, s2, s3⟩ := h.cnt (l := -1) (by decide) rfl
    have a := e_id17 h (S 84 0).toNat 0 FU 0 (by omega) (by unfold FU; omega)
    have b := e_id21 h s2 ((S 84 0).toNat * 10) 0 FU 0 (by omega) (by unfold FU; omega)
    have eq : sm ((S 84 0).toNat * 10) (fun i => idF (S 84) ((0 + i) / 10) ((0 + i) % 10)) = sm (S 84 0).toNat (fun i => idE (S 84) (0 + i)) := by
      rw [sm_congr (g := fun c => idF (S 84) (c / 10) (c % 10)) (fun i _ => by rw [Nat.zero_add]), sm_ten]
      refine sm_congr fun e he => ?_
      rw [Nat.zero_add]
      unfold idE
      refine sm_cut (x := cnE (S 84) e) (by have := (w.2.2.2.2.1 e (by omega)).1; unfold cnE; omega) (fun t a b => ?_)
      unfold idF
      rw [if_neg (fun y => by unfold cnE at a; omega)]
    rw [eq] at b
    have le : sm (S 84 0).toNat (fun i => idE (S 84) (0 + i)) ≤ (S 84 0).toNat * 10 := sm_le fun i hi => by
      unfold idE
      have := sm_le (n := cnE (S 84) (0 + i)) (B := 1) (f := idF (S 84) (0 + i)) (fun _ _ => idF_le)
      have := (w.2.2.2.2.1 (0 + i) (by omega)).1
      unfold cnE at *
      omega
    refine ⟨((0 + sm (S 84 0).toNat (fun i => idE (S 84) (0 + i)) : Nat) : Int), S', ?_, ?_, ?_, s3⟩
    · rw [g, gd_t (by omega), if_neg c, bd1_e (show mX11_idle_17 S FU 0 0 = _ from a)]
    · rw [gd_t (by omega), if_neg c, bd1_e s1, bd1_e (show mX12_idle_21 S' FU 0 0 = _ from b)]
    · omega
def blL (M : Int → Int) : Nat → Nat → Nat → Nat
  | 0, _, v => v
  | d + 1, e, v => blL M d (e + 1) (if bx M e 0 (M 1).toNat = 0 then v ||| 2 ^ e else v)
theorem bw_z {M : Int → Int} {e : Nat} : ∀ d n v, bwL M e d n v = 0 ↔ v = 0 ∧ ∀ i, i < d → kM M e (n + i) = 0 := by
  intro d
  induction d with
  | zero => intro n v; exact ⟨fun x => ⟨x, fun i hi => by omega⟩, fun x => x.1⟩
  | succ d ih =>
    intro n v
    show bwL M e d (n + 1) (min 1000000000000 (v + kM M e n)) = 0 ↔ _
    rw [ih]
    constructor
    · intro ⟨a, b⟩
      refine ⟨by omega, fun i hi => ?_⟩
      by_cases c : i = 0
      · rw [c, Nat.add_zero]; omega
      · have := b (i - 1) (by omega)
        rw [show n + 1 + (i - 1) = n + i by omega] at this
        exact this
    · intro ⟨a, b⟩
      have := b 0 (by omega)
      rw [Nat.add_zero] at this
      refine ⟨by omega, fun i hi => ?_⟩
      have := b (i + 1) (by omega)
      rw [show n + (i + 1) = n + 1 + i by omega] at this
      exact this
theorem fi_z {M : Int → Int} {e : Nat} : ∀ d n, fiL M e 1 d n = -1 ↔ ∀ i, i < d → kM M e (n + i) = 0 := by
  intro d
  induction d with
  | zero => intro n; exact ⟨fun _ i hi => by omega, fun _ => rfl⟩
  | succ d ih =>
    intro n
    show (if 1 ≤ ((kM M e n : Nat) : Int) then (n : Int) else fiL M e 1 d (n + 1)) = -1 ↔ _
    by_cases c : kM M e n = 0
    · rw [if_neg (by omega), ih]
      constructor
      · intro b i hi
        by_cases c' : i = 0
        · rw [c', Nat.add_zero]; exact c
        · have := b (i - 1) (by omega)
          rw [show n + 1 + (i - 1) = n + i by omega] at this
          exact this
      · intro b i hi
        have := b (i + 1) (by omega)
        rw [show n + (i + 1) = n + 1 + i by omega] at this
        exact this
    · rw [if_pos (by omega)]
      constructor
      · intro x; omega
      · intro x
        have := x 0 (by omega)
        rw [Nat.add_zero] at this
        exact absurd this c
theorem c_least {S : St} (h : Cor S) {a : Int} (ha : inI a) : mX11_least S a = some (if isK (S 84) a ∧ (1 : Int) ≤ 1 ∧ (1 : Int) ≤ 1000000000000 then fiM (S 84) a.toNat 1 else -2) := by
  unfold mX11_least
  rw [bd1_e (c_first h ha (v := 1) (by decide))]
theorem s_least {S : St} (h : Cor S) {a : Int} (ha : inI a) : ∃ (r : Int) (S' : St), mX11_least S a = some r ∧ mX12_least S a = some (r, S') ∧ inI r ∧ kept [90, 91, 92] [] S S' := by
  obtain ⟨S', s1, s2⟩ := f_first h ha (v := 1) (by decide)
  refine ⟨_, S', c_least h ha, ?_, fir_in h.wf.2.1, s2⟩
  unfold mX12_least
  rw [bd2_e s1]
theorem s_first {S : St} (h : Cor S) {a v : Int} (ha : inI a) (hv : inL v) : ∃ (r : Int) (S' : St), mX11_first S a v = some r ∧ mX12_first S a v = some (r, S') ∧ inI r ∧ kept [90, 91, 92] [] S S' := by
  obtain ⟨S', s1, s2⟩ := f_first h ha hv
  exact ⟨_, S', c_first h ha hv, s1, fir_in h.wf.2.1, s2⟩
theorem blL_lt {M : Int → Int} : ∀ d e v, e + d ≤ 6 → v < 64 → blL M d e v < 64 := by
  intro d
  induction d with
  | zero => intro e v _ hv; exact hv
  | succ d ih =>
    intro e v he hv
    refine ih (e + 1) _ (by omega) ?_
    split
    · exact Nat.or_lt_two_pow (n := 6) hv (Nat.pow_lt_pow_right (by omega) (by omega))
    · exact hv
theorem or_e {v e : Nat} (hv : v < 64) (he : e < 6) : orr (v : Int) (shl 1 (e : Int)) = ((v ||| 2 ^ e : Nat) : Int) := by
  have p : (2 : Nat) ^ e < 2 ^ 6 := Nat.pow_lt_pow_right (by omega) (by omega)
  rw [shl1 (by omega), orr_nat (by omega) (by omega)]
theorem e_bl17 {S : St} (h : Cor S) : ∀ (d e f v : Nat), (e : Int) + d = S 84 0 → d < f → v < 64 → mX11_blank_17 S f (e : Int) (v : Int) = some ((blL (S 84) d e v : Nat) : Int) := by
  have w := h.wf
  have hM0 := w.1
  have hM1 := w.2.1
  have g := h.gm.1.2.1
  intro d
  induction d with
  | zero =>
    intro e f v he hf hv
    obtain ⟨g', rfl⟩ : ∃ g, f = g + 1 := ⟨f - 1, by omega⟩
    rw [mX11_blank_17, g, gd_t (by omega), if_pos (by omega)]
    rfl
  | succ d ih =>
    intro e f v he hf hv
    obtain ⟨g', rfl⟩ : ∃ g, f = g + 1 := ⟨f - 1, by omega⟩
    have fi := fir_in (M := S 84) (a := (e : Int)) (v := 1) hM1
    have cl := c_least h (a := (e : Int)) (by omega)
    rw [if_pos (by omega)] at fi cl
    have p : (2 : Nat) ^ e < 2 ^ 6 := Nat.pow_lt_pow_right (by omega) (by omega)
    have zz : fiM (S 84) (e : Int).toNat 1 = -1 ↔ bx (S 84) e 0 (S 84 1).toNat = 0 := by
      unfold fiM bx
      rw [fi_z, bw_z, show ((e : Int)).toNat = e from rfl]
      exact ⟨fun x => ⟨rfl, x⟩, fun x => x.2⟩
    rw [mX11_blank_17, g, gd_t (by omega), if_neg (by omega), bd1_e cl, gd_t fi]
    show _ = some ((blL (S 84) d (e + 1) (if bx (S 84) e 0 (S 84 1).toNat = 0 then v ||| 2 ^ e else v) : Nat) : Int)
    by_cases c : bx (S 84) e 0 (S 84 1).toNat = 0
    · have r := ih (e + 1) g' (v ||| 2 ^ e) (by omega) (by omega) (Nat.or_lt_two_pow (n := 6) hv p)
      rw [show ((e + 1 : Nat) : Int) = (e : Int) + 1 by omega] at r
      rw [if_pos (zz.mpr c), if_pos c, nx_e, or_e hv (by omega), r]
    · have r := ih (e + 1) g' v (by omega) (by omega) hv
      rw [show ((e + 1 : Nat) : Int) = (e : Int) + 1 by omega] at r
      rw [if_neg (fun x => c (zz.mp x)), if_neg c, r]
theorem e_bl21 {S T : St} (h : Cor S) (hT : cnt (S 84) (-1) T) : ∀ (d e f v : Nat), (e : Int) + d = S 84 0 → d < f → v < 64 → mX12_blank_21 T f (e : Int) (v : Int) = some ((blL (S 84) d e v : Nat) : Int) := by
  have w := h.wf
  have hM0 := w.1
  have hM1 := w.2.1
  have g : T 84 0 = S 84 0 := by rw [hT.1]
  have g1 : T 84 1 = (((S 84 1).toNat : Nat) : Int) := by rw [hT.1]; omega
  intro d
  induction d with
  | zero =>
    intro e f v he hf hv
    obtain ⟨g', rfl⟩ : ∃ g, f = g + 1 := ⟨f - 1, by omega⟩
    rw [mX12_blank_21, g, gd_t (by omega), if_pos (by omega)]
    rfl
  | succ d ih =>
    intro e f v he hf hv
    obtain ⟨g', rfl⟩ : ∃ g, f = g + 1 := ⟨f - 1, by omega⟩
    have p : (2 : Nat) ^ e < 2 ^ 6 := Nat.pow_lt_pow_right (by omega) (by omega)
    have u := e_upTo h hT (e := e) (lo := 0) (hi := (S 84 1).toNat) (by omega) (by omega) (by omega)
    have bl := bx_le (M := S 84) (e := e) (lo := 0) (hi := (S 84 1).toNat)
    rw [mX12_blank_21, g, gd_t (by omega), if_neg (by omega), g1, bd1_e (show mX12_upTo T (e : Int) 0 (((S 84 1).toNat : Nat) : Int) = _ from u), gd_t (by omega)]
    show _ = some ((blL (S 84) d (e + 1) (if bx (S 84) e 0 (S 84 1).toNat = 0 then v ||| 2 ^ e else v) : Nat) : Int)
    by_cases c : bx (S 84) e 0 (S 84 1).toNat = 0
    · have r := ih (e + 1) g' (v ||| 2 ^ e) (by omega) (by omega) (Nat.or_lt_two_pow (n := 6) hv p)
      rw [show ((e + 1 : Nat) : Int) = (e : Int) + 1 by omega] at r
      rw [if_pos (by omega), if_pos c, nx_e, or_e hv (by omega), r]
    · have r := ih (e + 1) g' v (by omega) (by omega) hv
      rw [show ((e + 1 : Nat) : Int) = (e : Int) + 1 by omega] at r
      rw [if_neg (by omega), if_neg c, nx_e, or_0 (by omega), r]
theorem s_blank {S : St} (h : Cor S) (h3 : 0 ≤ S 84 3 ∧ S 84 3 ≤ 25) : ∃ (r : Int) (S' : St), mX11_blank S = some r ∧ mX12_blank S = some (r, S') ∧ inI r ∧ kept [90, 91, 92] [] S S' := by
  have w := h.wf
  have hM0 := w.1
  have g := h.gm.1.2.2.1
  unfold mX11_blank mX12_blank
  by_cases c : S 84 3 = 0
  · refine ⟨-2, S, ?_, ?_, by omega, kept.rf⟩
    · rw [g, gd_t (by omega), if_pos c]
    · rw [gd_t (by omega), if_pos c]
  · obtain ⟨S', s1, s2, s3⟩ := h.cnt (l := -1) (by decide) rfl
    have lt := blL_lt (M := S 84) (S 84 0).toNat 0 0 (by omega) (by omega)
    refine ⟨((blL (S 84) (S 84 0).toNat 0 0 : Nat) : Int), S', ?_, ?_, by omega, s3⟩
    · rw [g, gd_t (by omega), if_neg c, bd1_e (show mX11_blank_17 S FU 0 0 = _ from e_bl17 h (S 84 0).toNat 0 FU 0 (by omega) (by unfold FU; omega) (by omega))]
    · rw [gd_t (by omega), if_neg c, bd1_e s1, bd1_e (show mX12_blank_21 S' FU 0 0 = _ from e_bl21 h s2 (S 84 0).toNat 0 FU 0 (by omega) (by unfold FU; omega) (by omega))]
