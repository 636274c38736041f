/-! the reference: signs told one behind the other -/
def foF (x : Int) : List Int → Int → Int → Int
  | [], _, f => f
  | c :: w, l, f => foF x w (l + 1) (if l = x then c else f)
def spF : List Int → Int → (Int → Int) → (Int → Int)
  | [], _, g => g
  | c :: w, l, g => spF w (l + 1) (if 40 ≤ l then g else fun j => if j = l then c else g j)
def cnI (a : Int) : List Int → Nat
  | [] => 0
  | c :: w => (if c = a then 1 else 0) + cnI a w
theorem foF_app {x : Int} : ∀ (w u : List Int) (l f : Int), foF x (w ++ u) l f = foF x u (l + (w.length : Int)) (foF x w l f) := by
  intro w
  induction w with
  | nil => intro u l f; show foF x u l f = foF x u (l + ((0 : Nat) : Int)) f; rw [show l + ((0 : Nat) : Int) = l by omega]
  | cons c w ih =>
    intro u l f
    show foF x (w ++ u) (l + 1) _ = foF x u (l + (((c :: w).length : Nat) : Int)) (foF x w (l + 1) _)
    rw [ih, List.length_cons, show l + 1 + (w.length : Int) = l + ((w.length + 1 : Nat) : Int) by omega]
theorem spF_app : ∀ (w u : List Int) (l : Int) (g : Int → Int), spF (w ++ u) l g = spF u (l + (w.length : Int)) (spF w l g) := by
  intro w
  induction w with
  | nil => intro u l g; show spF u l g = spF u (l + ((0 : Nat) : Int)) g; rw [show l + ((0 : Nat) : Int) = l by omega]
  | cons c w ih =>
    intro u l g
    show spF (w ++ u) (l + 1) _ = spF u (l + (((c :: w).length : Nat) : Int)) (spF w (l + 1) _)
    rw [ih, List.length_cons, show l + 1 + (w.length : Int) = l + ((w.length + 1 : Nat) : Int) by omega]
theorem cnI_app {a : Int} : ∀ (w u : List Int), cnI a (w ++ u) = cnI a w + cnI a u := by
  intro w
  induction w with
  | nil => intro u; show cnI a u = 0 + cnI a u; omega
  | cons c w ih => intro u; show (if c = a then 1 else 0) + cnI a (w ++ u) = (if c = a then 1 else 0) + cnI a w + cnI a u; rw [ih]; omega
/-- what going through a thing does: its signs, by how many turns, how deep -/
def EF (T T' : St) (nest : Nat) (w : List Int) (t d : Nat) : Prop :=
  (T' 83 20 = T 83 20 + (w.length : Int) ∧ T' 83 22 = foF (T 83 21) w (T 83 20) (T 83 22) ∧ T' 96 = spF w (T 83 20) (T 96)) ∧
  (T' 83 23 = max (T 83 23) ((nest + d : Nat) : Int) ∧ T' 83 25 = T 83 25 + (cnI (97 + T 83 24) w : Int) ∧ T' 83 26 = T 83 26 * (t : Int)) ∧
  (T' 83 31 = T 83 31 ∧ ∀ j : Nat, (j : Int) < T 83 31 → T' 97 (j : Int) = T 97 (j : Int) ∧ T' 98 (j : Int) = T 98 (j : Int)) ∧
  kept [96, 97, 98] [(83, 20), (83, 22), (83, 23), (83, 25), (83, 26), (83, 31), (83, 32)] T T'
theorem EF.nil {T : St} {nest : Nat} (h : (nest : Int) ≤ T 83 23) : EF T T nest [] 1 0 := by
  refine ⟨⟨by show _ = _ + ((0 : Nat) : Int); omega, rfl, rfl⟩, ⟨by omega, by show _ = _ + ((0 : Nat) : Int); omega, by show _ = _ * ((1 : Nat) : Int); omega⟩, ⟨rfl, fun _ _ => ⟨rfl, rfl⟩⟩, kept.rf⟩
theorem EF.app {T U V : St} {nest : Nat} {w1 w2 : List Int} {t1 t2 d1 d2 : Nat} (h : EF T U nest w1 t1 d1) (k : EF U V nest w2 t2 d2) : EF T V nest (w1 ++ w2) (t1 * t2) (max d1 d2) := by
  obtain ⟨⟨a1, a2, a3⟩, ⟨a4, a5, a6⟩, ⟨a7, a8⟩, a9⟩ := h
  obtain ⟨⟨b1, b2, b3⟩, ⟨b4, b5, b6⟩, ⟨b7, b8⟩, b9⟩ := k
  have e21 : U 83 21 = T 83 21 := a9 83 21 (by decide) (by decide)
  have e24 : U 83 24 = T 83 24 := a9 83 24 (by decide) (by decide)
  refine ⟨⟨?_, ?_, ?_⟩, ⟨?_, ?_, ?_⟩, ⟨b7.trans a7, fun j hj => ?_⟩, a9.trans b9⟩
  · rw [b1, a1, List.length_append]; omega
  · rw [b2, e21, a1, a2, foF_app]
  · rw [b3, a1, a3, spF_app]
  · rw [b4, a4]; omega
  · rw [b5, e24, a5, cnI_app]; omega
  · rw [b6, a6, Int.natCast_mul, Int.mul_assoc]
  · have x := a8 j hj
    have y := b8 j (by rw [a7]; exact hj)
    exact ⟨y.1.trans x.1, y.2.trans x.2⟩
theorem EF.deep {T T' : St} {nest : Nat} {w : List Int} {t d : Nat} (h : EF T T' nest w t d) : (nest : Int) ≤ T' 83 23 := by rw [h.2.1.1]; omega
theorem e_signs {T : St} {l : Nat} {c : Int} (h : T 83 20 = (l : Int)) (hl : l ≤ 2000000000) (hx : inI (T 83 21)) : ∃ T', mX12_signs T c = some T' ∧ (T' 83 20 = (l : Int) + 1 ∧ T' 83 22 = (if (l : Int) = T 83 21 then c else T 83 22) ∧ T' 96 = (if 40 ≤ (l : Int) then T 96 else fun j => if j = (l : Int) then c else T 96 j)) ∧ kept [96] [(83, 20), (83, 22)] T T' := by
  unfold mX12_signs
  rw [h, gd_t ⟨by omega, hx⟩]
  have b1 : ∀ (X : Option St → Prop), True := fun _ => trivial
  obtain ⟨z, hz⟩ : ∃ z, z = (if (l : Int) = T 83 21 then c else T 83 22) := ⟨_, rfl⟩
  have e1 : (if (l : Int) = T 83 21 then some c else some (T 83 22)) = some z := by
    rw [hz]; split <;> rfl
  rw [bd1_e e1, nx_e, up_nk (by decide), h, gd_t (by omega)]
  by_cases y : 40 ≤ (l : Int)
  · rw [if_pos y, bd1_e (show (some (up T 83 22 z) : Option St) = some (up T 83 22 z) from rfl), nx_e, up_nk (by decide), h]
    refine ⟨_, rfl, ⟨by rw [up_eq], by rw [up_nk (by decide), up_eq, hz], ?_⟩, kept.upF (kept.upF kept.rf (by simp)) (by simp)⟩
    rw [if_pos y, up_n (by decide), up_n (by decide)]
  · rw [if_neg y, gd_t (by omega), nx_e, bd1_e (show (some (up (up T 83 22 z) 96 (l : Int) c) : Option St) = some _ from rfl), nx_e, up_n (by decide), up_nk (by decide), h]
    refine ⟨_, rfl, ⟨by rw [up_eq], by rw [up_nk (by decide), up_n (by decide), up_eq, hz], ?_⟩, kept.upF (kept.upA (kept.upF kept.rf (by simp)) (by simp)) (by simp)⟩
    rw [if_neg y, up_n (by decide)]
    funext j
    rw [up_if, up_n (by decide)]
/-- a sign that is no letter -/
theorem EF.sign {T : St} {l nest : Nat} {c : Int} (h : T 83 20 = (l : Int)) (hl : l ≤ 2000000000) (hx : inI (T 83 21)) (hd : (nest : Int) ≤ T 83 23) (ha : c ≠ 97 + T 83 24) : ∃ T', mX12_signs T c = some T' ∧ EF T T' nest [c] 1 0 := by
  obtain ⟨T', t1, ⟨t2, t3, t4⟩, t5⟩ := e_signs (c := c) h hl hx
  refine ⟨T', t1, ⟨by rw [t2, h]; rfl, by rw [t3, h]; rfl, by rw [t4, h]; rfl⟩, ⟨?_, ?_, ?_⟩, ⟨t5 83 31 (by decide) (by decide), fun j _ => ⟨by rw [t5.cell 97 (by decide) (by decide)], by rw [t5.cell 98 (by decide) (by decide)]⟩⟩, t5.mono (by simp) (by simp)⟩
  · rw [t5 83 23 (by decide) (by decide)]; omega
  · rw [t5 83 25 (by decide) (by decide)]
    show _ = _ + (((if c = 97 + T 83 24 then 1 else 0) + 0 : Nat) : Int)
    rw [if_neg ha]; omega
  · rw [t5 83 26 (by decide) (by decide)]
    show _ = _ * ((1 : Nat) : Int); omega
/-- an atom -/
theorem EF.atom {T : St} {l nest : Nat} {a : Int} (h : T 83 20 = (l : Int)) (hl : l ≤ 2000000000) (hx : inI (T 83 21)) (hd : (nest : Int) ≤ T 83 23) : ∃ T', mX12_signs (up T 83 25 (T 83 25 + (if a = T 83 24 then 1 else 0))) (97 + a) = some T' ∧ EF T T' nest [97 + a] 1 0 := by
  obtain ⟨U, hU⟩ : ∃ U, U = up T 83 25 (T 83 25 + (if a = T 83 24 then 1 else 0)) := ⟨_, rfl⟩
  have u : ∀ k : Int, k ≠ 25 → U 83 k = T 83 k := fun k hk => by rw [hU, up_nk hk]
  have uc : ∀ i, i ≠ 83 → U i = T i := fun i hi => by rw [hU, up_n hi]
  have u25 : U 83 25 = T 83 25 + (if a = T 83 24 then 1 else 0) := by rw [hU, up_eq]
  obtain ⟨T', t1, ⟨t2, t3, t4⟩, t5⟩ := e_signs (T := U) (c := 97 + a) ((u 20 (by decide)).trans h) hl (by rw [u 21 (by decide)]; exact hx)
  rw [u 21 (by decide), u 22 (by decide)] at t3
  rw [uc 96 (by decide)] at t4
  have k : kept [96] [(83, 20), (83, 22), (83, 25)] T T' := by
    have k1 : kept [96] [(83, 20), (83, 22), (83, 25)] T U := by rw [hU]; exact kept.upF kept.rf (by simp)
    exact k1.trans (t5.mono (by simp) (by simp))
  refine ⟨T', by rw [← hU]; exact t1, ⟨by rw [t2, h]; rfl, by rw [t3, h]; rfl, by rw [t4, h]; rfl⟩, ⟨?_, ?_, ?_⟩, ⟨k 83 31 (by decide) (by decide), fun j _ => ⟨by rw [k.cell 97 (by decide) (by decide)], by rw [k.cell 98 (by decide) (by decide)]⟩⟩, k.mono (by simp) (by simp)⟩
  · rw [k 83 23 (by decide) (by decide)]; omega
  · rw [t5 83 25 (by decide) (by decide), u25]
    show _ = _ + (((if 97 + a = 97 + T 83 24 then 1 else 0) + 0 : Nat) : Int)
    by_cases z : a = T 83 24
    · rw [if_pos z, if_pos (by omega)]; omega
    · rw [if_neg z, if_neg (by omega)]; omega
  · rw [k 83 26 (by decide) (by decide)]
    show _ = _ * ((1 : Nat) : Int); omega
theorem ch20 : mJ0_charAt_5068e tx20 0 = some 91 ∧ mJ0_charAt_5068e tx20 1 = some 123 ∧ mJ0_charAt_5068e tx20 2 = some 60 ∧ mJ0_charAt_5068e tx20 3 = some 40 := by decide +kernel
theorem ch21 : mJ0_charAt_5068e tx21 0 = some 93 ∧ mJ0_charAt_5068e tx21 1 = some 125 ∧ mJ0_charAt_5068e tx21 2 = some 62 ∧ mJ0_charAt_5068e tx21 3 = some 41 := by decide +kernel
