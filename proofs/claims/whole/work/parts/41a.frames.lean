/-! which cells, which fields stay as they are -/
def kept (L : List Nat) (F : List (Nat × Int)) (S T : St) : Prop := ∀ (i : Nat) (k : Int), i ∉ L → (i, k) ∉ F → T i k = S i k
theorem kept.rf {L : List Nat} {F : List (Nat × Int)} {S : St} : kept L F S S := fun _ _ _ _ => rfl
theorem kept.cell {L : List Nat} {F : List (Nat × Int)} {S T : St} (h : kept L F S T) (i : Nat) (h1 : i ∉ L) (h2 : i ∉ F.map Prod.fst) : T i = S i := funext fun k => h i k h1 fun q => h2 (List.mem_map.mpr ⟨(i, k), q, rfl⟩)
theorem kept.trans {L : List Nat} {F : List (Nat × Int)} {S T U : St} (h : kept L F S T) (k : kept L F T U) : kept L F S U := fun i q h1 h2 => (k i q h1 h2).trans (h i q h1 h2)
theorem kept.mono {L L' : List Nat} {F F' : List (Nat × Int)} {S T : St} (h : kept L F S T) (h1 : ∀ i ∈ L, i ∈ L') (h2 : ∀ i ∈ F, i ∈ F') : kept L' F' S T := fun i k n1 n2 => h i k (fun q => n1 (h1 i q)) (fun q => n2 (h2 _ q))
theorem kept.upA {L : List Nat} {F : List (Nat × Int)} {S T : St} {i : Nat} {k v : Int} (h : kept L F S T) (hi : i ∈ L) : kept L F S (up T i k v) := fun j q n1 n2 => (up_at (Or.inl (show j ≠ i from fun e => n1 (by rw [e]; exact hi)))).trans (h j q n1 n2)
theorem kept.upF {L : List Nat} {F : List (Nat × Int)} {S T : St} {i : Nat} {k v : Int} (h : kept L F S T) (hi : (i, k) ∈ F) : kept L F S (up T i k v) := fun j q n1 n2 => by
  refine Eq.trans (up_at ?_) (h j q n1 n2)
  by_cases e : j = i
  · exact Or.inr fun e2 => n2 (by rw [e, e2]; exact hi)
  · exact Or.inl e
theorem kept.cpy {L : List Nat} {F : List (Nat × Int)} {S T : St} {i j : Nat} {sp dp n : Int} (h : kept L F S T) (hj : j ∈ L) : kept L F S (cpyS T i j sp dp n) := fun q k n1 n2 => by
  refine Eq.trans ?_ (h q k n1 n2)
  unfold cpyS
  rw [if_neg (show ¬ q = j from fun e => n1 (by rw [e]; exact hj))]
def Fr {β : Type} (L : List Nat) (F : List (Nat × Int)) (pj : β → St) (S : St) (x : Option β) : Prop := ∀ q, x = some q → kept L F S (pj q)
section FRS
variable {β : Type} {L : List Nat} {F : List (Nat × Int)} {pj : β → St} {S : St}
theorem Fr_none : Fr L F pj S none := fun _ h => by cases h
theorem Fr_some {a : β} (h : kept L F S (pj a)) : Fr L F pj S (some a) := fun _ e => by cases e; exact h
theorem Fr_gd {c : Prop} [Decidable c] {x : Option β} (h : Fr L F pj S x) : Fr L F pj S (gd c x) := fun _ e => h _ (gd_some e).2
theorem Fr_if {c : Prop} [Decidable c] {x y : Option β} (h : Fr L F pj S x) (k : Fr L F pj S y) : Fr L F pj S (if c then x else y) := fun q e => by
  by_cases hc : c
  · rw [if_pos hc] at e; exact h q e
  · rw [if_neg hc] at e; exact k q e
theorem Fr_nxS {T : St} {f : St → Option β} (h : kept L F S T) (k : ∀ T, kept L F S T → Fr L F pj S (f T)) : Fr L F pj S (nx T f) := k T h
theorem Fr_nxI {v : Int} {f : Int → Option β} (k : ∀ v, Fr L F pj S (f v)) : Fr L F pj S (nx v f) := k v
theorem Fr.to {L' : List Nat} {F' : List (Nat × Int)} {S0 : St} {x : Option β} (h : Fr L F pj S x) (hk : kept L' F' S0 S) (h1 : ∀ i ∈ L, i ∈ L') (h2 : ∀ i ∈ F, i ∈ F') : Fr L' F' pj S0 x := fun q e => hk.trans ((h q e).mono h1 h2)
theorem Fr_bdS1 {x : Option (St)} {f : St → Option β} (h : Fr L F (fun o : St => o) S x) (k : ∀  (T : St), kept L F S T → Fr L F pj S (f  T)) : Fr L F pj S (bd1 x f) := fun q e => by
  obtain ⟨a1, h1, h2⟩ := bd1_some e
  exact k  a1 (h _ h1) q h2
theorem Fr_bdI1 {α1 : Type} {x : Option (α1)} {f : α1 → Option β} (k : ∀ a1, Fr L F pj S (f a1)) : Fr L F pj S (bd1 x f) := fun q e => by
  obtain ⟨a1, h1, h2⟩ := bd1_some e
  exact k a1 q h2
theorem Fr_bdS2 {α1 : Type} {x : Option (α1 × St)} {f : α1 → St → Option β} (h : Fr L F (fun o : α1 × St => o.2) S x) (k : ∀ a1 (T : St), kept L F S T → Fr L F pj S (f a1 T)) : Fr L F pj S (bd2 x f) := fun q e => by
  obtain ⟨a1, a2, h1, h2⟩ := bd2_some e
  exact k a1 a2 (h _ h1) q h2
theorem Fr_bdI2 {α1 α2 : Type} {x : Option (α1 × α2)} {f : α1 → α2 → Option β} (k : ∀ a1 a2, Fr L F pj S (f a1 a2)) : Fr L F pj S (bd2 x f) := fun q e => by
  obtain ⟨a1, a2, h1, h2⟩ := bd2_some e
  exact k a1 a2 q h2
theorem Fr_bdS3 {α1 α2 : Type} {x : Option (α1 × α2 × St)} {f : α1 → α2 → St → Option β} (h : Fr L F (fun o : α1 × α2 × St => o.2.2) S x) (k : ∀ a1 a2 (T : St), kept L F S T → Fr L F pj S (f a1 a2 T)) : Fr L F pj S (bd3 x f) := fun q e => by
  obtain ⟨a1, a2, a3, h1, h2⟩ := bd3_some e
  exact k a1 a2 a3 (h _ h1) q h2
theorem Fr_bdI3 {α1 α2 α3 : Type} {x : Option (α1 × α2 × α3)} {f : α1 → α2 → α3 → Option β} (k : ∀ a1 a2 a3, Fr L F pj S (f a1 a2 a3)) : Fr L F pj S (bd3 x f) := fun q e => by
  obtain ⟨a1, a2, a3, h1, h2⟩ := bd3_some e
  exact k a1 a2 a3 q h2
theorem Fr_bdS4 {α1 α2 α3 : Type} {x : Option (α1 × α2 × α3 × St)} {f : α1 → α2 → α3 → St → Option β} (h : Fr L F (fun o : α1 × α2 × α3 × St => o.2.2.2) S x) (k : ∀ a1 a2 a3 (T : St), kept L F S T → Fr L F pj S (f a1 a2 a3 T)) : Fr L F pj S (bd4 x f) := fun q e => by
  obtain ⟨a1, a2, a3, a4, h1, h2⟩ := bd4_some e
  exact k a1 a2 a3 a4 (h _ h1) q h2
theorem Fr_bdI4 {α1 α2 α3 α4 : Type} {x : Option (α1 × α2 × α3 × α4)} {f : α1 → α2 → α3 → α4 → Option β} (k : ∀ a1 a2 a3 a4, Fr L F pj S (f a1 a2 a3 a4)) : Fr L F pj S (bd4 x f) := fun q e => by
  obtain ⟨a1, a2, a3, a4, h1, h2⟩ := bd4_some e
  exact k a1 a2 a3 a4 q h2
theorem Fr_bdS5 {α1 α2 α3 α4 : Type} {x : Option (α1 × α2 × α3 × α4 × St)} {f : α1 → α2 → α3 → α4 → St → Option β} (h : Fr L F (fun o : α1 × α2 × α3 × α4 × St => o.2.2.2.2) S x) (k : ∀ a1 a2 a3 a4 (T : St), kept L F S T → Fr L F pj S (f a1 a2 a3 a4 T)) : Fr L F pj S (bd5 x f) := fun q e => by
  obtain ⟨a1, a2, a3, a4, a5, h1, h2⟩ := bd5_some e
  exact k a1 a2 a3 a4 a5 (h _ h1) q h2
theorem Fr_bdI5 {α1 α2 α3 α4 α5 : Type} {x : Option (α1 × α2 × α3 × α4 × α5)} {f : α1 → α2 → α3 → α4 → α5 → Option β} (k : ∀ a1 a2 a3 a4 a5, Fr L F pj S (f a1 a2 a3 a4 a5)) : Fr L F pj S (bd5 x f) := fun q e => by
  obtain ⟨a1, a2, a3, a4, a5, h1, h2⟩ := bd5_some e
  exact k a1 a2 a3 a4 a5 q h2
theorem Fr_bdS6 {α1 α2 α3 α4 α5 : Type} {x : Option (α1 × α2 × α3 × α4 × α5 × St)} {f : α1 → α2 → α3 → α4 → α5 → St → Option β} (h : Fr L F (fun o : α1 × α2 × α3 × α4 × α5 × St => o.2.2.2.2.2) S x) (k : ∀ a1 a2 a3 a4 a5 (T : St), kept L F S T → Fr L F pj S (f a1 a2 a3 a4 a5 T)) : Fr L F pj S (bd6 x f) := fun q e => by
  obtain ⟨a1, a2, a3, a4, a5, a6, h1, h2⟩ := bd6_some e
  exact k a1 a2 a3 a4 a5 a6 (h _ h1) q h2
theorem Fr_bdI6 {α1 α2 α3 α4 α5 α6 : Type} {x : Option (α1 × α2 × α3 × α4 × α5 × α6)} {f : α1 → α2 → α3 → α4 → α5 → α6 → Option β} (k : ∀ a1 a2 a3 a4 a5 a6, Fr L F pj S (f a1 a2 a3 a4 a5 a6)) : Fr L F pj S (bd6 x f) := fun q e => by
  obtain ⟨a1, a2, a3, a4, a5, a6, h1, h2⟩ := bd6_some e
  exact k a1 a2 a3 a4 a5 a6 q h2
theorem Fr_bdS7 {α1 α2 α3 α4 α5 α6 : Type} {x : Option (α1 × α2 × α3 × α4 × α5 × α6 × St)} {f : α1 → α2 → α3 → α4 → α5 → α6 → St → Option β} (h : Fr L F (fun o : α1 × α2 × α3 × α4 × α5 × α6 × St => o.2.2.2.2.2.2) S x) (k : ∀ a1 a2 a3 a4 a5 a6 (T : St), kept L F S T → Fr L F pj S (f a1 a2 a3 a4 a5 a6 T)) : Fr L F pj S (bd7 x f) := fun q e => by
  obtain ⟨a1, a2, a3, a4, a5, a6, a7, h1, h2⟩ := bd7_some e
  exact k a1 a2 a3 a4 a5 a6 a7 (h _ h1) q h2
theorem Fr_bdI7 {α1 α2 α3 α4 α5 α6 α7 : Type} {x : Option (α1 × α2 × α3 × α4 × α5 × α6 × α7)} {f : α1 → α2 → α3 → α4 → α5 → α6 → α7 → Option β} (k : ∀ a1 a2 a3 a4 a5 a6 a7, Fr L F pj S (f a1 a2 a3 a4 a5 a6 a7)) : Fr L F pj S (bd7 x f) := fun q e => by
  obtain ⟨a1, a2, a3, a4, a5, a6, a7, h1, h2⟩ := bd7_some e
  exact k a1 a2 a3 a4 a5 a6 a7 q h2
theorem Fr_bdS8 {α1 α2 α3 α4 α5 α6 α7 : Type} {x : Option (α1 × α2 × α3 × α4 × α5 × α6 × α7 × St)} {f : α1 → α2 → α3 → α4 → α5 → α6 → α7 → St → Option β} (h : Fr L F (fun o : α1 × α2 × α3 × α4 × α5 × α6 × α7 × St => o.2.2.2.2.2.2.2) S x) (k : ∀ a1 a2 a3 a4 a5 a6 a7 (T : St), kept L F S T → Fr L F pj S (f a1 a2 a3 a4 a5 a6 a7 T)) : Fr L F pj S (bd8 x f) := fun q e => by
  obtain ⟨a1, a2, a3, a4, a5, a6, a7, a8, h1, h2⟩ := bd8_some e
  exact k a1 a2 a3 a4 a5 a6 a7 a8 (h _ h1) q h2
theorem Fr_bdI8 {α1 α2 α3 α4 α5 α6 α7 α8 : Type} {x : Option (α1 × α2 × α3 × α4 × α5 × α6 × α7 × α8)} {f : α1 → α2 → α3 → α4 → α5 → α6 → α7 → α8 → Option β} (k : ∀ a1 a2 a3 a4 a5 a6 a7 a8, Fr L F pj S (f a1 a2 a3 a4 a5 a6 a7 a8)) : Fr L F pj S (bd8 x f) := fun q e => by
  obtain ⟨a1, a2, a3, a4, a5, a6, a7, a8, h1, h2⟩ := bd8_some e
  exact k a1 a2 a3 a4 a5 a6 a7 a8 q h2
theorem Fr_bdS9 {α1 α2 α3 α4 α5 α6 α7 α8 : Type} {x : Option (α1 × α2 × α3 × α4 × α5 × α6 × α7 × α8 × St)} {f : α1 → α2 → α3 → α4 → α5 → α6 → α7 → α8 → St → Option β} (h : Fr L F (fun o : α1 × α2 × α3 × α4 × α5 × α6 × α7 × α8 × St => o.2.2.2.2.2.2.2.2) S x) (k : ∀ a1 a2 a3 a4 a5 a6 a7 a8 (T : St), kept L F S T → Fr L F pj S (f a1 a2 a3 a4 a5 a6 a7 a8 T)) : Fr L F pj S (bd9 x f) := fun q e => by
  obtain ⟨a1, a2, a3, a4, a5, a6, a7, a8, a9, h1, h2⟩ := bd9_some e
  exact k a1 a2 a3 a4 a5 a6 a7 a8 a9 (h _ h1) q h2
theorem Fr_bdI9 {α1 α2 α3 α4 α5 α6 α7 α8 α9 : Type} {x : Option (α1 × α2 × α3 × α4 × α5 × α6 × α7 × α8 × α9)} {f : α1 → α2 → α3 → α4 → α5 → α6 → α7 → α8 → α9 → Option β} (k : ∀ a1 a2 a3 a4 a5 a6 a7 a8 a9, Fr L F pj S (f a1 a2 a3 a4 a5 a6 a7 a8 a9)) : Fr L F pj S (bd9 x f) := fun q e => by
  obtain ⟨a1, a2, a3, a4, a5, a6, a7, a8, a9, h1, h2⟩ := bd9_some e
  exact k a1 a2 a3 a4 a5 a6 a7 a8 a9 q h2
theorem Fr_bdL {x : Option (List Int32)} {f : List Int32 → Option β} (k : ∀ a1, Fr L F pj S (f a1)) : Fr L F pj S (bd1 x f) := fun q e => by
  obtain ⟨a1, h1, h2⟩ := bd1_some e
  exact k a1 q h2
end FRS
