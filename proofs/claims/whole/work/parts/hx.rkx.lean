/-! ranks fall where a part is one other alone -/
theorem rkx_of {M : Int → Int} {E TE : Nat → Prop} {rO rT rK : Nat → Nat} (wf : WF M) (rk : RKs M E TE rO rT rK) : RKx M rO := by
  obtain ⟨⟨KE, o⟩, r54, _⟩ := rk
  obtain ⟨_, _, o3, o4⟩ := o
  refine ⟨r54, fun p t hp ty ht h1 => ?_⟩
  have hM0 := wf.1
  obtain ⟨ok1, ok2, ok3, ok4, ok5, ok6⟩ := wf.2.2.2.1 p hp
  obtain ⟨ex, lo, l0, oe⟩ := ex_ok wf hp ty
  obtain ⟨t1, t2, t3⟩ := oe.2.1 t ht
  have hF : ((fpM M (exN M p) t).toNat : Int) = fpM M (exN M p) t := by omega
  have f1 := (o3 (fpM M (exN M p) t).toNat (by omega)).2.2.2.1 (by rw [hF]; exact h1)
  rcases ty with e | e
  · have k := ok4 e
    have f2 := o4 (exN M p) (by unfold exN; omega) t ht
    have f3 := (o3 p hp).1 e
    have f3' : rK (exN M p) < rO p := f3
    omega
  · have k := ok5 e
    have ek : exN M p = 6 + p := by unfold exN; omega
    have f2 := (o3 p hp).2.1 e t (by rw [← ek]; exact ht)
    rw [← ek] at f2
    omega
