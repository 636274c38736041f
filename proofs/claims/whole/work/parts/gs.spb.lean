/-! bounds: all but the moves -/
theorem spb_of {S : St} (h : Cor S) (dp : ∃ d, DP (S 84) d) (hh : ∃ hm, HM (S 84) hm) (mv : ∀ e n v : Nat, isTh (S 84) e n v → mvL (exI (S 84) e n v) (mvN (S 84) 432) ≤ 999990) : SPB (S 84) :=
  ⟨fun _ hx => ⟨hg_1000 h dp hh hx, trn_100 h hx⟩, fun e n v a b c g => ⟨mv e n v ⟨a, b, c, g⟩, exI_24 h dp hh ⟨a, b, c, g⟩, tR_le h ⟨a, b, c, g⟩⟩⟩
