/-! two terms' nodes compared: a kind's own -/
theorem e_trm {M : Int → Int} {S : St} {a b ka kb e t t' : Nat} {s s' : List (List Int × Nat)} (ha : a < 1024) (hb : b < 1024) (h1 : ka ≤ 1024) (h2 : kb ≤ 1024) (hI : ∀ (c : Nat) (j : Nat), 99 ≤ c → c ≤ 103 → j < 1024 → inI (S c (j : Int))) (x : TRM M S a ka e t s) (y : TRM M S b kb e t' s') (ht : t < cnE M e) (ht' : t' < cnE M e) (l55 : (fl1 s).length ≤ 55) (hsz : dgT M e t ++ fl1 s = dgT M e t' ++ fl1 s' → szs s = szs s') : ans (mX12_areSame S (a : Int) (b : Int)) (dgT M e t ++ fl1 s = dgT M e t' ++ fl1 s') := by
  obtain ⟨x1, x2, x3, x4, f, l, x5, x6, x7, x8⟩ := x
  obtain ⟨y1, y2, y3, y4, f', m, y5, y6, y7, y8⟩ := y
  have fl : flM l = fl1 s := by unfold flM fl1; rw [← x7, List.map_map]; rfl
  have fm : flM m = fl1 s' := by unfold flM fl1; rw [← y7, List.map_map]; rfl
  have hT : dgT M e t ++ fl1 s = dgT M e t' ++ fl1 s' → t = t' := fun q => by
    unfold dgT at q
    by_cases c : cnE M e ≤ 1
    · omega
    · rw [if_neg c, if_neg c] at q
      have := (List.cons.inj q).1
      omega
  show ans (RX12_areSame (198 + 2) 0 (a : Int) (b : Int) 0 S) _
  refine e_as ha hb hI (by rw [x1, y1]) (fun q => ⟨by rw [x2, y2, hT q], by rw [x3, y3, hsz q]⟩) (fun c0 _ => ?_)
  have eT : t = t' := by rw [x2, y2] at c0; omega
  subst eT
  rw [if_neg (by omega), if_neg (by omega)]
  have ll := ch_len x6 y6
  have all : ∀ z ∈ l, 1 ≤ z.2.1.length := fun z hz => by
    obtain ⟨q, hq⟩ := ch_all x6 z hz
    exact hq.c.2.2.1
  obtain ⟨f1, f2⟩ := flM_len l all
  rw [fl] at f1 f2
  have fr := e_from (g := 198) (a := a) (b := b) (l := l) (m := m) (r := S 102 (b : Int)) ha hb (hI 102 b (by omega) (by omega) hb) ll (by omega) x5 (lnk_pre (b := b) (l := m.map Prod.fst) (m := []) (by rw [List.append_nil]; exact y5)) (fun j hj => hI 103 j (by omega) (by omega) hj) (fun k z z' u1 u2 => by
    obtain ⟨q, d1, d2⟩ := ch_pr k x6 y6 u1 u2
    have := f2 z (List.mem_of_getElem? u1)
    exact e_same h1 h2 hI f f' 198 q _ _ z z' d1 d2 (by omega) (by omega))
  refine (ans.mk fr).iff ⟨fun q => ?_, fun q => ?_⟩
  · rw [← fl, ← fm]
    show _ ++ (mpC l).flatten = _ ++ (mpC m).flatten
    rw [show mpC l = mpC m from q]
  · have q' := List.append_cancel_left q
    rw [← fl, ← fm] at q'
    exact ch_dec (fun p x h => ND.c h |>.2.1) (fun p x h => ND.c h |>.2.1) (u := []) (v := []) x6 y6 (by rw [List.append_nil, List.append_nil]; exact q')
