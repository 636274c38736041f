/-! one part, read by both -/
def okPart (S T S' T' : St) (u : Int → Int) (n nk ln L p0 t0 : Nat) (d : Nat → Nat) : Prop := ∃ (a' p1 t1 : Nat) (d' : Nat → Nat), RR S' T' u n a' ∧ FR S' (T' 84) p1 t1 ∧ (p0 < p1 ∧ t0 ≤ t1 ∧ t1 + p0 < t0 + p1) ∧ LOW S S' (T 84) (T' 84) p0 t0 30 ∧ (∀ q, q < p0 → d' q = d q) ∧ d' p0 = L ∧ T' 84 (96 + (p0 : Int)) = -1 ∧ REG S' (T' 84) nk ln d' p0 p1 t0 t1 ∧ COV (T' 84) p0 p1
def simP (u : Int → Int) (n nk ln L fC fF : Nat) : Prop := ∀ (S T : St) (a p0 t0 : Nat) (d : Nat → Nat) (tm : Int), RR S T u n a → NM S T u n nk → S 12 10 = (ln : Int) → FR S (T 84) p0 t0 → (tm = 0 ∨ tm = 1) → ∃ (rC : Int) (S' : St) (rF : Int) (T' : St), RX5_readExpr fC 1 (L : Int) tm S = some (rC, S') ∧ RX12_readsExpr fF 2 (L : Int) tm 0 T = some (rF, T') ∧ KS S S' ∧ KT T T' ∧ (BB S' T' ∨ (tm = 0 ∧ rC = (p0 : Int) ∧ rF = (p0 : Int) ∧ okPart S T S' T' u n nk ln L p0 t0 d))
def okExpr (S T S' T' : St) (u : Int → Int) (n nk ln L e p0 t0 : Nat) (d : Nat → Nat) : Prop := ∃ (a' p1 t1 : Nat) (d' : Nat → Nat), RR S' T' u n a' ∧ FR S' (T' 84) p1 t1 ∧ (p0 < p1 ∧ t0 ≤ t1 ∧ t1 + p0 ≤ t0 + p1) ∧ LOW S S' (T 84) (T' 84) p0 t0 e ∧ (∀ q, q < p0 → d' q = d q) ∧ EX S' (T' 84) d' p0 p1 t0 t1 e L ∧ REG S' (T' 84) nk ln d' p0 p1 t0 t1 ∧ COVE (T' 84) e p0 p1 (T' 84 (198 + (e : Int))).toNat
def simE (u : Int → Int) (n nk ln L fC fF : Nat) : Prop := ∀ (S T : St) (a p0 t0 : Nat) (d : Nat → Nat) (e : Nat), RR S T u n a → NM S T u n nk → S 12 10 = (ln : Int) → FR S (T 84) p0 t0 → e < 6 + p0 → S 19 (e : Int) = 0 → T 84 (198 + (e : Int)) = 0 → ∃ S' T' : St, RX5_readExpr fC 0 (e : Int) (L : Int) S = some (0, S') ∧ RX12_readsExpr fF 0 (e : Int) (L : Int) 0 T = some (0, T') ∧ KS S S' ∧ KT T T' ∧ (BB S' T' ∨ okExpr S T S' T' u n nk ln L e p0 t0 d)
def addS (S : St) (p ty ln : Int) : St := up (up (up (up (up (up S 14 p ty) 15 p 0) 16 p (-1)) 17 p (-1)) 18 p ln) 13 3 (p + 1)
theorem e_addPart {S : St} {p ln : Nat} {ty : Int} (h3 : S 13 3 = (p : Int)) (hp : p < 24) : mX2_addPart_13 S ty (ln : Int) = some ((p : Int), addS S (p : Int) ty (ln : Int)) := by
  unfold mX2_addPart_13 addS
  rw [nx_e, h3, gd_t (by omega), if_pos (by omega), gd_t (by omega)]
  simp only [nx_e]
  rw [show (up (up (up (up (up S 14 (p : Int) ty) 15 (p : Int) 0) 16 (p : Int) (-1)) 17 (p : Int) (-1)) 18 (p : Int) (ln : Int)) 13 3 = S 13 3 from rfl, h3]
/-- the tails behind the tests -/
def tlF (rec : Nat → Int → Int → Int → St → Option (Int × St)) (T : St) (a1 z_1 z_4 r_8 : Int) : Option (Int × St) := nx (T 84 2) fun x_50 => nx (up T 84 2 ((T 84 2) + 1)) fun S_51 => bd1 (mX12_next S_51) fun S_53 => bd1 (gd (inI r_8) <| if r_8 = 0 then (if 0 ≤ z_1 then (if z_1 = 3 then (gd (0 ≤ (24 + x_50) ∧ (24 + x_50) < 228) <| nx (up S_53 84 (24 + x_50) 1) fun S_70 => some (S_70)) else (if z_1 = 2 then (bd1 (mX12_readsAtom S_53 x_50) fun S_68 => some (S_68)) else (bd2 (rec 1 x_50 (z_1 - 3) a1 S_53) fun r_66 S_65 => some (S_65)))) else (gd (0 ≤ (24 + x_50) ∧ (24 + x_50) < 228) <| nx (up S_53 84 (24 + x_50) 2) fun S_72 => gd (0 ≤ (48 + x_50) ∧ (48 + x_50) < 228) <| nx (up S_72 84 (48 + x_50) z_4) fun S_74 => some (S_74))) else (gd (0 ≤ (24 + x_50) ∧ (24 + x_50) < 228) <| nx (up S_53 84 (24 + x_50) 7) fun S_76 => gd (0 ≤ (48 + x_50) ∧ (48 + x_50) < 228) <| nx (up S_76 84 (48 + x_50) (6 + x_50)) fun S_78 => bd2 (rec 0 (6 + x_50) (a1 + 1) 0 S_78) fun r_81 S_80 => gd (inI (S_80 83 10)) <| if (S_80 83 10) = 0 then (bd1 (mX12_needs S_80 41) fun S_85 => some (S_85)) else (some (S_80)))) fun S_54 => gd (inI (S_54 83 10)) <| if (S_54 83 10) = 0 then (some (x_50, S_54)) else (some ((-1), S_54))
def tlC (rec : Nat → Int → Int → St → Option (Int × St)) (S_9 : St) (a1 r_2 z_3 z_8 : Int) : Option (Int × St) := bd1 (gd (inI r_2) <| if r_2 = 2 then (gd (0 ≤ z_8 ∧ z_8 < 24) <| nx (up S_9 15 z_8 z_3) fun S_42 => some (S_42)) else (some (S_9))) fun S_14 => bd1 (mX5_advance S_14) fun S_18 => gd (inI r_2) <| if r_2 = 0 then (bd1 (mX5_readLetter S_18 z_8) fun S_38 => some (z_8, S_38)) else (if r_2 = 7 then (bd2 (rec 0 (6 + z_8) (a1 + 1) S_18) fun r_34 S_33 => bd1 (mX5_expectSign S_33 41) fun S_36 => some (z_8, S_36)) else (if r_2 < 3 then (some (z_8, S_18)) else (bd1 (mX5_readMany S_18 z_8) fun S_24 => gd (inI (S_24 12 1)) <| if (S_24 12 1) = 0 then (bd2 (rec 1 (a1 + 1) 0 S_24) fun r_28 S_29 => gd (0 ≤ z_8 ∧ z_8 < 24) <| nx (up S_29 16 z_8 r_28) fun S_31 => some (z_8, S_31)) else (some (z_8, S_24)))))
theorem bd1_s {α1 β : Type} {f : α1 → Option β} {a : α1} : bd1 (some a) f = f a := rfl
theorem bd2_s {α1 α2 β : Type} {f : α1 → α2 → Option β} {a : α1} {b : α2} : bd2 (some (a, b)) f = f a b := rfl
/-- the tests of both: a fault, or on to the tails -/
theorem front {S T : St} {u : Int → Int} {n nk ln a p0 t0 L : Nat} {tm : Int} {recC : Nat → Int → Int → St → Option (Int × St)} {recF : Nat → Int → Int → Int → St → Option (Int × St)} (h : RR S T u n a) (hN : NM S T u n nk) (hln : S 12 10 = (ln : Int)) (hF : FR S (T 84) p0 t0) (htm : tm = 0 ∨ tm = 1) (hL : L ≤ 6) : (∃ (S' T' : St), bX5_readPart recC S (L : Int) tm = some (-1, S') ∧ bX12_readsPart recF T (L : Int) tm = some (-1, T') ∧ BB S' T' ∧ KS S S' ∧ KT T T') ∨ (tm = 0 ∧ p0 < 24 ∧ ∃ (ty kd : Int) (z1 r8 : Int), bX5_readPart recC S (L : Int) tm = tlC recC (addS S (p0 : Int) ty (ln : Int)) (L : Int) ty kd (p0 : Int) ∧ bX12_readsPart recF T (L : Int) tm = tlF recF T (L : Int) z1 kd r8 ∧ ((ty = 2 ∧ r8 = 0 ∧ z1 = -1 ∧ 0 ≤ kd ∧ kd < (nk : Int)) ∨ (ty = 1 ∧ r8 = 0 ∧ z1 = 3) ∨ (ty = 0 ∧ r8 = 0 ∧ z1 = 2) ∨ (3 ≤ ty ∧ ty ≤ 6 ∧ r8 = 0 ∧ z1 = ty + 3 ∧ L ≤ 5) ∨ (ty = 7 ∧ r8 = 1 ∧ z1 = -1 ∧ L ≤ 5))) := by
  have hh := h
  obtain ⟨⟨hC, hFt⟩, ⟨cC, cF⟩, z1, z2⟩ := h
  obtain ⟨⟨f1, f2, f3, f4, f5⟩, -, -⟩ := hF
  have f8 := cF.2.2.2.1
  have si := e_isSign (c := 40) hFt cF (by omega)
  obtain ⟨k, k1, k2⟩ := e_key hFt cF
  have pb := e_partBegun hC cC k2
  have kb : k = -1 ∨ k = 0 ∨ k = 1 ∨ k = 2 ∨ k = 3 ∨ k = 4 ∨ k = 5 ∨ k = 6 ∨ k = 7 ∨ k = 8 ∨ k = 9 := by
    rcases k2 with ⟨i, i1, i2, _⟩ | ⟨i1, _⟩ <;> omega
  have flt : ∀ q : Int, q = 1 ∨ q = 2 ∨ q = 3 → ∃ S' T' : St, mX5_refuse S q = some S' ∧ mX12_faults T q = some (-1, T') ∧ BB S' T' ∧ KS S S' ∧ KT T T' := fun q hq => by
    refine ⟨up (up S 12 1 q) 12 2 (S 12 8), up (up (up T 83 10 1) 83 4 q) 83 5 (T 83 7), ?_, ?_, ⟨rfl, hq, rfl, ?_, ?_⟩, (KS.rf.upF (by decide)).upF (by decide), ⟨((kept.rf.upF (by decide)).upF (by decide)).upF (by decide), fun _ _ _ _ _ => rfl⟩⟩
    · unfold mX5_refuse
      rw [z1, gd_t (by decide), if_pos rfl]; rfl
    · unfold mX12_faults
      rw [z2, gd_t (by decide), if_pos rfl]; rfl
    · show T 83 7 = S 12 8
      rw [cC.2.1, cF.2.1]
    · show inI (S 12 8)
      have h4' := hC.1.2.2
      have h5' := cC.1
      rw [cC.2.1]; omega
  -- what the class does at a fault
  have bad : ∀ (r2 z3 q : Int), inI r2 → mX5_partBegun S = some r2 → (gd (inI r2) <| if r2 = 2 then (bd1 (mX5_kindNamed S) fun r_57 => some (r_57)) else (some (-1))) = some z3 → mX5_faultOfPart S r2 z3 (L : Int) tm = some q → (q = 1 ∨ q = 2 ∨ q = 3) → ∀ S' : St, mX5_refuse S q = some S' → bX5_readPart recC S (L : Int) tm = some (-1, S') := fun r2 z3 q x1 x2 x3 x4 x5 S' x6 => by
    unfold bX5_readPart
    rw [bd1_e x2, bd1_e x3, bd1_e x4, gd_t (by omega), if_neg (by omega), bd2_s, gd_t (by decide), if_pos rfl, gd_t (by omega), if_neg (by omega), bd1_e x6]
  have good : ∀ (r2 z3 : Int), inI r2 → p0 < 24 → mX5_partBegun S = some r2 → (gd (inI r2) <| if r2 = 2 then (bd1 (mX5_kindNamed S) fun r_57 => some (r_57)) else (some (-1))) = some z3 → mX5_faultOfPart S r2 z3 (L : Int) tm = some 0 → bX5_readPart recC S (L : Int) tm = tlC recC (addS S (p0 : Int) r2 (ln : Int)) (L : Int) r2 z3 (p0 : Int) := fun r2 z3 x1 x0 x2 x3 x4 => by
    unfold bX5_readPart
    rw [bd1_e x2, bd1_e x3, bd1_e x4, gd_t (by decide), if_pos rfl, hln, bd2_e (e_addPart f1 x0), bd2_s, gd_t (by omega), if_neg (by omega)]
    rfl
  by_cases t1 : tk u n a = 1
  · -- a word
    rw [if_pos t1] at pb
    have tc : tkC u n a = 1 := by rcases tk_cases u n a with q | q | q | q | q <;> omega
    rw [tc, if_neg (by decide)] at si
    rw [t1] at f8
    obtain ⟨kd, n1, n2, n3⟩ := sim_named hC hFt cC cF hN t1
    have nkI := hN.1.2.2
    -- the reference's first tests
    have r0 : ∀ z4 : Int, (if 0 ≤ k then (-1 : Int) else kd) = z4 → bX12_readsPart recF T (L : Int) tm = (bd1 (mX12_in k 0 1) fun r_16 => gd (inI r_16) <| if r_16 = 0 then (bd1 (mX12_in k 4 5) fun r_23 => gd (inI r_23) <| if r_23 = 0 then (bd1 (if 0 ≤ k then (some (1 : Nat)) else (gd (inI z4) <| if 0 ≤ z4 then (some (1)) else (some (0)))) fun t_26 => if t_26 = 0 then (bd2 (mX12_faults T 2) fun r_30 S_31 => some (r_30, S_31)) else (gd (inI tm) <| if tm = 0 then (gd (inI (T 84 2)) <| if (T 84 2) = 24 then (bd2 (mX12_faults T 3) fun r_41 S_42 => some (r_41, S_42)) else (bd1 (if k ≤ 5 then (some (1 : Nat)) else (gd (inI (L : Int)) <| if (L : Int) = 6 then (some (0)) else (some (1)))) fun t_43 => if t_43 = 0 then (bd2 (mX12_faults T 3) fun r_47 S_48 => some (r_47, S_48)) else tlF recF T (L : Int) k z4 0)) else (bd2 (mX12_faults T 3) fun r_36 S_37 => some (r_36, S_37)))) else (bd2 (mX12_faults T 1) fun r_95 S_96 => some (r_95, S_96))) else (bd2 (mX12_faults T 1) fun r_20 S_21 => some (r_20, S_21))) := fun z4 hz => by
      unfold bX12_readsPart
      rw [f8, gd_t (by decide), if_pos rfl, bd1_e k1, bd1_s, gd_t (by decide), if_pos rfl, gd_t (by omega)]
      have e4 : (if 0 ≤ k then some (-1 : Int) else (bd1 (mX12_named T) fun r_193 => some (r_193))) = some z4 := by
        rw [n2]
        split at hz
        · rename_i c; rw [if_pos c, hz]
        · rename_i c; rw [if_neg c, hz]; rfl
      rw [bd1_e e4, bd1_e si, gd_t (by decide), if_pos rfl, gd_t (by omega)]
      by_cases c5 : k ≤ 5
      · rw [if_pos c5, bd1_s, gd_t (by decide), if_pos rfl, gd_t (by omega), if_pos rfl, if_pos c5]
        rfl
      · rw [if_neg c5, bd1_s, gd_t (by decide), if_pos rfl, gd_t (by omega), if_pos rfl, if_neg c5]
        rfl
    have i1 := e_in (v := k) (lo := 0) (hi := 1) (by omega) (by decide) (by decide)
    have i4 := e_in (v := k) (lo := 4) (hi := 5) (by omega) (by decide) (by decide)
    have tmI : inI tm := by omega
    by_cases kw : k = 0 ∨ k = 1 ∨ k = 4 ∨ k = 5
    · -- another word
      obtain ⟨S', T', s1, s2, s3, s4, s5⟩ := flt 1 (by omega)
      have p8 : pbt k = 8 := by rcases kw with e | e | e | e <;> rw [e] <;> rfl
      rw [p8] at pb
      refine Or.inl ⟨S', T', bad 8 (-1) 1 (by decide) pb rfl ?_ (by omega) S' s1, ?_, s3, s4, s5⟩
      · unfold mX5_faultOfPart
        rw [gd_t (by decide), if_neg (by decide), if_pos rfl]
      · rw [r0 _ rfl, bd1_e i1]
        by_cases c : 0 ≤ k ∧ k ≤ 1
        · rw [if_pos c, gd_t (by decide), if_neg (by decide), bd2_e s2]
        · rw [if_neg c, gd_t (by decide), if_pos rfl, bd1_e i4, if_pos (by omega), gd_t (by decide), if_neg (by decide), bd2_e s2]
    -- the class's part
    have hz3 : ∃ z3 : Int, (gd (inI (pbt k)) <| if pbt k = 2 then (bd1 (mX5_kindNamed S) fun r_57 => some (r_57)) else (some (-1))) = some z3 ∧ z3 = (if 0 ≤ k then (-1 : Int) else kd) := by
      by_cases c : 0 ≤ k
      · refine ⟨-1, ?_, by rw [if_pos c]⟩
        have : pbt k ≠ 2 ∧ inI (pbt k) := by
          rcases kb with e | e | e | e | e | e | e | e | e | e | e <;> first | omega | (rw [e]; decide)
        rw [gd_t this.2, if_neg this.1]
      · have e : k = -1 := by omega
        refine ⟨kd, ?_, by rw [if_neg c]⟩
        rw [e, show pbt (-1) = 2 from rfl, gd_t (by decide), if_pos rfl, n1]; rfl
    obtain ⟨z3, z31, z32⟩ := hz3
    have r0' := r0 z3 z32.symm
    rw [bd1_e i1, if_neg (by omega), gd_t (by decide), if_pos rfl, bd1_e i4, if_neg (by omega), gd_t (by decide), if_pos rfl] at r0'
    have pbI : inI (pbt k) := by
      rcases kb with e | e | e | e | e | e | e | e | e | e | e <;> (rw [e]; decide)
    by_cases nn : k = -1 ∧ kd = -1
    · -- no such name
      obtain ⟨S', T', s1, s2, s3, s4, s5⟩ := flt 2 (by omega)
      rw [nn.1] at z32
      rw [if_neg (by decide)] at z32
      refine Or.inl ⟨S', T', bad _ z3 2 pbI pb z31 ?_ (by omega) S' s1, ?_, s3, s4, s5⟩
      · unfold mX5_faultOfPart
        rw [nn.1, show pbt (-1) = 2 from rfl, gd_t (by decide), if_neg (by decide), if_neg (by decide), if_pos rfl, z32, nn.2]
        rfl
      · rw [r0', nn.1, z32, nn.2]
        rw [if_neg (by decide), gd_t (by decide), if_neg (by decide), bd1_s, if_pos rfl, bd2_e s2]
    have r1' : (if 0 ≤ k then (some (1 : Nat)) else (gd (inI z3) <| if 0 ≤ z3 then (some (1)) else (some (0)))) = some 1 := by
      by_cases c : 0 ≤ k
      · rw [if_pos c]
      · rw [if_neg c, z32, if_neg c, gd_t (by omega), if_pos (by omega)]
    rw [bd1_e r1', if_neg (by decide), gd_t tmI] at r0'
    -- what faultOfPart says
    have fo : mX5_faultOfPart S (pbt k) z3 (L : Int) tm = some (if tm = 0 ∧ ¬ (3 ≤ pbt k ∧ L = 6) ∧ p0 < 24 then 0 else 3) := by
      have e2 : (if pbt k = 2 then (gd (inI z3) <| if z3 = (-1) then (some (0 : Nat)) else (some (1))) else (some (1))) = some 1 := by
        by_cases c : pbt k = 2
        · have : k = -1 := by
            rcases kb with e | e | e | e | e | e | e | e | e | e | e <;> first | exact e | (rw [e] at c; exact absurd c (by decide))
          rw [this] at z32
          rw [if_neg (by decide)] at z32
          rw [if_pos c, z32, gd_t (by omega), if_neg (by omega)]
        · rw [if_neg c]
      have n18 : pbt k ≠ -1 ∧ pbt k ≠ 8 := by
        rcases kb with e | e | e | e | e | e | e | e | e | e | e <;> first | omega | (rw [e]; decide)
      have e3 : (if pbt k < 3 then (some (0 : Int)) else (gd (inI (L : Int)) <| if (L : Int) < 6 then (some (0)) else (some (1)))) = some (if 3 ≤ pbt k ∧ L = 6 then 1 else 0) := by
        by_cases c : pbt k < 3
        · rw [if_pos c, if_neg (by omega)]
        · rw [if_neg c, gd_t (by omega)]
          by_cases c6 : L = 6
          · rw [if_neg (by omega), if_pos (by omega)]
          · rw [if_pos (by omega), if_neg (by omega)]
      unfold mX5_faultOfPart
      rw [gd_t pbI, if_neg n18.1, if_neg n18.2, bd1_e e2, if_neg (by decide), bd1_e e3, gd_t tmI, f1]
      rcases htm with e | e
      · rw [if_pos e]
        by_cases c6 : 3 ≤ pbt k ∧ L = 6
        · rw [if_pos c6, gd_t (by decide), if_neg (by decide), if_neg (fun x => x.2.1 c6)]
        · rw [if_neg c6, gd_t (by decide), if_pos rfl, gd_t (by omega)]
          by_cases c24 : p0 < 24
          · rw [if_pos (by omega), if_pos ⟨e, c6, c24⟩]
          · rw [if_neg (by omega), if_neg (fun x => c24 x.2.2)]
      · rw [if_neg (by omega), if_neg (by omega)]
    by_cases ok : tm = 0 ∧ ¬ (3 ≤ pbt k ∧ L = 6) ∧ p0 < 24
    · right
      rw [if_pos ok] at fo
      refine ⟨ok.1, ok.2.2, pbt k, z3, k, 0, good _ z3 pbI ok.2.2 pb z31 fo, ?_, ?_⟩
      · have e5 : (if k ≤ 5 then (some (1 : Nat)) else (gd (inI (L : Int)) <| if (L : Int) = 6 then (some (0)) else (some (1)))) = some 1 := by
          by_cases c5 : k ≤ 5
          · rw [if_pos c5]
          · have : 3 ≤ pbt k := by
              rcases kb with e | e | e | e | e | e | e | e | e | e | e <;> first | omega | (rw [e]; decide)
            rw [if_neg c5, gd_t (by omega), if_neg (by omega)]
        rw [r0', if_pos ok.1, f2, gd_t (by omega), if_neg (by omega), bd1_e e5, if_neg (by decide)]
      · rcases kb with e | e | e | e | e | e | e | e | e | e | e
        · refine Or.inl ?_
          rw [e, if_neg (by decide)] at z32
          rw [e, z32]
          exact ⟨rfl, rfl, rfl, by omega, by omega⟩
        · omega
        · omega
        · exact Or.inr (Or.inr (Or.inl ⟨by rw [e]; rfl, rfl, e⟩))
        · exact Or.inr (Or.inl ⟨by rw [e]; rfl, rfl, e⟩)
        · omega
        · omega
        all_goals
          have := ok.2.1
          rw [e] at this ⊢
          refine Or.inr (Or.inr (Or.inr (Or.inl ⟨by decide, by decide, rfl, by decide, ?_⟩)))
          have p3 : 3 ≤ pbt k := by rw [e]; decide
          rw [e] at p3
          omega
    · obtain ⟨S', T', s1, s2, s3, s4, s5⟩ := flt 3 (by omega)
      rw [if_neg ok] at fo
      refine Or.inl ⟨S', T', bad _ z3 3 pbI pb z31 fo (by omega) S' s1, ?_, s3, s4, s5⟩
      rw [r0']
      rcases htm with e | e
      · rw [if_pos e, f2, gd_t (by omega)]
        by_cases c24 : p0 = 24
        · rw [if_pos (by omega), bd2_e s2]
        · have k6 : ¬ k ≤ 5 ∧ L = 6 := by
            have : 3 ≤ pbt k ∧ L = 6 := Classical.byContradiction fun w => ok ⟨e, w, by omega⟩
            refine ⟨fun c5 => ?_, this.2⟩
            have t := this.1
            rcases kb with q | q | q | q | q | q | q | q | q | q | q <;> first | omega | (rw [q] at t; exact absurd t (by decide))
          rw [if_neg (by omega), if_neg k6.1, gd_t (by omega), if_pos (by omega), bd1_s, if_pos rfl, bd2_e s2]
      · rw [if_neg (by omega), bd2_e s2]
  · -- no word
    rw [if_neg t1] at pb
    have nk1 : k = -1 := by
      rcases k2 with ⟨i, i1, i2, i3⟩ | ⟨i1, _⟩
      · exact absurd i3.1 t1
      · exact i1
    have tI : inI (tk u n a) := by rcases tk_cases u n a with q | q | q | q | q <;> omega
    by_cases t40 : tkC u n a = 40
    · rw [if_pos t40] at pb si
      have r0 : bX12_readsPart recF T (L : Int) tm = (gd (inI tm) <| if tm = 0 then (gd (inI (T 84 2)) <| if (T 84 2) = 24 then (bd2 (mX12_faults T 3) fun r_41 S_42 => some (r_41, S_42)) else (bd1 (gd (inI (L : Int)) <| if (L : Int) = 6 then (some (0 : Nat)) else (some (1))) fun t_43 => if t_43 = 0 then (bd2 (mX12_faults T 3) fun r_47 S_48 => some (r_47, S_48)) else tlF recF T (L : Int) (-1) (-1) 1)) else (bd2 (mX12_faults T 3) fun r_36 S_37 => some (r_36, S_37))) := by
        unfold bX12_readsPart
        rw [f8, gd_t tI, if_neg t1, bd1_s, gd_t tI, if_neg t1, bd1_s, bd1_e si, gd_t (by decide), if_neg (by decide), bd1_s, gd_t tI, if_neg t1, gd_t (by decide), if_neg (by decide), gd_t (by decide)]
        rw [bd1_e (e_in (v := -1) (lo := 0) (hi := 1) (by decide) (by decide) (by decide)), if_neg (by decide), gd_t (by decide), if_pos rfl, bd1_e (e_in (v := -1) (lo := 4) (hi := 5) (by decide) (by decide) (by decide)), if_neg (by decide), gd_t (by decide), if_pos rfl, if_neg t1, bd1_s, if_neg (by decide)]
        rw [gd_t (show inI 1 by decide), if_neg (show ¬ (1 : Int) = 0 by decide)]
        rfl
      have fo : mX5_faultOfPart S 7 (-1) (L : Int) tm = some (if tm = 0 ∧ ¬ (L = 6) ∧ p0 < 24 then 0 else 3) := by
        unfold mX5_faultOfPart
        rw [gd_t (by decide), if_neg (by decide), if_neg (by decide), if_neg (by decide), bd1_s, if_neg (by decide), if_neg (by decide), gd_t (show inI (L : Int) by omega)]
        rw [f1]
        by_cases c6 : L = 6
        · rw [if_neg (show ¬ (L : Int) < 6 by omega), bd1_s, gd_t (by omega)]
          rcases htm with e | e
          · rw [if_pos e, gd_t (by decide), if_neg (by decide), if_neg (fun x => x.2.1 c6)]
          · rw [if_neg (by omega), if_neg (by omega)]
        · rw [if_pos (show (L : Int) < 6 by omega), bd1_s, gd_t (by omega)]
          rcases htm with e | e
          · rw [if_pos e, gd_t (by decide), if_pos rfl, gd_t (by omega)]
            by_cases c24 : p0 < 24
            · rw [if_pos (by omega), if_pos ⟨e, c6, c24⟩]
            · rw [if_neg (by omega), if_neg (fun x => c24 x.2.2)]
          · rw [if_neg (by omega), if_neg (by omega)]
      by_cases ok : tm = 0 ∧ ¬ (L = 6) ∧ p0 < 24
      · right
        rw [if_pos ok] at fo
        refine ⟨ok.1, ok.2.2, 7, -1, -1, 1, good 7 (-1) (by decide) ok.2.2 pb rfl fo, ?_, Or.inr (Or.inr (Or.inr (Or.inr ⟨rfl, rfl, rfl, by omega⟩)))⟩
        rw [r0, gd_t (by omega), if_pos ok.1, f2, gd_t (by omega), if_neg (by omega), gd_t (by omega), if_neg (by omega), bd1_s, if_neg (by decide)]
      · obtain ⟨S', T', s1, s2, s3, s4, s5⟩ := flt 3 (by omega)
        rw [if_neg ok] at fo
        refine Or.inl ⟨S', T', bad 7 (-1) 3 (by decide) pb rfl fo (by omega) S' s1, ?_, s3, s4, s5⟩
        rw [r0, gd_t (by omega)]
        rcases htm with e | e
        · rw [if_pos e, f2, gd_t (by omega)]
          by_cases c24 : p0 = 24
          · rw [if_pos (by omega), bd2_e s2]
          · have c6 : L = 6 := Classical.byContradiction fun w => ok ⟨e, w, by omega⟩
            rw [if_neg (by omega), gd_t (by omega), if_pos (by omega), bd1_s, if_pos rfl, bd2_e s2]
        · rw [if_neg (by omega), bd2_e s2]
    · rw [if_neg t40] at pb si
      obtain ⟨S', T', s1, s2, s3, s4, s5⟩ := flt 1 (by omega)
      refine Or.inl ⟨S', T', bad (-1) (-1) 1 (by decide) pb rfl rfl (by omega) S' s1, ?_, s3, s4, s5⟩
      unfold bX12_readsPart
      rw [f8, gd_t tI, if_neg t1, bd1_s, gd_t tI, if_neg t1, bd1_s, bd1_e si, gd_t (by decide), if_pos rfl, gd_t (by decide), if_pos (by decide), bd1_s, gd_t tI, if_neg t1, gd_t (by decide), if_pos rfl, bd2_e s2]
