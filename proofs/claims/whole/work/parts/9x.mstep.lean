/-! READING A STEP OF A PLAN, in the reference -/
def v4 (a b c e : Int) : Nat → Int := fun t => if t = 0 then a else if t = 1 then b else if t = 2 then c else e
/-- where the first, second, third digit of a step may lie -/
def st1 (tb : Nat → Nat) (n p : Nat) : Nat := sk tb n (sk tb n p + 1)
def st2 (tb : Nat → Nat) (n p : Nat) : Nat := sk tb n (st1 tb n p + 1)
def st3 (tb : Nat → Nat) (n p : Nat) : Nat := sk tb n (st2 tb n p + 1)
def dv (tb : Nat → Nat) (q : Nat) : Int := (tb q : Int) - 48
/-- a step at p: wrong at q, or what it is and what is behind it -/
noncomputable def stq (tb : Nat → Nat) (n p : Nat) : Nat ⊕ (Nat × (Nat → Int)) :=
  if spt 5 (lk tb n p) = -1 then .inl (sk tb n p)
  else @ite _ (dg tb n (st1 tb n p)) (Classical.propDecidable _)
    (if spt 5 (lk tb n p) = 4 then
      @ite _ (dg tb n (st2 tb n p)) (Classical.propDecidable _) (.inr (st2 tb n p + 1, v4 4 (10 * dv tb (st1 tb n p) + dv tb (st2 tb n p)) (-1) (-1))) (.inl (st2 tb n p))
    else if spt 5 (lk tb n p) = 0 then
      @ite _ (dg tb n (st2 tb n p)) (Classical.propDecidable _)
        (@ite _ (dg tb n (st3 tb n p) ∧ dv tb (st3 tb n p) ≤ 1) (Classical.propDecidable _) (.inr (st3 tb n p + 1, v4 0 (dv tb (st1 tb n p)) (dv tb (st2 tb n p)) (dv tb (st3 tb n p)))) (.inl (st3 tb n p)))
        (.inl (st2 tb n p))
    else .inr (st1 tb n p + 1, v4 (spt 5 (lk tb n p)) (dv tb (st1 tb n p)) (-1) (-1)))
    (.inl (st1 tb n p))
theorem spt5_0 {c : Int} (h : ¬ spt 5 c = -1) (h1 : -1 ≤ c) : 0 ≤ c := by
  by_cases e : c = -1
  · subst e
    exact absurd (by decide) h
  · omega
theorem spt5_b (c : Int) : -1 ≤ spt 5 c ∧ spt 5 c < 5 := sch_bd _ 5 0
def rsf (c j : Nat) : Prop := rdf c j ∨ c = 557
theorem RT.pl {μ : XM} {n : Nat} {tb : Nat → Nat} {p : Nat} (h : RT μ n tb p) (k : Nat) (v : Int32) : RT (sI μ 557 k v) n tb p := h.frm (F := fun c _ => c = 557) (fr.sI (F := fun c _ => c = 557) (a := 557) (k := k) μ v rfl) (fun k v e => by omega) (fun c j hc => by omega) (fun j => by omega) (fun j hj => by omega)
section OR2
variable {Γ : XG} {d n p : Nat} {tb : Nat → Nat} {μ : XM} {Q : Option Value → XM → Prop}
/-- how the reading of a step ends -/
def SRD (μ μ' : XM) (n : Nat) (tb : Nat → Nat) (row : Nat) (r : Nat ⊕ (Nat × (Nat → Int))) : Prop := fr rsf μ μ' ∧ (∀ j, (j < row ∨ row + 3 < j) → xI μ' 557 j = xI μ 557 j) ∧ match r with
  | .inl q => xI μ' 547 11 = w q
  | .inr u => xI μ' 547 11 = w (-1) ∧ RT μ' n tb u.1 ∧ ∀ q, q < 4 → xI μ' 557 (row + q) = w (u.2 q)
theorem C_readStepM (hf : FM Γ) (hd : 6 ≤ d) (h : RT μ n tb p) (h11 : xI μ 547 11 = w (-1)) {row : Nat} (hr : row + 3 < 320) : Call Γ m_MO_readStep d [.ref 547, .int (w row)] μ (KV (fun μ' => SRD μ μ' n tb row (stq tb n p))) := by
  obtain ⟨d, rfl⟩ : ∃ e, d = e + 1 := ⟨d - 1, by omega⟩
  have hn := h.n2
  have hb := lk_bd (n := n) (p := p) (fun j hj => (h.b hj).2.2)
  have hsb := spt5_b (lk tb n p)
  have hsk := sk_le tb h.2.2.2.2.2.2.2
  have sa : ∀ (μ1 : XM) (k : Nat) (v : Int32), fr rsf μ1 (sI μ1 557 k v) := fun μ1 k v => fr.sI (F := rsf) (a := 557) (k := k) μ1 v (Or.inr rfl)
  have ra : ∀ {μ1 μ2 : XM}, fr rdf μ1 μ2 → fr rsf μ1 μ2 := fun ho => ho.wide (fun _ _ e => Or.inl e)
  have c0 : (w (row : Int)).toNatClampNeg = row := w_cln (by omega)
  have c1 : (w ((row : Int) + 1)).toNatClampNeg = row + 1 := by rw [w_cl (by omega) (by omega)]; omega
  have c2 : (w ((row : Int) + 2)).toNatClampNeg = row + 2 := by rw [w_cl (by omega) (by omega)]; omega
  have c3 : (w ((row : Int) + 3)).toNatClampNeg = row + 3 := by rw [w_cl (by omega) (by omega)]; omega
  have iS : ∀ (μ' : XM) (z : Int), 574 ≤ xN μ' → 0 ≤ z → z < 320 → inS μ' 0 557 (w z) := fun μ' z e z0 z1 => ⟨by omega, in556 e z0 z1⟩
  refine Call.of ok_MO_readStep (Nat.le_of_ble_eq_true rfl) (B_MO_readStep_0 h.1.o ?_)
  simp only [w_add, c0, c1, c2, c3]
  refine (C_lookR (by omega) h).conseq (KI.mono ?_)
  rintro r μ1 ⟨rfl, o1, f1, h1⟩
  rw [h11] at f1
  refine (C_spotOf (j := 5) (by omega) hf h1.1.1 h1.2.1 (by omega) (by omega) (by omega)).conseq (KI.mono ?_)
  rintro r μ2 ⟨rfl, rfl⟩
  have u0 : ∀ μ' : XM, fr rdf μ μ' → ∀ j, xI μ' 557 j = xI μ 557 j := fun μ' ho j => (ho.1 557 j (by unfold rdf; omega)).1
  refine ⟨fun q => ?_, fun q => ?_⟩
  · rw [w_inj (by omega) (by omega) (by omega) (by omega)] at q
    refine (C_failsR (by omega) h1 f1).conseq (KI.mono ?_)
    rintro r μ3 ⟨rfl, o3, f3, h3⟩
    have es : stq tb n p = .inl (sk tb n p) := by unfold stq; rw [if_pos q]
    rw [es]
    exact ⟨rfl, ra (o1.trans o3), fun j _ => u0 _ (o1.trans o3) j, f3⟩
  · rw [w_inj (by omega) (by omega) (by omega) (by omega)] at q
    have hlt : sk tb n p < n := lk_lt rfl (spt5_0 q hb.1)
    rintro μ3 rfl
    rw [h1.2.2.2.2.2.2.1, w_add, show ((sk tb n p : Nat) : Int) + 1 = ((sk tb n p + 1 : Nat) : Int) by omega]
    have hT := h1.mv (q := sk tb n p + 1) (by omega)
    have f3 : xI (sI μ2 547 10 (w ((sk tb n p + 1 : Nat) : Int))) 547 11 = w (-1) := by rw [xI_sI, if_neg (by omega)]; exact f1
    have o3 := o1.trans hT.2
    have h3 := hT.1
    generalize sI μ2 547 10 (w ((sk tb n p + 1 : Nat) : Int)) = μ3 at *
    refine ⟨557, h3.1.r 23 557 rfl, iS _ _ h3.1.1 (by omega) (by omega), ?_⟩
    rintro μ6 rfl
    have h6 := h3.pl row (w (spt 5 (lk tb n p)))
    have f6 : xI (sI μ3 557 row (w (spt 5 (lk tb n p)))) 547 11 = w (-1) := by rw [xI_sI, if_neg (by omega)]; exact f3
    refine (C_digitR (m := 9) (by omega) h6 f6 (by omega) (by omega)).conseq (KI.mono ?_)
    have e1 : sk tb n (sk tb n p + 1) = st1 tb n p := rfl
    rw [e1]
    have o6 : fr rsf μ (sI μ3 557 row (w (spt 5 (lk tb n p)))) := (ra o3).trans (sa _ _ _)
    have u6 : ∀ j, xI (sI μ3 557 row (w (spt 5 (lk tb n p)))) 557 j = if j = row then w (spt 5 (lk tb n p)) else xI μ 557 j := fun j => by
      rw [xI_sI, u0 _ o3]
      by_cases e : j = row
      · rw [if_pos ⟨rfl, e⟩, if_pos e]
      · rw [if_neg (fun z => e z.2), if_neg e]
    generalize sI μ3 557 row (w (spt 5 (lk tb n p))) = μ6 at *
    rintro v7 μ7 ⟨o7, hv7⟩
    have h7x : 574 ≤ xN μ7 := by rw [o7.2]; exact h6.1.1
    have h7R : RM μ7 := RM_rd h6.1 o7
    have u7 : ∀ j, xI μ7 557 j = xI μ6 557 j := fun j => (o7.1 557 j (by unfold rdf; omega)).1
    refine ⟨iS _ _ h7x (by omega) (by omega), ?_⟩
    rintro μ9 rfl
    refine ⟨RM.r (μ := sI μ7 557 (row + 1) v7) h7R 23 557 rfl, iS _ _ h7x (by omega) (by omega), ?_⟩
    rintro μ12 rfl
    refine ⟨iS _ _ h7x (by omega) (by omega), ?_⟩
    rintro μ14 rfl
    have o14 : fr rsf μ (sI (sI (sI μ7 557 (row + 1) v7) 557 (row + 2) (w (-1))) 557 (row + 3) (w (-1))) := o6.trans ((ra o7).trans (((sa _ _ _).trans (sa _ _ _)).trans (sa _ _ _)))
    have u14 : ∀ j, xI (sI (sI (sI μ7 557 (row + 1) v7) 557 (row + 2) (w (-1))) 557 (row + 3) (w (-1))) 557 j = if j = row then w (spt 5 (lk tb n p)) else if j = row + 1 then v7 else if j = row + 2 then w (-1) else if j = row + 3 then w (-1) else xI μ 557 j := fun j => by
      rw [xI_sI, xI_sI, xI_sI, u7, u6]
      by_cases e3 : j = row + 3
      · rw [if_pos ⟨rfl, e3⟩, if_neg (by omega), if_neg (by omega), if_neg (by omega), if_pos e3]
      · rw [if_neg (fun z => e3 z.2)]
        by_cases e2 : j = row + 2
        · rw [if_pos ⟨rfl, e2⟩, if_neg (by omega), if_neg (by omega), if_pos e2]
        · rw [if_neg (fun z => e2 z.2)]
          by_cases e1 : j = row + 1
          · rw [if_pos ⟨rfl, e1⟩, if_neg (by omega), if_pos e1]
          · rw [if_neg (fun z => e1 z.2), if_neg e1, if_neg e2, if_neg e3]
    have f14 : xI (sI (sI (sI μ7 557 (row + 1) v7) 557 (row + 2) (w (-1))) 557 (row + 3) (w (-1))) 547 11 = xI μ7 547 11 := by
      rw [xI_sI, if_neg (by omega), xI_sI, if_neg (by omega), xI_sI, if_neg (by omega)]
    have t14 : ∀ {q : Nat}, RT μ7 n tb q → RT (sI (sI (sI μ7 557 (row + 1) v7) 557 (row + 2) (w (-1))) 557 (row + 3) (w (-1))) n tb q := fun hq => ((hq.pl _ _).pl _ _).pl _ _
    generalize sI (sI (sI μ7 557 (row + 1) v7) 557 (row + 2) (w (-1))) 557 (row + 3) (w (-1)) = μ14 at *
    have keep : ∀ j, (j < row ∨ row + 3 < j) → xI μ14 557 j = xI μ 557 j := fun j hj => by
      rw [u14, if_neg (by omega), if_neg (by omega), if_neg (by omega), if_neg (by omega)]
    rw [f14]
    rcases hv7 with ⟨⟨hg1, -⟩, rfl, f7, h7⟩ | ⟨hg1, rfl, f7, h7⟩
    · have h14 := t14 h7
      rw [f7] at f14
      rw [f7]
      refine ⟨fun _ => ?_, fun q => absurd rfl q⟩
      have es : stq tb n p = (if spt 5 (lk tb n p) = 4 then
      @ite _ (dg tb n (st2 tb n p)) (Classical.propDecidable _) (.inr (st2 tb n p + 1, v4 4 (10 * dv tb (st1 tb n p) + dv tb (st2 tb n p)) (-1) (-1))) (.inl (st2 tb n p))
    else if spt 5 (lk tb n p) = 0 then
      @ite _ (dg tb n (st2 tb n p)) (Classical.propDecidable _)
        (@ite _ (dg tb n (st3 tb n p) ∧ dv tb (st3 tb n p) ≤ 1) (Classical.propDecidable _) (.inr (st3 tb n p + 1, v4 0 (dv tb (st1 tb n p)) (dv tb (st2 tb n p)) (dv tb (st3 tb n p)))) (.inl (st3 tb n p)))
        (.inl (st2 tb n p))
    else .inr (st1 tb n p + 1, v4 (spt 5 (lk tb n p)) (dv tb (st1 tb n p)) (-1) (-1))) := by unfold stq; rw [if_neg q, if_pos hg1]
      rw [es]
      have hg1' := hg1
      unfold dg at hg1'
      have a1 : 0 ≤ dv tb (st1 tb n p) ∧ dv tb (st1 tb n p) ≤ 9 := by unfold dv; omega
      rw [show (tb (st1 tb n p) : Int) - 48 = dv tb (st1 tb n p) from rfl] at u14
      have x0 : xI μ14 557 row = w (spt 5 (lk tb n p)) := by rw [u14, if_pos rfl]
      have x1 : xI μ14 557 (row + 1) = w (dv tb (st1 tb n p)) := by rw [u14, if_neg (by omega), if_pos rfl]
      have x2 : xI μ14 557 (row + 2) = w (-1) := by rw [u14, if_neg (by omega), if_neg (by omega), if_pos rfl]
      have x3 : xI μ14 557 (row + 3) = w (-1) := by rw [u14, if_neg (by omega), if_neg (by omega), if_neg (by omega), if_pos rfl]
      have h14x := h14.1.1
      rw [w_inj (a := spt 5 (lk tb n p)) (b := 4) (by omega) (by omega) (by omega) (by omega)]
      simp only [w_inj (a := spt 5 (lk tb n p)) (b := 0) (by omega) (by omega) (by omega) (by omega), x1, w_mul]
      have e2 : sk tb n (st1 tb n p + 1) = st2 tb n p := rfl
      have e3 : sk tb n (st2 tb n p + 1) = st3 tb n p := rfl
      refine ⟨fun i4 => ⟨in556 h14x (by omega) (by omega), ?_⟩, fun i4 => ⟨fun i0 => ?_, fun i0 => ?_⟩⟩
      · rw [if_pos i4]
        refine (C_digitR (m := 9) (by omega) h14 f14 (by omega) (by omega)).conseq (KI.mono ?_)
        rw [e2]
        rintro v23 μ23 ⟨o23, hv23⟩
        have h23x : 574 ≤ xN μ23 := by rw [o23.2]; exact h14x
        have u23 : ∀ j, xI μ23 557 j = xI μ14 557 j := fun j => (o23.1 557 j (by unfold rdf; omega)).1
        refine ⟨iS _ _ h23x (by omega) (by omega), ?_⟩
        rintro μ25 rfl
        refine ⟨fun z => absurd z (by omega), fun _ => ?_⟩
        have oo := o14.trans ((ra o23).trans (sa μ23 (row + 1) (w (10 * dv tb (st1 tb n p)) + v23)))
        have k25 : ∀ j, (j < row ∨ row + 3 < j) → xI (sI μ23 557 (row + 1) (w (10 * dv tb (st1 tb n p)) + v23)) 557 j = xI μ 557 j := fun j hj => by
          rw [xI_sI, if_neg (by omega), u23, keep j hj]
        have f25 : xI (sI μ23 557 (row + 1) (w (10 * dv tb (st1 tb n p)) + v23)) 547 11 = xI μ23 547 11 := by rw [xI_sI, if_neg (by omega)]
        rcases hv23 with ⟨⟨hg2, -⟩, rfl, f23, h23⟩ | ⟨hg2, rfl, f23, h23⟩
        · rw [if_pos hg2]
          refine ⟨rfl, oo, k25, by rw [f25]; exact f23, h23.pl _ _, fun v hv => ?_⟩
          rcases (show v = 0 ∨ v = 1 ∨ v = 2 ∨ v = 3 by omega) with rfl | rfl | rfl | rfl
          · rw [xI_sI, if_neg (by omega), u23, Nat.add_zero, x0, i4]; rfl
          · rw [xI_sI, if_pos ⟨rfl, rfl⟩, w_add]; rfl
          · rw [xI_sI, if_neg (by omega), u23, x2]; rfl
          · rw [xI_sI, if_neg (by omega), u23, x3]; rfl
        · rw [if_neg (fun z => hg2 ⟨z, by unfold dg at z; omega⟩)]
          exact ⟨rfl, oo, k25, by rw [f25]; exact f23⟩
      · rw [if_neg i4, if_pos i0]
        refine (C_digitR (m := 9) (by omega) h14 f14 (by omega) (by omega)).conseq (KI.mono ?_)
        rw [e2]
        rintro v15 μ15 ⟨o15, hv15⟩
        have h15x : 574 ≤ xN μ15 := by rw [o15.2]; exact h14x
        have u15 : ∀ j, xI μ15 557 j = xI μ14 557 j := fun j => (o15.1 557 j (by unfold rdf; omega)).1
        refine ⟨iS _ _ h15x (by omega) (by omega), ?_⟩
        rintro μ17 rfl
        have oo := o14.trans ((ra o15).trans (sa μ15 (row + 2) v15))
        have u17 : ∀ j, xI (sI μ15 557 (row + 2) v15) 557 j = if j = row + 2 then v15 else xI μ14 557 j := fun j => by
          rw [xI_sI, u15]
          by_cases e : j = row + 2
          · rw [if_pos ⟨rfl, e⟩, if_pos e]
          · rw [if_neg (fun z => e z.2), if_neg e]
        have f17 : xI (sI μ15 557 (row + 2) v15) 547 11 = xI μ15 547 11 := by rw [xI_sI, if_neg (by omega)]
        have t17 : ∀ {q : Nat}, RT μ15 n tb q → RT (sI μ15 557 (row + 2) v15) n tb q := fun hq => hq.pl _ _
        generalize sI μ15 557 (row + 2) v15 = μ17 at *
        rw [f17]
        rcases hv15 with ⟨⟨hg2, -⟩, rfl, f15, h15⟩ | ⟨hg2, rfl, f15, h15⟩
        · rw [if_pos hg2, f15]
          have h17 := t17 h15
          rw [f15] at f17
          refine ⟨fun _ => ⟨h17.1.r 23 557 rfl, ?_⟩, fun z => absurd rfl z⟩
          refine (C_digitR (m := 1) (by omega) h17 f17 (by omega) (by omega)).conseq (KI.mono ?_)
          rw [e3]
          rintro v19 μ19 ⟨o19, hv19⟩
          have h19x : 574 ≤ xN μ19 := by rw [o19.2]; exact h17.1.1
          have u19 : ∀ j, xI μ19 557 j = xI μ17 557 j := fun j => (o19.1 557 j (by unfold rdf; omega)).1
          refine ⟨iS _ _ h19x (by omega) (by omega), ?_⟩
          rintro μ21 rfl
          have oo2 := oo.trans ((ra o19).trans (sa μ19 (row + 3) v19))
          have k21 : ∀ j, (j < row ∨ row + 3 < j) → xI (sI μ19 557 (row + 3) v19) 557 j = xI μ 557 j := fun j hj => by
            rw [xI_sI, if_neg (by omega), u19, u17, if_neg (by omega), keep j hj]
          have f21 : xI (sI μ19 557 (row + 3) v19) 547 11 = xI μ19 547 11 := by rw [xI_sI, if_neg (by omega)]
          rcases hv19 with ⟨hg3, rfl, f19, h19⟩ | ⟨hg3, rfl, f19, h19⟩
          · rw [if_pos (show dg tb n (st3 tb n p) ∧ dv tb (st3 tb n p) ≤ 1 from hg3)]
            refine ⟨rfl, oo2, k21, by rw [f21]; exact f19, h19.pl _ _, fun v hv => ?_⟩
            rcases (show v = 0 ∨ v = 1 ∨ v = 2 ∨ v = 3 by omega) with rfl | rfl | rfl | rfl
            · rw [xI_sI, if_neg (by omega), u19, u17, if_neg (by omega), Nat.add_zero, x0, i0]; rfl
            · rw [xI_sI, if_neg (by omega), u19, u17, if_neg (by omega), x1]; rfl
            · rw [xI_sI, if_neg (by omega), u19, u17, if_pos rfl]; rfl
            · rw [xI_sI, if_pos ⟨rfl, rfl⟩]; rfl
          · rw [if_neg (show ¬ (dg tb n (st3 tb n p) ∧ dv tb (st3 tb n p) ≤ 1) from hg3)]
            exact ⟨rfl, oo2, k21, by rw [f21]; exact f19⟩
        · rw [if_neg (fun z => hg2 ⟨z, by unfold dg at z; omega⟩), f15]
          have hsn := h15.2.2.2.2.2.2.2
          refine ⟨fun z => ?_, fun _ => ⟨rfl, oo, fun j hj => by rw [u17, if_neg (by omega), keep j hj], by rw [f17]; exact f15⟩⟩
          rw [w_inj (by omega) (by omega) (by omega) (by omega)] at z
          omega
      · rw [if_neg i4, if_neg i0]
        refine ⟨rfl, o14, keep, f14, h14, fun v hv => ?_⟩
        rcases (show v = 0 ∨ v = 1 ∨ v = 2 ∨ v = 3 by omega) with rfl | rfl | rfl | rfl
        · rw [Nat.add_zero, x0]; rfl
        · rw [x1]; rfl
        · rw [x2]; rfl
        · rw [x3]; rfl
    · rw [f7]
      have hsn := h7.2.2.2.2.2.2.2
      refine ⟨fun z => ?_, fun _ => ?_⟩
      · rw [w_inj (by omega) (by omega) (by omega) (by omega)] at z
        omega
      · have es : stq tb n p = .inl (st1 tb n p) := by unfold stq; rw [if_neg q, if_neg (fun z => hg1 ⟨z, by unfold dg at z; omega⟩)]
        rw [es]
        exact ⟨rfl, o14, keep, by rw [f14]; exact f7⟩
end OR2
