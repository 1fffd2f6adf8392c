/-! A CLAUSE AND A WHOLE HOUSE, in the class -/
section HCQ
variable {Γ : XG} {d h n p : Nat} {tb : Nat → Nat} {μ : XM} {X : HT} {Q : Option Value → XM → Prop}
theorem C_readClauseF (hd : 4 ≤ d) (hh : HH μ h) (hT : TP μ n tb p) (hS : ST μ) (hX : HF μ h X) (hI : HI X) : Call Γ m_Ho_readClause d [.ref h, .ref 33] μ (KI (fun r μ' => CRF μ μ' h n tb (clF tb n p X) r)) := by
  obtain ⟨d, rfl⟩ : ∃ e, d = e + 2 := ⟨d - 2, by omega⟩
  have hn := hT.2.2.2.1
  have hp := hT.2.2.2.2.2.2
  have hhs := hh.1
  unfold HS at hhs
  have hbb : ∀ j, j < n → 1 ≤ tb j ∧ tb j ≤ 255 := fun j hj => (hT.2.2.2.2.1 j hj).2
  have hb := lk_bd (n := n) (p := p) hbb
  have hsk := sk_le tb hp
  refine Call.of ok_Ho_readClause (Nat.le_of_ble_eq_true rfl) (B_Ho_readClause_0 hT.ob hh.ob ?_)
  refine (C_ahead (by omega) hT).conseq (KI.mono ?_)
  rintro r μ1 ⟨rfl, rfl⟩
  have hT1 : TP (sI μ 33 2 (w (sk tb n p))) n tb (sk tb n p) := hT.mv hsk.2
  have o1 : fof (hcq h) μ (sI μ 33 2 (w (sk tb n p))) := f33q h _ _ _
  have x1 : xI (sI μ 33 2 (w (sk tb n p))) 33 1 = xI μ 33 1 := e33 rfl (by omega)
  have hX1 := hX.c33 hh.1 hI.1 (f33e μ 2 (w (sk tb n p)))
  generalize sI μ 33 2 (w (sk tb n p)) = μ1 at *
  have hh1 : HH μ1 h := hh.of o1.2.2.1 o1.2.2.2
  have hS1 := hS.fof o1 (fun c hc => by unfold hcq; omega)
  have hi1 := hI.1
  have hi2 := hI.2.1
  have a29 : xI μ1 h 5 = w 0 ↔ t0 X = false := by
    rw [hX1.2.1]
    unfold bit01
    cases t0 X <;> decide
  have tw : ∀ {r : Nat ⊕ (Nat × HT)} {μ' x}, CRF μ1 μ' h n tb r x → CRF μ μ' h n tb r x := fun z => ⟨o1.trans z.1, z.2.1.trans x1, z.2.2⟩
  have rest : ¬ (lk tb n p = 115 ∧ t0 X = false) → G Γ m_Ho_readClause (d + 2) (0, 0) (KI (fun r μ' => CRF μ μ' h n tb (clF tb n p X) r)) 46 [.ref h, .ref 33, .int (w (lk tb n p))] [] μ1 := by
    intro c1
    have e1 : clF tb n p X = if lk tb n p = 107 ∧ t1 X < 6 then bnd (itS tb n p 1) (fun v => (t0 X, t1 X + 1, t2 X, t3 X, upk (t4 X) (t1 X) v, t5 X))
      else if lk tb n p = 98 ∧ t2 X < 8 then bnd (itS tb n p 2) (fun v => (t0 X, t1 X, t2 X + 1, t3 X, t4 X, upk (t5 X) (t2 X) v))
      else .inl (sk tb n p) := if_neg c1
    have rest2 : ¬ (lk tb n p = 107 ∧ t1 X < 6) → G Γ m_Ho_readClause (d + 2) (0, 0) (KI (fun r μ' => CRF μ μ' h n tb (clF tb n p X) r)) 124 [.ref h, .ref 33, .int (w (lk tb n p))] [] μ1 := by
      intro c2
      rw [if_neg c2] at e1
      have f52 : ¬ (lk tb n p = 98 ∧ t2 X < 8) → Call Γ m_Ta_refuse (d + 1) [.ref 33] μ1 (KI (fun v1 μ' => ((v1 = w 0 ∨ v1 = w 1) ∧ KI (fun r μ' => CRF μ μ' h n tb (clF tb n p X) r) (some (.int v1)) μ'))) := by
        intro c3
        rw [if_neg c3] at e1
        refine (C_refuse (by omega) hT1).conseq (KI.mono ?_)
        rintro r μ2 ⟨rfl, rfl⟩
        refine ⟨Or.inl rfl, _, rfl, ?_⟩
        rw [e1]
        exact tw ⟨f33q h _ _ _, e33 rfl (by omega), rfl, by rw [xI_sI, if_pos ⟨rfl, rfl⟩]⟩
      refine B_Ho_readClause_124 hT1.ob hh1.ob hh1.2.2.2.2.2.1 hh1.2.2.2.2.2.2.1.ob ?_
      rw [hX1.2.2.2.2.2.2.2.1, w_inj (a := lk tb n p) (b := 98) (by omega) (by omega) (by omega) (by omega), w_lt (a := (t2 X : Nat)) (b := 8) (by omega) (by omega) (by omega) (by omega)]
      refine ⟨fun z => ⟨fun z2 => ?_, fun z2 => f52 (fun y => z2 (by omega))⟩, fun z => f52 (fun y => z y.1)⟩
      rw [if_pos ⟨z, by omega⟩] at e1
      refine clauseF_b (by omega) hh1 hT1 hp hS1 hX1 hI hbb z (by omega) (fun x μ' g => ⟨_, rfl, ?_⟩)
      rw [e1]
      exact tw g
    refine B_Ho_readClause_46 hh1.ob hT1.ob ?_
    rw [hX1.1, w_inj (a := lk tb n p) (b := 107) (by omega) (by omega) (by omega) (by omega), w_lt (a := (t1 X : Nat)) (b := 6) (by omega) (by omega) (by omega) (by omega)]
    refine ⟨fun z => ⟨fun z2 => ?_, fun z2 => rest2 (fun y => z2 (by omega))⟩, fun z => rest2 (fun y => z y.1)⟩
    rw [if_pos ⟨z, by omega⟩] at e1
    refine clauseF_k (by omega) hh1 hT1 hp hS1 hX1 z (by omega) (fun x μ' g => ⟨_, rfl, ?_⟩)
    rw [e1]
    exact tw g
  rw [w_inj (a := lk tb n p) (b := 115) (by omega) (by omega) (by omega) (by omega), a29]
  refine ⟨fun z => ⟨fun z2 => ?_, fun z2 => rest (fun y => z2 y.2)⟩, fun z => rest (fun y => z y.1)⟩
  have e1 : clF tb n p X = bnd (itS tb n p 0) (fun v => (true, t1 X, t2 X, v, t4 X, t5 X)) := if_pos ⟨z, z2⟩
  refine clauseF_s (by omega) hh1 hT1 hp hS1 hX1 hI z z2 (fun x μ' g => ⟨_, rfl, ?_⟩)
  rw [e1]
  exact tw g
def wf1 (X : HT) (i : Nat) : Prop := (0 < t1 X ∧ bsum (t5 X) 1 (t2 X) ≤ t3 X 0) ∧ ∀ k, k < i → t4 X k 4 = 6 ∨ t4 X k 4 < t1 X
def wf2 (X : HT) (i : Nat) : Prop := wf1 X (t1 X) ∧ ∀ k, k < i → t5 X k 0 < t1 X
theorem wf1_s {X : HT} {i : Nat} : wf1 X (i + 1) ↔ wf1 X i ∧ (t4 X i 4 = 6 ∨ t4 X i 4 < t1 X) := ⟨fun h => ⟨⟨h.1, fun k hk => h.2 k (by omega)⟩, h.2 i (by omega)⟩, fun h => ⟨h.1.1, fun k hk => by
  by_cases e : k = i
  · rw [e]; exact h.2
  · exact h.1.2 k (by omega)⟩⟩
theorem wf2_s {X : HT} {i : Nat} : wf2 X (i + 1) ↔ wf2 X i ∧ t5 X i 0 < t1 X := ⟨fun h => ⟨⟨h.1, fun k hk => h.2 k (by omega)⟩, h.2 i (by omega)⟩, fun h => ⟨h.1.1, fun k hk => by
  by_cases e : k = i
  · rw [e]; exact h.2
  · exact h.1.2 k (by omega)⟩⟩
theorem hwh_f {X : HT} : hwh X ↔ wf2 X (t2 X) := ⟨fun h => ⟨⟨⟨h.1, h.2.1⟩, h.2.2.1⟩, h.2.2.2⟩, fun h => ⟨h.1.1.1, h.1.1.2, h.1.2, h.2⟩⟩
theorem wholeF_80 (hh : HH μ h) (hX : HF μ h X) (hI : HI X) (hQ : ∀ r, flg (hwh X) r → Q (some (.int r)) μ) : ∀ (f i : Nat) (x : Int32), i + f = t2 X → flg (wf2 X i) x → G Γ m_Ho_isWhole (d + 1) (0, 0) Q 80 [.ref h, .int x, .int (w (i : Int))] [] μ := by
  obtain ⟨b1, b2, b3, b4, b5⟩ := hX
  have hi1 := hI.1
  have hi2 := hI.2.1
  intro f
  induction f with
  | zero =>
    intro i x hi hx
    refine B_Ho_isWhole_80 hh.ob hh.2.2.2.2.2.1 b5.1.ob b5.1.2.2.1 ?_
    rw [b5.2.2.2.1, w_lt (by omega) (by omega) (by omega) (by omega)]
    have ei : i = t2 X := by omega
    subst ei
    refine ⟨fun z => absurd z (by omega), fun _ => ⟨?_, hQ _ ?_⟩⟩
    · rcases hx with ⟨hA, rfl⟩ | ⟨hA, rfl⟩
      · exact Or.inr rfl
      · exact Or.inl rfl
    · rcases hx with ⟨hA, rfl⟩ | ⟨hA, rfl⟩
      · exact Or.inl ⟨hwh_f.mpr hA, rfl⟩
      · exact Or.inr ⟨fun z => hA (hwh_f.mp z), rfl⟩
  | succ f ih =>
    intro i x hi hx
    obtain ⟨⟨q0, -⟩, hbb⟩ := b5.2.2.2.2.2 i (by omega)
    have hk := IV_2 (hI.2.2.2.2.1 i (by omega))
    rw [lbx_o _ _ _ (by omega)] at q0
    refine B_Ho_isWhole_80 hh.ob hh.2.2.2.2.2.1 b5.1.ob b5.1.2.2.1 ?_
    have i0 := (b5.1.is (q := 1) (by omega) (by omega) (i := i) (by omega) (by omega)).2
    rw [b5.2.2.2.1, b1, w_cln (by omega), q0, w_lt (a := (i : Int)) (by omega) (by omega) (by omega) (by omega), w_lt (a := t5 X i 0) (by omega) (by omega) (by omega) (by omega), w_add, show (i : Int) + 1 = ((i + 1 : Nat) : Int) by omega]
    refine ⟨fun _ => ?_, fun z => absurd (by omega) z⟩
    rcases hx with ⟨hA, rfl⟩ | ⟨hA, rfl⟩
    · exact ⟨fun z => absurd z w01, fun _ => ⟨i0, fun z => ih (i + 1) _ (by omega) (Or.inl ⟨wf2_s.mpr ⟨hA, z⟩, rfl⟩), fun z => ih (i + 1) _ (by omega) (Or.inr ⟨fun y => z (wf2_s.mp y).2, rfl⟩)⟩⟩
    · exact ⟨fun _ => ih (i + 1) _ (by omega) (Or.inr ⟨fun y => hA (wf2_s.mp y).1, rfl⟩), fun z => absurd rfl z⟩
theorem wholeF_31 (hh : HH μ h) (hX : HF μ h X) (hI : HI X) (hQ : ∀ r, flg (hwh X) r → Q (some (.int r)) μ) : ∀ (f i : Nat) (x : Int32), i + f = t1 X → flg (wf1 X i) x → G Γ m_Ho_isWhole (d + 1) (0, 0) Q 31 [.ref h, .int x, .int (w (i : Int))] [] μ := by
  have hX' := hX
  obtain ⟨b1, b2, b3, b4, b5⟩ := hX
  have hi1 := hI.1
  have hs := hh.1.s
  have hhs := hh.1
  unfold HS at hhs
  intro f
  induction f with
  | zero =>
    intro i x hi hx
    refine B_Ho_isWhole_31 hh.ob hh.2.2.2.1 ?_
    rw [b1, w_lt (by omega) (by omega) (by omega) (by omega)]
    have ei : i = t1 X := by omega
    subst ei
    refine ⟨fun z => absurd z (by omega), fun _ => wholeF_80 hh hX' hI hQ (t2 X) 0 x (by omega) ?_⟩
    rcases hx with ⟨hA, rfl⟩ | ⟨hA, rfl⟩
    · exact Or.inl ⟨⟨hA, fun k hk => absurd hk (Nat.not_lt_zero _)⟩, rfl⟩
    · exact Or.inr ⟨fun y => hA y.1, rfl⟩
  | succ f ih =>
    intro i x hi hx
    have hv := hI.v1 (k := i) (by omega)
    have q4 := b4 i (by omega) 4 (by omega)
    refine B_Ho_isWhole_31 hh.ob hh.2.2.2.1 ?_
    rw [b1, w_cln (by omega), w_lt (a := (i : Int)) (by omega) (by omega) (by omega) (by omega), w_add, show (i : Int) + 1 = ((i + 1 : Nat) : Int) by omega]
    refine ⟨fun _ => ⟨inb_of hs.2.2.1 (by omega) hh.2.1 (by omega) (by omega), h + 3 + i, hh.2.2.2.2.2.2.2 i (by omega), inb_of (hs.2.2.2.1 i (by omega)) (by omega) hh.2.1 (by omega) (by omega), ?_⟩, fun z => absurd (by omega) z⟩
    rw [show (w 4).toNatClampNeg = 4 by decide, q4, w_inj (a := t4 X i 4) (b := 6) (by omega) (by omega) (by omega) (by omega), w_lt (a := t4 X i 4) (by omega) (by omega) (by omega) (by omega)]
    rcases hx with ⟨hA, rfl⟩ | ⟨hA, rfl⟩
    · exact ⟨fun z => absurd z w01, fun _ => ⟨fun z => ih (i + 1) _ (by omega) (Or.inl ⟨wf1_s.mpr ⟨hA, Or.inl z⟩, rfl⟩), fun z => ⟨fun z2 => ih (i + 1) _ (by omega) (Or.inl ⟨wf1_s.mpr ⟨hA, Or.inr z2⟩, rfl⟩), fun z2 => ih (i + 1) _ (by omega) (Or.inr ⟨fun y => (wf1_s.mp y).2.elim z z2, rfl⟩)⟩⟩⟩
    · exact ⟨fun _ => ih (i + 1) _ (by omega) (Or.inr ⟨fun y => hA (wf1_s.mp y).1, rfl⟩), fun z => absurd rfl z⟩
theorem C_isWholeF (hd : 2 ≤ d) (hh : HH μ h) (hX : HF μ h X) (hI : HI X) : Call Γ m_Ho_isWhole d [.ref h] μ (KI (fun r μ' => μ' = μ ∧ flg (hwh X) r)) := by
  obtain ⟨d, rfl⟩ : ∃ e, d = e + 1 := ⟨d - 1, by omega⟩
  have hi1 := hI.1
  have hs := hh.1.s
  have hhs := hh.1
  unfold HS at hhs
  have hsum := hI.sum (i := t2 X) (by omega)
  have hr0 := hI.r0
  refine Call.of ok_Ho_isWhole (Nat.le_of_ble_eq_true rfl) (B_Ho_isWhole_0 hh.ob hh.2.2.2.2.2.1 hX.2.2.2.2.1.ob ?_)
  rw [hX.1, w_lt (by omega) (by omega) (by omega) (by omega)]
  have go : ∀ x, flg (wf1 X 0) x → G Γ m_Ho_isWhole (d + 1) (0, 0) (KI (fun r μ' => μ' = μ ∧ flg (hwh X) r)) 31 [.ref h, .int x, .int (w 0)] [] μ := fun x hx => wholeF_31 hh hX hI (fun r h => ⟨_, rfl, rfl, h⟩) (t1 X) 0 _ (by omega) hx
  refine ⟨fun z => ?_, fun z => go _ (Or.inr ⟨fun y => z (by have := y.1.1; omega), rfl⟩)⟩
  refine (C_portionsInAll (by omega) hX.2.2.2.2).conseq (KI.mono ?_)
  rintro r μ1 ⟨rfl, rfl⟩
  rw [bsum_lbx]
  refine ⟨h + 1, hh.2.2.1, inb_of hs.2.1 (by omega) hh.2.1 (by omega) (by omega), ?_⟩
  rw [show (w 0).toNatClampNeg = 0 by decide, hX.2.2.1 0 (by omega), w_lt (by omega) (by omega) (by omega) (by omega)]
  exact ⟨fun y => go _ (Or.inr ⟨fun u => by have := u.1.2; omega, rfl⟩), fun y => go _ (Or.inl ⟨⟨⟨by omega, by omega⟩, fun k hk => absurd hk (Nat.not_lt_zero _)⟩, rfl⟩)⟩
/-- how the reading of a house ends -/
def HRF (μ μ' : XM) (h n : Nat) (tb : Nat → Nat) (r : Nat ⊕ HT) (x : Int32) : Prop := fof (hcq h) μ μ' ∧ TN μ' n tb ∧ match r with
  | .inl q => x = w 0 ∧ xI μ' 33 3 = w q
  | .inr X => x = w 1 ∧ HF μ' h X
theorem TNof {μ μ' : XM} (h : TN μ n tb) {h0 : Nat} (ho : fof (hcq h0) μ μ') (hp : 35 ≤ h0) (x1 : xI μ' 33 1 = xI μ 33 1) : TN μ' n tb := by
  obtain ⟨a1, a2, a3, a4, a5⟩ := h
  exact ⟨by rw [ho.2.2.1]; exact a1, by rw [ho.2.2.2]; exact a2, by rw [x1]; exact a3, a4, fun j hj => by rw [ho.1 34 (by unfold hcq; omega)]; exact a5 j hj⟩
theorem readFromH_39 (hd : 3 ≤ d) : ∀ (f cl p : Nat) (X : HT) (μ1 : XM), cl + f = 241 → cl ≤ p → fof (hcq h) μ μ1 → HH μ1 h → ST μ1 → TP μ1 n tb p → HF μ1 h X → HI X → (∀ x μ', HRF μ μ' h n tb (hsF tb n f p X) x → Q (some (.int x)) μ') → G Γ m_Ho_readFrom (d + 2) (0, 0) Q 39 [.ref h, .ref 33, .int (w (cl : Int))] [] μ1 := by
  intro f
  induction f with
  | zero =>
    intro cl p X μ1 hc hp ho hh hS h
    have := h.2.2.2.1
    have := h.2.2.2.2.2.2
    omega
  | succ f ih =>
    intro cl p X μ1 hc hp ho hh hS hT hX hI hQ
    have hn := hT.2.2.2.1
    have hpn := hT.2.2.2.2.2.2
    have hhs := hh.1
    unfold HS at hhs
    have hbb : ∀ j, j < n → 1 ≤ tb j ∧ tb j ≤ 255 := fun j hj => (hT.2.2.2.2.1 j hj).2
    refine B_Ho_readFrom_39 hT.ob hh.ob ?_
    rw [w_lt (by omega) (by omega) (by omega) (by omega)]
    refine ⟨fun z => absurd z (by omega), fun _ => ?_⟩
    refine (C_readClauseF (by omega) hh hT hS hX hI).conseq (KI.mono ?_)
    rintro x μ2 ⟨o2, x2, r2⟩
    have hk := clF_ok hbb hpn hI
    have oo2 := ho.trans o2
    have hh2 : HH μ2 h := hh.of o2.2.2.1 o2.2.2.2
    have hS2 := hS.fof o2 (fun c hc => by unfold hcq; omega)
    have tn2 := TNof hT.tn o2 (by omega) x2
    have eP : hsF tb n (f + 1) p X = match clF tb n p X with
      | .inl q => .inl q
      | .inr u => if lk tb n u.1 = -1 then (@ite _ (hwh u.2) (Classical.propDecidable _) (.inr u.2) (.inl (sk tb n u.1))) else if lk tb n u.1 = 59 then hsF tb n f (sk tb n u.1 + 1) u.2 else .inl (sk tb n u.1) := rfl
    rw [eP] at hQ
    revert hk r2 hQ
    generalize clF tb n p X = r
    intro hQ r2 hk
    match r, hk, r2, hQ with
    | .inl q, hk, r3, hQ =>
      obtain ⟨rfl, r4⟩ := r3
      exact ⟨fun _ => hQ _ _ ⟨oo2, tn2, rfl, r4⟩, fun z => absurd rfl z⟩
    | .inr u, hk, r3, hQ =>
      obtain ⟨rfl, hT2, hX2⟩ := r3
      obtain ⟨k1, k2, k3⟩ := hk
      have hb := lk_bd (n := n) (p := u.1) hbb
      have hsk := sk_le tb k2
      dsimp only at hQ
      refine ⟨fun z => absurd z w01, fun _ => ?_⟩
      refine (C_ahead (by omega) hT2).conseq (KI.mono ?_)
      rintro r μ3 ⟨rfl, rfl⟩
      have hT3 : TP (sI μ2 33 2 (w (sk tb n u.1))) n tb (sk tb n u.1) := hT2.mv hsk.2
      have o3 : fof (hcq h) μ (sI μ2 33 2 (w (sk tb n u.1))) := oo2.trans (f33q h _ _ _)
      have hX3 := hX2.c33 hh.1 k3.1 (f33e μ2 2 (w (sk tb n u.1)))
      have hh3 : HH (sI μ2 33 2 (w (sk tb n u.1))) h := hh2
      have hS3 := hS2.fof (f33q h μ2 2 (w (sk tb n u.1))) (fun c hc => by unfold hcq; omega)
      generalize sI μ2 33 2 (w (sk tb n u.1)) = μ3 at *
      rw [w_inj (by omega) (by omega) (by omega) (by omega)]
      refine ⟨fun z => ?_, fun z => ?_⟩
      · rw [if_pos z] at hQ
        refine (C_isWholeF (by omega) hh3 hX3 k3).conseq (KI.mono ?_)
        rintro r μ4 ⟨rfl, ⟨hA, rfl⟩ | ⟨hA, rfl⟩⟩
        · rw [if_pos hA] at hQ
          exact ⟨fun y => absurd y w01, fun _ => hQ _ _ ⟨o3, hT3.tn, rfl, hX3⟩⟩
        · rw [if_neg hA] at hQ
          refine ⟨fun _ => ?_, fun y => absurd rfl y⟩
          refine (C_refuse (by omega) hT3).conseq (KI.mono ?_)
          rintro r μ5 ⟨rfl, rfl⟩
          exact ⟨fun _ => hQ _ _ ⟨o3.trans (f33q h _ _ _), (hT3.fl _).tn, rfl, by rw [xI_sI, if_pos ⟨rfl, rfl⟩]⟩, fun y => absurd rfl y⟩
      · rw [if_neg z] at hQ
        refine (C_demand (by omega) hT3 (c := 59) (by omega) (by omega)).conseq (KI.mono ?_)
        rw [lk_sk tb k2, sk_sk tb k2]
        rintro r μ4 ⟨g1, g2⟩
        by_cases l59 : lk tb n u.1 = 59
        · obtain ⟨rfl, rfl⟩ := g1 l59
          rw [if_pos l59] at hQ
          have hlt : sk tb n u.1 < n := lk_lt l59 (by omega)
          refine ⟨fun y => absurd y w01, fun _ => ?_⟩
          rw [w_add, show (cl : Int) + 1 = ((cl + 1 : Nat) : Int) by omega]
          exact ih (cl + 1) (sk tb n u.1 + 1) u.2 _ (by omega) (by omega) (o3.trans (f33q h _ _ _)) hh3 (hS3.fof (f33q h _ _ _) (fun c hc => by unfold hcq; omega)) (hT3.mv (by omega)) (hX3.c33 hh.1 k3.1 (f33e _ _ _)) k3 hQ
        · obtain ⟨rfl, rfl⟩ := g2 l59
          rw [if_neg l59] at hQ
          exact ⟨fun _ => hQ _ _ ⟨(o3.trans (f33q h _ _ _)).trans (f33q h _ _ _), ((hT3.mv hsk.2).fl _).tn, rfl, by rw [xI_sI, if_pos ⟨rfl, rfl⟩]⟩, fun y => absurd rfl y⟩
theorem C_readHouseF (hd : 5 ≤ d) (hh : HH μ h) (hS : ST μ) (hT : TN μ n tb) : Call Γ m_Ho_readFrom d [.ref h, .ref 33] μ (KI (fun r μ' => HRF μ μ' h n tb (hse tb n) r)) := by
  obtain ⟨d, rfl⟩ : ∃ e, d = e + 2 := ⟨d - 2, by omega⟩
  have hs := hh.1.s
  have hhs := hh.1
  unfold HS at hhs
  have hN := hh.2.1
  have hob : zob μ 33 9 := ob_of rfl (by omega) hN
  refine Call.of ok_Ho_readFrom (Nat.le_of_ble_eq_true rfl) (B_Ho_readFrom_0 hh.ob hh.2.2.1 hh.2.2.2.2.2.1 hh.2.2.2.2.2.2.1.ob hob ?_)
  rintro μ1 rfl μ2 rfl
  refine ⟨4, ar_of rfl (by omega) hN, cpo_of (na := 4) rfl hs.2.1 (by omega) (by omega) (by omega) hN (by omega) (by omega), ?_⟩
  rintro μ5 rfl
  have o5 : fof (hcq h) μ (sC (sI (sI μ h 4 (w 0)) h 5 (w 0)) 0 (h + 1) 4) := ((fof.sI (P := hcq h) _ _ _ (Or.inr (by omega))).trans (fof.sI (P := hcq h) _ _ _ (Or.inr (by omega)))).trans (fof.sC (P := hcq h) _ _ _ (Or.inr (by omega)))
  have u5 : ∀ c j, c < h → xI (sC (sI (sI μ h 4 (w 0)) h 5 (w 0)) 0 (h + 1) 4) c j = xI μ c j := fun c j hc => by rw [xI_sC, if_neg (by omega), xI_sI, if_neg (by omega), xI_sI, if_neg (by omega)]
  have v5 : ∀ j, j < 4 → xI (sC (sI (sI μ h 4 (w 0)) h 5 (w 0)) 0 (h + 1) 4) (h + 1) j = w (hus 0 j) := fun j hj => by rw [xI_sC, if_pos ⟨rfl, hj⟩, xI_sI, if_neg (by omega), xI_sI, if_neg (by omega)]; exact hS 0 j _ (stl 0 (by omega) j hj).2.2
  have g4 : xI (sC (sI (sI μ h 4 (w 0)) h 5 (w 0)) 0 (h + 1) 4) h 4 = w 0 := by rw [xI_sC, if_neg (by omega), xI_sI, if_neg (by omega), xI_sI, if_pos ⟨rfl, rfl⟩]
  have g5 : xI (sC (sI (sI μ h 4 (w 0)) h 5 (w 0)) 0 (h + 1) 4) h 5 = w 0 := by rw [xI_sC, if_neg (by omega), xI_sI, if_pos ⟨rfl, rfl⟩]
  generalize sC (sI (sI μ h 4 (w 0)) h 5 (w 0)) 0 (h + 1) 4 = μ5 at *
  have hh5 : HH μ5 h := hh.of o5.2.2.1 o5.2.2.2
  refine (C_clear (bx := lbx (t5 HT0)) (by omega) hh5.2.2.2.2.2.2.1).conseq (KV.mono ?_)
  rintro μ6 ⟨o6, p6⟩
  have oo6 : fof (hcq h) μ μ6 := o5.trans (o6.fof (fun c c1 c2 => by unfold hcq; omega))
  have u6 : ∀ c j, c < h + 10 → xI μ6 c j = xI μ5 c j := fun c j hc => o6.1 c (by omega) j
  have hN6 : 574 ≤ xN μ6 := by rw [oo6.2.2.2]; exact hN
  refine (C_rewind (by omega) (ob_of rfl (by omega) hN6)).conseq (KV.mono ?_)
  rintro μ7 rfl
  have o7 : fof (hcq h) μ6 (sI (sI μ6 33 2 (w 0)) 33 3 (w (-1))) := (f33q h _ _ _).trans (f33q h _ _ _)
  have q7 : fof (fun c => c = 33) μ6 (sI (sI μ6 33 2 (w 0)) 33 3 (w (-1))) := (f33e _ _ _).trans (f33e _ _ _)
  have x7 : xI (sI (sI μ6 33 2 (w 0)) 33 3 (w (-1))) 33 1 = xI μ 33 1 := e33 (e33 (by rw [u6 _ _ (by omega), u5 _ _ (by omega)]) (by omega)) (by omega)
  have oo7 := oo6.trans o7
  have hTn := TNof hT oo7 (by omega) x7
  have hT7 : TP (sI (sI μ6 33 2 (w 0)) 33 3 (w (-1))) n tb 0 := ⟨hTn.1, hTn.2.1, hTn.2.2.1, hTn.2.2.2.1, hTn.2.2.2.2, by rw [xI_sI, if_neg (by omega), xI_sI, if_pos ⟨rfl, rfl⟩]; rfl, Nat.zero_le _⟩
  have hX6 : HF μ6 h HT0 := ⟨by rw [u6 _ _ (by omega)]; exact g4, by rw [u6 _ _ (by omega)]; exact g5, fun j hj => by rw [u6 _ _ (by omega)]; exact v5 j hj, fun k hk => absurd hk (Nat.not_lt_zero _), p6⟩
  exact readFromH_39 (d := d) (μ := μ) (by omega) 241 0 0 HT0 _ (by omega) (by omega) oo7 (hh.of oo7.2.2.1 oo7.2.2.2) (hS.fof oo7 (fun c hc => by unfold hcq; omega)) hT7 (hX6.c33 hh.1 HI_0.1 q7) HI_0 (fun x μ' hP => ⟨_, rfl, hP⟩)
end HCQ
