/-! THE REFERENCE'S QUESTIONS, second lot -/
section MR2
variable {Γ : XG} {d n s m T : Nat} {ru : Nat → Int} {ki bx mg : Nat → Nat → Int} {μ : XM} {Q : Option Value → XM → Prop}
theorem C_moreThanBorne (hd : 1 ≤ d) (hM : HM μ n ru ki) (hn : 0 < n) {p z : Int} (p1 : 0 ≤ p) (p2 : p ≤ 1000) (z1 : -1000000 ≤ z) (z2 : z ≤ 1000000) : Call Γ m_MO_moreThanBorne d [.ref 547, .int (w p), .int (w z)] μ (KI (fun r μ' => μ' = μ ∧ r = w (max 0 (z - brn ru p)))) := by
  obtain ⟨d, rfl⟩ : ∃ e, d = e + 1 := ⟨d - 1, by omega⟩
  have hu := hM.2.2.2.1
  have hb := brn_bd hu p1 p2
  unfold RU at hu
  refine Call.of ok_MO_moreThanBorne (Nat.le_of_ble_eq_true rfl) (B_MO_moreThanBorne_0 hM.1.o (hM.1.r 18 552 rfl) ?_)
  have h3 := mul_bd (a := ru 1) (b := p) (x := 24) (y := 1000) (by omega) (by omega) (by omega) (by omega)
  rw [show (w 0).toNatClampNeg = 0 by decide, show (w 1).toNatClampNeg = 1 by decide, hM.2.2.2.2.1 0 (by omega), hM.2.2.2.2.1 1 (by omega), w_mul, w_div h3.1 (by omega) (by omega) (by omega)]
  have e : brn ru p = ru 1 * p / ru 0 := by unfold brn; rw [if_pos (by omega)]
  rw [e] at hb
  rw [w_sub, jmax_w (by omega) (by omega) (by omega) (by omega), e]
  exact ⟨inb_of shmod.1 (by omega) hM.1.1 (by omega) (by omega), inb_of shmod.1 (by omega) hM.1.1 (by omega) (by omega), w_nz (by omega) (by omega), _, rfl, rfl, rfl⟩
theorem fullM_G (hM : HM μ n ru ki) (hn : 0 < n) {z : Int} (z1 : 1 ≤ z) (z2 : z ≤ 99) : ∀ (k i : Nat), (i : Int) + k = ru 0 + 1 → Q (some (.int (w (sch (fun p => decide (z ≤ brn ru p)) k i)))) μ → G Γ m_MO_full (d + 2) (0, 0) Q 17 [.ref 547, .int (w z), .int (w i)] [] μ := by
  have hu := hM.2.2.2.1
  have hu' := hu
  unfold RU at hu'
  intro k
  induction k with
  | zero =>
    intro i hi hQ
    refine B_MO_full_17 hM.1.o (hM.1.r 18 552 rfl) ⟨inb_of shmod.1 (by omega) hM.1.1 (by omega) (by omega), ?_⟩
    rw [show (w 0).toNatClampNeg = 0 by decide, hM.2.2.2.2.1 0 (by omega), w_lt (by omega) (by omega) (by omega) (by omega)]
    exact ⟨fun _ => hQ, fun q => absurd (by omega) q⟩
  | succ k ih =>
    intro i hi hQ
    refine B_MO_full_17 hM.1.o (hM.1.r 18 552 rfl) ⟨inb_of shmod.1 (by omega) hM.1.1 (by omega) (by omega), ?_⟩
    rw [show (w 0).toNatClampNeg = 0 by decide, hM.2.2.2.2.1 0 (by omega), w_lt (by omega) (by omega) (by omega) (by omega)]
    refine ⟨fun q => absurd q (by omega), fun _ => ?_⟩
    refine (C_moreThanBorne (by omega) hM hn (by omega) (by omega) (by omega) (by omega)).conseq (KI.mono ?_)
    rintro r μ1 ⟨rfl, rfl⟩
    have hb := brn_bd hu (p := i) (by omega) (by omega)
    rw [w_inj (by omega) (by omega) (by omega) (by omega), w_add]
    unfold sch at hQ
    refine ⟨fun q => ?_, fun q => ih (i + 1) (by omega) ?_⟩
    · rw [if_pos (by simp; omega)] at hQ; exact hQ
    · rw [if_neg (by simp; omega)] at hQ; exact hQ
theorem C_fullM (hd : 3 ≤ d) (hM : HM μ n ru ki) {z : Int} (z1 : -2147483648 ≤ z) (z2 : z < 2147483648) : Call Γ m_MO_full d [.ref 547, .int (w z)] μ (KI (fun r μ' => fr thr μ μ' ∧ ((isH n z ∧ r = w (sch (fun p => decide (z ≤ brn ru p)) (ru 0 + 1).toNat 0)) ∨ (¬ isH n z ∧ r = w (-1))))) := by
  obtain ⟨d, rfl⟩ : ∃ e, d = e + 3 := ⟨d - 3, by omega⟩
  refine Call.of ok_MO_full (Nat.le_of_ble_eq_true rfl) (B_MO_full_0 hM.1.o ?_)
  rintro μ1 rfl
  have h0 := th0 μ
  have hM1 := HM_th hM h0
  refine (C_isHoursM (by omega) hM1 z1 z2).conseq (KI.mono ?_)
  have hu := hM.2.2.2.1
  unfold RU at hu
  rintro r μ1 ⟨rfl, ⟨hz, rfl⟩ | ⟨hz, rfl⟩⟩
  · refine ⟨fun q => absurd q (by decide), fun _ => ?_⟩
    have hz' := hz
    unfold isH at hz'
    exact fullM_G (d := d + 1) hM1 (by omega) (by omega) (by omega) (ru 0 + 1).toNat 0 (by omega) ⟨_, rfl, h0, Or.inl ⟨hz, rfl⟩⟩
  · exact ⟨fun _ => ⟨_, rfl, h0, Or.inr ⟨hz, rfl⟩⟩, fun q => absurd rfl q⟩
theorem C_labelsOf (hd : 4 ≤ d) (hM : HM μ n ru ki) (hN : NR μ 559 0 s bx m T mg) (hn : 0 < n) {x y : Int} (x0 : 0 ≤ x) (x1 : x ≤ 1) (y0 : 0 ≤ y) (y1 : y ≤ 1) : Call Γ m_MO_labelsOf d [.ref 547, .int (w x), .int (w y)] μ (KI (fun r μ' => fr thr μ μ' ∧ r = lbl bx s x y)) := by
  obtain ⟨d, rfl⟩ : ∃ e, d = e + 1 := ⟨d - 1, by omega⟩
  refine Call.of ok_MO_labelsOf (Nat.le_of_ble_eq_true rfl) (B_MO_labelsOf_0 hM.1.o ?_)
  have e0 : w 3 * w 0 = w 0 := by decide
  have e1 : w 3 * w 1 = w 3 := by decide
  have ez : ∀ v : Int32, v - w 0 = v := fun v => by rw [show w 0 = (0 : Int32) from rfl, Int32.sub_zero]
  rw [w_add, w_lt (by omega) (by omega) (by omega) (by omega)]
  unfold lbl
  refine ⟨fun q => ?_, fun q => ?_⟩
  · refine (C_namelessM (by omega) hM hN).conseq (KI.mono ?_)
    rintro r μ1 ⟨ho, rfl⟩
    refine (C_bitCount (by omega)).conseq (KI.mono ?_)
    rintro r μ2 ⟨rfl, rfl⟩
    rw [if_pos hn, if_pos q]
    rcases (show x = 0 ∨ x = 1 by omega) with rfl | rfl
    · exact ⟨_, rfl, ho, by rw [if_neg (by omega), e0, ez]⟩
    · exact ⟨_, rfl, ho, by rw [if_pos rfl, e1]⟩
  · rw [if_neg q]
    rcases (show x = 0 ∨ x = 1 by omega) with rfl | rfl
    · exact ⟨_, rfl, fr.rf _ _, by rw [if_neg (by omega), e0, ez]⟩
    · exact ⟨_, rfl, fr.rf _ _, by rw [if_pos rfl, e1]⟩
end MR2
