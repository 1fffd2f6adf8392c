/-! THE REFERENCE'S QUESTIONS, third lot: who labels, who rests -/
section ML
variable {Γ : XG} {d n s m T : Nat} {ru : Nat → Int} {ki bx mg : Nat → Nat → Int} {μ : XM} {Q : Option Value → XM → Prop}
theorem C_labelsM (hd : 5 ≤ d) (hM : HM μ n ru ki) (hN : NR μ 559 0 s bx m T mg) {x y : Int} (x1 : -2147483648 ≤ x) (x2 : x < 2147483648) (y1 : -2147483648 ≤ y) (y2 : y < 2147483648) : Call Γ m_MO_labels d [.ref 547, .int (w x), .int (w y)] μ (KI (fun r μ' => fr thr μ μ' ∧ r = if 0 < n ∧ 0 ≤ x ∧ x ≤ 1 ∧ 0 ≤ y ∧ y ≤ 1 then lbl bx s x y else w (-1000000))) := by
  obtain ⟨d, rfl⟩ : ∃ e, d = e + 1 := ⟨d - 1, by omega⟩
  have hn := hM.2.1
  refine Call.of ok_MO_labels (Nat.le_of_ble_eq_true rfl) (B_MO_labels_0 hM.1.o ?_)
  rintro μ1 rfl
  have h0 := th0 μ
  have hM1 := HM_th hM h0
  have hN1 := hN.fr h0 (fun j => by unfold thr; omega)
  rw [hM1.2.2.1, w_lt (by omega) (by omega) (by omega) (by omega), w_l x1 x2, w_l y1 y2]
  refine ⟨fun q => ?_, fun q => ⟨_, rfl, h0, by rw [if_neg (by omega)]⟩⟩
  refine (C_isIn (x := 0) (y := 1) (by omega) (by omega) (by omega) (by omega) (by omega) (by omega) (by omega)).conseq (KI.mono ?_)
  rintro r μ2 ⟨rfl, ⟨g1, g2, rfl⟩ | ⟨g1, rfl⟩⟩
  · refine ⟨fun q2 => absurd q2 (by decide), fun _ => ?_⟩
    refine (C_isIn (x := 0) (y := 1) (by omega) (by omega) (by omega) (by omega) (by omega) (by omega) (by omega)).conseq (KI.mono ?_)
    rintro r μ2 ⟨rfl, ⟨g3, g4, rfl⟩ | ⟨g3, rfl⟩⟩
    · refine ⟨fun q2 => absurd q2 (by decide), fun _ => ?_⟩
      refine (C_labelsOf (by omega) hM1 hN1 (by omega) g1 g2 g3 g4).conseq (KI.mono ?_)
      rintro r μ3 ⟨ho, rfl⟩
      exact ⟨_, rfl, h0.trans ho, by rw [if_pos (by omega)]⟩
    · exact ⟨fun _ => ⟨_, rfl, h0, by rw [if_neg (by omega)]⟩, fun q2 => absurd rfl q2⟩
  · exact ⟨fun _ => ⟨_, rfl, h0, by rw [if_neg (by omega)]⟩, fun q2 => absurd rfl q2⟩
theorem restsM_G {z : Int} (z1 : -2147483648 ≤ z) (z2 : z < 2147483648) (hn : 0 < n) : ∀ (f i c : Nat) (μ : XM), i + f = 4 → c ≤ i → HM μ n ru ki → NR μ 559 0 s bx m T mg → (∀ μ', fr thr μ μ' → Q (some (.int (w (rst (lbl bx s) z f i c)))) μ') → G Γ m_MO_rests (d + 5) (0, 0) Q 23 [.ref 547, .int (w z), .int (w c), .int (w i)] [] μ := by
  intro f
  induction f with
  | zero =>
    intro i c μ hi hc hM hN hQ
    refine B_MO_rests_23 hM.1.o ?_
    rw [w_lt (by omega) (by omega) (by omega) (by omega)]
    unfold rst at hQ
    have hQ := hQ μ (fr.rf _ _)
    refine ⟨fun q => absurd q (by omega), fun _ => ⟨fun q => ?_, fun q => ?_⟩⟩
    · rw [w_inj (by omega) (by omega) (by omega) (by omega)] at q
      rw [if_pos q] at hQ; exact hQ
    · rw [w_inj (by omega) (by omega) (by omega) (by omega)] at q
      rw [if_neg q] at hQ; exact hQ
  | succ f ih =>
    intro i c μ hi hc hM hN hQ
    refine B_MO_rests_23 hM.1.o ?_
    unfold rst at hQ
    have st : ∀ {μ1 μ2 : XM}, fr thr μ1 μ2 → NR μ1 559 0 s bx m T mg → NR μ2 559 0 s bx m T mg := fun ho h => h.fr ho (fun j => by unfold thr; omega)
    rw [w_lt (by omega) (by omega) (by omega) (by omega), w_rem (by omega) (by omega) (by omega) (by omega), w_div (by omega) (by omega) (by omega) (by omega), show ((i : Int) / 2) = ((i / 2 : Nat) : Int) by omega, show ((i : Int) % 2) = ((i % 2 : Nat) : Int) by omega, w_sub, w_sub]
    refine ⟨fun _ => ⟨by decide, by decide, ?_⟩, fun q => absurd (by omega) q⟩
    refine (C_labelsOf (d := d + 4) (by omega) hM hN hn (by omega) (by omega) (by omega) (by omega)).conseq (KI.mono ?_)
    rintro r μ1 ⟨o1, rfl⟩
    have hM1 := HM_th hM o1
    have hN1 := st o1 hN
    refine (C_labelsOf (d := d + 4) (by omega) hM1 hN1 hn (by omega) (by omega) (by omega) (by omega)).conseq (KI.mono ?_)
    rintro r μ2 ⟨o2, rfl⟩
    have hM2 := HM_th hM1 o2
    have hN2 := st o2 hN1
    have o12 := o1.trans o2
    rw [w_add, w_add]
    refine ⟨fun q => ?_, fun q => ?_⟩
    · rw [if_pos (Or.inl q)] at hQ
      exact ih (i + 1) c μ2 (by omega) (by omega) hM2 hN2 (fun μ3 g => hQ μ3 (o12.trans g))
    · refine (C_labelsOf (d := d + 4) (by omega) hM2 hN2 hn (by omega) (by omega) (by omega) (by omega)).conseq (KI.mono ?_)
      rintro r μ3 ⟨o3, rfl⟩
      have hM3 := HM_th hM2 o3
      have hN3 := st o3 hN2
      refine (C_labelsOf (d := d + 4) (by omega) hM3 hN3 hn (by omega) (by omega) (by omega) (by omega)).conseq (KI.mono ?_)
      rintro r μ4 ⟨o4, rfl⟩
      have hM4 := HM_th hM3 o4
      have hN4 := st o4 hN3
      have o14 := (o12.trans o3).trans o4
      refine ⟨fun q2 => ?_, fun q2 => ?_⟩
      · rw [if_pos (Or.inr q2)] at hQ
        exact ih (i + 1) c μ4 (by omega) (by omega) hM4 hN4 (fun μ5 g => hQ μ5 (o14.trans g))
      · rw [if_neg (fun q3 => q3.elim q q2)] at hQ
        rw [w_inj (by omega) (by omega) (by omega) (by omega)]
        refine ⟨fun q3 => ?_, fun q3 => ?_⟩
        · rw [if_pos q3] at hQ
          rw [w_mul, w_add]
          exact hQ μ4 o14
        · rw [if_neg q3] at hQ
          exact ih (i + 1) (c + 1) μ4 (by omega) (by omega) hM4 hN4 (fun μ5 g => hQ μ5 (o14.trans g))
end ML
