/-! THE REFERENCE'S QUESTIONS, first lot -/
section MQ
variable {Γ : XG} {d n s m T : Nat} {ru : Nat → Int} {ki bx mg : Nat → Nat → Int} {μ : XM} {Q : Option Value → XM → Prop}
theorem C_ruleM (hd : 2 ≤ d) (hM : HM μ n ru ki) {z : Int} (z1 : -2147483648 ≤ z) (z2 : z < 2147483648) : Call Γ m_MO_rule d [.ref 547, .int (w z)] μ (KI (fun r μ' => fr thr μ μ' ∧ r = if 0 < n ∧ 0 ≤ z ∧ z < 4 then w (ru z.toNat) else w (-1))) := by
  obtain ⟨d, rfl⟩ : ∃ e, d = e + 1 := ⟨d - 1, by omega⟩
  have hn := hM.2.1
  refine Call.of ok_MO_rule (Nat.le_of_ble_eq_true rfl) (B_MO_rule_0 hM.1.o ?_)
  rintro μ1 rfl
  have h0 := th0 μ
  have hM1 := HM_th hM h0
  rw [hM1.2.2.1, w_lt (by omega) (by omega) (by omega) (by omega), w_l z1 z2]
  refine ⟨fun q => ?_, fun q => ⟨_, rfl, h0, by rw [if_neg (by omega)]⟩⟩
  refine (C_isIn (x := 0) (y := 3) (by omega) (by omega) (by omega) (by omega) (by omega) (by omega) (by omega)).conseq (KI.mono ?_)
  rintro r μ2 ⟨rfl, ⟨g1, g2, rfl⟩ | ⟨g1, rfl⟩⟩
  · refine ⟨fun q2 => absurd q2 (by decide), fun _ => ⟨552, hM1.1.r 18 552 rfl, inb_of shmod.1 (by omega) hM1.1.1 (by omega) (by omega), _, rfl, h0, ?_⟩⟩
    rw [if_pos (by omega), w_cl (by omega) (by omega), hM1.2.2.2.2.1 _ (by omega)]
  · exact ⟨fun _ => ⟨_, rfl, h0, by rw [if_neg (by omega)]⟩, fun q2 => absurd rfl q2⟩
theorem C_makeM (hd : 2 ≤ d) (hM : HM μ n ru ki) {k z : Int} (k1 : -2147483648 ≤ k) (k2 : k < 2147483648) (z1 : -2147483648 ≤ z) (z2 : z < 2147483648) : Call Γ m_MO_make d [.ref 547, .int (w k), .int (w z)] μ (KI (fun r μ' => fr thr μ μ' ∧ r = if 0 ≤ k ∧ k < n ∧ 1 ≤ z ∧ z ≤ 81 then w (ptw ki k.toNat z) else w (-1))) := by
  obtain ⟨d, rfl⟩ : ∃ e, d = e + 1 := ⟨d - 1, by omega⟩
  have hn := hM.2.1
  refine Call.of ok_MO_make (Nat.le_of_ble_eq_true rfl) (B_MO_make_0 hM.1.o ?_)
  rintro μ1 rfl
  have h0 := th0 μ
  have hM1 := HM_th hM h0
  refine (C_isKindM (by omega) hM1 k1 k2).conseq (KI.mono ?_)
  rintro r μ2 ⟨rfl, ⟨g1, g2, rfl⟩ | ⟨g1, rfl⟩⟩
  · refine ⟨fun q => absurd q (by decide), fun _ => ?_⟩
    rw [w_l z1 z2]
    refine (C_isIn (x := 1) (y := 81) (by omega) (by omega) (by omega) (by omega) (by omega) (by omega) (by omega)).conseq (KI.mono ?_)
    rintro r μ3 ⟨rfl, ⟨g3, g4, rfl⟩ | ⟨g3, rfl⟩⟩
    · refine ⟨fun q => absurd q (by decide), fun _ => ?_⟩
      obtain ⟨k, rfl⟩ : ∃ j : Nat, k = j := ⟨k.toNat, by omega⟩
      refine (C_told (j := 1) (by omega) hM1 (by omega) (by omega)).conseq (KI.mono ?_)
      rintro r μ4 ⟨rfl, rfl⟩
      have hk := (hM1.2.2.2.2.2 k (by omega)).2
      unfold KK at hk
      have hd1 : z / ki k 1 ≤ z := Int.ediv_le_self _ (by omega)
      have hd0 : 0 ≤ z / ki k 1 := Int.ediv_nonneg (by omega) (by omega)
      have hm0 : 0 ≤ z % ki k 1 := Int.emod_nonneg _ (by omega)
      have hm1 : z % ki k 1 < ki k 1 := Int.emod_lt_of_pos _ (by omega)
      have hdm := Int.emod_add_mul_ediv z (ki k 1)
      have hnz : ¬ w (ki k 1) = 0 := w_nz (by omega) (by omega)
      rw [w_rem (by omega) (by omega) (by omega) (by omega), w_div (by omega) (by omega) (by omega) (by omega), w_inj (by omega) (by omega) (by omega) (by omega), w_lt (by omega) (by omega) (by omega) (by omega), if_pos (by omega)]
      unfold ptw
      simp only [Int.toNat_natCast]
      refine ⟨hnz, fun q2 => ⟨hnz, fun q3 => ⟨_, rfl, h0, by rw [if_neg (by omega)]⟩, fun q3 => ⟨hnz, _, rfl, h0, ?_⟩⟩, fun q2 => ⟨_, rfl, h0, by rw [if_neg (by omega)]⟩⟩
      have h1 : 1 ≤ z / ki k 1 := by
        refine Decidable.byContradiction fun q4 => ?_
        have e0 : z / ki k 1 = 0 := by omega
        rw [e0, Int.mul_zero] at hdm
        omega
      rw [if_pos ⟨q2, h1, by omega⟩]
    · exact ⟨fun _ => ⟨_, rfl, h0, by rw [if_neg (by omega)]⟩, fun q2 => absurd rfl q2⟩
  · exact ⟨fun _ => ⟨_, rfl, h0, by rw [if_neg (by omega)]⟩, fun q2 => absurd rfl q2⟩
theorem C_isNameless (hd : 1 ≤ d) (hM : HM μ n ru ki) (hN : NR μ 559 0 s bx m T mg) {b : Nat} (hb : b < s) : Call Γ m_MO_isNameless d [.ref 547, .int (w b)] μ (KI (fun r μ' => μ' = μ ∧ ((bx (s - 1 - b) 3 = -1 ∧ r = w 1) ∨ (¬ bx (s - 1 - b) 3 = -1 ∧ r = w 0)))) := by
  obtain ⟨d, rfl⟩ : ∃ e, d = e + 1 := ⟨d - 1, by omega⟩
  have h8 := hN.1
  refine Call.of ok_MO_isNameless (Nat.le_of_ble_eq_true rfl) (B_MO_isNameless_0 hM.1.o (hM.1.r 30 559 rfl) ?_)
  rw [w_mul, w_add, w_cl (by omega) (by omega), show (5 * (b : Int) + 3).toNat = 0 + 5 * b + 3 by omega, (hN.2.2.2.2.2.1 b hb).1.2.2.2.1]
  refine ⟨inb_of shmod.2.2.1 (by omega) hM.1.1 (by omega) (by omega), fun q => ⟨_, rfl, rfl, Or.inl ⟨?_, rfl⟩⟩, fun q => ⟨_, rfl, rfl, Or.inr ⟨fun z => ?_, rfl⟩⟩⟩
  · refine Decidable.byContradiction fun z => ?_
    rw [if_neg z] at q
    exact absurd q (by decide)
  · rw [if_pos z] at q
    exact q rfl
theorem namelessM_G (hM : HM μ n ru ki) (hN : NR μ 559 0 s bx m T mg) : ∀ (f b : Nat), b + f = s → Q (some (.int (nml bx s))) μ → G Γ m_MO_nameless (d + 2) (0, 0) Q 18 [.ref 547, .int (btw (fun p => decide (bx (s - 1 - p) 3 = -1)) b), .int (w b)] [] μ := by
  have h8 := hN.1
  intro f
  induction f with
  | zero =>
    intro b hb hQ
    refine B_MO_nameless_18 hM.1.o (hM.1.r 30 559 rfl) ⟨inb_of shmod.2.2.1 (by omega) hM.1.1 (by omega) (by omega), ?_⟩
    rw [show (w 40).toNatClampNeg = 0 + 40 by decide, hN.2.2.1, w_lt (by omega) (by omega) (by omega) (by omega)]
    refine ⟨fun q => absurd q (by omega), fun _ => ?_⟩
    rw [show b = s by omega]
    exact hQ
  | succ f ih =>
    intro b hb hQ
    have nx := ih (b + 1) (by omega) hQ
    rw [btw] at nx
    refine B_MO_nameless_18 hM.1.o (hM.1.r 30 559 rfl) ⟨inb_of shmod.2.2.1 (by omega) hM.1.1 (by omega) (by omega), ?_⟩
    rw [show (w 40).toNatClampNeg = 0 + 40 by decide, hN.2.2.1, w_lt (by omega) (by omega) (by omega) (by omega)]
    refine ⟨fun _ => ?_, fun q => absurd (by omega) q⟩
    refine (C_isNameless (by omega) hM hN (by omega)).conseq (KI.mono ?_)
    rintro r μ1 ⟨rfl, ⟨hl, rfl⟩ | ⟨hl, rfl⟩⟩
    · refine ⟨fun q => absurd q (by decide), fun _ => ?_⟩
      rw [if_pos (by simpa using hl)] at nx
      rw [w_add]
      exact nx
    · refine ⟨fun _ => ?_, fun q => absurd rfl q⟩
      rw [if_neg (by simpa using hl)] at nx
      rw [w_add, show w 0 = (0 : Int32) from rfl, Int32.or_zero]
      exact nx
theorem C_namelessM (hd : 3 ≤ d) (hM : HM μ n ru ki) (hN : NR μ 559 0 s bx m T mg) : Call Γ m_MO_nameless d [.ref 547] μ (KI (fun r μ' => fr thr μ μ' ∧ r = if 0 < n then nml bx s else w (-1))) := by
  obtain ⟨d, rfl⟩ : ∃ e, d = e + 3 := ⟨d - 3, by omega⟩
  have hn := hM.2.1
  refine Call.of ok_MO_nameless (Nat.le_of_ble_eq_true rfl) (B_MO_nameless_0 hM.1.o ?_)
  rintro μ1 rfl
  have h0 := th0 μ
  have hM1 := HM_th hM h0
  have hN1 := hN.fr h0 (fun j => by unfold thr; omega)
  rw [hM1.2.2.1, w_inj (by omega) (by omega) (by omega) (by omega)]
  exact ⟨fun q => ⟨_, rfl, h0, by rw [if_neg (by omega)]⟩, fun q => namelessM_G (d := d + 1) hM1 hN1 s 0 (by omega) ⟨_, rfl, h0, by rw [if_pos (by omega)]⟩⟩
end MQ
