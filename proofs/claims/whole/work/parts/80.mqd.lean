/-! THE REFERENCE'S QUESTIONS, fourth lot -/
section MD
variable {Γ : XG} {d n s m T : Nat} {ru : Nat → Int} {ki bx mg : Nat → Nat → Int} {μ : XM} {Q : Option Value → XM → Prop}
theorem C_restsM (hd : 6 ≤ d) (hM : HM μ n ru ki) (hN : NR μ 559 0 s bx m T mg) {z : Int} (z1 : -2147483648 ≤ z) (z2 : z < 2147483648) : Call Γ m_MO_rests d [.ref 547, .int (w z)] μ (KI (fun r μ' => fr thr μ μ' ∧ r = if 0 < n ∧ -1 ≤ z then w (rst (lbl bx s) z 4 0 0) else w (-1))) := by
  obtain ⟨d, rfl⟩ : ∃ e, d = e + 6 := ⟨d - 6, by omega⟩
  have hn := hM.2.1
  refine Call.of ok_MO_rests (Nat.le_of_ble_eq_true rfl) (B_MO_rests_0 hM.1.o ?_)
  rintro μ1 rfl
  have h0 := th0 μ
  have hM1 := HM_th hM h0
  have hN1 := hN.fr h0 (fun j => by unfold thr; omega)
  rw [hM1.2.2.1, w_inj (by omega) (by omega) (by omega) (by omega), w_lt (by omega) (by omega) (by omega) (by omega)]
  refine ⟨fun q => ⟨_, rfl, h0, by rw [if_neg (by omega)]⟩, fun q => ⟨fun q2 => ⟨_, rfl, h0, by rw [if_neg (by omega)]⟩, fun q2 => ?_⟩⟩
  exact restsM_G (d := d + 1) z1 z2 (by omega) 4 0 0 _ (by omega) (by omega) hM1 hN1 (fun μ' g => ⟨_, rfl, h0.trans g, by rw [if_pos (by omega)]⟩)
theorem buriedM_G (hM : HM μ n ru ki) (hN : NR μ 559 0 s bx m T mg) {z : Nat} (hz : z < s) : ∀ (f b : Nat), b + f = z → Q (some (.int (w (fsum (fun b => bx (s - 1 - b) 1) z)))) μ → G Γ m_MO_buried (d + 1) (0, 0) Q 23 [.ref 547, .int (w z), .int (w (fsum (fun b => bx (s - 1 - b) 1) b)), .int (w b)] [] μ := by
  have h8 := hN.1
  intro f
  induction f with
  | zero =>
    intro b hb hQ
    refine B_MO_buried_23 hM.1.o (hM.1.r 30 559 rfl) ?_
    rw [w_lt (by omega) (by omega) (by omega) (by omega)]
    refine ⟨fun q => absurd q (by omega), fun _ => ?_⟩
    rw [show b = z by omega]
    exact hQ
  | succ f ih =>
    intro b hb hQ
    refine B_MO_buried_23 hM.1.o (hM.1.r 30 559 rfl) ?_
    rw [w_lt (by omega) (by omega) (by omega) (by omega), w_mul, w_add, w_cl (by omega) (by omega), show (5 * (b : Int) + 1).toNat = 0 + 5 * b + 1 by omega, (hN.2.2.2.2.2.1 b (by omega)).1.2.1, w_add, w_add]
    exact ⟨fun _ => ⟨inb_of shmod.2.2.1 (by omega) hM.1.1 (by omega) (by omega), ih (b + 1) (by omega) hQ⟩, fun q => absurd (by omega) q⟩
theorem C_buriedM (hd : 2 ≤ d) (hM : HM μ n ru ki) (hN : NR μ 559 0 s bx m T mg) (hns : n = 0 → s = 0) {z : Int} (z1 : -2147483648 ≤ z) (z2 : z < 2147483648) : Call Γ m_MO_buried d [.ref 547, .int (w z)] μ (KI (fun r μ' => fr thr μ μ' ∧ r = if 0 ≤ z ∧ z < s then w (fsum (fun b => bx (s - 1 - b) 1) z.toNat) else w (-1))) := by
  obtain ⟨d, rfl⟩ : ∃ e, d = e + 1 := ⟨d - 1, by omega⟩
  have h8 := hN.1
  refine Call.of ok_MO_buried (Nat.le_of_ble_eq_true rfl) (B_MO_buried_0 hM.1.o (hM.1.r 30 559 rfl) ?_)
  rintro μ1 rfl
  have h0 := th0 μ
  have hM1 := HM_th hM h0
  have hN1 := hN.fr h0 (fun j => by unfold thr; omega)
  refine (C_isBox (by omega) hM1 shmod.2.2.1 (by omega) hN1 hns z1 z2).conseq (KI.mono ?_)
  rintro r μ2 ⟨rfl, ⟨g1, g2, rfl⟩ | ⟨g1, rfl⟩⟩
  · refine ⟨fun q => absurd q (by decide), fun _ => ?_⟩
    obtain ⟨z, rfl⟩ : ∃ j : Nat, z = j := ⟨z.toNat, by omega⟩
    exact buriedM_G hM1 hN1 (by omega) z 0 (by omega) ⟨_, rfl, h0, by rw [if_pos (by omega)]; rfl⟩
  · exact ⟨fun _ => ⟨_, rfl, h0, by rw [if_neg (by omega)]⟩, fun q => absurd rfl q⟩
end MD
