/-! PLANS, in the reference -/
theorem shpl : shp 557 = some (.inr (0, 320)) ∧ shp 558 = some (.inr (0, 5)) := ⟨rfl, rfl⟩
theorem in556 {μ : XM} (hx : 574 ≤ xN μ) {z : Int} (z0 : 0 ≤ z) (z1 : z < 320) : zib μ 0 557 (w z) := inb_of shpl.1 (by omega) hx z0 z1
theorem in557 {μ : XM} (hx : 574 ≤ xN μ) {z : Int} (z0 : 0 ≤ z) (z1 : z < 5) : zib μ 0 558 (w z) := inb_of shpl.2 (by omega) hx z0 z1
def PVM (pv : Nat → Nat → Int) (i : Nat) : Prop := PV pv i ∧ (pv i 0 = 0 → 0 ≤ pv i 3) ∧ (pv i 0 = 3 → pv i 1 ≤ 9)
/-- the row of step i -/
def PRW (μ : XM) (row : Nat) (pv : Nat → Nat → Int) (i : Nat) : Prop := row + 3 < 256 ∧ (∀ q, q < 4 → xI μ 557 (row + q) = w (pv i q)) ∧ PVM pv i
/-- k plans -/
def PLM (μ : XM) (k : Nat) (pz : Nat → Nat) (pv : Nat → Nat → Nat → Int) : Prop := k ≤ 4 ∧ xI μ 547 28 = w k ∧ ∀ p, p < k → pz p ≤ 16 ∧ xI μ 558 p = w (pz p) ∧ ∀ i, i < pz p → PRW μ (4 * (16 * p + i)) (pv p) i
theorem PRW.frm {F : Nat → Nat → Prop} {μ μ' : XM} {row i : Nat} {pv : Nat → Nat → Int} (h : PRW μ row pv i) (ho : fr F μ μ') (h1 : ∀ j, ¬ F 557 j) : PRW μ' row pv i := ⟨h.1, fun q hq => by rw [(ho.1 557 _ (h1 _)).1]; exact h.2.1 q hq, h.2.2⟩
theorem PLM.frm {F : Nat → Nat → Prop} {μ μ' : XM} {k : Nat} {pz : Nat → Nat} {pv : Nat → Nat → Nat → Int} (h : PLM μ k pz pv) (ho : fr F μ μ') (h1 : ∀ j, ¬ F 557 j) (h2 : ∀ j, ¬ F 558 j) (h3 : ¬ F 547 28) : PLM μ' k pz pv := ⟨h.1, by rw [(ho.1 547 28 h3).1]; exact h.2.1, fun p hp => ⟨(h.2.2 p hp).1, by rw [(ho.1 558 p (h2 _)).1]; exact (h.2.2 p hp).2.1, fun i hi => ((h.2.2 p hp).2.2 i hi).frm ho h1⟩⟩
section OG
variable {Γ : XG} {d n s m T a k row i : Nat} {ru : Nat → Int} {ki bx mg pv : Nat → Nat → Int} {ls : Int → Int → Int → Int → Int → Int → Int} {μ : XM} {Q : Option Value → XM → Prop} {W : WL} {A : AA} {pz : Nat → Nat} {pw : Nat → Nat → Nat → Int}
theorem C_logM (hd : 2 ≤ d) (hM : HM μ n ru ki) (hN : NR μ 559 0 s bx m T mg) {i q : Int} (i1 : -2147483648 ≤ i) (i2 : i < 2147483648) (q1 : -2147483648 ≤ q) (q2 : q < 2147483648) : Call Γ m_MO_log d [.ref 547, .int (w i), .int (w q)] μ (KI (fun r μ' => fr thr μ μ' ∧ r = if 0 ≤ i ∧ i < ((min 60 T : Nat) : Int) ∧ 0 ≤ q ∧ q ≤ 3 then w (mg (T - 1 - i.toNat) q.toNat) else w (-1))) := by
  obtain ⟨d, rfl⟩ : ∃ e, d = e + 1 := ⟨d - 1, by omega⟩
  refine Call.of ok_MO_log (Nat.le_of_ble_eq_true rfl) (B_MO_log_0 hM.1.o (hM.1.r 30 559 rfl) ?_)
  rintro μ1 rfl
  have o1 := th0 μ
  have hM1 := HM_th hM o1
  have hN1 : NR (sI μ 547 0 (w 0)) 559 0 s bx m T mg := hN.fr o1 (fun j => by unfold thr; omega)
  generalize sI μ 547 0 (w 0) = μ1 at *
  obtain ⟨t0, t1, t2⟩ := hN1.z
  have d42 : (w 42).toNatClampNeg = 42 := by decide
  rw [d42, t2, w_sub, w_l i1 i2, w_l (by omega) (by omega), w_l q1 q2]
  refine ⟨in558 hM1.1.1 (by omega) (by omega), ?_⟩
  refine (C_isIn (x := 0) (by omega) (by omega) (by omega) (by omega) (by omega) (by omega) (by omega)).conseq (KI.mono ?_)
  rintro r μ3 ⟨rfl, ⟨g1, g2, rfl⟩ | ⟨g1, rfl⟩⟩
  · refine ⟨fun q => absurd q (by decide), fun _ => ?_⟩
    refine (C_isIn (x := 0) (y := 3) (by omega) (by omega) (by omega) (by omega) (by omega) (by omega) (by omega)).conseq (KI.mono ?_)
    rintro r μ4 ⟨rfl, ⟨g3, g4, rfl⟩ | ⟨g3, rfl⟩⟩
    · refine ⟨fun q => absurd q (by decide), fun _ => ⟨hM1.1.r 30 559 rfl, in558 hM1.1.1 (by omega) (by omega), ?_⟩⟩
      obtain ⟨i, rfl⟩ : ∃ j : Nat, i = j := ⟨i.toNat, by omega⟩
      obtain ⟨q, rfl⟩ : ∃ j : Nat, q = j := ⟨q.toNat, by omega⟩
      rw [if_pos (show 0 ≤ (i : Int) ∧ (i : Int) < ((min 60 T : Nat) : Int) ∧ 0 ≤ (q : Int) ∧ (q : Int) ≤ 3 by omega), t2, w_sub, w_sub, w_mul, w_add, w_add, w_cl (by omega) (by omega), show (43 + 4 * (((min 60 T : Nat) : Int) - 1 - i) + q).toNat = 43 + 4 * (min 60 T - 1 - i) + q by omega]
      refine ⟨inb_of sh558 (by omega) hM1.1.1 (by omega) (by omega), _, rfl, o1, ?_⟩
      rw [hN1.l4 (by omega) (by omega)]
      congr 2
      omega
    · exact ⟨fun _ => ⟨_, rfl, o1, by rw [if_neg (by omega)]⟩, fun q => absurd rfl q⟩
  · exact ⟨fun _ => ⟨_, rfl, o1, by rw [if_neg (by omega)]⟩, fun q => absurd rfl q⟩
theorem C_isPlanM (hd : 1 ≤ d) (hM : HM μ n ru ki) (hP : PLM μ k pz pw) {y : Int} (y1 : -2147483648 ≤ y) (y2 : y < 2147483648) : Call Γ m_MO_isPlan d [.ref 547, .int (w y)] μ (KI (fun r μ' => μ' = μ ∧ ((0 ≤ y ∧ y < k ∧ r = w 1) ∨ (¬ (0 ≤ y ∧ y < k) ∧ r = w 0)))) := by
  obtain ⟨d, rfl⟩ : ∃ e, d = e + 1 := ⟨d - 1, by omega⟩
  have k4 := hP.1
  refine Call.of ok_MO_isPlan (Nat.le_of_ble_eq_true rfl) (B_MO_isPlan_0 hM.1.o ?_)
  rw [hP.2.1, w_lt (by omega) (by omega) (by omega) (by omega), w_lt (by omega) (by omega) (by omega) (by omega)]
  exact ⟨fun q => ⟨_, rfl, rfl, Or.inr ⟨by omega, rfl⟩⟩, fun q => ⟨fun q2 => ⟨_, rfl, rfl, Or.inl ⟨by omega, q2, rfl⟩⟩, fun q2 => ⟨_, rfl, rfl, Or.inr ⟨by omega, rfl⟩⟩⟩⟩
theorem C_stepM (hd : 2 ≤ d) (hM : HM μ n ru ki) (hP : PLM μ k pz pw) {y i q : Int} (y1 : -2147483648 ≤ y) (y2 : y < 2147483648) (i1 : -2147483648 ≤ i) (i2 : i < 2147483648) (q1 : -2147483648 ≤ q) (q2 : q < 2147483648) : Call Γ m_MO_step d [.ref 547, .int (w y), .int (w i), .int (w q)] μ (KI (fun r μ' => fr thr μ μ' ∧ r = if 0 ≤ y ∧ y < k ∧ 0 ≤ i ∧ i < pz y.toNat ∧ 0 ≤ q ∧ q ≤ 3 then w (pw y.toNat i.toNat q.toNat) else w (-1000000))) := by
  obtain ⟨d, rfl⟩ : ∃ e, d = e + 1 := ⟨d - 1, by omega⟩
  refine Call.of ok_MO_step (Nat.le_of_ble_eq_true rfl) (B_MO_step_0 hM.1.o ?_)
  rintro μ1 rfl
  have o1 := th0 μ
  have hM1 := HM_th hM o1
  have hP1 : PLM (sI μ 547 0 (w 0)) k pz pw := hP.frm o1 (fun j => by unfold thr; omega) (fun j => by unfold thr; omega) (by unfold thr; omega)
  generalize sI μ 547 0 (w 0) = μ1 at *
  have k4 := hP.1
  refine (C_isPlanM (by omega) hM1 hP1 y1 y2).conseq (KI.mono ?_)
  rintro r μ2 ⟨rfl, ⟨g1, g2, rfl⟩ | ⟨g1, rfl⟩⟩
  · refine ⟨fun q => absurd q (by decide), fun _ => ⟨558, hM1.1.r 24 558 rfl, in557 hM1.1.1 (by omega) (by omega), ?_⟩⟩
    obtain ⟨y, rfl⟩ : ∃ j : Nat, y = j := ⟨y.toNat, by omega⟩
    obtain ⟨z16, ez, hr⟩ := hP1.2.2 y (by omega)
    rw [w_cln (by omega), ez, w_sub, w_l i1 i2, w_l (by omega) (by omega), w_l q1 q2]
    refine (C_isIn (x := 0) (by omega) (by omega) (by omega) (by omega) (by omega) (by omega) (by omega)).conseq (KI.mono ?_)
    rintro r μ3 ⟨rfl, ⟨g3, g4, rfl⟩ | ⟨g3, rfl⟩⟩
    · refine ⟨fun q => absurd q (by decide), fun _ => ?_⟩
      refine (C_isIn (x := 0) (y := 3) (by omega) (by omega) (by omega) (by omega) (by omega) (by omega) (by omega)).conseq (KI.mono ?_)
      rintro r μ4 ⟨rfl, ⟨g5, g6, rfl⟩ | ⟨g5, rfl⟩⟩
      · refine ⟨fun q => absurd q (by decide), fun _ => ⟨557, hM1.1.r 23 557 rfl, ?_⟩⟩
        obtain ⟨i, rfl⟩ : ∃ j : Nat, i = j := ⟨i.toNat, by omega⟩
        obtain ⟨q, rfl⟩ : ∃ j : Nat, q = j := ⟨q.toNat, by omega⟩
        rw [show ((y : Nat) : Int).toNat = y by omega, if_pos (show 0 ≤ (y : Int) ∧ (y : Int) < k ∧ 0 ≤ (i : Int) ∧ (i : Int) < (pz y : Nat) ∧ 0 ≤ (q : Int) ∧ (q : Int) ≤ 3 by omega), w_mul, w_add, w_mul, w_add, w_cl (by omega) (by omega), show (4 * (16 * (y : Int) + i) + q).toNat = 4 * (16 * y + i) + q by omega]
        refine ⟨in556 hM1.1.1 (by omega) (by omega), _, rfl, o1, ?_⟩
        exact (hr i (by omega)).2.1 q (by omega)
      · exact ⟨fun _ => ⟨_, rfl, o1, by rw [if_neg (by omega)]⟩, fun q => absurd rfl q⟩
    · exact ⟨fun _ => ⟨_, rfl, o1, by rw [show ((y : Nat) : Int).toNat = y by omega, if_neg (by omega)]⟩, fun q => absurd rfl q⟩
  · exact ⟨fun _ => ⟨_, rfl, o1, by rw [if_neg (by omega)]⟩, fun q => absurd rfl q⟩
theorem C_canStepM (hd : 3 ≤ d) (hM : HM μ n ru ki) (hn : 0 < n) (ha : RC a) (hN : NR μ a 0 s bx m T mg) (hP : PRW μ row pv i) : Call Γ m_MO_canStep d [.ref 547, .ref a, .int (w row)] μ (KI (fun r μ' => μ' = μ ∧ ((stb n ru bx s m pv i ∧ r = w 1) ∨ (¬ stb n ru bx s m pv i ∧ r = w 0)))) := by
  obtain ⟨d, rfl⟩ : ∃ e, d = e + 1 := ⟨d - 1, by omega⟩
  have h8 := hN.1
  have hm9 := hN.2.1
  obtain ⟨hr, he, hv, hv0, hv3⟩ := hP
  unfold PV at hv
  have e0 := he 0 (by omega)
  have e1 := he 1 (by omega)
  have e2 := he 2 (by omega)
  rw [Nat.add_zero] at e0
  refine Call.of ok_MO_canStep (Nat.le_of_ble_eq_true rfl) (B_MO_canStep_0 hM.1.o (hM.1.r 23 557 rfl) ?_)
  have c1 : (w ((row : Int) + 1)).toNatClampNeg = row + 1 := by rw [w_cl (by omega) (by omega)]; omega
  have c2 : (w ((row : Int) + 2)).toNatClampNeg = row + 2 := by rw [w_cl (by omega) (by omega)]; omega
  have c0 : (w (row : Int)).toNatClampNeg = row := w_cln (by omega)
  simp only [w_add, c0, c1, c2, e0, e1, e2]
  have hx := hM.1.1
  unfold stb
  refine ⟨in556 hx (by omega) (by omega), in556 hx (by omega) (by omega), fun e => ?_, fun e => ⟨in556 hx (by omega) (by omega), ?_⟩, fun e => ?_, fun e => ?_, fun e => ?_⟩
  · rw [w_lt (by omega) (by omega) (by omega) (by omega), w_lt (by omega) (by omega) (by omega) (by omega)] at e
    refine (C_isHoursM (by omega) hM (by omega) (by omega)).conseq (KI.mono ?_)
    unfold isH
    rintro r μ1 ⟨rfl, ⟨g1, rfl⟩ | ⟨g1, rfl⟩⟩
    · exact ⟨Or.inr rfl, _, rfl, rfl, Or.inl ⟨by omega, rfl⟩⟩
    · exact ⟨Or.inl rfl, _, rfl, rfl, Or.inr ⟨by omega, rfl⟩⟩
  · rw [w_inj (by omega) (by omega) (by omega) (by omega)] at e
    refine (C_canPutM (by omega) hM ha.sh.1 ha.sh.2.1 hN (by omega) (by omega) (by omega) (by omega)).conseq (KI.mono ?_)
    rintro r μ1 ⟨rfl, ⟨hc, rfl⟩ | ⟨hc, rfl⟩⟩
    · exact ⟨Or.inr rfl, _, rfl, rfl, Or.inl ⟨Or.inl ⟨e, hc⟩, rfl⟩⟩
    · exact ⟨Or.inl rfl, _, rfl, rfl, Or.inr ⟨fun q => by rcases q with q | q | q | q | q <;> first | exact hc q.2 | omega, rfl⟩⟩
  · rw [w_inj (by omega) (by omega) (by omega) (by omega)] at e
    refine (C_isBox (by omega) hM ha.sh.1 ha.sh.2.1 hN (fun z => by omega) (by omega) (by omega)).conseq (KI.mono ?_)
    rintro r μ1 ⟨rfl, ⟨g1, g2, rfl⟩ | ⟨g1, rfl⟩⟩
    · exact ⟨Or.inr rfl, _, rfl, rfl, Or.inl ⟨by omega, rfl⟩⟩
    · exact ⟨Or.inl rfl, _, rfl, rfl, Or.inr ⟨by omega, rfl⟩⟩
  · rw [w_inj (by omega) (by omega) (by omega) (by omega)] at e
    refine (C_canLabelM (by omega) hM ha hN (fun z => by omega) (by omega) (by omega)).conseq (KI.mono ?_)
    rintro r μ1 ⟨rfl, ⟨g1, rfl⟩ | ⟨g1, rfl⟩⟩
    · exact ⟨Or.inr rfl, _, rfl, rfl, Or.inl ⟨by omega, rfl⟩⟩
    · exact ⟨Or.inl rfl, _, rfl, rfl, Or.inr ⟨by omega, rfl⟩⟩
  · rw [w_inj (by omega) (by omega) (by omega) (by omega)] at e
    have := hv3 e
    refine (C_mayPassM (y := 9) (by omega) hM ha hN (by omega) (by omega) (by omega) (by omega)).conseq (KI.mono ?_)
    rintro r μ1 ⟨rfl, ⟨g1, rfl⟩ | ⟨g1, rfl⟩⟩
    · exact ⟨Or.inr rfl, _, rfl, rfl, Or.inl ⟨by omega, rfl⟩⟩
    · exact ⟨Or.inl rfl, _, rfl, rfl, Or.inr ⟨by omega, rfl⟩⟩
theorem C_timesOf (hd : 1 ≤ d) (hM : HM μ n ru ki) (hP : PRW μ row pv i) : Call Γ m_MO_timesOf d [.ref 547, .int (w row)] μ (KI (fun r μ' => μ' = μ ∧ r = w (if pv i 0 = 3 then pv i 1 else 1))) := by
  obtain ⟨d, rfl⟩ : ∃ e, d = e + 1 := ⟨d - 1, by omega⟩
  obtain ⟨hr, he, hv, hv0, hv3⟩ := hP
  unfold PV at hv
  have e0 := he 0 (by omega)
  have e1 := he 1 (by omega)
  rw [Nat.add_zero] at e0
  refine Call.of ok_MO_timesOf (Nat.le_of_ble_eq_true rfl) (B_MO_timesOf_0 hM.1.o (hM.1.r 23 557 rfl) ?_)
  have c1 : (w ((row : Int) + 1)).toNatClampNeg = row + 1 := by rw [w_cl (by omega) (by omega)]; omega
  have c0 : (w (row : Int)).toNatClampNeg = row := w_cln (by omega)
  simp only [w_add, c0, c1, e0, e1]
  have hx := hM.1.1
  rw [w_inj (by omega) (by omega) (by omega) (by omega)]
  exact ⟨in556 hx (by omega) (by omega), fun e => ⟨in556 hx (by omega) (by omega), _, rfl, rfl, by rw [if_pos e]⟩, fun e => ⟨_, rfl, rfl, by rw [if_neg e]⟩⟩
end OG
