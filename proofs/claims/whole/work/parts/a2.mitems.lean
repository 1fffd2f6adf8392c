/-! NUMBERS AND ITEMS, in the reference -/
theorem nm_0 {tb : Nat → Nat} {n q : Nat} (h : ¬ dg tb n q) : nmF tb n 2 q 0 0 = (q, 0, 0) := by
  show nmF tb n (1 + 1) q 0 0 = _
  exact if_neg h
theorem nm_1 {tb : Nat → Nat} {n q : Nat} (h : dg tb n q) (h1 : ¬ dg tb n (q + 1)) : nmF tb n 2 q 0 0 = (q + 1, tb q - 48, 1) := by
  have e1 : nmF tb n (1 + 1) q 0 0 = nmF tb n 1 (q + 1) (10 * 0 + (tb q - 48)) (0 + 1) := by exact if_pos h
  have e2 : nmF tb n (0 + 1) (q + 1) (10 * 0 + (tb q - 48)) (0 + 1) = (q + 1, 10 * 0 + (tb q - 48), 0 + 1) := by exact if_neg h1
  refine (e1.trans e2).trans ?_
  rw [Nat.mul_zero, Nat.zero_add]
theorem nm_2 {tb : Nat → Nat} {n q : Nat} (h : dg tb n q) (h1 : dg tb n (q + 1)) : nmF tb n 2 q 0 0 = (q + 2, 10 * (tb q - 48) + (tb (q + 1) - 48), 2) := by
  have e1 : nmF tb n (1 + 1) q 0 0 = nmF tb n 1 (q + 1) (10 * 0 + (tb q - 48)) (0 + 1) := by exact if_pos h
  have e2 : nmF tb n (0 + 1) (q + 1) (10 * 0 + (tb q - 48)) (0 + 1) = nmF tb n 0 (q + 1 + 1) (10 * (10 * 0 + (tb q - 48)) + (tb (q + 1) - 48)) (0 + 1 + 1) := by exact if_pos h1
  refine (e1.trans e2).trans ?_
  show (q + 1 + 1, 10 * (10 * 0 + (tb q - 48)) + (tb (q + 1) - 48), 0 + 1 + 1) = _
  rw [Nat.mul_zero, Nat.zero_add]
def NRD (μ' : XM) (n : Nat) (tb : Nat → Nat) (x y : Int) (t : Nat × Nat × Nat) (r : Int32) : Prop :=
  ((t.2.2 = 0 ∨ dg tb n t.1) ∧ xI μ' 547 11 = w t.1) ∨ (¬ (t.2.2 = 0 ∨ dg tb n t.1) ∧ ((t.2.1 : Int) < x ∨ y < (t.2.1 : Int)) ∧ xI μ' 547 11 = w ((t.1 - 1 : Nat) : Int)) ∨ (¬ (t.2.2 = 0 ∨ dg tb n t.1) ∧ ¬ ((t.2.1 : Int) < x ∨ y < (t.2.1 : Int)) ∧ r = w t.2.1 ∧ xI μ' 547 11 = w (-1) ∧ RT μ' n tb t.1)
section HRM
variable {Γ : XG} {d n p : Nat} {tb : Nat → Nat} {μ : XM} {Q : Option Value → XM → Prop}
theorem C_hereR (hd : 1 ≤ d) (h : RT μ n tb p) (hp : p < n) : Call Γ m_MO_here d [.ref 547] μ (KI (fun r μ' => μ' = μ ∧ r = w (tb p))) := by
  obtain ⟨d, rfl⟩ : ∃ e, d = e + 1 := ⟨d - 1, by omega⟩
  have hn := h.n2
  obtain ⟨b1, b2, b3, b4⟩ := h.b hp
  have hsb := sb_ok (tb p) (by omega)
  obtain ⟨a1, a2, a3, a4, a5, a6, a7, a8⟩ := h
  refine Call.of ok_MO_here (Nat.le_of_ble_eq_true rfl) (B_MO_here_0 a1.o a4 ?_)
  rw [a7, a6, a5, w_lt (by omega) (by omega) (by omega) (by omega), b2, hsb.1]
  exact ⟨fun _ => ⟨b1, _, rfl, rfl, rfl⟩, fun q => absurd (by omega) q⟩
theorem C_numberR (hd : 4 ≤ d) (h : RT μ n tb p) (hf : xI μ 547 11 = w (-1)) {x y : Int} (x0 : 0 ≤ x) (x9 : x ≤ 99) (y0 : 0 ≤ y) (y9 : y ≤ 99) : Call Γ m_MO_number d [.ref 547, .int (w x), .int (w y)] μ (KI (fun r μ' => fr rdf μ μ' ∧ NRD μ' n tb x y (nm tb n 2 p) r)) := by
  obtain ⟨d, rfl⟩ : ∃ e, d = e + 1 := ⟨d - 1, by omega⟩
  have hn := h.n2
  have enm : nm tb n 2 p = nmF tb n 2 (sk tb n p) 0 0 := rfl
  rw [enm]
  refine Call.of ok_MO_number (Nat.le_of_ble_eq_true rfl) (B_MO_number_0 h.1.o ?_)
  refine (C_lookR (by omega) h).conseq (KI.mono ?_)
  rintro r μ1 ⟨rfl, o1, f1, h1⟩
  rw [hf] at f1
  refine (C_isDigitR (by omega) h1).conseq (KI.mono ?_)
  rintro r μ2 ⟨rfl, ⟨hg, rfl⟩ | ⟨hg, rfl⟩⟩
  · refine ⟨fun q => absurd q (by decide), fun _ => ?_⟩
    have hl : lk tb n p = (tb (sk tb n p) : Int) := by unfold lk ch; rw [if_pos hg.1]
    have hg' := hg
    unfold dg at hg'
    rintro μ3 rfl
    rw [h1.2.2.2.2.2.2.1, w_add, show ((sk tb n p : Nat) : Int) + 1 = ((sk tb n p + 1 : Nat) : Int) by omega]
    have hT := h1.mv (q := sk tb n p + 1) (by omega)
    have f3 : xI (sI μ2 547 10 (w ((sk tb n p + 1 : Nat) : Int))) 547 11 = w (-1) := by rw [xI_sI, if_neg (by omega)]; exact f1
    have o3 := o1.trans hT.2
    have h3 := hT.1
    clear hT
    generalize sI μ2 547 10 (w ((sk tb n p + 1 : Nat) : Int)) = μ3 at *
    rw [hl]
    refine (C_isDigitR (by omega) h3).conseq (KI.mono ?_)
    rintro r μ4 ⟨rfl, ⟨hg2, rfl⟩ | ⟨hg2, rfl⟩⟩
    · refine ⟨fun q => absurd q (by decide), fun _ => ?_⟩
      have hg3 := hg2
      unfold dg at hg3
      refine (C_hereR (by omega) h3 hg3.1).conseq (KI.mono ?_)
      rintro r μ10 ⟨rfl, rfl⟩
      rintro μ11 rfl
      rw [h3.2.2.2.2.2.2.1, w_add, show ((sk tb n p + 1 : Nat) : Int) + 1 = ((sk tb n p + 2 : Nat) : Int) by omega]
      have hT := h3.mv (q := sk tb n p + 2) (by omega)
      have f5 : xI (sI μ10 547 10 (w ((sk tb n p + 2 : Nat) : Int))) 547 11 = w (-1) := by rw [xI_sI, if_neg (by omega)]; exact f3
      have o5 := o3.trans hT.2
      have h5 := hT.1
      clear hT
      generalize sI μ10 547 10 (w ((sk tb n p + 2 : Nat) : Int)) = μ5 at *
      have ev : w 10 * (w (tb (sk tb n p) : Int) - w 48) + w (tb (sk tb n p + 1) : Int) - w 48 = w ((10 * (tb (sk tb n p) - 48) + (tb (sk tb n p + 1) - 48) : Nat) : Int) := by
        rw [w_sub, w_mul, w_add, w_sub]
        congr 1
        omega
      rw [nm_2 hg hg2]
      refine (C_isDigitR (by omega) h5).conseq (KI.mono ?_)
      rintro r μ6 ⟨rfl, ⟨hg4, rfl⟩ | ⟨hg4, rfl⟩⟩
      · refine ⟨fun q => absurd q (by decide), fun _ => ?_⟩
        refine (C_failsR (by omega) h5 f5).conseq (KI.mono ?_)
        rintro r μ7 ⟨rfl, o7, f7, h7⟩
        exact ⟨_, rfl, o5.trans o7, Or.inl ⟨Or.inr hg4, f7⟩⟩
      · refine ⟨fun _ => ?_, fun q => absurd rfl q⟩
        rw [ev, w_l (by omega) (by omega), w_l (by omega) (by omega), w_l (by omega) (by omega)]
        refine (C_isIn (by omega) (by omega) (by omega) (by omega) (by omega) (by omega) (by omega)).conseq (KI.mono ?_)
        rintro r μ7 ⟨rfl, ⟨g1, g2, rfl⟩ | ⟨g1, rfl⟩⟩
        · exact ⟨fun q => absurd q (by decide), fun _ => ⟨_, rfl, o5, Or.inr (Or.inr ⟨fun z => z.elim (fun z => absurd (show (2 : Nat) = 0 from z) (by decide)) hg4, by dsimp only; omega, rfl, f5, h5⟩)⟩⟩
        · refine ⟨fun _ => ?_, fun q => absurd rfl q⟩
          rintro μ8 rfl
          rw [h5.2.2.2.2.2.2.1, w_sub, show ((sk tb n p + 2 : Nat) : Int) - 1 = ((sk tb n p + 1 : Nat) : Int) by omega]
          have hT := h5.mv (q := sk tb n p + 1) (by omega)
          refine (C_failsR (by omega) hT.1 (by rw [xI_sI, if_neg (by omega)]; exact f5)).conseq (KI.mono ?_)
          rintro r μ9 ⟨rfl, o9, f9, h9⟩
          exact ⟨_, rfl, (o5.trans hT.2).trans o9, Or.inr (Or.inl ⟨fun z => z.elim (fun z => absurd (show (2 : Nat) = 0 from z) (by decide)) hg4, by dsimp only; omega, f9⟩)⟩
    · refine ⟨fun _ => ?_, fun q => absurd rfl q⟩
      have ev : w (tb (sk tb n p) : Int) - w 48 = w ((tb (sk tb n p) - 48 : Nat) : Int) := by
        rw [w_sub]
        congr 1
        omega
      rw [nm_1 hg hg2]
      refine (C_isDigitR (by omega) h3).conseq (KI.mono ?_)
      rintro r μ6 ⟨rfl, ⟨hg4, rfl⟩ | ⟨hg4, rfl⟩⟩
      · exact absurd hg4 hg2
      · refine ⟨fun _ => ?_, fun q => absurd rfl q⟩
        rw [ev, w_l (by omega) (by omega), w_l (by omega) (by omega), w_l (by omega) (by omega)]
        refine (C_isIn (by omega) (by omega) (by omega) (by omega) (by omega) (by omega) (by omega)).conseq (KI.mono ?_)
        rintro r μ7 ⟨rfl, ⟨g1, g2, rfl⟩ | ⟨g1, rfl⟩⟩
        · exact ⟨fun q => absurd q (by decide), fun _ => ⟨_, rfl, o3, Or.inr (Or.inr ⟨fun z => z.elim (fun z => absurd (show (1 : Nat) = 0 from z) (by decide)) hg2, by dsimp only; omega, rfl, f3, h3⟩)⟩⟩
        · refine ⟨fun _ => ?_, fun q => absurd rfl q⟩
          rintro μ8 rfl
          rw [h3.2.2.2.2.2.2.1, w_sub, show ((sk tb n p + 1 : Nat) : Int) - 1 = ((sk tb n p : Nat) : Int) by omega]
          have hT := h3.mv (q := sk tb n p) (by omega)
          refine (C_failsR (by omega) hT.1 (by rw [xI_sI, if_neg (by omega)]; exact f3)).conseq (KI.mono ?_)
          rintro r μ9 ⟨rfl, o9, f9, h9⟩
          exact ⟨_, rfl, (o3.trans hT.2).trans o9, Or.inr (Or.inl ⟨fun z => z.elim (fun z => absurd (show (1 : Nat) = 0 from z) (by decide)) hg2, by dsimp only; omega, f9⟩)⟩
  · refine ⟨fun _ => ?_, fun q => absurd rfl q⟩
    refine (C_failsR (by omega) h1 f1).conseq (KI.mono ?_)
    rintro r μ3 ⟨rfl, o3, f3, h3⟩
    rw [nm_0 hg]
    exact ⟨_, rfl, o1.trans o3, Or.inl ⟨Or.inl rfl, f3⟩⟩
theorem usual_c : ∀ S, S < 3 → ∀ k, k < hln S → ∀ Q : Option Value → XM → Prop, Q (some (.int (w (hus S k)))) μ → G Γ m_MO_usual (d + 1) (0, 0) Q 0 [.int (w (hch S)), .int (w (k : Int))] [] μ := by
  intro S hS k hk Q hQ
  refine B_MO_usual_0 ?_
  have hk5 : k < 5 := Nat.lt_of_lt_of_le hk (hln_b _).2
  have hk4 : k = 0 ∨ k = 1 ∨ k = 2 ∨ k = 3 ∨ k = 4 := by omega
  have hS3 : S = 0 ∨ S = 1 ∨ S = 2 := by omega
  rcases hS3 with rfl | rfl | rfl <;> rcases hk4 with rfl | rfl | rfl | rfl | rfl <;> first
    | exact absurd hk (by decide)
    | (repeat' (first | exact hQ | apply And.intro | (intro q; (try exact absurd q (by decide)))))
theorem most_c : ∀ S, S < 3 → ∀ k, k < hln S → ∀ Q : Option Value → XM → Prop, Q (some (.int (w (hms S k)))) μ → G Γ m_MO_mostOf (d + 1) (0, 0) Q 0 [.int (w (hch S)), .int (w (k : Int))] [] μ := by
  intro S hS k hk Q hQ
  refine B_MO_mostOf_0 ?_
  have hk5 : k < 5 := Nat.lt_of_lt_of_le hk (hln_b _).2
  have hk4 : k = 0 ∨ k = 1 ∨ k = 2 ∨ k = 3 ∨ k = 4 := by omega
  have hS3 : S = 0 ∨ S = 1 ∨ S = 2 := by omega
  rcases hS3 with rfl | rfl | rfl <;> rcases hk4 with rfl | rfl | rfl | rfl | rfl <;> first
    | exact absurd hk (by decide)
    | (repeat' (first | exact hQ | apply And.intro | (intro q; (try exact absurd q (by decide)))))
theorem least_c : ∀ S, S < 3 → ∀ k, k < hln S → ∀ Q : Option Value → XM → Prop, Q (some (.int (w (hls S k)))) μ → G Γ m_MO_leastOf (d + 1) (0, 0) Q 0 [.int (w (hch S)), .int (w (k : Int))] [] μ := by
  intro S hS k hk Q hQ
  refine B_MO_leastOf_0 ?_
  have hk5 : k < 5 := Nat.lt_of_lt_of_le hk (hln_b _).2
  have hk4 : k = 0 ∨ k = 1 ∨ k = 2 ∨ k = 3 ∨ k = 4 := by omega
  have hS3 : S = 0 ∨ S = 1 ∨ S = 2 := by omega
  rcases hS3 with rfl | rfl | rfl <;> rcases hk4 with rfl | rfl | rfl | rfl | rfl <;> first
    | exact absurd hk (by decide)
    | (repeat' (first | exact hQ | apply And.intro | (intro q; (try exact absurd q (by decide)))))
theorem C_usual (hd : 1 ≤ d) {S k : Nat} (hS : S < 3) (hk : k < hln S) : Call Γ m_MO_usual d [.int (w (hch S)), .int (w (k : Int))] μ (KI (fun r μ' => μ' = μ ∧ r = w (hus S k))) := by
  obtain ⟨d, rfl⟩ : ∃ e, d = e + 1 := ⟨d - 1, by omega⟩
  exact Call.of ok_MO_usual (Nat.le_of_ble_eq_true rfl) (usual_c S hS k hk _ ⟨_, rfl, rfl, rfl⟩)
theorem C_mostOf (hd : 1 ≤ d) {S k : Nat} (hS : S < 3) (hk : k < hln S) : Call Γ m_MO_mostOf d [.int (w (hch S)), .int (w (k : Int))] μ (KI (fun r μ' => μ' = μ ∧ r = w (hms S k))) := by
  obtain ⟨d, rfl⟩ : ∃ e, d = e + 1 := ⟨d - 1, by omega⟩
  exact Call.of ok_MO_mostOf (Nat.le_of_ble_eq_true rfl) (most_c S hS k hk _ ⟨_, rfl, rfl, rfl⟩)
theorem C_leastOf (hd : 1 ≤ d) {S k : Nat} (hS : S < 3) (hk : k < hln S) : Call Γ m_MO_leastOf d [.int (w (hch S)), .int (w (k : Int))] μ (KI (fun r μ' => μ' = μ ∧ r = w (hls S k))) := by
  obtain ⟨d, rfl⟩ : ∃ e, d = e + 1 := ⟨d - 1, by omega⟩
  exact Call.of ok_MO_leastOf (Nat.le_of_ble_eq_true rfl) (least_c S hS k hk _ ⟨_, rfl, rfl, rfl⟩)
end HRM
