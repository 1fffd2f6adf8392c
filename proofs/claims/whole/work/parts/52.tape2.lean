/-! THE TAPE OF THE CLASS: contracts -/
def dg (tb : Nat → Nat) (n q : Nat) : Prop := q < n ∧ 48 ≤ tb q ∧ tb q ≤ 57
theorem dg_dec (tb : Nat → Nat) (n q : Nat) : dg tb n q ∨ ¬ dg tb n q := Classical.em _
section TC
variable {Γ : XG} {d n p : Nat} {tb : Nat → Nat} {μ : XM} {Q : Option Value → XM → Prop}
theorem C_ahead (hd : 1 ≤ d) (h : TP μ n tb p) : Call Γ m_Ta_ahead d [.ref 33] μ (KI (fun r μ' => r = w (lk tb n p) ∧ μ' = sI μ 33 2 (w (sk tb n p)))) := by
  obtain ⟨d, rfl⟩ : ∃ e, d = e + 1 := ⟨d - 1, by omega⟩
  exact Call.of ok_Ta_ahead (Nat.le_of_ble_eq_true rfl) (ahead_G (n - p) μ p rfl h ⟨_, rfl, rfl, rfl⟩)
theorem C_pass (hd : 1 ≤ d) (h : TP μ n tb p) : Call Γ m_Ta_pass d [.ref 33] μ (KV (fun μ' => μ' = sI μ 33 2 (w ((p + 1 : Nat) : Int)))) := by
  obtain ⟨d, rfl⟩ : ∃ e, d = e + 1 := ⟨d - 1, by omega⟩
  refine Call.of ok_Ta_pass (Nat.le_of_ble_eq_true rfl) (B_Ta_pass_0 h.ob ?_)
  rintro μ1 rfl
  rw [h.2.2.2.2.2.1, w_add]
  exact ⟨rfl, rfl⟩
theorem C_refuse (hd : 1 ≤ d) (h : TP μ n tb p) : Call Γ m_Ta_refuse d [.ref 33] μ (KI (fun r μ' => r = w 0 ∧ μ' = sI μ 33 3 (w p))) := by
  obtain ⟨d, rfl⟩ : ∃ e, d = e + 1 := ⟨d - 1, by omega⟩
  refine Call.of ok_Ta_refuse (Nat.le_of_ble_eq_true rfl) (B_Ta_refuse_0 h.ob ?_)
  rintro μ1 rfl
  rw [h.2.2.2.2.2.1]
  exact ⟨_, rfl, rfl, rfl⟩
theorem C_refuseLast (hd : 1 ≤ d) (h : TP μ n tb p) : Call Γ m_Ta_refuseLast d [.ref 33] μ (KI (fun r μ' => r = w 0 ∧ μ' = sI μ 33 3 (w ((p : Int) - 1)))) := by
  obtain ⟨d, rfl⟩ : ∃ e, d = e + 1 := ⟨d - 1, by omega⟩
  refine Call.of ok_Ta_refuseLast (Nat.le_of_ble_eq_true rfl) (B_Ta_refuseLast_0 h.ob ?_)
  rintro μ1 rfl
  rw [h.2.2.2.2.2.1, w_sub]
  exact ⟨_, rfl, rfl, rfl⟩
theorem C_rewind (hd : 1 ≤ d) (h : ob μ 33 9) : Call Γ m_Ta_rewind d [.ref 33] μ (KV (fun μ' => μ' = sI (sI μ 33 2 (w 0)) 33 3 (w (-1)))) := by
  obtain ⟨d, rfl⟩ : ∃ e, d = e + 1 := ⟨d - 1, by omega⟩
  refine Call.of ok_Ta_rewind (Nat.le_of_ble_eq_true rfl) (B_Ta_rewind_0 h ?_)
  rintro μ1 rfl μ2 rfl
  exact ⟨rfl, rfl⟩
/-- does the sign c stand ahead -/
theorem C_demand (hd : 2 ≤ d) (h : TP μ n tb p) {c : Int} (h0 : 0 ≤ c) (h1 : c < 1000) : Call Γ m_Ta_demand d [.ref 33, .int (w c)] μ (KI (fun r μ' =>
    (lk tb n p = c → r = w 1 ∧ μ' = sI μ 33 2 (w ((sk tb n p + 1 : Nat) : Int))) ∧ (¬ lk tb n p = c → r = w 0 ∧ μ' = sI (sI μ 33 2 (w (sk tb n p))) 33 3 (w (sk tb n p))))) := by
  obtain ⟨d, rfl⟩ : ∃ e, d = e + 2 := ⟨d - 2, by omega⟩
  have hs := sk_le tb h.2.2.2.2.2.2
  have hl : -1 ≤ lk tb n p ∧ lk tb n p ≤ 255 := by
    unfold lk ch
    split
    · have := h.2.2.2.2.1 _ (by assumption); omega
    · omega
  have hT : TP (sI μ 33 2 (w (sk tb n p))) n tb (sk tb n p) := h.mv hs.2
  refine Call.of ok_Ta_demand (Nat.le_of_ble_eq_true rfl) (B_Ta_demand_0 h.ob ?_)
  refine (C_ahead (by omega) h).conseq (KI.mono ?_)
  rintro r μ1 ⟨rfl, rfl⟩
  rw [w_inj (by omega) (by omega) (by omega) (by omega)]
  refine ⟨fun q => ?_, fun q => ?_⟩
  · refine (C_pass (by omega) hT).conseq (KV.mono ?_)
    rintro μ2 rfl
    rw [sI_sI]
    exact ⟨_, rfl, fun _ => ⟨rfl, rfl⟩, fun z => absurd q z⟩
  · refine (C_refuse (by omega) hT).conseq (KI.mono ?_)
    rintro r μ2 ⟨rfl, rfl⟩
    exact ⟨Or.inl rfl, _, rfl, fun z => absurd z q, fun _ => ⟨rfl, rfl⟩⟩
theorem C_digitIsHere (hd : 1 ≤ d) (h : TP μ n tb p) : Call Γ m_Ta_digitIsHere d [.ref 33] μ (KI (fun r μ' => μ' = μ ∧ ((dg tb n p ∧ r = w 1) ∨ (¬ dg tb n p ∧ r = w 0)))) := by
  obtain ⟨d, rfl⟩ : ∃ e, d = e + 1 := ⟨d - 1, by omega⟩
  refine Call.of ok_Ta_digitIsHere (Nat.le_of_ble_eq_true rfl) (B_Ta_digitIsHere_0 h.ob h.1 ?_)
  have hn := h.2.2.2.1
  have hp := h.2.2.2.2.2.2
  rw [h.2.2.1, h.2.2.2.2.2.1, w_cln (by omega), w_lt (by omega) (by omega) (by omega) (by omega)]
  refine ⟨fun q => ?_, fun q => ⟨_, rfl, rfl, Or.inr ⟨fun z => q (by have := z.1; omega), rfl⟩⟩⟩
  have hq : p < n := by omega
  obtain ⟨e, g1, g2⟩ := h.2.2.2.2.1 p hq
  rw [e, w_lt (by omega) (by omega) (by omega) (by omega), w_lt (by omega) (by omega) (by omega) (by omega)]
  refine ⟨h.inb (by omega) (by omega), fun z => ⟨_, rfl, rfl, Or.inr ⟨fun y => by have := y.2.1; omega, rfl⟩⟩, fun z => ⟨h.inb (by omega) (by omega), fun y => ⟨_, rfl, rfl, Or.inr ⟨fun x => by have := x.2.2; omega, rfl⟩⟩, fun y => ⟨_, rfl, rfl, Or.inl ⟨⟨hq, by omega, by omega⟩, rfl⟩⟩⟩⟩
theorem C_digit (hd : 2 ≤ d) (h : TP μ n tb p) : Call Γ m_Ta_digit d [.ref 33] μ (KI (fun r μ' =>
    (dg tb n (sk tb n p) ∧ r = w ((tb (sk tb n p) : Int) - 48) ∧ μ' = sI μ 33 2 (w ((sk tb n p + 1 : Nat) : Int))) ∨ (¬ dg tb n (sk tb n p) ∧ r = w (-1) ∧ μ' = sI (sI μ 33 2 (w (sk tb n p))) 33 3 (w (sk tb n p))))) := by
  obtain ⟨d, rfl⟩ : ∃ e, d = e + 2 := ⟨d - 2, by omega⟩
  have hs := sk_le tb h.2.2.2.2.2.2
  have hn := h.2.2.2.1
  have hT : TP (sI μ 33 2 (w (sk tb n p))) n tb (sk tb n p) := h.mv hs.2
  refine Call.of ok_Ta_digit (Nat.le_of_ble_eq_true rfl) (B_Ta_digit_0 h.ob ?_)
  refine (C_ahead (by omega) h).conseq (KI.mono ?_)
  rintro r μ1 ⟨rfl, rfl⟩
  refine (C_digitIsHere (by omega) hT).conseq (KI.mono ?_)
  rintro r μ1 ⟨rfl, ⟨hdg, rfl⟩ | ⟨hdg, rfl⟩⟩
  · refine ⟨fun q => absurd q (by decide), fun _ => ?_⟩
    rintro μ3 rfl
    rw [hT.2.2.2.2.2.1, w_add, sI_sI]
    have hT3 : TP (sI μ 33 2 (w ((sk tb n p + 1 : Nat) : Int))) n tb (sk tb n p + 1) := h.mv hdg.1
    have hlt := hdg.1
    refine ⟨34, h.1, ?_, ?_⟩
    · rw [show (((sk tb n p : Nat) : Int) + 1) = ((sk tb n p + 1 : Nat) : Int) by omega, hT3.2.2.2.2.2.1, w_sub]
      exact hT3.inb (by omega) (by omega)
    · rw [show (((sk tb n p : Nat) : Int) + 1) = ((sk tb n p + 1 : Nat) : Int) by omega, hT3.2.2.2.2.2.1, w_sub, w_cl (by omega) (by omega), show (((sk tb n p + 1 : Nat) : Int) - 1).toNat = sk tb n p by omega, (hT3.2.2.2.2.1 _ hdg.1).1, w_sub]
      exact ⟨_, rfl, Or.inl ⟨hdg, rfl, rfl⟩⟩
  · refine ⟨fun _ => ?_, fun q => absurd rfl q⟩
    rintro μ3 rfl
    rw [hT.2.2.2.2.2.1]
    exact ⟨_, rfl, Or.inr ⟨hdg, rfl, rfl⟩⟩
/-- digits read on: place, value, how many -/
def nmF (tb : Nat → Nat) (n : Nat) : Nat → Nat → Nat → Nat → Nat × Nat × Nat
  | 0, q, v, c => (q, v, c)
  | f + 1, q, v, c => if q < n ∧ 48 ≤ tb q ∧ tb q ≤ 57 then nmF tb n f (q + 1) (10 * v + (tb q - 48)) (c + 1) else (q, v, c)
theorem nmF_le (tb : Nat → Nat) (n : Nat) : ∀ f q v c, q ≤ n → v < 10 ^ c → q ≤ (nmF tb n f q v c).1 ∧ (nmF tb n f q v c).1 ≤ n ∧ (nmF tb n f q v c).2.1 < 10 ^ (nmF tb n f q v c).2.2 ∧ c ≤ (nmF tb n f q v c).2.2 ∧ (nmF tb n f q v c).2.2 ≤ c + f
  | 0, q, v, c, h, hv => ⟨Nat.le_refl _, h, hv, Nat.le_refl _, Nat.le_refl _⟩
  | f + 1, q, v, c, h, hv => by
    unfold nmF
    split
    · rename_i hq
      have := nmF_le tb n f (q + 1) (10 * v + (tb q - 48)) (c + 1) (by omega) (by rw [Nat.pow_succ]; omega)
      omega
    · exact ⟨Nat.le_refl _, h, hv, Nat.le_refl _, Nat.le_add_right _ _⟩
theorem number_G {m : Nat} (hm : m ≤ 4) : ∀ (f : Nat) (μ : XM) (q v c : Nat), c + f = m → v < 10 ^ c → TP μ n tb q →
    (let r := nmF tb n f q v c; ((r.2.2 = 0 ∨ dg tb n r.1) → Q (some (.int (w (-1)))) (sI (sI μ 33 2 (w r.1)) 33 3 (w r.1))) ∧ (¬ (r.2.2 = 0 ∨ dg tb n r.1) → Q (some (.int (w r.2.1))) (sI μ 33 2 (w r.1)))) →
    G Γ m_Ta_number (d + 2) (0, 0) Q 9 [.ref 33, .int (w m), .int (w v), .int (w c)] [] μ := by
  intro f
  induction f with
  | zero =>
    intro μ q v c hc hv h hQ
    have hc4 : c ≤ 4 := by omega
    refine B_Ta_number_9 h.ob ?_
    rw [w_lt (by omega) (by omega) (by omega) (by omega), w_inj (b := 0) (by omega) (by omega) (by omega) (by omega)]
    have e0 : sI μ 33 2 (w q) = μ := sI_self h.2.2.2.2.2.1
    simp only [nmF, e0] at hQ
    refine ⟨fun z => absurd z (by omega), fun _ => ⟨fun z => ?_, fun z => ?_⟩⟩
    · rintro μ1 rfl
      rw [h.2.2.2.2.2.1]
      exact hQ.1 (Or.inl (by omega))
    · refine (C_digitIsHere (by omega) h).conseq (KI.mono ?_)
      rintro r μ1 ⟨rfl, ⟨hdg, rfl⟩ | ⟨hdg, rfl⟩⟩
      · refine ⟨fun q => absurd q (by decide), fun _ => ?_⟩
        rintro μ1 rfl
        rw [h.2.2.2.2.2.1]
        exact hQ.1 (Or.inr hdg)
      · refine ⟨fun _ => hQ.2 (fun y => y.elim (fun y => z (by omega)) hdg), fun q => absurd rfl q⟩
  | succ f ih =>
    intro μ q v c hc hv h hQ
    have hc4 : c < 4 := by omega
    have hv4 : v < 10000 := Nat.lt_of_lt_of_le hv (Nat.pow_le_pow_right (by decide) (by omega) : 10 ^ c ≤ 10 ^ 4)
    have hn := h.2.2.2.1
    refine B_Ta_number_9 h.ob ?_
    rw [w_lt (by omega) (by omega) (by omega) (by omega), w_inj (b := 0) (by omega) (by omega) (by omega) (by omega)]
    refine ⟨fun _ => ?_, fun z => absurd (by omega) z⟩
    refine (C_digitIsHere (by omega) h).conseq (KI.mono ?_)
    have e0 : sI μ 33 2 (w q) = μ := sI_self h.2.2.2.2.2.1
    rintro r μ1 ⟨rfl, ⟨hdg, rfl⟩ | ⟨hdg, rfl⟩⟩
    · refine ⟨fun q => absurd q (by decide), fun _ => ?_⟩
      obtain ⟨e, g1, g2⟩ := h.2.2.2.2.1 q hdg.1
      have hq := hdg.1
      rw [h.2.2.2.2.2.1, w_cln (by omega), w_add]
      refine ⟨34, h.1, h.inb (by omega) (by omega), ?_⟩
      rintro μ10 rfl
      rw [e, w_mul, w_add, w_sub, w_add]
      have := ih _ (q + 1) (10 * v + (tb q - 48)) (c + 1) (by omega) (by rw [Nat.pow_succ]; have := hdg.2; omega) (h.mv (q := q + 1) hq) (by
        have e1 : nmF tb n (f + 1) q v c = nmF tb n f (q + 1) (10 * v + (tb q - 48)) (c + 1) := by
          exact if_pos hdg
        rw [e1] at hQ
        simp only [sI_sI] at hQ ⊢
        exact hQ)
      have g3 := hdg.2
      rw [show ((v : Int) * 10 + (tb q : Int) - 48) = ((10 * v + (tb q - 48) : Nat) : Int) by omega]
      exact this
    · have e1 : nmF tb n (f + 1) q v c = (q, v, c) := by
        exact if_neg hdg
      rw [e1] at hQ
      simp only [e0] at hQ
      refine ⟨fun _ => ⟨fun z => ?_, fun z => ?_⟩, fun q => absurd rfl q⟩
      · rintro μ1 rfl
        rw [h.2.2.2.2.2.1]
        exact hQ.1 (Or.inl (by omega))
      · refine (C_digitIsHere (by omega) h).conseq (KI.mono ?_)
        rintro r μ1 ⟨rfl, ⟨hdg2, rfl⟩ | ⟨hdg2, rfl⟩⟩
        · exact absurd hdg2 hdg
        · exact ⟨fun _ => hQ.2 (fun y => y.elim (fun y => z (by omega)) hdg), fun q => absurd rfl q⟩
/-- a number of at most m digits from p on -/
def nm (tb : Nat → Nat) (n m p : Nat) : Nat × Nat × Nat := nmF tb n m (sk tb n p) 0 0
theorem C_number (hd : 2 ≤ d) {m : Nat} (hm : m ≤ 4) (h : TP μ n tb p) : Call Γ m_Ta_number d [.ref 33, .int (w m)] μ (KI (fun r μ' =>
    (((nm tb n m p).2.2 = 0 ∨ dg tb n (nm tb n m p).1) ∧ r = w (-1) ∧ μ' = sI (sI μ 33 2 (w (nm tb n m p).1)) 33 3 (w (nm tb n m p).1)) ∨ (¬ ((nm tb n m p).2.2 = 0 ∨ dg tb n (nm tb n m p).1) ∧ r = w (nm tb n m p).2.1 ∧ μ' = sI μ 33 2 (w (nm tb n m p).1)))) := by
  obtain ⟨d, rfl⟩ : ∃ e, d = e + 2 := ⟨d - 2, by omega⟩
  have hs := sk_le tb h.2.2.2.2.2.2
  have hT : TP (sI μ 33 2 (w (sk tb n p))) n tb (sk tb n p) := h.mv hs.2
  refine Call.of ok_Ta_number (Nat.le_of_ble_eq_true rfl) (B_Ta_number_0 h.ob ?_)
  refine (C_ahead (by omega) h).conseq (KI.mono ?_)
  rintro r μ1 ⟨rfl, rfl⟩
  refine number_G hm m _ (sk tb n p) 0 0 (by omega) (by decide) hT ?_
  simp only [sI_sI]
  exact ⟨fun z => ⟨_, rfl, Or.inl ⟨z, rfl, rfl⟩⟩, fun z => ⟨_, rfl, Or.inr ⟨z, rfl, rfl⟩⟩⟩
end TC
