/-! READING A HOUSE OR A PLAN, in the reference: bytes ahead, digits -/
def rdf (c j : Nat) : Prop := c = 547 ∧ (j = 10 ∨ j = 11)
/-- n bytes tb are read from the tape, p the next -/
def RT (μ : XM) (n : Nat) (tb : Nat → Nat) (p : Nat) : Prop := RM μ ∧ SS μ ∧ TX μ 548 0 n tb ∧ xR μ 547 5 = some 548 ∧ xI μ 547 8 = w 0 ∧ xI μ 547 9 = w n ∧ xI μ 547 10 = w p ∧ p ≤ n
theorem RM_rd {μ μ' : XM} (h : RM μ) (ho : fr rdf μ μ') : RM μ' := h.fr ho (fun k v e => by
  unfold rdf
  rintro ⟨-, rfl | rfl⟩
  · exact nomatch e
  · exact nomatch e)
theorem RT.frm {F : Nat → Nat → Prop} {μ μ' : XM} {n : Nat} {tb : Nat → Nat} {p : Nat} (h : RT μ n tb p) (ho : fr F μ μ') (h1 : ∀ k v, rM k = some v → ¬ F 547 k) (h2 : ∀ c j, c < 32 → ¬ F c j) (h3 : ∀ j, ¬ F 548 j) (h4 : ∀ j, (j = 5 ∨ j = 8 ∨ j = 9 ∨ j = 10) → ¬ F 547 j) : RT μ' n tb p := by
  obtain ⟨a1, a2, a3, a4, a5, a6, a7, a8⟩ := h
  exact ⟨a1.fr ho h1, a2.frm ho h2, a3.fr ho h3, by rw [(ho.1 547 5 (h4 _ (by omega))).2.2]; exact a4, by rw [(ho.1 547 8 (h4 _ (by omega))).1]; exact a5, by rw [(ho.1 547 9 (h4 _ (by omega))).1]; exact a6, by rw [(ho.1 547 10 (h4 _ (by omega))).1]; exact a7, a8⟩
theorem RT.n2 {μ : XM} {n : Nat} {tb : Nat → Nat} {p : Nat} (h : RT μ n tb p) : n ≤ 240 := h.2.2.1.1
theorem RT.b {μ : XM} {n : Nat} {tb : Nat → Nat} {p : Nat} (h : RT μ n tb p) {q : Nat} (hq : q < n) : zib μ 1 548 (w 0 + w q) ∧ xI μ 548 (w 0 + w q).toNatClampNeg = w (sb (tb q)) ∧ 1 ≤ tb q ∧ tb q ≤ 255 := by
  have hn := h.n2
  have hb := h.2.2.1.2.2 q hq
  rw [w_add, w_cl (by omega) (by omega), show ((0 : Int) + q).toNat = 0 + q by omega]
  exact ⟨inb_of sh547 (by omega) h.1.1 (by omega) (by omega), hb⟩
theorem RT.mv {μ : XM} {n : Nat} {tb : Nat → Nat} {p : Nat} (h : RT μ n tb p) {q : Nat} (hq : q ≤ n) : RT (sI μ 547 10 (w q)) n tb q ∧ fr rdf μ (sI μ 547 10 (w q)) := by
  have ho : fr rdf μ (sI μ 547 10 (w q)) := fr.sI (F := rdf) (a := 547) (k := 10) μ _ ⟨rfl, Or.inl rfl⟩
  obtain ⟨a1, a2, a3, a4, a5, a6, a7, a8⟩ := h
  exact ⟨⟨RM_rd a1 ho, a2.frm ho (fun c j hc => by unfold rdf; omega), a3.fr ho (fun j => by unfold rdf; omega), by rw [xR_sI]; exact a4, by rw [xI_sI, if_neg (by omega)]; exact a5, by rw [xI_sI, if_neg (by omega)]; exact a6, by rw [xI_sI, if_pos ⟨rfl, rfl⟩], hq⟩, ho⟩
theorem RT.fl {μ : XM} {n : Nat} {tb : Nat → Nat} {p : Nat} (h : RT μ n tb p) (v : Int32) : RT (sI μ 547 11 v) n tb p ∧ fr rdf μ (sI μ 547 11 v) := by
  have ho : fr rdf μ (sI μ 547 11 v) := fr.sI (F := rdf) (a := 547) (k := 11) μ _ ⟨rfl, Or.inr rfl⟩
  obtain ⟨a1, a2, a3, a4, a5, a6, a7, a8⟩ := h
  exact ⟨⟨RM_rd a1 ho, a2.frm ho (fun c j hc => by unfold rdf; omega), a3.fr ho (fun j => by unfold rdf; omega), by rw [xR_sI]; exact a4, by rw [xI_sI, if_neg (by omega)]; exact a5, by rw [xI_sI, if_neg (by omega)]; exact a6, by rw [xI_sI, if_neg (by omega)]; exact a7, a8⟩, ho⟩
section OQ
variable {Γ : XG} {d n p : Nat} {tb : Nat → Nat} {μ : XM} {Q : Option Value → XM → Prop}
theorem lookR_G : ∀ (f : Nat) (μ : XM) (p : Nat), n - p = f → RT μ n tb p → (∀ μ', fr rdf μ μ' → xI μ' 547 11 = xI μ 547 11 → RT μ' n tb (sk tb n p) → Q (some (.int (w (lk tb n p)))) μ') → G Γ m_MO_look (d + 1) (0, 0) Q 0 [.ref 547] [] μ := by
  intro f
  induction f with
  | zero =>
    intro μ p hf h hQ
    obtain ⟨a1, a2, a3, a4, a5, a6, a7, a8⟩ := h
    have hp : p = n := by omega
    subst hp
    have hn := a3.1
    refine B_MO_look_0 a1.o a4 ?_
    rw [a6, a7]
    have hlt : ¬ w (p : Int) < w (p : Int) := by rw [w_lt (by omega) (by omega) (by omega) (by omega)]; omega
    have hQ2 := hQ μ (fr.rf _ _) rfl (by rw [sk_end]; exact ⟨a1, a2, a3, a4, a5, a6, a7, a8⟩)
    rw [show lk tb p p = -1 by unfold lk; rw [sk_end]; unfold ch; rw [if_neg (by omega)]] at hQ2
    exact ⟨fun q => absurd q hlt, fun _ => ⟨fun q => absurd q hlt, fun _ => hQ2⟩⟩
  | succ f ih =>
    intro μ p hf h hQ
    have hp : p < n := by omega
    have hn := h.n2
    obtain ⟨b1, b2, b3, b4⟩ := h.b hp
    have hsb := sb_ok (tb p) (by omega)
    have h' := h
    obtain ⟨a1, a2, a3, a4, a5, a6, a7, a8⟩ := h'
    refine B_MO_look_0 a1.o a4 ?_
    rw [a6, a5, a7, b2]
    have hlt : w (p : Int) < w (n : Int) := by rw [w_lt (by omega) (by omega) (by omega) (by omega)]; omega
    refine ⟨fun _ => ⟨b1, fun q => ?_, fun q => ⟨fun _ => ⟨b1, ?_⟩, fun q => absurd hlt q⟩⟩, fun q => absurd hlt q⟩
    · rw [w_inj (by omega) (by omega) (by omega) (by omega)] at q
      have hb : tb p = 32 := by unfold sb at q; split at q <;> omega
      rintro μ4 rfl
      rw [w_add, show (p : Int) + 1 = ((p + 1 : Nat) : Int) by omega]
      have hT := h.mv (q := p + 1) (by omega)
      refine ih _ (p + 1) (by omega) hT.1 (fun μ' g1 g2 g3 => ?_)
      rw [← sk_bl hp hb] at g3
      have := hQ μ' (hT.2.trans g1) (by rw [g2, xI_sI, if_neg (by omega)]) g3
      rwa [show lk tb n p = lk tb n (p + 1) by unfold lk; rw [sk_bl hp hb]] at this
    · rw [w_inj (by omega) (by omega) (by omega) (by omega)] at q
      have hb : ¬ tb p = 32 := fun z => q (by rw [z]; rfl)
      have hQ2 := hQ μ (fr.rf _ _) rfl (by rw [sk_nb hp hb]; exact h)
      rw [show lk tb n p = tb p by unfold lk; rw [sk_nb hp hb]; unfold ch; rw [if_pos hp]] at hQ2
      rw [hsb.1]
      exact hQ2
theorem C_lookR (hd : 1 ≤ d) (h : RT μ n tb p) : Call Γ m_MO_look d [.ref 547] μ (KI (fun r μ' => r = w (lk tb n p) ∧ fr rdf μ μ' ∧ xI μ' 547 11 = xI μ 547 11 ∧ RT μ' n tb (sk tb n p))) := by
  obtain ⟨d, rfl⟩ : ∃ e, d = e + 1 := ⟨d - 1, by omega⟩
  exact Call.of ok_MO_look (Nat.le_of_ble_eq_true rfl) (lookR_G (n - p) μ p rfl h (fun μ' g1 g2 g3 => ⟨_, rfl, rfl, g1, g2, g3⟩))
theorem C_failsR (hd : 1 ≤ d) (h : RT μ n tb p) (hf : xI μ 547 11 = w (-1)) : Call Γ m_MO_fails d [.ref 547] μ (KI (fun r μ' => r = w 0 ∧ fr rdf μ μ' ∧ xI μ' 547 11 = w p ∧ RT μ' n tb p)) := by
  obtain ⟨d, rfl⟩ : ∃ e, d = e + 1 := ⟨d - 1, by omega⟩
  obtain ⟨a1, a2, a3, a4, a5, a6, a7, a8⟩ := h
  refine Call.of ok_MO_fails (Nat.le_of_ble_eq_true rfl) (B_MO_fails_0 a1.o ?_)
  refine ⟨fun _ => ?_, fun q => absurd hf q⟩
  rintro μ1 rfl
  rw [a7]
  have hT := RT.fl ⟨a1, a2, a3, a4, a5, a6, a7, a8⟩ (w p)
  exact ⟨_, rfl, rfl, hT.2, by rw [xI_sI, if_pos ⟨rfl, rfl⟩], hT.1⟩
theorem C_isDigitR (hd : 1 ≤ d) (h : RT μ n tb p) : Call Γ m_MO_isDigit d [.ref 547] μ (KI (fun r μ' => μ' = μ ∧ ((dg tb n p ∧ r = w 1) ∨ (¬ dg tb n p ∧ r = w 0)))) := by
  obtain ⟨d, rfl⟩ : ∃ e, d = e + 1 := ⟨d - 1, by omega⟩
  have hn := h.n2
  have h' := h
  obtain ⟨a1, a2, a3, a4, a5, a6, a7, a8⟩ := h'
  refine Call.of ok_MO_isDigit (Nat.le_of_ble_eq_true rfl) (B_MO_isDigit_0 a1.o a4 ?_)
  rw [a7, a6, a5, w_lt (by omega) (by omega) (by omega) (by omega)]
  refine ⟨fun q => ?_, fun q => ⟨_, rfl, rfl, Or.inr ⟨fun z => q (by have := z.1; omega), rfl⟩⟩⟩
  have hlt : p < n := by omega
  obtain ⟨b1, b2, b3, b4⟩ := h.b hlt
  have hsb := sb_ok (tb p) (by omega)
  rw [b2, w_lt (by omega) (by omega) (by omega) (by omega), w_lt (by omega) (by omega) (by omega) (by omega)]
  have e1 : (¬ sb (tb p) < 48 ∧ ¬ 57 < sb (tb p)) ↔ (48 ≤ tb p ∧ tb p ≤ 57) := by unfold sb; split <;> omega
  refine ⟨b1, fun z => ⟨_, rfl, rfl, Or.inr ⟨fun y => ?_, rfl⟩⟩, fun z => ⟨b1, fun y => ⟨_, rfl, rfl, Or.inr ⟨fun x => ?_, rfl⟩⟩, fun y => ⟨_, rfl, rfl, Or.inl ⟨⟨hlt, e1.mp ⟨z, y⟩⟩, rfl⟩⟩⟩⟩
  · exact (e1.mpr y.2).1 z
  · exact (e1.mpr x.2).2 y
/-- a digit of at most m ahead: its value, or wrong there -/
theorem C_digitR (hd : 2 ≤ d) (h : RT μ n tb p) (hf : xI μ 547 11 = w (-1)) {m : Int} (m0 : 0 ≤ m) (m9 : m ≤ 9) : Call Γ m_MO_digit d [.ref 547, .int (w m)] μ (KI (fun r μ' => fr rdf μ μ' ∧ (((dg tb n (sk tb n p) ∧ (tb (sk tb n p) : Int) - 48 ≤ m) ∧ r = w ((tb (sk tb n p) : Int) - 48) ∧ xI μ' 547 11 = w (-1) ∧ RT μ' n tb (sk tb n p + 1)) ∨ (¬ (dg tb n (sk tb n p) ∧ (tb (sk tb n p) : Int) - 48 ≤ m) ∧ r = w 0 ∧ xI μ' 547 11 = w (sk tb n p) ∧ RT μ' n tb (sk tb n p))))) := by
  obtain ⟨d, rfl⟩ : ∃ e, d = e + 1 := ⟨d - 1, by omega⟩
  have hn := h.n2
  refine Call.of ok_MO_digit (Nat.le_of_ble_eq_true rfl) (B_MO_digit_0 h.1.o ?_)
  refine (C_lookR (by omega) h).conseq (KI.mono ?_)
  rintro r μ1 ⟨rfl, o1, f1, h1⟩
  rw [hf] at f1
  refine (C_isDigitR (by omega) h1).conseq (KI.mono ?_)
  rintro r μ2 ⟨rfl, ⟨hg, rfl⟩ | ⟨hg, rfl⟩⟩
  · refine ⟨fun q => absurd q (by decide), fun _ => ?_⟩
    have hl : lk tb n p = (tb (sk tb n p) : Int) := by unfold lk ch; rw [if_pos hg.1]
    have hg' := hg
    unfold dg at hg'
    rw [hl, w_sub, w_lt (by omega) (by omega) (by omega) (by omega)]
    refine ⟨fun q => ?_, fun q => ?_⟩
    · refine (C_failsR (by omega) h1 f1).conseq (KI.mono ?_)
      rintro r μ3 ⟨rfl, o3, f3, h3⟩
      exact ⟨_, rfl, o1.trans o3, Or.inr ⟨fun z => by have := z.2; omega, rfl, f3, h3⟩⟩
    · rintro μ4 rfl
      rw [h1.2.2.2.2.2.2.1, w_add]
      have hT := h1.mv (q := sk tb n p + 1) (by omega)
      rw [show ((sk tb n p : Nat) : Int) + 1 = ((sk tb n p + 1 : Nat) : Int) by omega]
      exact ⟨_, rfl, o1.trans hT.2, Or.inl ⟨⟨hg, by omega⟩, rfl, by rw [xI_sI, if_neg (by omega)]; exact f1, hT.1⟩⟩
  · refine ⟨fun _ => ?_, fun q => absurd rfl q⟩
    refine (C_failsR (by omega) h1 f1).conseq (KI.mono ?_)
    rintro r μ3 ⟨rfl, o3, f3, h3⟩
    exact ⟨_, rfl, o1.trans o3, Or.inr ⟨fun z => hg z.1, rfl, f3, h3⟩⟩
end OQ
