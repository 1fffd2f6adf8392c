/-! LETTERS OF STEPS: the class's and the reference's are the same -/
theorem spt5_ltr (c : Int) : sch (fun j => decide (ltr 13 j = c)) 5 0 = spt 5 c := by
  unfold spt
  refine sch_cg 5 0 (fun j h1 h2 => ?_)
  have : ∀ j, j < 5 → ltr 13 j = (sS 5).getD j 0 := by decide
  rw [this j (by omega)]
def pcp (p c : Nat) : Prop := c = 33 ∨ (507 + 9 * p ≤ c ∧ c ≤ 510 + 9 * p)
theorem TP_pl {μ : XM} {n q c k : Nat} {tb : Nat → Nat} {v : Int32} (h : TP μ n tb q) (hc : 501 ≤ c) : TP (sI μ c k v) n tb q := by
  obtain ⟨a1, a2, a3, a4, a5, a6, a7⟩ := h
  exact ⟨by rw [xR_sI]; exact a1, a2, by rw [xI_sI, if_neg (by omega)]; exact a3, a4, fun j hj => by rw [xI_sI, if_neg (by omega)]; exact a5 j hj, by rw [xI_sI, if_neg (by omega)]; exact a6, a7⟩
theorem e33 {μ : XM} {x v : Int32} {c k : Nat} (h : xI μ 33 1 = x) (hc : ¬ (33 = c ∧ 1 = k)) : xI (sI μ c k v) 33 1 = x := by rw [xI_sI, if_neg hc]; exact h
section PPL
variable {Γ : XG} {d n p q i : Nat} {tb : Nat → Nat} {μ : XM} {Q : Option Value → XM → Prop}
theorem pl_r (hR : RF μ) (hp : p < 5) : xR μ (506 + 9 * p) 0 = some (507 + 9 * p) ∧ xR μ (506 + 9 * p) 1 = some (508 + 9 * p) ∧ xR μ (506 + 9 * p) 2 = some (509 + 9 * p) ∧ xR μ (506 + 9 * p) 3 = some (510 + 9 * p) := (hR.2.2.2.2.2.2.2 p hp).2.2.2
theorem C_hours2 (hd : 3 ≤ d) (hR : RF μ) (hp : p < 5) (h : TP μ n tb q) (hi : i < 16) {a : Int} (hv : xI μ (508 + 9 * p) i = w a) : Call Γ m_Pl_readSecondOfHours d [.ref (506 + 9 * p), .ref 33, .int (w i)] μ (KI (fun r μ' => (fof (pcp p) μ μ' ∧ xI μ' 33 1 = xI μ 33 1) ∧ ((dg tb n (sk tb n q) ∧ r = w 1 ∧ TP μ' n tb (sk tb n q + 1) ∧ xI μ' (508 + 9 * p) i = w (10 * a + dv tb (sk tb n q)) ∧ ∀ c j, 501 ≤ c → ¬ (c = 508 + 9 * p ∧ j = i) → xI μ' c j = xI μ c j) ∨ (¬ dg tb n (sk tb n q) ∧ r = w 0 ∧ xI μ' 33 3 = w (sk tb n q))))) := by
  obtain ⟨d, rfl⟩ : ∃ e, d = e + 1 := ⟨d - 1, by omega⟩
  have hs := sk_le tb h.2.2.2.2.2.2
  have hn := h.2.2.2.1
  have s7 := (shplan p hp).2.2.1
  refine Call.of ok_Pl_readSecondOfHours (Nat.le_of_ble_eq_true rfl) (B_Pl_readSecondOfHours_0 h.ob (ob_of (shplan p hp).1 (by omega) hR.1) ?_)
  refine (C_digit (by omega) h).conseq (KI.mono ?_)
  rintro r μ1 (⟨hg, rfl, rfl⟩ | ⟨hg, rfl, rfl⟩)
  · refine ⟨508 + 9 * p, by rw [xR_sI]; exact (pl_r hR hp).2.1, inb_of s7 (by omega) hR.1 (by omega) (by omega), ⟨by omega, inb_of s7 (by omega) hR.1 (by omega) (by omega)⟩, ?_⟩
    have hlt : sk tb n q < n := hg.1
    have hT : TP (sI μ 33 2 (w ((sk tb n q + 1 : Nat) : Int))) n tb (sk tb n q + 1) := h.mv (by omega)
    rw [w_cln (by omega), xI_sI, if_neg (by omega), hv, w_mul, w_add]
    rintro μ5 rfl
    have hd1 := hg.2
    refine ⟨fun z => ?_, fun _ => ⟨_, rfl, ⟨(fof.sI (P := pcp p) _ _ _ (Or.inl rfl)).trans (fof.sI (P := pcp p) _ _ _ (Or.inr (by omega))), e33 (e33 rfl (by omega)) (by omega)⟩, Or.inl ⟨hg, rfl, TP_pl hT (by omega), ?_, fun c j hc hcj => by rw [xI_sI, if_neg hcj, xI_sI, if_neg (by omega)]⟩⟩⟩
    · rw [w_inj (by omega) (by omega) (by omega) (by omega)] at z
      omega
    · rw [xI_sI, if_pos ⟨rfl, rfl⟩]
      unfold dv
      congr 1
      omega
  · refine ⟨508 + 9 * p, by rw [xR_sI, xR_sI]; exact (pl_r hR hp).2.1, inb_of s7 (by omega) hR.1 (by omega) (by omega), ⟨by omega, inb_of s7 (by omega) hR.1 (by omega) (by omega)⟩, ?_⟩
    rw [w_cln (by omega)]
    rintro μ5 rfl
    refine ⟨fun _ => ⟨_, rfl, ⟨((fof.sI (P := pcp p) _ _ _ (Or.inl rfl)).trans (fof.sI (P := pcp p) _ _ _ (Or.inl rfl))).trans (fof.sI (P := pcp p) _ _ _ (Or.inr (by omega))), e33 (e33 (e33 rfl (by omega)) (by omega)) (by omega)⟩, Or.inr ⟨hg, rfl, ?_⟩⟩, fun z => absurd rfl z⟩
    rw [xI_sI, if_neg (by omega), xI_sI, if_pos ⟨rfl, rfl⟩]
theorem C_putRest (hd : 3 ≤ d) (hR : RF μ) (hp : p < 5) (h : TP μ n tb q) (hi : i < 16) : Call Γ m_Pl_readRestOfPut d [.ref (506 + 9 * p), .ref 33, .int (w i)] μ (KI (fun r μ' => (fof (pcp p) μ μ' ∧ xI μ' 33 1 = xI μ 33 1) ∧ ((dg tb n (sk tb n q) ∧ (dg tb n (sk tb n (sk tb n q + 1)) ∧ dv tb (sk tb n (sk tb n q + 1)) ≤ 1) ∧ r = w 1 ∧ TP μ' n tb (sk tb n (sk tb n q + 1) + 1) ∧ xI μ' (509 + 9 * p) i = w (dv tb (sk tb n q)) ∧ xI μ' (510 + 9 * p) i = w (dv tb (sk tb n (sk tb n q + 1))) ∧ ∀ c j, 501 ≤ c → ¬ ((c = 509 + 9 * p ∨ c = 510 + 9 * p) ∧ j = i) → xI μ' c j = xI μ c j) ∨ (¬ dg tb n (sk tb n q) ∧ r = w 0 ∧ xI μ' 33 3 = w (sk tb n q)) ∨ (dg tb n (sk tb n q) ∧ ¬ (dg tb n (sk tb n (sk tb n q + 1)) ∧ dv tb (sk tb n (sk tb n q + 1)) ≤ 1) ∧ r = w 0 ∧ xI μ' 33 3 = w (sk tb n (sk tb n q + 1)))))) := by
  obtain ⟨d, rfl⟩ : ∃ e, d = e + 1 := ⟨d - 1, by omega⟩
  have hs := sk_le tb h.2.2.2.2.2.2
  have hn := h.2.2.2.1
  have s8 := (shplan p hp).2.2.2.1
  have s9 := (shplan p hp).2.2.2.2
  have pr := pl_r hR hp
  refine Call.of ok_Pl_readRestOfPut (Nat.le_of_ble_eq_true rfl) (B_Pl_readRestOfPut_0 (ob_of (shplan p hp).1 (by omega) hR.1) pr.2.2.1 h.ob ?_)
  refine (C_digit (by omega) h).conseq (KI.mono ?_)
  rw [w_cln (by omega)]
  rintro r μ1 (⟨hg, rfl, rfl⟩ | ⟨hg, rfl, rfl⟩)
  · have hlt : sk tb n q < n := hg.1
    have hd1 := hg.2
    refine ⟨⟨by omega, inb_of s8 (by omega) hR.1 (by omega) (by omega)⟩, ?_⟩
    rintro μ3 rfl
    have hT : TP (sI μ 33 2 (w ((sk tb n q + 1 : Nat) : Int))) n tb (sk tb n q + 1) := h.mv (by omega)
    have hT3 : TP (sI (sI μ 33 2 (w ((sk tb n q + 1 : Nat) : Int))) (509 + 9 * p) i (w ((tb (sk tb n q) : Int) - 48))) n tb (sk tb n q + 1) := TP_pl hT (by omega)
    have o3 : fof (pcp p) μ (sI (sI μ 33 2 (w ((sk tb n q + 1 : Nat) : Int))) (509 + 9 * p) i (w ((tb (sk tb n q) : Int) - 48))) := (fof.sI (P := pcp p) _ _ _ (Or.inl rfl)).trans (fof.sI (P := pcp p) _ _ _ (Or.inr (by omega)))
    have g3 : xI (sI (sI μ 33 2 (w ((sk tb n q + 1 : Nat) : Int))) (509 + 9 * p) i (w ((tb (sk tb n q) : Int) - 48))) (509 + 9 * p) i = w (dv tb (sk tb n q)) := by rw [xI_sI, if_pos ⟨rfl, rfl⟩]; rfl
    have u3 : ∀ c j, 501 ≤ c → ¬ (c = 509 + 9 * p ∧ j = i) → xI (sI (sI μ 33 2 (w ((sk tb n q + 1 : Nat) : Int))) (509 + 9 * p) i (w ((tb (sk tb n q) : Int) - 48))) c j = xI μ c j := fun c j hc hcj => by rw [xI_sI, if_neg hcj, xI_sI, if_neg (by omega)]
    have r3 : ∀ k, xR (sI (sI μ 33 2 (w ((sk tb n q + 1 : Nat) : Int))) (509 + 9 * p) i (w ((tb (sk tb n q) : Int) - 48))) (506 + 9 * p) k = xR μ (506 + 9 * p) k := fun k => by rw [xR_sI, xR_sI]
    have e3 : xI (sI (sI μ 33 2 (w ((sk tb n q + 1 : Nat) : Int))) (509 + 9 * p) i (w ((tb (sk tb n q) : Int) - 48))) 33 1 = xI μ 33 1 := e33 (e33 rfl (by omega)) (by omega)
    have N3 : xN (sI (sI μ 33 2 (w ((sk tb n q + 1 : Nat) : Int))) (509 + 9 * p) i (w ((tb (sk tb n q) : Int) - 48))) = xN μ := rfl
    generalize sI (sI μ 33 2 (w ((sk tb n q + 1 : Nat) : Int))) (509 + 9 * p) i (w ((tb (sk tb n q) : Int) - 48)) = μ3 at *
    have hR3 : 574 ≤ xN μ3 := by rw [N3]; exact hR.1
    have dv1 : 0 ≤ dv tb (sk tb n q) ∧ dv tb (sk tb n q) ≤ 9 := by unfold dv; omega
    rw [g3]
    refine ⟨by rw [r3]; exact pr.2.2.1, inb_of s8 (by omega) hR3 (by omega) (by omega), fun z => ?_, fun _ => ⟨510 + 9 * p, by rw [r3]; exact pr.2.2.2, ?_⟩⟩
    · rw [w_inj (by omega) (by omega) (by omega) (by omega)] at z
      omega
    have hs2 := sk_le tb hT3.2.2.2.2.2.2
    refine (C_digit (by omega) hT3).conseq (KI.mono ?_)
    rintro r μ7 (⟨hg2, rfl, rfl⟩ | ⟨hg2, rfl, rfl⟩)
    · have hd2 := hg2.2
      have hlt2 : sk tb n (sk tb n q + 1) < n := hg2.1
      have hT7 : TP (sI μ3 33 2 (w ((sk tb n (sk tb n q + 1) + 1 : Nat) : Int))) n tb (sk tb n (sk tb n q + 1) + 1) := hT3.mv (by omega)
      refine ⟨⟨by omega, inb_of s9 (by omega) hR3 (by omega) (by omega)⟩, ?_⟩
      rintro μ9 rfl
      have hT9 := TP_pl (c := 510 + 9 * p) (k := i) (v := w ((tb (sk tb n (sk tb n q + 1)) : Int) - 48)) hT7 (by omega)
      have g9 : xI (sI (sI μ3 33 2 (w ((sk tb n (sk tb n q + 1) + 1 : Nat) : Int))) (510 + 9 * p) i (w ((tb (sk tb n (sk tb n q + 1)) : Int) - 48))) (510 + 9 * p) i = w (dv tb (sk tb n (sk tb n q + 1))) := by rw [xI_sI, if_pos ⟨rfl, rfl⟩]; rfl
      have o9 := o3.trans ((fof.sI (P := pcp p) μ3 2 (w ((sk tb n (sk tb n q + 1) + 1 : Nat) : Int)) (a := 33) (Or.inl rfl)).trans (fof.sI (P := pcp p) (a := 510 + 9 * p) _ i (w ((tb (sk tb n (sk tb n q + 1)) : Int) - 48)) (Or.inr (by omega))))
      have u9 : ∀ c j, 501 ≤ c → ¬ (c = 510 + 9 * p ∧ j = i) → xI (sI (sI μ3 33 2 (w ((sk tb n (sk tb n q + 1) + 1 : Nat) : Int))) (510 + 9 * p) i (w ((tb (sk tb n (sk tb n q + 1)) : Int) - 48))) c j = xI μ3 c j := fun c j hc hcj => by rw [xI_sI, if_neg hcj, xI_sI, if_neg (by omega)]
      have dv2 : 0 ≤ dv tb (sk tb n (sk tb n q + 1)) ∧ dv tb (sk tb n (sk tb n q + 1)) ≤ 9 := by unfold dv; omega
      rw [g9, w_inj (by omega) (by omega) (by omega) (by omega), w_lt (by omega) (by omega) (by omega) (by omega)]
      refine ⟨by rw [xR_sI, xR_sI, r3]; exact pr.2.2.2, inb_of s9 (by omega) hR3 (by omega) (by omega), fun z => absurd z (by omega), fun _ => ⟨inb_of s9 (by omega) hR3 (by omega) (by omega), fun z => ?_, fun z => ⟨_, rfl, ⟨o9, e33 (e33 e3 (by omega)) (by omega)⟩, Or.inl ⟨hg, ⟨hg2, by omega⟩, rfl, hT9, ?_, g9, fun c j hc hcj => ?_⟩⟩⟩⟩
      · refine (C_refuseLast (by omega) hT9).conseq (KI.mono ?_)
        rintro r μ13 ⟨rfl, rfl⟩
        refine ⟨fun _ => ⟨_, rfl, ⟨o9.trans (fof.sI (P := pcp p) _ _ _ (Or.inl rfl)), e33 (e33 (e33 e3 (by omega)) (by omega)) (by omega)⟩, Or.inr (Or.inr ⟨hg, fun y => by have := y.2; omega, rfl, ?_⟩)⟩, fun y => absurd rfl y⟩
        rw [xI_sI, if_pos ⟨rfl, rfl⟩]
        congr 1
        omega
      · rw [u9 _ _ (by omega) (by omega)]
        exact g3
      · rw [u9 _ _ hc (by omega), u3 _ _ hc (by omega)]
    · refine ⟨⟨by omega, inb_of s9 (by omega) hR3 (by omega) (by omega)⟩, ?_⟩
      rintro μ9 rfl
      have g9 : xI (sI (sI (sI μ3 33 2 (w (sk tb n (sk tb n q + 1) : Nat))) 33 3 (w (sk tb n (sk tb n q + 1) : Nat))) (510 + 9 * p) i (w (-1))) (510 + 9 * p) i = w (-1) := by rw [xI_sI, if_pos ⟨rfl, rfl⟩]
      rw [g9]
      refine ⟨by rw [xR_sI, xR_sI, xR_sI, r3]; exact pr.2.2.2, inb_of s9 (by omega) hR3 (by omega) (by omega), fun _ => ⟨_, rfl, ⟨o3.trans (((fof.sI (P := pcp p) _ _ _ (Or.inl rfl)).trans (fof.sI (P := pcp p) _ _ _ (Or.inl rfl))).trans (fof.sI (P := pcp p) _ _ _ (Or.inr (by omega)))), e33 (e33 (e33 e3 (by omega)) (by omega)) (by omega)⟩, Or.inr (Or.inr ⟨hg, fun y => hg2 y.1, rfl, ?_⟩)⟩, fun z => absurd rfl z⟩
      rw [xI_sI, if_neg (by omega), xI_sI, if_pos ⟨rfl, rfl⟩]
  · refine ⟨⟨by omega, inb_of s8 (by omega) hR.1 (by omega) (by omega)⟩, ?_⟩
    rintro μ3 rfl
    have g3 : xI (sI (sI (sI μ 33 2 (w (sk tb n q : Nat))) 33 3 (w (sk tb n q : Nat))) (509 + 9 * p) i (w (-1))) (509 + 9 * p) i = w (-1) := by rw [xI_sI, if_pos ⟨rfl, rfl⟩]
    rw [g3]
    refine ⟨by rw [xR_sI, xR_sI, xR_sI]; exact pr.2.2.1, inb_of s8 (by omega) hR.1 (by omega) (by omega), fun _ => ⟨_, rfl, ⟨((fof.sI (P := pcp p) _ _ _ (Or.inl rfl)).trans (fof.sI (P := pcp p) _ _ _ (Or.inl rfl))).trans (fof.sI (P := pcp p) _ _ _ (Or.inr (by omega))), e33 (e33 (e33 rfl (by omega)) (by omega)) (by omega)⟩, Or.inr (Or.inl ⟨hg, rfl, ?_⟩)⟩, fun z => absurd rfl z⟩
    rw [xI_sI, if_neg (by omega), xI_sI, if_pos ⟨rfl, rfl⟩]
end PPL
