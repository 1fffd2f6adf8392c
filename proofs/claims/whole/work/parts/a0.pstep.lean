/-! READING A STEP, A PLAN, in the class -/
theorem stq_n {tb : Nat → Nat} {n q : Nat} (h : spt 5 (lk tb n q) = -1) : stq tb n q = .inl (sk tb n q) := by unfold stq; rw [if_pos h]
theorem stq_1 {tb : Nat → Nat} {n q : Nat} (h : ¬ spt 5 (lk tb n q) = -1) (h1 : ¬ dg tb n (st1 tb n q)) : stq tb n q = .inl (st1 tb n q) := by unfold stq; rw [if_neg h, if_neg h1]
theorem stq_4 {tb : Nat → Nat} {n q : Nat} (h : spt 5 (lk tb n q) = 4) (h1 : dg tb n (st1 tb n q)) (h2 : dg tb n (st2 tb n q)) : stq tb n q = .inr (st2 tb n q + 1, v4 4 (10 * dv tb (st1 tb n q) + dv tb (st2 tb n q)) (-1) (-1)) := by unfold stq; rw [if_neg (by omega), if_pos h1, if_pos h, if_pos h2]
theorem stq_4n {tb : Nat → Nat} {n q : Nat} (h : spt 5 (lk tb n q) = 4) (h1 : dg tb n (st1 tb n q)) (h2 : ¬ dg tb n (st2 tb n q)) : stq tb n q = .inl (st2 tb n q) := by unfold stq; rw [if_neg (by omega), if_pos h1, if_pos h, if_neg h2]
theorem stq_0 {tb : Nat → Nat} {n q : Nat} (h : spt 5 (lk tb n q) = 0) (h1 : dg tb n (st1 tb n q)) (h2 : dg tb n (st2 tb n q)) (h3 : dg tb n (st3 tb n q) ∧ dv tb (st3 tb n q) ≤ 1) : stq tb n q = .inr (st3 tb n q + 1, v4 0 (dv tb (st1 tb n q)) (dv tb (st2 tb n q)) (dv tb (st3 tb n q))) := by unfold stq; rw [if_neg (by omega), if_pos h1, if_neg (by omega), if_pos h, if_pos h2, if_pos h3]
theorem stq_0n {tb : Nat → Nat} {n q : Nat} (h : spt 5 (lk tb n q) = 0) (h1 : dg tb n (st1 tb n q)) (h2 : ¬ dg tb n (st2 tb n q)) : stq tb n q = .inl (st2 tb n q) := by unfold stq; rw [if_neg (by omega), if_pos h1, if_neg (by omega), if_pos h, if_neg h2]
theorem stq_0m {tb : Nat → Nat} {n q : Nat} (h : spt 5 (lk tb n q) = 0) (h1 : dg tb n (st1 tb n q)) (h2 : dg tb n (st2 tb n q)) (h3 : ¬ (dg tb n (st3 tb n q) ∧ dv tb (st3 tb n q) ≤ 1)) : stq tb n q = .inl (st3 tb n q) := by unfold stq; rw [if_neg (by omega), if_pos h1, if_neg (by omega), if_pos h, if_pos h2, if_neg h3]
theorem stq_o {tb : Nat → Nat} {n q : Nat} (h : ¬ spt 5 (lk tb n q) = -1) (h4 : ¬ spt 5 (lk tb n q) = 4) (h0 : ¬ spt 5 (lk tb n q) = 0) (h1 : dg tb n (st1 tb n q)) : stq tb n q = .inr (st1 tb n q + 1, v4 (spt 5 (lk tb n q)) (dv tb (st1 tb n q)) (-1) (-1)) := by unfold stq; rw [if_neg h, if_pos h1, if_neg h4, if_neg h0]
def SRF (μ μ' : XM) (p i n : Nat) (tb : Nat → Nat) (r : Nat ⊕ (Nat × (Nat → Int))) (x : Int32) : Prop := fof (pcp p) μ μ' ∧ xI μ' 33 1 = xI μ 33 1 ∧ match r with
  | .inl e => x = w 0 ∧ xI μ' 33 3 = w e
  | .inr u => x = w 1 ∧ TP μ' n tb u.1 ∧ (xI μ' (507 + 9 * p) i = w (u.2 0) ∧ xI μ' (508 + 9 * p) i = w (u.2 1) ∧ xI μ' (509 + 9 * p) i = w (u.2 2) ∧ xI μ' (510 + 9 * p) i = w (u.2 3)) ∧ ∀ c j, 501 ≤ c → ¬ j = i → xI μ' c j = xI μ c j
section PPM
variable {Γ : XG} {d n p q i : Nat} {tb : Nat → Nat} {μ : XM} {Q : Option Value → XM → Prop}
theorem C_readStepF (hd : 4 ≤ d) (hR : RF μ) (hS : ST μ) (hp : p < 5) (h : TP μ n tb q) (hi : i < 16) : Call Γ m_Pl_readStep d [.ref (506 + 9 * p), .ref 33, .int (w i)] μ (KI (fun r μ' => SRF μ μ' p i n tb (stq tb n q) r)) := by
  obtain ⟨d, rfl⟩ : ∃ e, d = e + 1 := ⟨d - 1, by omega⟩
  have hn := h.2.2.2.1
  have hsk := sk_le tb h.2.2.2.2.2.2
  have hb := lk_bd (n := n) (p := q) (fun j hj => (h.2.2.2.2.1 j hj).2)
  have hsb := spt5_b (lk tb n q)
  have pr := pl_r hR hp
  obtain ⟨s5, s6, s7, s8, s9⟩ := shplan p hp
  have iS : ∀ (μ' : XM) (c : Nat), 574 ≤ xN μ' → shp c = some (.inr (0, 16)) → 507 ≤ c → c ≤ 546 → inS μ' 0 c (w i) := fun μ' c e z z0 z1 => inS_of z (by omega) e (by omega) (by omega) (by omega)
  refine Call.of ok_Pl_readStep (Nat.le_of_ble_eq_true rfl) (B_Pl_readStep_0 (ob_of s5 (by omega) hR.1) pr.1 h.ob ?_)
  refine (C_ahead (by omega) h).conseq (KI.mono ?_)
  rintro r μ1 ⟨rfl, rfl⟩
  have o1 : fof (pcp p) μ (sI μ 33 2 (w (sk tb n q))) := fof.sI (P := pcp p) μ 2 _ (Or.inl rfl)
  have hT1 : TP (sI μ 33 2 (w (sk tb n q))) n tb (sk tb n q) := h.mv hsk.2
  have hL := ltr_ok (hS.fof o1 (fun c hc => by unfold pcp; omega)) (a := 13) (len := 5) (by omega)
  refine (C_placeAmong (by omega) hL.1 (by omega) hT1.2.1 (by omega) hL.2 (by omega) (by omega)).conseq (KI.mono ?_)
  rw [spt5_ltr, w_cln (by omega)]
  rintro r μ2 ⟨rfl, rfl⟩
  refine ⟨iS _ _ hT1.2.1 s6 (by omega) (by omega), ?_⟩
  rintro μ4 rfl
  have u1 : ∀ c j, 501 ≤ c → xI (sI μ 33 2 (w (sk tb n q))) c j = xI μ c j := fun c j hc => by rw [xI_sI, if_neg (by omega)]
  have x1 : xI (sI μ 33 2 (w (sk tb n q))) 33 1 = xI μ 33 1 := e33 rfl (by omega)
  generalize sI μ 33 2 (w (sk tb n q)) = μ1 at *
  have o4 : fof (pcp p) μ (sI μ1 (507 + 9 * p) i (w (spt 5 (lk tb n q)))) := o1.trans (fof.sI (P := pcp p) _ _ _ (Or.inr (by omega)))
  have hT4 := TP_pl (c := 507 + 9 * p) (k := i) (v := w (spt 5 (lk tb n q))) hT1 (by omega)
  have x4 : xI (sI μ1 (507 + 9 * p) i (w (spt 5 (lk tb n q)))) 33 1 = xI μ 33 1 := e33 x1 (by omega)
  have g4 : xI (sI μ1 (507 + 9 * p) i (w (spt 5 (lk tb n q)))) (507 + 9 * p) i = w (spt 5 (lk tb n q)) := by rw [xI_sI, if_pos ⟨rfl, rfl⟩]
  have u4 : ∀ c j, 501 ≤ c → ¬ (c = 507 + 9 * p ∧ j = i) → xI (sI μ1 (507 + 9 * p) i (w (spt 5 (lk tb n q)))) c j = xI μ c j := fun c j hc hj => by rw [xI_sI, if_neg hj, u1 c j hc]
  generalize sI μ1 (507 + 9 * p) i (w (spt 5 (lk tb n q))) = μ4 at *
  have r4 : ∀ k, xR μ4 (506 + 9 * p) k = xR μ (506 + 9 * p) k := fun k => by rw [o4.2.2.1]
  rw [g4, w_inj (by omega) (by omega) (by omega) (by omega)]
  refine ⟨by rw [r4]; exact pr.1, (iS _ _ hT4.2.1 s6 (by omega) (by omega)).2, fun z => ?_, fun z => ?_⟩
  · refine (C_refuse (by omega) hT4).conseq (KI.mono ?_)
    rintro r μ5 ⟨rfl, rfl⟩
    rw [stq_n z]
    exact ⟨Or.inl rfl, _, rfl, o4.trans (fof.sI (P := pcp p) _ _ _ (Or.inl rfl)), e33 x4 (by omega), rfl, by rw [xI_sI, if_pos ⟨rfl, rfl⟩]⟩
  have hlt : sk tb n q < n := lk_lt rfl (spt5_0 z hb.1)
  refine (C_pass (by omega) hT4).conseq (KV.mono ?_)
  rintro μ7 rfl
  have hT7 : TP (sI μ4 33 2 (w ((sk tb n q + 1 : Nat) : Int))) n tb (sk tb n q + 1) := hT4.mv (by omega)
  have o7 : fof (pcp p) μ (sI μ4 33 2 (w ((sk tb n q + 1 : Nat) : Int))) := o4.trans (fof.sI (P := pcp p) _ _ _ (Or.inl rfl))
  have x7 : xI (sI μ4 33 2 (w ((sk tb n q + 1 : Nat) : Int))) 33 1 = xI μ 33 1 := e33 x4 (by omega)
  have g7 : ∀ c j, 501 ≤ c → xI (sI μ4 33 2 (w ((sk tb n q + 1 : Nat) : Int))) c j = xI μ4 c j := fun c j hc => by rw [xI_sI, if_neg (by omega)]
  generalize sI μ4 33 2 (w ((sk tb n q + 1 : Nat) : Int)) = μ7 at *
  have r7 : ∀ k, xR μ7 (506 + 9 * p) k = xR μ (506 + 9 * p) k := fun k => by rw [o7.2.2.1]
  refine ⟨508 + 9 * p, by rw [r7]; exact pr.2.1, ?_⟩
  have hs1 := sk_le tb hT7.2.2.2.2.2.2
  have e1 : sk tb n (sk tb n q + 1) = st1 tb n q := rfl
  rw [e1] at hs1
  have key : ∀ (μ9 : XM) (v : Int), fof (pcp p) μ7 μ9 → xI μ9 33 1 = xI μ7 33 1 → (∀ c j, 501 ≤ c → xI μ9 c j = xI μ7 c j) → ∀ μ17, μ17 = sI (sI (sI μ9 (508 + 9 * p) i (w v)) (509 + 9 * p) i (w (-1))) (510 + 9 * p) i (w (-1)) →
      fof (pcp p) μ μ17 ∧ xI μ17 33 1 = xI μ 33 1 ∧ (xI μ17 (507 + 9 * p) i = w (spt 5 (lk tb n q)) ∧ xI μ17 (508 + 9 * p) i = w v ∧ xI μ17 (509 + 9 * p) i = w (-1) ∧ xI μ17 (510 + 9 * p) i = w (-1)) ∧ (∀ c j, 501 ≤ c → ¬ j = i → xI μ17 c j = xI μ c j) ∧ (∀ e, TP μ9 n tb e → TP μ17 n tb e) ∧ (∀ k, xI μ17 33 k = xI μ9 33 k) := by
    rintro μ9 v o9 x9 u9 μ17 rfl
    refine ⟨((o7.trans o9).trans ((fof.sI (P := pcp p) _ _ _ (Or.inr (by omega))).trans (fof.sI (P := pcp p) _ _ _ (Or.inr (by omega))))).trans (fof.sI (P := pcp p) _ _ _ (Or.inr (by omega))), e33 (e33 (e33 (x9.trans x7) (by omega)) (by omega)) (by omega), ⟨?_, ?_, ?_, ?_⟩, fun c j hc hj => ?_, fun e he => TP_pl (TP_pl (TP_pl he (by omega)) (by omega)) (by omega), fun k => ?_⟩
    · rw [xI_sI, if_neg (by omega), xI_sI, if_neg (by omega), xI_sI, if_neg (by omega), u9 _ _ (by omega), g7 _ _ (by omega)]
      exact g4
    · rw [xI_sI, if_neg (by omega), xI_sI, if_neg (by omega), xI_sI, if_pos ⟨rfl, rfl⟩]
    · rw [xI_sI, if_neg (by omega), xI_sI, if_pos ⟨rfl, rfl⟩]
    · rw [xI_sI, if_pos ⟨rfl, rfl⟩]
    · rw [xI_sI, if_neg (by omega), xI_sI, if_neg (by omega), xI_sI, if_neg (by omega), u9 _ _ hc, g7 _ _ hc, u4 _ _ hc (by omega)]
    · rw [xI_sI, if_neg (by omega), xI_sI, if_neg (by omega), xI_sI, if_neg (by omega)]
  refine (C_digit (by omega) hT7).conseq (KI.mono ?_)
  rw [e1]
  rintro v9 μ9 (⟨hg, rfl, rfl⟩ | ⟨hg, rfl, rfl⟩)
  · have hdg := hg.2
    have hgl := hg.1
    refine ⟨iS _ _ hT7.2.1 s7 (by omega) (by omega), ?_⟩
    rintro μ11 rfl
    refine ⟨509 + 9 * p, by rw [xR_sI, xR_sI, r7]; exact pr.2.2.1, iS _ _ hT7.2.1 s8 (by omega) (by omega), ?_⟩
    rintro μ14 rfl
    refine ⟨510 + 9 * p, by rw [xR_sI, xR_sI, xR_sI, r7]; exact pr.2.2.2, iS _ _ hT7.2.1 s9 (by omega) (by omega), ?_⟩
    intro μ17 e17
    have hT9 : TP (sI μ7 33 2 (w ((st1 tb n q + 1 : Nat) : Int))) n tb (st1 tb n q + 1) := hT7.mv (by omega)
    obtain ⟨o17, x17, ⟨c0, c1, c2, c3⟩, u17, t17, -⟩ := key _ ((tb (st1 tb n q) : Int) - 48) (fof.sI (P := pcp p) μ7 2 _ (Or.inl rfl)) (e33 rfl (by omega)) (fun c j hc => by rw [xI_sI, if_neg (by omega)]) μ17 e17
    have hT17 := t17 _ hT9
    clear e17 key
    have hR17 : RF μ17 := hR.of o17.2.2.1 o17.2.2.2
    have r17 : ∀ k, xR μ17 (506 + 9 * p) k = xR μ (506 + 9 * p) k := fun k => by rw [o17.2.2.1]
    rw [c1, c0, w_inj (by omega) (by omega) (by omega) (by omega), w_inj (by omega) (by omega) (by omega) (by omega), w_inj (by omega) (by omega) (by omega) (by omega)]
    refine ⟨by rw [r17]; exact pr.2.1, (iS _ _ hR17.1 s7 (by omega) (by omega)).2, fun z2 => absurd z2 (by omega), fun _ => ⟨by rw [r17]; exact pr.1, (iS _ _ hR17.1 s6 (by omega) (by omega)).2, fun i4 => ?_, fun i4 => ⟨(iS _ _ hR17.1 s6 (by omega) (by omega)).2, fun i0 => ?_, fun i0 => ?_⟩⟩⟩
    · refine (C_hours2 (by omega) hR17 hp hT17 hi c1).conseq (KI.mono ?_)
      have e2 : sk tb n (st1 tb n q + 1) = st2 tb n q := rfl
      rw [e2]
      rintro r μ24 ⟨⟨o24, x24⟩, ⟨hg2, rfl, hT, c24, u24⟩ | ⟨hg2, rfl, f24⟩⟩
      · rw [stq_4 i4 hg hg2]
        refine ⟨Or.inr rfl, _, rfl, o17.trans o24, x24.trans x17, rfl, hT, ⟨?_, c24, ?_, ?_⟩, fun c j hc hj => by rw [u24 c j hc (fun y => hj y.2), u17 c j hc hj]⟩
        · rw [u24 _ _ (by omega) (by omega), c0, i4]; rfl
        · rw [u24 _ _ (by omega) (by omega), c2]; rfl
        · rw [u24 _ _ (by omega) (by omega), c3]; rfl
      · rw [stq_4n i4 hg hg2]
        exact ⟨Or.inl rfl, _, rfl, o17.trans o24, x24.trans x17, rfl, f24⟩
    · refine (C_putRest (by omega) hR17 hp hT17 hi).conseq (KI.mono ?_)
      have e2 : sk tb n (st1 tb n q + 1) = st2 tb n q := rfl
      have e3 : sk tb n (st2 tb n q + 1) = st3 tb n q := rfl
      rw [e2, e3]
      rintro r μ23 ⟨⟨o24, x24⟩, ⟨hg2, hg3, rfl, hT, d2, d3, u24⟩ | ⟨hg2, rfl, f24⟩ | ⟨hg2, hg3, rfl, f24⟩⟩
      · rw [stq_0 i0 hg hg2 hg3]
        refine ⟨fun y => absurd y w01, fun _ => ⟨_, rfl, o17.trans o24, x24.trans x17, rfl, hT, ⟨?_, ?_, d2, d3⟩, fun c j hc hj => by rw [u24 c j hc (fun y => hj y.2), u17 c j hc hj]⟩⟩
        · rw [u24 _ _ (by omega) (by omega), c0, i0]; rfl
        · rw [u24 _ _ (by omega) (by omega), c1]; rfl
      · rw [stq_0n i0 hg hg2]
        exact ⟨fun _ => ⟨_, rfl, o17.trans o24, x24.trans x17, rfl, f24⟩, fun y => absurd rfl y⟩
      · rw [stq_0m i0 hg hg2 hg3]
        exact ⟨fun _ => ⟨_, rfl, o17.trans o24, x24.trans x17, rfl, f24⟩, fun y => absurd rfl y⟩
    · rw [stq_o z i4 i0 hg]
      exact ⟨_, rfl, o17, x17, rfl, hT17, ⟨c0, c1, c2, c3⟩, u17⟩
  · refine ⟨iS _ _ hT7.2.1 s7 (by omega) (by omega), ?_⟩
    rintro μ11 rfl
    refine ⟨509 + 9 * p, by rw [xR_sI, xR_sI, xR_sI, r7]; exact pr.2.2.1, iS _ _ hT7.2.1 s8 (by omega) (by omega), ?_⟩
    rintro μ14 rfl
    refine ⟨510 + 9 * p, by rw [xR_sI, xR_sI, xR_sI, xR_sI, r7]; exact pr.2.2.2, iS _ _ hT7.2.1 s9 (by omega) (by omega), ?_⟩
    intro μ17 e17
    obtain ⟨o17, x17, ⟨c0, c1, c2, c3⟩, u17, -, f17⟩ := key _ (-1) ((fof.sI (P := pcp p) μ7 2 _ (Or.inl rfl)).trans (fof.sI (P := pcp p) _ 3 _ (Or.inl rfl))) (e33 (e33 rfl (by omega)) (by omega)) (fun c j hc => by rw [xI_sI, if_neg (by omega), xI_sI, if_neg (by omega)]) μ17 e17
    rw [c1]
    refine ⟨by rw [o17.2.2.1]; exact pr.2.1, (iS _ _ (by rw [o17.2.2.2]; exact hR.1) s7 (by omega) (by omega)).2, fun _ => ?_, fun y => absurd rfl y⟩
    rw [stq_1 z hg]
    refine ⟨_, rfl, o17, x17, rfl, ?_⟩
    rw [f17, xI_sI, if_pos ⟨rfl, rfl⟩]
/-- how the reading of a plan into p ends -/
def pcq (p c : Nat) : Prop := c = 33 ∨ (506 + 9 * p ≤ c ∧ c ≤ 510 + 9 * p)
def PRF (μ μ' : XM) (p n : Nat) (tb : Nat → Nat) (r : Nat ⊕ (Nat × (Nat → Nat → Int))) (x : Int32) : Prop := fof (pcq p) μ μ' ∧ TN μ' n tb ∧ match r with
  | .inl q => x = w 0 ∧ xI μ' 33 3 = w q
  | .inr u => x = w 1 ∧ xI μ' (506 + 9 * p) 4 = w u.1 ∧ ∀ i, i < u.1 → xI μ' (507 + 9 * p) i = w (u.2 i 0) ∧ xI μ' (508 + 9 * p) i = w (u.2 i 1) ∧ xI μ' (509 + 9 * p) i = w (u.2 i 2) ∧ xI μ' (510 + 9 * p) i = w (u.2 i 3)
theorem TN_of {μ μ' : XM} (h : TN μ n tb) (ho : fof (pcq p) μ μ') (hp : p < 5) (x1 : xI μ' 33 1 = xI μ 33 1) : TN μ' n tb := by
  obtain ⟨a1, a2, a3, a4, a5⟩ := h
  exact ⟨by rw [ho.2.2.1]; exact a1, by rw [ho.2.2.2]; exact a2, by rw [x1]; exact a3, a4, fun j hj => by rw [ho.1 34 (by unfold pcq; omega)]; exact a5 j hj⟩
theorem pcp_q {c : Nat} (h : pcp p c) : pcq p c := by unfold pcp at h; unfold pcq; omega
theorem readFromP_G (hd : 4 ≤ d) (hp : p < 5) : ∀ (f i q : Nat) (acc : Nat → Nat → Int) (μ1 : XM), i + f = 16 → 1 ≤ f → fof (pcq p) μ μ1 → RF μ1 → ST μ1 → TP μ1 n tb q → xI μ1 (506 + 9 * p) 4 = w i → (∀ j, j < i → xI μ1 (507 + 9 * p) j = w (acc j 0) ∧ xI μ1 (508 + 9 * p) j = w (acc j 1) ∧ xI μ1 (509 + 9 * p) j = w (acc j 2) ∧ xI μ1 (510 + 9 * p) j = w (acc j 3)) →
    (∀ x μ', PRF μ μ' p n tb (plF tb n f i q acc) x → Q (some (.int x)) μ') → G Γ m_Pl_readFrom (d + 1) (0, 0) Q 11 [.ref (506 + 9 * p), .ref 33, .int (w i)] [] μ1 := by
  intro f
  induction f with
  | zero => intro i q acc μ1 hi h1; omega
  | succ f ih =>
    intro i q acc μ1 hi _ ho hR hS h hz ha hQ
    have hn := h.2.2.2.1
    refine B_Pl_readFrom_11 h.ob (ob_of (shplan p hp).1 (by omega) hR.1) ?_
    rw [w_lt (by omega) (by omega) (by omega) (by omega)]
    refine ⟨fun _ => ?_, fun y => absurd (by omega) y⟩
    refine (C_readStepF (by omega) hR hS hp h (by omega)).conseq (KI.mono ?_)
    rintro x μ2 ⟨o2, x2, r2⟩
    have oo2 : fof (pcq p) μ μ2 := ho.trans (o2.wide (fun _ => pcp_q))
    cases es : stq tb n q with
    | inl e =>
      rw [es] at r2
      obtain ⟨rfl, f2⟩ := r2
      have eP : plF tb n (f + 1) i q acc = .inl e := by rw [plF, es]
      rw [eP] at hQ
      exact ⟨fun _ => hQ _ _ ⟨oo2, TN_of h.tn (o2.wide (fun _ => pcp_q)) hp x2, rfl, f2⟩, fun y => absurd rfl y⟩
    | inr u =>
      rw [es] at r2
      obtain ⟨rfl, hT2, ⟨c0, c1, c2, c3⟩, u2⟩ := r2
      have eP : plF tb n (f + 1) i q acc = (if lk tb n u.1 = -1 then .inr (i + 1, fun j => if j = i then u.2 else acc j) else if lk tb n u.1 = 59 ∧ ¬ i + 1 = 16 then plF tb n f (i + 1) (sk tb n u.1 + 1) (fun j => if j = i then u.2 else acc j) else .inl (sk tb n u.1)) := by rw [plF, es]
      rw [eP] at hQ
      refine ⟨fun y => absurd y w01, fun _ => ?_⟩
      have z2 : xI μ2 (506 + 9 * p) 4 = w i := by rw [o2.1 _ (by unfold pcp; omega)]; exact hz
      rw [z2, w_add, show (i : Int) + 1 = ((i + 1 : Nat) : Int) by omega]
      rintro μ3 rfl
      have o3 : fof (pcq p) μ2 (sI μ2 (506 + 9 * p) 4 (w ((i + 1 : Nat) : Int))) := fof.sI (P := pcq p) _ _ _ (Or.inr (by omega))
      have hT3 : TP (sI μ2 (506 + 9 * p) 4 (w ((i + 1 : Nat) : Int))) n tb u.1 := TP_pl hT2 (by omega)
      have z3 : xI (sI μ2 (506 + 9 * p) 4 (w ((i + 1 : Nat) : Int))) (506 + 9 * p) 4 = w ((i + 1 : Nat) : Int) := by rw [xI_sI, if_pos ⟨rfl, rfl⟩]
      have u3 : ∀ c j, 501 ≤ c → ¬ c = 506 + 9 * p → xI (sI μ2 (506 + 9 * p) 4 (w ((i + 1 : Nat) : Int))) c j = xI μ2 c j := fun c j hc he => by rw [xI_sI, if_neg (fun y => he y.1)]
      generalize sI μ2 (506 + 9 * p) 4 (w ((i + 1 : Nat) : Int)) = μ3 at *
      have hsk := sk_le tb hT3.2.2.2.2.2.2
      have hb := lk_bd (n := n) (p := u.1) (fun j hj => (h.2.2.2.2.1 j hj).2)
      refine (C_ahead (by omega) hT3).conseq (KI.mono ?_)
      rintro r μ4 ⟨rfl, rfl⟩
      have o4 : fof (pcq p) μ3 (sI μ3 33 2 (w (sk tb n u.1))) := fof.sI (P := pcq p) _ _ _ (Or.inl rfl)
      have hT4 : TP (sI μ3 33 2 (w (sk tb n u.1))) n tb (sk tb n u.1) := hT3.mv hsk.2
      have z4 : xI (sI μ3 33 2 (w (sk tb n u.1))) (506 + 9 * p) 4 = w ((i + 1 : Nat) : Int) := by rw [xI_sI, if_neg (by omega)]; exact z3
      have u4 : ∀ c j, 501 ≤ c → xI (sI μ3 33 2 (w (sk tb n u.1))) c j = xI μ3 c j := fun c j hc => by rw [xI_sI, if_neg (by omega)]
      generalize sI μ3 33 2 (w (sk tb n u.1)) = μ4 at *
      have oo4 := (oo2.trans o3).trans o4
      have a4 : ∀ j, j < i + 1 → xI μ4 (507 + 9 * p) j = w ((if j = i then u.2 else acc j) 0) ∧ xI μ4 (508 + 9 * p) j = w ((if j = i then u.2 else acc j) 1) ∧ xI μ4 (509 + 9 * p) j = w ((if j = i then u.2 else acc j) 2) ∧ xI μ4 (510 + 9 * p) j = w ((if j = i then u.2 else acc j) 3) := by
        intro j hj
        rw [u4 _ _ (by omega), u4 _ _ (by omega), u4 _ _ (by omega), u4 _ _ (by omega), u3 _ _ (by omega) (by omega), u3 _ _ (by omega) (by omega), u3 _ _ (by omega) (by omega), u3 _ _ (by omega) (by omega)]
        by_cases e : j = i
        · rw [if_pos e, e]
          exact ⟨c0, c1, c2, c3⟩
        · rw [if_neg e, u2 _ _ (by omega) e, u2 _ _ (by omega) e, u2 _ _ (by omega) e, u2 _ _ (by omega) e]
          exact ha j (by omega)
      rw [z4, w_inj (by omega) (by omega) (by omega) (by omega), w_inj (by omega) (by omega) (by omega) (by omega)]
      refine ⟨fun m1 => ?_, fun m1 => ⟨fun i16 => ?_, fun i16 => ?_⟩⟩
      · rw [if_pos m1] at hQ
        exact hQ _ _ ⟨oo4, hT4.tn, rfl, z4, a4⟩
      · rw [if_neg m1, if_neg (by omega)] at hQ
        refine (C_refuse (by omega) hT4).conseq (KI.mono ?_)
        rintro r μ5 ⟨rfl, rfl⟩
        exact ⟨Or.inl rfl, hQ _ _ ⟨oo4.trans (fof.sI (P := pcq p) _ _ _ (Or.inl rfl)), (hT4.fl _).tn, rfl, by rw [xI_sI, if_pos ⟨rfl, rfl⟩]⟩⟩
      · rw [if_neg m1] at hQ
        refine (C_demand (by omega) hT4 (c := 59) (by omega) (by omega)).conseq (KI.mono ?_)
        rw [lk_sk tb hT3.2.2.2.2.2.2, sk_sk tb hT3.2.2.2.2.2.2]
        rintro r μ6 ⟨g1, g2⟩
        by_cases l59 : lk tb n u.1 = 59
        · obtain ⟨rfl, rfl⟩ := g1 l59
          rw [if_pos ⟨l59, by omega⟩] at hQ
          have hlt : sk tb n u.1 < n := lk_lt l59 (by omega)
          refine ⟨fun y => absurd y w01, fun _ => ?_⟩
          have o6 : fof (pcq p) μ4 (sI μ4 33 2 (w ((sk tb n u.1 + 1 : Nat) : Int))) := fof.sI (P := pcq p) _ _ _ (Or.inl rfl)
          have oo6 := oo4.trans o6
          have of6 : fof (pcq p) μ1 (sI μ4 33 2 (w ((sk tb n u.1 + 1 : Nat) : Int))) := (((o2.wide (fun _ => pcp_q)).trans o3).trans o4).trans o6
          refine ih (i + 1) (sk tb n u.1 + 1) _ _ (by omega) (by omega) oo6 (hR.of of6.2.2.1 of6.2.2.2) (hS.fof of6 (fun c hc => by unfold pcq; omega)) (hT4.mv (by omega)) (by rw [xI_sI, if_neg (by omega)]; exact z4) (fun j hj => ?_) hQ
          have u6 : ∀ c, 501 ≤ c → xI (sI μ4 33 2 (w ((sk tb n u.1 + 1 : Nat) : Int))) c j = xI μ4 c j := fun c hc => by rw [xI_sI, if_neg (by omega)]
          rw [u6 _ (by omega), u6 _ (by omega), u6 _ (by omega), u6 _ (by omega)]
          exact a4 j hj
        · obtain ⟨rfl, rfl⟩ := g2 l59
          rw [if_neg (fun y => l59 y.1)] at hQ
          have hT6 : TP (sI (sI μ4 33 2 (w (sk tb n u.1))) 33 3 (w (sk tb n u.1))) n tb (sk tb n u.1) := (hT4.mv hsk.2).fl _
          refine ⟨fun _ => ?_, fun y => absurd rfl y⟩
          refine (C_refuse (by omega) hT6).conseq (KI.mono ?_)
          rintro r μ7 ⟨rfl, rfl⟩
          exact ⟨Or.inl rfl, hQ _ _ ⟨((oo4.trans (fof.sI (P := pcq p) _ _ _ (Or.inl rfl))).trans (fof.sI (P := pcq p) _ _ _ (Or.inl rfl))).trans (fof.sI (P := pcq p) _ _ _ (Or.inl rfl)), (hT6.fl _).tn, rfl, by rw [xI_sI, if_pos ⟨rfl, rfl⟩]⟩⟩
theorem C_readPlanF (hd : 5 ≤ d) (hR : RF μ) (hS : ST μ) (hp : p < 5) (h : TN μ n tb) : Call Γ m_Pl_readFrom d [.ref (506 + 9 * p), .ref 33] μ (KI (fun r μ' => PRF μ μ' p n tb (plF tb n 16 0 0 (fun _ _ => 0)) r)) := by
  obtain ⟨d, rfl⟩ : ∃ e, d = e + 1 := ⟨d - 1, by omega⟩
  have hob : zob μ 33 9 := ob_of rfl (by omega) h.2.1
  refine Call.of ok_Pl_readFrom (Nat.le_of_ble_eq_true rfl) (B_Pl_readFrom_0 (ob_of (shplan p hp).1 (by omega) hR.1) hob ?_)
  rintro μ1 rfl
  have hob2 : zob (sI μ (506 + 9 * p) 4 (w 0)) 33 9 := ob_of rfl (by omega) h.2.1
  refine (C_rewind (by omega) hob2).conseq (KV.mono ?_)
  rintro μ2 rfl
  have o : fof (pcq p) μ (sI (sI (sI μ (506 + 9 * p) 4 (w 0)) 33 2 (w 0)) 33 3 (w (-1))) := ((fof.sI (P := pcq p) _ _ _ (Or.inr (by omega))).trans (fof.sI (P := pcq p) _ _ _ (Or.inl rfl))).trans (fof.sI (P := pcq p) _ _ _ (Or.inl rfl))
  have hT : TN (sI (sI (sI μ (506 + 9 * p) 4 (w 0)) 33 2 (w 0)) 33 3 (w (-1))) n tb := TN_of h o hp (e33 (e33 (e33 rfl (by omega)) (by omega)) (by omega))
  have hT2 : TP (sI (sI (sI μ (506 + 9 * p) 4 (w 0)) 33 2 (w 0)) 33 3 (w (-1))) n tb 0 := ⟨hT.1, hT.2.1, hT.2.2.1, hT.2.2.2.1, hT.2.2.2.2, by rw [xI_sI, if_neg (by omega), xI_sI, if_pos ⟨rfl, rfl⟩]; rfl, Nat.zero_le _⟩
  exact readFromP_G (d := d) (μ := μ) (by omega) hp 16 0 0 _ _ (by omega) (by omega) o (hR.of o.2.2.1 o.2.2.2) (hS.fof o (fun c hc => by unfold pcq; omega)) hT2 (by rw [xI_sI, if_neg (by omega), xI_sI, if_neg (by omega), xI_sI, if_pos ⟨rfl, rfl⟩]; rfl) (fun j hj => absurd hj (Nat.not_lt_zero _)) (fun x μ' hP => ⟨_, rfl, hP⟩)
end PPM
