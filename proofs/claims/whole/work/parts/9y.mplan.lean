/-! READING A PLAN, in the reference -/
/-- from step i on, f more at most: wrong at q, or how many steps, which -/
noncomputable def plF (tb : Nat → Nat) (n : Nat) : Nat → Nat → Nat → (Nat → Nat → Int) → Nat ⊕ (Nat × (Nat → Nat → Int))
  | 0, _, p, _ => .inl p
  | f + 1, i, p, acc => match stq tb n p with
    | .inl q => .inl q
    | .inr u => if lk tb n u.1 = -1 then .inr (i + 1, fun j => if j = i then u.2 else acc j)
      else if lk tb n u.1 = 59 ∧ ¬ i + 1 = 16 then plF tb n f (i + 1) (sk tb n u.1 + 1) (fun j => if j = i then u.2 else acc j)
      else .inl (sk tb n u.1)
theorem sk_mx {tb : Nat → Nat} {n p : Nat} {m : Nat} (h : p ≤ n + m) : sk tb n p ≤ n + m := by
  by_cases e : p ≤ n
  · have := (sk_le tb e).2
    omega
  · have : sk tb n p = p := by
      unfold sk
      rw [show n - p = 0 by omega]
      rfl
    omega
theorem stq_q {tb : Nat → Nat} {n p q : Nat} (hp : p ≤ n) (h : stq tb n p = .inl q) : q ≤ n + 3 := by
  have b0 : sk tb n p ≤ n := (sk_le tb hp).2
  have b1 : st1 tb n p ≤ n + 1 := sk_mx (by omega)
  have b2 : st2 tb n p ≤ n + 2 := sk_mx (by omega)
  have b3 : st3 tb n p ≤ n + 3 := sk_mx (by omega)
  unfold stq at h
  split at h
  · have := Sum.inl.inj h; omega
  · split at h
    · split at h
      · split at h
        · exact nomatch h
        · have := Sum.inl.inj h; omega
      · split at h
        · split at h
          · split at h
            · exact nomatch h
            · have := Sum.inl.inj h; omega
          · have := Sum.inl.inj h; omega
        · exact nomatch h
    · have := Sum.inl.inj h; omega
def rpf (c j : Nat) : Prop := rsf c j ∨ c = 558
section OS
variable {Γ : XG} {d n : Nat} {tb : Nat → Nat} {μ : XM} {Q : Option Value → XM → Prop}
theorem rsf_p {c j : Nat} (h : rsf c j) : rpf c j := Or.inl h
theorem rdf_p {c j : Nat} (h : rdf c j) : rpf c j := Or.inl (Or.inl h)
/-- how the reading of a plan ends -/
def PRD (μ μ' : XM) (r : Nat ⊕ (Nat × (Nat → Nat → Int))) : Prop := fr rpf μ μ' ∧ (∀ j, j < 256 → xI μ' 557 j = xI μ 557 j) ∧ (∀ j, ¬ j = 4 → xI μ' 558 j = xI μ 558 j) ∧ match r with
  | .inl q => xI μ' 547 11 = w q
  | .inr u => xI μ' 547 11 = w (-1) ∧ xI μ' 558 4 = w u.1 ∧ ∀ i, i < u.1 → ∀ q, q < 4 → xI μ' 557 (256 + 4 * i + q) = w (u.2 i q)
theorem plan_17 (hf : FM Γ) (hd : 6 ≤ d) : ∀ (f i p : Nat) (acc : Nat → Nat → Int) (μ1 : XM), i + f = 16 → 1 ≤ f → fr rpf μ μ1 → (∀ j, j < 256 → xI μ1 557 j = xI μ 557 j) → (∀ j, xI μ1 558 j = xI μ 558 j) → (∀ j, j < i → ∀ q, q < 4 → xI μ1 557 (256 + 4 * j + q) = w (acc j q)) → RT μ1 n tb p → xI μ1 547 11 = w (-1) → (∀ μ', PRD μ μ' (plF tb n f i p acc) → Q none μ') → G Γ m_MO_readPlan (d + 1) (0, 0) Q 17 [.ref 547, .int (w i), .int (w 1)] [] μ1 := by
  intro f
  induction f with
  | zero => intro i p acc μ1 hi h1; omega
  | succ f ih =>
    intro i p acc μ1 hi _ ho u1 u2 ha h h11 hQ
    have hn := h.n2
    refine B_MO_readPlan_17 h.1.o (h.1.r 24 558 rfl) ?_
    refine ⟨fun q => absurd q (by decide), fun _ => ?_⟩
    rw [w_add, w_mul, show (4 : Int) * (64 + (i : Int)) = ((256 + 4 * i : Nat) : Int) by omega]
    refine (C_readStepM hf hd h h11 (row := 256 + 4 * i) (by omega)).conseq (KV.mono ?_)
    rintro μ5 ⟨o5, k5, r5⟩
    have oo := ho.trans (o5.wide (fun _ _ => rsf_p))
    have u15 : ∀ j, j < 256 → xI μ5 557 j = xI μ 557 j := fun j hj => by rw [k5 j (by omega), u1 j hj]
    have u25 : ∀ j, xI μ5 558 j = xI μ 558 j := fun j => by rw [(o5.1 558 j (by unfold rsf rdf; omega)).1, u2 j]
    have a5 : ∀ j, j < i → ∀ q, q < 4 → xI μ5 557 (256 + 4 * j + q) = w (acc j q) := fun j hj q hq => by rw [k5 _ (by omega), ha j hj q hq]
    cases es : stq tb n p with
    | inl q =>
      rw [es] at r5
      have r5 : xI μ5 547 11 = w q := r5
      have e : plF tb n (f + 1) i p acc = .inl q := by rw [plF, es]
      rw [e] at hQ
      have hq := stq_q h.2.2.2.2.2.2.2 es
      have fin := hQ μ5 ⟨oo, u15, fun j _ => u25 j, r5⟩
      refine ⟨fun z => ?_, fun _ => fin⟩
      rw [r5, w_inj (by omega) (by omega) (by omega) (by omega)] at z
      omega
    | inr u =>
      rw [es] at r5
      obtain ⟨f5, h5, s5⟩ := r5
      have hsk := sk_le tb h5.2.2.2.2.2.2.2
      have hbd := lk_bd (n := n) (p := u.1) (fun j hj => (h5.b hj).2.2)
      have a6 : ∀ j, j < i + 1 → ∀ q, q < 4 → xI μ5 557 (256 + 4 * j + q) = w ((fun j => if j = i then u.2 else acc j) j q) := fun j hj q hq => by
        by_cases e : j = i
        · subst e
          show _ = w ((if j = j then u.2 else acc j) q)
          rw [if_pos rfl]
          exact s5 q hq
        · show _ = w ((if j = i then u.2 else acc j) q)
          rw [if_neg e]
          exact a5 j (by omega) q hq
      rw [f5]
      refine ⟨fun _ => ?_, fun z => absurd rfl z⟩
      refine (C_lookR (by omega) h5).conseq (KI.mono ?_)
      rintro r μ6 ⟨rfl, o6, f6, h6⟩
      rw [f5] at f6
      have oo6 := oo.trans (o6.wide (fun _ _ => rdf_p))
      have v6 : ∀ j, xI μ6 557 j = xI μ5 557 j := fun j => (o6.1 557 j (by unfold rdf; omega)).1
      have v7 : ∀ j, xI μ6 558 j = xI μ5 558 j := fun j => (o6.1 558 j (by unfold rdf; omega)).1
      have eP : plF tb n (f + 1) i p acc = (if lk tb n u.1 = -1 then .inr (i + 1, fun j => if j = i then u.2 else acc j) else if lk tb n u.1 = 59 ∧ ¬ i + 1 = 16 then plF tb n f (i + 1) (sk tb n u.1 + 1) (fun j => if j = i then u.2 else acc j) else .inl (sk tb n u.1)) := by rw [plF, es]
      rw [eP] at hQ
      have iw : w (i : Int) + w 1 = w ((i + 1 : Nat) : Int) := by rw [w_add]; rfl
      rw [iw, w_inj (a := lk tb n u.1) (b := 59) (by omega) (by omega) (by omega) (by omega)]
      refine ⟨fun l59 => ⟨fun z => absurd z (by decide), fun _ => ⟨fun i16 => ?_, fun i16 => ⟨fun z => absurd z (by decide), fun _ => ?_⟩⟩⟩, fun l59 => ⟨fun _ => ⟨fun _ => ?_, fun z => absurd rfl z⟩, fun z => absurd rfl z⟩⟩
      · rw [w_inj (by omega) (by omega) (by omega) (by omega)] at i16
        rw [if_neg (by omega), if_neg (by omega)] at hQ
        refine (C_failsR (by omega) h6 f6).conseq (KI.mono ?_)
        rintro r μ12 ⟨rfl, o12, f12, h12⟩
        exact hQ _ ⟨oo6.trans (o12.wide (fun _ _ => rdf_p)), fun j hj => by rw [(o12.1 557 j (by unfold rdf; omega)).1, v6, u15 j hj], fun j _ => by rw [(o12.1 558 j (by unfold rdf; omega)).1, v7, u25], f12⟩
      · rw [w_inj (by omega) (by omega) (by omega) (by omega)] at i16
        rw [if_neg (by omega), if_pos ⟨l59, by omega⟩] at hQ
        have hlt : sk tb n u.1 < n := lk_lt l59 (by omega)
        rintro μ11 rfl
        rw [h6.2.2.2.2.2.2.1, w_add, show ((sk tb n u.1 : Nat) : Int) + 1 = ((sk tb n u.1 + 1 : Nat) : Int) by omega]
        have hT := h6.mv (q := sk tb n u.1 + 1) (by omega)
        refine ih (i + 1) (sk tb n u.1 + 1) _ _ (by omega) (by omega) (oo6.trans (hT.2.wide (fun _ _ => rdf_p))) (fun j hj => by rw [xI_sI, if_neg (by omega), v6, u15 j hj]) (fun j => by rw [xI_sI, if_neg (by omega), v7, u25]) (fun j hj q hq => by rw [xI_sI, if_neg (by omega), v6]; exact a6 j hj q hq) hT.1 (by rw [xI_sI, if_neg (by omega)]; exact f6) hQ
      · refine B_MO_readPlan_17 h6.1.o (h6.1.r 24 558 rfl) ?_
        refine ⟨fun _ => ⟨⟨by omega, in557 h6.1.1 (by omega) (by omega)⟩, ?_⟩, fun z => absurd rfl z⟩
        rintro μ2 rfl
        rw [show (w 4).toNatClampNeg = 4 by decide]
        have o2 : fr rpf μ6 (sI μ6 558 4 (w ((i + 1 : Nat) : Int))) := fr.sI (F := rpf) (a := 558) (k := 4) μ6 _ (Or.inr rfl)
        have h2 : RT (sI μ6 558 4 (w ((i + 1 : Nat) : Int))) n tb (sk tb n u.1) := h6.frm (F := fun c _ => c = 558) (fr.sI (F := fun c _ => c = 558) (a := 558) (k := 4) μ6 _ rfl) (fun k v e => by omega) (fun c j hc => by omega) (fun j => by omega) (fun j hj => by omega)
        have f2 : xI (sI μ6 558 4 (w ((i + 1 : Nat) : Int))) 547 11 = w (-1) := by rw [xI_sI, if_neg (by omega)]; exact f6
        have g4 : xI (sI μ6 558 4 (w ((i + 1 : Nat) : Int))) 558 4 = w ((i + 1 : Nat) : Int) := by rw [xI_sI, if_pos ⟨rfl, rfl⟩]
        have g5 : ∀ j, ¬ j = 4 → xI (sI μ6 558 4 (w ((i + 1 : Nat) : Int))) 558 j = xI μ 558 j := fun j hj => by rw [xI_sI, if_neg (fun z => hj z.2), v7, u25]
        have g6 : ∀ j, xI (sI μ6 558 4 (w ((i + 1 : Nat) : Int))) 557 j = xI μ5 557 j := fun j => by rw [xI_sI, if_neg (by omega), v6]
        have oo2 := oo6.trans o2
        generalize sI μ6 558 4 (w ((i + 1 : Nat) : Int)) = μ2 at *
        refine (C_lookR (by omega) h2).conseq (KI.mono ?_)
        rintro r μ3 ⟨rfl, o3, f3, h3⟩
        rw [f2] at f3
        rw [lk_sk tb h5.2.2.2.2.2.2.2, w_inj (by omega) (by omega) (by omega) (by omega)]
        have oo3 := oo2.trans (o3.wide (fun _ _ => rdf_p))
        have w6 : ∀ j, xI μ3 557 j = xI μ2 557 j := fun j => (o3.1 557 j (by unfold rdf; omega)).1
        have w7 : ∀ j, xI μ3 558 j = xI μ2 558 j := fun j => (o3.1 558 j (by unfold rdf; omega)).1
        rw [sk_sk tb h5.2.2.2.2.2.2.2] at h3
        refine ⟨fun m1 => ?_, fun m1 => ?_⟩
        · rw [if_pos m1] at hQ
          exact hQ _ ⟨oo3, fun j hj => by rw [w6, g6, u15 j hj], fun j hj => by rw [w7, g5 j hj], f3, by rw [w7]; exact g4, fun j hj q hq => by rw [w6, g6]; exact a6 j hj q hq⟩
        · rw [if_neg m1, if_neg (fun z => l59 z.1)] at hQ
          refine (C_failsR (by omega) h3 f3).conseq (KI.mono ?_)
          rintro r μ4 ⟨rfl, o4, f4, h4⟩
          exact hQ _ ⟨oo3.trans (o4.wide (fun _ _ => rdf_p)), fun j hj => by rw [(o4.1 557 j (by unfold rdf; omega)).1, w6, g6, u15 j hj], fun j hj => by rw [(o4.1 558 j (by unfold rdf; omega)).1, w7, g5 j hj], f4⟩
def rpg (c j : Nat) : Prop := rpf c j ∨ gfr c j
theorem C_readPlanM (hf : FM Γ) (hd : 7 ≤ d) (hR : RM μ) (hS : SS μ) (hT : TM μ n tb) : Call Γ m_MO_readPlan d [.ref 547] μ (KV (fun μ' => fr rpg μ μ' ∧ ∃ μ1, (∀ c j, (c = 557 ∨ c = 558) → xI μ1 c j = xI μ c j) ∧ PRD μ1 μ' (plF tb n 16 0 0 (fun _ _ => 0)))) := by
  obtain ⟨d, rfl⟩ : ∃ e, d = e + 1 := ⟨d - 1, by omega⟩
  refine Call.of ok_MO_readPlan (Nat.le_of_ble_eq_true rfl) (B_MO_readPlan_0 hR.o (hR.r 1 548 rfl) ?_)
  rw [hT.2]
  refine (C_starts (o := 0) (by omega) hR hT.1).conseq (KV.mono ?_)
  rintro μ1 ⟨o1, e5, e8, e9, e10, e11⟩
  have hR1 : RM μ1 := hR.fr o1 gfr_r
  have h1 : RT μ1 n tb 0 := ⟨hR1, hS.frm o1 (fun c j hc => by unfold gfr; omega), hT.1.fr o1 (fun j => by unfold gfr; omega), e5, e8, e9, e10, Nat.zero_le _⟩
  refine plan_17 (μ := μ1) hf (by omega) 16 0 0 (fun _ _ => 0) μ1 (by omega) (by omega) (fr.rf _ _) (fun _ _ => rfl) (fun _ => rfl) (fun j hj => absurd hj (Nat.not_lt_zero _)) h1 e11 (fun μ' hP => ⟨rfl, (o1.wide (fun _ _ e => Or.inr e)).trans (hP.1.wide (fun _ _ e => Or.inl e)), μ1, fun c j hc => (o1.1 c j (by unfold gfr; omega)).1, hP⟩)
end OS
