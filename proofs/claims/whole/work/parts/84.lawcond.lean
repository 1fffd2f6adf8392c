/-! READING CONDITIONS, CLAUSES, LAWS, in the class -/
section LD
variable {Γ : XG} {d n L p : Nat} {tb : Nat → Nat} {l : List Int} {μ : XM} {Q : Option Value → XM → Prop}
theorem truth_G {x2 : Int32} {P : Nat → LR} {h : Nat} (hd : 2 ≤ d) (hA : ∀ (μ : XM) (p : Nat) (l : List Int), LPs μ L n tb p l → Call Γ m_La_readUnit d [.ref L, .ref 33, .int x2] μ (KI (fun x μ' => LRs μ μ' L n tb l (P p) x))) (hG : ∀ p, p ≤ n → LG n p (CT h) (P p)) : ∀ (f : Nat) (μ : XM) (p turn : Nat) (c : List Int) (g : (Nat → Int) → Int), turn + f = 240 → turn < p → LPs μ L n tb p (l ++ c) → (∀ x μ', LRs μ μ' L n tb l (lgo tb n 38 38 P f p c g) x → Q (some (.int x)) μ') → G Γ m_La_readTruth (d + 1) (0, 0) Q 13 [.ref L, .ref 33, .int x2, .int (w turn)] [] μ := by
  intro f
  induction f with
  | zero =>
    intro μ p turn c g hf ht h hQ
    have := h.1.2.2.2.1
    have := h.pn
    omega
  | succ f ih =>
    intro μ p turn c g hf ht h hQ
    have hn := h.1.2.2.2.1
    have hp := h.pn
    have hs := sk_le tb hp
    have hb := lk_bd (p := p) h.bt
    have hl0 := h.2.2.2.1
    refine B_La_readTruth_13 h.1.ob h.2.1.1.ob ?_
    rw [w_lt (by omega) (by omega) (by omega) (by omega)]
    refine ⟨fun _ => ?_, fun z => absurd (by omega) z⟩
    refine (K_ahead (by omega) h).conseq (KI.mono ?_)
    rintro r μ0 ⟨rfl, o0, h0⟩
    rw [w_inj (by omega) (by omega) (by omega) (by omega)]
    refine ⟨fun z1 => ?_, fun z1 => ?_⟩
    · have hlt := lk_lt z1 (by decide)
      have hr := hG (sk tb n p + 1) (by omega)
      rw [lgo, if_pos (Or.inl z1)] at hQ
      refine (K_pass (by omega) h0 hlt).conseq (KV.mono ?_)
      rintro μ1 ⟨o1, h1⟩
      refine (hA μ1 _ _ h1).conseq (KI.mono ?_)
      rintro x μ2 ⟨o2, h2⟩
      match hP : P (sk tb n p + 1), hr, h2, hQ with
      | .inl q, hr, h2, hQ =>
        obtain ⟨rfl, h3⟩ := h2
        exact ⟨fun _ => hQ _ _ ⟨(o0.trans o1).trans o2, rfl, h3⟩, fun q => absurd rfl q⟩
      | .inr (p', c', g'), hr, h2, hQ =>
        obtain ⟨rfl, h3⟩ := h2
        obtain ⟨a1, a2, a3, a4⟩ := hr
        refine ⟨fun q => absurd q w01, fun _ => ?_⟩
        refine (K_add (by omega) h3 (by simp at hl0 ⊢; omega)).conseq (KV.mono ?_)
        rintro μ3 ⟨o3, h4⟩
        rw [w_add]
        refine ih μ3 p' (turn + 1) _ _ (by omega) (by omega) ?_ (fun x μ5 h6 => hQ x μ5 ⟨((o0.trans o1).trans (o2.trans o3)).trans h6.1, h6.2⟩)
        rw [z1]
        simpa [List.append_assoc] using h4
    · have e' : ¬ (lk tb n p = 38 ∨ lk tb n p = 38) := fun q => q.elim z1 z1
      rw [lgo, if_neg e'] at hQ
      exact hQ _ _ ⟨o0, rfl, h0⟩
theorem C_readTruth {x2 : Int32} {P : Nat → LR} {h : Nat} (hd : 3 ≤ d) (hA : ∀ (μ : XM) (p : Nat) (l : List Int), LPs μ L n tb p l → Call Γ m_La_readUnit (d - 1) [.ref L, .ref 33, .int x2] μ (KI (fun x μ' => LRs μ μ' L n tb l (P p) x))) (hG : ∀ p, p ≤ n → LG n p (CT h) (P p)) (hp : LPs μ L n tb p l) : Call Γ m_La_readTruth d [.ref L, .ref 33, .int x2] μ (KI (fun x μ' => LRs μ μ' L n tb l (lbeh tb n 38 38 P (P p)) x)) := by
  obtain ⟨d, rfl⟩ : ∃ e, d = e + 1 := ⟨d - 1, by omega⟩
  rw [Nat.add_sub_cancel] at hA
  refine Call.of ok_La_readTruth (Nat.le_of_ble_eq_true rfl) (B_La_readTruth_0 hp.2.1.1.ob ?_)
  refine (hA μ p l hp).conseq (KI.mono ?_)
  have hr := hG p hp.pn
  rintro x μ1 ⟨o1, h1⟩
  match hP : P p, hr, h1 with
  | .inl q, hr, h1 =>
    obtain ⟨rfl, h2⟩ := h1
    exact ⟨fun _ => ⟨_, rfl, o1, rfl, h2⟩, fun q => absurd rfl q⟩
  | .inr (p', c, g), hr, h1 =>
    obtain ⟨rfl, h2⟩ := h1
    refine ⟨fun q => absurd q w01, fun _ => ?_⟩
    exact truth_G (turn := 0) (by omega) hA hG 240 μ1 p' c g (by omega) (by have := hr.1; omega) h2 (fun x μ3 h4 => ⟨_, rfl, o1.trans h4.1, h4.2⟩)
theorem cond_G {x2 : Int32} {P : Nat → LR} {h : Nat} (hd : 2 ≤ d) (hA : ∀ (μ : XM) (p : Nat) (l : List Int), LPs μ L n tb p l → Call Γ m_La_readTruth d [.ref L, .ref 33, .int x2] μ (KI (fun x μ' => LRs μ μ' L n tb l (P p) x))) (hG : ∀ p, p ≤ n → LG n p (CT h) (P p)) : ∀ (f : Nat) (μ : XM) (p turn : Nat) (c : List Int) (g : (Nat → Int) → Int), turn + f = 240 → turn < p → LPs μ L n tb p (l ++ c) → (∀ x μ', LRs μ μ' L n tb l (lgo tb n 124 124 P f p c g) x → Q (some (.int x)) μ') → G Γ m_La_readCondition (d + 1) (0, 0) Q 13 [.ref L, .ref 33, .int x2, .int (w turn)] [] μ := by
  intro f
  induction f with
  | zero =>
    intro μ p turn c g hf ht h hQ
    have := h.1.2.2.2.1
    have := h.pn
    omega
  | succ f ih =>
    intro μ p turn c g hf ht h hQ
    have hn := h.1.2.2.2.1
    have hp := h.pn
    have hs := sk_le tb hp
    have hb := lk_bd (p := p) h.bt
    have hl0 := h.2.2.2.1
    refine B_La_readCondition_13 h.1.ob h.2.1.1.ob ?_
    rw [w_lt (by omega) (by omega) (by omega) (by omega)]
    refine ⟨fun _ => ?_, fun z => absurd (by omega) z⟩
    refine (K_ahead (by omega) h).conseq (KI.mono ?_)
    rintro r μ0 ⟨rfl, o0, h0⟩
    rw [w_inj (by omega) (by omega) (by omega) (by omega)]
    refine ⟨fun z1 => ?_, fun z1 => ?_⟩
    · have hlt := lk_lt z1 (by decide)
      have hr := hG (sk tb n p + 1) (by omega)
      rw [lgo, if_pos (Or.inl z1)] at hQ
      refine (K_pass (by omega) h0 hlt).conseq (KV.mono ?_)
      rintro μ1 ⟨o1, h1⟩
      refine (hA μ1 _ _ h1).conseq (KI.mono ?_)
      rintro x μ2 ⟨o2, h2⟩
      match hP : P (sk tb n p + 1), hr, h2, hQ with
      | .inl q, hr, h2, hQ =>
        obtain ⟨rfl, h3⟩ := h2
        exact ⟨fun _ => hQ _ _ ⟨(o0.trans o1).trans o2, rfl, h3⟩, fun q => absurd rfl q⟩
      | .inr (p', c', g'), hr, h2, hQ =>
        obtain ⟨rfl, h3⟩ := h2
        obtain ⟨a1, a2, a3, a4⟩ := hr
        refine ⟨fun q => absurd q w01, fun _ => ?_⟩
        refine (K_add (by omega) h3 (by simp at hl0 ⊢; omega)).conseq (KV.mono ?_)
        rintro μ3 ⟨o3, h4⟩
        rw [w_add]
        refine ih μ3 p' (turn + 1) _ _ (by omega) (by omega) ?_ (fun x μ5 h6 => hQ x μ5 ⟨((o0.trans o1).trans (o2.trans o3)).trans h6.1, h6.2⟩)
        rw [z1]
        simpa [List.append_assoc] using h4
    · have e' : ¬ (lk tb n p = 124 ∨ lk tb n p = 124) := fun q => q.elim z1 z1
      rw [lgo, if_neg e'] at hQ
      exact hQ _ _ ⟨o0, rfl, h0⟩
theorem C_readCondition {x2 : Int32} {P : Nat → LR} {h : Nat} (hd : 3 ≤ d) (hA : ∀ (μ : XM) (p : Nat) (l : List Int), LPs μ L n tb p l → Call Γ m_La_readTruth (d - 1) [.ref L, .ref 33, .int x2] μ (KI (fun x μ' => LRs μ μ' L n tb l (P p) x))) (hG : ∀ p, p ≤ n → LG n p (CT h) (P p)) (hp : LPs μ L n tb p l) : Call Γ m_La_readCondition d [.ref L, .ref 33, .int x2] μ (KI (fun x μ' => LRs μ μ' L n tb l (lbeh tb n 124 124 P (P p)) x)) := by
  obtain ⟨d, rfl⟩ : ∃ e, d = e + 1 := ⟨d - 1, by omega⟩
  rw [Nat.add_sub_cancel] at hA
  refine Call.of ok_La_readCondition (Nat.le_of_ble_eq_true rfl) (B_La_readCondition_0 hp.2.1.1.ob ?_)
  refine (hA μ p l hp).conseq (KI.mono ?_)
  have hr := hG p hp.pn
  rintro x μ1 ⟨o1, h1⟩
  match hP : P p, hr, h1 with
  | .inl q, hr, h1 =>
    obtain ⟨rfl, h2⟩ := h1
    exact ⟨fun _ => ⟨_, rfl, o1, rfl, h2⟩, fun q => absurd rfl q⟩
  | .inr (p', c, g), hr, h1 =>
    obtain ⟨rfl, h2⟩ := h1
    refine ⟨fun q => absurd q w01, fun _ => ?_⟩
    exact cond_G (turn := 0) (by omega) hA hG 240 μ1 p' c g (by omega) (by have := hr.1; omega) h2 (fun x μ3 h4 => ⟨_, rfl, o1.trans h4.1, h4.2⟩)
theorem C_readNested {k : Nat} {U C : Nat → LR} (hk : k ≤ 6) (hd : 3 ≤ d) (hU : 0 < k → ∀ (μ : XM) (p : Nat) (l : List Int), LPs μ L n tb p l → Call Γ m_La_readUnit (d - 1) [.ref L, .ref 33, .int (w (6 - k + 1))] μ (KI (fun x μ' => LRs μ μ' L n tb l (U p) x))) (hC : 0 < k → ∀ (μ : XM) (p : Nat) (l : List Int), LPs μ L n tb p l → Call Γ m_La_readCondition (d - 1) [.ref L, .ref 33, .int (w (6 - k + 1))] μ (KI (fun x μ' => LRs μ μ' L n tb l (C p) x))) {h : Nat} (gU : 0 < k → ∀ p, p ≤ n → LG n p (CT h) (U p)) (hp : LPs μ L n tb (sk tb n p) l) (hpn : p ≤ n) (S : Nat → LR) (e : lk tb n p = 33 ∨ lk tb n p = 40) : Call Γ m_La_readNested d [.ref L, .ref 33, .int (w (6 - k)), .int (w (lk tb n p))] μ (KI (fun x μ' => LRs μ μ' L n tb l (lun tb n k S U C p) x)) := by
  obtain ⟨d, rfl⟩ : ∃ e, d = e + 1 := ⟨d - 1, by omega⟩
  rw [Nat.add_sub_cancel] at hU hC
  have hb := lk_bd (p := p) hp.bt
  have hn := hp.1.2.2.2.1
  have hs := sk_le tb hpn
  have hl0 := hp.2.2.2.1
  have hlt : sk tb n p < n := by
    rcases e with e | e
    · exact lk_lt e (by decide)
    · exact lk_lt e (by decide)
  refine Call.of ok_La_readNested (Nat.le_of_ble_eq_true rfl) (B_La_readNested_0 hp.1.ob hp.2.1.1.ob ?_)
  rw [w_lt (by omega) (by omega) (by omega) (by omega), w_inj (by omega) (by omega) (by omega) (by omega), w_add]
  refine ⟨fun z => ?_, fun z => ?_⟩
  · refine (K_pass (by omega) hp hlt).conseq (KV.mono ?_)
    rintro μ1 ⟨o1, h1⟩
    refine ⟨fun z2 => ?_, fun z2 => ?_⟩
    · refine (hC (by omega) μ1 _ _ h1).conseq (KI.mono ?_)
      rintro x μ2 ⟨o2, h2⟩
      unfold lun
      rw [if_neg (by omega), if_pos z2, if_neg (by omega)]
      match hP : C (sk tb n p + 1), h2 with
      | .inl q, h2 =>
        obtain ⟨rfl, h3⟩ := h2
        exact ⟨fun _ => ⟨_, rfl, o1.trans o2, rfl, h3⟩, fun q => absurd rfl q⟩
      | .inr (p', c, g), h2 =>
        obtain ⟨rfl, h3⟩ := h2
        refine ⟨fun q => absurd q w01, fun _ => ?_⟩
        refine (K_demand (by omega) h3 (c := 41) (by decide) (by decide)).conseq (KI.mono ?_)
        rintro x μ4 ⟨o4, ⟨e, rfl, h5⟩ | ⟨e, rfl, h5⟩⟩
        · refine ⟨fun q => absurd q w01, fun _ => ⟨_, rfl, (o1.trans o2).trans o4, ?_⟩⟩
          dsimp only
          rw [if_pos e]
          exact ⟨rfl, h5⟩
        · refine ⟨fun _ => ⟨_, rfl, (o1.trans o2).trans o4, ?_⟩, fun q => absurd rfl q⟩
          dsimp only
          rw [if_neg e]
          exact ⟨rfl, h5⟩
    · refine (hU (by omega) μ1 _ _ h1).conseq (KI.mono ?_)
      have hr := gU (by omega) (sk tb n p + 1) (by omega)
      rintro x μ2 ⟨o2, h2⟩
      unfold lun
      rw [if_pos (by omega), if_neg (by omega)]
      match hP : U (sk tb n p + 1), hr, h2 with
      | .inl q, hr, h2 =>
        obtain ⟨rfl, h3⟩ := h2
        exact ⟨fun _ => ⟨_, rfl, o1.trans o2, rfl, h3⟩, fun q => absurd rfl q⟩
      | .inr (p', c, g), hr, h2 =>
        obtain ⟨rfl, h3⟩ := h2
        obtain ⟨a1, a2, a3, a4⟩ := hr
        refine ⟨fun q => absurd q w01, fun _ => ?_⟩
        refine (K_add (by omega) h3 (by simp; omega)).conseq (KV.mono ?_)
        rintro μ3 ⟨o3, h4⟩
        refine ⟨_, rfl, (o1.trans o2).trans o3, rfl, ?_⟩
        rw [← List.append_assoc]
        exact h4
  · refine (K_refuse (by omega) hp).conseq (KI.mono ?_)
    rintro x μ2 ⟨rfl, o2, h2⟩
    refine ⟨Or.inl rfl, _, rfl, ?_⟩
    have e0 : k = 0 := by omega
    subst e0
    have er : lun tb n 0 S U C p = .inl (sk tb n p) := by
      unfold lun
      rcases e with e | e
      · rw [if_pos e, if_pos rfl]
      · rw [if_neg (by omega), if_pos e, if_pos rfl]
    rw [er]
    exact ⟨o2, rfl, h2⟩
theorem C_readUnit {k : Nat} {S U C : Nat → LR} (hk : k ≤ 6) (hd : 4 ≤ d) (hS : ∀ (μ : XM) (p : Nat) (l : List Int), LPs μ L n tb p l → Call Γ m_La_readSum (d - 1) [.ref L, .ref 33, .int (w (6 - k))] μ (KI (fun x μ' => LRs μ μ' L n tb l (S p) x))) (hU : 0 < k → ∀ (μ : XM) (p : Nat) (l : List Int), LPs μ L n tb p l → Call Γ m_La_readUnit (d - 2) [.ref L, .ref 33, .int (w (6 - k + 1))] μ (KI (fun x μ' => LRs μ μ' L n tb l (U p) x))) (hC : 0 < k → ∀ (μ : XM) (p : Nat) (l : List Int), LPs μ L n tb p l → Call Γ m_La_readCondition (d - 2) [.ref L, .ref 33, .int (w (6 - k + 1))] μ (KI (fun x μ' => LRs μ μ' L n tb l (C p) x))) {h h' : Nat} (gS : ∀ p, p ≤ n → LG n p (CG h') (S p)) (gU : 0 < k → ∀ p, p ≤ n → LG n p (CT h) (U p)) (hp : LPs μ L n tb p l) : Call Γ m_La_readUnit d [.ref L, .ref 33, .int (w (6 - k))] μ (KI (fun x μ' => LRs μ μ' L n tb l (lun tb n k S U C p) x)) := by
  obtain ⟨d, rfl⟩ : ∃ e, d = e + 1 := ⟨d - 1, by omega⟩
  have hb := lk_bd (p := p) hp.bt
  have hn := hp.1.2.2.2.1
  have hs := sk_le tb hp.pn
  have hl0 := hp.2.2.2.1
  refine Call.of ok_La_readUnit (Nat.le_of_ble_eq_true rfl) (B_La_readUnit_0 hp.1.ob hp.2.1.1.ob ?_)
  refine (K_ahead (by omega) hp).conseq (KI.mono ?_)
  rintro r μ1 ⟨rfl, o1, h1⟩
  rw [w_inj (by omega) (by omega) (by omega) (by omega), w_inj (by omega) (by omega) (by omega) (by omega)]
  rw [show d + 1 - 2 = d - 1 by omega] at hU hC
  have hN : (lk tb n p = 33 ∨ lk tb n p = 40) → Call Γ m_La_readNested d [.ref L, .ref 33, .int (w (6 - k)), .int (w (lk tb n p))] μ1 (KI (fun v2 μ2 => ((v2 = w 0 ∨ v2 = w 1) ∧ KI (fun x μ' => LRs μ μ' L n tb l (lun tb n k S U C p) x) (some (.int v2)) μ2))) := fun e => by
    refine (C_readNested (S := S) hk (by omega) hU hC gU h1 hp.pn e).conseq (KI.mono ?_)
    rintro x μ2 ⟨o2, h2⟩
    refine ⟨?_, _, rfl, o1.trans o2, h2⟩
    match hP : lun tb n k S U C p, h2 with
    | .inl q, h2 => exact Or.inl h2.1
    | .inr _, h2 => exact Or.inr h2.1
  refine ⟨fun z => hN (Or.inl z), fun z => ⟨fun z2 => hN (Or.inr z2), fun z2 => ?_⟩⟩
  rw [Nat.add_sub_cancel] at hS
  refine (hS μ1 _ _ h1).conseq (KI.mono ?_)
  have hr := gS (sk tb n p) hs.2
  unfold lun
  rw [if_neg z, if_neg z2]
  rintro x μ2 ⟨o2, h2⟩
  match hP : S (sk tb n p), hr, h2 with
  | .inl q, hr, h2 =>
    obtain ⟨rfl, h3⟩ := h2
    exact ⟨fun _ => ⟨_, rfl, o1.trans o2, rfl, h3⟩, fun q => absurd rfl q⟩
  | .inr (p1, c1, g1), hr, h2 =>
    obtain ⟨rfl, h3⟩ := h2
    obtain ⟨a1, a2, a3, a4⟩ := hr
    refine ⟨fun q => absurd q w01, fun _ => ?_⟩
    have hb1 := lk_bd (p := p1) hp.bt
    have hs1 := sk_le tb a2
    have hl1 := h3.2.2.2.1
    refine (K_ahead (by omega) h3).conseq (KI.mono ?_)
    rintro r μ3 ⟨rfl, o3, h4⟩
    refine (K_isComparison (by omega) hb1.1 hb1.2).conseq (KI.mono ?_)
    rintro r μ4 ⟨rfl, ⟨e, rfl⟩ | ⟨e, rfl⟩⟩
    · refine ⟨fun q => absurd q w01, fun _ => ?_⟩
      have hlt : sk tb n p1 < n := by
        rcases e with e | e | e
        · exact lk_lt e (by decide)
        · exact lk_lt e (by decide)
        · exact lk_lt e (by decide)
      refine (K_pass (by omega) h4 hlt).conseq (KV.mono ?_)
      rintro μ5 ⟨o5, h5⟩
      refine (hS μ5 _ _ h5).conseq (KI.mono ?_)
      have hr2 := gS (sk tb n p1 + 1) (by omega)
      unfold lcr
      dsimp only
      rw [if_pos e]
      rintro x μ6 ⟨o6, h6⟩
      match hP2 : S (sk tb n p1 + 1), hr2, h6 with
      | .inl q, hr2, h6 =>
        obtain ⟨rfl, h7⟩ := h6
        exact ⟨fun _ => ⟨_, rfl, ((o1.trans o2).trans (o3.trans o5)).trans o6, rfl, h7⟩, fun q => absurd rfl q⟩
      | .inr (p2, c2, g2), hr2, h6 =>
        obtain ⟨rfl, h7⟩ := h6
        obtain ⟨b1, b2, b3, b4⟩ := hr2
        refine ⟨fun q => absurd q w01, fun _ => ?_⟩
        rw [w_add]
        refine (K_add (by omega) h7 (by simp at hl1 ⊢; omega)).conseq (KV.mono ?_)
        rintro μ7 ⟨o7, h8⟩
        refine ⟨_, rfl, ((o1.trans o2).trans (o3.trans o5)).trans (o6.trans o7), rfl, ?_⟩
        simpa [List.append_assoc] using h8
    · refine ⟨fun _ => ?_, fun q => absurd rfl q⟩
      refine (K_refuse (by omega) h4).conseq (KI.mono ?_)
      rintro x μ5 ⟨rfl, o5, h5⟩
      refine ⟨Or.inl rfl, _, rfl, ?_⟩
      unfold lcr
      dsimp only
      rw [if_neg e]
      exact ⟨((o1.trans o2).trans o3).trans o5, rfl, h5⟩
theorem C_lU : ∀ (k : Nat) (d : Nat) (μ : XM) (p : Nat) (l : List Int), k ≤ 6 → 6 + 4 * k ≤ d → LPs μ L n tb p l → Call Γ m_La_readUnit d [.ref L, .ref 33, .int (w (6 - k))] μ (KI (fun x μ' => LRs μ μ' L n tb l (lU tb n k p) x))
  | 0, d, μ, p, l, hk, hd, hp => by
    have := C_readUnit (k := 0) (S := lS tb n 0) (U := fun p => .inl p) (C := fun p => .inl p) (h := 0) (Γ := Γ) (d := d) (by omega) (by omega) (fun μ p l h1 => C_lS 0 (d - 1) μ p l (by omega) (by omega) h1) (fun q => absurd q (by omega)) (fun q => absurd q (by omega)) (lS_LG 0) (fun q => absurd q (by omega)) hp
    exact this
  | k + 1, d, μ, p, l, hk, hd, hp => by
    have e6 : (6 : Int) - (k + 1 : Nat) + 1 = 6 - k := by omega
    have hu : ∀ (d' : Nat), 6 + 4 * k ≤ d' → ∀ (μ : XM) (p : Nat) (l : List Int), LPs μ L n tb p l → Call Γ m_La_readUnit d' [.ref L, .ref 33, .int (w (6 - (k + 1 : Nat) + 1))] μ (KI (fun x μ' => LRs μ μ' L n tb l (lU tb n k p) x)) := fun d' hd' μ p l h1 => by
      rw [e6]
      exact C_lU k d' μ p l (by omega) hd' h1
    have hU := lU_LG (tb := tb) (n := n) k
    have := C_readUnit (k := k + 1) (S := lS tb n (k + 1)) (U := lU tb n k) (C := fun p => lcw tb n (lU tb n k) (lU tb n k p)) (Γ := Γ) (d := d) (by omega) (by omega) (fun μ p l h1 => C_lS (k + 1) (d - 1) μ p l (by omega) (by omega) h1) (fun _ => hu (d - 2) (by omega)) (fun _ μ p l h1 => ?_) (lS_LG (k + 1)) (fun _ => hU) hp
    · exact this
    · refine C_readCondition (P := fun p => ltw tb n (lU tb n k) (lU tb n k p)) (by omega) (fun μ p l h2 => ?_) (fun p hp => ltw_LG hU (hU p hp)) h1
      exact C_readTruth (P := lU tb n k) (by omega) (hu (d - 2 - 1 - 1) (by omega)) hU h2
theorem C_lC {d : Nat} (hd : 32 ≤ d) (h : LPs μ L n tb p l) : Call Γ m_La_readCondition d [.ref L, .ref 33, .int (w 0)] μ (KI (fun x μ' => LRs μ μ' L n tb l (lC tb n 6 p) x)) := by
  have hU := lU_LG (tb := tb) (n := n) 6
  have := C_readCondition (Γ := Γ) (d := d) (x2 := w (6 - (6 : Nat))) (P := fun p => ltw tb n (lU tb n 6) (lU tb n 6 p)) (by omega) (fun μ p l h2 => C_readTruth (P := lU tb n 6) (by omega) (fun μ p l h3 => C_lU 6 (d - 1 - 1) μ p l (by omega) (by omega) h3) hU h2) (fun p hp => ltw_LG hU (hU p hp)) h
  exact this
theorem C_lS6 {d : Nat} (hd : 23 ≤ d) (h : LPs μ L n tb p l) : Call Γ m_La_readSum d [.ref L, .ref 33, .int (w 0)] μ (KI (fun x μ' => LRs μ μ' L n tb l (lS tb n 6 p) x)) := C_lS 6 d μ p l (by omega) (by omega) h
def LRs2 (μ μ' : XM) (L n : Nat) (tb : Nat → Nat) (l : List Int) (r : LO2) (x : Int32) : Prop := fof (lfr L) μ μ' ∧ match r with
  | .inl q => x = w 0 ∧ TN μ' n tb ∧ xI μ' 33 3 = w q
  | .inr (p', c, _) => x = w 1 ∧ LPs μ' L n tb p' (l ++ c)
theorem K_tail {d : Nat} (hd : 32 ≤ d) (h : LPs μ L n tb p l) (hQ : ∀ x μ', LRs2 μ μ' L n tb l (lct tb n (lC tb n 6 p)) x → Q (some (.int x)) μ') :
    Call Γ m_La_readCondition d [.ref L, .ref 33, .int (w 0)] μ (KI (fun v4 μ4 => ((v4 = w 0 → Q (some (.int (w 0))) μ4) ∧ (¬ v4 = w 0 → Call Γ m_Ta_demand d [.ref 33, .int (w 63)] μ4 (KI (fun v5 μ5 => ((v5 = w 0 → Q (some (.int (w 0))) μ5) ∧ (¬ v5 = w 0 → Call Γ m_La_add d [.ref L, .int (w 20063)] μ5 (KV (fun μ6 => Call Γ m_La_readSum d [.ref L, .ref 33, .int (w 0)] μ6 (KI (fun v7 μ7 => ((v7 = w 0 ∨ v7 = w 1) ∧ Q (some (.int v7)) μ7))))))))))))) := by
  refine (C_lC hd h).conseq (KI.mono ?_)
  have hr := lC_LG (tb := tb) (n := n) 6 p h.pn
  rintro x μ1 ⟨o1, h1⟩
  match hP : lC tb n 6 p, hr, h1, hQ with
  | .inl q, hr, h1, hQ =>
    obtain ⟨rfl, h2⟩ := h1
    exact ⟨fun _ => hQ _ _ ⟨o1, rfl, h2⟩, fun q => absurd rfl q⟩
  | .inr (p', c, g), hr, h1, hQ =>
    obtain ⟨rfl, h2⟩ := h1
    obtain ⟨a1, a2, a3, a4⟩ := hr
    have hl0 := h2.2.2.2.1
    have hs := sk_le tb a2
    refine ⟨fun q => absurd q w01, fun _ => ?_⟩
    refine (K_demand (by omega) h2 (c := 63) (by decide) (by decide)).conseq (KI.mono ?_)
    unfold lct at hQ
    dsimp only at hQ
    rintro x μ2 ⟨o2, ⟨e, rfl, h3⟩ | ⟨e, rfl, h3⟩⟩
    · refine ⟨fun q => absurd q w01, fun _ => ?_⟩
      have hlt := lk_lt e (by decide)
      rw [if_pos e] at hQ
      refine (K_add (by omega) h3 (by omega)).conseq (KV.mono ?_)
      rintro μ3 ⟨o3, h4⟩
      refine (C_lS6 (by omega) h4).conseq (KI.mono ?_)
      rintro x μ4 ⟨o4, h5⟩
      match hP2 : lS tb n 6 (sk tb n p' + 1), h5, hQ with
      | .inl q, h5, hQ =>
        obtain ⟨rfl, h6⟩ := h5
        exact ⟨Or.inl rfl, hQ _ _ ⟨(o1.trans o2).trans (o3.trans o4), rfl, h6⟩⟩
      | .inr (p2, c2, g2), h5, hQ =>
        obtain ⟨rfl, h6⟩ := h5
        refine ⟨Or.inr rfl, hQ _ _ ⟨(o1.trans o2).trans (o3.trans o4), rfl, ?_⟩⟩
        simpa [List.append_assoc] using h6
    · rw [if_neg e] at hQ
      exact ⟨fun _ => hQ _ _ ⟨o1.trans o2, rfl, h3⟩, fun q => absurd rfl q⟩
theorem LPs.cut {c : List Int} (h : LPs μ L n tb p (l ++ c)) {q : Nat} (hq : q ≤ n) (hl : l.length ≤ q) : LPs (sI (sI μ 33 2 (w q)) L 3 (w l.length)) L n tb q l ∧ fof (lfr L) μ (sI (sI μ 33 2 (w q)) L 3 (w l.length)) := by
  obtain ⟨h1, ⟨h2, h3, h4, h5⟩, h6, h7, h8⟩ := h
  have h9 : TP (sI μ 33 2 (w q)) n tb q := h1.mv hq
  have ho : fof (fun c => c = L) (sI μ 33 2 (w q)) (sI (sI μ 33 2 (w q)) L 3 (w l.length)) := fof.sI _ 3 _ rfl
  have ho2 : fof (lfr L) μ (sI (sI μ 33 2 (w q)) L 3 (w l.length)) := (f33 μ 2 (w q)).trans (ho.wide (fun c hc => Or.inr (Or.inl hc)))
  refine ⟨⟨?_, ⟨h2.of rfl rfl, by simp at h3; omega, by rw [xI_sI, if_pos ⟨rfl, rfl⟩], fun i hi => ?_⟩, h6.fof ho2 (fun c hc => by unfold lfr; omega), hl, h8⟩, ho2⟩
  · obtain ⟨t1, t2, t3, t4, t5, t6, t7⟩ := h9
    exact ⟨t1, t2, by rw [ho.1 33 (by omega)]; exact t3, t4, fun j hj => by rw [ho.1 34 (by omega)]; exact t5 j hj, by rw [ho.1 33 (by omega)]; exact t6, t7⟩
  · rw [xI_sI, if_neg (by omega), xI_sI, if_neg (by omega), h5 i (by simp; omega)]
    congr 1
    simp only [List.getD_eq_getElem?_getD]
    rw [List.getElem?_append_left hi]
theorem C_lcl {d : Nat} (hd : 33 ≤ d) (h : LPs μ L n tb p l) : Call Γ m_La_readClause d [.ref L, .ref 33] μ (KI (fun x μ' => LRs2 μ μ' L n tb l (lcl tb n p) x)) := by
  obtain ⟨d, rfl⟩ : ∃ e, d = e + 1 := ⟨d - 1, by omega⟩
  have hs := sk_le tb h.pn
  refine Call.of ok_La_readClause (Nat.le_of_ble_eq_true rfl) (B_La_readClause_0 h.1.ob h.2.1.1.ob ?_)
  refine (K_demand (by omega) h (c := 121) (by decide) (by decide)).conseq (KI.mono ?_)
  unfold lcl
  rintro x μ1 ⟨o1, ⟨e1, rfl, h1⟩ | ⟨e1, rfl, h1⟩⟩
  · rw [if_pos e1]
    refine ⟨fun q => absurd q w01, fun _ => ?_⟩
    refine (K_demand (by omega) h1 (c := 58) (by decide) (by decide)).conseq (KI.mono ?_)
    rintro x μ2 ⟨o2, ⟨e2, rfl, h2⟩ | ⟨e2, rfl, h2⟩⟩
    · rw [if_pos e2]
      refine ⟨fun q => absurd q w01, fun _ => ?_⟩
      refine (K_ahead (by omega) h2).conseq (KI.mono ?_)
      rintro x μ3 ⟨rfl, o3, h3⟩
      have hp2 := h2.pn
      have hb := lk_bd (p := sk tb n (sk tb n p + 1) + 1) h2.bt
      obtain ⟨p2, ep2⟩ : ∃ q, q = sk tb n (sk tb n p + 1) + 1 := ⟨_, rfl⟩
      rw [← ep2] at h3 hb hp2 ⊢
      have hs2 := sk_le tb hp2
      have o13 := (o1.trans o2).trans o3
      rw [w_inj (by omega) (by omega) (by omega) (by omega), w_inj (by omega) (by omega) (by omega) (by omega)]
      unfold lcs
      refine ⟨fun z => ?_, fun z => ⟨fun z2 => ?_, fun z2 => ?_⟩⟩
      · rw [if_pos (Or.inl z)]
        exact K_tail (by omega) h3 (fun x μ' h4 => ⟨_, rfl, o13.trans h4.1, h4.2⟩)
      · rw [if_pos (Or.inr z2)]
        exact K_tail (by omega) h3 (fun x μ' h4 => ⟨_, rfl, o13.trans h4.1, h4.2⟩)
      · rw [if_neg (fun q => q.elim z z2)]
        refine (C_lS6 (by omega) h3).conseq (KI.mono ?_)
        have hr := lS_LG (tb := tb) (n := n) 6 (sk tb n p2) hs2.2
        rintro x μ4 ⟨o4, h4⟩
        match hP : lS tb n 6 (sk tb n p2), hr, h4 with
        | .inl q, hr, h4 =>
          obtain ⟨rfl, h5⟩ := h4
          exact ⟨fun _ => ⟨_, rfl, o13.trans o4, rfl, h5⟩, fun q => absurd rfl q⟩
        | .inr (p4, c4, g4), hr, h4 =>
          obtain ⟨rfl, h5⟩ := h4
          obtain ⟨a1, a2, a3, a4⟩ := hr
          refine ⟨fun q => absurd q w01, fun _ => ?_⟩
          refine (K_ahead (by omega) h5).conseq (KI.mono ?_)
          rintro x μ5 ⟨rfl, o5, h6⟩
          have hb4 := lk_bd (p := p4) h2.bt
          refine (K_isComparison (by omega) hb4.1 hb4.2).conseq (KI.mono ?_)
          rintro r μ6 ⟨rfl, ⟨e, rfl⟩ | ⟨e, rfl⟩⟩
          · refine ⟨fun q => absurd q w01, fun _ => ?_⟩
            dsimp only
            rw [if_pos e]
            rintro μ7 rfl μ8 rfl
            obtain ⟨h7, o7⟩ := h6.cut (q := sk tb n p2) hs2.2 h3.2.2.2.1
            rw [h3.1.2.2.2.2.2.1, h3.2.1.2.2.1]
            exact K_tail (by omega) h7 (fun x μ' h8 => ⟨_, rfl, ((o13.trans o4).trans (o5.trans o7)).trans h8.1, h8.2⟩)
          · refine ⟨fun _ => ⟨_, rfl, (o13.trans o4).trans o5, ?_⟩, fun q => absurd rfl q⟩
            dsimp only
            rw [if_neg e]
            exact ⟨rfl, h6⟩
    · rw [if_neg e2]
      exact ⟨fun _ => ⟨_, rfl, o1.trans o2, rfl, h2⟩, fun q => absurd rfl q⟩
  · rw [if_neg e1]
    exact ⟨fun _ => ⟨_, rfl, o1, rfl, h1⟩, fun q => absurd rfl q⟩
def LRs3 (μ μ' : XM) (L n : Nat) (tb : Nat → Nat) (l : List Int) (r : Nat ⊕ (List Int × ((Nat → Int) → Option Int))) (x : Int32) : Prop := fof (lfr L) μ μ' ∧ TN μ' n tb ∧ match r with
  | .inl q => x = w 0 ∧ xI μ' 33 3 = w q
  | .inr (c, _) => x = w 1 ∧ LQ μ' L (l ++ c)
theorem readFromL_G {d : Nat} (hd : 33 ≤ d) : ∀ (f : Nat) (μ : XM) (p cl : Nat) (l : List Int), cl + f = 241 → cl ≤ p → LPs μ L n tb p l → (∀ x μ', LRs3 μ μ' L n tb l (lla tb n f p) x → Q (some (.int x)) μ') → G Γ m_La_readFrom (d + 1) (0, 0) Q 11 [.ref L, .ref 33, .int (w cl)] [] μ := by
  intro f
  induction f with
  | zero =>
    intro μ p cl l hf hc h hQ
    have := h.1.2.2.2.1
    have := h.pn
    omega
  | succ f ih =>
    intro μ p cl l hf hc h hQ
    have hn := h.1.2.2.2.1
    have hp := h.pn
    have hl0 := h.2.2.2.1
    refine B_La_readFrom_11 h.1.ob h.2.1.1.ob ?_
    rw [w_lt (by omega) (by omega) (by omega) (by omega)]
    refine ⟨fun q => absurd q (by omega), fun _ => ?_⟩
    refine (C_lcl hd h).conseq (KI.mono ?_)
    have hr := lcl_LG (tb := tb) hp
    unfold lla at hQ
    rintro x μ1 ⟨o1, h1⟩
    match hP : lcl tb n p, hr, h1, hQ with
    | .inl q, hr, h1, hQ =>
      obtain ⟨rfl, h2, h3⟩ := h1
      exact ⟨fun _ => hQ _ _ ⟨o1, h2, rfl, h3⟩, fun q => absurd rfl q⟩
    | .inr (p', c, g), hr, h1, hQ =>
      obtain ⟨rfl, h2⟩ := h1
      obtain ⟨a1, a2, a3, a4⟩ := hr
      have hs := sk_le tb a2
      have hb := lk_bd (p := p') h.bt
      refine ⟨fun q => absurd q w01, fun _ => ?_⟩
      refine (K_add (by omega) h2 (by simp; omega)).conseq (KV.mono ?_)
      rintro μ2 ⟨o2, h3⟩
      refine (K_ahead (by omega) h3).conseq (KI.mono ?_)
      rintro r μ3 ⟨rfl, o3, h4⟩
      rw [w_inj (by omega) (by omega) (by omega) (by omega)]
      dsimp only at hQ
      refine ⟨fun z => ?_, fun z => ?_⟩
      · rw [if_pos z] at hQ
        refine hQ _ _ ⟨(o1.trans o2).trans o3, h4.1.tn, rfl, ?_⟩
        have := h4.2.1
        rw [List.append_assoc] at this
        exact this
      · rw [if_neg z] at hQ
        refine (K_demand (by omega) h4 (c := 59) (by decide) (by decide)).conseq (KI.mono ?_)
        rw [lk_sk tb a2, sk_sk tb a2]
        rintro x μ4 ⟨o4, ⟨e, rfl, h5⟩ | ⟨e, rfl, h5⟩⟩
        · refine ⟨fun q => absurd q w01, fun _ => ?_⟩
          rw [if_pos e] at hQ
          rw [w_add]
          refine ih μ4 _ (cl + 1) _ (by omega) (by omega) h5 (fun x μ5 h6 => hQ x μ5 ?_)
          obtain ⟨g1, g2, g3⟩ := h6
          refine ⟨(((o1.trans o2).trans o3).trans o4).trans g1, g2, ?_⟩
          match hP2 : lla tb n f (sk tb n p' + 1), g3 with
          | .inl q, g3 => exact g3
          | .inr (c2, g4), g3 =>
            refine ⟨g3.1, ?_⟩
            have := g3.2
            rw [List.append_assoc, List.append_assoc] at this
            exact this
        · refine ⟨fun _ => ?_, fun q => absurd rfl q⟩
          rw [if_neg e] at hQ
          exact hQ _ _ ⟨((o1.trans o2).trans o3).trans o4, h5.1, rfl, h5.2⟩
theorem C_readFromL {d : Nat} (hd : 34 ≤ d) (hT : TN μ n tb) (hL : LB μ L) (hS : ST μ) (h4 : 400 ≤ L) : Call Γ m_La_readFrom d [.ref L, .ref 33] μ (KI (fun x μ' => fof (lfr L) μ μ' ∧ TN μ' n tb ∧ match law tb n with
    | .inl q => x = w 0 ∧ xI μ' 33 3 = w q
    | .inr (c, _) => x = w 1 ∧ LF μ' L c.length (fun i => c.getD i 0))) := by
  obtain ⟨d, rfl⟩ : ∃ e, d = e + 1 := ⟨d - 1, by omega⟩
  have h33 : ob μ 33 9 := ob_of rfl (by decide) hT.2.1
  refine Call.of ok_La_readFrom (Nat.le_of_ble_eq_true rfl) (B_La_readFrom_0 hL.ob h33 ?_)
  rintro μ1 rfl
  have o0 : fof (lfr L) μ (sI μ L 3 (w 0)) := fof.sI μ 3 (w 0) (Or.inr (Or.inl rfl))
  refine (C_rewind (by omega) (ob_of (μ := sI μ L 3 (w 0)) rfl (by decide) hT.2.1)).conseq (KV.mono ?_)
  rintro μ2 rfl
  have o1 : fof (lfr L) μ (sI (sI (sI μ L 3 (w 0)) 33 2 (w 0)) 33 3 (w (-1))) := (o0.trans (f33 _ _ _)).trans (f33 _ _ _)
  have hLP : LPs (sI (sI (sI μ L 3 (w 0)) 33 2 (w 0)) 33 3 (w (-1))) L n tb 0 [] := by
    obtain ⟨t1, t2, t3, t4, t5⟩ := hT
    refine ⟨⟨t1, t2, ?_, t4, fun j hj => ?_, ?_, Nat.zero_le _⟩, ⟨hL.of rfl rfl, by simp, ?_, fun i hi => absurd hi (by simp)⟩, hS.fof o1 (fun c hc => by unfold lfr; omega), Nat.zero_le _, h4⟩
    · rw [xI_sI, if_neg (by omega), xI_sI, if_neg (by omega), xI_sI, if_neg (by omega)]; exact t3
    · rw [xI_sI, if_neg (by omega), xI_sI, if_neg (by omega), xI_sI, if_neg (by omega)]; exact t5 j hj
    · rw [xI_sI, if_neg (by omega), xI_sI, if_pos ⟨rfl, rfl⟩]; rfl
    · rw [xI_sI, if_neg (by omega), xI_sI, if_neg (by omega), xI_sI, if_pos ⟨rfl, rfl⟩]; rfl
  refine readFromL_G (by omega) 241 _ 0 0 [] (by omega) (by omega) hLP (fun x μ' h5 => ⟨_, rfl, o1.trans h5.1, h5.2.1, ?_⟩)
  have hg := law_LG (tb := tb) (n := n)
  have h6 := h5.2.2
  unfold law at hg ⊢
  match hP : lla tb n 241 0, hg, h6 with
  | .inl q, hg, h6 => exact h6
  | .inr (c, g), hg, h6 =>
    obtain ⟨rfl, b1, b2, b3, b4⟩ := h6
    refine ⟨rfl, b1, b2, b3, fun i hi => ⟨b4 i hi, hg.2.1 _ ?_⟩⟩
    show c.getD i 0 ∈ c
    rw [List.getD_eq_getElem?_getD, List.getElem?_eq_getElem hi]
    exact List.getElem_mem hi
end LD
