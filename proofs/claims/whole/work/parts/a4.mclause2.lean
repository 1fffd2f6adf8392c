/-! A CLAUSE, A HOUSE, in the reference -/
def hzf (c j : Nat) : Prop := rdf c j ∨ c = 553 ∨ c = 555 ∨ c = 556 ∨ (c = 547 ∧ (j = 26 ∨ j = 27 ∨ j = 29))
def bit01 (b : Bool) : Int := if b = true then 1 else 0
/-- the house that is being read -/
def HR (μ : XM) (X : HT) : Prop := xI μ 547 26 = w (t1 X) ∧ xI μ 547 27 = w (t2 X) ∧ xI μ 547 29 = w (bit01 (t0 X)) ∧ (∀ j, j < 4 → xI μ 553 j = w (t3 X j)) ∧ (∀ k, k < t1 X → ∀ j, j < 5 → xI μ 555 (5 * k + j) = w (t4 X k j)) ∧ ∀ b, b < t2 X → ∀ j, j < 4 → xI μ 556 (4 * b + j) = w (t5 X b j)
theorem HR.rd {μ μ' : XM} {X : HT} (h : HR μ X) (ho : fr rdf μ μ') : HR μ' X := by
  have e : ∀ c j, ¬ rdf c j → xI μ' c j = xI μ c j := fun c j q => (ho.1 c j q).1
  obtain ⟨a1, a2, a3, a4, a5, a6⟩ := h
  exact ⟨by rw [e _ _ (by unfold rdf; omega)]; exact a1, by rw [e _ _ (by unfold rdf; omega)]; exact a2, by rw [e _ _ (by unfold rdf; omega)]; exact a3, fun j hj => by rw [e _ _ (by unfold rdf; omega)]; exact a4 j hj, fun k hk j hj => by rw [e _ _ (by unfold rdf; omega)]; exact a5 k hk j hj, fun k hk j hj => by rw [e _ _ (by unfold rdf; omega)]; exact a6 k hk j hj⟩
def CRD (μ μ' : XM) (n : Nat) (tb : Nat → Nat) (r : Nat ⊕ (Nat × HT)) : Prop := fr hzf μ μ' ∧ match r with
  | .inl q => xI μ' 547 11 = w q
  | .inr u => xI μ' 547 11 = w (-1) ∧ RT μ' n tb u.1 ∧ HR μ' u.2
theorem hzf_d {c j : Nat} (h : rdf c j) : hzf c j := Or.inl h
theorem bsum_lbx (bx : Nat → Nat → Int) : ∀ i, bsum (lbx bx) 1 i = bsum bx 1 i
  | 0 => rfl
  | i + 1 => by
    unfold bsum
    rw [bsum_lbx bx i, lbx_o bx i 1 (by omega)]
theorem RT.fd {μ : XM} {n : Nat} {tb : Nat → Nat} {p : Nat} (h : RT μ n tb p) {k : Nat} (hk : k = 26 ∨ k = 27 ∨ k = 29) (v : Int32) : RT (sI μ 547 k v) n tb p := h.frm (F := fun c j => c = 547 ∧ j = k) (fr.sI (F := fun c j => c = 547 ∧ j = k) (a := 547) (k := k) μ v ⟨rfl, rfl⟩) (fun k' v e => by
  rintro ⟨-, rfl⟩
  rcases hk with rfl | rfl | rfl <;> cases e) (fun c j hc => by omega) (fun j => by omega) (fun j hj => by omega)
section HCM
variable {Γ : XG} {d n p : Nat} {tb : Nat → Nat} {μ : XM} {X : HT} {Q : Option Value → XM → Prop}
theorem clause_52 (hd : 1 ≤ d) (h : RT μ n tb p) (h11 : xI μ 547 11 = w (-1)) {x1 : Int32} (hQ : ∀ μ', fr rdf μ μ' → xI μ' 547 11 = w p → Q none μ') : G Γ m_MO_readClause (d + 1) (0, 0) Q 52 [.ref 547, .int x1] [] μ := by
  refine B_MO_readClause_52 h.1.o (h.1.r 22 556 rfl) (h.1.r 21 555 rfl) (h.1.r 19 553 rfl) ?_
  refine ⟨fun _ => ?_, fun z => absurd rfl z⟩
  refine (C_failsR hd h h11).conseq (KI.mono ?_)
  rintro r μ3 ⟨rfl, o3, f3, h3⟩
  exact hQ _ o3 f3
theorem clause_s (hf : FM Γ) (hd : 6 ≤ d) (h : RT μ n tb (sk tb n p)) (hp : p ≤ n) (h11 : xI μ 547 11 = w (-1)) (hX : HR μ X) (hl : lk tb n p = 115) (hQ : ∀ μ', CRD μ μ' n tb (bnd (itS tb n p 0) (fun v => (true, t1 X, t2 X, v, t4 X, t5 X))) → Q none μ') : G Γ m_MO_readClause (d + 1) (0, 0) Q 48 [.ref 547, .int (w 115)] [] μ := by
  have hn := h.n2
  have hlt : sk tb n p < n := lk_lt hl (by omega)
  refine B_MO_readClause_48 h.1.o (h.1.r 22 556 rfl) (h.1.r 21 555 rfl) (h.1.r 19 553 rfl) ?_
  refine ⟨fun z => absurd z (by decide), fun _ => ?_⟩
  rintro μ1 rfl
  rw [h.2.2.2.2.2.2.1, w_add, show ((sk tb n p : Nat) : Int) + 1 = ((sk tb n p + 1 : Nat) : Int) by omega]
  have hT := h.mv (q := sk tb n p + 1) (by omega)
  refine ⟨fun _ => ?_, fun z => absurd rfl z⟩
  rintro μ6 rfl
  have h6 := hT.1.fd (k := 29) (by omega) (w 1)
  have o6 : fr hzf μ (sI (sI μ 547 10 (w ((sk tb n p + 1 : Nat) : Int))) 547 29 (w 1)) := (hT.2.wide (fun _ _ => hzf_d)).trans (fr.sI (F := hzf) (a := 547) (k := 29) _ _ (Or.inr (by omega)))
  have f6 : xI (sI (sI μ 547 10 (w ((sk tb n p + 1 : Nat) : Int))) 547 29 (w 1)) 547 11 = w (-1) := by rw [xI_sI, if_neg (by omega), xI_sI, if_neg (by omega)]; exact h11
  have u6 : ∀ c j, ¬ (c = 547 ∧ (j = 10 ∨ j = 29)) → xI (sI (sI μ 547 10 (w ((sk tb n p + 1 : Nat) : Int))) 547 29 (w 1)) c j = xI μ c j := fun c j hc => by rw [xI_sI, if_neg (by omega), xI_sI, if_neg (by omega)]
  have g6 : xI (sI (sI μ 547 10 (w ((sk tb n p + 1 : Nat) : Int))) 547 29 (w 1)) 547 29 = w 1 := by rw [xI_sI, if_pos ⟨rfl, rfl⟩]
  generalize sI (sI μ 547 10 (w ((sk tb n p + 1 : Nat) : Int))) 547 29 (w 1) = μ6 at *
  refine (C_readItemsM (S := 0) (a := 553) (o := 0) hf (by omega) (Or.inl ⟨rfl, rfl, rfl⟩) h6 f6).conseq (KV.mono ?_)
  rintro μ7 ⟨o7, -, r7⟩
  refine hQ _ ⟨o6.trans (o7.wide (fun c j z => by unfold rif at z; unfold hzf; rcases z with z | z; exact Or.inl z; exact Or.inr (by omega))), ?_⟩
  have e7 : ∀ c j, ¬ rdf c j → ¬ c = 553 → xI μ7 c j = xI μ6 c j := fun c j z1 z2 => (o7.1 c j (fun z => z.elim z1 z2)).1
  have ei : itS tb n p 0 = itF tb n 0 6 (sk tb n p + 1) (fun _ => false) (hus 0) := rfl
  rw [ei]
  revert r7
  generalize itF tb n 0 6 (sk tb n p + 1) (fun _ => false) (hus 0) = r
  intro r7
  obtain ⟨b1, b2, b3, b4, b5, b6⟩ := hX
  match r, r7 with
  | .inl q, r7 => exact r7
  | .inr u, ⟨r1, r2, r3⟩ =>
    refine ⟨r1, r2, ?_, ?_, ?_, fun j hj => ?_, fun k hk j hj => ?_, fun k hk j hj => ?_⟩
    · rw [e7 _ _ (by unfold rdf; omega) (by omega), u6 _ _ (by omega)]; exact b1
    · rw [e7 _ _ (by unfold rdf; omega) (by omega), u6 _ _ (by omega)]; exact b2
    · rw [e7 _ _ (by unfold rdf; omega) (by omega)]; exact g6
    · have := r3 j hj
      rwa [Nat.zero_add] at this
    · rw [e7 _ _ (by unfold rdf; omega) (by omega), u6 _ _ (by omega)]; exact b5 k hk j hj
    · rw [e7 _ _ (by unfold rdf; omega) (by omega), u6 _ _ (by omega)]; exact b6 k hk j hj
theorem clause_k (hf : FM Γ) (hd : 6 ≤ d) (h : RT μ n tb (sk tb n p)) (hp : p ≤ n) (h11 : xI μ 547 11 = w (-1)) (hX : HR μ X) (hl : lk tb n p = 107) (h6 : t1 X < 6) (hQ : ∀ μ', CRD μ μ' n tb (bnd (itS tb n p 1) (fun v => (t0 X, t1 X + 1, t2 X, t3 X, upk (t4 X) (t1 X) v, t5 X))) → Q none μ') : G Γ m_MO_readClause (d + 1) (0, 0) Q 48 [.ref 547, .int (w 107)] [] μ := by
  have hn := h.n2
  have hlt : sk tb n p < n := lk_lt hl (by omega)
  obtain ⟨b1, b2, b3, b4, b5, b6⟩ := hX
  refine B_MO_readClause_48 h.1.o (h.1.r 22 556 rfl) (h.1.r 21 555 rfl) (h.1.r 19 553 rfl) ?_
  refine ⟨fun z => absurd z (by decide), fun _ => ?_⟩
  rintro μ1 rfl
  rw [h.2.2.2.2.2.2.1, w_add, show ((sk tb n p : Nat) : Int) + 1 = ((sk tb n p + 1 : Nat) : Int) by omega]
  have hT := h.mv (q := sk tb n p + 1) (by omega)
  refine ⟨fun z => absurd z (by decide), fun _ => ⟨fun _ => ?_, fun z => absurd rfl z⟩⟩
  rintro μ6 rfl
  have g0 : xI (sI μ 547 10 (w ((sk tb n p + 1 : Nat) : Int))) 547 26 = w (t1 X) := by rw [xI_sI, if_neg (by omega)]; exact b1
  rw [g0, w_add, show ((t1 X : Nat) : Int) + 1 = ((t1 X + 1 : Nat) : Int) by omega]
  have h6 := hT.1.fd (k := 26) (by omega) (w ((t1 X + 1 : Nat) : Int))
  have o6 : fr hzf μ (sI (sI μ 547 10 (w ((sk tb n p + 1 : Nat) : Int))) 547 26 (w ((t1 X + 1 : Nat) : Int))) := (hT.2.wide (fun _ _ => hzf_d)).trans (fr.sI (F := hzf) (a := 547) (k := 26) _ _ (Or.inr (by omega)))
  have f6 : xI (sI (sI μ 547 10 (w ((sk tb n p + 1 : Nat) : Int))) 547 26 (w ((t1 X + 1 : Nat) : Int))) 547 11 = w (-1) := by rw [xI_sI, if_neg (by omega), xI_sI, if_neg (by omega)]; exact h11
  have u6 : ∀ c j, ¬ (c = 547 ∧ (j = 10 ∨ j = 26)) → xI (sI (sI μ 547 10 (w ((sk tb n p + 1 : Nat) : Int))) 547 26 (w ((t1 X + 1 : Nat) : Int))) c j = xI μ c j := fun c j hc => by rw [xI_sI, if_neg (by omega), xI_sI, if_neg (by omega)]
  have g6 : xI (sI (sI μ 547 10 (w ((sk tb n p + 1 : Nat) : Int))) 547 26 (w ((t1 X + 1 : Nat) : Int))) 547 26 = w ((t1 X + 1 : Nat) : Int) := by rw [xI_sI, if_pos ⟨rfl, rfl⟩]
  generalize sI (sI μ 547 10 (w ((sk tb n p + 1 : Nat) : Int))) 547 26 (w ((t1 X + 1 : Nat) : Int)) = μ6 at *
  rw [g6, w_sub, w_mul, show 5 * (((t1 X + 1 : Nat) : Int) - 1) = ((5 * t1 X : Nat) : Int) by omega]
  refine (C_readItemsM (S := 1) (a := 555) (o := 5 * t1 X) hf (by omega) (Or.inr (Or.inl ⟨rfl, by omega, rfl⟩)) h6 f6).conseq (KV.mono ?_)
  rintro μ7 ⟨o7, k7, r7⟩
  refine hQ _ ⟨o6.trans (o7.wide (fun c j z => by unfold rif at z; unfold hzf; rcases z with z | z; exact Or.inl z; exact Or.inr (by omega))), ?_⟩
  have e7 : ∀ c j, ¬ rdf c j → ¬ c = 555 → xI μ7 c j = xI μ6 c j := fun c j z1 z2 => (o7.1 c j (fun z => z.elim z1 z2)).1
  have ei : itS tb n p 1 = itF tb n 1 6 (sk tb n p + 1) (fun _ => false) (hus 1) := rfl
  rw [ei]
  revert r7
  generalize itF tb n 1 6 (sk tb n p + 1) (fun _ => false) (hus 1) = r
  intro r7
  match r, r7 with
  | .inl q, r7 => exact r7
  | .inr u, ⟨r1, r2, r3⟩ =>
    refine ⟨r1, r2, ?_, ?_, ?_, fun j hj => ?_, fun k hk j hj => ?_, fun k hk j hj => ?_⟩
    · rw [e7 _ _ (by unfold rdf; omega) (by omega)]; exact g6
    · rw [e7 _ _ (by unfold rdf; omega) (by omega), u6 _ _ (by omega)]; exact b2
    · rw [e7 _ _ (by unfold rdf; omega) (by omega), u6 _ _ (by omega)]; exact b3
    · rw [e7 _ _ (by unfold rdf; omega) (by omega), u6 _ _ (by omega)]; exact b4 j hj
    · have hk : k < t1 X + 1 := hk
      show xI μ7 555 (5 * k + j) = w (upk (t4 X) (t1 X) u.2 k j)
      unfold upk
      by_cases e : k = t1 X
      · rw [if_pos e, e]
        exact r3 j hj
      · rw [if_neg e, k7 _ (by omega), u6 _ _ (by omega)]
        exact b5 k (by omega) j hj
    · rw [e7 _ _ (by unfold rdf; omega) (by omega), u6 _ _ (by omega)]; exact b6 k hk j hj
theorem clause_b (hf : FM Γ) (hd : 6 ≤ d) (h : RT μ n tb (sk tb n p)) (hp : p ≤ n) (h11 : xI μ 547 11 = w (-1)) (hX : HR μ X) (hl : lk tb n p = 98) (h6 : t2 X < 8) (hQ : ∀ μ', CRD μ μ' n tb (bnd (itS tb n p 2) (fun v => (t0 X, t1 X, t2 X + 1, t3 X, t4 X, upk (t5 X) (t2 X) v))) → Q none μ') : G Γ m_MO_readClause (d + 1) (0, 0) Q 48 [.ref 547, .int (w 98)] [] μ := by
  have hn := h.n2
  have hlt : sk tb n p < n := lk_lt hl (by omega)
  obtain ⟨b1, b2, b3, b4, b5, b6⟩ := hX
  refine B_MO_readClause_48 h.1.o (h.1.r 22 556 rfl) (h.1.r 21 555 rfl) (h.1.r 19 553 rfl) ?_
  refine ⟨fun z => absurd z (by decide), fun _ => ?_⟩
  rintro μ1 rfl
  rw [h.2.2.2.2.2.2.1, w_add, show ((sk tb n p : Nat) : Int) + 1 = ((sk tb n p + 1 : Nat) : Int) by omega]
  have hT := h.mv (q := sk tb n p + 1) (by omega)
  refine ⟨fun z => absurd z (by decide), fun _ => ⟨fun z => absurd z (by decide), fun _ => ?_⟩⟩
  rintro μ6 rfl
  have g0 : xI (sI μ 547 10 (w ((sk tb n p + 1 : Nat) : Int))) 547 27 = w (t2 X) := by rw [xI_sI, if_neg (by omega)]; exact b2
  rw [g0, w_add, show ((t2 X : Nat) : Int) + 1 = ((t2 X + 1 : Nat) : Int) by omega]
  have h6 := hT.1.fd (k := 27) (by omega) (w ((t2 X + 1 : Nat) : Int))
  have o6 : fr hzf μ (sI (sI μ 547 10 (w ((sk tb n p + 1 : Nat) : Int))) 547 27 (w ((t2 X + 1 : Nat) : Int))) := (hT.2.wide (fun _ _ => hzf_d)).trans (fr.sI (F := hzf) (a := 547) (k := 27) _ _ (Or.inr (by omega)))
  have f6 : xI (sI (sI μ 547 10 (w ((sk tb n p + 1 : Nat) : Int))) 547 27 (w ((t2 X + 1 : Nat) : Int))) 547 11 = w (-1) := by rw [xI_sI, if_neg (by omega), xI_sI, if_neg (by omega)]; exact h11
  have u6 : ∀ c j, ¬ (c = 547 ∧ (j = 10 ∨ j = 27)) → xI (sI (sI μ 547 10 (w ((sk tb n p + 1 : Nat) : Int))) 547 27 (w ((t2 X + 1 : Nat) : Int))) c j = xI μ c j := fun c j hc => by rw [xI_sI, if_neg (by omega), xI_sI, if_neg (by omega)]
  have g6 : xI (sI (sI μ 547 10 (w ((sk tb n p + 1 : Nat) : Int))) 547 27 (w ((t2 X + 1 : Nat) : Int))) 547 27 = w ((t2 X + 1 : Nat) : Int) := by rw [xI_sI, if_pos ⟨rfl, rfl⟩]
  generalize sI (sI μ 547 10 (w ((sk tb n p + 1 : Nat) : Int))) 547 27 (w ((t2 X + 1 : Nat) : Int)) = μ6 at *
  rw [g6, w_sub, w_mul, show 4 * (((t2 X + 1 : Nat) : Int) - 1) = ((4 * t2 X : Nat) : Int) by omega]
  refine (C_readItemsM (S := 2) (a := 556) (o := 4 * t2 X) hf (by omega) (Or.inr (Or.inr ⟨rfl, by omega, rfl⟩)) h6 f6).conseq (KV.mono ?_)
  rintro μ7 ⟨o7, k7, r7⟩
  refine hQ _ ⟨o6.trans (o7.wide (fun c j z => by unfold rif at z; unfold hzf; rcases z with z | z; exact Or.inl z; exact Or.inr (by omega))), ?_⟩
  have e7 : ∀ c j, ¬ rdf c j → ¬ c = 556 → xI μ7 c j = xI μ6 c j := fun c j z1 z2 => (o7.1 c j (fun z => z.elim z1 z2)).1
  have ei : itS tb n p 2 = itF tb n 2 6 (sk tb n p + 1) (fun _ => false) (hus 2) := rfl
  rw [ei]
  revert r7
  generalize itF tb n 2 6 (sk tb n p + 1) (fun _ => false) (hus 2) = r
  intro r7
  match r, r7 with
  | .inl q, r7 => exact r7
  | .inr u, ⟨r1, r2, r3⟩ =>
    refine ⟨r1, r2, ?_, ?_, ?_, fun j hj => ?_, fun k hk j hj => ?_, fun k hk j hj => ?_⟩
    · rw [e7 _ _ (by unfold rdf; omega) (by omega), u6 _ _ (by omega)]; exact b1
    · rw [e7 _ _ (by unfold rdf; omega) (by omega)]; exact g6
    · rw [e7 _ _ (by unfold rdf; omega) (by omega), u6 _ _ (by omega)]; exact b3
    · rw [e7 _ _ (by unfold rdf; omega) (by omega), u6 _ _ (by omega)]; exact b4 j hj
    · rw [e7 _ _ (by unfold rdf; omega) (by omega), u6 _ _ (by omega)]; exact b5 k hk j hj
    · have hk : k < t2 X + 1 := hk
      show xI μ7 556 (4 * k + j) = w (upk (t5 X) (t2 X) u.2 k j)
      unfold upk
      by_cases e : k = t2 X
      · rw [if_pos e, e]
        exact r3 j hj
      · rw [if_neg e, k7 _ (by omega), u6 _ _ (by omega)]
        exact b6 k (by omega) j hj
theorem C_readClauseM (hf : FM Γ) (hd : 7 ≤ d) (h : RT μ n tb p) (h11 : xI μ 547 11 = w (-1)) (hX : HR μ X) (hI : HI X) : Call Γ m_MO_readClause d [.ref 547] μ (KV (fun μ' => CRD μ μ' n tb (clF tb n p X))) := by
  obtain ⟨d, rfl⟩ : ∃ e, d = e + 1 := ⟨d - 1, by omega⟩
  have hn := h.n2
  have hp := h.2.2.2.2.2.2.2
  have hb := lk_bd (n := n) (p := p) (fun j hj => (h.b hj).2.2)
  refine Call.of ok_MO_readClause (Nat.le_of_ble_eq_true rfl) (B_MO_readClause_0 h.1.o ?_)
  refine (C_lookR (by omega) h).conseq (KI.mono ?_)
  rintro r μ1 ⟨rfl, o1, f1, h1⟩
  rw [h11] at f1
  have hX1 := hX.rd o1
  have hi1 := hI.1
  have hi2 := hI.2.1
  have a29 : xI μ1 547 29 = w 0 ↔ t0 X = false := by
    rw [hX1.2.2.1]
    unfold bit01
    cases t0 X <;> decide
  have tw : ∀ {r : Nat ⊕ (Nat × HT)} {μ'}, CRD μ1 μ' n tb r → CRD μ μ' n tb r := fun z => ⟨(o1.wide (fun _ _ => hzf_d)).trans z.1, z.2⟩
  have rest : ¬ (lk tb n p = 115 ∧ t0 X = false) → G Γ m_MO_readClause (d + 1) (0, 0) (KV (fun μ' => CRD μ μ' n tb (clF tb n p X))) 18 [.ref 547, .int (w (lk tb n p))] [] μ1 := by
    intro c1
    have e1 : clF tb n p X = if lk tb n p = 107 ∧ t1 X < 6 then bnd (itS tb n p 1) (fun v => (t0 X, t1 X + 1, t2 X, t3 X, upk (t4 X) (t1 X) v, t5 X))
      else if lk tb n p = 98 ∧ t2 X < 8 then bnd (itS tb n p 2) (fun v => (t0 X, t1 X, t2 X + 1, t3 X, t4 X, upk (t5 X) (t2 X) v))
      else .inl (sk tb n p) := if_neg c1
    have rest2 : ¬ (lk tb n p = 107 ∧ t1 X < 6) → G Γ m_MO_readClause (d + 1) (0, 0) (KV (fun μ' => CRD μ μ' n tb (clF tb n p X))) 33 [.ref 547, .int (w (lk tb n p))] [] μ1 := by
      intro c2
      rw [if_neg c2] at e1
      have f52 : ¬ (lk tb n p = 98 ∧ t2 X < 8) → G Γ m_MO_readClause (d + 1) (0, 0) (KV (fun μ' => CRD μ μ' n tb (clF tb n p X))) 52 [.ref 547, .int (w (lk tb n p))] [] μ1 := by
        intro c3
        rw [if_neg c3] at e1
        refine clause_52 (by omega) h1 f1 (fun μ' o5 f5 => ⟨rfl, ?_⟩)
        rw [e1]
        exact tw ⟨o5.wide (fun _ _ => hzf_d), f5⟩
      refine B_MO_readClause_33 h1.1.o ?_
      rw [hX1.2.1, w_inj (by omega) (by omega) (by omega) (by omega), w_lt (by omega) (by omega) (by omega) (by omega)]
      refine ⟨fun z => ⟨fun z2 => ?_, fun z2 => f52 (fun y => z2 (by omega))⟩, fun z => f52 (fun y => z y.1)⟩
      rw [z]
      rw [if_pos ⟨z, by omega⟩] at e1
      refine clause_b hf (by omega) h1 hp f1 hX1 z (by omega) (fun μ' g => ⟨rfl, ?_⟩)
      rw [e1]
      exact tw g
    refine B_MO_readClause_18 h1.1.o ?_
    rw [hX1.1, w_inj (by omega) (by omega) (by omega) (by omega), w_lt (by omega) (by omega) (by omega) (by omega)]
    refine ⟨fun z => ⟨fun z2 => ?_, fun z2 => rest2 (fun y => z2 (by omega))⟩, fun z => rest2 (fun y => z y.1)⟩
    rw [z]
    rw [if_pos ⟨z, by omega⟩] at e1
    refine clause_k hf (by omega) h1 hp f1 hX1 z (by omega) (fun μ' g => ⟨rfl, ?_⟩)
    rw [e1]
    exact tw g
  rw [w_inj (by omega) (by omega) (by omega) (by omega), a29]
  refine ⟨fun z => ⟨fun z2 => ?_, fun z2 => rest (fun y => z2 y.2)⟩, fun z => rest (fun y => z y.1)⟩
  rw [z]
  refine clause_s hf (by omega) h1 hp f1 hX1 z (fun μ' g => ⟨rfl, ?_⟩)
  have e1 : clF tb n p X = bnd (itS tb n p 0) (fun v => (true, t1 X, t2 X, v, t4 X, t5 X)) := if_pos ⟨z, z2⟩
  rw [e1]
  exact tw g
end HCM
