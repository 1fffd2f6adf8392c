/-! A CLAUSE, A HOUSE, in the class -/
theorem PFcg {μ : XM} {a s m : Nat} {bx by2 : Nat → Nat → Int} (h : PF μ a s bx m) (he : ∀ i, i < s → ∀ t, t < 4 → bx i t = by2 i t) : PF μ a s by2 m := by
  obtain ⟨a1, a2, a3, a4, a5, a6⟩ := h
  refine ⟨a1, a2, a3, a4, a5, fun i hi => ?_⟩
  have := a6 i hi
  unfold BB at *
  rw [← he i hi 0 (by omega), ← he i hi 1 (by omega), ← he i hi 2 (by omega), ← he i hi 3 (by omega)]
  exact this
def hcq (h c : Nat) : Prop := c = 33 ∨ (h ≤ c ∧ c ≤ h + 14)
/-- the house that is being read, at h -/
def HF (μ : XM) (h : Nat) (X : HT) : Prop := xI μ h 4 = w (t1 X) ∧ xI μ h 5 = w (bit01 (t0 X)) ∧ (∀ j, j < 4 → xI μ (h + 1) j = w (t3 X j)) ∧ (∀ k, k < t1 X → ∀ j, j < 5 → xI μ (h + 3 + k) j = w (t4 X k j)) ∧ PF μ (h + 10) (t2 X) (lbx (t5 X)) 0
theorem HF.c33 {μ μ' : XM} {h : Nat} {X : HT} (hX : HF μ h X) (hh : HS h) (hI : t1 X ≤ 6) (ho : fof (fun c => c = 33) μ μ') : HF μ' h X := by
  obtain ⟨a1, a2, a3, a4, a5⟩ := hX
  unfold HS at hh
  exact ⟨by rw [ho.1 h (by omega)]; exact a1, by rw [ho.1 h (by omega)]; exact a2, fun j hj => by rw [ho.1 (h + 1) (by omega)]; exact a3 j hj, fun k hk j hj => by rw [ho.1 (h + 3 + k) (by omega)]; exact a4 k hk j hj, a5.fof ho (fun c c1 c2 => by omega)⟩
def CRF (μ μ' : XM) (h n : Nat) (tb : Nat → Nat) (r : Nat ⊕ (Nat × HT)) (x : Int32) : Prop := fof (hcq h) μ μ' ∧ xI μ' 33 1 = xI μ 33 1 ∧ match r with
  | .inl q => x = w 0 ∧ xI μ' 33 3 = w q
  | .inr u => x = w 1 ∧ TP μ' n tb u.1 ∧ HF μ' h u.2
theorem f33q (h : Nat) (μ : XM) (k : Nat) (v : Int32) : fof (hcq h) μ (sI μ 33 k v) := fof.sI (P := hcq h) μ k v (Or.inl rfl)
theorem f33e (μ : XM) (k : Nat) (v : Int32) : fof (fun c => c = 33) μ (sI μ 33 k v) := fof.sI (P := fun c => c = 33) μ k v rfl
theorem fof.sC {P : Nat → Prop} {c : Nat} (μ : XM) (a n : Nat) (h : P c) : fof P μ (sC μ a c n) := ⟨fun q hq j => by rw [xI_sC, if_neg (by rintro ⟨rfl, -⟩; exact hq h)], rfl, rfl, rfl⟩
theorem TP_sC {μ : XM} {n q a c k : Nat} {tb : Nat → Nat} (h : TP μ n tb q) (hc : 35 ≤ c) : TP (sC μ a c k) n tb q := by
  obtain ⟨a1, a2, a3, a4, a5, a6, a7⟩ := h
  exact ⟨by rw [xR_sC]; exact a1, a2, by rw [xI_sC, if_neg (by omega)]; exact a3, a4, fun j hj => by rw [xI_sC, if_neg (by omega)]; exact a5 j hj, by rw [xI_sC, if_neg (by omega)]; exact a6, a7⟩
theorem HI.LF {X : HT} (h : HI X) : t1 X ≤ 6 := h.1
section HCP
variable {Γ : XG} {d h n p : Nat} {tb : Nat → Nat} {μ : XM} {X : HT} {Q : Option Value → XM → Prop}
theorem clauseF_s (hd : 2 ≤ d) (hh : HH μ h) (hT : TP μ n tb (sk tb n p)) (hp : p ≤ n) (hS : ST μ) (hX : HF μ h X) (hI : HI X) (hl : lk tb n p = 115) (h0 : t0 X = false) {K : Option Value → XM → Prop} (hQ : ∀ x μ', CRF μ μ' h n tb (bnd (itS tb n p 0) (fun v => (true, t1 X, t2 X, v, t4 X, t5 X))) x → K (some (.int x)) μ') :
    Call Γ m_Ta_pass (d + 1) [.ref 33] μ (KV (fun μ2 => ∀ μ3, μ3 = sI μ2 h 5 (w 1) → ∃ a4, xR μ3 h 0 = some a4 ∧ Call Γ m_Ho_readItems (d + 1) [.ref h, .ref 33, .ref 4, .ref 5, .ref 6, .ref a4] μ3 (KI (fun v5 μ5 => ((v5 = w 0 ∨ v5 = w 1) ∧ K (some (.int v5)) μ5))))) := by
  have hn := hT.2.2.2.1
  have hlt : sk tb n p < n := lk_lt hl (by omega)
  have hs := hh.1.s
  have hhs := hh.1
  unfold HS at hhs
  have i1 := hI.1
  have e3 := hI.2.2.2.2.2 h0
  obtain ⟨b1, b2, b3, b4, b5⟩ := hX
  refine (C_pass (by omega) hT).conseq (KV.mono ?_)
  rintro μ2 rfl
  rintro μ3 rfl
  have hT3 : TP (sI (sI μ 33 2 (w ((sk tb n p + 1 : Nat) : Int))) h 5 (w 1)) n tb (sk tb n p + 1) := TP_ar (hT.mv (by omega)) (by omega)
  have o3 : fof (hcq h) μ (sI (sI μ 33 2 (w ((sk tb n p + 1 : Nat) : Int))) h 5 (w 1)) := (f33q h _ _ _).trans (fof.sI (P := hcq h) _ _ _ (Or.inr (by omega)))
  have x3 : xI (sI (sI μ 33 2 (w ((sk tb n p + 1 : Nat) : Int))) h 5 (w 1)) 33 1 = xI μ 33 1 := e33 (e33 rfl (by omega)) (by omega)
  have u3 : ∀ c j, ¬ c = 33 → ¬ (c = h ∧ j = 5) → xI (sI (sI μ 33 2 (w ((sk tb n p + 1 : Nat) : Int))) h 5 (w 1)) c j = xI μ c j := fun c j z1 z2 => by rw [xI_sI, if_neg z2, xI_sI, if_neg (fun z => z1 z.1)]
  have g3 : xI (sI (sI μ 33 2 (w ((sk tb n p + 1 : Nat) : Int))) h 5 (w 1)) h 5 = w 1 := by rw [xI_sI, if_pos ⟨rfl, rfl⟩]
  generalize sI (sI μ 33 2 (w ((sk tb n p + 1 : Nat) : Int))) h 5 (w 1) = μ3 at *
  have hh3 : HH μ3 h := hh.of o3.2.2.1 o3.2.2.2
  refine ⟨h + 1, hh3.2.2.1, ?_⟩
  refine (C_readItemsF (S := 0) (a := h + 1) (len := 4) (by omega) (by omega) hs.2.1 (by decide) (by omega) (v := hus 0) (fun k hk => by rw [u3 _ _ (by omega) (by omega), b3 k (by have : hln 0 = 4 := rfl; omega), e3]) hT3 (hS.fof o3 (fun c hc => by unfold hcq; omega))).conseq (KI.mono ?_)
  rintro x μ4 ⟨o4, x4, r4⟩
  have ei : itS tb n p 0 = itF tb n 0 6 (sk tb n p + 1) (fun _ => false) (hus 0) := rfl
  rw [ei] at hQ
  have oo : fof (hcq h) μ μ4 := o3.trans (o4.wide (fun c z => by unfold c3a at z; unfold hcq; omega))
  have u4 : ∀ c j, ¬ c = 33 → ¬ c = h + 1 → xI μ4 c j = xI μ3 c j := fun c j z1 z2 => o4.1 c (by unfold c3a; omega) j
  revert r4 hQ
  generalize itF tb n 0 6 (sk tb n p + 1) (fun _ => false) (hus 0) = r
  intro hQ r4
  match r, r4, hQ with
  | .inl q, r6, hQ =>
    obtain ⟨rfl, r7⟩ := r6
    exact ⟨Or.inl rfl, hQ _ _ ⟨oo, x4.trans x3, rfl, r7⟩⟩
  | .inr u, r6, hQ =>
    obtain ⟨rfl, r7, r5⟩ := r6
    refine ⟨Or.inr rfl, hQ _ _ ⟨oo, x4.trans x3, rfl, r7, ?_, ?_, fun j hj => r5 j hj, fun k hk j hj => ?_, ?_⟩⟩
    · rw [u4 _ _ (by omega) (by omega), u3 _ _ (by omega) (by omega)]; exact b1
    · rw [u4 _ _ (by omega) (by omega)]; exact g3
    · have hk : k < t1 X := hk
      rw [u4 _ _ (by omega) (by omega), u3 _ _ (by omega) (by omega)]; exact b4 k hk j hj
    · exact b5.of (fun c c1 c2 j => by rw [u4 _ _ (by omega) (by omega), u3 _ _ (by omega) (by omega)]) (o4.2.2.1.trans o3.2.2.1) (o4.2.2.2.trans o3.2.2.2)
theorem clauseF_k (hd : 2 ≤ d) (hh : HH μ h) (hT : TP μ n tb (sk tb n p)) (hp : p ≤ n) (hS : ST μ) (hX : HF μ h X) (hl : lk tb n p = 107) (h6 : t1 X < 6) {K : Option Value → XM → Prop} (hQ : ∀ x μ', CRF μ μ' h n tb (bnd (itS tb n p 1) (fun v => (t0 X, t1 X + 1, t2 X, t3 X, upk (t4 X) (t1 X) v, t5 X))) x → K (some (.int x)) μ') :
    Call Γ m_Ta_pass (d + 1) [.ref 33] μ (KV (fun μ1 => ∀ μ2, μ2 = sI μ1 h 4 ((xI μ1 h 4) + (w 1)) → ∃ a3, xR μ2 h 1 = some a3 ∧ inb μ2 8 a3 ((xI μ2 h 4) - (w 1)) ∧ ∃ a4, xR μ2 a3 ((xI μ2 h 4) - (w 1)).toNatClampNeg = some a4 ∧ ∃ n5, ar μ2 1 0 n5 ∧ cpo μ2 1 a4 n5 ∧ ∀ μ7, μ7 = sC μ2 1 a4 n5 → inb μ7 8 a3 ((xI μ7 h 4) - (w 1)) ∧ ∃ a8, xR μ7 a3 ((xI μ7 h 4) - (w 1)).toNatClampNeg = some a8 ∧ Call Γ m_Ho_readItems (d + 1) [.ref h, .ref 33, .ref 7, .ref 8, .ref 9, .ref a8] μ7 (KI (fun v9 μ9 => ((v9 = w 0 ∨ v9 = w 1) ∧ K (some (.int v9)) μ9))))) := by
  have hn := hT.2.2.2.1
  have hlt : sk tb n p < n := lk_lt hl (by omega)
  have hs := hh.1.s
  have hhs := hh.1
  unfold HS at hhs
  obtain ⟨b1, b2, b3, b4, b5⟩ := hX
  refine (C_pass (by omega) hT).conseq (KV.mono ?_)
  rintro μ2 rfl
  have g0 : xI (sI μ 33 2 (w ((sk tb n p + 1 : Nat) : Int))) h 4 = w (t1 X) := by rw [xI_sI, if_neg (by omega)]; exact b1
  rw [g0, w_add, show ((t1 X : Nat) : Int) + 1 = ((t1 X + 1 : Nat) : Int) by omega]
  rintro μ3 rfl
  have hT3 : TP (sI (sI μ 33 2 (w ((sk tb n p + 1 : Nat) : Int))) h 4 (w ((t1 X + 1 : Nat) : Int))) n tb (sk tb n p + 1) := TP_ar (hT.mv (by omega)) (by omega)
  have o3 : fof (hcq h) μ (sI (sI μ 33 2 (w ((sk tb n p + 1 : Nat) : Int))) h 4 (w ((t1 X + 1 : Nat) : Int))) := (f33q h _ _ _).trans (fof.sI (P := hcq h) _ _ _ (Or.inr (by omega)))
  have x3 : xI (sI (sI μ 33 2 (w ((sk tb n p + 1 : Nat) : Int))) h 4 (w ((t1 X + 1 : Nat) : Int))) 33 1 = xI μ 33 1 := e33 (e33 rfl (by omega)) (by omega)
  have u3 : ∀ c j, ¬ c = 33 → ¬ (c = h ∧ j = 4) → xI (sI (sI μ 33 2 (w ((sk tb n p + 1 : Nat) : Int))) h 4 (w ((t1 X + 1 : Nat) : Int))) c j = xI μ c j := fun c j z1 z2 => by rw [xI_sI, if_neg z2, xI_sI, if_neg (fun z => z1 z.1)]
  have g3 : xI (sI (sI μ 33 2 (w ((sk tb n p + 1 : Nat) : Int))) h 4 (w ((t1 X + 1 : Nat) : Int))) h 4 = w ((t1 X + 1 : Nat) : Int) := by rw [xI_sI, if_pos ⟨rfl, rfl⟩]
  generalize sI (sI μ 33 2 (w ((sk tb n p + 1 : Nat) : Int))) h 4 (w ((t1 X + 1 : Nat) : Int)) = μ3 at *
  have hh3 : HH μ3 h := hh.of o3.2.2.1 o3.2.2.2
  have hN3 := hh3.2.1
  have hS3 := hS.fof o3 (fun c hc => by unfold hcq; omega)
  have ek : (w (((t1 X + 1 : Nat) : Int) - 1)).toNatClampNeg = t1 X := by rw [w_cl (by omega) (by omega)]; omega
  have sk4 := hs.2.2.2.1 (t1 X) h6
  rw [g3, w_sub, ek]
  refine ⟨h + 2, hh3.2.2.2.1, inb_of hs.2.2.1 (by omega) hN3 (by omega) (by omega), h + 3 + t1 X, hh3.2.2.2.2.2.2.2 _ h6, 5, ar_of rfl (by omega) hN3, cpo_of (na := 5) rfl sk4 (by omega) (by omega) (by omega) hN3 (by omega) (by omega), ?_⟩
  rintro μ7 rfl
  have hT7 : TP (sC μ3 1 (h + 3 + t1 X) 5) n tb (sk tb n p + 1) := TP_sC hT3 (by omega)
  have o7 : fof (hcq h) μ (sC μ3 1 (h + 3 + t1 X) 5) := o3.trans (fof.sC (P := hcq h) _ _ _ (Or.inr (by omega)))
  have x7 : xI (sC μ3 1 (h + 3 + t1 X) 5) 33 1 = xI μ 33 1 := by rw [xI_sC, if_neg (by omega)]; exact x3
  have u7 : ∀ c j, ¬ c = 33 → ¬ (c = h ∧ j = 4) → ¬ c = h + 3 + t1 X → xI (sC μ3 1 (h + 3 + t1 X) 5) c j = xI μ c j := fun c j z1 z2 z3 => by rw [xI_sC, if_neg (fun z => z3 z.1), u3 c j z1 z2]
  have g7 : xI (sC μ3 1 (h + 3 + t1 X) 5) h 4 = w ((t1 X + 1 : Nat) : Int) := by rw [xI_sC, if_neg (by omega)]; exact g3
  have v7 : ∀ j, j < 5 → xI (sC μ3 1 (h + 3 + t1 X) 5) (h + 3 + t1 X) j = w (hus 1 j) := fun j hj => by rw [xI_sC, if_pos ⟨rfl, hj⟩]; exact hS3 1 j _ (stl 1 (by omega) j hj).2.2
  generalize sC μ3 1 (h + 3 + t1 X) 5 = μ7 at *
  have hh7 : HH μ7 h := hh.of o7.2.2.1 o7.2.2.2
  rw [g7, w_sub, ek]
  refine ⟨inb_of hs.2.2.1 (by omega) hh7.2.1 (by omega) (by omega), h + 3 + t1 X, hh7.2.2.2.2.2.2.2 _ h6, ?_⟩
  refine (C_readItemsF (S := 1) (a := h + 3 + t1 X) (len := 5) (by omega) (by omega) sk4 (by decide) (by omega) (v := hus 1) (fun k hk => v7 k hk) hT7 (hS.fof o7 (fun c hc => by unfold hcq; omega))).conseq (KI.mono ?_)
  rintro x μ4 ⟨o4, x4, r4⟩
  have ei : itS tb n p 1 = itF tb n 1 6 (sk tb n p + 1) (fun _ => false) (hus 1) := rfl
  rw [ei] at hQ
  have oo : fof (hcq h) μ μ4 := o7.trans (o4.wide (fun c z => by unfold c3a at z; unfold hcq; omega))
  have u4 : ∀ c j, ¬ c = 33 → ¬ c = h + 3 + t1 X → xI μ4 c j = xI μ7 c j := fun c j z1 z2 => o4.1 c (by unfold c3a; omega) j
  revert r4 hQ
  generalize itF tb n 1 6 (sk tb n p + 1) (fun _ => false) (hus 1) = r
  intro hQ r4
  match r, r4, hQ with
  | .inl q, r6, hQ =>
    obtain ⟨rfl, r7⟩ := r6
    exact ⟨Or.inl rfl, hQ _ _ ⟨oo, x4.trans x7, rfl, r7⟩⟩
  | .inr u, r6, hQ =>
    obtain ⟨rfl, r7, r5⟩ := r6
    refine ⟨Or.inr rfl, hQ _ _ ⟨oo, x4.trans x7, rfl, r7, ?_, ?_, fun j hj => ?_, fun k hk j hj => ?_, ?_⟩⟩
    · rw [u4 _ _ (by omega) (by omega)]; exact g7
    · rw [u4 _ _ (by omega) (by omega), u7 _ _ (by omega) (by omega) (by omega)]; exact b2
    · rw [u4 _ _ (by omega) (by omega), u7 _ _ (by omega) (by omega) (by omega)]; exact b3 j hj
    · have hk : k < t1 X + 1 := hk
      show xI μ4 (h + 3 + k) j = w (upk (t4 X) (t1 X) u.2 k j)
      unfold upk
      by_cases e : k = t1 X
      · rw [if_pos e, e]
        exact r5 j hj
      · rw [if_neg e, u4 _ _ (by omega) (by omega), u7 _ _ (by omega) (by omega) (by omega)]
        exact b4 k (by omega) j hj
    · exact b5.of (fun c c1 c2 j => by rw [u4 _ _ (by omega) (by omega), u7 _ _ (by omega) (by omega) (by omega)]) (o4.2.2.1.trans o7.2.2.1) (o4.2.2.2.trans o7.2.2.2)
theorem clauseF_b (hd : 2 ≤ d) (hh : HH μ h) (hT : TP μ n tb (sk tb n p)) (hp : p ≤ n) (hS : ST μ) (hX : HF μ h X) (hI : HI X) (hb : ∀ j, j < n → 1 ≤ tb j ∧ tb j ≤ 255) (hl : lk tb n p = 98) (h8 : t2 X < 8) {K : Option Value → XM → Prop} (hQ : ∀ x μ', CRF μ μ' h n tb (bnd (itS tb n p 2) (fun v => (t0 X, t1 X, t2 X + 1, t3 X, t4 X, upk (t5 X) (t2 X) v))) x → K (some (.int x)) μ') :
    Call Γ m_Ta_pass (d + 1) [.ref 33] μ (KV (fun μ2 => ∃ a3, xR μ2 h 2 = some a3 ∧ ∃ n4, ar μ2 2 0 n4 ∧ cpo μ2 2 a3 n4 ∧ ∀ μ6, μ6 = sC μ2 2 a3 n4 → Call Γ m_Ho_readItems (d + 1) [.ref h, .ref 33, .ref 10, .ref 11, .ref 12, .ref a3] μ6 (KI (fun v7 μ7 => ((v7 = w 0 → K (some (.int (w 0))) μ7) ∧ (¬ v7 = w 0 → xR μ7 h 3 = some (h + 10) ∧ xR μ7 h 2 = some a3 ∧ inb μ7 0 a3 (w 0) ∧ inb μ7 0 a3 (w 1) ∧ inb μ7 0 a3 (w 2) ∧ inb μ7 0 a3 (w 3) ∧ ((xI μ7 a3 (w 3).toNatClampNeg = w 1 → Call Γ m_Pi_push (d + 1) [.ref (h + 10), .int (xI μ7 a3 (w 0).toNatClampNeg), .int (xI μ7 a3 (w 1).toNatClampNeg), .int (xI μ7 a3 (w 2).toNatClampNeg), .int (w 0)] μ7 (KV (fun μ15 => K (some (.int (w 1))) μ15))) ∧ (¬ xI μ7 a3 (w 3).toNatClampNeg = w 1 → Call Γ m_Pi_push (d + 1) [.ref (h + 10), .int (xI μ7 a3 (w 0).toNatClampNeg), .int (xI μ7 a3 (w 1).toNatClampNeg), .int (xI μ7 a3 (w 2).toNatClampNeg), .int (w (-1))] μ7 (KV (fun μ14 => K (some (.int (w 1))) μ14)))))))))) := by
  have hn := hT.2.2.2.1
  have hlt : sk tb n p < n := lk_lt hl (by omega)
  have hs := hh.1.s
  have hhs := hh.1
  have i1 := hI.1
  unfold HS at hhs
  obtain ⟨b1, b2, b3, b4, b5⟩ := hX
  refine (C_pass (by omega) hT).conseq (KV.mono ?_)
  rintro μ3 rfl
  have hT3 : TP (sI μ 33 2 (w ((sk tb n p + 1 : Nat) : Int))) n tb (sk tb n p + 1) := hT.mv (by omega)
  have o3 : fof (hcq h) μ (sI μ 33 2 (w ((sk tb n p + 1 : Nat) : Int))) := f33q h _ _ _
  have x3 : xI (sI μ 33 2 (w ((sk tb n p + 1 : Nat) : Int))) 33 1 = xI μ 33 1 := e33 rfl (by omega)
  have u3 : ∀ c j, ¬ c = 33 → xI (sI μ 33 2 (w ((sk tb n p + 1 : Nat) : Int))) c j = xI μ c j := fun c j z1 => by rw [xI_sI, if_neg (fun z => z1 z.1)]
  generalize sI μ 33 2 (w ((sk tb n p + 1 : Nat) : Int)) = μ3 at *
  have hh3 : HH μ3 h := hh.of o3.2.2.1 o3.2.2.2
  have hN3 := hh3.2.1
  have hS3 := hS.fof o3 (fun c hc => by unfold hcq; omega)
  refine ⟨h + 9, hh3.2.2.2.2.1, 4, ar_of rfl (by omega) hN3, cpo_of (na := 4) rfl hs.2.2.2.2 (by omega) (by omega) (by omega) hN3 (by omega) (by omega), ?_⟩
  rintro μ7 rfl
  have hT7 : TP (sC μ3 2 (h + 9) 4) n tb (sk tb n p + 1) := TP_sC hT3 (by omega)
  have o7 : fof (hcq h) μ (sC μ3 2 (h + 9) 4) := o3.trans (fof.sC (P := hcq h) _ _ _ (Or.inr (by omega)))
  have x7 : xI (sC μ3 2 (h + 9) 4) 33 1 = xI μ 33 1 := by rw [xI_sC, if_neg (by omega)]; exact x3
  have u7 : ∀ c j, ¬ c = 33 → ¬ c = h + 9 → xI (sC μ3 2 (h + 9) 4) c j = xI μ c j := fun c j z1 z3 => by rw [xI_sC, if_neg (fun z => z3 z.1), u3 c j z1]
  have v7 : ∀ j, j < 4 → xI (sC μ3 2 (h + 9) 4) (h + 9) j = w (hus 2 j) := fun j hj => by rw [xI_sC, if_pos ⟨rfl, hj⟩]; exact hS3 2 j _ (stl 2 (by omega) j hj).2.2
  generalize sC μ3 2 (h + 9) 4 = μ7 at *
  refine (C_readItemsF (S := 2) (a := h + 9) (len := 4) (by omega) (by omega) hs.2.2.2.2 (by decide) (by omega) (v := hus 2) (fun k hk => v7 k hk) hT7 (hS.fof o7 (fun c hc => by unfold hcq; omega))).conseq (KI.mono ?_)
  rintro x μ4 ⟨o4, x4, r4⟩
  have ei : itS tb n p 2 = itF tb n 2 6 (sk tb n p + 1) (fun _ => false) (hus 2) := rfl
  rw [ei] at hQ
  have oo : fof (hcq h) μ μ4 := o7.trans (o4.wide (fun c z => by unfold c3a at z; unfold hcq; omega))
  have u4 : ∀ c j, ¬ c = 33 → ¬ c = h + 9 → xI μ4 c j = xI μ7 c j := fun c j z1 z2 => o4.1 c (by unfold c3a; omega) j
  have iv := itF_ok (tb := tb) (n := n) (S := 2) (by omega) hb 6 (sk tb n p + 1) (fun _ => false) (hus 2) (by omega) (IV_us (by omega))
  revert r4 hQ iv
  generalize itF tb n 2 6 (sk tb n p + 1) (fun _ => false) (hus 2) = r
  intro hQ r4 iv
  match r, r4, hQ, iv with
  | .inl q, r6, hQ, iv =>
    obtain ⟨rfl, r7⟩ := r6
    exact ⟨fun _ => hQ _ _ ⟨oo, x4.trans x7, rfl, r7⟩, fun z => absurd rfl z⟩
  | .inr u, r6, hQ, iv =>
    obtain ⟨rfl, r7, r5⟩ := r6
    have hv := IV_2 iv.2.2
    have hh4 : HH μ4 h := hh.of oo.2.2.1 oo.2.2.2
    have ib : ∀ k : Int, 0 ≤ k → k < 4 → inb μ4 0 (h + 9) (w k) := fun k k0 k1 => inb_of hs.2.2.2.2 (by omega) hh4.2.1 k0 (by omega)
    have q0 : xI μ4 (h + 9) (w 0).toNatClampNeg = w (u.2 0) := r5 0 (by decide)
    have q1 : xI μ4 (h + 9) (w 1).toNatClampNeg = w (u.2 1) := r5 1 (by decide)
    have q2 : xI μ4 (h + 9) (w 2).toNatClampNeg = w (u.2 2) := r5 2 (by decide)
    have q3 : xI μ4 (h + 9) (w 3).toNatClampNeg = w (u.2 3) := r5 3 (by decide)
    have pf4 : PF μ4 (h + 10) (t2 X) (lbx (t5 X)) 0 := b5.of (fun c c1 c2 j => by rw [u4 _ _ (by omega) (by omega), u7 _ _ (by omega) (by omega)]) (o4.2.2.1.trans o7.2.2.1) (o4.2.2.2.trans o7.2.2.2)
    have fin : ∀ l : Int, l = (if u.2 3 = 1 then 0 else -1) → Call Γ m_Pi_push (d + 1) [.ref (h + 10), .int (w (u.2 0)), .int (w (u.2 1)), .int (w (u.2 2)), .int (w l)] μ4 (KV (fun μ15 => K (some (.int (w 1))) μ15)) := by
      intro l el
      have hl1 : -1 ≤ l ∧ l ≤ 0 := by rw [el]; split <;> omega
      refine (C_push (by omega) pf4 h8 (by unfold BB; simp; omega)).conseq (KV.mono ?_)
      rintro μ15 ⟨o15, p15⟩
      have w15 : fof (hcq h) μ4 μ15 := o15.fof (fun c c1 c2 => by unfold hcq; omega)
      have e15 : ∀ c j, c < h + 10 → xI μ15 c j = xI μ4 c j := fun c j hc => o15.1 c (by omega) j
      have t15 : TP μ15 n tb u.1 := by
        obtain ⟨a1, a2, a3, a4, a5, a6, a7⟩ := r7
        exact ⟨by rw [w15.2.2.1]; exact a1, by rw [w15.2.2.2]; exact a2, by rw [e15 _ _ (by omega)]; exact a3, a4, fun j hj => by rw [e15 _ _ (by omega)]; exact a5 j hj, by rw [e15 _ _ (by omega)]; exact a6, a7⟩
      refine hQ _ _ ⟨oo.trans w15, by rw [e15 _ _ (by omega)]; exact x4.trans x7, rfl, t15, ?_, ?_, fun j hj => ?_, fun k hk j hj => ?_, ?_⟩
      · rw [e15 _ _ (by omega), u4 _ _ (by omega) (by omega), u7 _ _ (by omega) (by omega)]; exact b1
      · rw [e15 _ _ (by omega), u4 _ _ (by omega) (by omega), u7 _ _ (by omega) (by omega)]; exact b2
      · rw [e15 _ _ (by omega), u4 _ _ (by omega) (by omega), u7 _ _ (by omega) (by omega)]; exact b3 j hj
      · have hk : k < t1 X := hk
        rw [e15 _ _ (by omega), u4 _ _ (by omega) (by omega), u7 _ _ (by omega) (by omega)]; exact b4 k hk j hj
      · refine PFcg p15 (fun i hi t ht => ?_)
        show bput (lbx (t5 X)) (t2 X) (u.2 0) (u.2 1) (u.2 2) l i t = lbx (upk (t5 X) (t2 X) u.2) i t
        unfold bput
        by_cases e : i = t2 X
        · rw [if_pos e, e]
          rcases (show t = 0 ∨ t = 1 ∨ t = 2 ∨ t = 3 by omega) with rfl | rfl | rfl | rfl
          · rw [if_pos rfl, lbx_o _ _ _ (by omega)]; unfold upk; rw [if_pos rfl]
          · rw [if_neg (by omega), if_pos rfl, lbx_o _ _ _ (by omega)]; unfold upk; rw [if_pos rfl]
          · rw [if_neg (by omega), if_neg (by omega), if_pos rfl, lbx_o _ _ _ (by omega)]; unfold upk; rw [if_pos rfl]
          · rw [if_neg (by omega), if_neg (by omega), if_neg (by omega), lbx_3, el]; unfold upk; rw [if_pos rfl]
        · rw [if_neg e]
          unfold lbx upk
          rw [if_neg e]
    rw [q0, q1, q2, q3, w_inj (a := u.2 3) (b := 1) (by omega) (by omega) (by omega) (by omega)]
    exact ⟨fun z => absurd z w01, fun _ => ⟨hh4.2.2.2.2.2.1, hh4.2.2.2.2.1, ib 0 (by omega) (by omega), ib 1 (by omega) (by omega), ib 2 (by omega) (by omega), ib 3 (by omega) (by omega), fun z => fin 0 (by rw [if_pos z]), fun z => fin (-1) (by rw [if_neg z])⟩⟩
end HCP
