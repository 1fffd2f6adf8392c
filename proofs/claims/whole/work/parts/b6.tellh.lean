/-! A HOUSE IS TOLD, in the class -/
section TH
variable {h n s m T lt k tn cl cf si mi Ti : Nat} {ru : Nat → Int} {ki bx mg lo fd bi gi : Nat → Nat → Int} {lz : Nat → Nat} {lc : Nat → Nat → Int} {sel hab : Int} {pz : Nat → Nat} {pv : Nat → Nat → Nat → Int} {tb : Nat → Nat} {ik : Bool} {A : AA} {W : WL} {μ μ' : XM}
theorem xR_n {a k c j : Nat} {v : Option Nat} (h : ¬ (c = a ∧ j = k)) : xR (sR μ a k v) c j = xR μ c j := by rw [xR_sR, if_neg h]
theorem PB_sR {a k : Nat} {v : Option Nat} (h : PB μ a) (ha : 33 ≤ a) : PB (sR μ 32 k v) a := by
  obtain ⟨a1, a2, a3, a4, a5, a6⟩ := h
  exact ⟨a1, a2, by rw [xR_n (by omega)]; exact a3, by rw [xR_n (by omega)]; exact a4, by rw [xR_n (by omega)]; exact a5, by rw [xR_n (by omega)]; exact a6⟩
theorem LB_sR {a k : Nat} {v : Option Nat} (h : LB μ a) (ha : 33 ≤ a) : LB (sR μ 32 k v) a := by
  obtain ⟨a1, a2, a3, a4, a5⟩ := h
  exact ⟨a1, a2, by rw [xR_n (by omega)]; exact a3, by rw [xR_n (by omega)]; exact a4, by rw [xR_n (by omega)]; exact a5⟩
theorem rF_12 {a k v : Nat} (e : rF a k = some v) : ¬ (a = 32 ∧ (k = 1 ∨ k = 2)) := by
  rintro ⟨rfl, rfl | rfl⟩
  · exact nomatch e
  · exact nomatch e
theorem RF_sR {k0 : Nat} {v0 : Option Nat} (h : RF μ) (hk : k0 = 1 ∨ k0 = 2) : RF (sR μ 32 k0 v0) := by
  obtain ⟨a1, a2, a3, a4, a5, a6, a7, a8⟩ := h
  refine ⟨a1, fun a k v e => by rw [xR_n (fun z => rF_12 e (by omega))]; exact a2 a k v e, PB_sR a3 (by omega), PB_sR a4 (by omega), PB_sR a5 (by omega), fun i hi => ⟨by rw [xR_n (by omega)]; exact (a6 i hi).1, PB_sR (a6 i hi).2 (by omega)⟩, fun i hi => ⟨by rw [xR_n (by omega)]; exact (a7 i hi).1, by rw [xR_n (by omega)]; exact (a7 i hi).2⟩, fun i hi => ?_⟩
  obtain ⟨b1, b2, b3, b4, b5, b6, b7⟩ := a8 i hi
  exact ⟨by rw [xR_n (by omega)]; exact b1, LB_sR b2 (by omega), by rw [xR_n (by omega)]; exact b3, by rw [xR_n (by omega)]; exact b4, by rw [xR_n (by omega)]; exact b5, by rw [xR_n (by omega)]; exact b6, by rw [xR_n (by omega)]; exact b7⟩
theorem HH_sR {g k : Nat} {v : Option Nat} (hh : HH μ g) : HH (sR μ 32 k v) g := by
  obtain ⟨a1, a2, a3, a4, a5, a6, a7, a8⟩ := hh
  have a0 := a1
  unfold HS at a0
  exact ⟨a1, a2, by rw [xR_n (by omega)]; exact a3, by rw [xR_n (by omega)]; exact a4, by rw [xR_n (by omega)]; exact a5, by rw [xR_n (by omega)]; exact a6, PB_sR a7 (by omega), fun k hk => by rw [xR_n (by omega)]; exact a8 k hk⟩
theorem PF_sR {a k : Nat} {v : Option Nat} (h : PF μ a s bx m) (ha : 33 ≤ a) : PF (sR μ 32 k v) a s bx m := ⟨PB_sR h.1 ha, h.2.1, h.2.2.1, h.2.2.2.1, h.2.2.2.2.1, h.2.2.2.2.2⟩
theorem LW_sR {k : Nat} {v : Option Nat} (h : LW μ lt lz lc sel) : LW (sR μ 32 k v) lt lz lc sel := ⟨h.1, h.2.1, h.2.2.1, h.2.2.2.1, h.2.2.2.2.1, fun i hi => ⟨LB_sR (h.2.2.2.2.2 i hi).1 (by omega), (h.2.2.2.2.2 i hi).2⟩⟩
def thc (c : Nat) : Prop := (67 ≤ c ∧ c < 72) ∨ c = 77 ∨ c = 280 ∨ c = 382 ∨ c = 490 ∨ c = 493 ∨ c = 33
/-- a new house's data, X -/
theorem C_tellHouse {Γ : XG} {d g : Nat} {X : HT} (hd : 3 ≤ d) (hF : FI μ h n ru ki s bx m T mg A lt lz lc sel k pz pv tn tb hab cl lo cf fd ik si bi mi Ti gi) (g1 : HH μ g) (g2 : xR μ 32 2 = some g) (g3 : (h = 35 ∧ g = 50) ∨ (h = 50 ∧ g = 35)) (hX : HF μ g X) (hI : HI X) (hw : hwh X) : Call Γ m_FB_tellHouse d [.ref 32] μ (KI (fun r μ' => mdl μ μ' ∧ (∀ j, xI μ' 31 j = xI μ 31 j) ∧ r = w (t1 X) ∧ FI μ' g (t1 X) (t3 X) (t4 X) (t2 X) (lbx (t5 X)) 0 0 mg (0, aS A, aB A, aM A, aT A) lt lz lc sel k pz pv 0 tb hab 0 lo 0 fd false si bi mi Ti gi)) := by
  obtain ⟨d, rfl⟩ : ∃ e, d = e + 1 := ⟨d - 1, by omega⟩
  have hI1 := hI.1
  have hI2 := hI.2.1
  obtain ⟨a1, a2, ⟨a3, a4, a5⟩, a6, ⟨a7, a8, a9⟩, b1, b2, b3, b4, -⟩ := hF
  obtain ⟨⟨f1, f2, f3, f4, f5⟩, h2, h3, h4, nx, h5⟩ := a1
  have hR := f1
  have hh := f2.1
  obtain ⟨x1, x2, x3, x4, x5⟩ := hX
  refine Call.of ok_FB_tellHouse (Nat.le_of_ble_eq_true rfl) (B_FB_tellHouse_0 hR.ob g2 f2.2.1 (hR.r 32 9 67 rfl) (hR.o rfl (by omega)) ?_)
  rintro μ1 rfl μ2 rfl
  have r2 : xR (sR (sR μ 32 2 (some h)) 32 1 (some g)) 32 1 = some g := by rw [xR_sR, if_pos ⟨rfl, rfl⟩]
  have r22 : xR (sR (sR μ 32 2 (some h)) 32 1 (some g)) 32 2 = some h := by rw [xR_n (by omega), xR_sR, if_pos ⟨rfl, rfl⟩]
  have R2 : RF (sR (sR μ 32 2 (some h)) 32 1 (some g)) := RF_sR (RF_sR hR (by omega)) (by omega)
  have H2 : HH (sR (sR μ 32 2 (some h)) 32 1 (some g)) h := HH_sR (HH_sR hh)
  have G2 : HH (sR (sR μ 32 2 (some h)) 32 1 (some g)) g := HH_sR (HH_sR g1)
  have P2 : PF (sR (sR μ 32 2 (some h)) 32 1 (some g)) (g + 10) (t2 X) (lbx (t5 X)) 0 := PF_sR (PF_sR x5 (by omega)) (by omega)
  have L2 : LW (sR (sR μ 32 2 (some h)) 32 1 (some g)) lt lz lc sel := LW_sR (LW_sR a2)
  have I2 : ∀ c j, xI (sR (sR μ 32 2 (some h)) 32 1 (some g)) c j = xI μ c j := fun c j => rfl
  have T2 : xR (sR (sR μ 32 2 (some h)) 32 1 (some g)) 33 0 = some 34 := by rw [xR_n (by omega), xR_n (by omega)]; exact a6.1
  have M2 : mdl μ (sR (sR μ 32 2 (some h)) 32 1 (some g)) := ⟨fun c j hc => ⟨rfl, rfl, by rw [xR_n (by omega), xR_n (by omega)]⟩, Nat.le_refl _⟩
  have K2 : ∀ p, p < k → PL (sR (sR μ 32 2 (some h)) 32 1 (some g)) p (pz p) (pv p) := a5
  generalize sR (sR μ 32 2 (some h)) 32 1 (some g) = μ2 at *
  have gs := g1.1
  unfold HS at gs
  refine ⟨g, r2, G2.ob, g + 10, G2.2.2.2.2.2.1, ?_⟩
  refine (C_copyFrom (a := 67) (b := g + 10) (by omega) P2 R2.2.2.1 (by omega)).conseq (KV.mono ?_)
  rintro μ5 ⟨o5, p5⟩
  have w5 : fof thc μ2 μ5 := o5.fof (fun c c1 c2 => Or.inl ⟨c1, c2⟩)
  have R5 := R2.of w5.2.2.1 w5.2.2.2
  refine ⟨77, R5.r 32 11 77 rfl, R5.o rfl (by omega), ?_⟩
  rintro μ7 rfl
  have R7 : RF (sI μ5 77 3 (w 0)) := R5.of rfl rfl
  refine ⟨280, R7.r 32 12 280 rfl, R7.o rfl (by omega), ?_⟩
  rintro μ9 rfl
  have R9 : RF (sI (sI μ5 77 3 (w 0)) 280 1 (w 0)) := R7.of rfl rfl
  refine ⟨382, R9.r 32 13 382 rfl, R9.o rfl (by omega), ?_⟩
  rintro μ11 rfl
  have R11 : RF (sI (sI (sI μ5 77 3 (w 0)) 280 1 (w 0)) 382 2 (w 0)) := R9.of rfl rfl
  refine ⟨490, R11.r 32 14 490 rfl, R11.o rfl (by omega), ?_⟩
  rintro μ13 rfl
  have R13 : RF (sI (sI (sI (sI μ5 77 3 (w 0)) 280 1 (w 0)) 382 2 (w 0)) 490 2 (w 0)) := R11.of rfl rfl
  refine ⟨493, R13.r 32 15 493 rfl, R13.o rfl (by omega), ?_⟩
  rintro μ15 rfl
  have R15 : RF (sI (sI (sI (sI (sI μ5 77 3 (w 0)) 280 1 (w 0)) 382 2 (w 0)) 490 2 (w 0)) 493 5 (w 0)) := R13.of rfl rfl
  refine ⟨33, R15.r 32 0 33 rfl, R15.o rfl (by omega), ?_⟩
  rintro μ17 rfl
  have w17 : fof thc μ2 (sI (sI (sI (sI (sI (sI μ5 77 3 (w 0)) 280 1 (w 0)) 382 2 (w 0)) 490 2 (w 0)) 493 5 (w 0)) 33 1 (w 0)) := (((((w5.trans (fof.sI (P := thc) _ _ _ (by unfold thc; omega))).trans (fof.sI (P := thc) _ _ _ (by unfold thc; omega))).trans (fof.sI (P := thc) _ _ _ (by unfold thc; omega))).trans (fof.sI (P := thc) _ _ _ (by unfold thc; omega))).trans (fof.sI (P := thc) _ _ _ (by unfold thc; omega))).trans (fof.sI (P := thc) _ _ _ (by unfold thc; omega))
  have q5 : fof (fun c => c < 67 ∨ 72 ≤ c) μ5 (sI (sI (sI (sI (sI (sI μ5 77 3 (w 0)) 280 1 (w 0)) 382 2 (w 0)) 490 2 (w 0)) 493 5 (w 0)) 33 1 (w 0)) := (((((fof.sI (P := fun c => c < 67 ∨ 72 ≤ c) _ _ _ (by omega)).trans (fof.sI (P := fun c => c < 67 ∨ 72 ≤ c) _ _ _ (by omega))).trans (fof.sI (P := fun c => c < 67 ∨ 72 ≤ c) _ _ _ (by omega))).trans (fof.sI (P := fun c => c < 67 ∨ 72 ≤ c) _ _ _ (by omega))).trans (fof.sI (P := fun c => c < 67 ∨ 72 ≤ c) _ _ _ (by omega))).trans (fof.sI (P := fun c => c < 67 ∨ 72 ≤ c) _ _ _ (by omega))
  have e77 : xI (sI (sI (sI (sI (sI (sI μ5 77 3 (w 0)) 280 1 (w 0)) 382 2 (w 0)) 490 2 (w 0)) 493 5 (w 0)) 33 1 (w 0)) 77 3 = w 0 := by simp (disch := omega) only [xI_sI, if_neg, if_pos, true_and]; rfl
  have e72 : xI (sI (sI (sI (sI (sI (sI μ5 77 3 (w 0)) 280 1 (w 0)) 382 2 (w 0)) 490 2 (w 0)) 493 5 (w 0)) 33 1 (w 0)) 77 2 = xI μ5 77 2 := by simp (disch := omega) only [xI_sI, if_neg]
  have e280 : xI (sI (sI (sI (sI (sI (sI μ5 77 3 (w 0)) 280 1 (w 0)) 382 2 (w 0)) 490 2 (w 0)) 493 5 (w 0)) 33 1 (w 0)) 280 1 = w 0 := by
    rw [xI_sI, if_neg (by omega), xI_sI, if_neg (by omega), xI_sI, if_neg (by omega), xI_sI, if_neg (by omega), xI_sI, if_pos ⟨rfl, rfl⟩]
  have e382 : xI (sI (sI (sI (sI (sI (sI μ5 77 3 (w 0)) 280 1 (w 0)) 382 2 (w 0)) 490 2 (w 0)) 493 5 (w 0)) 33 1 (w 0)) 382 2 = w 0 := by
    rw [xI_sI, if_neg (by omega), xI_sI, if_neg (by omega), xI_sI, if_neg (by omega), xI_sI, if_pos ⟨rfl, rfl⟩]
  have e490 : xI (sI (sI (sI (sI (sI (sI μ5 77 3 (w 0)) 280 1 (w 0)) 382 2 (w 0)) 490 2 (w 0)) 493 5 (w 0)) 33 1 (w 0)) 490 2 = w 0 := by
    rw [xI_sI, if_neg (by omega), xI_sI, if_neg (by omega), xI_sI, if_pos ⟨rfl, rfl⟩]
  have e493 : xI (sI (sI (sI (sI (sI (sI μ5 77 3 (w 0)) 280 1 (w 0)) 382 2 (w 0)) 490 2 (w 0)) 493 5 (w 0)) 33 1 (w 0)) 493 5 = w 0 := by
    rw [xI_sI, if_neg (by omega), xI_sI, if_pos ⟨rfl, rfl⟩]
  have e33' : xI (sI (sI (sI (sI (sI (sI μ5 77 3 (w 0)) 280 1 (w 0)) 382 2 (w 0)) 490 2 (w 0)) 493 5 (w 0)) 33 1 (w 0)) 33 1 = w 0 := by
    rw [xI_sI, if_pos ⟨rfl, rfl⟩]
  generalize sI (sI (sI (sI (sI (sI μ5 77 3 (w 0)) 280 1 (w 0)) 382 2 (w 0)) 490 2 (w 0)) 493 5 (w 0)) 33 1 (w 0) = μ17 at *
  have u : ∀ c j, ¬ thc c → xI μ17 c j = xI μ c j := fun c j z => (w17.1 c z j).trans (I2 c j)
  have r17 : xR μ17 = xR μ2 := w17.2.2.1
  have n17 : ¬ thc g := by unfold thc; omega
  have lw : LW μ17 lt lz lc sel := L2.fof w17 (by unfold thc; omega) (fun i hi => by unfold thc; omega)
  have m17 : mdl μ μ17 := ⟨fun c j hc => by
    have q1 := M2.1 c j hc
    exact ⟨u c j (by unfold thc; omega), by rw [w17.2.1]; exact q1.2.1, by rw [w17.2.2.1]; exact q1.2.2⟩, by rw [w17.2.2.2]; exact M2.2⟩
  refine ⟨by rw [r17]; exact r2, _, rfl, m17, fun j => u 31 j (by unfold thc; omega), by rw [u g 4 n17]; exact x1, ⟨⟨R2.of w17.2.2.1 w17.2.2.2, ?_, lw.fw, p5.fof q5 (fun c c1 c2 => by omega), HI_KN hw⟩, by omega, e280, fun j hj => absurd hj (Nat.not_lt_zero _), nx, (show (0 : Nat) ≤ 40 by omega), h5.2.1, e77, ?_, fun j hj => absurd hj (Nat.not_lt_zero _)⟩, lw, ⟨by rw [u _ _ (by unfold thc; omega)]; exact a3, a4, fun p hp => (K2 p hp).fof w17 (fun c c1 c2 => by unfold thc; omega)⟩, ⟨by rw [r17]; exact T2, by rw [w17.2.2.2]; exact R2.1, e33', by omega, fun j hj => absurd hj (Nat.not_lt_zero _)⟩, ⟨by rw [u _ _ (by unfold thc; omega)]; exact a7, a8, a9⟩, ⟨by omega, e490, fun i hi => absurd hi (Nat.not_lt_zero _)⟩, ⟨by omega, e493, fun i hi => absurd hi (Nat.not_lt_zero _)⟩, ⟨e382, fun z => Bool.noConfusion z⟩, ?_, h, H2.of w17.2.2.1 w17.2.2.2, by rw [r17]; exact r22, by omega⟩
  · refine ⟨G2.of w17.2.2.1 w17.2.2.2, by rw [r17]; exact r2, hI1, by rw [u g 4 n17]; exact x1, HI_RU hI, fun j hj => by rw [u (g + 1) j (by unfold thc; omega)]; exact x3 j hj, fun k hk => ⟨fun j hj => by rw [u (g + 3 + k) j (by unfold thc; omega)]; exact x4 k hk j hj, HI_KK hI hw hk⟩⟩
  · rw [e72, o5.1 77 (by omega), I2]
    exact h5.2.2.2.1
  · intro a j v e
    have ha : a < 14 := by
      refine Decidable.byContradiction fun q => ?_
      unfold sT at e
      split at e <;> first | omega | simp at e
    rw [u a j (by unfold thc; omega)]
    exact b4 a j v e
end TH
