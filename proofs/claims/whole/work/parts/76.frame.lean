/-! THE REFERENCE: frames by places, questions that reckon without laws -/
/-- outside of the places F nothing has changed -/
def fr (F : Nat → Nat → Prop) (μ μ' : XM) : Prop := (∀ c j, ¬ F c j → xI μ' c j = xI μ c j ∧ xL μ' c j = xL μ c j ∧ xR μ' c j = xR μ c j) ∧ xN μ' = xN μ
theorem fr.rf (F : Nat → Nat → Prop) (μ : XM) : fr F μ μ := ⟨fun _ _ _ => ⟨rfl, rfl, rfl⟩, rfl⟩
theorem fr.trans {F : Nat → Nat → Prop} {μ μ1 μ2 : XM} (h1 : fr F μ μ1) (h2 : fr F μ1 μ2) : fr F μ μ2 := ⟨fun c j q => by
  obtain ⟨a1, a2, a3⟩ := h1.1 c j q
  obtain ⟨b1, b2, b3⟩ := h2.1 c j q
  exact ⟨b1.trans a1, b2.trans a2, b3.trans a3⟩, h2.2.trans h1.2⟩
theorem fr.wide {F F' : Nat → Nat → Prop} {μ μ' : XM} (h : fr F μ μ') (hp : ∀ c j, F c j → F' c j) : fr F' μ μ' := ⟨fun c j q => h.1 c j (fun z => q (hp c j z)), h.2⟩
theorem fr.sI {F : Nat → Nat → Prop} {a k : Nat} (μ : XM) (v : Int32) (h : F a k) : fr F μ (sI μ a k v) := ⟨fun c j q => ⟨by rw [xI_sI, if_neg (by rintro ⟨rfl, rfl⟩; exact q h)], rfl, rfl⟩, rfl⟩
theorem fr.sL {F : Nat → Nat → Prop} {a k : Nat} (μ : XM) (v : Int64) (h : F a k) : fr F μ (sL μ a k v) := ⟨fun c j q => ⟨rfl, by rw [xL_sL, if_neg (by rintro ⟨rfl, rfl⟩; exact q h)], rfl⟩, rfl⟩
theorem fr.sR {F : Nat → Nat → Prop} {a k : Nat} (μ : XM) (v : Option Nat) (h : F a k) : fr F μ (sR μ a k v) := ⟨fun c j q => ⟨rfl, rfl, by rw [xR_sR, if_neg (by rintro ⟨rfl, rfl⟩; exact q h)]⟩, rfl⟩
theorem fof.fr {P : Nat → Prop} {F : Nat → Nat → Prop} {μ μ' : XM} (h : fof P μ μ') (hp : ∀ c j, P c → F c j) : fr F μ μ' := ⟨fun c j q => ⟨h.1 c (fun z => q (hp c j z)) j, by rw [h.2.1], by rw [h.2.2.1]⟩, h.2.2.2⟩
theorem RM.fr {F : Nat → Nat → Prop} {μ μ' : XM} (h : RM μ) (ho : fr F μ μ') (hp : ∀ k v, rM k = some v → ¬ F 547 k) : RM μ' := ⟨by rw [ho.2]; exact h.1, fun k v e => by rw [(ho.1 547 k (hp k v e)).2.2]; exact h.2 k v e⟩
theorem HM.fr {F : Nat → Nat → Prop} {μ μ' : XM} {n : Nat} {ru : Nat → Int} {ki : Nat → Nat → Int} (h : HM μ n ru ki) (ho : fr F μ μ') (h1 : ∀ k v, rM k = some v → ¬ F 547 k) (h2 : ¬ F 547 25) (h3 : ∀ j, ¬ F 552 j) (h4 : ∀ j, ¬ F 554 j) : HM μ' n ru ki := ⟨h.1.fr ho h1, h.2.1, by rw [(ho.1 547 25 h2).1]; exact h.2.2.1, h.2.2.2.1, fun j hj => by rw [(ho.1 552 j (h3 j)).1]; exact h.2.2.2.2.1 j hj, fun k hk => ⟨fun j hj => by rw [(ho.1 554 _ (h4 _)).1]; exact (h.2.2.2.2.2 k hk).1 j hj, (h.2.2.2.2.2 k hk).2⟩⟩
theorem NR.fr {F : Nat → Nat → Prop} {μ μ' : XM} {a o s m T : Nat} {bx mg : Nat → Nat → Int} (h : NR μ a o s bx m T mg) (ho : fr F μ μ') (hp : ∀ j, ¬ F a j) : NR μ' a o s bx m T mg := by
  have e : ∀ j, xI μ' a j = xI μ a j := fun j => (ho.1 a j (hp j)).1
  unfold NR
  simp only [e]
  exact h
/-- the mark of a thrown answer -/
def thr (c j : Nat) : Prop := c = 547 ∧ j = 0
theorem thr_r (k v : Nat) (e : rM k = some v) : ¬ thr 547 k := by
  rintro ⟨-, rfl⟩
  have z : rM 0 = none := rfl
  rw [z] at e
  exact absurd e (by simp)
section MF
variable {Γ : XG} {d n a s m T : Nat} {ru : Nat → Int} {ki bx mg : Nat → Nat → Int} {μ : XM} {Q : Option Value → XM → Prop}
theorem HM_th (h : HM μ n ru ki) {μ' : XM} (ho : fr thr μ μ') : HM μ' n ru ki := h.fr ho thr_r (by unfold thr; omega) (fun j => by unfold thr; omega) (fun j => by unfold thr; omega)
theorem th0 (μ : XM) : fr thr μ (sI μ 547 0 (w 0)) := fr.sI μ (w 0) ⟨rfl, rfl⟩
theorem C_isHoursM (hd : 2 ≤ d) (hM : HM μ n ru ki) {z : Int} (z1 : -2147483648 ≤ z) (z2 : z < 2147483648) : Call Γ m_MO_isHours d [.ref 547, .int (w z)] μ (KI (fun r μ' => μ' = μ ∧ ((isH n z ∧ r = w 1) ∨ (¬ isH n z ∧ r = w 0)))) := by
  obtain ⟨d, rfl⟩ : ∃ e, d = e + 1 := ⟨d - 1, by omega⟩
  have hn := hM.2.1
  refine Call.of ok_MO_isHours (Nat.le_of_ble_eq_true rfl) (B_MO_isHours_0 hM.1.o ?_)
  unfold isH
  rw [hM.2.2.1, w_lt (by omega) (by omega) (by omega) (by omega), w_l z1 z2]
  refine ⟨fun q => ?_, fun q => ⟨_, rfl, rfl, Or.inr ⟨by omega, rfl⟩⟩⟩
  refine (C_isIn (x := 1) (y := 99) (by omega) (by omega) (by omega) (by omega) (by omega) (by omega) (by omega)).conseq (KI.mono ?_)
  rintro r μ1 ⟨rfl, ⟨g1, g2, rfl⟩ | ⟨g1, rfl⟩⟩
  · exact ⟨fun q2 => absurd q2 (by decide), fun _ => ⟨_, rfl, rfl, Or.inl ⟨by omega, rfl⟩⟩⟩
  · exact ⟨fun _ => ⟨_, rfl, rfl, Or.inr ⟨by omega, rfl⟩⟩, fun q2 => absurd rfl q2⟩
theorem C_canPutM (hd : 2 ≤ d) (hM : HM μ n ru ki) (hs : shp a = some (.inr (0, 283))) (ha : a < 574) (hN : NR μ a 0 s bx m T mg) {k p : Int} (k1 : -2147483648 ≤ k) (k2 : k < 2147483648) (p1 : -2147483648 ≤ p) (p2 : p < 2147483648) : Call Γ m_MO_canPut d [.ref 547, .ref a, .int (w k), .int (w p)] μ (KI (fun r μ' => μ' = μ ∧ ((CP n ru bx s k p ∧ r = w 1) ∨ (¬ CP n ru bx s k p ∧ r = w 0)))) := by
  obtain ⟨d, rfl⟩ : ∃ e, d = e + 1 := ⟨d - 1, by omega⟩
  have hn := hM.2.1
  have h8 := hN.1
  have hu := hM.2.2.2.1
  unfold RU at hu
  have hbb : ∀ i, i < s → BB bx i := fun i hi => by
    have := (hN.2.2.2.2.2.1 (s - 1 - i) (by omega)).2
    rwa [show s - 1 - (s - 1 - i) = i by omega] at this
  have hb := bsum_le hbb s (by omega)
  refine Call.of ok_MO_canPut (Nat.le_of_ble_eq_true rfl) (B_MO_canPut_0 hM.1.o ?_)
  refine (C_isKindM (by omega) hM k1 k2).conseq (KI.mono ?_)
  unfold CP
  rintro r μ1 ⟨rfl, ⟨g1, g2, rfl⟩ | ⟨g1, rfl⟩⟩
  · refine ⟨fun q => absurd q (by decide), fun _ => ?_⟩
    rw [w_l p1 p2]
    refine (C_isIn (x := 1) (y := 9) (by omega) (by omega) (by omega) (by omega) (by omega) (by omega) (by omega)).conseq (KI.mono ?_)
    rintro r μ1 ⟨rfl, ⟨g3, g4, rfl⟩ | ⟨g3, rfl⟩⟩
    · refine ⟨fun q => absurd q (by decide), fun _ => ⟨inb_of hs ha hM.1.1 (by omega) (by omega), ?_⟩⟩
      rw [show (w 40).toNatClampNeg = 0 + 40 by decide, hN.2.2.1, w_lt (by omega) (by omega) (by omega) (by omega)]
      refine ⟨fun q => ?_, fun q => ⟨_, rfl, rfl, Or.inr ⟨by omega, rfl⟩⟩⟩
      refine (C_sumIn (by omega) hM.1.1 hs ha hN).conseq (KI.mono ?_)
      rintro r μ1 ⟨rfl, rfl⟩
      refine ⟨552, hM.1.r 18 552 rfl, inb_of shmod.1 (by omega) hM.1.1 (by omega) (by omega), ?_⟩
      rw [show (w 0).toNatClampNeg = 0 by decide, hM.2.2.2.2.1 0 (by omega), w_add, w_lt (by omega) (by omega) (by omega) (by omega)]
      exact ⟨fun q2 => ⟨_, rfl, rfl, Or.inr ⟨by omega, rfl⟩⟩, fun q2 => ⟨_, rfl, rfl, Or.inl ⟨by omega, rfl⟩⟩⟩
    · exact ⟨fun _ => ⟨_, rfl, rfl, Or.inr ⟨by omega, rfl⟩⟩, fun q => absurd rfl q⟩
  · exact ⟨fun _ => ⟨_, rfl, rfl, Or.inr ⟨by omega, rfl⟩⟩, fun q => absurd rfl q⟩
end MF
