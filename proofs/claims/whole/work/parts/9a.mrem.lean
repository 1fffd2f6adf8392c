/-! THE ACTS OF THE REFERENCE -/
def rmf (c j : Nat) : Prop := c = 563 ∨ (c = 547 ∧ j = 37)
/-- the acts kept, oldest first -/
def AVM (μ : XM) (n : Nat) (A : AA) (T : Nat) (mg : Nat → Nat → Int) : Prop := aC A ≤ 40 ∧ xI μ 547 37 = w (aC A) ∧ (∀ i j, i ≤ j → j < aC A → aT A i ≤ aT A j) ∧ ∀ j, j < aC A → NR μ 563 (283 * j) (aS A j) (aB A j) (aM A j) (aT A j) mg ∧ KN (aB A j) (aS A j) n ∧ aT A j ≤ T ∧ (n = 0 → aS A j = 0)
theorem sh562 : shp 563 = some (.inr (0, 11320)) := rfl
theorem sh558 : shp 559 = some (.inr (0, 283)) := rfl
theorem in562 {μ : XM} (hx : 574 ≤ xN μ) {z : Int} (z0 : 0 ≤ z) (z1 : z < 11320) : zib μ 0 563 (w z) := inb_of sh562 (by omega) hx z0 z1
theorem in558 {μ : XM} (hx : 574 ≤ xN μ) {z : Int} (z0 : 0 ≤ z) (z1 : z < 283) : zib μ 0 559 (w z) := inb_of sh558 (by omega) hx z0 z1
theorem AVM.mp {μ : XM} {n T : Nat} {A : AA} {mg : Nat → Nat → Int} (h : AVM μ n A T mg) (k p g v : Int) : AVM μ n A (T + 1) (mput mg T k p g v) := ⟨h.1, h.2.1, h.2.2.1, fun j hj => by
  obtain ⟨b1, b2, b3, b4⟩ := h.2.2.2 j hj
  exact ⟨b1.lg rfl (fun k hk q hq => (mput_lt (by omega)).symm), b2, by omega, b4⟩⟩
theorem AVM.frm {F : Nat → Nat → Prop} {μ μ' : XM} {n T : Nat} {A : AA} {mg : Nat → Nat → Int} (h : AVM μ n A T mg) (ho : fr F μ μ') (h1 : ∀ j, ¬ F 563 j) (h2 : ¬ F 547 37) : AVM μ' n A T mg := ⟨h.1, by rw [(ho.1 547 37 h2).1]; exact h.2.1, h.2.2.1, fun j hj => by
  obtain ⟨b1, b2, b3, b4⟩ := h.2.2.2 j hj
  exact ⟨b1.cp (fun i hi => (ho.1 563 _ (h1 _)).1), b2, b3, b4⟩⟩
theorem shf_1 {α : Type} {f : Nat → α} {c j : Nat} {x : α} (h : c < 40) (e : j = c) : shf f c x j = x := by unfold shf; rw [if_pos h, if_pos e]
theorem shf_2 {α : Type} {f : Nat → α} {c j : Nat} {x : α} (h : c < 40) (e : ¬ j = c) : shf f c x j = f j := by unfold shf; rw [if_pos h, if_neg e]
theorem shf_3 {α : Type} {f : Nat → α} {c j : Nat} {x : α} (h : ¬ c < 40) (e : j = 39) : shf f c x j = x := by unfold shf; rw [if_neg h, if_pos e]
theorem shf_4 {α : Type} {f : Nat → α} {c j : Nat} {x : α} (h : ¬ c < 40) (e : ¬ j = 39) : shf f c x j = f (j + 1) := by unfold shf; rw [if_neg h, if_neg e]
section OC
variable {Γ : XG} {d n s m T : Nat} {ru : Nat → Int} {ki bx mg : Nat → Nat → Int} {ls : Int → Int → Int → Int → Int → Int → Int} {μ : XM} {Q : Option Value → XM → Prop} {W : WL} {A : AA}
theorem RM_fr (hR : RM μ) {F : Nat → Nat → Prop} (hF : ∀ j, j ≤ 36 → ¬ F 547 j) {μ' : XM} (ho : fr F μ μ') (h2 : ∀ k v, rM k = some v → ¬ F 547 k) : RM μ' := hR.fr ho h2
theorem MQs.rm (h : MQs μ n ru ki s bx m T mg W ls) {μ' : XM} (ho : fr rmf μ μ') : MQs μ' n ru ki s bx m T mg W ls :=
  ⟨h.1.fr ho (fun k v e => by unfold rmf; rintro (q | ⟨-, rfl⟩); omega; exact nomatch e) (by unfold rmf; omega) (fun j => by unfold rmf; omega) (fun j => by unfold rmf; omega), h.2.1.fr ho (fun j => by unfold rmf; omega), h.2.2.1, h.2.2.2.1, h.2.2.2.2.1.frm ho (fun c j hc => by unfold rmf; omega) (by unfold rmf; omega) (fun c j h1 h2 => by unfold rmf; omega) (fun c j h1 h2 => by unfold rmf; omega), h.2.2.2.2.2⟩
theorem rem_1 (hM : HM μ n ru ki) : ∀ (f j : Nat) (μ1 : XM), j + f = 11037 → fr (fun c _ => c = 563) μ μ1 → (∀ i, j ≤ i → xI μ1 563 i = xI μ 563 i) → (∀ i, i < j → xI μ1 563 i = xI μ 563 (i + 283)) → (∀ μ', fr (fun c _ => c = 563) μ μ' → (∀ i, i < 11037 → xI μ' 563 i = xI μ 563 (i + 283)) → G Γ m_MO_remember (d + 1) (0, 0) Q 11 [.ref 547, .int (w 11037)] [] μ') → G Γ m_MO_remember (d + 1) (0, 0) Q 11 [.ref 547, .int (w j)] [] μ1 := by
  intro f
  induction f with
  | zero =>
    intro j μ1 hj ho g1 g2 hQ
    rw [show ((j : Nat) : Int) = 11037 by omega]
    exact hQ μ1 ho (fun i hi => g2 i (by omega))
  | succ f ih =>
    intro j μ1 hj ho g1 g2 hQ
    have hM1 : HM μ1 n ru ki := hM.fr ho (fun k v e => by omega) (by omega) (fun j => by omega) (fun j => by omega)
    have hx1 := hM1.1.1
    have e0 : (w (j : Int)).toNatClampNeg = j := w_cln (by omega)
    have e4 : (w ((j : Int) + 283)).toNatClampNeg = j + 283 := by rw [w_cl (by omega) (by omega)]; omega
    refine B_MO_remember_11 hM1.1.o (hM1.1.r 36 563 rfl) ?_
    simp only [w_add, e0, e4]
    rw [w_lt (by omega) (by omega) (by omega) (by omega)]
    refine ⟨fun _ => ⟨in562 hx1 (by omega) (by omega), ⟨by omega, in562 hx1 (by omega) (by omega)⟩, ?_⟩, fun q => absurd (by omega) q⟩
    rintro μ4 rfl
    refine ih (j + 1) _ (by omega) (ho.trans (fr.sI (F := fun c _ => c = 563) (a := 563) (k := j) μ1 _ rfl)) (fun i hi => ?_) (fun i hi => ?_) hQ
    · rw [xI_sI, if_neg (by omega)]; exact g1 i (by omega)
    · by_cases e : i = j
      · subst e
        rw [xI_sI, if_pos ⟨rfl, rfl⟩]; exact g1 _ (by omega)
      · rw [xI_sI, if_neg (by omega)]; exact g2 i (by omega)
theorem rem_2 {c : Nat} (hc : c < 40) (hM : HM μ n ru ki) (h37 : xI μ 547 37 = w c) (hQ : ∀ μ', fr rmf μ μ' → (∀ i, (i < 283 * c ∨ 283 * c + 283 ≤ i) → xI μ' 563 i = xI μ 563 i) → (∀ i, i < 283 → xI μ' 563 (283 * c + i) = xI μ 559 i) → xI μ' 547 37 = w ((c + 1 : Nat) : Int) → Q none μ') : ∀ (f j : Nat) (μ1 : XM), j + f = 283 → fr (fun c _ => c = 563) μ μ1 → (∀ i, (i < 283 * c ∨ 283 * c + j ≤ i) → xI μ1 563 i = xI μ 563 i) → (∀ i, i < j → xI μ1 563 (283 * c + i) = xI μ 559 i) → G Γ m_MO_remember (d + 1) (0, 0) Q 52 [.ref 547, .int (w j)] [] μ1 := by
  intro f
  induction f with
  | zero =>
    intro j μ1 hj ho g1 g2
    have hM1 : HM μ1 n ru ki := hM.fr ho (fun k v e => by omega) (by omega) (fun j => by omega) (fun j => by omega)
    refine B_MO_remember_52 hM1.1.o (hM1.1.r 36 563 rfl) (hM1.1.r 30 559 rfl) ?_
    rw [w_lt (by omega) (by omega) (by omega) (by omega)]
    refine ⟨fun q => absurd q (by omega), fun _ => ?_⟩
    rintro μ1' rfl
    rw [(ho.1 547 37 (by omega)).1, h37, w_add]
    refine hQ _ ((ho.wide (fun a b e => Or.inl e)).trans (fr.sI (F := rmf) (a := 547) (k := 37) μ1 _ (Or.inr ⟨rfl, rfl⟩))) (fun i hi => ?_) (fun i hi => ?_) ?_
    · rw [xI_sI, if_neg (by omega)]; exact g1 i (by omega)
    · rw [xI_sI, if_neg (by omega)]; exact g2 i (by omega)
    · rw [xI_sI, if_pos ⟨rfl, rfl⟩]; rfl
  | succ f ih =>
    intro j μ1 hj ho g1 g2
    have hM1 : HM μ1 n ru ki := hM.fr ho (fun k v e => by omega) (by omega) (fun j => by omega) (fun j => by omega)
    have hx1 := hM1.1.1
    have e0 : (w (j : Int)).toNatClampNeg = j := w_cln (by omega)
    have e4 : (w (283 * (c : Int) + j)).toNatClampNeg = 283 * c + j := by rw [w_cl (by omega) (by omega)]; omega
    refine B_MO_remember_52 hM1.1.o (hM1.1.r 36 563 rfl) (hM1.1.r 30 559 rfl) ?_
    rw [(ho.1 547 37 (by omega)).1, h37]
    simp only [w_mul, w_add, e0, e4]
    rw [w_lt (by omega) (by omega) (by omega) (by omega)]
    refine ⟨fun _ => ⟨in558 hx1 (by omega) (by omega), ⟨by omega, in562 hx1 (by omega) (by omega)⟩, ?_⟩, fun q => absurd (by omega) q⟩
    rintro μ4 rfl
    refine ih (j + 1) _ (by omega) (ho.trans (fr.sI (F := fun c _ => c = 563) (a := 563) (k := 283 * c + j) μ1 _ rfl)) (fun i hi => ?_) (fun i hi => ?_)
    · rw [xI_sI, if_neg (by omega)]; exact g1 i (by omega)
    · by_cases e : i = j
      · subst e
        rw [xI_sI, if_pos ⟨rfl, rfl⟩, (ho.1 559 i (by omega)).1]
      · rw [xI_sI, if_neg (by omega)]; exact g2 i (by omega)
theorem C_rememberM (hd : 1 ≤ d) (h : MQs μ n ru ki s bx m T mg W ls) (hA : AVM μ n A T mg) : Call Γ m_MO_remember d [.ref 547] μ (KV (fun μ' => fr rmf μ μ' ∧ MQs μ' n ru ki s bx m T mg W ls ∧ AVM μ' n (asav A s bx m T) T mg)) := by
  obtain ⟨d, rfl⟩ : ∃ e, d = e + 1 := ⟨d - 1, by omega⟩
  obtain ⟨c40, h37, hmn, hr⟩ := hA
  have hM := h.hm
  have hN := h.nr
  refine Call.of ok_MO_remember (Nat.le_of_ble_eq_true rfl) (B_MO_remember_0 hM.1.o ?_)
  rw [h37, w_inj (by omega) (by omega) (by omega) (by omega)]
  have sC : aC (asav A s bx m T) = min 40 (aC A + 1) := rfl
  have sS : aS (asav A s bx m T) = shf (aS A) (aC A) s := rfl
  have sB : aB (asav A s bx m T) = shf (aB A) (aC A) bx := rfl
  have sM : aM (asav A s bx m T) = shf (aM A) (aC A) m := rfl
  have sT : aT (asav A s bx m T) = shf (aT A) (aC A) T := rfl
  have mono : ∀ i j, i ≤ j → j < aC (asav A s bx m T) → aT (asav A s bx m T) i ≤ aT (asav A s bx m T) j := fun i j hij hj => by
    rw [sC] at hj
    rw [sT]
    by_cases h4 : aC A < 40
    · by_cases e : j = aC A
      · rw [shf_1 h4 e]
        by_cases e2 : i = aC A
        · rw [shf_1 h4 e2]
          exact Nat.le_refl _
        · rw [shf_2 h4 e2]
          exact (hr i (by omega)).2.2.1
      · rw [shf_2 h4 e, shf_2 h4 (by omega)]
        exact hmn i j hij (by omega)
    · by_cases e : j = 39
      · rw [shf_3 h4 e]
        by_cases e2 : i = 39
        · rw [shf_3 h4 e2]
          exact Nat.le_refl _
        · rw [shf_4 h4 e2]
          exact (hr (i + 1) (by omega)).2.2.1
      · rw [shf_4 h4 e, shf_4 h4 (by omega)]
        exact hmn (i + 1) (j + 1) (by omega) (by omega)
  refine ⟨fun q => ?_, fun q => ?_⟩
  · have ec : aC A = 40 := by omega
    refine rem_1 hM 11037 0 μ (by omega) (fr.rf _ _) (fun _ _ => rfl) (fun i hi => absurd hi (by omega)) (fun μ1 o1 g1 => ?_)
    have hM1 : HM μ1 n ru ki := hM.fr o1 (fun k v e => by omega) (by omega) (fun j => by omega) (fun j => by omega)
    refine B_MO_remember_11 hM1.1.o (hM1.1.r 36 563 rfl) ⟨fun q => absurd q (by decide), fun _ => ?_⟩
    rintro μ2 rfl
    rw [(o1.1 547 37 (by omega)).1, h37, w_sub]
    have o2 : fr rmf μ1 (sI μ1 547 37 (w ((aC A : Int) - 1))) := fr.sI (F := rmf) (a := 547) (k := 37) μ1 _ (Or.inr ⟨rfl, rfl⟩)
    have o12 : fr rmf μ (sI μ1 547 37 (w ((aC A : Int) - 1))) := (o1.wide (fun a b e => Or.inl e)).trans o2
    have ne : ∀ i, xI (sI μ1 547 37 (w ((aC A : Int) - 1))) 563 i = xI μ1 563 i := fun i => by rw [xI_sI, if_neg (by omega)]
    have n8 : ∀ i, xI (sI μ1 547 37 (w ((aC A : Int) - 1))) 559 i = xI μ 559 i := fun i => by rw [xI_sI, if_neg (by omega), (o1.1 559 i (by omega)).1]
    refine rem_2 (c := 39) (by omega) (h.rm o12).hm (by rw [xI_sI, if_pos ⟨rfl, rfl⟩, ec]; rfl) (fun μ' g2 g3 g4 g5 => ⟨rfl, o12.trans g2, h.rm (o12.trans g2), by rw [sC]; omega, by rw [g5, sC, ec]; rfl, mono, fun j hj => ?_⟩) 283 0 _ (by omega) (fr.rf _ _) (fun _ _ => rfl) (fun i hi => absurd hi (by omega))
    rw [sC] at hj
    rw [sS, sB, sM, sT, ec]
    have h4 : ¬ 40 < 40 := by omega
    by_cases e : j = 39
    · subst e
      rw [shf_3 h4 rfl, shf_3 h4 rfl, shf_3 h4 rfl, shf_3 h4 rfl]
      exact ⟨hN.cp (fun i hi => by rw [g4 i (by omega), n8, Nat.zero_add]), h.kn, Nat.le_refl _, h.n0⟩
    · rw [shf_4 h4 e, shf_4 h4 e, shf_4 h4 e, shf_4 h4 e]
      obtain ⟨b1, b2, b3, b4⟩ := hr (j + 1) (by omega)
      refine ⟨b1.cp (fun i hi => ?_), b2, b3, b4⟩
      rw [g3 _ (by omega), ne, g1 _ (by omega)]
      congr 1
      omega
  · refine rem_2 (c := aC A) (by omega) hM h37 (fun μ' g2 g3 g4 g5 => ⟨rfl, g2, h.rm g2, by rw [sC]; omega, by rw [g5, sC, show min 40 (aC A + 1) = aC A + 1 by omega], mono, fun j hj => ?_⟩) 283 0 μ (by omega) (fr.rf _ _) (fun _ _ => rfl) (fun i hi => absurd hi (by omega))
    rw [sC] at hj
    rw [sS, sB, sM, sT]
    have h4 : aC A < 40 := by omega
    by_cases e : j = aC A
    · rw [shf_1 h4 e, shf_1 h4 e, shf_1 h4 e, shf_1 h4 e, e]
      exact ⟨hN.cp (fun i hi => by rw [g4 i (by omega), Nat.zero_add]), h.kn, Nat.le_refl _, h.n0⟩
    · rw [shf_2 h4 e, shf_2 h4 e, shf_2 h4 e, shf_2 h4 e]
      obtain ⟨b1, b2, b3, b4⟩ := hr j (by omega)
      exact ⟨b1.cp (fun i hi => g3 _ (by omega)), b2, b3, b4⟩
end OC
