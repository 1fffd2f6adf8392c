/-! BACK BY AN ACT, in the reference -/
section OE
variable {Γ : XG} {d n s m T a : Nat} {ru : Nat → Int} {ki bx mg : Nat → Nat → Int} {ls : Int → Int → Int → Int → Int → Int → Int} {μ : XM} {Q : Option Value → XM → Prop} {W : WL} {A : AA}
theorem undo_G {c : Nat} (hc : c < 40) (hM : HM μ n ru ki) (h37 : xI μ 547 37 = w c) (hQ : ∀ μ', fr (fun c _ => c = 559) μ μ' → (∀ i, i < 283 → xI μ' 559 i = xI μ 563 (283 * c + i)) → Q (some (.int (w c))) μ') : ∀ (f j : Nat) (μ1 : XM), j + f = 283 → fr (fun c _ => c = 559) μ μ1 → (∀ i, i < j → xI μ1 559 i = xI μ 563 (283 * c + i)) → G Γ m_MO_undo (d + 1) (0, 0) Q 26 [.ref 547, .int (w j)] [] μ1 := by
  intro f
  induction f with
  | zero =>
    intro j μ1 hj ho g2
    have hM1 : HM μ1 n ru ki := hM.fr ho (fun k v e => by omega) (by omega) (fun j => by omega) (fun j => by omega)
    refine B_MO_undo_26 hM1.1.o (hM1.1.r 30 559 rfl) (hM1.1.r 36 563 rfl) ?_
    rw [w_lt (by omega) (by omega) (by omega) (by omega), (ho.1 547 37 (by omega)).1, h37]
    exact ⟨fun q => absurd q (by omega), fun _ => hQ μ1 ho (fun i hi => g2 i (by omega))⟩
  | succ f ih =>
    intro j μ1 hj ho g2
    have hM1 : HM μ1 n ru ki := hM.fr ho (fun k v e => by omega) (by omega) (fun j => by omega) (fun j => by omega)
    have hx1 := hM1.1.1
    have e0 : (w (j : Int)).toNatClampNeg = j := w_cln (by omega)
    have e4 : (w (283 * (c : Int) + j)).toNatClampNeg = 283 * c + j := by rw [w_cl (by omega) (by omega)]; omega
    refine B_MO_undo_26 hM1.1.o (hM1.1.r 30 559 rfl) (hM1.1.r 36 563 rfl) ?_
    rw [(ho.1 547 37 (by omega)).1, h37]
    simp only [w_mul, w_add, e0, e4]
    rw [w_lt (by omega) (by omega) (by omega) (by omega)]
    refine ⟨fun _ => ⟨in562 hx1 (by omega) (by omega), ⟨by omega, in558 hx1 (by omega) (by omega)⟩, ?_⟩, fun q => absurd (by omega) q⟩
    rintro μ4 rfl
    refine ih (j + 1) _ (by omega) (ho.trans (fr.sI (F := fun c _ => c = 559) (a := 559) (k := j) μ1 _ rfl)) (fun i hi => ?_)
    by_cases e : i = j
    · subst e
      rw [xI_sI, if_pos ⟨rfl, rfl⟩, (ho.1 563 _ (by omega)).1]
    · rw [xI_sI, if_neg (by omega)]; exact g2 i (by omega)
theorem C_undoM (hd : 1 ≤ d) (h : MA μ n ru ki s bx m T mg W ls A) : Call Γ m_MO_undo d [.ref 547] μ (KI (fun r μ' => fr mof μ μ' ∧ ((0 < aC A ∧ r = w ((aC A - 1 : Nat) : Int) ∧ MA μ' n ru ki (aS A (aC A - 1)) (aB A (aC A - 1)) (aM A (aC A - 1)) (aT A (aC A - 1)) mg W ls (apop A)) ∨ (aC A = 0 ∧ r = w (-1) ∧ MA μ' n ru ki s bx m T mg W ls A)))) := by
  obtain ⟨d, rfl⟩ : ∃ e, d = e + 1 := ⟨d - 1, by omega⟩
  have hR := h.1.hm.1
  refine Call.of ok_MO_undo (Nat.le_of_ble_eq_true rfl) (B_MO_undo_0 hR.o ?_)
  rintro μ1 rfl
  have h1 := h.th
  have o1 := th0 μ
  generalize sI μ 547 0 (w 0) = μ1 at *
  obtain ⟨c40, h37, hmn, hr⟩ := h1.2
  rw [h37, w_inj (by omega) (by omega) (by omega) (by omega)]
  refine ⟨fun q => ⟨_, rfl, o1.wide (fun _ _ => mof_0), Or.inr ⟨by omega, rfl, h1⟩⟩, fun q => ?_⟩
  rintro μ2 rfl
  have o2 : fr rmf μ1 (sI μ1 547 37 (w (aC A : Int) - w 1)) := fr.sI (F := rmf) (a := 547) (k := 37) μ1 _ (Or.inr ⟨rfl, rfl⟩)
  have h2 := h1.1.rm o2
  have e37 : xI (sI μ1 547 37 (w (aC A : Int) - w 1)) 547 37 = w ((aC A - 1 : Nat) : Int) := by
    rw [xI_sI, if_pos ⟨rfl, rfl⟩, w_sub]
    congr 1
    omega
  have ne : ∀ i, xI (sI μ1 547 37 (w (aC A : Int) - w 1)) 563 i = xI μ1 563 i := fun i => by rw [xI_sI, if_neg (by omega)]
  generalize sI μ1 547 37 (w (aC A : Int) - w 1) = μ2 at *
  obtain ⟨b1, b2, b3, b4⟩ := hr (aC A - 1) (by omega)
  refine undo_G (c := aC A - 1) (by omega) h2.hm e37 (fun μ' g1 g2 => ?_) 283 0 μ2 (by omega) (fr.rf _ _) (fun i hi => absurd hi (by omega))
  have hN' : NR μ' 559 0 (aS A (aC A - 1)) (aB A (aC A - 1)) (aM A (aC A - 1)) (aT A (aC A - 1)) mg := b1.cp (fun i hi => by rw [Nat.zero_add, g2 i (by omega), ne])
  refine ⟨_, rfl, (o1.wide (fun _ _ => mof_0)).trans ((o2.wide (fun _ _ => mof_r)).trans (g1.wide (fun _ _ => mof_a))), Or.inl ⟨by omega, rfl, h2.row g1 hN' b2 b4, ?_⟩⟩
  refine ⟨by show aC A - 1 ≤ 40; omega, by rw [(g1.1 547 37 (by omega)).1]; exact e37, fun i j hij hj => hmn i j hij (by have : j < aC A - 1 := hj; omega), fun j hj => ?_⟩
  have hj' : j < aC A - 1 := hj
  obtain ⟨c1, c2, c3, c4⟩ := hr j (by omega)
  exact ⟨c1.cp (fun i hi => by rw [(g1.1 563 _ (by omega)).1, ne]), c2, hmn j (aC A - 1) (by omega) (by omega), c4⟩
theorem C_drawM (hd : 1 ≤ d) (hR : RM μ) {j : Nat} (h0 : 0 < j) (h1 : j < 1000) : Call Γ m_MO_draw d [.ref 547, .int (w j)] μ (KI (fun r μ' => fr (fun c i => c = 547 ∧ i = 38) μ μ' ∧ xL μ' 547 38 = nxd (xL μ 547 38) ∧ r = w (drw (nxd (xL μ 547 38)) j))) := by
  obtain ⟨d, rfl⟩ : ∃ e, d = e + 1 := ⟨d - 1, by omega⟩
  refine Call.of ok_MO_draw (Nat.le_of_ble_eq_true rfl) (B_MO_draw_0 hR.o ?_)
  rintro μ1 rfl
  rw [← nxd_e, xL_sL, if_pos ⟨rfl, rfl⟩, w_l (by omega) (by omega), shv_w, drw_w _ h0 h1]
  refine ⟨fun z => ?_, _, rfl, fr.sL (F := fun c i => c = 547 ∧ i = 38) (a := 547) (k := 38) μ _ ⟨rfl, rfl⟩, by rw [xL_sL, if_pos ⟨rfl, rfl⟩], rfl⟩
  rw [show (0 : Int64) = wl 0 from rfl, wl_inj (by omega) (by omega) (by omega) (by omega)] at z
  omega
end OE
