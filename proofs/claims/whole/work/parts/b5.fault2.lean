/-! FAULTS ON BOTH SIDES, told -/
section SH
variable {Γ : XG} {d : Nat} {h n s m T lt k tn cl cf si mi Ti : Nat} {ru : Nat → Int} {ki bx mg lo fd bi gi : Nat → Nat → Int} {lz : Nat → Nat} {lc : Nat → Nat → Int} {sel hab : Int} {pz : Nat → Nat} {pv : Nat → Nat → Nat → Int} {tb : Nat → Nat} {ik : Bool} {A : AA} {W : WL} {μ : XM}
/-- a frame below 547, off the statics -/
def lofr (μ μ' : XM) : Prop := fof (fun c => 32 ≤ c ∧ c < 547) μ μ'
theorem C_reads0 (hd : 50 ≤ d) (hF : FI μ h n ru ki s bx m T mg A lt lz lc sel k pz pv tn tb hab cl lo cf fd ik si bi mi Ti gi) : Call Γ m_FB_readsAs d [.ref 32, .int (w 0)] μ (KI (fun r μ' => lofr μ μ' ∧ FI μ' h n ru ki s bx m T mg A lt lz lc sel k pz pv tn tb hab cl lo cf fd ik si bi mi Ti gi ∧ match hse tb tn with
    | .inl q => r = w 0 ∧ xI μ' 33 3 = w q
    | .inr X => r = w 1 ∧ ∃ g, xR μ' 32 2 = some g ∧ HH μ' g ∧ ((h = 35 ∧ g = 50) ∨ (h = 50 ∧ g = 35)) ∧ HF μ' g X)) := by
  obtain ⟨d, rfl⟩ : ∃ e, d = e + 1 := ⟨d - 1, by omega⟩
  have hR := hF.1.1.1
  obtain ⟨g, g1, g2, g3⟩ := hF.2.2.2.2.2.2.2.2.2
  have gs := g1.1
  unfold HS at gs
  refine Call.of ok_FB_readsAs (Nat.le_of_ble_eq_true rfl) (B_FB_readsAs_0 hR.ob (hR.r 32 6 66 rfl) (hR.r 32 0 33 rfl) (hR.r 32 3 65 rfl) g2 g1.ob ?_)
  refine ⟨fun _ => ?_, fun z => absurd rfl z⟩
  refine (C_readHouseF (by omega) g1 hF.2.2.2.2.2.2.2.2.1 hF.2.2.2.1).conseq (KI.mono ?_)
  rintro r μ1 ⟨o1, t1, h1⟩
  have hF1 := FIs hF o1 (fun c z => by unfold hcq at z; exact z.elim Or.inl (fun z => Or.inr (Or.inl ⟨g, g2, z⟩))) t1
  have lo1 : lofr μ μ1 := o1.wide (fun c z => by unfold hcq at z; omega)
  have gg : HH μ1 g := g1.of o1.2.2.1 o1.2.2.2
  have g22 : xR μ1 32 2 = some g := by rw [o1.2.2.1]; exact g2
  revert h1
  generalize hse tb tn = X
  intro h1
  match X, h1 with
  | .inl q, h2 => exact ⟨Or.inl h2.1, _, rfl, lo1, hF1, h2⟩
  | .inr X, h2 => exact ⟨Or.inr h2.1, _, rfl, lo1, hF1, h2.1, g, g22, gg, g3, h2.2⟩
theorem C_reads1 (hd : 50 ≤ d) (hF : FI μ h n ru ki s bx m T mg A lt lz lc sel k pz pv tn tb hab cl lo cf fd ik si bi mi Ti gi) : Call Γ m_FB_readsAs d [.ref 32, .int (w 1)] μ (KI (fun r μ' => lofr μ μ' ∧ FI μ' h n ru ki s bx m T mg A lt lz lc sel k pz pv tn tb hab cl lo cf fd ik si bi mi Ti gi ∧ match law tb tn with
    | .inl q => r = w 0 ∧ xI μ' 33 3 = w q
    | .inr u => r = w 1 ∧ LF μ' (502 + 9 * lt) u.1.length (fun i => u.1.getD i 0))) := by
  obtain ⟨d, rfl⟩ : ∃ e, d = e + 1 := ⟨d - 1, by omega⟩
  have hR := hF.1.1.1
  obtain ⟨g, g1, g2, g3⟩ := hF.2.2.2.2.2.2.2.2.2
  have hl4 := hF.2.1.1
  obtain ⟨r1, r2, -⟩ := hR.2.2.2.2.2.2.2 lt (by omega)
  refine Call.of ok_FB_readsAs (Nat.le_of_ble_eq_true rfl) (B_FB_readsAs_0 hR.ob (hR.r 32 6 66 rfl) (hR.r 32 0 33 rfl) (hR.r 32 3 65 rfl) g2 g1.ob ?_)
  refine ⟨fun z => absurd z (by decide), fun _ => ⟨fun _ => ?_, fun z => absurd rfl z⟩⟩
  rw [hF.2.1.2.1, w_cln (by omega)]
  refine ⟨inb_of sh66.2 (by omega) hR.1 (by omega) (by omega), 502 + 9 * lt, r1, r2.ob, ?_⟩
  refine (C_readFromL (L := 502 + 9 * lt) (by omega) hF.2.2.2.1 r2 hF.2.2.2.2.2.2.2.2.1 (by omega)).conseq (KI.mono ?_)
  rintro r μ1 ⟨o1, t1, h1⟩
  have hF1 := FIs hF o1 (fun c z => by unfold lfr at z; omega) t1
  have lo1 : lofr μ μ1 := o1.wide (fun c z => by unfold lfr at z; omega)
  revert h1
  generalize law tb tn = X
  intro h1
  match X, h1 with
  | .inl q, h2 => exact ⟨Or.inl h2.1, _, rfl, lo1, hF1, h2⟩
  | .inr u, h2 => exact ⟨Or.inr h2.1, _, rfl, lo1, hF1, h2⟩
theorem C_reads2 (hd : 50 ≤ d) (hF : FI μ h n ru ki s bx m T mg A lt lz lc sel k pz pv tn tb hab cl lo cf fd ik si bi mi Ti gi) : Call Γ m_FB_readsAs d [.ref 32, .int (w 2)] μ (KI (fun r μ' => lofr μ μ' ∧ FI μ' h n ru ki s bx m T mg A lt lz lc sel k pz pv tn tb hab cl lo cf fd ik si bi mi Ti gi ∧ match plF tb tn 16 0 0 (fun _ _ => 0) with
    | .inl q => r = w 0 ∧ xI μ' 33 3 = w q
    | .inr u => r = w 1 ∧ xI μ' (506 + 9 * k) 4 = w u.1 ∧ ∀ i, i < u.1 → xI μ' (507 + 9 * k) i = w (u.2 i 0) ∧ xI μ' (508 + 9 * k) i = w (u.2 i 1) ∧ xI μ' (509 + 9 * k) i = w (u.2 i 2) ∧ xI μ' (510 + 9 * k) i = w (u.2 i 3))) := by
  obtain ⟨d, rfl⟩ : ∃ e, d = e + 1 := ⟨d - 1, by omega⟩
  have hR := hF.1.1.1
  obtain ⟨g, g1, g2, g3⟩ := hF.2.2.2.2.2.2.2.2.2
  have hk4 := hF.2.2.1.2.1
  obtain ⟨-, -, r3, -⟩ := hR.2.2.2.2.2.2.2 k (by omega)
  refine Call.of ok_FB_readsAs (Nat.le_of_ble_eq_true rfl) (B_FB_readsAs_0 hR.ob (hR.r 32 6 66 rfl) (hR.r 32 0 33 rfl) (hR.r 32 3 65 rfl) g2 g1.ob ?_)
  refine ⟨fun z => absurd z (by decide), fun _ => ⟨fun z => absurd z (by decide), fun _ => ?_⟩⟩
  rw [hF.2.2.1.1, w_cln (by omega)]
  refine ⟨inb_of sh66.1 (by omega) hR.1 (by omega) (by omega), 506 + 9 * k, r3, ob_of (shplan k (by omega)).1 (by omega) hR.1, ?_⟩
  refine (C_readPlanF (p := k) (by omega) hR hF.2.2.2.2.2.2.2.2.1 (by omega) hF.2.2.2.1).conseq (KI.mono ?_)
  rintro r μ1 ⟨o1, t1, h1⟩
  have hF1 := FIs hF o1 (fun c z => by unfold pcq at z; omega) t1
  have lo1 : lofr μ μ1 := o1.wide (fun c z => by unfold pcq at z; omega)
  revert h1
  generalize plF tb tn 16 0 0 (fun _ _ => 0) = X
  intro h1
  match X, h1 with
  | .inl q, h2 => exact ⟨Or.inl h2.1, _, rfl, lo1, hF1, h2⟩
  | .inr u, h2 => exact ⟨Or.inr h2.1, _, rfl, lo1, hF1, h2⟩
end SH
section SI
variable {Γ : XG} {d c : Nat} {xs : Nat → Int32} {μ : XM}
theorem S_fault (hf : FM Γ) (hd : 61 ≤ d) (hc : c ≤ 512) (hK : KS xs μ c) (x : Int32) : Call Γ m_FB_fault d [.ref 32, .int x] μ (KI (fun r μ1 => (∀ j, xI μ1 31 j = xs j) ∧ Call Γ m_MO_fault d [.ref 547, .int x] μ1 (KI (fun r' μ2 => r' = r ∧ KS xs μ2 (c + 1))))) := by
  obtain ⟨h, W, n, ru, ki, s, bx, m, T, mg, A, lt, lz, lc, sel, k, pz, pv, tn, tb, hab, cl, lo, cf, fd, ik, si, bi, mi, Ti, gi, hF, hM, hT, hx⟩ := hK
  obtain ⟨x, rfl, x1, x2⟩ := w_ex x
  obtain ⟨d, rfl⟩ : ∃ e, d = e + 1 := ⟨d - 1, by omega⟩
  have hR := hF.1.1.1
  have hbb : ∀ j, j < tn → 1 ≤ tb j ∧ tb j ≤ 255 := fun j hj => (hF.2.2.2.1.2.2.2.2 j hj).2
  have fin : ∀ (μ1 μ2 : XM), FI μ1 h n ru ki s bx m T mg A lt lz lc sel k pz pv tn tb hab cl lo cf fd ik si bi mi Ti gi → (∀ j, xI μ1 31 j = xs j) → MI μ1 W n ru ki s bx m T mg A lt lz lc sel k pz pv tn tb hab cl lo cf fd ik si bi mi Ti gi → mfx μ1 μ2 → KS xs μ2 (c + 1) := fun μ1 μ2 f1 q1 m1 o2 => KSw f1 (MIs m1 o2.1 o2.2.1 o2.2.2) (o2.1.cls (fun c j z => sok_hi z)) (fr.lo o2.1 (fun c j z => sok_hi z)) (by omega) q1
  refine Call.of ok_FB_fault (Nat.le_of_ble_eq_true rfl) (B_FB_fault_0 hR.ob ?_)
  rw [w_lt (b := 0) (by omega) (by omega) (by omega) (by omega), w_lt (a := 2) (by omega) (by omega) (by omega) (by omega)]
  have hneg : ¬ (0 ≤ x ∧ x ≤ 2) → KI (fun r μ1 => (∀ j, xI μ1 31 j = xs j) ∧ Call Γ m_MO_fault (d + 1) [.ref 547, .int (w x)] μ1 (KI (fun r' μ2 => r' = r ∧ KS xs μ2 (c + 1)))) (some (.int (w (-2)))) μ := by
    intro hz
    refine ⟨_, rfl, hx, (C_faultMn hf (by omega) hM x1 x2 hz).conseq (KI.mono ?_)⟩
    rintro r' μ2 ⟨o2, rfl⟩
    exact ⟨rfl, fin _ _ hF hx hM o2⟩
  refine ⟨fun z => hneg (by omega), fun z => ⟨fun z2 => hneg (by omega), fun z2 => ?_⟩⟩
  rcases (show x = 0 ∨ x = 1 ∨ x = 2 by omega) with rfl | rfl | rfl
  · refine (C_reads0 (by omega) hF).conseq (KI.mono ?_)
    rintro r μ1 ⟨o1, hF1, h1⟩
    have hM1 := MIx hM (o1.mdl (fun c z => z))
    have hx1 : ∀ j, xI μ1 31 j = xs j := fun j => by rw [o1.1 31 (by omega)]; exact hx j
    have hq := hse_q (tb := tb) (n := tn) (q := (hse tb tn).elim id (fun _ => 0)) hbb
    have m1 := C_faultM0 (d := d + 1) hf (by omega) hM1
    revert h1 hq m1
    generalize hse tb tn = X
    intro h1 hq m1
    match X, h1, hq, m1 with
    | .inl q, h2, hq, m1 =>
      obtain ⟨rfl, h3⟩ := h2
      refine ⟨fun _ => ⟨33, hF1.1.1.1.r 32 0 33 rfl, ob_of rfl (by omega) hF1.1.1.1.1, _, rfl, hx1, m1.conseq (KI.mono ?_)⟩, fun z => absurd rfl z⟩
      rintro r' μ2 ⟨o2, rfl, h4⟩
      exact ⟨by rw [h4, h3], fin _ _ hF1 hx1 hM1 o2⟩
    | .inr X, h2, hq, m1 =>
      obtain ⟨rfl, -⟩ := h2
      refine ⟨fun z => absurd z w01, fun _ => ⟨_, rfl, hx1, m1.conseq (KI.mono ?_)⟩⟩
      rintro r' μ2 ⟨o2, rfl, h4, -⟩
      exact ⟨h4, fin _ _ hF1 hx1 hM1 o2⟩
  · refine (C_reads1 (by omega) hF).conseq (KI.mono ?_)
    rintro r μ1 ⟨o1, hF1, h1⟩
    have hM1 := MIx hM (o1.mdl (fun c z => z))
    have hx1 : ∀ j, xI μ1 31 j = xs j := fun j => by rw [o1.1 31 (by omega)]; exact hx j
    have m1 := C_faultM1 (d := d + 1) hf (by omega) hM1
    revert h1 m1
    generalize law tb tn = X
    intro h1 m1
    match X, h1, m1 with
    | .inl q, h2, m1 =>
      obtain ⟨rfl, h3⟩ := h2
      refine ⟨fun _ => ⟨33, hF1.1.1.1.r 32 0 33 rfl, ob_of rfl (by omega) hF1.1.1.1.1, _, rfl, hx1, m1.conseq (KI.mono ?_)⟩, fun z => absurd rfl z⟩
      rintro r' μ2 ⟨o2, rfl, h4⟩
      exact ⟨by rw [h4, h3], fin _ _ hF1 hx1 hM1 o2⟩
    | .inr X, h2, m1 =>
      obtain ⟨rfl, -⟩ := h2
      refine ⟨fun z => absurd z w01, fun _ => ⟨_, rfl, hx1, m1.conseq (KI.mono ?_)⟩⟩
      rintro r' μ2 ⟨o2, rfl, h4⟩
      exact ⟨h4, fin _ _ hF1 hx1 hM1 o2⟩
  · refine (C_reads2 (by omega) hF).conseq (KI.mono ?_)
    rintro r μ1 ⟨o1, hF1, h1⟩
    have hM1 := MIx hM (o1.mdl (fun c z => z))
    have hx1 : ∀ j, xI μ1 31 j = xs j := fun j => by rw [o1.1 31 (by omega)]; exact hx j
    have m1 := C_faultM2 (d := d + 1) hf (by omega) hM1
    revert h1 m1
    generalize plF tb tn 16 0 0 (fun _ _ => 0) = X
    intro h1 m1
    match X, h1, m1 with
    | .inl q, h2, m1 =>
      obtain ⟨rfl, h3⟩ := h2
      refine ⟨fun _ => ⟨33, hF1.1.1.1.r 32 0 33 rfl, ob_of rfl (by omega) hF1.1.1.1.1, _, rfl, hx1, m1.conseq (KI.mono ?_)⟩, fun z => absurd rfl z⟩
      rintro r' μ2 ⟨o2, rfl, h4⟩
      exact ⟨by rw [h4, h3], fin _ _ hF1 hx1 hM1 o2⟩
    | .inr X, h2, m1 =>
      obtain ⟨rfl, -⟩ := h2
      refine ⟨fun z => absurd z w01, fun _ => ⟨_, rfl, hx1, m1.conseq (KI.mono ?_)⟩⟩
      rintro r' μ2 ⟨o2, rfl, h4, -⟩
      exact ⟨h4, fin _ _ hF1 hx1 hM1 o2⟩
end SI
