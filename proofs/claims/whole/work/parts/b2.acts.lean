/-! ACTS ON BOTH SIDES (printed by wip/tools/genb2.py) -/
theorem pfm_T {n : Nat} {ru : Nat → Int} {ki : Nat → Nat → Int} {ls : Int → Int → Int → Int → Int → Int → Int} {pv : Nat → Nat → Int} : ∀ (f i s : Nat) (bx : Nat → Nat → Int) (m T : Nat) (mg : Nat → Nat → Int) (A : AA), (pfm n ru ki ls pv f i s bx m T mg A).2.2.2.2.1 ≤ T + f
  | 0, i, s, bx, m, T, mg, A => by rw [pfm]; exact Nat.le_refl _
  | f + 1, i, s, bx, m, T, mg, A => by
    by_cases e : stb n ru bx s m pv i
    · have e1 : pfm n ru ki ls pv (f + 1) i s bx m T mg A = pfm n ru ki ls pv f (i + 1) (ga0 s pv i) (ga1 ru bx s m pv i) (ga2 m pv i) (gaT T pv i) (gag ls ki bx m s T mg pv i) (gaA ru bx s m T A pv i) := by rw [pfm]; exact if_pos e
      rw [e1]
      have := pfm_T (n := n) (ru := ru) (ki := ki) (ls := ls) (pv := pv) f (i + 1) (ga0 s pv i) (ga1 ru bx s m pv i) (ga2 m pv i) (gaT T pv i) (gag ls ki bx m s T mg pv i) (gaA ru bx s m T A pv i)
      have h2 : gaT T pv i ≤ T + 1 := by unfold gaT; split <;> omega
      omega
    · have e1 : pfm n ru ki ls pv (f + 1) i s bx m T mg A = (i, s, bx, m, T, mg, A) := by rw [pfm]; exact if_neg e
      rw [e1]
      exact Nat.le_add_right _ _
section SA
variable {Γ : XG} {d c : Nat} {xs : Nat → Int32} {μ : XM}
theorem KSw {h n s m T lt k tn cl cf si mi Ti : Nat} {ru : Nat → Int} {ki bx mg lo fd bi gi : Nat → Nat → Int} {lz : Nat → Nat} {lc : Nat → Nat → Int} {sel hab : Int} {pz : Nat → Nat} {pv : Nat → Nat → Nat → Int} {tb : Nat → Nat} {ik : Bool} {A : AA} {W : WL} {μ1 μ2 : XM} (hF : FI μ1 h n ru ki s bx m T mg A lt lz lc sel k pz pv tn tb hab cl lo cf fd ik si bi mi Ti gi) (hM : MI μ2 W n ru ki s bx m T mg A lt lz lc sel k pz pv tn tb hab cl lo cf fd ik si bi mi Ti gi) (o : cls μ1 μ2) (e : ∀ c j, c < 32 → xI μ2 c j = xI μ1 c j) (hT : T ≤ 60 * c ∧ Ti ≤ 60 * c) (hx : ∀ j, xI μ1 31 j = xs j) : KS xs μ2 c := ⟨h, W, n, ru, ki, s, bx, m, T, mg, A, lt, lz, lc, sel, k, pz, pv, tn, tb, hab, cl, lo, cf, fd, ik, si, bi, mi, Ti, gi, FIx hF o e, hM, hT, fun j => by rw [e _ _ (by omega)]; exact hx j⟩
theorem fr.lo {F : Nat → Nat → Prop} {μ1 μ2 : XM} (o : fr F μ1 μ2) (hp : ∀ c j, F c j → 547 ≤ c) : ∀ c j, c < 32 → xI μ2 c j = xI μ1 c j := fun c j hc => (o.1 c j (fun z => by have := hp c j z; omega)).1
theorem S_put (hf : FM Γ) (hd : 60 ≤ d) (hc : c ≤ 512) (hK : KS xs μ c) (x y : Int32) (l : Int) (l0 : 0 ≤ l) (l1 : l ≤ 1) : Call Γ m_FB_put d [.ref 32, .int x, .int y, .int (w l)] μ (KI (fun r μ1 => (∀ j, xI μ1 31 j = xs j) ∧ Call Γ m_MO_put3 d [.ref 547, .int x, .int y, .int (w l)] μ1 (KI (fun r' μ2 => r' = r ∧ KS xs μ2 (c + 1))))) := by
  obtain ⟨h, W, n, ru, ki, s, bx, m, T, mg, A, lt, lz, lc, sel, k, pz, pv, tn, tb, hab, cl, lo, cf, fd, ik, si, bi, mi, Ti, gi, hF, hM, hT, hx⟩ := hK
  obtain ⟨x, rfl, x1, x2⟩ := w_ex x
  obtain ⟨y, rfl, y1, y2⟩ := w_ex y
  refine (C_putF (by omega) (by omega) hF.1 x1 x2 y1 y2 l0 l1).conseq (KI.mono ?_)
  rintro r μ1 ⟨o1, hh⟩
  have hM1 := MIx hM (o1.mdl (fun c z => wcr_lo z))
  have hx1 : ∀ j, xI μ1 31 j = xs j := fun j => by rw [o1.1 31 (fun z => by have := wcr_lo z; omega)]; exact hx j
  refine ⟨hx1, (C_putM (by omega) hM1.1 x1 x2 y1 y2 l0 l1).conseq (KI.mono ?_)⟩
  rintro r' μ2 ⟨o2, gg⟩
  have oc := o2.cls (fun c j z => mof_hi z)
  have oe := fr.lo o2 (fun c j z => mof_hi z)
  rcases hh with ⟨a1, rfl, f1⟩ | ⟨a1, rfl, f1⟩ <;> rcases gg with ⟨b1, rfl, f2⟩ | ⟨b1, rfl, f2⟩
  · exact ⟨rfl, KSw (FIw hF o1 f1) (MIw hM1 o2 f2) oc oe ⟨by omega, by omega⟩ hx1⟩
  · exact absurd a1 b1
  · exact absurd b1 a1
  · exact ⟨rfl, KSw (FIw hF o1 f1) (MIw hM1 o2 f2) oc oe ⟨by omega, by omega⟩ hx1⟩
theorem S_take (hf : FM Γ) (hd : 60 ≤ d) (hc : c ≤ 512) (hK : KS xs μ c) (x : Int32) : Call Γ m_FB_take d [.ref 32, .int x] μ (KI (fun r μ1 => (∀ j, xI μ1 31 j = xs j) ∧ Call Γ m_MO_take d [.ref 547, .int x] μ1 (KI (fun r' μ2 => r' = r ∧ KS xs μ2 (c + 1))))) := by
  obtain ⟨h, W, n, ru, ki, s, bx, m, T, mg, A, lt, lz, lc, sel, k, pz, pv, tn, tb, hab, cl, lo, cf, fd, ik, si, bi, mi, Ti, gi, hF, hM, hT, hx⟩ := hK
  obtain ⟨x, rfl, x1, x2⟩ := w_ex x
  refine (C_takeF (by omega) (by omega) hF.1 x1 x2).conseq (KI.mono ?_)
  rintro r μ1 ⟨o1, hh⟩
  have hM1 := MIx hM (o1.mdl (fun c z => wcr_lo z))
  have hx1 : ∀ j, xI μ1 31 j = xs j := fun j => by rw [o1.1 31 (fun z => by have := wcr_lo z; omega)]; exact hx j
  refine ⟨hx1, (C_takeM hf (by omega) hM1.1 x1 x2).conseq (KI.mono ?_)⟩
  rintro r' μ2 ⟨o2, gg⟩
  have oc := o2.cls (fun c j z => mof_hi z)
  have oe := fr.lo o2 (fun c j z => mof_hi z)
  rcases hh with ⟨a1, rfl, f1⟩ | ⟨a1, rfl, f1⟩ <;> rcases gg with ⟨b1, rfl, f2⟩ | ⟨b1, rfl, f2⟩
  · exact ⟨rfl, KSw (FIw hF o1 f1) (MIw hM1 o2 f2) oc oe ⟨by omega, by omega⟩ hx1⟩
  · exact absurd a1 b1
  · exact absurd b1 a1
  · exact ⟨rfl, KSw (FIw hF o1 f1) (MIw hM1 o2 f2) oc oe ⟨by omega, by omega⟩ hx1⟩
theorem S_label (hf : FM Γ) (hd : 60 ≤ d) (hc : c ≤ 512) (hK : KS xs μ c) (x : Int32) : Call Γ m_FB_label d [.ref 32, .int x] μ (KI (fun r μ1 => (∀ j, xI μ1 31 j = xs j) ∧ Call Γ m_MO_label d [.ref 547, .int x] μ1 (KI (fun r' μ2 => r' = r ∧ KS xs μ2 (c + 1))))) := by
  obtain ⟨h, W, n, ru, ki, s, bx, m, T, mg, A, lt, lz, lc, sel, k, pz, pv, tn, tb, hab, cl, lo, cf, fd, ik, si, bi, mi, Ti, gi, hF, hM, hT, hx⟩ := hK
  obtain ⟨x, rfl, x1, x2⟩ := w_ex x
  refine (C_labelF (by omega) (by omega) hF.1 x1 x2).conseq (KI.mono ?_)
  rintro r μ1 ⟨o1, hh⟩
  have hM1 := MIx hM (o1.mdl (fun c z => wcr_lo z))
  have hx1 : ∀ j, xI μ1 31 j = xs j := fun j => by rw [o1.1 31 (fun z => by have := wcr_lo z; omega)]; exact hx j
  refine ⟨hx1, (C_labelM (by omega) hM1.1 x1 x2).conseq (KI.mono ?_)⟩
  rintro r' μ2 ⟨o2, gg⟩
  have oc := o2.cls (fun c j z => mof_hi z)
  have oe := fr.lo o2 (fun c j z => mof_hi z)
  rcases hh with ⟨a1, rfl, f1⟩ | ⟨a1, rfl, f1⟩ <;> rcases gg with ⟨b1, rfl, f2⟩ | ⟨b1, rfl, f2⟩
  · exact ⟨rfl, KSw (FIw hF o1 f1) (MIw hM1 o2 f2) oc oe ⟨by omega, by omega⟩ hx1⟩
  · exact absurd a1 b1
  · exact absurd b1 a1
  · exact ⟨rfl, KSw (FIw hF o1 f1) (MIw hM1 o2 f2) oc oe ⟨by omega, by omega⟩ hx1⟩
theorem S_months (hf : FM Γ) (hd : 60 ≤ d) (hc : c ≤ 512) (hK : KS xs μ c) (x : Int32) : Call Γ m_FB_months d [.ref 32, .int x] μ (KI (fun r μ1 => (∀ j, xI μ1 31 j = xs j) ∧ Call Γ m_MO_months d [.ref 547, .int x] μ1 (KI (fun r' μ2 => r' = r ∧ KS xs μ2 (c + 1))))) := by
  obtain ⟨h, W, n, ru, ki, s, bx, m, T, mg, A, lt, lz, lc, sel, k, pz, pv, tn, tb, hab, cl, lo, cf, fd, ik, si, bi, mi, Ti, gi, hF, hM, hT, hx⟩ := hK
  obtain ⟨x, rfl, x1, x2⟩ := w_ex x
  refine (C_monthsF (by omega) (by omega) hF.1 x1 x2).conseq (KI.mono ?_)
  rintro r μ1 ⟨o1, hh⟩
  have hM1 := MIx hM (o1.mdl (fun c z => wcr_lo z))
  have hx1 : ∀ j, xI μ1 31 j = xs j := fun j => by rw [o1.1 31 (fun z => by have := wcr_lo z; omega)]; exact hx j
  refine ⟨hx1, (C_monthsM (by omega) hM1.1 x1 x2).conseq (KI.mono ?_)⟩
  rintro r' μ2 ⟨o2, gg⟩
  have oc := o2.cls (fun c j z => mof_hi z)
  have oe := fr.lo o2 (fun c j z => mof_hi z)
  rcases hh with ⟨a1, rfl, f1⟩ | ⟨a1, rfl, f1⟩ <;> rcases gg with ⟨b1, rfl, f2⟩ | ⟨b1, rfl, f2⟩
  · exact ⟨rfl, KSw (FIw hF o1 f1) (MIw hM1 o2 f2) oc oe ⟨by omega, by omega⟩ hx1⟩
  · exact absurd a1 b1
  · exact absurd b1 a1
  · exact ⟨rfl, KSw (FIw hF o1 f1) (MIw hM1 o2 f2) oc oe ⟨by omega, by omega⟩ hx1⟩
theorem S_off (hf : FM Γ) (hd : 60 ≤ d) (hc : c ≤ 512) (hK : KS xs μ c) (x : Int32) : Call Γ m_FB_off d [.ref 32, .int x] μ (KI (fun r μ1 => (∀ j, xI μ1 31 j = xs j) ∧ Call Γ m_MO_off d [.ref 547, .int x] μ1 (KI (fun r' μ2 => r' = r ∧ KS xs μ2 (c + 1))))) := by
  obtain ⟨h, W, n, ru, ki, s, bx, m, T, mg, A, lt, lz, lc, sel, k, pz, pv, tn, tb, hab, cl, lo, cf, fd, ik, si, bi, mi, Ti, gi, hF, hM, hT, hx⟩ := hK
  obtain ⟨x, rfl, x1, x2⟩ := w_ex x
  refine (C_offF (by omega) (by omega) hF.1 x1 x2).conseq (KI.mono ?_)
  rintro r μ1 ⟨o1, hh⟩
  have hM1 := MIx hM (o1.mdl (fun c z => wcr_lo z))
  have hx1 : ∀ j, xI μ1 31 j = xs j := fun j => by rw [o1.1 31 (fun z => by have := wcr_lo z; omega)]; exact hx j
  refine ⟨hx1, (C_offM (by omega) hM1.1 x1 x2).conseq (KI.mono ?_)⟩
  rintro r' μ2 ⟨o2, gg⟩
  have oc := o2.cls (fun c j z => mof_hi z)
  have oe := fr.lo o2 (fun c j z => mof_hi z)
  rcases hh with ⟨a1, rfl, f1⟩ | ⟨a1, rfl, f1⟩ <;> rcases gg with ⟨b1, rfl, f2⟩ | ⟨b1, rfl, f2⟩
  · exact ⟨rfl, KSw (FIw hF o1 f1) (MIw hM1 o2 f2) oc oe ⟨by omega, by omega⟩ hx1⟩
  · exact absurd a1 b1
  · exact absurd b1 a1
  · exact ⟨rfl, KSw (FIw hF o1 f1) (MIw hM1 o2 f2) oc oe ⟨by omega, by omega⟩ hx1⟩
theorem S_years (hf : FM Γ) (hd : 60 ≤ d) (hc : c ≤ 512) (hK : KS xs μ c) (x : Int32) (y : Int64) : Call Γ m_FB_years d [.ref 32, .int x, .long y] μ (KI (fun r μ1 => (∀ j, xI μ1 31 j = xs j) ∧ Call Γ m_MO_years d [.ref 547, .int x, .long y] μ1 (KI (fun r' μ2 => r' = r ∧ KS xs μ2 (c + 1))))) := by
  obtain ⟨h, W, n, ru, ki, s, bx, m, T, mg, A, lt, lz, lc, sel, k, pz, pv, tn, tb, hab, cl, lo, cf, fd, ik, si, bi, mi, Ti, gi, hF, hM, hT, hx⟩ := hK
  obtain ⟨x, rfl, x1, x2⟩ := w_ex x
  refine (C_yearsF (by omega) (by omega) hF.1 hF.2.2.2.2.1.1 hF.2.2.2.2.1.2.1 hF.2.2.2.2.1.2.2 x1 x2).conseq (KI.mono ?_)
  rintro r μ1 ⟨o1, hh⟩
  have hM1 := MIx hM (o1.mdl (fun c z => wcr_lo z))
  have hx1 : ∀ j, xI μ1 31 j = xs j := fun j => by rw [o1.1 31 (fun z => by have := wcr_lo z; omega)]; exact hx j
  refine ⟨hx1, (C_yearsM hf (by omega) hM1.1 hM1.2.2.2.1 hF.2.2.2.2.1.2.1 hF.2.2.2.2.1.2.2 x1 x2).conseq (KI.mono ?_)⟩
  rintro r' μ2 ⟨o2, gg⟩
  have oc := o2.cls (fun c j z => mof_hi z)
  have oe := fr.lo o2 (fun c j z => mof_hi z)
  rcases hh with ⟨a1, rfl, f1⟩ | ⟨a1, rfl, f1⟩ <;> rcases gg with ⟨b1, rfl, f2⟩ | ⟨b1, rfl, f2⟩
  · exact ⟨rfl, KSw (FIw hF o1 f1) (MIw hM1 o2 f2) oc oe ⟨(by have hz := lvy_2 (n := n) (ru := ru) (ki := ki) (ls := lsof sel lz lc) (hab := hab) x.toNat (s, bx, m, T, mg, A, y); have e3 : l3 (s, bx, m, T, mg, A, y) = T := rfl; have hcp := a1; unfold cpm at hcp; omega), by omega⟩ hx1⟩
  · exact absurd a1 b1
  · exact absurd b1 a1
  · exact ⟨rfl, KSw (FIw hF o1 f1) (MIw hM1 o2 f2) oc oe ⟨by omega, by omega⟩ hx1⟩
theorem S_undo (hf : FM Γ) (hd : 60 ≤ d) (hc : c ≤ 512) (hK : KS xs μ c) : Call Γ m_FB_undo d [.ref 32] μ (KI (fun r μ1 => (∀ j, xI μ1 31 j = xs j) ∧ Call Γ m_MO_undo d [.ref 547] μ1 (KI (fun r' μ2 => r' = r ∧ KS xs μ2 (c + 1))))) := by
  obtain ⟨h, W, n, ru, ki, s, bx, m, T, mg, A, lt, lz, lc, sel, k, pz, pv, tn, tb, hab, cl, lo, cf, fd, ik, si, bi, mi, Ti, gi, hF, hM, hT, hx⟩ := hK
  have hle : 0 < aC A → aT A (aC A - 1) ≤ T := fun z => (hM.1.2.2.2.2 (aC A - 1) (by omega)).2.2.1
  refine (C_undoF (by omega) hF.1).conseq (KI.mono ?_)
  rintro r μ1 ⟨o1, hh⟩
  have hM1 := MIx hM (o1.mdl (fun c z => wcr_lo z))
  have hx1 : ∀ j, xI μ1 31 j = xs j := fun j => by rw [o1.1 31 (fun z => by have := wcr_lo z; omega)]; exact hx j
  refine ⟨hx1, (C_undoM (by omega) hM1.1).conseq (KI.mono ?_)⟩
  rintro r' μ2 ⟨o2, gg⟩
  have oc := o2.cls (fun c j z => mof_hi z)
  have oe := fr.lo o2 (fun c j z => mof_hi z)
  rcases hh with ⟨a1, rfl, f1⟩ | ⟨a1, rfl, f1⟩ <;> rcases gg with ⟨b1, rfl, f2⟩ | ⟨b1, rfl, f2⟩
  · exact ⟨rfl, KSw (FIw hF o1 f1) (MIw hM1 o2 f2) oc oe ⟨by have := hle a1; omega, by omega⟩ hx1⟩
  · omega
  · omega
  · exact ⟨rfl, KSw (FIw hF o1 f1) (MIw hM1 o2 f2) oc oe ⟨by omega, by omega⟩ hx1⟩
theorem S_perform (hf : FM Γ) (hd : 60 ≤ d) (hc : c ≤ 512) (hK : KS xs μ c) (x : Int32) : Call Γ m_FB_perform d [.ref 32, .int x] μ (KI (fun r μ1 => (∀ j, xI μ1 31 j = xs j) ∧ Call Γ m_MO_perform d [.ref 547, .int x] μ1 (KI (fun r' μ2 => r' = r ∧ KS xs μ2 (c + 1))))) := by
  obtain ⟨h, W, n, ru, ki, s, bx, m, T, mg, A, lt, lz, lc, sel, k, pz, pv, tn, tb, hab, cl, lo, cf, fd, ik, si, bi, mi, Ti, gi, hF, hM, hT, hx⟩ := hK
  obtain ⟨x, rfl, x1, x2⟩ := w_ex x
  refine (C_performF (by omega) (by omega) hF.1 hF.2.2.1.1 hF.2.2.1.2.1 hF.2.2.1.2.2 x1 x2).conseq (KI.mono ?_)
  rintro r μ1 ⟨o1, hh⟩
  have hM1 := MIx hM (o1.mdl (fun c z => wcr_lo z))
  have hx1 : ∀ j, xI μ1 31 j = xs j := fun j => by rw [o1.1 31 (fun z => by have := wcr_lo z; omega)]; exact hx j
  refine ⟨hx1, (C_performM hf (by omega) hM1.1 hM1.2.1 x1 x2).conseq (KI.mono ?_)⟩
  rintro r' μ2 ⟨o2, gg⟩
  have oc := o2.cls (fun c j z => mof_hi z)
  have oe := fr.lo o2 (fun c j z => mof_hi z)
  rcases hh with ⟨a1, rfl, f1⟩ | ⟨a1, rfl, f1⟩ <;> rcases gg with ⟨b1, rfl, f2⟩ | ⟨b1, rfl, f2⟩
  · exact ⟨rfl, KSw (FIw hF o1 f1) (MIw hM1 o2 f2) oc oe ⟨(by have hz := pfm_T (n := n) (ru := ru) (ki := ki) (ls := lsof sel lz lc) (pv := pv x.toNat) (pz x.toNat) 0 s bx m T mg A; have hp := (hF.2.2.1.2.2 x.toNat (by omega)).2.1; omega), by omega⟩ hx1⟩
  · exact absurd a1 b1
  · exact absurd b1 a1
  · exact ⟨rfl, KSw (FIw hF o1 f1) (MIw hM1 o2 f2) oc oe ⟨by omega, by omega⟩ hx1⟩
end SA
