/-! A BOX ON BOTH SIDES -/
theorem Met_H {Γ : XG} {d : Nat} {av : List Value} {μ : XM} {Q Q2 : Option Value → XM → Prop} (h : CallH Γ d av μ Q) (hq : ∀ v μ', Q v μ' → Q2 v μ') : CallH Γ d av μ Q2 := by
  intro p e ha hc hk s m args below hf hp hx hh
  obtain ⟨t, o, h1, h2, h3, ⟨v, μ', e1, e2, e3⟩, h5⟩ := h p e ha hc hk s m args below hf hp hx hh
  exact ⟨t, o, h1, h2, h3, ⟨v, μ', e1, hq v μ' e2, e3⟩, h5⟩
section SX
variable {Γ : XG} {d c : Nat} {xs : Nat → Int32} {h n s m T lt k tn cl cf si mi Ti : Nat} {ru : Nat → Int} {ki bx mg lo fd bi gi : Nat → Nat → Int} {lz : Nat → Nat} {lc : Nat → Nat → Int} {sel hab : Int} {pz : Nat → Nat} {pv : Nat → Nat → Nat → Int} {tb : Nat → Nat} {ik : Bool} {A : AA} {W : WL} {μ : XM}
theorem S_box (hf : FM Γ) (ht : Γ.1.stackTraces = false) (hd : 62 ≤ d) (hc : c ≤ 512) (hK : KS xs μ c) (x y : Int32) : CallH Γ d [.ref 32, .int x, .int y, .ref 573] μ (KI (fun r μ1 => (∀ j, xI μ1 31 j = xs j) ∧ Call Γ m_MO_box d [.ref 547, .int x, .int y] μ1 (KI (fun r' μ2 => Call Γ m_MO_thrown d [.ref 547] μ2 (KI (fun r'' μ3 => r'' = r ∧ (r = w 0 ∨ r = w 1) ∧ (r = w 0 → xL μ3 573 0 = r'.toInt64) ∧ KS xs μ3 (c + 1))))))) := by
  obtain ⟨h, W, n, ru, ki, s, bx, m, T, mg, A, lt, lz, lc, sel, k, pz, pv, tn, tb, hab, cl, lo, cf, fd, ik, si, bi, mi, Ti, gi, hF, hM, hT, hx⟩ := hK
  obtain ⟨x, rfl, x1, x2⟩ := w_ex x
  obtain ⟨y, rfl, y1, y2⟩ := w_ex y
  have next : ∀ (r : Int32) (μ1 : XM), (r = w 0 ∨ r = w 1) → FI μ1 h n ru ki s bx m T mg A lt lz lc sel k pz pv tn tb hab cl lo cf fd ik si bi mi Ti gi → MI μ1 W n ru ki s bx m T mg A lt lz lc sel k pz pv tn tb hab cl lo cf fd ik si bi mi Ti gi → (∀ j, xI μ1 31 j = xs j) → ((BOK s x y ∧ r = w 0 ∧ xL μ1 573 0 = (w (boxv (lsof sel lz lc) ki bx m s x.toNat y)).toInt64) ∨ (¬ BOK s x y ∧ r = w 1)) → Call Γ m_MO_box d [.ref 547, .int (w x), .int (w y)] μ1 (KI (fun r' μ2 => Call Γ m_MO_thrown d [.ref 547] μ2 (KI (fun r'' μ3 => r'' = r ∧ (r = w 0 ∨ r = w 1) ∧ (r = w 0 → xL μ3 573 0 = r'.toInt64) ∧ KS xs μ3 (c + 1))))) := by
    intro r μ1 hr hF1 hM1 hx1 hb
    refine (C_boxM hf (by omega) hM1.1.1 x1 x2 y1 y2).conseq (KI.mono ?_)
    rintro r' μ2 ⟨o2, hW2, hh⟩
    have hM2 := MIq hM1 o2 (fun _ _ z => bxf_ok z) hW2
    have hK2 : KS xs μ2 (c + 1) := KSw hF1 hM2 (o2.cls (fun c j z => qok_hi (bxf_ok z))) (fr.lo o2 (fun c j z => qok_hi (bxf_ok z))) (by omega) hx1
    obtain ⟨d, rfl⟩ : ∃ e, d = e + 1 := ⟨d - 1, by omega⟩
    refine Call.of ok_MO_thrown (Nat.le_of_ble_eq_true rfl) (B_MO_thrown_0 hM2.1.1.1.1.o ⟨_, rfl, ?_⟩)
    have e572 : xL μ2 573 0 = xL μ1 573 0 := (o2.1 573 0 (fun z => by unfold bxf vfr gfr thr at z; omega)).2.1
    rcases hh with ⟨b1, b2, rfl⟩ | ⟨b1, b2, rfl⟩ <;> rcases hb with ⟨a1, rfl, a2⟩ | ⟨a1, rfl⟩
    · exact ⟨b2, hr, fun _ => e572.trans a2, hK2⟩
    · exact absurd b1 a1
    · exact absurd a1 b1
    · exact ⟨b2, hr, fun z => absurd z (by decide), hK2⟩
  have hq : ∀ c, scr c → qcr c := fun c z => by unfold scr at z; unfold qcr scr; omega
  refine Met_H ((C_boxL ht (by omega) hF.1.1 x1 x2 y1 y2)) (KI.mono ?_)
  rintro r μ1 (⟨hb, rfl, μa, oa, rfl⟩ | ⟨hb, rfl, q, hq1, rfl⟩)
  · have hFa := FIq hF oa hq
    have hMa := MIx hM (oa.mdl (fun c z => qcr_lo (hq c z)))
    have hF1 := FIx (μ' := sL μa 573 0 (w (boxv (lsof sel lz lc) ki bx m s x.toNat y)).toInt64) hFa ⟨fun _ _ _ => ⟨rfl, rfl⟩, Nat.le_refl _⟩ (fun _ _ _ => rfl)
    have hM1 := MIx (μ' := sL μa 573 0 (w (boxv (lsof sel lz lc) ki bx m s x.toNat y)).toInt64) hMa ⟨fun c j hc => ⟨rfl, up2_out (by omega), rfl⟩, Nat.le_refl _⟩
    have hx1 : ∀ j, xI (sL μa 573 0 (w (boxv (lsof sel lz lc) ki bx m s x.toNat y)).toInt64) 31 j = xs j := fun j => (oa.1 31 (fun z => by have := qcr_lo (hq _ z); omega) j).trans (hx j)
    exact ⟨hx1, next _ _ (Or.inl rfl) hF1 hM1 hx1 (Or.inl ⟨hb, rfl, by rw [xL_sL, if_pos ⟨rfl, rfl⟩]⟩)⟩
  · have hF1 := FIx (μ' := nN μ q) hF ⟨fun _ _ _ => ⟨rfl, rfl⟩, hq1⟩ (fun _ _ _ => rfl)
    have hM1 := MIx (μ' := nN μ q) hM ⟨fun c j hc => ⟨rfl, rfl, rfl⟩, hq1⟩
    exact ⟨hx, next _ _ (Or.inr rfl) hF1 hM1 hx (Or.inr ⟨hb, rfl⟩)⟩
end SX
