/-! SMALL ACTS ON BOTH SIDES -/
section SB
variable {h n s m T lt k tn cl cf si mi Ti : Nat} {ru : Nat → Int} {ki bx mg lo fd bi gi : Nat → Nat → Int} {lz : Nat → Nat} {lc : Nat → Nat → Int} {sel hab : Int} {pz : Nat → Nat} {pv : Nat → Nat → Nat → Int} {tb : Nat → Nat} {ik : Bool} {A : AA} {W : WL} {μ μ' : XM}
def fok (c : Nat) : Prop := c = 33 ∨ c = 34 ∨ (382 ≤ c ∧ c ≤ 496)
theorem FIb {P : Nat → Prop} (hF : FI μ h n ru ki s bx m T mg A lt lz lc sel k pz pv tn tb hab cl lo cf fd ik si bi mi Ti gi) (hw : fof P μ μ') (hp : ∀ c, P c → fok c) : FS μ' h n ru ki (lsof sel lz lc) s bx m T mg A 0 ∧ LW μ' lt lz lc sel ∧ (xI μ' 32 7 = w k ∧ k ≤ 4 ∧ ∀ p, p < k → PL μ' p (pz p) (pv p)) ∧ (xI μ' 32 8 = w hab ∧ 0 ≤ hab ∧ hab ≤ 9) ∧ ST μ' ∧ ∃ g, HH μ' g ∧ xR μ' 32 2 = some g ∧ ((h = 35 ∧ g = 50) ∨ (h = 50 ∧ g = 35)) := by
  obtain ⟨a1, a2, ⟨a3, a4, a5⟩, a6, ⟨a7, a8, a9⟩, b1, b2, b3, b4, g, b5, b6, b7⟩ := hF
  have ho := hw.wide hp
  have n1 : ¬ fok 32 := by unfold fok; omega
  obtain ⟨⟨f1, f2, f3, f4, f5⟩, h2, h3, h4, nx, h5⟩ := a1
  refine ⟨⟨⟨f1.of ho.2.2.1 ho.2.2.2, ?_, f3.fof ho n1 (fun i hi => by unfold fok; omega), f4.fof ho (fun c c1 c2 => by unfold fok; omega), f5⟩, h2, by rw [ho.1 280 (by unfold fok; omega)]; exact h3, h4.fof ho (fun i hi => by unfold fok; omega), nx, h5.fof ho (fun c c1 c2 => by unfold fok; omega)⟩, a2.fof ho n1 (fun i hi => by unfold fok; omega), ⟨by rw [ho.1 32 n1]; exact a3, a4, fun p hp => (a5 p hp).fof ho (fun c c1 c2 => by unfold fok; omega)⟩, ⟨by rw [ho.1 32 n1]; exact a7, a8, a9⟩, b4.fof ho (fun c c1 => by unfold fok; omega), g, b5.of ho.2.2.1 ho.2.2.2, by rw [ho.2.2.1]; exact b6, b7⟩
  exact f2.fof ho (fun c c1 c2 => by unfold fok; omega)
def mok (c j : Nat) : Prop := (c = 547 ∧ (j = 0 ∨ j = 6 ∨ j = 43 ∨ j = 50 ∨ j = 55)) ∨ c = 548 ∨ c = 564 ∨ c = 565 ∨ c = 566 ∨ c = 567 ∨ c = 571 ∨ c = 572
theorem mok_r (k v : Nat) (h : rM k = some v) : ¬ mok 547 k := by
  intro q
  have q2 : k = 0 ∨ k = 6 ∨ k = 43 ∨ k = 50 ∨ k = 55 := by unfold mok at q; omega
  have : ∀ k, k < 56 → (k = 0 ∨ k = 6 ∨ k = 43 ∨ k = 50 ∨ k = 55) → rM k = none := by decide
  rw [this k (by omega) q2] at h
  cases h
theorem MIb {F : Nat → Nat → Prop} (hM : MI μ W n ru ki s bx m T mg A lt lz lc sel k pz pv tn tb hab cl lo cf fd ik si bi mi Ti gi) (hw : fr F μ μ') (hp : ∀ c j, F c j → mok c j) : MA μ' n ru ki s bx m T mg W (lsof sel lz lc) A ∧ PLM μ' k pz pv ∧ xI μ' 547 33 = w hab ∧ xI μ' 547 7 = w lt := by
  obtain ⟨⟨⟨a1, a2, a3, a4, a5, a6⟩, a7⟩, b2, b3, b4, b5, b6, b7, b8, b9⟩ := hM
  have hq := hw.wide hp
  have e : ∀ c j, ¬ mok c j → xI μ' c j = xI μ c j := fun c j z => (hq.1 c j z).1
  exact ⟨⟨⟨a1.fr hq mok_r (by unfold mok; omega) (fun j => by unfold mok; omega) (fun j => by unfold mok; omega), a2.fr hq (fun j => by unfold mok; omega), a3, a4, a5.frm hq (fun c j hc => by unfold mok; omega) (by unfold mok; omega) (fun c j h1 h2 => by unfold mok; omega) (fun c j h1 h2 => by unfold mok; omega), a6⟩, a7.frm hq (fun j => by unfold mok; omega) (by unfold mok; omega)⟩, b2.frm hq (fun j => by unfold mok; omega) (fun j => by unfold mok; omega) (by unfold mok; omega), by rw [e _ _ (by unfold mok; omega)]; exact b4, by rw [e _ _ (by unfold mok; omega)]; exact b8⟩
theorem mok_hi {c j : Nat} (z : mok c j) : 547 ≤ c := by unfold mok at z; omega
theorem fok_lo {c : Nat} (z : fok c) : 32 ≤ c ∧ c < 547 := by unfold fok at z; omega
theorem FIt {tn' : Nat} {tb' : Nat → Nat} (hF : FI μ h n ru ki s bx m T mg A lt lz lc sel k pz pv tn tb hab cl lo cf fd ik si bi mi Ti gi) (ho : fof tcr μ μ') (hT : TN μ' tn' tb') : FI μ' h n ru ki s bx m T mg A lt lz lc sel k pz pv tn' tb' hab cl lo cf fd ik si bi mi Ti gi := by
  obtain ⟨c1, c2, c3, c4, c5, c6⟩ := FIb hF ho (fun c z => by unfold tcr at z; unfold fok; omega)
  obtain ⟨a1, a2, -, a6, -, b1, b2, b3, -⟩ := hF
  exact ⟨c1, c2, c3, hT, c4, b1.fof ho (by unfold tcr; omega), b2.fof ho (fun c c1 c2 => by unfold tcr; omega), b3.fof ho (fun c c1 c2 => by unfold tcr; omega), c5, c6⟩
theorem MIt {tn' : Nat} {tb' : Nat → Nat} (hM : MI μ W n ru ki s bx m T mg A lt lz lc sel k pz pv tn tb hab cl lo cf fd ik si bi mi Ti gi) (ho : fr tpf μ μ') (hT : TM μ' tn' tb') : MI μ' W n ru ki s bx m T mg A lt lz lc sel k pz pv tn' tb' hab cl lo cf fd ik si bi mi Ti gi := by
  obtain ⟨c1, c2, c3, c4⟩ := MIb hM ho (fun c j z => by unfold tpf at z; unfold mok; omega)
  obtain ⟨-, -, -, -, b5, b6, b7, -, b9⟩ := hM
  exact ⟨c1, c2, hT, c3, b5.fr ho (by unfold tpf; omega) (fun j => by unfold tpf; omega) (fun j => by unfold tpf; omega), b6.frm ho (fun c j hc => by unfold tpf; omega) (by unfold tpf; omega), b7.frm ho (fun j => by unfold tpf; omega) (by unfold tpf; omega), c4, b9⟩
theorem FIk {cl' : Nat} {lo' : Nat → Nat → Int} (hF : FI μ h n ru ki s bx m T mg A lt lz lc sel k pz pv tn tb hab cl lo cf fd ik si bi mi Ti gi) (ho : fof kcr μ μ') (hT : LK μ' cl' lo') : FI μ' h n ru ki s bx m T mg A lt lz lc sel k pz pv tn tb hab cl' lo' cf fd ik si bi mi Ti gi := by
  obtain ⟨c1, c2, c3, c4, c5, c6⟩ := FIb hF ho (fun c z => by unfold kcr at z; unfold fok; omega)
  obtain ⟨a1, a2, -, a6, -, b1, b2, b3, -⟩ := hF
  exact ⟨c1, c2, c3, a6.fof ho (by unfold kcr; omega), c4, hT, b2.fof ho (fun c c1 c2 => by unfold kcr; omega), b3.fof ho (fun c c1 c2 => by unfold kcr; omega), c5, c6⟩
theorem MIk {cl' : Nat} {lo' : Nat → Nat → Int} (hM : MI μ W n ru ki s bx m T mg A lt lz lc sel k pz pv tn tb hab cl lo cf fd ik si bi mi Ti gi) (ho : fr pkf μ μ') (hT : LKM μ' cl' lo') : MI μ' W n ru ki s bx m T mg A lt lz lc sel k pz pv tn tb hab cl' lo' cf fd ik si bi mi Ti gi := by
  obtain ⟨c1, c2, c3, c4⟩ := MIb hM ho (fun c j z => by unfold pkf at z; unfold mok; omega)
  obtain ⟨-, -, b3, -, b5, b6, b7, -, b9⟩ := hM
  exact ⟨c1, c2, b3.frm ho (fun j => by unfold pkf; omega) (by unfold pkf; omega), c3, hT, b6.frm ho (fun c j hc => by unfold pkf; omega) (by unfold pkf; omega), b7.frm ho (fun j => by unfold pkf; omega) (by unfold pkf; omega), c4, b9⟩
theorem FId {cf' : Nat} {fd' : Nat → Nat → Int} (hF : FI μ h n ru ki s bx m T mg A lt lz lc sel k pz pv tn tb hab cl lo cf fd ik si bi mi Ti gi) (ho : fof dcr μ μ') (hT : FD μ' cf' fd') : FI μ' h n ru ki s bx m T mg A lt lz lc sel k pz pv tn tb hab cl lo cf' fd' ik si bi mi Ti gi := by
  obtain ⟨c1, c2, c3, c4, c5, c6⟩ := FIb hF ho (fun c z => by unfold dcr at z; unfold fok; omega)
  obtain ⟨a1, a2, -, a6, -, b1, b2, b3, -⟩ := hF
  exact ⟨c1, c2, c3, a6.fof ho (by unfold dcr; omega), c4, b1.fof ho (by unfold dcr; omega), hT, b3.fof ho (fun c c1 c2 => by unfold dcr; omega), c5, c6⟩
theorem MId {cf' : Nat} {fd' : Nat → Nat → Int} (hM : MI μ W n ru ki s bx m T mg A lt lz lc sel k pz pv tn tb hab cl lo cf fd ik si bi mi Ti gi) (ho : fr fdf μ μ') (hT : FDM μ' cf' fd') : MI μ' W n ru ki s bx m T mg A lt lz lc sel k pz pv tn tb hab cl lo cf' fd' ik si bi mi Ti gi := by
  obtain ⟨c1, c2, c3, c4⟩ := MIb hM ho (fun c j z => by unfold fdf at z; unfold mok; omega)
  obtain ⟨-, -, b3, -, b5, b6, b7, -, b9⟩ := hM
  exact ⟨c1, c2, b3.frm ho (fun j => by unfold fdf; omega) (by unfold fdf; omega), c3, b5.fr ho (by unfold fdf; omega) (fun j => by unfold fdf; omega) (fun j => by unfold fdf; omega), hT, b7.frm ho (fun j => by unfold fdf; omega) (by unfold fdf; omega), c4, b9⟩
theorem FIi {ik' : Bool} {si' mi' Ti' : Nat} {bi' gi' : Nat → Nat → Int} (hF : FI μ h n ru ki s bx m T mg A lt lz lc sel k pz pv tn tb hab cl lo cf fd ik si bi mi Ti gi) (ho : fof icr μ μ') (hT : IM μ' n ik' si' bi' mi' Ti' gi') : FI μ' h n ru ki s bx m T mg A lt lz lc sel k pz pv tn tb hab cl lo cf fd ik' si' bi' mi' Ti' gi' := by
  obtain ⟨c1, c2, c3, c4, c5, c6⟩ := FIb hF ho (fun c z => by unfold icr at z; unfold fok; omega)
  obtain ⟨a1, a2, -, a6, -, b1, b2, b3, -⟩ := hF
  exact ⟨c1, c2, c3, a6.fof ho (by unfold icr; omega), c4, b1.fof ho (by unfold icr; omega), b2.fof ho (fun c c1 c2 => by unfold icr; omega), hT, c5, c6⟩
theorem MIi {ik' : Bool} {si' mi' Ti' : Nat} {bi' gi' : Nat → Nat → Int} (hM : MI μ W n ru ki s bx m T mg A lt lz lc sel k pz pv tn tb hab cl lo cf fd ik si bi mi Ti gi) (ho : fr imf μ μ') (hT : IMM μ' n ik' si' bi' mi' Ti' gi') : MI μ' W n ru ki s bx m T mg A lt lz lc sel k pz pv tn tb hab cl lo cf fd ik' si' bi' mi' Ti' gi' := by
  obtain ⟨c1, c2, c3, c4⟩ := MIb hM ho (fun c j z => by unfold imf at z; unfold mok; omega)
  obtain ⟨-, -, b3, -, b5, b6, b7, -, b9⟩ := hM
  exact ⟨c1, c2, b3.frm ho (fun j => by unfold imf; omega) (by unfold imf; omega), c3, b5.fr ho (by unfold imf; omega) (fun j => by unfold imf; omega) (fun j => by unfold imf; omega), b6.frm ho (fun c j hc => by unfold imf; omega) (by unfold imf; omega), hT, c4, b9⟩
end SB
section SC
variable {Γ : XG} {d c : Nat} {xs : Nat → Int32} {μ : XM}
theorem S_feed (hf : FM Γ) (hd : 60 ≤ d) (hc : c ≤ 512) (hK : KS xs μ c) (x1 x2 x3 x4 x5 : Int32) : Call Γ m_FB_feed d [.ref 32, .int x1, .int x2, .int x3, .int x4, .int x5] μ (KI (fun r μ1 => (∀ j, xI μ1 31 j = xs j) ∧ Call Γ m_MO_feed d [.ref 547, .int x1, .int x2, .int x3, .int x4, .int x5] μ1 (KI (fun r' μ2 => r' = r ∧ KS xs μ2 (c + 1))))) := by
  obtain ⟨h, W, n, ru, ki, s, bx, m, T, mg, A, lt, lz, lc, sel, k, pz, pv, tn, tb, hab, cl, lo, cf, fd, ik, si, bi, mi, Ti, gi, hF, hM, hT, hx⟩ := hK
  refine (C_feedF (by omega) hF.1.1.1 hF.2.2.2.1).conseq (KI.mono ?_)
  rintro r μ1 ⟨o1, hh⟩
  have hM1 := MIx hM (o1.mdl (fun c z => by unfold tcr at z; omega))
  have hx1 : ∀ j, xI μ1 31 j = xs j := fun j => by rw [o1.1 31 (by unfold tcr; omega)]; exact hx j
  refine ⟨hx1, (C_feedM (by omega) hM1.1.1.1.1 hM1.2.2.1).conseq (KI.mono ?_)⟩
  rintro r' μ2 ⟨o2, gg⟩
  have th : ∀ c j, tpf c j → 547 ≤ c := fun c j z => by unfold tpf at z; omega
  rcases hh with ⟨a1, rfl, f1⟩ | ⟨a1, rfl, f1⟩ <;> rcases gg with ⟨b1, rfl, f2⟩ | ⟨b1, rfl, f2⟩
  · exact ⟨rfl, KSw (FIt hF o1 f1) (MIt hM1 o2 f2) (o2.cls th) (fr.lo o2 th) (by omega) hx1⟩
  · omega
  · omega
  · exact ⟨rfl, KSw (FIt hF o1 f1) (MIt hM1 o2 f2) (o2.cls th) (fr.lo o2 th) (by omega) hx1⟩
theorem S_end (hf : FM Γ) (hd : 60 ≤ d) (hc : c ≤ 512) (hK : KS xs μ c) (x : Int32) : Call Γ m_FB_end d [.ref 32, .int x] μ (KI (fun r μ1 => (∀ j, xI μ1 31 j = xs j) ∧ Call Γ m_MO_end d [.ref 547, .int x] μ1 (KI (fun r' μ2 => r' = r ∧ KS xs μ2 (c + 1))))) := by
  obtain ⟨h, W, n, ru, ki, s, bx, m, T, mg, A, lt, lz, lc, sel, k, pz, pv, tn, tb, hab, cl, lo, cf, fd, ik, si, bi, mi, Ti, gi, hF, hM, hT, hx⟩ := hK
  obtain ⟨x, rfl, x1, x2⟩ := w_ex x
  refine (C_endF (by omega) hF.1.1.1 hF.2.2.2.1 x1 x2).conseq (KI.mono ?_)
  rintro r μ1 ⟨o1, hh⟩
  have hM1 := MIx hM (o1.mdl (fun c z => by unfold tcr at z; omega))
  have hx1 : ∀ j, xI μ1 31 j = xs j := fun j => by rw [o1.1 31 (by unfold tcr; omega)]; exact hx j
  refine ⟨hx1, (C_endM (by omega) hM1.1.1.1.1 hM1.2.2.1 x1 x2).conseq (KI.mono ?_)⟩
  rintro r' μ2 ⟨o2, gg⟩
  have th : ∀ c j, tpf c j → 547 ≤ c := fun c j z => by unfold tpf at z; omega
  rcases hh with ⟨a1, rfl, f1⟩ | ⟨a1, rfl, f1⟩ <;> rcases gg with ⟨b1, rfl, f2⟩ | ⟨b1, rfl, f2⟩
  · exact ⟨rfl, KSw (FIt hF o1 f1) (MIt hM1 o2 f2) (o2.cls th) (fr.lo o2 th) (by omega) hx1⟩
  · omega
  · omega
  · exact ⟨rfl, KSw (FIt hF o1 f1) (MIt hM1 o2 f2) (o2.cls th) (fr.lo o2 th) (by omega) hx1⟩
theorem S_peek (hf : FM Γ) (hd : 60 ≤ d) (hc : c ≤ 512) (hK : KS xs μ c) (x y : Int32) : Call Γ m_FB_peek d [.ref 32, .int x, .int y] μ (KI (fun r μ1 => (∀ j, xI μ1 31 j = xs j) ∧ Call Γ m_MO_peek d [.ref 547, .int x, .int y] μ1 (KI (fun r' μ2 => r' = r ∧ KS xs μ2 (c + 1))))) := by
  obtain ⟨h, W, n, ru, ki, s, bx, m, T, mg, A, lt, lz, lc, sel, k, pz, pv, tn, tb, hab, cl, lo, cf, fd, ik, si, bi, mi, Ti, gi, hF, hM, hT, hx⟩ := hK
  obtain ⟨x, rfl, x1, x2⟩ := w_ex x
  obtain ⟨y, rfl, y1, y2⟩ := w_ex y
  refine (C_peekF (by omega) hF.1.1.1 hF.2.2.2.2.2.2.2.2.1 hF.1.1.2.1 hF.2.2.2.2.2.1 x1 x2 y1 y2).conseq (KI.mono ?_)
  rintro r μ1 ⟨o1, hh⟩
  have hM1 := MIx hM (o1.mdl (fun c z => by unfold kcr at z; omega))
  have hx1 : ∀ j, xI μ1 31 j = xs j := fun j => by rw [o1.1 31 (by unfold kcr; omega)]; exact hx j
  refine ⟨hx1, (C_peekM (by omega) hM1.1.1.1 hM1.2.2.2.2.1 x1 x2 y1 y2).conseq (KI.mono ?_)⟩
  rintro r' μ2 ⟨o2, gg⟩
  have th : ∀ c j, pkf c j → 547 ≤ c := fun c j z => by unfold pkf at z; omega
  rcases hh with ⟨a1, rfl, f1⟩ | ⟨a1, rfl, f1⟩ <;> rcases gg with ⟨b1, rfl, f2⟩ | ⟨b1, rfl, f2⟩
  · exact ⟨rfl, KSw (FIk hF o1 f1) (MIk hM1 o2 f2) (o2.cls th) (fr.lo o2 th) (by omega) hx1⟩
  · exact absurd a1 b1
  · exact absurd b1 a1
  · exact ⟨rfl, KSw (FIk hF o1 f1) (MIk hM1 o2 f2) (o2.cls th) (fr.lo o2 th) (by omega) hx1⟩
theorem S_found (hf : FM Γ) (hd : 60 ≤ d) (hc : c ≤ 512) (hK : KS xs μ c) (x y : Int32) (l : Int) (l0 : l = 0 ∨ l = 1) : Call Γ m_FB_found d [.ref 32, .int x, .int y, .int (w l)] μ (KI (fun r μ1 => (∀ j, xI μ1 31 j = xs j) ∧ Call Γ m_MO_found d [.ref 547, .int x, .int y, .int (w l)] μ1 (KI (fun r' μ2 => r' = r ∧ KS xs μ2 (c + 1))))) := by
  obtain ⟨h, W, n, ru, ki, s, bx, m, T, mg, A, lt, lz, lc, sel, k, pz, pv, tn, tb, hab, cl, lo, cf, fd, ik, si, bi, mi, Ti, gi, hF, hM, hT, hx⟩ := hK
  obtain ⟨x, rfl, x1, x2⟩ := w_ex x
  obtain ⟨y, rfl, y1, y2⟩ := w_ex y
  refine (C_foundF (by omega) hF.1.1.1 hF.1.1.2.1 hF.2.2.2.2.2.2.1 x1 x2 y1 y2 l0).conseq (KI.mono ?_)
  rintro r μ1 ⟨o1, hh⟩
  have hM1 := MIx hM (o1.mdl (fun c z => by unfold dcr at z; omega))
  have hx1 : ∀ j, xI μ1 31 j = xs j := fun j => by rw [o1.1 31 (by unfold dcr; omega)]; exact hx j
  refine ⟨hx1, (C_foundM (by omega) hM1.1.1.1 hM1.2.2.2.2.2.1 x1 x2 y1 y2 l0).conseq (KI.mono ?_)⟩
  rintro r' μ2 ⟨o2, gg⟩
  have th : ∀ c j, fdf c j → 547 ≤ c := fun c j z => by unfold fdf at z; omega
  rcases hh with ⟨a1, rfl, f1⟩ | ⟨a1, rfl, f1⟩ <;> rcases gg with ⟨b1, rfl, f2⟩ | ⟨b1, rfl, f2⟩
  · exact ⟨rfl, KSw (FId hF o1 f1) (MId hM1 o2 f2) (o2.cls th) (fr.lo o2 th) (by omega) hx1⟩
  · exact absurd a1 b1
  · exact absurd b1 a1
  · exact ⟨rfl, KSw (FId hF o1 f1) (MId hM1 o2 f2) (o2.cls th) (fr.lo o2 th) (by omega) hx1⟩
theorem S_image (hf : FM Γ) (hd : 60 ≤ d) (hc : c ≤ 512) (hK : KS xs μ c) : Call Γ m_FB_image d [.ref 32] μ (KI (fun r μ1 => (∀ j, xI μ1 31 j = xs j) ∧ Call Γ m_MO_image d [.ref 547] μ1 (KI (fun r' μ2 => r' = r ∧ KS xs μ2 (c + 1))))) := by
  obtain ⟨h, W, n, ru, ki, s, bx, m, T, mg, A, lt, lz, lc, sel, k, pz, pv, tn, tb, hab, cl, lo, cf, fd, ik, si, bi, mi, Ti, gi, hF, hM, hT, hx⟩ := hK
  refine (C_imageF (by omega) hF.1 hF.2.2.2.2.2.2.2.1).conseq (KI.mono ?_)
  rintro r μ1 ⟨o1, -, hh⟩
  have hM1 := MIx hM (o1.mdl (fun c z => by unfold icr at z; omega))
  have hx1 : ∀ j, xI μ1 31 j = xs j := fun j => by rw [o1.1 31 (by unfold icr; omega)]; exact hx j
  refine ⟨hx1, (C_imageM (by omega) hM1.1 hM1.2.2.2.2.2.2.1).conseq (KI.mono ?_)⟩
  rintro r' μ2 ⟨o2, -, gg⟩
  have th : ∀ c j, imf c j → 547 ≤ c := fun c j z => by unfold imf at z; omega
  rcases hh with ⟨a1, rfl, f1⟩ | ⟨a1, rfl, f1⟩ <;> rcases gg with ⟨b1, rfl, f2⟩ | ⟨b1, rfl, f2⟩
  · exact ⟨rfl, KSw (FIi hF o1 f1) (MIi hM1 o2 f2) (o2.cls th) (fr.lo o2 th) (by omega) hx1⟩
  · omega
  · omega
  · exact ⟨rfl, KSw (FIi hF o1 f1) (MIi hM1 o2 f2) (o2.cls th) (fr.lo o2 th) (by omega) hx1⟩
theorem S_back (hf : FM Γ) (hd : 60 ≤ d) (hc : c ≤ 512) (hK : KS xs μ c) : Call Γ m_FB_back d [.ref 32] μ (KI (fun r μ1 => (∀ j, xI μ1 31 j = xs j) ∧ Call Γ m_MO_back d [.ref 547] μ1 (KI (fun r' μ2 => r' = r ∧ KS xs μ2 (c + 1))))) := by
  obtain ⟨h, W, n, ru, ki, s, bx, m, T, mg, A, lt, lz, lc, sel, k, pz, pv, tn, tb, hab, cl, lo, cf, fd, ik, si, bi, mi, Ti, gi, hF, hM, hT, hx⟩ := hK
  refine (C_backF (by omega) hF.1 hF.2.2.2.2.2.2.2.1).conseq (KI.mono ?_)
  rintro r μ1 ⟨o1, -, hh⟩
  have hM1 := MIx hM (o1.mdl (fun c z => wcr_lo z))
  have hx1 : ∀ j, xI μ1 31 j = xs j := fun j => by rw [o1.1 31 (fun z => by have := wcr_lo z; omega)]; exact hx j
  refine ⟨hx1, (C_backM (by omega) hM1.1 hM1.2.2.2.2.2.2.1).conseq (KI.mono ?_)⟩
  rintro r' μ2 ⟨o2, -, gg⟩
  have oc := o2.cls (fun c j z => mof_hi z)
  have oe := fr.lo o2 (fun c j z => mof_hi z)
  rcases hh with ⟨a1, a0, rfl, f1⟩ | ⟨a1, rfl, f1⟩ <;> rcases gg with ⟨b1, b0, rfl, f2⟩ | ⟨b1, rfl, f2⟩
  · exact ⟨rfl, KSw (FIw hF o1 f1) (MIw hM1 o2 f2) oc oe ⟨by omega, by omega⟩ hx1⟩
  · exact absurd ⟨a1, a0⟩ b1
  · exact absurd ⟨b1, b0⟩ a1
  · exact ⟨rfl, KSw (FIw hF o1 f1) (MIw hM1 o2 f2) oc oe ⟨by omega, by omega⟩ hx1⟩
theorem onF.f32 {k : Nat} {μ μ' : XM} (h : onF k μ μ') : fof (fun c => c = 32) μ μ' := ⟨fun c hc j => h.1 c j (fun z => hc z.1), h.2⟩
theorem S_habit (hf : FM Γ) (hd : 60 ≤ d) (hc : c ≤ 512) (hK : KS xs μ c) (x : Int32) : Call Γ m_FB_habit d [.ref 32, .int x] μ (KI (fun r μ1 => (∀ j, xI μ1 31 j = xs j) ∧ Call Γ m_MO_habit d [.ref 547, .int x] μ1 (KI (fun r' μ2 => r' = r ∧ KS xs μ2 (c + 1))))) := by
  obtain ⟨h, W, n, ru, ki, s, bx, m, T, mg, A, lt, lz, lc, sel, k, pz, pv, tn, tb, hab, cl, lo, cf, fd, ik, si, bi, mi, Ti, gi, hF, hM, hT, hx⟩ := hK
  obtain ⟨x, rfl, x1, x2⟩ := w_ex x
  have hh9 := hF.2.2.2.2.1
  refine (C_habitF (by omega) hF.1.1.1 hh9.2.1 hh9.2.2 hh9.1 x1 x2).conseq (KI.mono ?_)
  rintro r μ1 ⟨o1, hh⟩
  have hM1 := MIx hM o1.mdl
  have hx1 : ∀ j, xI μ1 31 j = xs j := fun j => by rw [o1.1 31 j (by omega)]; exact hx j
  refine ⟨hx1, (C_habitM (by omega) hM1.1.1.1.1 hh9.2.1 hh9.2.2 hM1.2.2.2.1 x1 x2).conseq (KI.mono ?_)⟩
  rintro r' μ2 ⟨o2, gg⟩
  have th : ∀ c j, wfr 33 c j → 547 ≤ c := fun c j z => by unfold wfr at z; omega
  have rw33 : ∀ k v, rM k = some v → ¬ wfr 33 547 k := fun k v e => by
    rintro ⟨-, rfl | rfl⟩ <;> cases e
  have newF : ∀ v : Int, xI μ1 32 8 = w v → 0 ≤ v → v ≤ 9 → FI μ1 h n ru ki s bx m T mg A lt lz lc sel k pz pv tn tb v cl lo cf fd ik si bi mi Ti gi := by
    intro v ev v0 v9
    have ho := o1.f32
    obtain ⟨a1, a2, ⟨a3, a4, a5⟩, a6, -, b1, b2, b3, b4, g, b5, b6, b7⟩ := hF
    obtain ⟨⟨f1, f2, f3, f4, f5⟩, h2, h3, h4, nx, h5⟩ := a1
    have lw : LW μ1 lt lz lc sel := ⟨a2.1, by rw [o1.1 32 4 (by omega)]; exact a2.2.1, by rw [o1.1 32 5 (by omega)]; exact a2.2.2.1, a2.2.2.2.1, a2.2.2.2.2.1, fun i hi => (a2.2.2.2.2.2 i hi).of (fun j => ho.1 _ (by omega) j) (fun j => ho.1 _ (by omega) j) ho.2.2.1 ho.2.2.2⟩
    exact ⟨⟨⟨f1.of ho.2.2.1 ho.2.2.2, f2.fof ho (fun c c1 c2 => by omega), lw.fw, f4.fof ho (fun c c1 c2 => by omega), f5⟩, h2, by rw [ho.1 280 (by omega)]; exact h3, h4.fof ho (fun i hi => by omega), nx, h5.fof ho (fun c c1 c2 => by omega)⟩, lw, ⟨by rw [o1.1 32 7 (by omega)]; exact a3, a4, fun p hp => (a5 p hp).fof ho (fun c c1 c2 => by omega)⟩, a6.fof ho (by omega), ⟨ev, v0, v9⟩, b1.fof ho (by omega), b2.fof ho (fun c c1 c2 => by omega), b3.fof ho (fun c c1 c2 => by omega), b4.fof ho (fun c c1 => by omega), g, b5.of ho.2.2.1 ho.2.2.2, by rw [ho.2.2.1]; exact b6, b7⟩
  have newM : ∀ v : Int, xI μ2 547 33 = w v → MI μ2 W n ru ki s bx m T mg A lt lz lc sel k pz pv tn tb v cl lo cf fd ik si bi mi Ti gi := by
    intro v ev
    obtain ⟨⟨⟨a1, a2, a3, a4, a5, a6⟩, a7⟩, b2, b3, b4, b5, b6, b7, b8, b9⟩ := hM1
    exact ⟨⟨⟨a1.fr o2 rw33 (by unfold wfr; omega) (fun j => by unfold wfr; omega) (fun j => by unfold wfr; omega), a2.fr o2 (fun j => by unfold wfr; omega), a3, a4, a5.frm o2 (fun c j hc => by unfold wfr; omega) (by unfold wfr; omega) (fun c j h1 h2 => by unfold wfr; omega) (fun c j h1 h2 => by unfold wfr; omega), a6⟩, a7.frm o2 (fun j => by unfold wfr; omega) (by unfold wfr; omega)⟩, b2.frm o2 (fun j => by unfold wfr; omega) (fun j => by unfold wfr; omega) (by unfold wfr; omega), b3.frm o2 (fun j => by unfold wfr; omega) (by unfold wfr; omega), ev, b5.fr o2 (by unfold wfr; omega) (fun j => by unfold wfr; omega) (fun j => by unfold wfr; omega), b6.frm o2 (fun c j hc => by unfold wfr; omega) (by unfold wfr; omega), b7.frm o2 (fun j => by unfold wfr; omega) (by unfold wfr; omega), by rw [(o2.1 547 7 (by unfold wfr; omega)).1]; exact b8, b9⟩
  rcases hh with ⟨a1, rfl, f1⟩ | ⟨a1, rfl, f1⟩ <;> rcases gg with ⟨b1, rfl, f2⟩ | ⟨b1, rfl, f2⟩
  · exact ⟨rfl, KSw (newF x f1 a1.1 a1.2.1) (newM x f2) (o2.cls th) (fr.lo o2 th) (by omega) hx1⟩
  · exact absurd a1 b1
  · exact absurd b1 a1
  · exact ⟨rfl, KSw (newF hab (by rw [f1]; exact hh9.1) hh9.2.1 hh9.2.2) (newM hab f2) (o2.cls th) (fr.lo o2 th) (by omega) hx1⟩
theorem S_law (hf : FM Γ) (hd : 60 ≤ d) (hc : c ≤ 512) (hK : KS xs μ c) (x : Int32) : Call Γ m_FB_law d [.ref 32, .int x] μ (KI (fun r μ1 => (∀ j, xI μ1 31 j = xs j) ∧ Call Γ m_MO_law d [.ref 547, .int x] μ1 (KI (fun r' μ2 => r' = r ∧ KS xs μ2 (c + 1))))) := by
  obtain ⟨h, W, n, ru, ki, s, bx, m, T, mg, A, lt, lz, lc, sel, k, pz, pv, tn, tb, hab, cl, lo, cf, fd, ik, si, bi, mi, Ti, gi, hF, hM, hT, hx⟩ := hK
  obtain ⟨x, rfl, x1, x2⟩ := w_ex x
  refine (C_lawF (by omega) hF.1.1.1 hF.2.1.1 hF.2.1.2.1 x1 x2).conseq (KI.mono ?_)
  rintro r μ1 ⟨o1, hh⟩
  have hM1 := MIx hM o1.mdl
  have hx1 : ∀ j, xI μ1 31 j = xs j := fun j => by rw [o1.1 31 j (by omega)]; exact hx j
  refine ⟨hx1, (C_lawM (by omega) hM1.1.1.1.1 hF.2.1.1 hM1.2.2.2.2.2.2.2.1 x1 x2).conseq (KI.mono ?_)⟩
  rintro r' μ2 ⟨o2, gg⟩
  have th : ∀ c j, wfr 32 c j → 547 ≤ c := fun c j z => by unfold wfr at z; omega
  have rw33 : ∀ k v, rM k = some v → ¬ wfr 32 547 k := fun k v e => by
    rintro ⟨-, rfl | rfl⟩ <;> cases e
  have newF : ∀ v : Int, xI μ1 32 5 = w v → -1 ≤ v → v < lt → FI μ1 h n ru ki s bx m T mg A lt lz lc v k pz pv tn tb hab cl lo cf fd ik si bi mi Ti gi := by
    intro v ev v0 v9
    have ho := o1.f32
    obtain ⟨a1, a2, ⟨a3, a4, a5⟩, a6, ⟨a7, a8, a9⟩, b1, b2, b3, b4, g, b5, b6, b7⟩ := hF
    obtain ⟨⟨f1, f2, f3, f4, f5⟩, h2, h3, h4, nx, h5⟩ := a1
    have lw : LW μ1 lt lz lc v := ⟨a2.1, by rw [o1.1 32 4 (by omega)]; exact a2.2.1, ev, v0, v9, fun i hi => (a2.2.2.2.2.2 i hi).of (fun j => ho.1 _ (by omega) j) (fun j => ho.1 _ (by omega) j) ho.2.2.1 ho.2.2.2⟩
    exact ⟨⟨⟨f1.of ho.2.2.1 ho.2.2.2, f2.fof ho (fun c c1 c2 => by omega), lw.fw, f4.fof ho (fun c c1 c2 => by omega), f5⟩, h2, by rw [ho.1 280 (by omega)]; exact h3, h4.fof ho (fun i hi => by omega), nx, h5.fof ho (fun c c1 c2 => by omega)⟩, lw, ⟨by rw [o1.1 32 7 (by omega)]; exact a3, a4, fun p hp => (a5 p hp).fof ho (fun c c1 c2 => by omega)⟩, a6.fof ho (by omega), ⟨by rw [o1.1 32 8 (by omega)]; exact a7, a8, a9⟩, b1.fof ho (by omega), b2.fof ho (fun c c1 c2 => by omega), b3.fof ho (fun c c1 c2 => by omega), b4.fof ho (fun c c1 => by omega), g, b5.of ho.2.2.1 ho.2.2.2, by rw [ho.2.2.1]; exact b6, b7⟩
  have newM : ∀ v : Int, xI μ2 547 32 = w v → -1 ≤ v → v < W.1 → MI μ2 (W.1, v, W.2.2.1, W.2.2.2) n ru ki s bx m T mg A lt lz lc v k pz pv tn tb hab cl lo cf fd ik si bi mi Ti gi := by
    intro v ev v0 v9
    obtain ⟨⟨⟨a1, a2, a3, a4, a5, a6⟩, a7⟩, b2, b3, b4, b5, b6, b7, b8, b9⟩ := hM1
    have rl : RL lt lz lc v (W.1, v, W.2.2.1, W.2.2.2) := ⟨b9.1, rfl, b9.2.2⟩
    obtain ⟨w1, w2, w3, w4, w5, w6, w7⟩ := a5
    have mw : MW μ2 (W.1, v, W.2.2.1, W.2.2.2) := ⟨w1.frm o2 (fun c j hc => by unfold wfr; omega), w2, ev, v0, v9, fun i hi => ⟨by rw [(o2.1 550 i (by unfold wfr; omega)).1]; exact (w6 i hi).1, (w6 i hi).2.1.fr o2 (fun j => by unfold wfr; omega), (w6 i hi).2.2⟩, fun s hs => by rw [(o2.1 561 s (by unfold wfr; omega)).2.1, (o2.1 562 s (by unfold wfr; omega)).1]; exact w7.1 s hs, (by obtain ⟨e, q1, q2⟩ := w7.2; exact ⟨e, q1, fun j hj => by rw [(o2.1 551 _ (by unfold wfr; omega)).1]; exact q2 j hj⟩)⟩
    exact ⟨⟨⟨a1.fr o2 rw33 (by unfold wfr; omega) (fun j => by unfold wfr; omega) (fun j => by unfold wfr; omega), a2.fr o2 (fun j => by unfold wfr; omega), a3, a4, mw, rl.ls v9⟩, a7.frm o2 (fun j => by unfold wfr; omega) (by unfold wfr; omega)⟩, b2.frm o2 (fun j => by unfold wfr; omega) (fun j => by unfold wfr; omega) (by unfold wfr; omega), b3.frm o2 (fun j => by unfold wfr; omega) (by unfold wfr; omega), by rw [(o2.1 547 33 (by unfold wfr; omega)).1]; exact b4, b5.fr o2 (by unfold wfr; omega) (fun j => by unfold wfr; omega) (fun j => by unfold wfr; omega), b6.frm o2 (fun c j hc => by unfold wfr; omega) (by unfold wfr; omega), b7.frm o2 (fun j => by unfold wfr; omega) (by unfold wfr; omega), by rw [(o2.1 547 7 (by unfold wfr; omega)).1]; exact b8, rl⟩
  have rl := hM.2.2.2.2.2.2.2.2
  have el := rl.1
  rcases hh with ⟨a1, rfl, f1⟩ | ⟨a1, rfl, f1⟩ <;> rcases gg with ⟨b1, rfl, f2⟩ | ⟨b1, rfl, f2⟩
  · exact ⟨rfl, KSw (newF x f1 a1.1 a1.2) (newM x f2 a1.1 (by omega)) (o2.cls th) (fr.lo o2 th) (by omega) hx1⟩
  · exact absurd a1 b1
  · exact absurd b1 a1
  · have e5 := hF.2.1
    have w32 := hM1.mw
    refine ⟨rfl, KSw (newF sel (by rw [f1]; exact e5.2.2.1) e5.2.2.2.1 e5.2.2.2.2.1) (newM sel (by rw [f2, rl.2.1]; exact w32.2.2.1) e5.2.2.2.1 (by have := e5.2.2.2.2.1; omega)) (o2.cls th) (fr.lo o2 th) (by omega) hx1⟩
end SC
