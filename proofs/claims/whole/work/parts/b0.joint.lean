/-! ALL THAT IS KNOWN OF BOTH SIDES -/
/-- the class -/
def FI (μ : XM) (h : Nat) (n : Nat) (ru : Nat → Int) (ki : Nat → Nat → Int) (s : Nat) (bx : Nat → Nat → Int) (m T : Nat) (mg : Nat → Nat → Int) (A : AA) (lt : Nat) (lz : Nat → Nat) (lc : Nat → Nat → Int) (sel : Int) (k : Nat) (pz : Nat → Nat) (pv : Nat → Nat → Nat → Int) (tn : Nat) (tb : Nat → Nat) (hab : Int) (cl : Nat) (lo : Nat → Nat → Int) (cf : Nat) (fd : Nat → Nat → Int) (ik : Bool) (si : Nat) (bi : Nat → Nat → Int) (mi Ti : Nat) (gi : Nat → Nat → Int) : Prop := FS μ h n ru ki (lsof sel lz lc) s bx m T mg A 0 ∧ LW μ lt lz lc sel ∧ (xI μ 32 7 = w k ∧ k ≤ 4 ∧ ∀ p, p < k → PL μ p (pz p) (pv p)) ∧ TN μ tn tb ∧ (xI μ 32 8 = w hab ∧ 0 ≤ hab ∧ hab ≤ 9) ∧ LK μ cl lo ∧ FD μ cf fd ∧ IM μ n ik si bi mi Ti gi ∧ ST μ ∧ ∃ g, HH μ g ∧ xR μ 32 2 = some g ∧ ((h = 35 ∧ g = 50) ∨ (h = 50 ∧ g = 35))
/-- laws: the class's signs reckon what the reference reads -/
def RL (lt : Nat) (lz : Nat → Nat) (lc : Nat → Nat → Int) (sel : Int) (W : WL) : Prop := lt = W.1 ∧ sel = W.2.1 ∧ ∀ i, i < W.1 → ∀ a o n y k m, BL a o n y k m → wst (lc i) (evL a o n y k m) (lz i) 0 0 (fun _ => 0) false = lvl (W.2.2.1 i) (W.2.2.2 i) (evL a o n y k m)
/-- the reference -/
def MI (μ : XM) (W : WL) (n : Nat) (ru : Nat → Int) (ki : Nat → Nat → Int) (s : Nat) (bx : Nat → Nat → Int) (m T : Nat) (mg : Nat → Nat → Int) (A : AA) (lt : Nat) (lz : Nat → Nat) (lc : Nat → Nat → Int) (sel : Int) (k : Nat) (pz : Nat → Nat) (pv : Nat → Nat → Nat → Int) (tn : Nat) (tb : Nat → Nat) (hab : Int) (cl : Nat) (lo : Nat → Nat → Int) (cf : Nat) (fd : Nat → Nat → Int) (ik : Bool) (si : Nat) (bi : Nat → Nat → Int) (mi Ti : Nat) (gi : Nat → Nat → Int) : Prop := MA μ n ru ki s bx m T mg W (lsof sel lz lc) A ∧ PLM μ k pz pv ∧ TM μ tn tb ∧ xI μ 547 33 = w hab ∧ LKM μ cl lo ∧ FDM μ cf fd ∧ IMM μ n ik si bi mi Ti gi ∧ xI μ 547 7 = w lt ∧ RL lt lz lc sel W
/-- both sides, behind c calls, the script being xs -/
def KS (xs : Nat → Int32) (μ : XM) (c : Nat) : Prop := ∃ (h : Nat) (W : WL) (n : Nat) (ru : Nat → Int) (ki : Nat → Nat → Int) (s : Nat) (bx : Nat → Nat → Int) (m T : Nat) (mg : Nat → Nat → Int) (A : AA) (lt : Nat) (lz : Nat → Nat) (lc : Nat → Nat → Int) (sel : Int) (k : Nat) (pz : Nat → Nat) (pv : Nat → Nat → Nat → Int) (tn : Nat) (tb : Nat → Nat) (hab : Int) (cl : Nat) (lo : Nat → Nat → Int) (cf : Nat) (fd : Nat → Nat → Int) (ik : Bool) (si : Nat) (bi : Nat → Nat → Int) (mi Ti : Nat) (gi : Nat → Nat → Int), FI μ h n ru ki s bx m T mg A lt lz lc sel k pz pv tn tb hab cl lo cf fd ik si bi mi Ti gi ∧ MI μ W n ru ki s bx m T mg A lt lz lc sel k pz pv tn tb hab cl lo cf fd ik si bi mi Ti gi ∧ (T ≤ 60 * c ∧ Ti ≤ 60 * c) ∧ ∀ j, xI μ 31 j = xs j
theorem RL.ls {lt : Nat} {lz : Nat → Nat} {lc : Nat → Nat → Int} {sel : Int} {W : WL} (h : RL lt lz lc sel W) (hs : sel < W.1) : LSok (lsof sel lz lc) W := by
  obtain ⟨h1, h2, h3⟩ := h
  refine ⟨fun z a o n y k m => ?_, fun z a o n y k m hb => ?_⟩
  · unfold lsof; rw [if_pos (by omega)]
  · unfold lsof
    rw [if_neg (by omega), h3 _ (by omega) _ _ _ _ _ _ hb, h2]
section JT
variable {h n s m T lt k tn cl cf si mi Ti : Nat} {ru : Nat → Int} {ki bx mg lo fd bi gi : Nat → Nat → Int} {lz : Nat → Nat} {lc : Nat → Nat → Int} {sel hab : Int} {pz : Nat → Nat} {pv : Nat → Nat → Nat → Int} {tb : Nat → Nat} {ik : Bool} {A : AA} {W : WL} {μ μ' : XM}
theorem FIx (hF : FI μ h n ru ki s bx m T mg A lt lz lc sel k pz pv tn tb hab cl lo cf fd ik si bi mi Ti gi) (ho : cls μ μ') (hs : ∀ c j, c < 32 → xI μ' c j = xI μ c j) : FI μ' h n ru ki s bx m T mg A lt lz lc sel k pz pv tn tb hab cl lo cf fd ik si bi mi Ti gi := by
  obtain ⟨a1, a2, ⟨a3, a4, a5⟩, a6, ⟨a7, a8, a9⟩, b1, b2, b3, b4, g, b5, b6, b7⟩ := hF
  exact ⟨FSx a1 ho, LWx a2 ho, ⟨by rw [(ho.1 32 7 (by omega)).1]; exact a3, a4, fun p hp => PLx (a5 p hp) ho⟩, TNx a6 ho, ⟨by rw [(ho.1 32 8 (by omega)).1]; exact a7, a8, a9⟩, LKx b1 ho, FDx b2 ho, IMx b3 ho, STx b4 ho, g, HHx b5 ho, by rw [(ho.1 32 2 (by omega)).2]; exact b6, b7⟩
theorem MIx (hM : MI μ W n ru ki s bx m T mg A lt lz lc sel k pz pv tn tb hab cl lo cf fd ik si bi mi Ti gi) (ho : mdl μ μ') : MI μ' W n ru ki s bx m T mg A lt lz lc sel k pz pv tn tb hab cl lo cf fd ik si bi mi Ti gi := by
  obtain ⟨a1, a2, a3, a4, a5, a6, a7, a8, a9⟩ := hM
  exact ⟨MAx a1 ho, PLMx a2 ho, TMx a3 ho, by rw [(ho.1 547 33 (by omega)).1]; exact a4, LKMx a5 ho, FDMx a6 ho, IMMx a7 ho, by rw [(ho.1 547 7 (by omega)).1]; exact a8, a9⟩
/-- what the class's questions may write -/
theorem FIq {P : Nat → Prop} (hF : FI μ h n ru ki s bx m T mg A lt lz lc sel k pz pv tn tb hab cl lo cf fd ik si bi mi Ti gi) (ho : fof P μ μ') (hp : ∀ c, P c → qcr c) : FI μ' h n ru ki s bx m T mg A lt lz lc sel k pz pv tn tb hab cl lo cf fd ik si bi mi Ti gi := by
  obtain ⟨a1, a2, ⟨a3, a4, a5⟩, a6, ⟨a7, a8, a9⟩, b1, b2, b3, b4, g, b5, b6, b7⟩ := hF
  have hq := ho.wide hp
  obtain ⟨c1, c2, c3, c4, nx, c5⟩ := a1
  have n1 : ¬ qcr 32 := by unfold qcr scr; omega
  refine ⟨⟨c1.q hq, c2, by rw [hq.1 280 (by unfold qcr scr; omega)]; exact c3, c4.fof hq (fun i hi => by unfold qcr scr; omega), nx, c5.fof hq (fun c c1 c2 => by unfold qcr scr; omega)⟩, a2.fof hq n1 (fun i hi => by unfold qcr scr; omega), ⟨by rw [hq.1 32 n1]; exact a3, a4, fun p hp => (a5 p hp).fof hq (fun c c1 c2 => ?_)⟩, a6.fof hq (by unfold qcr scr; omega), ⟨by rw [hq.1 32 n1]; exact a7, a8, a9⟩, b1.fof hq (by unfold qcr scr; omega), b2.fof hq (fun c c1 c2 => by unfold qcr scr; omega), b3.fof hq (fun c c1 c2 => by unfold qcr scr; omega), b4.fof hq (fun c c1 => by unfold qcr scr; omega), g, b5.of hq.2.2.1 hq.2.2.2, by rw [hq.2.2.1]; exact b6, b7⟩
  unfold qcr scr
  omega
/-- what the class's acts may write -/
theorem FIw {s' m' T' : Nat} {bx' mg' : Nat → Nat → Int} {A' : AA} (hF : FI μ h n ru ki s bx m T mg A lt lz lc sel k pz pv tn tb hab cl lo cf fd ik si bi mi Ti gi) (ho : fof wcr μ μ') (hS : FS μ' h n ru ki (lsof sel lz lc) s' bx' m' T' mg' A' 0) : FI μ' h n ru ki s' bx' m' T' mg' A' lt lz lc sel k pz pv tn tb hab cl lo cf fd ik si bi mi Ti gi := by
  obtain ⟨a1, a2, ⟨a3, a4, a5⟩, a6, ⟨a7, a8, a9⟩, b1, b2, b3, b4, g, b5, b6, b7⟩ := hF
  have n1 : ¬ wcr 32 := by unfold wcr scr; omega
  refine ⟨hS, a2.fof ho n1 (fun i hi => by unfold wcr scr; omega), ⟨by rw [ho.1 32 n1]; exact a3, a4, fun p hp => (a5 p hp).fof ho (fun c c1 c2 => ?_)⟩, a6.fof ho (by unfold wcr scr; omega), ⟨by rw [ho.1 32 n1]; exact a7, a8, a9⟩, b1.fof ho (by unfold wcr scr; omega), b2.fof ho (fun c c1 c2 => by unfold wcr scr; omega), b3.fof ho (fun c c1 c2 => by unfold wcr scr; omega), b4.fof ho (fun c c1 => by unfold wcr scr; omega), g, b5.of ho.2.2.1 ho.2.2.2, by rw [ho.2.2.1]; exact b6, b7⟩
  unfold wcr scr
  omega
def qok (c j : Nat) : Prop := (c = 547 ∧ (j = 0 ∨ j = 5 ∨ (8 ≤ j ∧ j ≤ 14) ∨ j = 17 ∨ j = 38 ∨ j = 39 ∨ j = 40 ∨ j = 51 ∨ j = 52 ∨ j = 53)) ∨ c = 551 ∨ c = 560 ∨ c = 561 ∨ c = 562 ∨ c = 568 ∨ c = 569 ∨ c = 570
theorem qok_r (k v : Nat) (h : rM k = some v) : ¬ qok 547 k := by
  intro q
  have q2 : k = 0 ∨ k = 5 ∨ (8 ≤ k ∧ k ≤ 14) ∨ k = 17 ∨ k = 38 ∨ k = 39 ∨ k = 40 ∨ k = 51 ∨ k = 52 ∨ k = 53 := by unfold qok at q; omega
  have : ∀ k, k < 54 → (k = 0 ∨ k = 5 ∨ (8 ≤ k ∧ k ≤ 14) ∨ k = 17 ∨ k = 38 ∨ k = 39 ∨ k = 40 ∨ k = 51 ∨ k = 52 ∨ k = 53) → rM k = none := by decide
  rw [this k (by omega) q2] at h
  cases h
/-- what the reference's questions may write -/
theorem MIq {F : Nat → Nat → Prop} (hM : MI μ W n ru ki s bx m T mg A lt lz lc sel k pz pv tn tb hab cl lo cf fd ik si bi mi Ti gi) (ho : fr F μ μ') (hp : ∀ c j, F c j → qok c j) (hW : MW μ' W) : MI μ' W n ru ki s bx m T mg A lt lz lc sel k pz pv tn tb hab cl lo cf fd ik si bi mi Ti gi := by
  obtain ⟨⟨⟨a1, a2, a3, a4, a5, a6⟩, a7⟩, b2, b3, b4, b5, b6, b7, b8, b9⟩ := hM
  have hq := ho.wide hp
  have e : ∀ c j, ¬ qok c j → xI μ' c j = xI μ c j := fun c j z => (hq.1 c j z).1
  exact ⟨⟨⟨a1.fr hq qok_r (by unfold qok; omega) (fun j => by unfold qok; omega) (fun j => by unfold qok; omega), a2.fr hq (fun j => by unfold qok; omega), a3, a4, hW, a6⟩, a7.frm hq (fun j => by unfold qok; omega) (by unfold qok; omega)⟩, b2.frm hq (fun j => by unfold qok; omega) (fun j => by unfold qok; omega) (by unfold qok; omega), b3.frm hq (fun j => by unfold qok; omega) (by unfold qok; omega), by rw [e _ _ (by unfold qok; omega)]; exact b4, b5.fr hq (by unfold qok; omega) (fun j => by unfold qok; omega) (fun j => by unfold qok; omega), b6.frm hq (fun c j hc => by unfold qok; omega) (by unfold qok; omega), b7.frm hq (fun j => by unfold qok; omega) (by unfold qok; omega), by rw [e _ _ (by unfold qok; omega)]; exact b8, b9⟩
/-- what its acts may write -/
theorem MIw {s' m' T' : Nat} {bx' mg' : Nat → Nat → Int} {A' : AA} (hM : MI μ W n ru ki s bx m T mg A lt lz lc sel k pz pv tn tb hab cl lo cf fd ik si bi mi Ti gi) (ho : fr mof μ μ') (hS : MA μ' n ru ki s' bx' m' T' mg' W (lsof sel lz lc) A') : MI μ' W n ru ki s' bx' m' T' mg' A' lt lz lc sel k pz pv tn tb hab cl lo cf fd ik si bi mi Ti gi := by
  obtain ⟨-, b2, b3, b4, b5, b6, b7, b8, b9⟩ := hM
  have e : ∀ c j, ¬ mof c j → xI μ' c j = xI μ c j := fun c j z => (ho.1 c j z).1
  exact ⟨hS, b2.frm ho (fun j => by unfold mof vfr gfr; omega) (fun j => by unfold mof vfr gfr; omega) (by unfold mof vfr gfr; omega), b3.frm ho (fun j => by unfold mof vfr gfr; omega) (by unfold mof vfr gfr; omega), by rw [e _ _ (by unfold mof vfr gfr; omega)]; exact b4, b5.fr ho (by unfold mof vfr gfr; omega) (fun j => by unfold mof vfr gfr; omega) (fun j => by unfold mof vfr gfr; omega), b6.frm ho (fun c j hc => by unfold mof vfr gfr; omega) (by unfold mof vfr gfr; omega), b7.frm ho (fun j => by unfold mof vfr gfr; omega) (by unfold mof vfr gfr; omega), by rw [e _ _ (by unfold mof vfr gfr; omega)]; exact b8, b9⟩
theorem qfr_ok {c j : Nat} (z : qfr c j) : qok c j := by unfold qfr vfr gfr at z; unfold qok; omega
theorem thr_ok {c j : Nat} (z : thr c j) : qok c j := by unfold thr at z; unfold qok; omega
theorem ghq_ok {c j : Nat} (z : ghq c j) : qok c j := by unfold ghq ghf thr at z; unfold qok; omega
theorem bxf_ok {c j : Nat} (z : bxf c j) : qok c j := by unfold bxf vfr gfr thr at z; unfold qok; omega
theorem qok_hi {c j : Nat} (z : qok c j) : 547 ≤ c := by unfold qok at z; omega
theorem mof_hi {c j : Nat} (z : mof c j) : 547 ≤ c := by unfold mof vfr gfr at z; omega
theorem wcr_lo {c : Nat} (z : wcr c) : 32 ≤ c ∧ c < 547 := by unfold wcr scr at z; omega
theorem qcr_lo {c : Nat} (z : qcr c) : 32 ≤ c ∧ c < 547 := by unfold qcr scr at z; omega
theorem hcr_q {c : Nat} (z : hcr c) : qcr c := by unfold hcr at z; unfold qcr; omega
theorem MI.mw (hM : MI μ W n ru ki s bx m T mg A lt lz lc sel k pz pv tn tb hab cl lo cf fd ik si bi mi Ti gi) : MW μ W := hM.1.1.2.2.2.2.1
theorem fr.mw {F : Nat → Nat → Prop} (hM : MI μ W n ru ki s bx m T mg A lt lz lc sel k pz pv tn tb hab cl lo cf fd ik si bi mi Ti gi) (ho : fr F μ μ') (hp : ∀ c j, F c j → (c = 547 ∧ (j = 0 ∨ j = 38 ∨ j = 39 ∨ j = 40 ∨ j = 51 ∨ j = 52 ∨ j = 53)) ∨ c = 568 ∨ c = 569 ∨ c = 570) : MW μ' W := hM.mw.frm ho (fun c j hc z => by have := hp c j z; omega) (fun z => by have := hp _ _ z; omega) (fun c j h1 h2 z => by have := hp c j z; omega) (fun c j h1 h2 z => by have := hp c j z; omega)
end JT
section JS
variable {Γ : XG} {M M' : MM} {d d' c : Nat} {av av' : List Value} {xs : Nat → Int32} {h n s m T lt k tn cl cf si mi Ti : Nat} {ru : Nat → Int} {ki bx mg lo fd bi gi : Nat → Nat → Int} {lz : Nat → Nat} {lc : Nat → Nat → Int} {sel hab : Int} {pz : Nat → Nat} {pv : Nat → Nat → Nat → Int} {tb : Nat → Nat} {ik : Bool} {A : AA} {W : WL} {μ : XM}
/-- a question on both sides -/
theorem joinq {PF PM : Int32 → Prop} {P : Nat → Prop} {F : Nat → Nat → Prop} (hF : FI μ h n ru ki s bx m T mg A lt lz lc sel k pz pv tn tb hab cl lo cf fd ik si bi mi Ti gi) (hM : MI μ W n ru ki s bx m T mg A lt lz lc sel k pz pv tn tb hab cl lo cf fd ik si bi mi Ti gi) (hT : T ≤ 60 * c ∧ Ti ≤ 60 * c) (hx : ∀ j, xI μ 31 j = xs j)
    (c1 : Call Γ M d av μ (KI (fun r μ1 => fof P μ μ1 ∧ PF r))) (hP : ∀ c, P c → qcr c)
    (c2 : ∀ μ1, MI μ1 W n ru ki s bx m T mg A lt lz lc sel k pz pv tn tb hab cl lo cf fd ik si bi mi Ti gi → Call Γ M' d' av' μ1 (KI (fun r μ2 => fr F μ1 μ2 ∧ MW μ2 W ∧ PM r))) (hQ : ∀ c j, F c j → qok c j)
    (hr : ∀ r r', PF r → PM r' → r' = r) : Call Γ M d av μ (KI (fun r μ1 => (∀ j, xI μ1 31 j = xs j) ∧ Call Γ M' d' av' μ1 (KI (fun r' μ2 => r' = r ∧ KS xs μ2 (c + 1))))) := by
  refine c1.conseq (KI.mono ?_)
  rintro r μ1 ⟨o1, h1⟩
  have hM1 := MIx hM (o1.mdl (fun c z => qcr_lo (hP c z)))
  have hF1 := FIq hF o1 hP
  have hx1 : ∀ j, xI μ1 31 j = xs j := fun j => by rw [o1.1 31 (fun z => by have := qcr_lo (hP _ z); omega)]; exact hx j
  refine ⟨hx1, (c2 μ1 hM1).conseq (KI.mono ?_)⟩
  rintro r' μ2 ⟨o2, w2, h2⟩
  have e2 : ∀ c j, c < 547 → xI μ2 c j = xI μ1 c j := fun c j hc => (o2.1 c j (fun z => by have := qok_hi (hQ _ _ z); omega)).1
  refine ⟨hr _ _ h1 h2, h, W, n, ru, ki, s, bx, m, T, mg, A, lt, lz, lc, sel, k, pz, pv, tn, tb, hab, cl, lo, cf, fd, ik, si, bi, mi, Ti, gi, FIx hF1 (o2.cls (fun c j z => qok_hi (hQ _ _ z))) (fun c j hc => e2 c j (by omega)), MIq hM1 o2 hQ w2, by omega, fun j => by rw [e2 _ _ (by omega)]; exact hx1 j⟩
end JS
