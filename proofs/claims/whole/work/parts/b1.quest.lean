/-! QUESTIONS ON BOTH SIDES (printed by wip/tools/genb1.py) -/
section SQ
variable {Γ : XG} {d c : Nat} {xs : Nat → Int32} {μ : XM}
theorem alo_le {h n s m T e : Nat} {ru : Nat → Int} {ki bx mg : Nat → Nat → Int} {ls : Int → Int → Int → Int → Int → Int → Int} {A : AA} (hF : FS μ h n ru ki ls s bx m T mg A e) : alo A T ≤ T := by
  obtain ⟨h1, h2, h3, h4, nx, h5⟩ := hF
  unfold alo
  by_cases e : aC A = 0
  · rw [if_pos e]; exact Nat.le_refl _
  · rw [if_neg e]
    exact (h5.2.2.2.2 0 (by omega)).2.2.2.2.1
theorem bur_eq (bx : Nat → Nat → Int) (s : Nat) : ∀ z, z ≤ s → bsum bx 1 s - bsum bx 1 (s - z) = fsum (fun b => bx (s - 1 - b) 1) z
  | 0, _ => by
    show bsum bx 1 s - bsum bx 1 (s - 0) = 0
    rw [Nat.sub_zero]
    omega
  | z + 1, h => by
    have ih := bur_eq bx s z (by omega)
    have e1 : bsum bx 1 (s - z) = bsum bx 1 (s - (z + 1)) + bx (s - 1 - z) 1 := by
      rw [show s - z = (s - 1 - z) + 1 by omega, show s - (z + 1) = s - 1 - z by omega]
      rfl
    have e2 : fsum (fun b => bx (s - 1 - b) 1) (z + 1) = fsum (fun b => bx (s - 1 - b) 1) z + bx (s - 1 - z) 1 := rfl
    omega
theorem S_rule (hf : FM Γ) (hd : 60 ≤ d) (hc : c ≤ 512) (hK : KS xs μ c) (x : Int32) : Call Γ m_FB_rule d [.ref 32, .int x] μ (KI (fun r μ1 => (∀ j, xI μ1 31 j = xs j) ∧ Call Γ m_MO_rule d [.ref 547, .int x] μ1 (KI (fun r' μ2 => r' = r ∧ KS xs μ2 (c + 1))))) := by
  obtain ⟨h, W, n, ru, ki, s, bx, m, T, mg, A, lt, lz, lc, sel, k, pz, pv, tn, tb, hab, cl, lo, cf, fd, ik, si, bi, mi, Ti, gi, hF, hM, hT, hx⟩ := hK
  obtain ⟨x, rfl, x1, x2⟩ := w_ex x
  refine joinq (P := qcr) (F := thr) hF hM hT hx ((C_ruleF (by omega) hF.1.1.1 hF.1.1.2.1 x1 x2).conseq (KI.mono (fun r μ1 z => ⟨by rw [z.1]; exact fof.rf _ _, z.2⟩))) (fun _ z => z) (fun μ1 hM1 => (C_ruleM (by omega) hM1.1.1.1 x1 x2).conseq (KI.mono (fun r μ2 z => ⟨z.1, fr.mw hM1 z.1 (fun c j q => by unfold thr at q; omega), z.2⟩))) (fun _ _ z => thr_ok z) (fun r r' a b => b.trans a.symm)
theorem S_kind (hf : FM Γ) (hd : 60 ≤ d) (hc : c ≤ 512) (hK : KS xs μ c) (x y : Int32) : Call Γ m_FB_kind d [.ref 32, .int x, .int y] μ (KI (fun r μ1 => (∀ j, xI μ1 31 j = xs j) ∧ Call Γ m_MO_kind d [.ref 547, .int x, .int y] μ1 (KI (fun r' μ2 => r' = r ∧ KS xs μ2 (c + 1))))) := by
  obtain ⟨h, W, n, ru, ki, s, bx, m, T, mg, A, lt, lz, lc, sel, k, pz, pv, tn, tb, hab, cl, lo, cf, fd, ik, si, bi, mi, Ti, gi, hF, hM, hT, hx⟩ := hK
  obtain ⟨x, rfl, x1, x2⟩ := w_ex x
  obtain ⟨y, rfl, y1, y2⟩ := w_ex y
  refine joinq (P := qcr) (F := thr) hF hM hT hx ((C_kindF (by omega) hF.1.1.1 hF.1.1.2.1 x1 x2 y1 y2).conseq (KI.mono (fun r μ1 z => ⟨by rw [z.1]; exact fof.rf _ _, z.2⟩))) (fun _ z => z) (fun μ1 hM1 => (C_kindM (by omega) hM1.1.1.1 x1 x2 y1 y2).conseq (KI.mono (fun r μ2 z => ⟨z.1, fr.mw hM1 z.1 (fun c j q => by unfold thr at q; omega), z.2⟩))) (fun _ _ z => thr_ok z) (fun r r' a b => b.trans a.symm)
theorem S_run (hf : FM Γ) (hd : 60 ≤ d) (hc : c ≤ 512) (hK : KS xs μ c) (x y : Int32) : Call Γ m_FB_run d [.ref 32, .int x, .int y] μ (KI (fun r μ1 => (∀ j, xI μ1 31 j = xs j) ∧ Call Γ m_MO_run d [.ref 547, .int x, .int y] μ1 (KI (fun r' μ2 => r' = r ∧ KS xs μ2 (c + 1))))) := by
  obtain ⟨h, W, n, ru, ki, s, bx, m, T, mg, A, lt, lz, lc, sel, k, pz, pv, tn, tb, hab, cl, lo, cf, fd, ik, si, bi, mi, Ti, gi, hF, hM, hT, hx⟩ := hK
  obtain ⟨x, rfl, x1, x2⟩ := w_ex x
  obtain ⟨y, rfl, y1, y2⟩ := w_ex y
  refine joinq (P := qcr) (F := qfr) hF hM hT hx (C_runF (by omega) hF.1.1 hF.1.2.1 hF.2.2.1.1 hF.2.2.1.2.1 hF.2.2.1.2.2 x1 x2 y1 y2) (fun _ z => z) (fun μ1 hM1 => C_runM hf (by omega) hM1.1.1 hM1.2.1 x1 x2 y1 y2) (fun _ _ z => qfr_ok z) (fun r r' a b => b.trans a.symm)
theorem S_dinner (hf : FM Γ) (hd : 60 ≤ d) (hc : c ≤ 512) (hK : KS xs μ c) (x y : Int32) : Call Γ m_FB_dinner d [.ref 32, .int x, .int y] μ (KI (fun r μ1 => (∀ j, xI μ1 31 j = xs j) ∧ Call Γ m_MO_dinner d [.ref 547, .int x, .int y] μ1 (KI (fun r' μ2 => r' = r ∧ KS xs μ2 (c + 1))))) := by
  obtain ⟨h, W, n, ru, ki, s, bx, m, T, mg, A, lt, lz, lc, sel, k, pz, pv, tn, tb, hab, cl, lo, cf, fd, ik, si, bi, mi, Ti, gi, hF, hM, hT, hx⟩ := hK
  obtain ⟨x, rfl, x1, x2⟩ := w_ex x
  obtain ⟨y, rfl, y1, y2⟩ := w_ex y
  refine joinq (P := qcr) (F := qfr) hF hM hT hx (C_dinnerF (by omega) hF.1.1 x1 x2 y1 y2) (fun _ z => z) (fun μ1 hM1 => C_dinnerM hf (by omega) hM1.1.1 x1 x2 y1 y2) (fun _ _ z => qfr_ok z) (fun r r' a b => b.trans a.symm)
theorem S_eat (hf : FM Γ) (hd : 60 ≤ d) (hc : c ≤ 512) (hK : KS xs μ c) (x : Int32) : Call Γ m_FB_eat d [.ref 32, .int x] μ (KI (fun r μ1 => (∀ j, xI μ1 31 j = xs j) ∧ Call Γ m_MO_eat d [.ref 547, .int x] μ1 (KI (fun r' μ2 => r' = r ∧ KS xs μ2 (c + 1))))) := by
  obtain ⟨h, W, n, ru, ki, s, bx, m, T, mg, A, lt, lz, lc, sel, k, pz, pv, tn, tb, hab, cl, lo, cf, fd, ik, si, bi, mi, Ti, gi, hF, hM, hT, hx⟩ := hK
  obtain ⟨x, rfl, x1, x2⟩ := w_ex x
  refine joinq (P := qcr) (F := qfr) hF hM hT hx (C_eatF (by omega) hF.1.1 x1 x2) (fun _ z => z) (fun μ1 hM1 => C_eatM hf (by omega) hM1.1.1 x1 x2) (fun _ _ z => qfr_ok z) (fun r r' a b => b.trans a.symm)
theorem S_costs (hf : FM Γ) (hd : 60 ≤ d) (hc : c ≤ 512) (hK : KS xs μ c) (x : Int32) : Call Γ m_FB_costs d [.ref 32, .int x] μ (KI (fun r μ1 => (∀ j, xI μ1 31 j = xs j) ∧ Call Γ m_MO_costs d [.ref 547, .int x] μ1 (KI (fun r' μ2 => r' = r ∧ KS xs μ2 (c + 1))))) := by
  obtain ⟨h, W, n, ru, ki, s, bx, m, T, mg, A, lt, lz, lc, sel, k, pz, pv, tn, tb, hab, cl, lo, cf, fd, ik, si, bi, mi, Ti, gi, hF, hM, hT, hx⟩ := hK
  obtain ⟨x, rfl, x1, x2⟩ := w_ex x
  refine joinq (P := qcr) (F := qfr) hF hM hT hx (C_costsF (by omega) hF.1.1 x1 x2) (fun _ z => z) (fun μ1 hM1 => C_costsM hf (by omega) hM1.1.1 x1 x2) (fun _ _ z => qfr_ok z) (fun r r' a b => ?_)
  rcases a with ⟨a1, rfl⟩ | ⟨a1, rfl⟩ <;> rcases b with ⟨b1, rfl⟩ | ⟨b1, rfl⟩
  · rfl
  · exact absurd a1 b1
  · exact absurd b1 a1
  · rfl
theorem S_full (hf : FM Γ) (hd : 60 ≤ d) (hc : c ≤ 512) (hK : KS xs μ c) (x : Int32) : Call Γ m_FB_full d [.ref 32, .int x] μ (KI (fun r μ1 => (∀ j, xI μ1 31 j = xs j) ∧ Call Γ m_MO_full d [.ref 547, .int x] μ1 (KI (fun r' μ2 => r' = r ∧ KS xs μ2 (c + 1))))) := by
  obtain ⟨h, W, n, ru, ki, s, bx, m, T, mg, A, lt, lz, lc, sel, k, pz, pv, tn, tb, hab, cl, lo, cf, fd, ik, si, bi, mi, Ti, gi, hF, hM, hT, hx⟩ := hK
  obtain ⟨x, rfl, x1, x2⟩ := w_ex x
  refine joinq (P := qcr) (F := thr) hF hM hT hx (C_fullF (by omega) hF.1.1.1 hF.1.1.2.1 x1 x2) (fun _ z => z) (fun μ1 hM1 => (C_fullM (by omega) hM1.1.1.1 x1 x2).conseq (KI.mono (fun r μ2 z => ⟨z.1, fr.mw hM1 z.1 (fun c j q => by unfold thr at q; omega), z.2⟩))) (fun _ _ z => thr_ok z) (fun r r' a b => ?_)
  rcases a with ⟨a1, rfl⟩ | ⟨a1, rfl⟩ <;> rcases b with ⟨b1, rfl⟩ | ⟨b1, rfl⟩
  · rfl
  · exact absurd a1 b1
  · exact absurd b1 a1
  · rfl
theorem S_keep (hf : FM Γ) (hd : 60 ≤ d) (hc : c ≤ 512) (hK : KS xs μ c) (x y : Int32) : Call Γ m_FB_keep d [.ref 32, .int x, .int y] μ (KI (fun r μ1 => (∀ j, xI μ1 31 j = xs j) ∧ Call Γ m_MO_keep d [.ref 547, .int x, .int y] μ1 (KI (fun r' μ2 => r' = r ∧ KS xs μ2 (c + 1))))) := by
  obtain ⟨h, W, n, ru, ki, s, bx, m, T, mg, A, lt, lz, lc, sel, k, pz, pv, tn, tb, hab, cl, lo, cf, fd, ik, si, bi, mi, Ti, gi, hF, hM, hT, hx⟩ := hK
  obtain ⟨x, rfl, x1, x2⟩ := w_ex x
  obtain ⟨y, rfl, y1, y2⟩ := w_ex y
  refine joinq (P := qcr) (F := qfr) hF hM hT hx (C_keepF (by omega) hF.1.1 x1 x2 y1 y2) (fun _ z => z) (fun μ1 hM1 => C_keepM hf (by omega) hM1.1.1 x1 x2 y1 y2) (fun _ _ z => qfr_ok z) (fun r r' a b => ?_)
  rcases a with ⟨a1, rfl⟩ | ⟨a1, rfl⟩ <;> rcases b with ⟨b1, rfl⟩ | ⟨b1, rfl⟩
  · rfl
  · exact absurd a1 b1
  · exact absurd b1 a1
  · rfl
theorem S_spans (hf : FM Γ) (hd : 60 ≤ d) (hc : c ≤ 512) (hK : KS xs μ c) (x y : Int32) : Call Γ m_FB_spans d [.ref 32, .int x, .int y] μ (KI (fun r μ1 => (∀ j, xI μ1 31 j = xs j) ∧ Call Γ m_MO_spans d [.ref 547, .int x, .int y] μ1 (KI (fun r' μ2 => r' = r ∧ KS xs μ2 (c + 1))))) := by
  obtain ⟨h, W, n, ru, ki, s, bx, m, T, mg, A, lt, lz, lc, sel, k, pz, pv, tn, tb, hab, cl, lo, cf, fd, ik, si, bi, mi, Ti, gi, hF, hM, hT, hx⟩ := hK
  obtain ⟨x, rfl, x1, x2⟩ := w_ex x
  obtain ⟨y, rfl, y1, y2⟩ := w_ex y
  refine joinq (P := qcr) (F := thr) hF hM hT hx (C_spansF (by omega) hF.1.1 x1 x2 y1 y2) (fun _ z => z) (fun μ1 hM1 => (C_spansM (by omega) hM1.1.1.1 hM1.1.1.2.1 hM1.1.1.2.2.1 x1 x2 y1 y2).conseq (KI.mono (fun r μ2 z => ⟨z.1, fr.mw hM1 z.1 (fun c j q => by unfold thr at q; omega), z.2⟩))) (fun _ _ z => thr_ok z) (fun r r' a b => b.trans a.symm)
theorem S_nameless (hf : FM Γ) (hd : 60 ≤ d) (hc : c ≤ 512) (hK : KS xs μ c) : Call Γ m_FB_nameless d [.ref 32] μ (KI (fun r μ1 => (∀ j, xI μ1 31 j = xs j) ∧ Call Γ m_MO_nameless d [.ref 547] μ1 (KI (fun r' μ2 => r' = r ∧ KS xs μ2 (c + 1))))) := by
  obtain ⟨h, W, n, ru, ki, s, bx, m, T, mg, A, lt, lz, lc, sel, k, pz, pv, tn, tb, hab, cl, lo, cf, fd, ik, si, bi, mi, Ti, gi, hF, hM, hT, hx⟩ := hK
  refine joinq (P := qcr) (F := thr) hF hM hT hx ((C_namelessF (by omega) hF.1.1).conseq (KI.mono (fun r μ1 z => ⟨by rw [z.1]; exact fof.rf _ _, z.2⟩))) (fun _ z => z) (fun μ1 hM1 => (C_namelessM (by omega) hM1.1.1.1 hM1.1.1.2.1).conseq (KI.mono (fun r μ2 z => ⟨z.1, fr.mw hM1 z.1 (fun c j q => by unfold thr at q; omega), z.2⟩))) (fun _ _ z => thr_ok z) (fun r r' a b => b.trans a.symm)
theorem S_doubles (hf : FM Γ) (hd : 60 ≤ d) (hc : c ≤ 512) (hK : KS xs μ c) (x : Int32) : Call Γ m_FB_doubles d [.ref 32, .int x] μ (KI (fun r μ1 => (∀ j, xI μ1 31 j = xs j) ∧ Call Γ m_MO_doubles d [.ref 547, .int x] μ1 (KI (fun r' μ2 => r' = r ∧ KS xs μ2 (c + 1))))) := by
  obtain ⟨h, W, n, ru, ki, s, bx, m, T, mg, A, lt, lz, lc, sel, k, pz, pv, tn, tb, hab, cl, lo, cf, fd, ik, si, bi, mi, Ti, gi, hF, hM, hT, hx⟩ := hK
  obtain ⟨x, rfl, x1, x2⟩ := w_ex x
  refine joinq (P := qcr) (F := thr) hF hM hT hx ((C_doublesF (by omega) hF.1.1 x1 x2).conseq (KI.mono (fun r μ1 z => ⟨by rw [z.1]; exact fof.rf _ _, z.2⟩))) (fun _ z => z) (fun μ1 hM1 => (C_doublesM (by omega) hM1.1.1.1 hM1.1.1.2.1 hM1.1.1.2.2.1 x1 x2).conseq (KI.mono (fun r μ2 z => ⟨z.1, fr.mw hM1 z.1 (fun c j q => by unfold thr at q; omega), z.2⟩))) (fun _ _ z => thr_ok z) (fun r r' a b => b.trans a.symm)
theorem S_what (hf : FM Γ) (hd : 60 ≤ d) (hc : c ≤ 512) (hK : KS xs μ c) (x : Int32) : Call Γ m_FB_what d [.ref 32, .int x] μ (KI (fun r μ1 => (∀ j, xI μ1 31 j = xs j) ∧ Call Γ m_MO_what d [.ref 547, .int x] μ1 (KI (fun r' μ2 => r' = r ∧ KS xs μ2 (c + 1))))) := by
  obtain ⟨h, W, n, ru, ki, s, bx, m, T, mg, A, lt, lz, lc, sel, k, pz, pv, tn, tb, hab, cl, lo, cf, fd, ik, si, bi, mi, Ti, gi, hF, hM, hT, hx⟩ := hK
  obtain ⟨x, rfl, x1, x2⟩ := w_ex x
  refine joinq (P := qcr) (F := thr) hF hM hT hx ((C_whatF (by omega) hF.1.1.1 hF.1.1.2.1 hF.2.2.2.2.2.1 x1 x2).conseq (KI.mono (fun r μ1 z => ⟨by rw [z.1]; exact fof.rf _ _, z.2⟩))) (fun _ z => z) (fun μ1 hM1 => (C_whatM (by omega) hM1.1.1.1 hM1.2.2.2.2.1 x1 x2).conseq (KI.mono (fun r μ2 z => ⟨z.1, fr.mw hM1 z.1 (fun c j q => by unfold thr at q; omega), z.2⟩))) (fun _ _ z => thr_ok z) (fun r r' a b => b.trans a.symm)
theorem S_history (hf : FM Γ) (hd : 60 ≤ d) (hc : c ≤ 512) (hK : KS xs μ c) (x y : Int32) : Call Γ m_FB_history d [.ref 32, .int x, .int y] μ (KI (fun r μ1 => (∀ j, xI μ1 31 j = xs j) ∧ Call Γ m_MO_history d [.ref 547, .int x, .int y] μ1 (KI (fun r' μ2 => r' = r ∧ KS xs μ2 (c + 1))))) := by
  obtain ⟨h, W, n, ru, ki, s, bx, m, T, mg, A, lt, lz, lc, sel, k, pz, pv, tn, tb, hab, cl, lo, cf, fd, ik, si, bi, mi, Ti, gi, hF, hM, hT, hx⟩ := hK
  obtain ⟨x, rfl, x1, x2⟩ := w_ex x
  obtain ⟨y, rfl, y1, y2⟩ := w_ex y
  refine joinq (P := hcr) (F := ghq) hF hM hT hx (C_historyF (by omega) hF.1.1.1 hF.1.1.2.1 hF.2.2.2.2.2.2.1 x1 x2 y1 y2) (fun _ z => hcr_q z) (fun μ1 hM1 => (C_historyM (by omega) hM1.1.1.1 hM1.2.2.2.2.2.1 x1 x2 y1 y2).conseq (KI.mono (fun r μ2 z => ⟨z.1, fr.mw hM1 z.1 (fun c j q => by unfold ghq ghf thr at q; omega), z.2⟩))) (fun _ _ z => ghq_ok z) (fun r r' a b => b.trans a.symm)
theorem S_share (hf : FM Γ) (hd : 60 ≤ d) (hc : c ≤ 512) (hK : KS xs μ c) (x : Int32) : Call Γ m_FB_share d [.ref 32, .int x] μ (KI (fun r μ1 => (∀ j, xI μ1 31 j = xs j) ∧ Call Γ m_MO_share d [.ref 547, .int x] μ1 (KI (fun r' μ2 => r' = r ∧ KS xs μ2 (c + 1))))) := by
  obtain ⟨h, W, n, ru, ki, s, bx, m, T, mg, A, lt, lz, lc, sel, k, pz, pv, tn, tb, hab, cl, lo, cf, fd, ik, si, bi, mi, Ti, gi, hF, hM, hT, hx⟩ := hK
  obtain ⟨x, rfl, x1, x2⟩ := w_ex x
  refine joinq (P := hcr) (F := ghq) hF hM hT hx (C_shareF (by omega) hF.1.1.1 hF.1.1.2.1 hF.2.2.2.2.2.2.1 x1 x2) (fun _ z => hcr_q z) (fun μ1 hM1 => (C_shareM (by omega) hM1.1.1.1 hM1.2.2.2.2.2.1 x1 x2).conseq (KI.mono (fun r μ2 z => ⟨z.1, fr.mw hM1 z.1 (fun c j q => by unfold ghq ghf thr at q; omega), z.2⟩))) (fun _ _ z => ghq_ok z) (fun r r' a b => b.trans a.symm)
theorem S_lot (hf : FM Γ) (hd : 60 ≤ d) (hc : c ≤ 512) (hK : KS xs μ c) (x : Int32) : Call Γ m_FB_lot d [.ref 32, .int x] μ (KI (fun r μ1 => (∀ j, xI μ1 31 j = xs j) ∧ Call Γ m_MO_lot d [.ref 547, .int x] μ1 (KI (fun r' μ2 => r' = r ∧ KS xs μ2 (c + 1))))) := by
  obtain ⟨h, W, n, ru, ki, s, bx, m, T, mg, A, lt, lz, lc, sel, k, pz, pv, tn, tb, hab, cl, lo, cf, fd, ik, si, bi, mi, Ti, gi, hF, hM, hT, hx⟩ := hK
  obtain ⟨x, rfl, x1, x2⟩ := w_ex x
  refine joinq (P := qcr) (F := qfr) hF hM hT hx (C_lotF (by omega) hF.1.1 x1 x2) (fun _ z => z) (fun μ1 hM1 => C_lotM hf (by omega) hM1.1.1 x1 x2) (fun _ _ z => qfr_ok z) (fun r r' a b => b.trans a.symm)
theorem S_labels (hf : FM Γ) (hd : 60 ≤ d) (hc : c ≤ 512) (hK : KS xs μ c) (x y : Int32) : Call Γ m_FB_labels d [.ref 32, .int x, .int y] μ (KI (fun r μ1 => (∀ j, xI μ1 31 j = xs j) ∧ Call Γ m_MO_labels d [.ref 547, .int x, .int y] μ1 (KI (fun r' μ2 => r' = r ∧ KS xs μ2 (c + 1))))) := by
  obtain ⟨h, W, n, ru, ki, s, bx, m, T, mg, A, lt, lz, lc, sel, k, pz, pv, tn, tb, hab, cl, lo, cf, fd, ik, si, bi, mi, Ti, gi, hF, hM, hT, hx⟩ := hK
  obtain ⟨x, rfl, x1, x2⟩ := w_ex x
  obtain ⟨y, rfl, y1, y2⟩ := w_ex y
  refine joinq (P := qcr) (F := thr) hF hM hT hx ((C_labelsF (by omega) hF.1.1 x1 x2 y1 y2).conseq (KI.mono (fun r μ1 z => ⟨by rw [z.1]; exact fof.rf _ _, z.2⟩))) (fun _ z => z) (fun μ1 hM1 => (C_labelsM (by omega) hM1.1.1.1 hM1.1.1.2.1 x1 x2 y1 y2).conseq (KI.mono (fun r μ2 z => ⟨z.1, fr.mw hM1 z.1 (fun c j q => by unfold thr at q; omega), z.2⟩))) (fun _ _ z => thr_ok z) (fun r r' a b => b.trans a.symm)
theorem S_rests (hf : FM Γ) (hd : 60 ≤ d) (hc : c ≤ 512) (hK : KS xs μ c) (x : Int32) : Call Γ m_FB_rests d [.ref 32, .int x] μ (KI (fun r μ1 => (∀ j, xI μ1 31 j = xs j) ∧ Call Γ m_MO_rests d [.ref 547, .int x] μ1 (KI (fun r' μ2 => r' = r ∧ KS xs μ2 (c + 1))))) := by
  obtain ⟨h, W, n, ru, ki, s, bx, m, T, mg, A, lt, lz, lc, sel, k, pz, pv, tn, tb, hab, cl, lo, cf, fd, ik, si, bi, mi, Ti, gi, hF, hM, hT, hx⟩ := hK
  obtain ⟨x, rfl, x1, x2⟩ := w_ex x
  refine joinq (P := qcr) (F := thr) hF hM hT hx ((C_restsF (by omega) hF.1.1 x1 x2).conseq (KI.mono (fun r μ1 z => ⟨by rw [z.1]; exact fof.rf _ _, z.2⟩))) (fun _ z => z) (fun μ1 hM1 => (C_restsM (by omega) hM1.1.1.1 hM1.1.1.2.1 x1 x2).conseq (KI.mono (fun r μ2 z => ⟨z.1, fr.mw hM1 z.1 (fun c j q => by unfold thr at q; omega), z.2⟩))) (fun _ _ z => thr_ok z) (fun r r' a b => b.trans a.symm)
theorem S_most (hf : FM Γ) (hd : 60 ≤ d) (hc : c ≤ 512) (hK : KS xs μ c) (x : Int32) : Call Γ m_FB_most d [.ref 32, .int x] μ (KI (fun r μ1 => (∀ j, xI μ1 31 j = xs j) ∧ Call Γ m_MO_most d [.ref 547, .int x] μ1 (KI (fun r' μ2 => r' = r ∧ KS xs μ2 (c + 1))))) := by
  obtain ⟨h, W, n, ru, ki, s, bx, m, T, mg, A, lt, lz, lc, sel, k, pz, pv, tn, tb, hab, cl, lo, cf, fd, ik, si, bi, mi, Ti, gi, hF, hM, hT, hx⟩ := hK
  obtain ⟨x, rfl, x1, x2⟩ := w_ex x
  refine joinq (P := qcr) (F := qfr) hF hM hT hx (C_mostF (by omega) hF.1.1 x1 x2) (fun _ z => z) (fun μ1 hM1 => C_mostM hf (by omega) hM1.1.1 x1 x2) (fun _ _ z => qfr_ok z) (fun r r' a b => b.trans a.symm)
theorem S_spoilt (hf : FM Γ) (hd : 60 ≤ d) (hc : c ≤ 512) (hK : KS xs μ c) : Call Γ m_FB_spoilt d [.ref 32] μ (KI (fun r μ1 => (∀ j, xI μ1 31 j = xs j) ∧ Call Γ m_MO_spoilt d [.ref 547] μ1 (KI (fun r' μ2 => r' = r ∧ KS xs μ2 (c + 1))))) := by
  obtain ⟨h, W, n, ru, ki, s, bx, m, T, mg, A, lt, lz, lc, sel, k, pz, pv, tn, tb, hab, cl, lo, cf, fd, ik, si, bi, mi, Ti, gi, hF, hM, hT, hx⟩ := hK
  refine joinq (P := qcr) (F := qfr) hF hM hT hx (C_spoiltF (by omega) hF.1.1) (fun _ z => z) (fun μ1 hM1 => C_spoiltM hf (by omega) hM1.1.1) (fun _ _ z => qfr_ok z) (fun r r' a b => b.trans a.symm)
theorem S_goes (hf : FM Γ) (hd : 60 ≤ d) (hc : c ≤ 512) (hK : KS xs μ c) (x : Int32) : Call Γ m_FB_goes d [.ref 32, .int x] μ (KI (fun r μ1 => (∀ j, xI μ1 31 j = xs j) ∧ Call Γ m_MO_goes d [.ref 547, .int x] μ1 (KI (fun r' μ2 => r' = r ∧ KS xs μ2 (c + 1))))) := by
  obtain ⟨h, W, n, ru, ki, s, bx, m, T, mg, A, lt, lz, lc, sel, k, pz, pv, tn, tb, hab, cl, lo, cf, fd, ik, si, bi, mi, Ti, gi, hF, hM, hT, hx⟩ := hK
  obtain ⟨x, rfl, x1, x2⟩ := w_ex x
  refine joinq (P := qcr) (F := thr) hF hM hT hx ((C_goesF (by omega) hF.1.1.1 hF.1.1.2.1 x1 x2).conseq (KI.mono (fun r μ1 z => ⟨by rw [z.1]; exact fof.rf _ _, z.2⟩))) (fun _ z => z) (fun μ1 hM1 => (C_goesM (by omega) hM1.1.1.1 x1 x2).conseq (KI.mono (fun r μ2 z => ⟨z.1, fr.mw hM1 z.1 (fun c j q => by unfold thr at q; omega), z.2⟩))) (fun _ _ z => thr_ok z) (fun r r' a b => b.trans a.symm)
theorem S_soonest (hf : FM Γ) (hd : 60 ≤ d) (hc : c ≤ 512) (hK : KS xs μ c) (x : Int32) : Call Γ m_FB_soonest d [.ref 32, .int x] μ (KI (fun r μ1 => (∀ j, xI μ1 31 j = xs j) ∧ Call Γ m_MO_soonest d [.ref 547, .int x] μ1 (KI (fun r' μ2 => r' = r ∧ KS xs μ2 (c + 1))))) := by
  obtain ⟨h, W, n, ru, ki, s, bx, m, T, mg, A, lt, lz, lc, sel, k, pz, pv, tn, tb, hab, cl, lo, cf, fd, ik, si, bi, mi, Ti, gi, hF, hM, hT, hx⟩ := hK
  obtain ⟨x, rfl, x1, x2⟩ := w_ex x
  refine joinq (P := qcr) (F := qfr) hF hM hT hx (C_soonestF (by omega) hF.1.1 x1 x2) (fun _ z => z) (fun μ1 hM1 => C_soonestM hf (by omega) hM1.1.1 x1 x2) (fun _ _ z => qfr_ok z) (fun r r' a b => b.trans a.symm)
theorem S_monthly (hf : FM Γ) (hd : 60 ≤ d) (hc : c ≤ 512) (hK : KS xs μ c) (x : Int32) : Call Γ m_FB_monthly d [.ref 32, .int x] μ (KI (fun r μ1 => (∀ j, xI μ1 31 j = xs j) ∧ Call Γ m_MO_monthly d [.ref 547, .int x] μ1 (KI (fun r' μ2 => r' = r ∧ KS xs μ2 (c + 1))))) := by
  obtain ⟨h, W, n, ru, ki, s, bx, m, T, mg, A, lt, lz, lc, sel, k, pz, pv, tn, tb, hab, cl, lo, cf, fd, ik, si, bi, mi, Ti, gi, hF, hM, hT, hx⟩ := hK
  obtain ⟨x, rfl, x1, x2⟩ := w_ex x
  refine joinq (P := qcr) (F := qfr) hF hM hT hx (C_monthlyF (by omega) hF.1.1 x1 x2) (fun _ z => z) (fun μ1 hM1 => C_monthlyM hf (by omega) hM1.1.1 x1 x2) (fun _ _ z => qfr_ok z) (fun r r' a b => b.trans a.symm)
theorem S_make (hf : FM Γ) (hd : 60 ≤ d) (hc : c ≤ 512) (hK : KS xs μ c) (x y : Int32) : Call Γ m_FB_make d [.ref 32, .int x, .int y] μ (KI (fun r μ1 => (∀ j, xI μ1 31 j = xs j) ∧ Call Γ m_MO_make d [.ref 547, .int x, .int y] μ1 (KI (fun r' μ2 => r' = r ∧ KS xs μ2 (c + 1))))) := by
  obtain ⟨h, W, n, ru, ki, s, bx, m, T, mg, A, lt, lz, lc, sel, k, pz, pv, tn, tb, hab, cl, lo, cf, fd, ik, si, bi, mi, Ti, gi, hF, hM, hT, hx⟩ := hK
  obtain ⟨x, rfl, x1, x2⟩ := w_ex x
  obtain ⟨y, rfl, y1, y2⟩ := w_ex y
  refine joinq (P := qcr) (F := thr) hF hM hT hx ((C_makeF (by omega) hF.1.1.1 hF.1.1.2.1 x1 x2 y1 y2).conseq (KI.mono (fun r μ1 z => ⟨by rw [z.1]; exact fof.rf _ _, z.2⟩))) (fun _ z => z) (fun μ1 hM1 => (C_makeM (by omega) hM1.1.1.1 x1 x2 y1 y2).conseq (KI.mono (fun r μ2 z => ⟨z.1, fr.mw hM1 z.1 (fun c j q => by unfold thr at q; omega), z.2⟩))) (fun _ _ z => thr_ok z) (fun r r' a b => b.trans a.symm)
theorem S_buried (hf : FM Γ) (hd : 60 ≤ d) (hc : c ≤ 512) (hK : KS xs μ c) (x : Int32) : Call Γ m_FB_buried d [.ref 32, .int x] μ (KI (fun r μ1 => (∀ j, xI μ1 31 j = xs j) ∧ Call Γ m_MO_buried d [.ref 547, .int x] μ1 (KI (fun r' μ2 => r' = r ∧ KS xs μ2 (c + 1))))) := by
  obtain ⟨h, W, n, ru, ki, s, bx, m, T, mg, A, lt, lz, lc, sel, k, pz, pv, tn, tb, hab, cl, lo, cf, fd, ik, si, bi, mi, Ti, gi, hF, hM, hT, hx⟩ := hK
  obtain ⟨x, rfl, x1, x2⟩ := w_ex x
  refine joinq (P := qcr) (F := thr) hF hM hT hx ((C_buriedF (by omega) hF.1.1.1 hF.1.1.2.2.2.1 x1 x2).conseq (KI.mono (fun r μ1 z => ⟨by rw [z.1]; exact fof.rf _ _, z.2⟩))) (fun _ z => z) (fun μ1 hM1 => (C_buriedM (by omega) hM1.1.1.1 hM1.1.1.2.1 hM1.1.1.2.2.2.1 x1 x2).conseq (KI.mono (fun r μ2 z => ⟨z.1, fr.mw hM1 z.1 (fun c j q => by unfold thr at q; omega), z.2⟩))) (fun _ _ z => thr_ok z) (fun r r' a b => ?_)
  rw [a, b]
  by_cases e : 0 ≤ x ∧ x < s
  · rw [if_pos e, if_pos e, bur_eq bx s x.toNat (by omega)]
  · rw [if_neg e, if_neg e]
theorem S_log (hf : FM Γ) (hd : 60 ≤ d) (hc : c ≤ 512) (hK : KS xs μ c) (x y : Int32) : Call Γ m_FB_log d [.ref 32, .int x, .int y] μ (KI (fun r μ1 => (∀ j, xI μ1 31 j = xs j) ∧ Call Γ m_MO_log d [.ref 547, .int x, .int y] μ1 (KI (fun r' μ2 => r' = r ∧ KS xs μ2 (c + 1))))) := by
  obtain ⟨h, W, n, ru, ki, s, bx, m, T, mg, A, lt, lz, lc, sel, k, pz, pv, tn, tb, hab, cl, lo, cf, fd, ik, si, bi, mi, Ti, gi, hF, hM, hT, hx⟩ := hK
  obtain ⟨x, rfl, x1, x2⟩ := w_ex x
  obtain ⟨y, rfl, y1, y2⟩ := w_ex y
  refine joinq (P := qcr) (F := thr) hF hM hT hx ((C_logF (by omega) hF.1.1.1 hF.1.2.2.1 (by omega) (alo_le hF.1) hF.1.2.2.2.1 x1 x2 y1 y2).conseq (KI.mono (fun r μ1 z => ⟨by rw [z.1]; exact fof.rf _ _, z.2⟩))) (fun _ z => z) (fun μ1 hM1 => (C_logM (by omega) hM1.1.1.1 hM1.1.1.2.1 x1 x2 y1 y2).conseq (KI.mono (fun r μ2 z => ⟨z.1, fr.mw hM1 z.1 (fun c j q => by unfold thr at q; omega), z.2⟩))) (fun _ _ z => thr_ok z) (fun r r' a b => b.trans a.symm)
theorem S_step (hf : FM Γ) (hd : 60 ≤ d) (hc : c ≤ 512) (hK : KS xs μ c) (x y z : Int32) : Call Γ m_FB_step d [.ref 32, .int x, .int y, .int z] μ (KI (fun r μ1 => (∀ j, xI μ1 31 j = xs j) ∧ Call Γ m_MO_step d [.ref 547, .int x, .int y, .int z] μ1 (KI (fun r' μ2 => r' = r ∧ KS xs μ2 (c + 1))))) := by
  obtain ⟨h, W, n, ru, ki, s, bx, m, T, mg, A, lt, lz, lc, sel, k, pz, pv, tn, tb, hab, cl, lo, cf, fd, ik, si, bi, mi, Ti, gi, hF, hM, hT, hx⟩ := hK
  obtain ⟨x, rfl, x1, x2⟩ := w_ex x
  obtain ⟨y, rfl, y1, y2⟩ := w_ex y
  obtain ⟨z, rfl, z1, z2⟩ := w_ex z
  refine joinq (P := qcr) (F := thr) hF hM hT hx ((C_stepF (by omega) hF.1.1.1 hF.2.2.1.1 hF.2.2.1.2.1 hF.2.2.1.2.2 x1 x2 y1 y2 z1 z2).conseq (KI.mono (fun r μ1 z => ⟨by rw [z.1]; exact fof.rf _ _, z.2⟩))) (fun _ z => z) (fun μ1 hM1 => (C_stepM (by omega) hM1.1.1.1 hM1.2.1 x1 x2 y1 y2 z1 z2).conseq (KI.mono (fun r μ2 z => ⟨z.1, fr.mw hM1 z.1 (fun c j q => by unfold thr at q; omega), z.2⟩))) (fun _ _ z => thr_ok z) (fun r r' a b => b.trans a.symm)
theorem S_count (hf : FM Γ) (hd : 60 ≤ d) (hc : c ≤ 512) (hK : KS xs μ c) (x : Int32) : Call Γ m_FB_count d [.ref 32, .int x] μ (KI (fun r μ1 => (∀ j, xI μ1 31 j = xs j) ∧ Call Γ m_MO_count d [.ref 547, .int x] μ1 (KI (fun r' μ2 => r' = r ∧ KS xs μ2 (c + 1))))) := by
  obtain ⟨h, W, n, ru, ki, s, bx, m, T, mg, A, lt, lz, lc, sel, k, pz, pv, tn, tb, hab, cl, lo, cf, fd, ik, si, bi, mi, Ti, gi, hF, hM, hT, hx⟩ := hK
  obtain ⟨x, rfl, x1, x2⟩ := w_ex x
  refine joinq (P := qcr) (F := qfr) hF hM hT hx (C_countF (by omega) (by omega) hF.1 hF.2.2.2.1 hF.2.1.2.1 hF.2.1.2.2.1 hF.2.2.1.1 hF.2.2.2.2.1.1 hF.2.2.2.2.2.1 hF.2.2.2.2.2.2.1 x1 x2) (fun _ z => z) (fun μ1 hM1 => C_countM hf (by omega) hM1.1 hM1.2.2.1.2 hM1.2.2.2.2.2.2.2.1 hM1.2.1.2.1 hM1.2.2.2.1 hM1.2.2.2.2.1.2.1 hM1.2.2.2.2.2.1.2.1 x1 x2) (fun _ _ z => qfr_ok z) (fun r r' a b => ?_)
  rw [a, b, ← hM.2.2.2.2.2.2.2.2.2.1]
end SQ
