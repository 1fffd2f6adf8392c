/-! TEXTS ARE TOLD, both sides -/
section TY
variable {Γ : XG} {d : Nat} {h n s m T lt k tn cl cf si mi Ti : Nat} {ru : Nat → Int} {ki bx mg lo fd bi gi : Nat → Nat → Int} {lz : Nat → Nat} {lc : Nat → Nat → Int} {sel hab : Int} {pz : Nat → Nat} {pv : Nat → Nat → Nat → Int} {tb : Nat → Nat} {ik : Bool} {A : AA} {W : WL} {μ : XM}
def ghi (c j : Nat) : Prop := 547 ≤ c
theorem mfx_hi {μ μ' : XM} (h : mfx μ μ') : fr ghi μ μ' := h.1.wide (fun c j z => sok_hi z)
theorem thr_hi {c j : Nat} (z : thr c j) : ghi c j := by unfold thr at z; unfold ghi; omega
/-- refused, nothing changed -/
def TRF (μ μ' : XM) (W : WL) (n : Nat) (ru : Nat → Int) (ki : Nat → Nat → Int) (s : Nat) (bx : Nat → Nat → Int) (m T : Nat) (mg : Nat → Nat → Int) (A : AA) (lt : Nat) (lz : Nat → Nat) (lc : Nat → Nat → Int) (sel : Int) (k : Nat) (pz : Nat → Nat) (pv : Nat → Nat → Nat → Int) (tn : Nat) (tb : Nat → Nat) (hab : Int) (cl : Nat) (lo : Nat → Nat → Int) (cf : Nat) (fd : Nat → Nat → Int) (ik : Bool) (si : Nat) (bi : Nat → Nat → Int) (mi Ti : Nat) (gi : Nat → Nat → Int) : Prop := fr ghi μ μ' ∧ MI μ' W n ru ki s bx m T mg A lt lz lc sel k pz pv tn tb hab cl lo cf fd ik si bi mi Ti gi
theorem MI_th (hM : MI μ W n ru ki s bx m T mg A lt lz lc sel k pz pv tn tb hab cl lo cf fd ik si bi mi Ti gi) : MI (sI μ 547 0 (w 0)) W n ru ki s bx m T mg A lt lz lc sel k pz pv tn tb hab cl lo cf fd ik si bi mi Ti gi ∧ fr ghi μ (sI μ 547 0 (w 0)) := ⟨MIs hM ((th0 μ).wide (fun _ _ => thr_s)) (fun j hj => by rw [xI_sI, if_neg (by omega)]) (fun j hj => by rw [xI_sI, if_neg (by omega)]), (th0 μ).wide (fun _ _ => thr_hi)⟩
theorem C_textMn (hd : 2 ≤ d) (hM : MI μ W n ru ki s bx m T mg A lt lz lc sel k pz pv tn tb hab cl lo cf fd ik si bi mi Ti gi) {z : Int} (z1 : -2147483648 ≤ z) (z2 : z < 2147483648) (hz : ¬ (0 ≤ z ∧ z ≤ 2)) : Call Γ m_MO_text d [.ref 547, .int (w z)] μ (KI (fun r μ' => r = w (-1) ∧ fr ghi μ μ' ∧ MI μ' W n ru ki s bx m T mg A lt lz lc sel k pz pv tn tb hab cl lo cf fd ik si bi mi Ti gi)) := by
  obtain ⟨d, rfl⟩ : ∃ e, d = e + 1 := ⟨d - 1, by omega⟩
  have hR := hM.1.1.1.1
  obtain ⟨m1, o1⟩ := MI_th hM
  refine Call.of ok_MO_text (Nat.le_of_ble_eq_true rfl) (B_MO_text_0 hR.o ?_)
  rintro μ1 rfl
  rw [w_l z1 z2]
  refine (C_isIn (x := 0) (y := 2) (by omega) (by omega) (by omega) (by omega) (by omega) (by omega) (by omega)).conseq (KI.mono ?_)
  rintro r μ2 ⟨rfl, ⟨g1, g2, rfl⟩ | ⟨g1, rfl⟩⟩
  · omega
  · exact ⟨fun _ => ⟨_, rfl, rfl, o1, m1⟩, fun z => absurd rfl z⟩
theorem C_textM0 (hf : FM Γ) (hd : 61 ≤ d) (hM : MI μ W n ru ki s bx m T mg A lt lz lc sel k pz pv tn tb hab cl lo cf fd ik si bi mi Ti gi) (hb : ∀ j, j < tn → 1 ≤ tb j ∧ tb j ≤ 255) : Call Γ m_MO_text d [.ref 547, .int (w 0)] μ (KI (fun r μ' => fr ghi μ μ' ∧ match hse tb tn with
    | .inl _ => r = w (-1) ∧ MI μ' W n ru ki s bx m T mg A lt lz lc sel k pz pv tn tb hab cl lo cf fd ik si bi mi Ti gi
    | .inr X => r = w (t1 X) ∧ MI μ' W (t1 X) (t3 X) (t4 X) (t2 X) (lbx (t5 X)) 0 0 mg (0, aS A, aB A, aM A, aT A) lt lz lc sel k pz pv 0 tb hab 0 lo 0 fd false si bi mi Ti gi)) := by
  obtain ⟨d, rfl⟩ : ∃ e, d = e + 1 := ⟨d - 1, by omega⟩
  have hR := hM.1.1.1.1
  obtain ⟨m1, o1⟩ := MI_th hM
  have hn := hM.2.2.1.1.1
  refine Call.of ok_MO_text (Nat.le_of_ble_eq_true rfl) (B_MO_text_0 hR.o ?_)
  rintro μ1 rfl
  generalize sI μ 547 0 (w 0) = μ1 at *
  rw [w_l (by omega) (by omega)]
  refine (C_isIn (x := 0) (y := 2) (by omega) (by omega) (by omega) (by omega) (by omega) (by omega) (by omega)).conseq (KI.mono ?_)
  rintro r μ2 ⟨rfl, ⟨g1, g2, rfl⟩ | ⟨g1, rfl⟩⟩
  · refine ⟨fun z => absurd z w01, fun _ => ⟨fun z => absurd z (by decide), fun _ => ?_⟩⟩
    refine B_MO_text_30 m1.1.1.1.1.o ?_
    refine ⟨fun z => absurd z (by decide), fun _ => ?_⟩
    refine (C_faultM0 hf (by omega) m1).conseq (KI.mono ?_)
    rintro r μ3 ⟨o3, rfl, h3⟩
    have m3 := MIs m1 o3.1 o3.2.1 o3.2.2
    have oo := o1.trans (mfx_hi o3)
    have hq := hse_q (tb := tb) (n := tn) (q := (hse tb tn).elim id (fun _ => 0)) hb
    have hk := hse_ok (tb := tb) (n := tn) hb
    revert h3 hq hk
    generalize hse tb tn = X
    intro h3 hq hk
    match X, h3, hq, hk with
    | .inl q, h3, hq, hk =>
      have hqn : q ≤ tn := hk
      rw [h3]
      have hne : ¬ w (q : Int) = w (-1) := by rw [w_inj (by omega) (by omega) (by omega) (by omega)]; omega
      exact ⟨fun z => absurd z hne, fun _ => ⟨_, rfl, oo, rfl, m3⟩⟩
    | .inr X, h3, hq, hk =>
      obtain ⟨h4, h5⟩ := h3
      rw [h4]
      refine ⟨fun _ => ?_, fun z => absurd rfl z⟩
      rintro μ5 rfl
      refine ⟨fun z => absurd z (by decide), fun _ => ⟨fun z => absurd z (by decide), fun _ => ?_⟩⟩
      rintro μ6 rfl
      exact text_h m3 h5 hk.1 hk.2 (fun μ' g1 g2 => ⟨_, rfl, oo.trans (g1.wide (fun c j z => fth_hi z)), rfl, g2⟩)
  · omega
theorem C_textM1 (hf : FM Γ) (hd : 61 ≤ d) (hM : MI μ W n ru ki s bx m T mg A lt lz lc sel k pz pv tn tb hab cl lo cf fd ik si bi mi Ti gi) : Call Γ m_MO_text d [.ref 547, .int (w 1)] μ (KI (fun r μ' => fr ghi μ μ' ∧ match law tb tn with
    | .inl _ => r = w (-1) ∧ MI μ' W n ru ki s bx m T mg A lt lz lc sel k pz pv tn tb hab cl lo cf fd ik si bi mi Ti gi
    | .inr u => if lt = 4 then r = w (-1) ∧ MI μ' W n ru ki s bx m T mg A lt lz lc sel k pz pv tn tb hab cl lo cf fd ik si bi mi Ti gi else r = w lt ∧ MI μ' (W.1 + 1, W.2.1, upN W.2.2.1 lt tn, upN W.2.2.2 lt tb) n ru ki s bx m T mg A (lt + 1) (upN lz lt u.1.length) (upN lc lt (fun i => u.1.getD i 0)) sel k pz pv 0 tb hab cl lo cf fd ik si bi mi Ti gi)) := by
  obtain ⟨d, rfl⟩ : ∃ e, d = e + 1 := ⟨d - 1, by omega⟩
  have hR := hM.1.1.1.1
  obtain ⟨m1, o1⟩ := MI_th hM
  have hn := hM.2.2.1.1.1
  have hl4 : lt ≤ 4 := by
    have := hM.2.2.2.2.2.2.2.2.1
    have := hM.mw.2.1
    omega
  refine Call.of ok_MO_text (Nat.le_of_ble_eq_true rfl) (B_MO_text_0 hR.o ?_)
  rintro μ1 rfl
  generalize sI μ 547 0 (w 0) = μ1 at *
  rw [w_l (by omega) (by omega)]
  refine (C_isIn (x := 0) (y := 2) (by omega) (by omega) (by omega) (by omega) (by omega) (by omega) (by omega)).conseq (KI.mono ?_)
  rintro r μ2 ⟨rfl, ⟨g1, g2, rfl⟩ | ⟨g1, rfl⟩⟩
  · refine ⟨fun z => absurd z w01, fun _ => ⟨fun _ => ?_, fun z => absurd rfl z⟩⟩
    rw [m1.2.2.2.2.2.2.2.1, w_inj (by omega) (by omega) (by omega) (by omega)]
    refine ⟨fun z => ?_, fun z => ?_⟩
    · refine ⟨_, rfl, o1, ?_⟩
      generalize law tb tn = X
      match X with
      | .inl q => exact ⟨rfl, m1⟩
      | .inr u =>
        dsimp only
        rw [if_pos (by omega)]
        exact ⟨rfl, m1⟩
    · refine B_MO_text_30 m1.1.1.1.1.o ?_
      refine ⟨fun z => absurd z (by decide), fun _ => ?_⟩
      refine (C_faultM1 hf (by omega) m1).conseq (KI.mono ?_)
      rintro r μ3 ⟨o3, rfl, h3⟩
      have m3 := MIs m1 o3.1 o3.2.1 o3.2.2
      have oo := o1.trans (mfx_hi o3)
      obtain ⟨X, eX⟩ : ∃ X, law tb tn = X := ⟨_, rfl⟩
      rw [eX] at h3
      rw [eX]
      match X, h3, eX with
      | .inl q, h3, eX =>
        have hqn := law_q eX
        have h4 : xI μ3 547 11 = w q := h3
        rw [h4]
        have hne : ¬ w (q : Int) = w (-1) := by rw [w_inj (by omega) (by omega) (by omega) (by omega)]; omega
        exact ⟨fun z => absurd z hne, fun _ => ⟨_, rfl, oo, rfl, m3⟩⟩
      | .inr (c, g), h3, eX =>
        have h4 : xI μ3 547 11 = w (-1) := h3
        rw [h4]
        refine ⟨fun _ => ?_, fun z => absurd rfl z⟩
        rintro μ5 rfl
        refine ⟨fun _ => ?_, fun z => absurd rfl z⟩
        rw [m3.2.2.1.2]
        have R5 : RM (sI μ3 547 6 (w 0)) := m3.1.1.1.1.fr (fr.sI (F := fun c j => c = 547 ∧ j = 6) (a := 547) (k := 6) _ _ ⟨rfl, rfl⟩) (fun k v e z => by
          have : k = 6 := z.2
          subst this
          cases e)
        have T5 : TX (sI μ3 547 6 (w 0)) 548 0 tn tb := m3.2.2.1.1.fr (fr.sI (F := fun c j => c = 547 ∧ j = 6) (a := 547) (k := 6) _ _ ⟨rfl, rfl⟩) (fun j => by omega)
        have e7 : xI (sI μ3 547 6 (w 0)) 547 7 = w lt := by rw [xI_sI, if_neg (by omega)]; exact m3.2.2.2.2.2.2.2.1
        refine text_71 (lt := lt) (ν := sI μ3 547 6 (w 0)) R5 T5 (by omega) e7 (fun μ' o' v1 v2 v3 v4 v7 => ?_) tn 0 _ (by omega) (fr.rf _ _) (fun j hj => absurd hj (Nat.not_lt_zero _)) (fun j hj => rfl)
        have oa : fr (fun c j => c = 549 ∨ c = 550 ∨ (c = 547 ∧ (j = 6 ∨ j = 7))) μ3 μ' := (fr.sI (F := fun c j => c = 549 ∨ c = 550 ∨ (c = 547 ∧ (j = 6 ∨ j = 7))) (a := 547) (k := 6) _ _ (by omega)).trans (o'.wide (fun c j z => by omega))
        have m' := MI_tl (c := c) (g := g) m3 (by omega) eX oa v1 (fun j hj => by rw [v2 j hj, xI_sI, if_neg (by omega)]) v3 (fun j hj => by rw [v4 j hj, xI_sI, if_neg (by omega)]) v7 (by rw [(o'.1 547 6 (by omega)).1, xI_sI, if_pos ⟨rfl, rfl⟩])
        refine ⟨_, rfl, oo.trans (oa.wide (fun c j z => by unfold ghi; omega)), ?_⟩
        dsimp only
        rw [if_neg (by omega)]
        exact ⟨rfl, m'⟩
  · omega
theorem C_textM2 (hf : FM Γ) (hd : 61 ≤ d) (hM : MI μ W n ru ki s bx m T mg A lt lz lc sel k pz pv tn tb hab cl lo cf fd ik si bi mi Ti gi) : Call Γ m_MO_text d [.ref 547, .int (w 2)] μ (KI (fun r μ' => fr ghi μ μ' ∧ match plF tb tn 16 0 0 (fun _ _ => 0) with
    | .inl _ => r = w (-1) ∧ MI μ' W n ru ki s bx m T mg A lt lz lc sel k pz pv tn tb hab cl lo cf fd ik si bi mi Ti gi
    | .inr u => if k = 4 then r = w (-1) ∧ MI μ' W n ru ki s bx m T mg A lt lz lc sel k pz pv tn tb hab cl lo cf fd ik si bi mi Ti gi else r = w k ∧ MI μ' W n ru ki s bx m T mg A lt lz lc sel (k + 1) (upN pz k u.1) (upN pv k u.2) 0 tb hab cl lo cf fd ik si bi mi Ti gi)) := by
  obtain ⟨d, rfl⟩ : ∃ e, d = e + 1 := ⟨d - 1, by omega⟩
  have hR := hM.1.1.1.1
  obtain ⟨m1, o1⟩ := MI_th hM
  have hn := hM.2.2.1.1.1
  have hk4 : k ≤ 4 := hM.2.1.1
  refine Call.of ok_MO_text (Nat.le_of_ble_eq_true rfl) (B_MO_text_0 hR.o ?_)
  rintro μ1 rfl
  generalize sI μ 547 0 (w 0) = μ1 at *
  rw [w_l (by omega) (by omega)]
  refine (C_isIn (x := 0) (y := 2) (by omega) (by omega) (by omega) (by omega) (by omega) (by omega) (by omega)).conseq (KI.mono ?_)
  rintro r μ2 ⟨rfl, ⟨g1, g2, rfl⟩ | ⟨g1, rfl⟩⟩
  · refine ⟨fun z => absurd z w01, fun _ => ⟨fun z => absurd z (by decide), fun _ => ?_⟩⟩
    refine B_MO_text_30 m1.1.1.1.1.o ?_
    refine ⟨fun _ => ?_, fun z => absurd rfl z⟩
    rw [m1.2.1.2.1, w_inj (a := (k : Int)) (b := 4) (by omega) (by omega) (by omega) (by omega)]
    refine ⟨fun z => ?_, fun z => ?_⟩
    · refine ⟨_, rfl, o1, ?_⟩
      generalize plF tb tn 16 0 0 (fun _ _ => 0) = X
      match X with
      | .inl q => exact ⟨rfl, m1⟩
      | .inr u =>
        dsimp only
        rw [if_pos (by omega)]
        exact ⟨rfl, m1⟩
    · refine (C_faultM2 hf (by omega) m1).conseq (KI.mono ?_)
      rintro r μ3 ⟨o3, rfl, h3⟩
      have m3 := MIs m1 o3.1 o3.2.1 o3.2.2
      have oo := o1.trans (mfx_hi o3)
      obtain ⟨X, eX⟩ : ∃ X, plF tb tn 16 0 0 (fun _ _ => 0) = X := ⟨_, rfl⟩
      rw [eX] at h3
      rw [eX]
      match X, h3, eX with
      | .inl q, h3, eX =>
        have hqn := plF_q 16 0 0 _ q (Nat.zero_le _) eX
        have h4 : xI μ3 547 11 = w q := h3
        rw [h4]
        have hne : ¬ w (q : Int) = w (-1) := by rw [w_inj (by omega) (by omega) (by omega) (by omega)]; omega
        exact ⟨fun z => absurd z hne, fun _ => ⟨_, rfl, oo, rfl, m3⟩⟩
      | .inr u, h3, eX =>
        obtain ⟨h4, h5, h6⟩ := h3
        obtain ⟨u16, uv⟩ := plF_PV 16 0 0 _ u (by omega) (fun j hj => absurd hj (Nat.not_lt_zero _)) eX
        rw [h4]
        refine ⟨fun _ => ?_, fun z => absurd rfl z⟩
        rintro μ5 rfl
        refine ⟨fun z => absurd z (by decide), fun _ => ⟨fun _ => ?_, fun z => absurd rfl z⟩⟩
        have R5 : RM (sI μ3 547 6 (w 0)) := m3.1.1.1.1.fr (fr.sI (F := fun c j => c = 547 ∧ j = 6) (a := 547) (k := 6) _ _ ⟨rfl, rfl⟩) (fun k v e z => by
          have : k = 6 := z.2
          subst this
          cases e)
        have e7 : xI (sI μ3 547 6 (w 0)) 547 28 = w k := by rw [xI_sI, if_neg (by omega)]; exact m3.2.1.2.1
        refine text_137 (k := k) (ν := sI μ3 547 6 (w 0)) R5 (by omega) e7 (fun μ' o' v1 v2 v3 v4 v7 => ?_) 64 0 _ (by omega) (fr.rf _ _) (fun j hj => absurd hj (Nat.not_lt_zero _)) (fun j hj => rfl)
        have oa : fr (fun c j => c = 557 ∨ c = 558 ∨ (c = 547 ∧ (j = 6 ∨ j = 28))) μ3 μ' := (fr.sI (F := fun c j => c = 557 ∨ c = 558 ∨ (c = 547 ∧ (j = 6 ∨ j = 28))) (a := 547) (k := 6) _ _ (by omega)).trans (o'.wide (fun c j z => by omega))
        have m' := MI_tp (u := u) m3 (by omega) u16 uv oa (fun i hi q hq => by rw [v1 _ (by omega), xI_sI, if_neg (by omega), show 256 + (4 * i + q) = 256 + 4 * i + q by omega]; exact h6 i hi q hq) (fun j hj => by rw [v2 j hj, xI_sI, if_neg (by omega)]) (by rw [v3, xI_sI, if_neg (by omega)]; exact h5) (fun j hj => by rw [v4 j hj, xI_sI, if_neg (by omega)]) v7 (by rw [(o'.1 547 6 (by omega)).1, xI_sI, if_pos ⟨rfl, rfl⟩])
        refine ⟨_, rfl, oo.trans (oa.wide (fun c j z => by unfold ghi; omega)), ?_⟩
        dsimp only
        rw [if_neg (by omega)]
        exact ⟨rfl, m'⟩
  · omega
end TY
section TZ
variable {Γ : XG} {d c : Nat} {xs : Nat → Int32} {μ : XM}
theorem S_text (hf : FM Γ) (hd : 62 ≤ d) (hc : c ≤ 512) (hK : KS xs μ c) (x : Int32) : Call Γ m_FB_text d [.ref 32, .int x] μ (KI (fun r μ1 => (∀ j, xI μ1 31 j = xs j) ∧ Call Γ m_MO_text d [.ref 547, .int x] μ1 (KI (fun r' μ2 => r' = r ∧ KS xs μ2 (c + 1))))) := by
  obtain ⟨h, W, n, ru, ki, s, bx, m, T, mg, A, lt, lz, lc, sel, k, pz, pv, tn, tb, hab, cl, lo, cf, fd, ik, si, bi, mi, Ti, gi, hF, hM, hT, hx⟩ := hK
  obtain ⟨x, rfl, x1, x2⟩ := w_ex x
  obtain ⟨d, rfl⟩ : ∃ e, d = e + 1 := ⟨d - 1, by omega⟩
  have hR := hF.1.1.1
  have hl4 := hF.2.1.1
  have hk4 := hF.2.2.1.2.1
  have hbb : ∀ j, j < tn → 1 ≤ tb j ∧ tb j ≤ 255 := fun j hj => (hF.2.2.2.1.2.2.2.2 j hj).2
  have ghc : ∀ c j, ghi c j → 547 ≤ c := fun c j z => z
  refine Call.of ok_FB_text (Nat.le_of_ble_eq_true rfl) (B_FB_text_0 hR.ob ?_)
  rw [w_lt (b := 0) (by omega) (by omega) (by omega) (by omega), w_lt (a := 2) (by omega) (by omega) (by omega) (by omega)]
  have hneg : ¬ (0 ≤ x ∧ x ≤ 2) → KI (fun r μ1 => (∀ j, xI μ1 31 j = xs j) ∧ Call Γ m_MO_text (d + 1) [.ref 547, .int (w x)] μ1 (KI (fun r' μ2 => r' = r ∧ KS xs μ2 (c + 1)))) (some (.int (w (-1)))) μ := by
    intro hz
    refine ⟨_, rfl, hx, (C_textMn (by omega) hM x1 x2 hz).conseq (KI.mono ?_)⟩
    rintro r' μ2 ⟨rfl, o2, m2⟩
    exact ⟨rfl, KSw hF m2 (o2.cls ghc) (fr.lo o2 ghc) (by omega) hx⟩
  refine ⟨fun z => hneg (by omega), fun z => ⟨fun z2 => hneg (by omega), fun z2 => ?_⟩⟩
  rcases (show x = 0 ∨ x = 1 ∨ x = 2 by omega) with rfl | rfl | rfl
  · refine (C_reads0 (by omega) hF).conseq (KI.mono ?_)
    rintro r μ1 ⟨o1, hF1, h1⟩
    have hM1 := MIx hM (o1.mdl (fun c z => z))
    have hx1 : ∀ j, xI μ1 31 j = xs j := fun j => by rw [o1.1 31 (by omega)]; exact hx j
    have hk := hse_ok (tb := tb) (n := tn) hbb
    have m1 := fun (μ1 : XM) (hM1 : MI μ1 W n ru ki s bx m T mg A lt lz lc sel k pz pv tn tb hab cl lo cf fd ik si bi mi Ti gi) => C_textM0 (d := d + 1) hf (by omega) hM1 hbb
    revert h1 hk m1
    generalize hse tb tn = X
    intro h1 hk m1
    match X, h1, hk, m1 with
    | .inl q, h2, hk, m1 =>
      obtain ⟨rfl, h3⟩ := h2
      refine ⟨fun _ => ⟨_, rfl, hx1, (m1 μ1 hM1).conseq (KI.mono ?_)⟩, fun z => absurd rfl z⟩
      rintro r' μ2 ⟨o2, rfl, m2⟩
      exact ⟨rfl, KSw hF1 m2 (o2.cls ghc) (fr.lo o2 ghc) (by omega) hx1⟩
    | .inr X, h2, hk, m1 =>
      obtain ⟨rfl, g, g2, g1, g3, hX⟩ := h2
      refine ⟨fun z => absurd z w01, fun _ => ⟨fun z => absurd z (by decide), fun _ => ⟨fun z => absurd z (by decide), fun _ => ?_⟩⟩⟩
      refine (C_tellHouse (by omega) hF1 g1 g2 g3 hX hk.1 hk.2).conseq (KI.mono ?_)
      rintro r μ2 ⟨o2, l2, rfl, hF2⟩
      have hx2 : ∀ j, xI μ2 31 j = xs j := fun j => by rw [l2]; exact hx1 j
      refine ⟨_, rfl, hx2, (m1 μ2 (MIx hM1 o2)).conseq (KI.mono ?_)⟩
      rintro r' μ3 ⟨o3, rfl, m3⟩
      exact ⟨rfl, KSw hF2 m3 (o3.cls ghc) (fr.lo o3 ghc) (by omega) hx2⟩
  · refine (C_reads1 (by omega) hF).conseq (KI.mono ?_)
    rintro r μ1 ⟨o1, hF1, h1⟩
    have hM1 := MIx hM (o1.mdl (fun c z => z))
    have hx1 : ∀ j, xI μ1 31 j = xs j := fun j => by rw [o1.1 31 (by omega)]; exact hx j
    have m1 := fun (μ1 : XM) (hM1 : MI μ1 W n ru ki s bx m T mg A lt lz lc sel k pz pv tn tb hab cl lo cf fd ik si bi mi Ti gi) => C_textM1 (d := d + 1) hf (by omega) hM1
    revert h1 m1
    generalize law tb tn = X
    intro h1 m1
    match X, h1, m1 with
    | .inl q, h2, m1 =>
      obtain ⟨rfl, h3⟩ := h2
      refine ⟨fun _ => ⟨_, rfl, hx1, (m1 μ1 hM1).conseq (KI.mono ?_)⟩, fun z => absurd rfl z⟩
      rintro r' μ2 ⟨o2, rfl, m2⟩
      exact ⟨rfl, KSw hF1 m2 (o2.cls ghc) (fr.lo o2 ghc) (by omega) hx1⟩
    | .inr u, h2, m1 =>
      obtain ⟨rfl, hL⟩ := h2
      refine ⟨fun z => absurd z w01, fun _ => ⟨fun _ => ?_, fun z => absurd rfl z⟩⟩
      refine (C_tellLaw (by omega) hF1.1.1.1 hl4 hF1.2.1.2.1).conseq (KI.mono ?_)
      rintro r μ2 (⟨l4, rfl, rfl⟩ | ⟨l4, rfl, rfl⟩)
      · have hF2 := FI_tl hF1 l4 hL
        have o2 : fof (fun c => c = 32 ∨ c = 33) μ1 (sI (sI μ1 33 1 (w 0)) 32 4 (w ((lt + 1 : Nat) : Int))) := (fof.sI (P := fun c => c = 32 ∨ c = 33) _ _ _ (Or.inr rfl)).trans (fof.sI (P := fun c => c = 32 ∨ c = 33) _ _ _ (Or.inl rfl))
        have hx2 : ∀ j, xI (sI (sI μ1 33 1 (w 0)) 32 4 (w ((lt + 1 : Nat) : Int))) 31 j = xs j := fun j => by rw [o2.1 31 (by omega)]; exact hx1 j
        refine ⟨_, rfl, hx2, (m1 _ (MIx hM1 (o2.mdl (fun c z => by omega)))).conseq (KI.mono ?_)⟩
        rintro r' μ3 ⟨o3, h3⟩
        dsimp only at h3
        rw [if_neg (by omega)] at h3
        obtain ⟨rfl, m3⟩ := h3
        exact ⟨rfl, KSw hF2 m3 (o3.cls ghc) (fr.lo o3 ghc) (by omega) hx2⟩
      · refine ⟨_, rfl, hx1, (m1 _ hM1).conseq (KI.mono ?_)⟩
        rintro r' μ3 ⟨o3, h3⟩
        dsimp only at h3
        rw [if_pos l4] at h3
        obtain ⟨rfl, m3⟩ := h3
        exact ⟨rfl, KSw hF1 m3 (o3.cls ghc) (fr.lo o3 ghc) (by omega) hx1⟩
  · refine (C_reads2 (by omega) hF).conseq (KI.mono ?_)
    rintro r μ1 ⟨o1, hF1, h1⟩
    have hM1 := MIx hM (o1.mdl (fun c z => z))
    have hx1 : ∀ j, xI μ1 31 j = xs j := fun j => by rw [o1.1 31 (by omega)]; exact hx j
    have m1 := fun (μ1 : XM) (hM1 : MI μ1 W n ru ki s bx m T mg A lt lz lc sel k pz pv tn tb hab cl lo cf fd ik si bi mi Ti gi) => C_textM2 (d := d + 1) hf (by omega) hM1
    obtain ⟨X, eX⟩ : ∃ X, plF tb tn 16 0 0 (fun _ _ => 0) = X := ⟨_, rfl⟩
    rw [eX] at h1
    rw [eX] at m1
    match X, h1, m1, eX with
    | .inl q, h2, m1, eX =>
      obtain ⟨rfl, h3⟩ := h2
      refine ⟨fun _ => ⟨_, rfl, hx1, (m1 μ1 hM1).conseq (KI.mono ?_)⟩, fun z => absurd rfl z⟩
      rintro r' μ2 ⟨o2, rfl, m2⟩
      exact ⟨rfl, KSw hF1 m2 (o2.cls ghc) (fr.lo o2 ghc) (by omega) hx1⟩
    | .inr u, h2, m1, eX =>
      obtain ⟨rfl, hL⟩ := h2
      obtain ⟨u16, uv⟩ := plF_PV 16 0 0 _ u (by omega) (fun j hj => absurd hj (Nat.not_lt_zero _)) eX
      refine ⟨fun z => absurd z w01, fun _ => ⟨fun z => absurd z (by decide), fun _ => ⟨fun _ => ?_, fun z => absurd rfl z⟩⟩⟩
      refine (C_tellPlan (by omega) hF1.1.1.1 hk4 hF1.2.2.1.1).conseq (KI.mono ?_)
      rintro r μ2 (⟨l4, rfl, rfl⟩ | ⟨l4, rfl, rfl⟩)
      · have hF2 := FI_tp hF1 l4 hL u16 uv
        have o2 : fof (fun c => c = 32 ∨ c = 33) μ1 (sI (sI μ1 33 1 (w 0)) 32 7 (w ((k + 1 : Nat) : Int))) := (fof.sI (P := fun c => c = 32 ∨ c = 33) _ _ _ (Or.inr rfl)).trans (fof.sI (P := fun c => c = 32 ∨ c = 33) _ _ _ (Or.inl rfl))
        have hx2 : ∀ j, xI (sI (sI μ1 33 1 (w 0)) 32 7 (w ((k + 1 : Nat) : Int))) 31 j = xs j := fun j => by rw [o2.1 31 (by omega)]; exact hx1 j
        refine ⟨_, rfl, hx2, (m1 _ (MIx hM1 (o2.mdl (fun c z => by omega)))).conseq (KI.mono ?_)⟩
        rintro r' μ3 ⟨o3, h3⟩
        dsimp only at h3
        rw [if_neg (by omega)] at h3
        obtain ⟨rfl, m3⟩ := h3
        exact ⟨rfl, KSw hF2 m3 (o3.cls ghc) (fr.lo o3 ghc) (by omega) hx2⟩
      · refine ⟨_, rfl, hx1, (m1 _ hM1).conseq (KI.mono ?_)⟩
        rintro r' μ3 ⟨o3, h3⟩
        dsimp only at h3
        rw [if_pos l4] at h3
        obtain ⟨rfl, m3⟩ := h3
        exact ⟨rfl, KSw hF1 m3 (o3.cls ghc) (fr.lo o3 ghc) (by omega) hx1⟩
end TZ
