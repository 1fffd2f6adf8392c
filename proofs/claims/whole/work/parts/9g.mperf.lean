/-! PERFORMANCES, in the reference -/
def PMA (μ : XM) (n : Nat) (ru : Nat → Int) (ki : Nat → Nat → Int) (W : WL) (ls : Int → Int → Int → Int → Int → Int → Int) (X : PT) : Prop := MA μ n ru ki X.2.1 X.2.2.1 X.2.2.2.1 X.2.2.2.2.1 X.2.2.2.2.2.1 W ls X.2.2.2.2.2.2
section OI
variable {Γ : XG} {d n s m T a k row i p : Nat} {ru : Nat → Int} {ki bx mg pv : Nat → Nat → Int} {ls : Int → Int → Int → Int → Int → Int → Int} {μ : XM} {Q : Option Value → XM → Prop} {W : WL} {A : AA} {pz : Nat → Nat} {pw : Nat → Nat → Nat → Int}
theorem MA.ts (h : MA μ n ru ki s bx m T mg W ls A) : TS μ n ru ki W 559 s bx m T mg := ⟨h.1.hm, h.1.mw, h.1.nr, h.1.kn⟩
theorem TS.q (h : TS μ n ru ki W 559 s bx m T mg) (hn : 0 < n) (hL : LSok ls W) : MQs μ n ru ki s bx m T mg W ls := ⟨h.1, h.2.2.1, h.2.2.2, fun q => by omega, h.2.1, hL⟩
theorem mof556 (j : Nat) : ¬ mof 557 j := by unfold mof vfr gfr; omega
theorem mof557 (j : Nat) : ¬ mof 558 j := by unfold mof vfr gfr; omega
theorem mof28 : ¬ mof 547 28 := by unfold mof vfr gfr; omega
/-- one act of a plan, kept -/
theorem perf_1 (hf : FM Γ) (hd : 39 ≤ d) (hn : 0 < n) (h : MA μ n ru ki s bx m T mg W ls A) (hP : PRW μ row pv i) (h3 : pv i 0 = 3 → m < 999) (hb : ¬ pv i 0 = 3 → stb n ru bx s m pv i) {P : XM → Prop} (h1 : ∀ μ', fr mof μ μ' → pv i 0 = 3 → MA μ' n ru ki s (bmon bx s m (ru 2)) (m + 1) T mg W ls (asav A s bx m T) → P μ') (h2 : ∀ μ', fr mof μ μ' → ¬ pv i 0 = 3 → MA μ' n ru ki (ga0 s pv i) (ga1 ru bx s m pv i) m (gaT T pv i) (gag ls ki bx m s T mg pv i) W ls (asav A s bx m T) → P μ') : Call Γ m_MO_remember d [.ref 547] μ (KV (fun μ2 => ∃ a3, xR μ2 547 30 = some a3 ∧ Call Γ m_MO_steps d [.ref 547, .ref a3, .int (w row)] μ2 (KI (fun v4 μ4 => P μ4)))) := by
  refine (C_rememberM (by omega) h.1 h.2).conseq (KV.mono ?_)
  rintro μ3 ⟨o3, q3, a3⟩
  refine ⟨559, q3.hm.1.r 30 559 rfl, ?_⟩
  refine (C_stepsM (ls := ls) hf hd hn q3.lo r558 ⟨q3.hm, q3.mw, q3.nr, q3.kn⟩ (hP.frm o3 (fun j => by unfold rmf; omega)) h3 hb).conseq (KI.mono ?_)
  rintro r μ4 ⟨o4, rfl, k1, k2⟩
  have oo : fr mof μ μ4 := (o3.wide (fun _ _ => mof_r)).trans (o4.wide (fun _ _ => mof_e))
  by_cases e : pv i 0 = 3
  · exact h1 μ4 oo e ⟨(k1 e).q hn q3.lo, a3.e r558 o4⟩
  · refine h2 μ4 oo e ⟨(k2 e).q hn q3.lo, ?_⟩
    by_cases e1 : pv i 0 = 1
    · rw [show gaT T pv i = T + 1 by unfold gaT; rw [if_pos e1], show gag ls ki bx m s T mg pv i = mput mg T (bx (s - 1 - (pv i 1).toNat) 0) (bx (s - 1 - (pv i 1).toNat) 1) (bx (s - 1 - (pv i 1).toNat) 2) (vpl ls ki bx m s (pv i 1).toNat) by unfold gag; rw [if_pos e1]]
      exact (a3.e r558 o4).mp _ _ _ _
    · rw [show gaT T pv i = T by unfold gaT; rw [if_neg e1], show gag ls ki bx m s T mg pv i = mg by unfold gag; rw [if_neg e1]]
      exact a3.e r558 o4
theorem perf_65M (hf : FM Γ) (hd : 39 ≤ d) (hn : 0 < n) (hP : PRW μ row pv i) {x ix : Int} {v : Nat} (e3 : pv i 0 = 3) (ev : pv i 1 = v) (hv : m + v ≤ 999) (hQ : ∀ μ', fr mof μ μ' → MA μ' n ru ki s (mbx bx s m (ru 2) v) (m + v) T mg W ls (mac A bx s m T (ru 2) v) → G Γ m_MO_perform (d + 1) (0, 0) Q 24 [.ref 547, .int (w x), .int (w (ix + 1))] [] μ') : ∀ (f j : Nat) (μ1 : XM), j + f = v → fr mof μ μ1 → MA μ1 n ru ki s (mbx bx s m (ru 2) j) (m + j) T mg W ls (mac A bx s m T (ru 2) j) → G Γ m_MO_perform (d + 1) (0, 0) Q 65 [.ref 547, .int (w x), .int (w ix), .int (w row), .int (w j)] [] μ1 := by
  have hv9 := hP.2.2.2.2 e3
  intro f
  induction f with
  | zero =>
    intro j μ1 hj ho h
    refine B_MO_perform_65 h.1.hm.1.o ?_
    refine (C_timesOf (by omega) h.1.hm (hP.frm ho mof556)).conseq (KI.mono ?_)
    rintro r μ2 ⟨rfl, rfl⟩
    rw [if_pos e3, ev, w_lt (by omega) (by omega) (by omega) (by omega)]
    simp only [w_add]
    refine ⟨fun q => absurd q (by omega), fun _ => hQ _ ho ?_⟩
    rw [show v = j by omega]
    exact h
  | succ f ih =>
    intro j μ1 hj ho h
    refine B_MO_perform_65 h.1.hm.1.o ?_
    have hP1 := hP.frm ho mof556
    refine (C_timesOf (by omega) h.1.hm hP1).conseq (KI.mono ?_)
    rintro r μ2 ⟨rfl, rfl⟩
    rw [if_pos e3, ev, w_lt (by omega) (by omega) (by omega) (by omega), show w (j : Int) + w 1 = w ((j + 1 : Nat) : Int) by rw [w_add]; rfl]
    refine ⟨fun _ => ?_, fun q => absurd (by omega) q⟩
    exact perf_1 hf hd hn h hP1 (fun _ => by omega) (fun q => absurd e3 q) (fun μ' g1 g2 g3 => ih (j + 1) μ' (by omega) (ho.trans g1) g3) (fun μ' g1 g2 => absurd e3 g2)
theorem perf_65 (hf : FM Γ) (hd : 39 ≤ d) (hn : 0 < n) (hP : PRW μ row pv i) (h : MA μ n ru ki s bx m T mg W ls A) (hb : stb n ru bx s m pv i) {x ix : Int} (hQ : ∀ μ', fr mof μ μ' → MA μ' n ru ki (ga0 s pv i) (ga1 ru bx s m pv i) (ga2 m pv i) (gaT T pv i) (gag ls ki bx m s T mg pv i) W ls (gaA ru bx s m T A pv i) → G Γ m_MO_perform (d + 1) (0, 0) Q 24 [.ref 547, .int (w x), .int (w (ix + 1))] [] μ') : G Γ m_MO_perform (d + 1) (0, 0) Q 65 [.ref 547, .int (w x), .int (w ix), .int (w row), .int (w 0)] [] μ := by
  by_cases e3 : pv i 0 = 3
  · have hv := hP.2.2.1
    unfold PV at hv
    obtain ⟨v, hv'⟩ : ∃ v : Nat, pv i 1 = v := ⟨(pv i 1).toNat, by omega⟩
    have e0 : ga0 s pv i = s := by unfold ga0; rw [if_neg (by omega), if_neg (by omega)]
    have e1 : ga1 ru bx s m pv i = mbx bx s m (ru 2) v := by unfold ga1; rw [if_neg (by omega), if_neg (by omega), if_neg (by omega), if_pos e3, hv']; rfl
    have e2 : ga2 m pv i = m + v := by unfold ga2; rw [if_pos e3, hv']; rfl
    have e4 : gaT T pv i = T := by unfold gaT; rw [if_neg (by omega)]
    have e5 : gag ls ki bx m s T mg pv i = mg := by unfold gag; rw [if_neg (by omega)]
    have e6 : gaA ru bx s m T A pv i = mac A bx s m T (ru 2) v := by unfold gaA; rw [if_pos e3, hv']; rfl
    rw [e0, e1, e2, e4, e5, e6] at hQ
    unfold stb at hb
    exact perf_65M (v := v) hf hd hn hP e3 hv' (by omega) hQ v 0 μ (by omega) (fr.rf _ _) h
  · refine B_MO_perform_65 h.1.hm.1.o ?_
    refine (C_timesOf (by omega) h.1.hm hP).conseq (KI.mono ?_)
    rintro r μ2 ⟨rfl, rfl⟩
    rw [if_neg e3, w_lt (by omega) (by omega) (by omega) (by omega)]
    refine ⟨fun _ => ?_, fun q => absurd (by omega) q⟩
    refine perf_1 hf hd hn h hP (fun q => absurd q e3) (fun _ => hb) (fun μ' g1 g2 => absurd g2 e3) (fun μ' g1 g2 g3 => ?_)
    refine B_MO_perform_65 g3.1.hm.1.o ?_
    refine (C_timesOf (by omega) g3.1.hm (hP.frm g1 mof556)).conseq (KI.mono ?_)
    rintro r μ4 ⟨rfl, rfl⟩
    simp only [w_add]
    rw [if_neg e3, w_lt (by omega) (by omega) (by omega) (by omega)]
    refine ⟨fun q => absurd q (by omega), fun _ => hQ _ g1 ?_⟩
    rw [show ga2 m pv i = m by unfold ga2; rw [if_neg e3], show gaA ru bx s m T A pv i = asav A s bx m T by unfold gaA; rw [if_neg e3]]
    exact g3
theorem perf_24 (hf : FM Γ) (hd : 39 ≤ d) (hn : 0 < n) (hp : p < k) : ∀ (f i s : Nat) (bx : Nat → Nat → Int) (m T : Nat) (mg : Nat → Nat → Int) (A : AA) (μ : XM), i + f = pz p → PLM μ k pz pw → MA μ n ru ki s bx m T mg W ls A → (∀ μ', fr mof μ μ' → PMA μ' n ru ki W ls (pfm n ru ki ls (pw p) f i s bx m T mg A) → Q (some (.int (w (pfm n ru ki ls (pw p) f i s bx m T mg A).1))) μ') → G Γ m_MO_perform (d + 1) (0, 0) Q 24 [.ref 547, .int (w p), .int (w i)] [] μ := by
  intro f
  induction f with
  | zero =>
    intro i s bx m T mg A μ hi hP h hQ
    obtain ⟨z16, ez, hr⟩ := hP.2.2 p hp
    have k4 := hP.1
    have hR := h.1.hm.1
    refine B_MO_perform_24 hR.o (hR.r 24 558 rfl) (hR.r 30 559 rfl) ?_
    rw [w_cln (by omega), ez, w_lt (by omega) (by omega) (by omega) (by omega)]
    have e0 : pfm n ru ki ls (pw p) 0 i s bx m T mg A = (i, s, bx, m, T, mg, A) := by rw [pfm]
    rw [e0] at hQ
    exact ⟨in557 hR.1 (by omega) (by omega), fun q => absurd q (by omega), fun _ => hQ μ (fr.rf _ _) h⟩
  | succ f ih =>
    intro i s bx m T mg A μ hi hP h hQ
    obtain ⟨z16, ez, hr⟩ := hP.2.2 p hp
    have k4 := hP.1
    have hR := h.1.hm.1
    have hri := hr i (by omega)
    refine B_MO_perform_24 hR.o (hR.r 24 558 rfl) (hR.r 30 559 rfl) ?_
    rw [w_cln (by omega), ez, w_lt (by omega) (by omega) (by omega) (by omega), w_mul, w_add, w_mul, show (4 : Int) * (16 * (p : Int) + i) = ((4 * (16 * p + i) : Nat) : Int) by omega]
    refine ⟨in557 hR.1 (by omega) (by omega), fun _ => ?_, fun q => absurd (by omega) q⟩
    have ey : stb n ru bx s m (pw p) i → pfm n ru ki ls (pw p) (f + 1) i s bx m T mg A = pfm n ru ki ls (pw p) f (i + 1) (ga0 s (pw p) i) (ga1 ru bx s m (pw p) i) (ga2 m (pw p) i) (gaT T (pw p) i) (gag ls ki bx m s T mg (pw p) i) (gaA ru bx s m T A (pw p) i) := fun hb => by rw [pfm]; exact if_pos hb
    have en : ¬ stb n ru bx s m (pw p) i → pfm n ru ki ls (pw p) (f + 1) i s bx m T mg A = (i, s, bx, m, T, mg, A) := fun hb => by rw [pfm]; exact if_neg hb
    refine (C_canStepM (by omega) h.1.hm hn r558 h.1.nr hri).conseq (KI.mono ?_)
    rintro r μ3 ⟨rfl, ⟨hb, rfl⟩ | ⟨hb, rfl⟩⟩
    · rw [ey hb] at hQ
      refine ⟨fun q => absurd q (by decide), fun _ => ?_⟩
      exact perf_65 hf hd hn hri h hb (fun μ' g1 g2 => ih (i + 1) _ _ _ _ _ _ μ' (by omega) (hP.frm g1 mof556 mof557 mof28) g2 (fun μ'' q1 q2 => hQ μ'' (g1.trans q1) q2))
    · rw [en hb] at hQ
      exact ⟨fun _ => hQ μ3 (fr.rf _ _) h, fun q => absurd rfl q⟩
theorem C_performM (hf : FM Γ) (hd : 40 ≤ d) (h : MA μ n ru ki s bx m T mg W ls A) (hP : PLM μ k pz pw) {x : Int} (x1 : -2147483648 ≤ x) (x2 : x < 2147483648) : Call Γ m_MO_perform d [.ref 547, .int (w x)] μ (KI (fun r μ' => fr mof μ μ' ∧ (((0 ≤ x ∧ x < k ∧ 0 < n) ∧ r = w (pfm n ru ki ls (pw x.toNat) (pz x.toNat) 0 s bx m T mg A).1 ∧ PMA μ' n ru ki W ls (pfm n ru ki ls (pw x.toNat) (pz x.toNat) 0 s bx m T mg A)) ∨ (¬ (0 ≤ x ∧ x < k ∧ 0 < n) ∧ r = w (-1) ∧ MA μ' n ru ki s bx m T mg W ls A)))) := by
  obtain ⟨d, rfl⟩ : ∃ e, d = e + 1 := ⟨d - 1, by omega⟩
  have hn6 := h.1.hm.2.1
  have k4 := hP.1
  refine Call.of ok_MO_perform (Nat.le_of_ble_eq_true rfl) (B_MO_perform_0 h.1.hm.1.o ?_)
  rintro μ1 rfl
  have o1 := th0 μ
  have h1 := h.th
  have hP1 : PLM (sI μ 547 0 (w 0)) k pz pw := hP.frm o1 (fun j => by unfold thr; omega) (fun j => by unfold thr; omega) (by unfold thr; omega)
  have h0 := o1.wide (fun _ _ => mof_0)
  generalize sI μ 547 0 (w 0) = μ1 at *
  refine (C_isPlanM (by omega) h1.1.hm hP1 x1 x2).conseq (KI.mono ?_)
  rintro r μ2 ⟨rfl, ⟨g1, g2, rfl⟩ | ⟨g1, rfl⟩⟩
  · refine ⟨fun q => absurd q (by decide), fun _ => ?_⟩
    rw [h1.1.hm.2.2.1, w_inj (by omega) (by omega) (by omega) (by omega)]
    refine ⟨fun q => ⟨_, rfl, h0, Or.inr ⟨by omega, rfl, h1⟩⟩, fun q => ?_⟩
    obtain ⟨x, rfl⟩ : ∃ j : Nat, x = j := ⟨x.toNat, by omega⟩
    rw [show ((x : Nat) : Int).toNat = x by omega]
    exact perf_24 (p := x) hf (by omega) (by omega) (by omega) (pz x) 0 s bx m T mg A _ (by omega) hP1 h1 (fun μ' q1 q2 => ⟨_, rfl, h0.trans q1, Or.inl ⟨⟨g1, g2, by omega⟩, rfl, q2⟩⟩)
  · exact ⟨fun _ => ⟨_, rfl, h0, Or.inr ⟨fun z => g1 ⟨z.1, z.2.1⟩, rfl, h1⟩⟩, fun q => absurd rfl q⟩
end OI
