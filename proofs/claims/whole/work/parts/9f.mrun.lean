/-! RUNS AND PERFORMANCES, in the reference -/
/-- a row in cell a, with the house and the laws -/
def TS (μ : XM) (n : Nat) (ru : Nat → Int) (ki : Nat → Nat → Int) (W : WL) (a s : Nat) (bx : Nat → Nat → Int) (m T : Nat) (mg : Nat → Nat → Int) : Prop := HM μ n ru ki ∧ MW μ W ∧ NR μ a 0 s bx m T mg ∧ KN bx s n
section OH
variable {Γ : XG} {d n s m T a k row i p : Nat} {ru : Nat → Int} {ki bx mg pv : Nat → Nat → Int} {ls : Int → Int → Int → Int → Int → Int → Int} {μ : XM} {Q : Option Value → XM → Prop} {W : WL} {A : AA} {pz : Nat → Nat} {pw : Nat → Nat → Nat → Int}
theorem tmhN_bd (hM : HM μ n ru ki) (hN : NR μ a 0 s bx m T mg) {z : Int} (z2 : z ≤ 99) : 0 ≤ tmh ru bx s z ∧ tmh ru bx s z ≤ 99 ∧ 0 ≤ bsum bx 1 s ∧ bsum bx 1 s ≤ 72 := by
  have h8 := hN.1
  have hb := bsum_le hN.bb s (by omega)
  have := brn_bd hM.2.2.2.1 (p := bsum bx 1 s) (by omega) (by omega)
  unfold tmh
  omega
theorem C_stepsM (hf : FM Γ) (hd : 39 ≤ d) (hn : 0 < n) (hL : LSok ls W) (ha : RC a) (h : TS μ n ru ki W a s bx m T mg) (hP : PRW μ row pv i) (h3 : pv i 0 = 3 → m < 999) (hb : ¬ pv i 0 = 3 → stb n ru bx s m pv i) : Call Γ m_MO_steps d [.ref 547, .ref a, .int (w row)] μ (KI (fun r μ' => fr (efr a) μ μ' ∧ r = w (gav ls ki bx m s pv i) ∧ (pv i 0 = 3 → TS μ' n ru ki W a s (bmon bx s m (ru 2)) (m + 1) T mg) ∧ (¬ pv i 0 = 3 → TS μ' n ru ki W a (ga0 s pv i) (ga1 ru bx s m pv i) m (gaT T pv i) (gag ls ki bx m s T mg pv i)))) := by
  obtain ⟨d, rfl⟩ : ∃ e, d = e + 1 := ⟨d - 1, by omega⟩
  obtain ⟨hM, hW, hN, hK⟩ := h
  have h8 := hN.1
  have hm9 := hN.2.1
  obtain ⟨hr, he, hv, hv0, hv3⟩ := hP
  unfold PV at hv
  have e0 := he 0 (by omega)
  have e1 := he 1 (by omega)
  have e2 := he 2 (by omega)
  have e3 := he 3 (by omega)
  rw [Nat.add_zero] at e0
  refine Call.of ok_MO_steps (Nat.le_of_ble_eq_true rfl) (B_MO_steps_0 hM.1.o (hM.1.r 23 557 rfl) ?_)
  have c1 : (w ((row : Int) + 1)).toNatClampNeg = row + 1 := by rw [w_cl (by omega) (by omega)]; omega
  have c2 : (w ((row : Int) + 2)).toNatClampNeg = row + 2 := by rw [w_cl (by omega) (by omega)]; omega
  have c3 : (w ((row : Int) + 3)).toNatClampNeg = row + 3 := by rw [w_cl (by omega) (by omega)]; omega
  have c0 : (w (row : Int)).toNatClampNeg = row := w_cln (by omega)
  simp only [w_add, c0, c1, c2, c3, e0, e1, e2, e3]
  have hx := hM.1.1
  have ea : ∀ {μ' : XM}, fr (fun c _ => c = a) μ μ' → fr (efr a) μ μ' := fun ho => ho.wide (fun _ _ q => Or.inr q)
  have ts : ∀ {μ' : XM} {s' : Nat} {bx' : Nat → Nat → Int} {m' : Nat}, fr (fun c _ => c = a) μ μ' → NR μ' a 0 s' bx' m' T mg → KN bx' s' n → TS μ' n ru ki W a s' bx' m' T mg := fun ho h1 h2 => ⟨HM_a hM ha ho, MW_a hW ha ho, h1, h2⟩
  unfold stb at hb
  refine ⟨in556 hx (by omega) (by omega), in556 hx (by omega) (by omega), fun e => ?_, fun e => ⟨in556 hx (by omega) (by omega), in556 hx (by omega) (by omega), ?_⟩, fun e => ?_, fun e => ?_, fun e => ?_⟩
  · rw [w_lt (by omega) (by omega) (by omega) (by omega), w_lt (by omega) (by omega) (by omega) (by omega)] at e
    have g0 : ga0 s pv i = s := by unfold ga0; rw [if_neg (by omega), if_neg (by omega)]
    have g1 : ga1 ru bx s m pv i = bold bx (tmh ru bx s (pv i 1)) s := by unfold ga1; rw [if_neg (by omega), if_neg (by omega), if_neg (by omega), if_neg (by omega)]
    have g3 : gaT T pv i = T := by unfold gaT; rw [if_neg (by omega)]
    have g4 : gag ls ki bx m s T mg pv i = mg := by unfold gag; rw [if_neg (by omega)]
    have g5 : gav ls ki bx m s pv i = 0 := by unfold gav; rw [if_neg (by omega)]
    rw [g0, g1, g3, g4, g5]
    have tb := tmhN_bd hM hN (z := pv i 1) (by omega)
    refine (C_sumIn (by omega) hx ha.sh.1 ha.sh.2.1 hN).conseq (KI.mono ?_)
    rintro r μ3 ⟨rfl, rfl⟩
    refine (C_moreThanBorne (by omega) hM hn tb.2.2.1 (by omega) (by omega) (by omega)).conseq (KI.mono ?_)
    rintro r μ4 ⟨rfl, rfl⟩
    refine (C_ages (v := tmh ru bx s (pv i 1)) (by omega) ha hx hN tb.1 (by omega)).conseq (KV.mono ?_)
    rintro μ5 ⟨o5, h5⟩
    exact ⟨_, rfl, ea o5, rfl, fun q => absurd q (by omega), fun _ => ts o5 h5 (hK.oldt _)⟩
  · rw [w_inj (by omega) (by omega) (by omega) (by omega)] at e
    have hc : CP n ru bx s (pv i 1) (pv i 2) := by
      rcases hb (by omega) with q | q | q | q | q <;> first | exact q.2 | omega
    have g0 : ga0 s pv i = s + 1 := by unfold ga0; rw [if_pos e]
    have g1 : ga1 ru bx s m pv i = bput bx s (pv i 1) (pv i 2) 0 (if pv i 3 = 1 then m else -1) := by unfold ga1; rw [if_pos e]
    have g3 : gaT T pv i = T := by unfold gaT; rw [if_neg (by omega)]
    have g4 : gag ls ki bx m s T mg pv i = mg := by unfold gag; rw [if_neg (by omega)]
    have g5 : gav ls ki bx m s pv i = 0 := by unfold gav; rw [if_neg (by omega)]
    rw [g0, g1, g3, g4, g5]
    have hc' := hc
    unfold CP at hc'
    have hn6 := hM.2.1
    have := hv0 e
    have el : (if pv i 3 = 1 then (m : Int) else -1) = if pv i 3 = 0 then -1 else (m : Int) := by
      by_cases z : pv i 3 = 0
      · rw [if_neg (by omega), if_pos z]
      · rw [if_pos (by omega), if_neg z]
    rw [el]
    refine (C_puts (by omega) ha hx hN hc'.2.2.2.2.1 hc'.1 (by omega) hc'.2.2.1 hc'.2.2.2.1 (by omega) (by omega)).conseq (KV.mono ?_)
    rintro μ5 ⟨o5, h5⟩
    exact ⟨_, rfl, ea o5, rfl, fun q => absurd q (by omega), fun _ => ts o5 h5 (hK.put hc'.2.1)⟩
  · rw [w_inj (by omega) (by omega) (by omega) (by omega)] at e
    have g0 : ga0 s pv i = s - 1 := by unfold ga0; rw [if_neg (by omega), if_pos e]
    have g1 : ga1 ru bx s m pv i = bcut bx (s - 1 - (pv i 1).toNat) := by unfold ga1; rw [if_neg (by omega), if_pos e]
    have g3 : gaT T pv i = T + 1 := by unfold gaT; rw [if_pos e]
    have g4 : gag ls ki bx m s T mg pv i = mput mg T (bx (s - 1 - (pv i 1).toNat) 0) (bx (s - 1 - (pv i 1).toNat) 1) (bx (s - 1 - (pv i 1).toNat) 2) (vpl ls ki bx m s (pv i 1).toNat) := by unfold gag; rw [if_pos e]
    have g5 : gav ls ki bx m s pv i = vpl ls ki bx m s (pv i 1).toNat := by unfold gav; rw [if_pos e]
    rw [g0, g1, g3, g4, g5]
    obtain ⟨b, hb'⟩ : ∃ v : Nat, pv i 1 = v := ⟨(pv i 1).toNat, by omega⟩
    rw [hb', show ((b : Nat) : Int).toNat = b by omega]
    refine (C_eatsM hf (by omega) hM hW hL ha hN hK (b := b) (by omega)).conseq (KI.mono ?_)
    rintro r μ4 ⟨o4, hW4, hN4, rfl⟩
    exact ⟨_, rfl, o4, rfl, fun q => absurd q (by omega), fun _ => ⟨HM_e hM ha o4, hW4, hN4, hK.cut _⟩⟩
  · rw [w_inj (by omega) (by omega) (by omega) (by omega)] at e
    have g0 : ga0 s pv i = s := by unfold ga0; rw [if_neg (by omega), if_neg (by omega)]
    have g1 : ga1 ru bx s m pv i = bset bx (s - 1 - (pv i 1).toNat) 3 m := by unfold ga1; rw [if_neg (by omega), if_neg (by omega), if_pos e]
    have g3 : gaT T pv i = T := by unfold gaT; rw [if_neg (by omega)]
    have g4 : gag ls ki bx m s T mg pv i = mg := by unfold gag; rw [if_neg (by omega)]
    have g5 : gav ls ki bx m s pv i = 0 := by unfold gav; rw [if_neg (by omega)]
    rw [g0, g1, g3, g4, g5]
    obtain ⟨b, hb'⟩ : ∃ v : Nat, pv i 1 = v := ⟨(pv i 1).toNat, by omega⟩
    rw [hb', show ((b : Nat) : Int).toNat = b by omega]
    refine (C_names (by omega) ha hx hN (b := b) (by omega)).conseq (KV.mono ?_)
    rintro μ5 ⟨o5, h5⟩
    exact ⟨_, rfl, ea o5, rfl, fun q => absurd q (by omega), fun _ => ts o5 h5 (hK.set _ _)⟩
  · rw [w_inj (by omega) (by omega) (by omega) (by omega)] at e
    have g5 : gav ls ki bx m s pv i = 0 := by unfold gav; rw [if_neg (by omega)]
    rw [g5]
    refine (C_goMonth (by omega) ha hn hM hN (h3 e)).conseq (KV.mono ?_)
    rintro μ5 ⟨o5, h5⟩
    exact ⟨_, rfl, ea o5, rfl, fun _ => ts o5 h5 (hK.mon _ _), fun q => absurd e q⟩
theorem TS.f (hM : HM μ n ru ki) (ha : RC a) {μ' : XM} (ho : fr (efr a) μ μ') : HM μ' n ru ki := HM_e hM ha ho
theorem efr556 (ha : RC a) (j : Nat) : ¬ efr a 557 j := by unfold efr vfr gfr; unfold RC at ha; omega
theorem efr557 (ha : RC a) (j : Nat) : ¬ efr a 558 j := by unfold efr vfr gfr; unfold RC at ha; omega
theorem run_92M (hf : FM Γ) (hd : 39 ≤ d) (hn : 0 < n) (hL : LSok ls W) (hP : PRW μ row pv i) {x y ix : Int} {v : Nat} (e3 : pv i 0 = 3) (ev : pv i 1 = v) (hv : m + v ≤ 999) {e : Int} (hQ : ∀ μ', fr (efr 560) μ μ' → TS μ' n ru ki W 560 s (mbx bx s m (ru 2) v) (m + v) T mg → G Γ m_MO_run (d + 1) (0, 0) Q 50 [.ref 547, .int (w x), .int (w y), .int (w (ix + 1)), .int (w e)] [] μ') : ∀ (f j : Nat) (μ1 : XM), j + f = v → fr (efr 560) μ μ1 → TS μ1 n ru ki W 560 s (mbx bx s m (ru 2) j) (m + j) T mg → G Γ m_MO_run (d + 1) (0, 0) Q 92 [.ref 547, .int (w x), .int (w y), .int (w ix), .int (w e), .int (w row), .int (w j)] [] μ1 := by
  have ha : RC 560 := Or.inr rfl
  have hv9 := hP.2.2.2.2 e3
  intro f
  induction f with
  | zero =>
    intro j μ1 hj ho h
    refine B_MO_run_92 h.1.1.o ?_
    refine (C_timesOf (by omega) h.1 (hP.frm ho (efr556 ha))).conseq (KI.mono ?_)
    rintro r μ2 ⟨rfl, rfl⟩
    rw [if_pos e3, ev, w_lt (by omega) (by omega) (by omega) (by omega)]
    simp only [w_add]
    refine ⟨fun q => absurd q (by omega), fun _ => hQ _ ho ?_⟩
    rw [show v = j by omega]
    exact h
  | succ f ih =>
    intro j μ1 hj ho h
    refine B_MO_run_92 h.1.1.o ?_
    have hP1 := hP.frm ho (efr556 ha)
    refine (C_timesOf (by omega) h.1 hP1).conseq (KI.mono ?_)
    rintro r μ2 ⟨rfl, rfl⟩
    rw [if_pos e3, ev, w_lt (by omega) (by omega) (by omega) (by omega)]
    refine ⟨fun _ => ⟨560, h.1.1.r 31 560 rfl, ?_⟩, fun q => absurd (by omega) q⟩
    refine (C_stepsM hf hd hn hL ha h hP1 (fun _ => by omega) (fun q => absurd e3 q)).conseq (KI.mono ?_)
    rintro r μ3 ⟨o3, rfl, h3, -⟩
    rw [show gav ls ki (mbx bx s m (ru 2) j) (m + j) s pv i = 0 by unfold gav; rw [if_neg (by omega)], w_add, w_add, Int.add_zero]
    exact ih (j + 1) μ3 (by omega) (ho.trans o3) (h3 e3)
theorem run_92 (hf : FM Γ) (hd : 39 ≤ d) (hn : 0 < n) (hL : LSok ls W) (hP : PRW μ row pv i) (h : TS μ n ru ki W 560 s bx m T mg) (hb : stb n ru bx s m pv i) {x y ix : Int} {e : Int} (hQ : ∀ μ' T' mg', fr (efr 560) μ μ' → TS μ' n ru ki W 560 (ga0 s pv i) (ga1 ru bx s m pv i) (ga2 m pv i) T' mg' → G Γ m_MO_run (d + 1) (0, 0) Q 50 [.ref 547, .int (w x), .int (w y), .int (w (ix + 1)), .int (w (e + gav ls ki bx m s pv i))] [] μ') : G Γ m_MO_run (d + 1) (0, 0) Q 92 [.ref 547, .int (w x), .int (w y), .int (w ix), .int (w e), .int (w row), .int (w 0)] [] μ := by
  have ha : RC 560 := Or.inr rfl
  by_cases e3 : pv i 0 = 3
  · have hv := hP.2.2.1
    unfold PV at hv
    obtain ⟨v, hv'⟩ : ∃ v : Nat, pv i 1 = v := ⟨(pv i 1).toNat, by omega⟩
    have e0 : ga0 s pv i = s := by unfold ga0; rw [if_neg (by omega), if_neg (by omega)]
    have e1 : ga1 ru bx s m pv i = mbx bx s m (ru 2) v := by unfold ga1; rw [if_neg (by omega), if_neg (by omega), if_neg (by omega), if_pos e3, hv']; rfl
    have e2 : ga2 m pv i = m + v := by unfold ga2; rw [if_pos e3, hv']; rfl
    have e5 : gav ls ki bx m s pv i = 0 := by unfold gav; rw [if_neg (by omega)]
    rw [e0, e1, e2, e5, Int.add_zero] at hQ
    have hm9 := h.2.2.1.2.1
    unfold stb at hb
    exact run_92M (v := v) hf hd hn hL hP e3 hv' (by omega) (fun μ' g1 g2 => hQ μ' T mg g1 g2) v 0 μ (by omega) (fr.rf _ _) h
  · refine B_MO_run_92 h.1.1.o ?_
    refine (C_timesOf (by omega) h.1 hP).conseq (KI.mono ?_)
    rintro r μ2 ⟨rfl, rfl⟩
    rw [if_neg e3, w_lt (by omega) (by omega) (by omega) (by omega)]
    refine ⟨fun _ => ⟨560, h.1.1.r 31 560 rfl, ?_⟩, fun q => absurd (by omega) q⟩
    refine (C_stepsM hf hd hn hL ha h hP (fun q => absurd q e3) (fun _ => hb)).conseq (KI.mono ?_)
    rintro r μ3 ⟨o3, rfl, -, h3⟩
    have h3 := h3 e3
    rw [w_add, w_add]
    refine B_MO_run_92 h3.1.1.o ?_
    refine (C_timesOf (by omega) h3.1 (hP.frm o3 (efr556 ha))).conseq (KI.mono ?_)
    rintro r μ4 ⟨rfl, rfl⟩
    rw [if_neg e3, w_lt (by omega) (by omega) (by omega) (by omega)]
    simp only [w_add]
    refine ⟨fun q => absurd q (by omega), fun _ => hQ _ (gaT T pv i) (gag ls ki bx m s T mg pv i) o3 ?_⟩
    rw [show ga2 m pv i = m by unfold ga2; rw [if_neg e3]]
    exact h3
theorem run_50 (hf : FM Γ) (hd : 39 ≤ d) (hn : 0 < n) (hL : LSok ls W) (hp : p < k) {y : Int} (y0 : 0 ≤ y) (y1 : y ≤ 1) : ∀ (f i s : Nat) (bx : Nat → Nat → Int) (m T : Nat) (mg : Nat → Nat → Int) (e : Int) (μ : XM), i + f = pz p → PLM μ k pz pw → TS μ n ru ki W 560 s bx m T mg → (∀ μ', fr (efr 560) μ μ' → MW μ' W → Q (some (.int (w (if y = 1 then (rnn n ru ki ls (pw p) f i s bx m e).1 else (rnn n ru ki ls (pw p) f i s bx m e).2)))) μ') → G Γ m_MO_run (d + 1) (0, 0) Q 50 [.ref 547, .int (w p), .int (w y), .int (w i), .int (w e)] [] μ := by
  have ha : RC 560 := Or.inr rfl
  intro f
  induction f with
  | zero =>
    intro i s bx m T mg e μ hi hP h hQ
    obtain ⟨z16, ez, hr⟩ := hP.2.2 p hp
    have k4 := hP.1
    refine B_MO_run_50 h.1.1.o (h.1.1.r 24 558 rfl) (h.1.1.r 31 560 rfl) ?_
    rw [w_cln (by omega), ez, w_lt (by omega) (by omega) (by omega) (by omega)]
    have hQ := hQ μ (fr.rf _ _) h.2.1
    rw [w_inj (by omega) (by omega) (by omega) (by omega), w_inj (by omega) (by omega) (by omega) (by omega)]
    refine ⟨in557 h.1.1.1 (by omega) (by omega), fun q => absurd q (by omega), fun _ => ⟨fun q => ?_, fun q => ⟨in557 h.1.1.1 (by omega) (by omega), fun q2 => ?_, fun q2 => absurd (by omega) q2⟩⟩⟩
    · rw [if_pos q] at hQ
      exact hQ
    · rw [if_neg q] at hQ
      exact hQ
  | succ f ih =>
    intro i s bx m T mg e μ hi hP h hQ
    obtain ⟨z16, ez, hr⟩ := hP.2.2 p hp
    have k4 := hP.1
    refine B_MO_run_50 h.1.1.o (h.1.1.r 24 558 rfl) (h.1.1.r 31 560 rfl) ?_
    have hri := hr i (by omega)
    rw [w_cln (by omega), ez, w_lt (by omega) (by omega) (by omega) (by omega), w_mul, w_add, w_mul, show (4 : Int) * (16 * (p : Int) + i) = ((4 * (16 * p + i) : Nat) : Int) by omega]
    refine ⟨in557 h.1.1.1 (by omega) (by omega), fun _ => ?_, fun q => absurd (by omega) q⟩
    have e0 : rnn n ru ki ls (pw p) (f + 1) i s bx m e = @ite _ (stb n ru bx s m (pw p) i) (Classical.propDecidable _) (rnn n ru ki ls (pw p) f (i + 1) (ga0 s (pw p) i) (ga1 ru bx s m (pw p) i) (ga2 m (pw p) i) (e + gav ls ki bx m s (pw p) i)) (e, (i : Int)) := by rw [rnn]
    rw [e0] at hQ
    refine (C_canStepM (by omega) h.1 hn ha h.2.2.1 hri).conseq (KI.mono ?_)
    rintro r μ3 ⟨rfl, ⟨hb, rfl⟩ | ⟨hb, rfl⟩⟩
    · rw [if_pos hb] at hQ
      refine ⟨fun q => absurd q (by decide), fun _ => ?_⟩
      exact run_92 hf hd hn hL hri h hb (fun μ' T' mg' g1 g2 => ih (i + 1) _ _ _ T' mg' _ μ' (by omega) (hP.frm g1 (efr556 ha) (efr557 ha) (by unfold efr vfr gfr; omega)) g2 (fun μ'' q1 q2 => hQ μ'' (g1.trans q1) q2))
    · rw [if_neg hb] at hQ
      have hQ := hQ μ3 (fr.rf _ _) h.2.1
      rw [ez, w_inj (by omega) (by omega) (by omega) (by omega), w_inj (by omega) (by omega) (by omega) (by omega), w_inj (by omega) (by omega) (by omega) (by omega)]
      refine ⟨fun _ => ⟨fun q => ?_, fun q => ⟨h.1.1.r 24 558 rfl, in557 h.1.1.1 (by omega) (by omega), fun q2 => absurd q2 (by omega), fun _ => ?_⟩⟩, fun q => absurd rfl q⟩
      · rw [if_pos q] at hQ
        exact hQ
      · rw [if_neg q] at hQ
        exact hQ
theorem qfr_e {c j : Nat} (h : efr 560 c j) : qfr c j := by
  unfold efr at h
  rcases h with h | h
  · exact Or.inl h
  · exact Or.inr (Or.inr (Or.inl h))
theorem C_runM (hf : FM Γ) (hd : 40 ≤ d) (h : MQs μ n ru ki s bx m T mg W ls) (hP : PLM μ k pz pw) {x y : Int} (x1 : -2147483648 ≤ x) (x2 : x < 2147483648) (y1 : -2147483648 ≤ y) (y2 : y < 2147483648) : Call Γ m_MO_run d [.ref 547, .int (w x), .int (w y)] μ (KI (fun r μ' => fr qfr μ μ' ∧ MW μ' W ∧ r = if 0 ≤ x ∧ x < k ∧ 0 ≤ y ∧ y ≤ 1 ∧ 0 < n then w (if y = 1 then (rnn n ru ki ls (pw x.toNat) (pz x.toNat) 0 s bx m 0).1 else (rnn n ru ki ls (pw x.toNat) (pz x.toNat) 0 s bx m 0).2) else w (-1000000))) := by
  obtain ⟨d, rfl⟩ : ∃ e, d = e + 1 := ⟨d - 1, by omega⟩
  have hn6 := h.hm.2.1
  have k4 := hP.1
  refine Call.of ok_MO_run (Nat.le_of_ble_eq_true rfl) (B_MO_run_0 h.hm.1.o ?_)
  rintro μ1 rfl
  have o1 := th0 μ
  have h1 := h.th
  have hP1 : PLM (sI μ 547 0 (w 0)) k pz pw := hP.frm o1 (fun j => by unfold thr; omega) (fun j => by unfold thr; omega) (by unfold thr; omega)
  have h0 := o1.wide thr_q
  generalize sI μ 547 0 (w 0) = μ1 at *
  refine (C_isPlanM (by omega) h1.hm hP1 x1 x2).conseq (KI.mono ?_)
  rintro r μ2 ⟨rfl, ⟨g1, g2, rfl⟩ | ⟨g1, rfl⟩⟩
  · refine ⟨fun q => absurd q (by decide), fun _ => ?_⟩
    rw [h1.hm.2.2.1, w_inj (by omega) (by omega) (by omega) (by omega), w_l y1 y2]
    refine ⟨fun q => ⟨_, rfl, h0, h1.mw, by rw [if_neg (by omega)]⟩, fun q => ?_⟩
    refine (C_isIn (x := 0) (y := 1) (by omega) (by omega) (by omega) (by omega) (by omega) (by omega) (by omega)).conseq (KI.mono ?_)
    rintro r μ3 ⟨rfl, ⟨g3, g4, rfl⟩ | ⟨g3, rfl⟩⟩
    · refine ⟨fun q => absurd q (by decide), fun _ => ⟨559, h1.hm.1.r 30 559 rfl, 560, h1.hm.1.r 31 560 rfl, ?_⟩⟩
      refine (C_copyM (by omega) (Or.inl rfl) (Or.inr (Or.inl rfl)) (by omega) h1.hm.1.1 h1.nr).conseq (KV.mono ?_)
      rintro μ5 ⟨o5, h5⟩
      have hq5 := h1.t o5
      obtain ⟨x, rfl⟩ : ∃ j : Nat, x = j := ⟨x.toNat, by omega⟩
      rw [show ((x : Nat) : Int).toNat = x by omega]
      refine run_50 (p := x) hf (by omega) (by omega) h.lo (by omega) g3 g4 (pz x) 0 s bx m T mg 0 μ5 (by omega) (hP1.frm o5 (fun j => by omega) (fun j => by omega) (by omega)) ⟨hq5.hm, hq5.mw, h5, h.kn⟩ (fun μ' q1 q2 => ⟨_, rfl, h0.trans ((o5.wide (fun c j z => Or.inr (Or.inr (Or.inl z)))).trans (q1.wide (fun _ _ => qfr_e))), q2, ?_⟩)
      rw [if_pos (show 0 ≤ (x : Int) ∧ (x : Int) < k ∧ 0 ≤ y ∧ y ≤ 1 ∧ 0 < n by omega)]
    · exact ⟨fun _ => ⟨_, rfl, h0, h1.mw, by rw [if_neg (by omega)]⟩, fun q => absurd rfl q⟩
  · exact ⟨fun _ => ⟨_, rfl, h0, h1.mw, by rw [if_neg (by omega)]⟩, fun q => absurd rfl q⟩
end OH
