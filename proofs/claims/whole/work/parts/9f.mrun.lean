/-! RUNS AND PERFORMANCES, in the reference -/
/-- a row in cell a, with the house and the laws -/
def TS (μ : XM) (n : Nat) (ru : Nat → Int) (ki : Nat → Nat → Int) (W : WL) (a s : Nat) (bx : Nat → Nat → Int) (m T : Nat) (mg : Nat → Nat → Int) : Prop := HM μ n ru ki ∧ MW μ W ∧ NR μ a 0 s bx m T mg ∧ KN bx s n
section OH
variable {Γ : XG} {d n s m T a k row i p : Nat} {ru : Nat → Int} {ki bx mg pv : Nat → Nat → Int} {ls : Int → Int → Int → Int → Int → Int → Int} {μ : XM} {Q : Option Value → XM → Prop} {W : WL} {A : AA} {pz : Nat → Nat} {pw : Nat → Nat → Nat → Int}
theorem tmhN_bd (hM : HM μ n ru ki) (hN : NR μ a 0 s bx m T mg) {z : Int} (z2 : z ≤ 99) : 0 ≤ tmh ru bx s z ∧ tmh ru bx s z ≤ 99 ∧ 0 ≤ bsum bx 1 s ∧ bsum bx 1 s ≤ 72 := by
  have h8 := hN.1
  have hb := bsum_le hN.bb s (by omega)
  have := brn_bd hM.2.2.2.1 (p := bsum bx 1 s) (by omega) (by omega)
  unfold tmh
  omega
theorem C_stepsM (hf : FM Γ) (hd : 39 ≤ d) (hn : 0 < n) (hL : LSok ls W) (ha : RC a) (h : TS μ n ru ki W a s bx m T mg) (hP : PRW μ row pv i) (h3 : pv i 0 = 3 → m < 999) (hb : ¬ pv i 0 = 3 → stb n ru bx s m pv i) : Call Γ m_MO_steps d [.ref 546, .ref a, .int (w row)] μ (KI (fun r μ' => fr (efr a) μ μ' ∧ r = w (gav ls ki bx m s pv i) ∧ (pv i 0 = 3 → TS μ' n ru ki W a s (bmon bx s m (ru 2)) (m + 1) T mg) ∧ (¬ pv i 0 = 3 → TS μ' n ru ki W a (ga0 s pv i) (ga1 ru bx s m pv i) m (gaT T pv i) (gag ls ki bx m s T mg pv i)))) := by
  obtain ⟨d, rfl⟩ : ∃ e, d = e + 1 := ⟨d - 1, by omega⟩
  obtain ⟨hM, hW, hN, hK⟩ := h
  have h8 := hN.1
  have hm9 := hN.2.1
  obtain ⟨hr, he, hv, hv0, hv3⟩ := hP
  unfold PV at hv
  have e0 := he 0 (by omega)
  have e1 := he 1 (by omega)
  have e2 := he 2 (by omega)
  have e3 := he 3 (by omega)
  rw [Nat.add_zero] at e0
  refine Call.of ok_MO_steps (Nat.le_of_ble_eq_true rfl) (B_MO_steps_0 hM.1.o (hM.1.r 23 556 rfl) ?_)
  have c1 : (w ((row : Int) + 1)).toNatClampNeg = row + 1 := by rw [w_cl (by omega) (by omega)]; omega
  have c2 : (w ((row : Int) + 2)).toNatClampNeg = row + 2 := by rw [w_cl (by omega) (by omega)]; omega
  have c3 : (w ((row : Int) + 3)).toNatClampNeg = row + 3 := by rw [w_cl (by omega) (by omega)]; omega
  have c0 : (w (row : Int)).toNatClampNeg = row := w_cln (by omega)
  simp only [w_add, c0, c1, c2, c3, e0, e1, e2, e3]
  have hx := hM.1.1
  have ea : ∀ {μ' : XM}, fr (fun c _ => c = a) μ μ' → fr (efr a) μ μ' := fun ho => ho.wide (fun _ _ q => Or.inr q)
  have ts : ∀ {μ' : XM} {s' : Nat} {bx' : Nat → Nat → Int} {m' : Nat}, fr (fun c _ => c = a) μ μ' → NR μ' a 0 s' bx' m' T mg → KN bx' s' n → TS μ' n ru ki W a s' bx' m' T mg := fun ho h1 h2 => ⟨HM_a hM ha ho, MW_a hW ha ho, h1, h2⟩
  unfold stb at hb
  refine ⟨in556 hx (by omega) (by omega), in556 hx (by omega) (by omega), fun e => ?_, fun e => ⟨in556 hx (by omega) (by omega), in556 hx (by omega) (by omega), ?_⟩, fun e => ?_, fun e => ?_, fun e => ?_⟩
  · rw [w_lt (by omega) (by omega) (by omega) (by omega), w_lt (by omega) (by omega) (by omega) (by omega)] at e
    have g0 : ga0 s pv i = s := by unfold ga0; rw [if_neg (by omega), if_neg (by omega)]
    have g1 : ga1 ru bx s m pv i = bold bx (tmh ru bx s (pv i 1)) s := by unfold ga1; rw [if_neg (by omega), if_neg (by omega), if_neg (by omega), if_neg (by omega)]
    have g3 : gaT T pv i = T := by unfold gaT; rw [if_neg (by omega)]
    have g4 : gag ls ki bx m s T mg pv i = mg := by unfold gag; rw [if_neg (by omega)]
    have g5 : gav ls ki bx m s pv i = 0 := by unfold gav; rw [if_neg (by omega)]
    rw [g0, g1, g3, g4, g5]
    have tb := tmhN_bd hM hN (z := pv i 1) (by omega)
    refine (C_sumIn (by omega) hx ha.sh.1 ha.sh.2.1 hN).conseq (KI.mono ?_)
    rintro r μ3 ⟨rfl, rfl⟩
    refine (C_moreThanBorne (by omega) hM hn tb.2.2.1 (by omega) (by omega) (by omega)).conseq (KI.mono ?_)
    rintro r μ4 ⟨rfl, rfl⟩
    refine (C_ages (v := tmh ru bx s (pv i 1)) (by omega) ha hx hN tb.1 (by omega)).conseq (KV.mono ?_)
    rintro μ5 ⟨o5, h5⟩
    exact ⟨_, rfl, ea o5, rfl, fun q => absurd q (by omega), fun _ => ts o5 h5 (hK.oldt _)⟩
  · rw [w_inj (by omega) (by omega) (by omega) (by omega)] at e
    have hc : CP n ru bx s (pv i 1) (pv i 2) := by
      rcases hb (by omega) with q | q | q | q | q <;> first | exact q.2 | omega
    have g0 : ga0 s pv i = s + 1 := by unfold ga0; rw [if_pos e]
    have g1 : ga1 ru bx s m pv i = bput bx s (pv i 1) (pv i 2) 0 (if pv i 3 = 1 then m else -1) := by unfold ga1; rw [if_pos e]
    have g3 : gaT T pv i = T := by unfold gaT; rw [if_neg (by omega)]
    have g4 : gag ls ki bx m s T mg pv i = mg := by unfold gag; rw [if_neg (by omega)]
    have g5 : gav ls ki bx m s pv i = 0 := by unfold gav; rw [if_neg (by omega)]
    rw [g0, g1, g3, g4, g5]
    have hc' := hc
    unfold CP at hc'
    have hn6 := hM.2.1
    have := hv0 e
    have el : (if pv i 3 = 1 then (m : Int) else -1) = if pv i 3 = 0 then -1 else (m : Int) := by
      by_cases z : pv i 3 = 0
      · rw [if_neg (by omega), if_pos z]
      · rw [if_pos (by omega), if_neg z]
    rw [el]
    refine (C_puts (by omega) ha hx hN hc'.2.2.2.2.1 hc'.1 (by omega) hc'.2.2.1 hc'.2.2.2.1 (by omega) (by omega)).conseq (KV.mono ?_)
    rintro μ5 ⟨o5, h5⟩
    exact ⟨_, rfl, ea o5, rfl, fun q => absurd q (by omega), fun _ => ts o5 h5 (hK.put hc'.2.1)⟩
  · rw [w_inj (by omega) (by omega) (by omega) (by omega)] at e
    have g0 : ga0 s pv i = s - 1 := by unfold ga0; rw [if_neg (by omega), if_pos e]
    have g1 : ga1 ru bx s m pv i = bcut bx (s - 1 - (pv i 1).toNat) := by unfold ga1; rw [if_neg (by omega), if_pos e]
    have g3 : gaT T pv i = T + 1 := by unfold gaT; rw [if_pos e]
    have g4 : gag ls ki bx m s T mg pv i = mput mg T (bx (s - 1 - (pv i 1).toNat) 0) (bx (s - 1 - (pv i 1).toNat) 1) (bx (s - 1 - (pv i 1).toNat) 2) (vpl ls ki bx m s (pv i 1).toNat) := by unfold gag; rw [if_pos e]
    have g5 : gav ls ki bx m s pv i = vpl ls ki bx m s (pv i 1).toNat := by unfold gav; rw [if_pos e]
    rw [g0, g1, g3, g4, g5]
    obtain ⟨b, hb'⟩ : ∃ v : Nat, pv i 1 = v := ⟨(pv i 1).toNat, by omega⟩
    rw [hb', show ((b : Nat) : Int).toNat = b by omega]
    refine (C_eatsM hf (by omega) hM hW hL ha hN hK (b := b) (by omega)).conseq (KI.mono ?_)
    rintro r μ4 ⟨o4, hW4, hN4, rfl⟩
    exact ⟨_, rfl, o4, rfl, fun q => absurd q (by omega), fun _ => ⟨HM_e hM ha o4, hW4, hN4, hK.cut _⟩⟩
  · rw [w_inj (by omega) (by omega) (by omega) (by omega)] at e
    have g0 : ga0 s pv i = s := by unfold ga0; rw [if_neg (by omega), if_neg (by omega)]
    have g1 : ga1 ru bx s m pv i = bset bx (s - 1 - (pv i 1).toNat) 3 m := by unfold ga1; rw [if_neg (by omega), if_neg (by omega), if_pos e]
    have g3 : gaT T pv i = T := by unfold gaT; rw [if_neg (by omega)]
    have g4 : gag ls ki bx m s T mg pv i = mg := by unfold gag; rw [if_neg (by omega)]
    have g5 : gav ls ki bx m s pv i = 0 := by unfold gav; rw [if_neg (by omega)]
    rw [g0, g1, g3, g4, g5]
    obtain ⟨b, hb'⟩ : ∃ v : Nat, pv i 1 = v := ⟨(pv i 1).toNat, by omega⟩
    rw [hb', show ((b : Nat) : Int).toNat = b by omega]
    refine (C_names (by omega) ha hx hN (b := b) (by omega)).conseq (KV.mono ?_)
    rintro μ5 ⟨o5, h5⟩
    exact ⟨_, rfl, ea o5, rfl, fun q => absurd q (by omega), fun _ => ts o5 h5 (hK.set _ _)⟩
  · rw [w_inj (by omega) (by omega) (by omega) (by omega)] at e
    have g5 : gav ls ki bx m s pv i = 0 := by unfold gav; rw [if_neg (by omega)]
    rw [g5]
    refine (C_goMonth (by omega) ha hn hM hN (h3 e)).conseq (KV.mono ?_)
    rintro μ5 ⟨o5, h5⟩
    exact ⟨_, rfl, ea o5, rfl, fun _ => ts o5 h5 (hK.mon _ _), fun q => absurd e q⟩
end OH
