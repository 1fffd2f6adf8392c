/-! THE ACTS THEMSELVES, in the reference -/
/-- what an act may change -/
def mof (c j : Nat) : Prop := vfr c j ∨ c = 559 ∨ c = 563 ∨ (c = 547 ∧ (j = 0 ∨ j = 37 ∨ j = 38))
def MA (μ : XM) (n : Nat) (ru : Nat → Int) (ki : Nat → Nat → Int) (s : Nat) (bx : Nat → Nat → Int) (m T : Nat) (mg : Nat → Nat → Int) (W : WL) (ls : Int → Int → Int → Int → Int → Int → Int) (A : AA) : Prop := MQs μ n ru ki s bx m T mg W ls ∧ AVM μ n A T mg
theorem mof_v {c j : Nat} (h : vfr c j) : mof c j := Or.inl h
theorem mof_e {c j : Nat} (h : efr 559 c j) : mof c j := by
  unfold efr at h
  rcases h with h | h
  · exact Or.inl h
  · exact Or.inr (Or.inl h)
theorem mof_a {c j : Nat} (h : c = 559) : mof c j := Or.inr (Or.inl h)
theorem mof_r {c j : Nat} (h : rmf c j) : mof c j := by
  unfold rmf at h
  rcases h with h | ⟨h, rfl⟩
  · exact Or.inr (Or.inr (Or.inl h))
  · exact Or.inr (Or.inr (Or.inr ⟨h, Or.inr (Or.inl rfl)⟩))
theorem mof_0 {c j : Nat} (h : thr c j) : mof c j := Or.inr (Or.inr (Or.inr ⟨h.1, Or.inl h.2⟩))
theorem r558 : RC 559 := Or.inl rfl
section OD
variable {Γ : XG} {d n s m T a : Nat} {ru : Nat → Int} {ki bx mg : Nat → Nat → Int} {ls : Int → Int → Int → Int → Int → Int → Int} {μ : XM} {Q : Option Value → XM → Prop} {W : WL} {A : AA}
theorem MA.th (h : MA μ n ru ki s bx m T mg W ls A) : MA (sI μ 547 0 (w 0)) n ru ki s bx m T mg W ls A := ⟨h.1.th, h.2.frm (th0 μ) (fun j => by unfold thr; omega) (by unfold thr; omega)⟩
theorem MQs.row {μ' : XM} {s' m' T' : Nat} {bx' mg' : Nat → Nat → Int} (h : MQs μ n ru ki s bx m T mg W ls) (ho : fr (fun c _ => c = 559) μ μ') (hN : NR μ' 559 0 s' bx' m' T' mg') (hK : KN bx' s' n) (h0 : n = 0 → s' = 0) : MQs μ' n ru ki s' bx' m' T' mg' W ls := ⟨HM_a h.hm r558 ho, hN, hK, h0, MW_a h.mw r558 ho, h.lo⟩
theorem AVM.row {μ' : XM} (h : AVM μ n A T mg) (ho : fr (fun c _ => c = 559) μ μ') : AVM μ' n A T mg := h.frm ho (fun j => by omega) (by omega)
theorem HM_e (h : HM μ n ru ki) (ha : RC a) {μ' : XM} (ho : fr (efr a) μ μ') : HM μ' n ru ki := h.fr ho (fun k v e => by
  unfold efr
  unfold RC at ha
  rintro (q | q)
  · exact vfr_r k v e q
  · omega) (by unfold efr vfr gfr; unfold RC at ha; omega) (fun j => by unfold efr vfr gfr; unfold RC at ha; omega) (fun j => by unfold efr vfr gfr; unfold RC at ha; omega)
theorem AVM.e (h : AVM μ n A T mg) (ha : RC a) {μ' : XM} (ho : fr (efr a) μ μ') : AVM μ' n A T mg := h.frm ho (fun j => by unfold efr vfr gfr; unfold RC at ha; omega) (by unfold efr vfr gfr; unfold RC at ha; omega)
theorem C_canLabelM (hd : 2 ≤ d) (hM : HM μ n ru ki) (ha : RC a) (hN : NR μ a 0 s bx m T mg) (h0 : n = 0 → s = 0) {z : Int} (z1 : -2147483648 ≤ z) (z2 : z < 2147483648) : Call Γ m_MO_canLabel d [.ref 547, .ref a, .int (w z)] μ (KI (fun r μ' => μ' = μ ∧ (((0 ≤ z ∧ z < s ∧ bx (s - 1 - z.toNat) 3 = -1) ∧ r = w 1) ∨ (¬ (0 ≤ z ∧ z < s ∧ bx (s - 1 - z.toNat) 3 = -1) ∧ r = w 0)))) := by
  obtain ⟨d, rfl⟩ : ∃ e, d = e + 1 := ⟨d - 1, by omega⟩
  have h8 := hN.1
  refine Call.of ok_MO_canLabel (Nat.le_of_ble_eq_true rfl) (B_MO_canLabel_0 hM.1.o ?_)
  refine (C_isBox (by omega) hM ha.sh.1 ha.sh.2.1 hN h0 z1 z2).conseq (KI.mono ?_)
  rintro r μ1 ⟨rfl, ⟨g1, g2, rfl⟩ | ⟨g1, rfl⟩⟩
  · refine ⟨fun q => absurd q (by decide), fun _ => ?_⟩
    obtain ⟨b, rfl⟩ : ∃ b : Nat, z = b := ⟨z.toNat, by omega⟩
    have hr := hN.rb (b := b) (by omega)
    unfold RB at hr
    dsimp only at hr
    rw [w_mul, w_add, w_cl (by omega) (by omega), show (5 * (b : Int) + 3).toNat = 5 * b + 3 by omega, hr.2.2.2.1, show (b : Int).toNat = b by omega]
    refine ⟨rc_in ha hM.1.1 (by omega) (by omega), fun q => ⟨_, rfl, rfl, ?_⟩, fun q => ⟨_, rfl, rfl, ?_⟩⟩
    · by_cases e : bx (s - 1 - b) 3 = -1
      · exact Or.inl ⟨⟨g1, g2, e⟩, rfl⟩
      · rw [if_neg e] at q
        exact absurd q (by decide)
    · by_cases e : bx (s - 1 - b) 3 = -1
      · rw [if_pos e] at q
        exact absurd rfl q
      · exact Or.inr ⟨fun z => e z.2.2, rfl⟩
  · exact ⟨fun _ => ⟨_, rfl, rfl, Or.inr ⟨fun z => g1 ⟨z.1, z.2.1⟩, rfl⟩⟩, fun q => absurd rfl q⟩
theorem C_mayPassM (hd : 2 ≤ d) (hM : HM μ n ru ki) (ha : RC a) (hN : NR μ a 0 s bx m T mg) {z y : Int} (z1 : -2147483648 ≤ z) (z2 : z < 2147483648) (y1 : 0 ≤ y) (y2 : y ≤ 60) : Call Γ m_MO_mayPass d [.ref 547, .ref a, .int (w z), .int (w y)] μ (KI (fun r μ' => μ' = μ ∧ (((0 < n ∧ 1 ≤ z ∧ z ≤ y ∧ m + z ≤ 999) ∧ r = w 1) ∨ (¬ (0 < n ∧ 1 ≤ z ∧ z ≤ y ∧ m + z ≤ 999) ∧ r = w 0)))) := by
  obtain ⟨d, rfl⟩ : ∃ e, d = e + 1 := ⟨d - 1, by omega⟩
  have hn := hM.2.1
  have hm9 := hN.2.1
  obtain ⟨t0, t1, t2⟩ := hN.z
  refine Call.of ok_MO_mayPass (Nat.le_of_ble_eq_true rfl) (B_MO_mayPass_0 hM.1.o ?_)
  rw [hM.2.2.1, w_lt (by omega) (by omega) (by omega) (by omega), w_l z1 z2, w_l (by omega) (by omega)]
  refine ⟨fun q => ?_, fun q => ⟨_, rfl, rfl, Or.inr ⟨by omega, rfl⟩⟩⟩
  refine (C_isIn (x := 1) (by omega) (by omega) (by omega) (by omega) (by omega) (by omega) (by omega)).conseq (KI.mono ?_)
  rintro r μ1 ⟨rfl, ⟨g1, g2, rfl⟩ | ⟨g1, rfl⟩⟩
  · refine ⟨fun q2 => absurd q2 (by decide), fun _ => ⟨rc_in ha hM.1.1 (by omega) (by omega), ?_⟩⟩
    rw [show (w 41).toNatClampNeg = 41 by decide, t1, w_add, w_lt (by omega) (by omega) (by omega) (by omega)]
    exact ⟨fun q2 => ⟨_, rfl, rfl, Or.inr ⟨by omega, rfl⟩⟩, fun q2 => ⟨_, rfl, rfl, Or.inl ⟨by omega, rfl⟩⟩⟩
  · exact ⟨fun _ => ⟨_, rfl, rfl, Or.inr ⟨by omega, rfl⟩⟩, fun q2 => absurd rfl q2⟩
theorem C_takeM (hf : FM Γ) (hd : 39 ≤ d) (h : MA μ n ru ki s bx m T mg W ls A) {z : Int} (z1 : -2147483648 ≤ z) (z2 : z < 2147483648) : Call Γ m_MO_take d [.ref 547, .int (w z)] μ (KI (fun r μ' => fr mof μ μ' ∧ (((0 ≤ z ∧ z < s) ∧ r = w (vpl ls ki bx m s z.toNat) ∧ MA μ' n ru ki (s - 1) (bcut bx (s - 1 - z.toNat)) m (T + 1) (mput mg T (bx (s - 1 - z.toNat) 0) (bx (s - 1 - z.toNat) 1) (bx (s - 1 - z.toNat) 2) (vpl ls ki bx m s z.toNat)) W ls (asav A s bx m T)) ∨ (¬ (0 ≤ z ∧ z < s) ∧ r = w (-1) ∧ MA μ' n ru ki s bx m T mg W ls A)))) := by
  obtain ⟨d, rfl⟩ : ∃ e, d = e + 1 := ⟨d - 1, by omega⟩
  have hR := h.1.hm.1
  refine Call.of ok_MO_take (Nat.le_of_ble_eq_true rfl) (B_MO_take_0 hR.o (hR.r 30 559 rfl) ?_)
  rintro μ1 rfl
  have h1 := h.th
  have o1 := th0 μ
  generalize sI μ 547 0 (w 0) = μ1 at *
  refine (C_isBox (by omega) h1.1.hm r558.sh.1 r558.sh.2.1 h1.1.nr h1.1.n0 z1 z2).conseq (KI.mono ?_)
  rintro r μ2 ⟨rfl, ⟨g1, g2, rfl⟩ | ⟨g1, rfl⟩⟩
  · refine ⟨fun q => absurd q (by decide), fun _ => ?_⟩
    refine (C_rememberM (by omega) h1.1 h1.2).conseq (KV.mono ?_)
    rintro μ3 ⟨o3, h3, a3⟩
    obtain ⟨b, rfl⟩ : ∃ b : Nat, z = b := ⟨z.toNat, by omega⟩
    rw [show (b : Int).toNat = b by omega]
    refine ⟨h3.hm.1.r 30 559 rfl, ?_⟩
    refine (C_eatsM hf (by omega) h3.hm h3.mw h3.lo r558 h3.nr h3.kn (b := b) (by omega)).conseq (KI.mono ?_)
    rintro r μ4 ⟨o4, hW4, hN4, rfl⟩
    refine ⟨_, rfl, (o1.wide (fun _ _ => mof_0)).trans ((o3.wide (fun _ _ => mof_r)).trans (o4.wide (fun _ _ => mof_e))), Or.inl ⟨⟨g1, g2⟩, rfl, ⟨HM_e h3.hm r558 o4, hN4, h3.kn.cut _, fun q => by have := h3.n0 q; omega, hW4, h3.lo⟩, (a3.e r558 o4).mp _ _ _ _⟩⟩
  · exact ⟨fun _ => ⟨_, rfl, o1.wide (fun _ _ => mof_0), Or.inr ⟨g1, rfl, h1⟩⟩, fun q => absurd rfl q⟩
theorem C_labelM (hd : 4 ≤ d) (h : MA μ n ru ki s bx m T mg W ls A) {z : Int} (z1 : -2147483648 ≤ z) (z2 : z < 2147483648) : Call Γ m_MO_label d [.ref 547, .int (w z)] μ (KI (fun r μ' => fr mof μ μ' ∧ (((0 ≤ z ∧ z < s ∧ bx (s - 1 - z.toNat) 3 = -1) ∧ r = w 1 ∧ MA μ' n ru ki s (bset bx (s - 1 - z.toNat) 3 m) m T mg W ls (asav A s bx m T)) ∨ (¬ (0 ≤ z ∧ z < s ∧ bx (s - 1 - z.toNat) 3 = -1) ∧ r = w 0 ∧ MA μ' n ru ki s bx m T mg W ls A)))) := by
  obtain ⟨d, rfl⟩ : ∃ e, d = e + 1 := ⟨d - 1, by omega⟩
  have hR := h.1.hm.1
  refine Call.of ok_MO_label (Nat.le_of_ble_eq_true rfl) (B_MO_label_0 hR.o (hR.r 30 559 rfl) ?_)
  rintro μ1 rfl
  have h1 := h.th
  have o1 := th0 μ
  generalize sI μ 547 0 (w 0) = μ1 at *
  refine (C_canLabelM (by omega) h1.1.hm r558 h1.1.nr h1.1.n0 z1 z2).conseq (KI.mono ?_)
  rintro r μ2 ⟨rfl, ⟨g1, rfl⟩ | ⟨g1, rfl⟩⟩
  · refine ⟨fun q => absurd q (by decide), fun _ => ?_⟩
    refine (C_rememberM (by omega) h1.1 h1.2).conseq (KV.mono ?_)
    rintro μ3 ⟨o3, h3, a3⟩
    have g1' := g1
    obtain ⟨b, rfl⟩ : ∃ b : Nat, z = b := ⟨z.toNat, by omega⟩
    rw [show (b : Int).toNat = b by omega]
    refine ⟨h3.hm.1.r 30 559 rfl, ?_⟩
    refine (C_names (by omega) r558 h3.hm.1.1 h3.nr (b := b) (by omega)).conseq (KV.mono ?_)
    rintro μ4 ⟨o4, hN4⟩
    exact ⟨_, rfl, (o1.wide (fun _ _ => mof_0)).trans ((o3.wide (fun _ _ => mof_r)).trans (o4.wide (fun _ _ => mof_a))), Or.inl ⟨g1', rfl, h3.row o4 hN4 (h3.kn.set _ _) h3.n0, a3.row o4⟩⟩
  · exact ⟨fun _ => ⟨_, rfl, o1.wide (fun _ _ => mof_0), Or.inr ⟨g1, rfl, h1⟩⟩, fun q => absurd rfl q⟩
theorem C_putM (hd : 4 ≤ d) (h : MA μ n ru ki s bx m T mg W ls A) {k p l : Int} (k1 : -2147483648 ≤ k) (k2 : k < 2147483648) (p1 : -2147483648 ≤ p) (p2 : p < 2147483648) (l0 : 0 ≤ l) (l1 : l ≤ 1) : Call Γ m_MO_put3 d [.ref 547, .int (w k), .int (w p), .int (w l)] μ (KI (fun r μ' => fr mof μ μ' ∧ ((CP n ru bx s k p ∧ r = w ((s + 1 : Nat) : Int) ∧ MA μ' n ru ki (s + 1) (bput bx s k p 0 (if l = 0 then -1 else m)) m T mg W ls (asav A s bx m T)) ∨ (¬ CP n ru bx s k p ∧ r = w (-1) ∧ MA μ' n ru ki s bx m T mg W ls A)))) := by
  obtain ⟨d, rfl⟩ : ∃ e, d = e + 1 := ⟨d - 1, by omega⟩
  have hR := h.1.hm.1
  have hn := h.1.hm.2.1
  refine Call.of ok_MO_put3 (Nat.le_of_ble_eq_true rfl) (B_MO_put3_0 hR.o (hR.r 30 559 rfl) ?_)
  rintro μ1 rfl
  have h1 := h.th
  have o1 := th0 μ
  generalize sI μ 547 0 (w 0) = μ1 at *
  refine (C_canPutM (by omega) h1.1.hm r558.sh.1 r558.sh.2.1 h1.1.nr k1 k2 p1 p2).conseq (KI.mono ?_)
  rintro r μ2 ⟨rfl, ⟨hc, rfl⟩ | ⟨hc, rfl⟩⟩
  · refine ⟨fun q => absurd q (by decide), fun _ => ?_⟩
    refine (C_rememberM (by omega) h1.1 h1.2).conseq (KV.mono ?_)
    rintro μ3 ⟨o3, h3, a3⟩
    have hc' := hc
    unfold CP at hc'
    have tail : ∀ μ4, fr (fun c _ => c = 559) μ3 μ4 → NR μ4 559 0 (s + 1) (bput bx s k p 0 (if l = 0 then -1 else (m : Int))) m T mg → xR μ4 547 30 = some 559 ∧ zib μ4 0 559 (w 40) ∧ KI (fun r μ' => fr mof μ μ' ∧ ((CP n ru bx s k p ∧ r = w ((s + 1 : Nat) : Int) ∧ MA μ' n ru ki (s + 1) (bput bx s k p 0 (if l = 0 then -1 else m)) m T mg W ls (asav A s bx m T)) ∨ (¬ CP n ru bx s k p ∧ r = w (-1) ∧ MA μ' n ru ki s bx m T mg W ls A))) (some (.int (xI μ4 559 (w 40).toNatClampNeg))) μ4 := fun μ4 o4 hN4 => by
      have h4 := h3.row o4 hN4 (h3.kn.put hc'.2.1) (fun q => by omega)
      exact ⟨h4.hm.1.r 30 559 rfl, in558 h4.hm.1.1 (by omega) (by omega), _, rfl, (o1.wide (fun _ _ => mof_0)).trans ((o3.wide (fun _ _ => mof_r)).trans (o4.wide (fun _ _ => mof_a))), Or.inl ⟨hc, hN4.sz, h4, a3.row o4⟩⟩
    refine ⟨h3.hm.1.r 30 559 rfl, fun q => ?_, fun q => ?_⟩
    · rw [w_inj (by omega) (by omega) (by omega) (by omega)] at q
      subst q
      refine (C_puts (l := 0) (by omega) r558 h3.hm.1.1 h3.nr hc'.2.2.2.2.1 hc'.1 (by omega) hc'.2.2.1 hc'.2.2.2.1 (by omega) (by omega)).conseq (KV.mono ?_)
      rintro μ4 ⟨o4, hN4⟩
      exact tail μ4 o4 hN4
    · rw [w_inj (by omega) (by omega) (by omega) (by omega)] at q
      have q1 : l = 1 := by omega
      subst q1
      refine (C_puts (l := 1) (by omega) r558 h3.hm.1.1 h3.nr hc'.2.2.2.2.1 hc'.1 (by omega) hc'.2.2.1 hc'.2.2.2.1 (by omega) (by omega)).conseq (KV.mono ?_)
      rintro μ4 ⟨o4, hN4⟩
      exact tail μ4 o4 hN4
  · exact ⟨fun _ => ⟨_, rfl, o1.wide (fun _ _ => mof_0), Or.inr ⟨hc, rfl, h1⟩⟩, fun q => absurd rfl q⟩
theorem C_offM (hd : 4 ≤ d) (h : MA μ n ru ki s bx m T mg W ls A) {z : Int} (z1 : -2147483648 ≤ z) (z2 : z < 2147483648) : Call Γ m_MO_off d [.ref 547, .int (w z)] μ (KI (fun r μ' => fr mof μ μ' ∧ ((isH n z ∧ r = w (tmh ru bx s z) ∧ MA μ' n ru ki s (bold bx (tmh ru bx s z) s) m T mg W ls (asav A s bx m T)) ∨ (¬ isH n z ∧ r = w (-1) ∧ MA μ' n ru ki s bx m T mg W ls A)))) := by
  obtain ⟨d, rfl⟩ : ∃ e, d = e + 1 := ⟨d - 1, by omega⟩
  have hR := h.1.hm.1
  refine Call.of ok_MO_off (Nat.le_of_ble_eq_true rfl) (B_MO_off_0 hR.o ?_)
  rintro μ1 rfl
  have h1 := h.th
  have o1 := th0 μ
  generalize sI μ 547 0 (w 0) = μ1 at *
  refine (C_isHoursM (by omega) h1.1.hm z1 z2).conseq (KI.mono ?_)
  rintro r μ2 ⟨rfl, ⟨g1, rfl⟩ | ⟨g1, rfl⟩⟩
  · refine ⟨fun q => absurd q (by decide), fun _ => ?_⟩
    refine (C_rememberM (by omega) h1.1 h1.2).conseq (KV.mono ?_)
    rintro μ3 ⟨o3, h3, a3⟩
    have g1' := g1
    unfold isH at g1'
    have tb := tmhM_bd h3 (z := z) (by omega)
    refine ⟨559, h3.hm.1.r 30 559 rfl, ?_⟩
    refine (C_sumIn (by omega) h3.hm.1.1 r558.sh.1 r558.sh.2.1 h3.nr).conseq (KI.mono ?_)
    rintro r μ4 ⟨rfl, rfl⟩
    refine (C_moreThanBorne (by omega) h3.hm g1'.1 tb.2.2.1 (by omega) (by omega) (by omega)).conseq (KI.mono ?_)
    rintro r μ5 ⟨rfl, rfl⟩
    refine ⟨h3.hm.1.r 30 559 rfl, ?_⟩
    refine (C_ages (v := tmh ru bx s z) (by omega) r558 h3.hm.1.1 h3.nr tb.1 (by omega)).conseq (KV.mono ?_)
    rintro μ6 ⟨o6, hN6⟩
    exact ⟨_, rfl, (o1.wide (fun _ _ => mof_0)).trans ((o3.wide (fun _ _ => mof_r)).trans (o6.wide (fun _ _ => mof_a))), Or.inl ⟨g1, rfl, h3.row o6 hN6 (h3.kn.oldt _) h3.n0, a3.row o6⟩⟩
  · exact ⟨fun _ => ⟨_, rfl, o1.wide (fun _ _ => mof_0), Or.inr ⟨g1, rfl, h1⟩⟩, fun q => absurd rfl q⟩
theorem months_GM {z : Nat} (hn : 0 < n) (hz : m + z ≤ 999) (hd : 1 ≤ d) : ∀ (f k : Nat) (μ : XM), k + f = z → MA μ n ru ki s (mbx bx s m (ru 2) k) (m + k) T mg W ls (mac A bx s m T (ru 2) k) → (∀ μ', fr mof μ μ' → MA μ' n ru ki s (mbx bx s m (ru 2) z) (m + z) T mg W ls (mac A bx s m T (ru 2) z) → Q (some (.int (w ((m + z : Nat) : Int)))) μ') → G Γ m_MO_months (d + 2) (0, 0) Q 23 [.ref 547, .int (w z), .int (w k)] [] μ := by
  intro f
  induction f with
  | zero =>
    intro k μ hk h hQ
    have hR := h.1.hm.1
    obtain ⟨t0, t1, t2⟩ := h.1.nr.z
    refine B_MO_months_23 hR.o (hR.r 30 559 rfl) ?_
    rw [w_lt (by omega) (by omega) (by omega) (by omega), show (w 41).toNatClampNeg = 41 by decide, t1, show m + k = m + z by omega]
    refine ⟨fun q => absurd q (by omega), fun _ => ⟨in558 hR.1 (by omega) (by omega), hQ μ (fr.rf _ _) ?_⟩⟩
    rw [show z = k by omega]
    exact h
  | succ f ih =>
    intro k μ hk h hQ
    have hR := h.1.hm.1
    refine B_MO_months_23 hR.o (hR.r 30 559 rfl) ?_
    rw [w_lt (by omega) (by omega) (by omega) (by omega), w_add]
    refine ⟨fun _ => ?_, fun q => absurd (by omega) q⟩
    refine (C_rememberM (by omega) h.1 h.2).conseq (KV.mono ?_)
    rintro μ3 ⟨o3, h3, a3⟩
    refine ⟨559, h3.hm.1.r 30 559 rfl, ?_⟩
    refine (C_goMonth (by omega) r558 hn h3.hm h3.nr (by omega)).conseq (KV.mono ?_)
    rintro μ4 ⟨o4, hN4⟩
    refine ih (k + 1) μ4 (by omega) ⟨h3.row o4 hN4 (h3.kn.mon _ _) h3.n0, a3.row o4⟩ (fun μ' g1 g2 => hQ μ' ((o3.wide (fun _ _ => mof_r)).trans ((o4.wide (fun _ _ => mof_a)).trans g1)) g2)
theorem C_monthsM (hd : 3 ≤ d) (h : MA μ n ru ki s bx m T mg W ls A) {z : Int} (z1 : -2147483648 ≤ z) (z2 : z < 2147483648) : Call Γ m_MO_months d [.ref 547, .int (w z)] μ (KI (fun r μ' => fr mof μ μ' ∧ ((cpm n m z ∧ r = w ((m + z.toNat : Nat) : Int) ∧ MA μ' n ru ki s (mbx bx s m (ru 2) z.toNat) (m + z.toNat) T mg W ls (mac A bx s m T (ru 2) z.toNat)) ∨ (¬ cpm n m z ∧ r = w (-1) ∧ MA μ' n ru ki s bx m T mg W ls A)))) := by
  obtain ⟨d, rfl⟩ : ∃ e, d = e + 2 := ⟨d - 2, by omega⟩
  have hR := h.1.hm.1
  refine Call.of ok_MO_months (Nat.le_of_ble_eq_true rfl) (B_MO_months_0 hR.o (hR.r 30 559 rfl) ?_)
  rintro μ1 rfl
  have h1 := h.th
  have o1 := th0 μ
  generalize sI μ 547 0 (w 0) = μ1 at *
  refine (C_mayPassM (y := 60) (by omega) h1.1.hm r558 h1.1.nr z1 z2 (by omega) (by omega)).conseq (KI.mono ?_)
  rintro r μ2 ⟨rfl, ⟨g1, rfl⟩ | ⟨g1, rfl⟩⟩
  · refine ⟨fun q => absurd q (by decide), fun _ => ?_⟩
    have ez : w z = w (z.toNat : Int) := by rw [show ((z.toNat : Nat) : Int) = z by omega]
    rw [ez]
    refine months_GM (z := z.toNat) g1.1 (by omega) (by omega) z.toNat 0 _ (by omega) h1 (fun μ' g2 g3 => ⟨_, rfl, (o1.wide (fun _ _ => mof_0)).trans g2, Or.inl ⟨g1, rfl, g3⟩⟩)
  · exact ⟨fun _ => ⟨_, rfl, o1.wide (fun _ _ => mof_0), Or.inr ⟨g1, rfl, h1⟩⟩, fun q => absurd rfl q⟩
end OD
