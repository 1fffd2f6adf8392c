/-! QUESTIONS OF THE CLASS, first lot -/
/-- bits of the places of which f holds -/
def btw (f : Nat → Bool) : Nat → Int32
  | 0 => w 0
  | i + 1 => if f i = true then btw f i ||| (w 1 <<< (w i &&& 31)) else btw f i
theorem btw_cg {f g : Nat → Bool} : ∀ i, (∀ j, j < i → f j = g j) → btw f i = btw g i
  | 0, _ => rfl
  | i + 1, h => by unfold btw; rw [btw_cg i (fun j hj => h j (by omega)), h i (by omega)]
/-- the first of f from i on, fuel k -/
def sch (f : Nat → Bool) : Nat → Nat → Int
  | 0, _ => -1
  | k + 1, i => if f i = true then i else sch f k (i + 1)
def isH (n : Nat) (z : Int) : Prop := 0 < n ∧ 1 ≤ z ∧ z ≤ 99
/-- the sum of all values, so much older and later -/
def sov (ls : Int → Int → Int → Int → Int → Int → Int) (ki bx : Nat → Nat → Int) (m s : Nat) (o l : Int) : Int := fsum (fun i => vw ls ki bx m i o l i) s
def tmh (ru : Nat → Int) (bx : Nat → Nat → Int) (s : Nat) (z : Int) : Int := max 0 (z - brn ru (bsum bx 1 s))
section HQ
variable {Γ : XG} {d h n a s m : Nat} {ru : Nat → Int} {ki bx : Nat → Nat → Int} {ls : Int → Int → Int → Int → Int → Int → Int} {μ : XM} {Q : Option Value → XM → Prop}
theorem C_ruleF (hd : 2 ≤ d) (hR : RF μ) (hH : HO μ h n ru ki) {z : Int} (z1 : -2147483648 ≤ z) (z2 : z < 2147483648) : Call Γ m_FB_rule d [.ref 32, .int (w z)] μ (KI (fun r μ' => μ' = μ ∧ r = if 0 < n ∧ 0 ≤ z ∧ z < 4 then w (ru z.toNat) else w (-1))) := by
  obtain ⟨d, rfl⟩ : ∃ e, d = e + 1 := ⟨d - 1, by omega⟩
  refine Call.of ok_FB_rule (Nat.le_of_ble_eq_true rfl) (B_FB_rule_0 hR.ob ?_)
  refine (C_hasHouse (by omega) hR hH).conseq (KI.mono ?_)
  rintro r μ1 ⟨rfl, ⟨hn, rfl⟩ | ⟨hn, rfl⟩⟩
  · refine ⟨fun q => absurd q (by decide), fun _ => ?_⟩
    rw [w_lt (by omega) (by omega) (by omega) (by omega)]
    refine ⟨fun q => ⟨_, rfl, rfl, by rw [if_neg (by omega)]⟩, fun q => ⟨h, hH.2.1, hH.1.ob, h + 1, hH.1.2.2.1, 4, ?_, ?_⟩⟩
    · have hs := hH.1.1
      have h3 := hs.s
      unfold HS at hs
      exact ar_of h3.2.1 (by omega) hR.1
    · rw [w_lt (by omega) (by omega) (by omega) (by omega)]
      refine ⟨fun q2 => ⟨(hH.rl (by omega) (by omega)).1, _, rfl, rfl, ?_⟩, fun q2 => ⟨_, rfl, rfl, by rw [if_neg (by omega)]⟩⟩
      rw [if_pos (by omega), (hH.rl (by omega) (by omega)).2]
  · exact ⟨fun _ => ⟨_, rfl, rfl, by rw [if_neg (by omega)]⟩, fun q => absurd rfl q⟩
theorem C_kindF (hd : 3 ≤ d) (hR : RF μ) (hH : HO μ h n ru ki) {k z : Int} (k1 : -2147483648 ≤ k) (k2 : k < 2147483648) (z1 : -2147483648 ≤ z) (z2 : z < 2147483648) : Call Γ m_FB_kind d [.ref 32, .int (w k), .int (w z)] μ (KI (fun r μ' => μ' = μ ∧ r = if 0 ≤ k ∧ k < n ∧ 0 ≤ z ∧ z ≤ 4 ∧ ¬ (z = 4 ∧ ki k.toNat 4 = 6) then w (ki k.toNat z.toNat) else w (-1))) := by
  obtain ⟨d, rfl⟩ : ∃ e, d = e + 1 := ⟨d - 1, by omega⟩
  refine Call.of ok_FB_kind (Nat.le_of_ble_eq_true rfl) (B_FB_kind_0 hR.ob ?_)
  refine (C_isKindF (by omega) hR hH k1 k2).conseq (KI.mono ?_)
  rintro r μ1 ⟨rfl, ⟨g1, g2, rfl⟩ | ⟨g1, rfl⟩⟩
  · refine ⟨fun q => absurd q (by decide), fun _ => ?_⟩
    obtain ⟨k1, k2, k3, k4, k5⟩ := hH.kr g1 g2
    unfold KK at k5
    rw [w_lt (by omega) (by omega) (by omega) (by omega), w_lt (by omega) (by omega) (by omega) (by omega), w_inj (by omega) (by omega) (by omega) (by omega)]
    refine ⟨fun q => ⟨_, rfl, rfl, by rw [if_neg (by omega)]⟩, fun q => ⟨fun q2 => ⟨_, rfl, rfl, by rw [if_neg (by omega)]⟩, fun q2 => ⟨h, hH.2.1, hH.1.ob, h + 2, hH.1.2.2.2.1, k1, _, k2, k3 z (by omega) (by omega), ?_⟩⟩⟩
    rw [w_cl (by omega) (by omega), k4 _ (by omega)]
    refine ⟨fun q3 => ?_, fun q3 => ⟨_, rfl, rfl, by rw [if_pos (by omega)]⟩⟩
    subst q3
    rw [show (4 : Int).toNat = 4 from rfl, w_inj (by omega) (by omega) (by omega) (by omega)]
    exact ⟨fun q4 => ⟨_, rfl, rfl, by rw [if_neg (by omega)]⟩, fun q4 => ⟨_, rfl, rfl, by rw [if_pos (by omega)]⟩⟩
  · exact ⟨fun _ => ⟨_, rfl, rfl, by rw [if_neg (by omega)]⟩, fun q => absurd rfl q⟩
theorem C_isHoursF (hd : 2 ≤ d) (hR : RF μ) (hH : HO μ h n ru ki) {z : Int} (z1 : -2147483648 ≤ z) (z2 : z < 2147483648) : Call Γ m_FB_isHours d [.ref 32, .int (w z)] μ (KI (fun r μ' => μ' = μ ∧ ((isH n z ∧ r = w 1) ∨ (¬ isH n z ∧ r = w 0)))) := by
  obtain ⟨d, rfl⟩ : ∃ e, d = e + 1 := ⟨d - 1, by omega⟩
  refine Call.of ok_FB_isHours (Nat.le_of_ble_eq_true rfl) (B_FB_isHours_0 hR.ob ?_)
  refine (C_hasHouse (by omega) hR hH).conseq (KI.mono ?_)
  unfold isH
  rintro r μ1 ⟨rfl, ⟨hn, rfl⟩ | ⟨hn, rfl⟩⟩
  · refine ⟨fun q => absurd q (by decide), fun _ => ?_⟩
    rw [w_lt (by omega) (by omega) (by omega) (by omega), w_lt (by omega) (by omega) (by omega) (by omega)]
    exact ⟨fun q => ⟨_, rfl, rfl, Or.inr ⟨by omega, rfl⟩⟩, fun q => ⟨fun q2 => ⟨_, rfl, rfl, Or.inr ⟨by omega, rfl⟩⟩, fun q2 => ⟨_, rfl, rfl, Or.inl ⟨by omega, rfl⟩⟩⟩⟩
  · exact ⟨fun _ => ⟨_, rfl, rfl, Or.inr ⟨by omega, rfl⟩⟩, fun q => absurd rfl q⟩
theorem tmh_bd (hF : FQ μ h n ru ki s bx m ls) {z : Int} (z2 : z ≤ 99) : 0 ≤ tmh ru bx s z ∧ tmh ru bx s z ≤ 99 := by
  have hb := bs_bd hF.2.2.2.1
  have := brn_bd hF.2.1.2.2.2.2.1 (p := bsum bx 1 s) (by omega) (by omega)
  unfold tmh
  omega
theorem sov_bd (hF : FQ μ h n ru ki s bx m ls) (o l : Int) : 0 ≤ sov ls ki bx m s o l ∧ sov ls ki bx m s o l ≤ 648 := by
  have := fsum_bd (f := fun i => vw ls ki bx m i o l i) (lo := 0) (hi := 81) s (fun j hj => vw_bd hF.2.1 hF.2.2.2.1 hF.2.2.2.2 hj o l j)
  have hs := hF.2.2.2.1.2.1
  unfold sov
  omega
theorem C_costsF (hd : 6 ≤ d) (hF : FQ μ h n ru ki s bx m ls) {z : Int} (z1 : -2147483648 ≤ z) (z2 : z < 2147483648) : Call Γ m_FB_costs d [.ref 32, .int (w z)] μ (KI (fun r μ' => fof qcr μ μ' ∧ ((isH n z ∧ r = w (sov ls ki bx m s 0 0 - sov ls ki bx m s (tmh ru bx s z) 0)) ∨ (¬ isH n z ∧ r = w (-1))))) := by
  obtain ⟨d, rfl⟩ : ∃ e, d = e + 1 := ⟨d - 1, by omega⟩
  refine Call.of ok_FB_costs (Nat.le_of_ble_eq_true rfl) (B_FB_costs_0 hF.1.ob ?_)
  refine (C_isHoursF (by omega) hF.1 hF.2.1 z1 z2).conseq (KI.mono ?_)
  rintro r μ1 ⟨rfl, ⟨hz, rfl⟩ | ⟨hz, rfl⟩⟩
  · refine ⟨fun q => absurd q (by decide), fun _ => ?_⟩
    have hz' := hz
    unfold isH at hz'
    refine (C_valueOfAll (older := 0) (later := 0) (by omega) hF (by omega) (by omega) (by omega) (by omega)).conseq (KI.mono ?_)
    rintro r μ2 ⟨ho, rfl⟩
    have hF2 := hF.sc ho
    refine ⟨67, hF2.1.r 32 9 67 rfl, ?_⟩
    refine (C_hoursTooMany (by omega) hF2.1 hF2.2.1 hF2.2.2.2.1 (by omega) (by omega)).conseq (KI.mono ?_)
    rintro r μ3 ⟨rfl, rfl⟩
    have ht := tmh_bd hF hz'.2.2
    refine (C_valueOfAll (older := tmh ru bx s z) (later := 0) (by omega) hF2 (by omega) (by omega) (by omega) (by omega)).conseq (KI.mono ?_)
    rintro r μ4 ⟨ho2, rfl⟩
    rw [w_sub]
    exact ⟨_, rfl, (ho.trans ho2).wide scr_q, Or.inl ⟨hz, rfl⟩⟩
  · exact ⟨fun _ => ⟨_, rfl, fof.rf _ _, Or.inr ⟨hz, rfl⟩⟩, fun q => absurd rfl q⟩
theorem C_monthlyF (hd : 6 ≤ d) (hF : FQ μ h n ru ki s bx m ls) {z : Int} (z1 : -2147483648 ≤ z) (z2 : z < 2147483648) : Call Γ m_FB_monthly d [.ref 32, .int (w z)] μ (KI (fun r μ' => fof qcr μ μ' ∧ r = if 0 < n ∧ 0 ≤ z ∧ z ≤ 60 then w (sov ls ki bx m s z z) else w (-1))) := by
  obtain ⟨d, rfl⟩ : ∃ e, d = e + 1 := ⟨d - 1, by omega⟩
  refine Call.of ok_FB_monthly (Nat.le_of_ble_eq_true rfl) (B_FB_monthly_0 hF.1.ob ?_)
  refine (C_hasHouse (by omega) hF.1 hF.2.1).conseq (KI.mono ?_)
  rintro r μ1 ⟨rfl, ⟨hn, rfl⟩ | ⟨hn, rfl⟩⟩
  · refine ⟨fun q => absurd q (by decide), fun _ => ?_⟩
    rw [w_lt (by omega) (by omega) (by omega) (by omega), w_lt (by omega) (by omega) (by omega) (by omega)]
    refine ⟨fun q => ⟨_, rfl, fof.rf _ _, by rw [if_neg (by omega)]⟩, fun q => ⟨fun q2 => ⟨_, rfl, fof.rf _ _, by rw [if_neg (by omega)]⟩, fun q2 => ?_⟩⟩
    refine (C_valueOfAll (older := z) (later := z) (by omega) hF (by omega) (by omega) (by omega) (by omega)).conseq (KI.mono ?_)
    rintro r μ2 ⟨ho, rfl⟩
    exact ⟨_, rfl, ho.wide scr_q, by rw [if_pos (by omega)]; rfl⟩
  · exact ⟨fun _ => ⟨_, rfl, fof.rf _ _, by rw [if_neg (by omega)]⟩, fun q => absurd rfl q⟩
theorem full_G (hR : RF μ) (hH : HO μ h n ru ki) {z : Int} (z1 : 1 ≤ z) (z2 : z ≤ 99) : ∀ (k i : Nat), (i : Int) + k = ru 0 + 1 → Q (some (.int (w (sch (fun p => decide (z ≤ brn ru p)) k i)))) μ → G Γ m_FB_full (d + 2) (0, 0) Q 12 [.ref 32, .int (w z), .int (w i)] [] μ := by
  have hu := hH.2.2.2.2.1
  have hu' := hu
  unfold RU at hu'
  have h0 := hH.rl (j := 0) (by omega) (by omega)
  intro k
  induction k with
  | zero =>
    intro i hi hQ
    refine B_FB_full_12 hR.ob hH.2.1 hH.1.ob hH.1.2.2.1 ⟨h0.1, ?_⟩
    rw [h0.2, show (0 : Int).toNat = 0 from rfl, w_lt (by omega) (by omega) (by omega) (by omega)]
    exact ⟨fun _ => hQ, fun q => absurd (by omega) q⟩
  | succ k ih =>
    intro i hi hQ
    refine B_FB_full_12 hR.ob hH.2.1 hH.1.ob hH.1.2.2.1 ⟨h0.1, ?_⟩
    rw [h0.2, show (0 : Int).toNat = 0 from rfl, w_lt (by omega) (by omega) (by omega) (by omega)]
    refine ⟨fun q => absurd q (by omega), fun _ => ?_⟩
    refine (C_borneHours (by omega) hR hH (by omega) (by omega)).conseq (KI.mono ?_)
    rintro r μ1 ⟨rfl, rfl⟩
    have hb := brn_bd hu (p := i) (by omega) (by omega)
    rw [w_lt (by omega) (by omega) (by omega) (by omega), w_add]
    unfold sch at hQ
    refine ⟨fun q => ih (i + 1) (by omega) ?_, fun q => ?_⟩
    · rw [if_neg (by simp; omega)] at hQ; exact hQ
    · rw [if_pos (by simp; omega)] at hQ; exact hQ
theorem C_fullF (hd : 3 ≤ d) (hR : RF μ) (hH : HO μ h n ru ki) {z : Int} (z1 : -2147483648 ≤ z) (z2 : z < 2147483648) : Call Γ m_FB_full d [.ref 32, .int (w z)] μ (KI (fun r μ' => fof qcr μ μ' ∧ ((isH n z ∧ r = w (sch (fun p => decide (z ≤ brn ru p)) (ru 0 + 1).toNat 0)) ∨ (¬ isH n z ∧ r = w (-1))))) := by
  obtain ⟨d, rfl⟩ : ∃ e, d = e + 3 := ⟨d - 3, by omega⟩
  refine Call.of ok_FB_full (Nat.le_of_ble_eq_true rfl) (B_FB_full_0 hR.ob ?_)
  refine (C_isHoursF (by omega) hR hH z1 z2).conseq (KI.mono ?_)
  have hu := hH.2.2.2.2.1
  unfold RU at hu
  rintro r μ1 ⟨rfl, ⟨hz, rfl⟩ | ⟨hz, rfl⟩⟩
  · refine ⟨fun q => absurd q (by decide), fun _ => ?_⟩
    have hz' := hz
    unfold isH at hz'
    exact full_G (d := d + 1) hR hH (by omega) (by omega) (ru 0 + 1).toNat 0 (by omega) ⟨_, rfl, fof.rf _ _, Or.inl ⟨hz, rfl⟩⟩
  · exact ⟨fun _ => ⟨_, rfl, fof.rf _ _, Or.inr ⟨hz, rfl⟩⟩, fun q => absurd rfl q⟩
theorem keep_G {v o : Int} (v1 : 0 ≤ v) (v2 : v ≤ 9) (o1 : 0 ≤ o) (o2 : o ≤ 99) : ∀ (k i : Nat) (μ : XM), i + k = s → FQ μ h n ru ki s bx m ls → (∀ μ', fof scr μ μ' → Q (some (.int (btw (fun p => decide (v ≤ pw ls ki (bx (s - 1 - p) 0) (bx (s - 1 - p) 1) (min 99 (bx (s - 1 - p) 2 + o)) ((s - 1 - p : Nat) : Int) m)) s))) μ') → G Γ m_FB_keep (d + 4) (0, 0) Q 36 [.ref 32, jk, .int (w v), .int (w o), .int (btw (fun p => decide (v ≤ pw ls ki (bx (s - 1 - p) 0) (bx (s - 1 - p) 1) (min 99 (bx (s - 1 - p) 2 + o)) ((s - 1 - p : Nat) : Int) m)) i), .int (w i)] [] μ := by
  intro k
  induction k with
  | zero =>
    intro i μ hi hF hQ
    have hs := hF.2.2.2.1.2.1
    refine B_FB_keep_36 hF.1.ob (hF.1.r 32 9 67 rfl) hF.2.2.2.1.1.ob ?_
    rw [hF.2.2.2.1.2.2.2.1, w_lt (by omega) (by omega) (by omega) (by omega)]
    refine ⟨fun q => absurd q (by omega), fun _ => ?_⟩
    rw [show i = s by omega]
    exact hQ μ (fof.rf _ _)
  | succ k ih =>
    intro i μ hi hF hQ
    have hs := hF.2.2.2.1.2.1
    refine B_FB_keep_36 hF.1.ob (hF.1.r 32 9 67 rfl) hF.2.2.2.1.1.ob ?_
    rw [hF.2.2.2.1.2.2.2.1, w_lt (by omega) (by omega) (by omega) (by omega)]
    refine ⟨fun _ => ?_, fun q => absurd (by omega) q⟩
    refine (C_indexOf (by omega) hF.2.2.2.1).conseq (KI.mono ?_)
    rintro r μ1 ⟨rfl, rfl⟩
    refine ⟨hF.1.r 32 9 67 rfl, ?_⟩
    rw [show (s : Int) - 1 - i = ((s - 1 - i : Nat) : Int) by omega]
    have hk := hF.2.2.2.2 (s - 1 - i) (by omega)
    refine (C_portionWorth (i := s - 1 - i) (older := o) (later := 0) (d := d + 3) (by omega) hF.1 hF.2.1 hF.2.2.1 hF.2.2.2.1 (by omega) (by omega) hk o1 (by omega) (by omega) (by omega) (by omega) (by omega)).conseq (KI.mono ?_)
    rintro r μ2 ⟨ho, rfl⟩
    have hbb := hF.2.2.2.1.bb (s - 1 - i) (by omega)
    unfold BB at hbb
    have hp := pw_bd (ls := ls) (k := bx (s - 1 - i) 0) (n := bx (s - 1 - i) 1) (a := min 99 (bx (s - 1 - i) 2 + o)) (y := ((s - 1 - i : Nat) : Int)) (m := m + 0) (hF.2.1.kr (k := bx (s - 1 - i) 0) (by omega) hk).2.2.2.2
    rw [w_lt (by omega) (by omega) (by omega) (by omega), w_add, show (m : Int) + 0 = m by omega]
    rw [show (m : Int) + 0 = m by omega] at hp
    have := ih (i + 1) μ2 (by omega) (hF.sc ho) (fun μ3 g => hQ μ3 (ho.trans g))
    refine ⟨fun q => ?_, fun q => ?_⟩
    · rw [btw, if_neg (by simp; omega)] at this; exact this
    · rw [btw, if_pos (by simp; omega)] at this; exact this
theorem C_keepF (hd : 5 ≤ d) (hF : FQ μ h n ru ki s bx m ls) {z v : Int} (z1 : -2147483648 ≤ z) (z2 : z < 2147483648) (v1 : -2147483648 ≤ v) (v2 : v < 2147483648) : Call Γ m_FB_keep d [.ref 32, .int (w z), .int (w v)] μ (KI (fun r μ' => fof qcr μ μ' ∧ (((isH n z ∧ 0 ≤ v ∧ v ≤ 9) ∧ r = btw (fun p => decide (v ≤ pw ls ki (bx (s - 1 - p) 0) (bx (s - 1 - p) 1) (min 99 (bx (s - 1 - p) 2 + tmh ru bx s z)) ((s - 1 - p : Nat) : Int) m)) s) ∨ (¬ (isH n z ∧ 0 ≤ v ∧ v ≤ 9) ∧ r = w (-1))))) := by
  obtain ⟨d, rfl⟩ : ∃ e, d = e + 5 := ⟨d - 5, by omega⟩
  refine Call.of ok_FB_keep (Nat.le_of_ble_eq_true rfl) (B_FB_keep_0 hF.1.ob ?_)
  refine (C_isHoursF (by omega) hF.1 hF.2.1 z1 z2).conseq (KI.mono ?_)
  rintro r μ1 ⟨rfl, ⟨hz, rfl⟩ | ⟨hz, rfl⟩⟩
  · refine ⟨fun q => absurd q (by decide), fun _ => ?_⟩
    have hz' := hz
    unfold isH at hz'
    rw [w_lt (by omega) (by omega) (by omega) (by omega), w_lt (by omega) (by omega) (by omega) (by omega)]
    refine ⟨fun q => ⟨_, rfl, fof.rf _ _, Or.inr ⟨by omega, rfl⟩⟩, fun q => ⟨fun q2 => ⟨_, rfl, fof.rf _ _, Or.inr ⟨by omega, rfl⟩⟩, fun q2 => ?_⟩⟩
    refine ⟨67, hF.1.r 32 9 67 rfl, ?_⟩
    refine (C_hoursTooMany (by omega) hF.1 hF.2.1 hF.2.2.2.1 (by omega) (by omega)).conseq (KI.mono ?_)
    rintro r μ3 ⟨rfl, rfl⟩
    have ht := tmh_bd hF hz'.2.2
    exact keep_G (d := d + 1) (o := tmh ru bx s z) (by omega) (by omega) (by omega) (by omega) s 0 μ3 (by omega) hF (fun μ' g => ⟨_, rfl, g.wide scr_q, Or.inl ⟨⟨hz, by omega, by omega⟩, rfl⟩⟩)
  · exact ⟨fun _ => ⟨_, rfl, fof.rf _ _, Or.inr ⟨fun q => hz q.1, rfl⟩⟩, fun q => absurd rfl q⟩
end HQ
