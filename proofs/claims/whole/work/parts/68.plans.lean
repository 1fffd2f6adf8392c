/-! PLANS -/
theorem shplan : ∀ p, p < 5 → shp (506 + 9 * p) = some (.inl 7) ∧ shp (507 + 9 * p) = some (.inr (0, 16)) ∧ shp (508 + 9 * p) = some (.inr (0, 16)) ∧ shp (509 + 9 * p) = some (.inr (0, 16)) ∧ shp (510 + 9 * p) = some (.inr (0, 16)) := by decide
theorem sh66 : shp 66 = some (.inr (6, 5)) ∧ shp 65 = some (.inr (5, 5)) := ⟨rfl, rfl⟩
def PV (pv : Nat → Nat → Int) (i : Nat) : Prop := 0 ≤ pv i 0 ∧ pv i 0 ≤ 4 ∧ 0 ≤ pv i 1 ∧ pv i 1 ≤ 99 ∧ -1 ≤ pv i 2 ∧ pv i 2 ≤ 9 ∧ -1 ≤ pv i 3 ∧ pv i 3 ≤ 1
/-- plan p: z steps pv -/
def PL (μ : XM) (p z : Nat) (pv : Nat → Nat → Int) : Prop := p < 5 ∧ z ≤ 16 ∧ xI μ (506 + 9 * p) 4 = w z ∧ ∀ i, i < z → (xI μ (507 + 9 * p) i = w (pv i 0) ∧ xI μ (508 + 9 * p) i = w (pv i 1) ∧ xI μ (509 + 9 * p) i = w (pv i 2) ∧ xI μ (510 + 9 * p) i = w (pv i 3)) ∧ PV pv i
theorem PL.fof {P : Nat → Prop} {μ μ' : XM} {p z : Nat} {pv : Nat → Nat → Int} (h : PL μ p z pv) (ho : fof P μ μ') (hp : ∀ c, 506 + 9 * p ≤ c → c ≤ 510 + 9 * p → ¬ P c) : PL μ' p z pv := by
  obtain ⟨a1, a2, a3, a4⟩ := h
  refine ⟨a1, a2, by rw [ho.1 _ (hp _ (by omega) (by omega))]; exact a3, fun i hi => ?_⟩
  rw [ho.1 _ (hp (507 + 9 * p) (by omega) (by omega)), ho.1 _ (hp (508 + 9 * p) (by omega) (by omega)), ho.1 _ (hp (509 + 9 * p) (by omega) (by omega)), ho.1 _ (hp (510 + 9 * p) (by omega) (by omega))]
  exact a4 i hi
section PN
variable {Γ : XG} {d h n s m T a p z : Nat} {ru : Nat → Int} {ki bx mg pv : Nat → Nat → Int} {ls : Int → Int → Int → Int → Int → Int → Int} {μ : XM} {Q : Option Value → XM → Prop} {A : AA}
theorem PL.o (hP : PL μ p z pv) (hR : RF μ) : zob μ (506 + 9 * p) 7 := ob_of (shplan p hP.1).1 (by have := hP.1; omega) hR.1
theorem PL.rr (hP : PL μ p z pv) (hR : RF μ) : xR μ (506 + 9 * p) 0 = some (507 + 9 * p) ∧ xR μ (506 + 9 * p) 1 = some (508 + 9 * p) ∧ xR μ (506 + 9 * p) 2 = some (509 + 9 * p) ∧ xR μ (506 + 9 * p) 3 = some (510 + 9 * p) := (hR.2.2.2.2.2.2.2 p hP.1).2.2.2
theorem PL.ib (hP : PL μ p z pv) (hR : RF μ) {q : Nat} (h1 : 1 ≤ q) (h4 : q ≤ 4) {i : Nat} (hi : i < z) : inb μ 0 (506 + q + 9 * p) (w i) := by
  have hp := hP.1
  obtain ⟨-, s1, s2, s3, s4⟩ := shplan p hp
  have hz := hP.2.1
  rcases (show q = 1 ∨ q = 2 ∨ q = 3 ∨ q = 4 by omega) with rfl | rfl | rfl | rfl
  · exact inb_of s1 (by omega) hR.1 (by omega) (by omega)
  · exact inb_of s2 (by omega) hR.1 (by omega) (by omega)
  · exact inb_of s3 (by omega) hR.1 (by omega) (by omega)
  · exact inb_of s4 (by omega) hR.1 (by omega) (by omega)
theorem C_isPlanF (hd : 1 ≤ d) (hR : RF μ) {k : Nat} (hk : xI μ 32 7 = w k) (hk4 : k ≤ 4) {y : Int} (y1 : -2147483648 ≤ y) (y2 : y < 2147483648) : Call Γ m_FB_isPlan d [.ref 32, .int (w y)] μ (KI (fun r μ' => μ' = μ ∧ ((0 ≤ y ∧ y < k ∧ r = w 1) ∨ (¬ (0 ≤ y ∧ y < k) ∧ r = w 0)))) := by
  obtain ⟨d, rfl⟩ : ∃ e, d = e + 1 := ⟨d - 1, by omega⟩
  refine Call.of ok_FB_isPlan (Nat.le_of_ble_eq_true rfl) (B_FB_isPlan_0 hR.ob ?_)
  rw [hk, w_lt (by omega) (by omega) (by omega) (by omega), w_lt (by omega) (by omega) (by omega) (by omega)]
  exact ⟨fun q => ⟨_, rfl, rfl, Or.inr ⟨by omega, rfl⟩⟩, fun q => ⟨fun q2 => ⟨_, rfl, rfl, Or.inl ⟨by omega, q2, rfl⟩⟩, fun q2 => ⟨_, rfl, rfl, Or.inr ⟨by omega, rfl⟩⟩⟩⟩
theorem RF.pl (hR : RF μ) {y : Int} (h0 : 0 ≤ y) (h5 : y < 5) : inb μ 6 66 (w y) ∧ xR μ 66 (w y).toNatClampNeg = some (506 + 9 * y.toNat) := ⟨inb_of sh66.1 (by omega) hR.1 h0 (by omega), by rw [w_cl (by omega) (by omega)]; exact (hR.2.2.2.2.2.2.2 y.toNat (by omega)).2.2.1⟩
theorem C_stepF (hd : 2 ≤ d) (hR : RF μ) {k : Nat} (hk : xI μ 32 7 = w k) (hk4 : k ≤ 4) {pz : Nat → Nat} {pv : Nat → Nat → Nat → Int} (hP : ∀ p, p < k → PL μ p (pz p) (pv p)) {y i q : Int} (y1 : -2147483648 ≤ y) (y2 : y < 2147483648) (i1 : -2147483648 ≤ i) (i2 : i < 2147483648) (q1 : -2147483648 ≤ q) (q2 : q < 2147483648) : Call Γ m_FB_step d [.ref 32, .int (w y), .int (w i), .int (w q)] μ (KI (fun r μ' => μ' = μ ∧ r = if 0 ≤ y ∧ y < k ∧ 0 ≤ i ∧ i < pz y.toNat ∧ 0 ≤ q ∧ q ≤ 3 then w (pv y.toNat i.toNat q.toNat) else w (-1000000))) := by
  obtain ⟨d, rfl⟩ : ∃ e, d = e + 1 := ⟨d - 1, by omega⟩
  refine Call.of ok_FB_step (Nat.le_of_ble_eq_true rfl) (B_FB_step_0 hR.ob ?_)
  refine (C_isPlanF (by omega) hR hk hk4 y1 y2).conseq (KI.mono ?_)
  rintro r μ1 ⟨rfl, ⟨g1, g2, rfl⟩ | ⟨g1, rfl⟩⟩
  · refine ⟨fun q => absurd q (by decide), fun _ => ?_⟩
    have hp := hP y.toNat (by omega)
    have hz := hp.2.1
    have hy := hR.pl g1 (by omega)
    rw [w_lt (by omega) (by omega) (by omega) (by omega)]
    refine ⟨fun e => ⟨_, rfl, rfl, by rw [if_neg (by omega)]⟩, fun e => ⟨66, hR.r 32 6 66 rfl, hy.1, _, hy.2, hp.o hR, ?_⟩⟩
    rw [hp.2.2.1, w_lt (by omega) (by omega) (by omega) (by omega), w_lt (by omega) (by omega) (by omega) (by omega), w_lt (by omega) (by omega) (by omega) (by omega)]
    refine ⟨fun e2 => ⟨fun e3 => ⟨_, rfl, rfl, by rw [if_neg (by omega)]⟩, fun e3 => ⟨fun e4 => ⟨_, rfl, rfl, by rw [if_neg (by omega)]⟩, fun e4 => ⟨hy.1, _, hy.2, hp.o hR, ?_⟩⟩⟩, fun e2 => ⟨_, rfl, rfl, by rw [if_neg (by omega)]⟩⟩
    obtain ⟨i, rfl⟩ : ∃ j : Nat, i = j := ⟨i.toNat, by omega⟩
    obtain ⟨r0, r1, r2, r3⟩ := hp.rr hR
    obtain ⟨⟨v0, v1, v2, v3⟩, hv⟩ := hp.2.2.2 i (by omega)
    obtain ⟨d, rfl⟩ : ∃ e, d = e + 1 := ⟨d - 1, by omega⟩
    refine Call.of ok_Pl_told (Nat.le_of_ble_eq_true rfl) (B_Pl_told_0 (hp.o hR) r3 r2 r1 r0 ?_)
    rw [w_cln (by omega), w_inj (by omega) (by omega) (by omega) (by omega), w_inj (by omega) (by omega) (by omega) (by omega), w_inj (by omega) (by omega) (by omega) (by omega), v0, v1, v2, v3, if_pos (by omega)]
    refine ⟨fun e5 => ⟨hp.ib hR (q := 1) (by omega) (by omega) (by omega), _, rfl, _, rfl, rfl, by rw [e5]; rfl⟩, fun e5 => ⟨fun e6 => ⟨hp.ib hR (q := 2) (by omega) (by omega) (by omega), _, rfl, _, rfl, rfl, by rw [e6]; rfl⟩, fun e6 => ⟨fun e7 => ⟨hp.ib hR (q := 3) (by omega) (by omega) (by omega), _, rfl, _, rfl, rfl, by rw [e7]; rfl⟩, fun e7 => ⟨hp.ib hR (q := 4) (by omega) (by omega) (by omega), _, rfl, _, rfl, rfl, by rw [show q = 3 by omega]; rfl⟩⟩⟩⟩
  · exact ⟨fun _ => ⟨_, rfl, rfl, by rw [if_neg (by omega)]⟩, fun q => absurd rfl q⟩
/-- step i can be, with these boxes and this month -/
def stb (n : Nat) (ru : Nat → Int) (bx : Nat → Nat → Int) (s m : Nat) (pv : Nat → Nat → Int) (i : Nat) : Prop :=
  (pv i 0 = 0 ∧ CP n ru bx s (pv i 1) (pv i 2)) ∨ (pv i 0 = 1 ∧ pv i 1 < s) ∨ (pv i 0 = 2 ∧ pv i 1 < s ∧ bx (s - 1 - (pv i 1).toNat) 3 = -1) ∨ (pv i 0 = 3 ∧ 1 ≤ pv i 1 ∧ m + pv i 1 ≤ 999) ∨ (pv i 0 = 4 ∧ 1 ≤ pv i 1)
theorem C_canBe (hd : 4 ≤ d) (hR : RF μ) (hH : HO μ h n ru ki) (hPi : PF μ a s bx m) (hP : PL μ p z pv) {i : Nat} (hi : i < z) : Call Γ m_FB_canBe d [.ref 32, .ref a, .ref (506 + 9 * p), .int (w i)] μ (KI (fun r μ' => μ' = μ ∧ ((stb n ru bx s m pv i ∧ r = w 1) ∨ (¬ stb n ru bx s m pv i ∧ r = w 0)))) := by
  obtain ⟨d, rfl⟩ : ∃ e, d = e + 1 := ⟨d - 1, by omega⟩
  have hp := hP.1
  have hz := hP.2.1
  have hs := hPi.2.1
  have hm := hPi.2.2.1
  obtain ⟨r0, r1, r2, r3⟩ := hP.rr hR
  obtain ⟨⟨v0, v1, v2, v3⟩, hv⟩ := hP.2.2.2 i hi
  unfold PV at hv
  refine Call.of ok_FB_canBe (Nat.le_of_ble_eq_true rfl) (B_FB_canBe_0 (hP.o hR) r1 r0 r2 hR.ob hPi.1.ob ?_)
  rw [w_cln (by omega), v0, v1, v2]
  unfold stb
  refine ⟨hP.ib hR (q := 2) (by omega) (by omega) hi, hP.ib hR (q := 1) (by omega) (by omega) hi, fun e => ?_, fun e => ⟨hP.ib hR (q := 3) (by omega) (by omega) hi, ?_⟩, fun e => ?_, fun e => ?_, fun e => ?_⟩
  · rw [w_lt (by omega) (by omega) (by omega) (by omega), w_lt (by omega) (by omega) (by omega) (by omega)] at e
    rw [w_lt (by omega) (by omega) (by omega) (by omega)]
    exact ⟨fun q => ⟨_, rfl, rfl, Or.inr ⟨by omega, rfl⟩⟩, fun q => ⟨_, rfl, rfl, Or.inl ⟨by omega, rfl⟩⟩⟩
  · rw [w_inj (by omega) (by omega) (by omega) (by omega)] at e
    refine (C_canPutF (by omega) hR hH hPi (by omega) (by omega) (by omega) (by omega)).conseq (KI.mono ?_)
    rintro r μ1 ⟨rfl, ⟨hc, rfl⟩ | ⟨hc, rfl⟩⟩
    · exact ⟨Or.inr rfl, _, rfl, rfl, Or.inl ⟨Or.inl ⟨e, hc⟩, rfl⟩⟩
    · exact ⟨Or.inl rfl, _, rfl, rfl, Or.inr ⟨fun q => by rcases q with q | q | q | q | q <;> first | exact hc q.2 | omega, rfl⟩⟩
  · rw [w_inj (by omega) (by omega) (by omega) (by omega)] at e
    refine (C_hasPlace (by omega) hPi (by omega) (by omega)).conseq (KI.mono ?_)
    rintro r μ1 ⟨rfl, ⟨g1, g2, rfl⟩ | ⟨g1, rfl⟩⟩
    · exact ⟨Or.inr rfl, _, rfl, rfl, Or.inl ⟨Or.inr (Or.inl ⟨e, g2⟩), rfl⟩⟩
    · exact ⟨Or.inl rfl, _, rfl, rfl, Or.inr ⟨by omega, rfl⟩⟩
  · rw [w_inj (by omega) (by omega) (by omega) (by omega)] at e
    refine (C_hasPlace (by omega) hPi (by omega) (by omega)).conseq (KI.mono ?_)
    rintro r μ1 ⟨rfl, ⟨g1, g2, rfl⟩ | ⟨g1, rfl⟩⟩
    · refine ⟨fun q => absurd q (by decide), fun _ => ?_⟩
      refine (C_indexOf (by omega) hPi).conseq (KI.mono ?_)
      rintro r μ1 ⟨rfl, rfl⟩
      rw [show (s : Int) - 1 - pv i 1 = ((s - 1 - (pv i 1).toNat : Nat) : Int) by omega]
      refine (C_hasLabel (by omega) hPi (by omega)).conseq (KI.mono ?_)
      rintro r μ1 ⟨rfl, ⟨hl, rfl⟩ | ⟨hl, rfl⟩⟩
      · exact ⟨fun q => absurd q (by decide), fun _ => ⟨_, rfl, rfl, Or.inr ⟨by omega, rfl⟩⟩⟩
      · exact ⟨fun _ => ⟨_, rfl, rfl, Or.inl ⟨by omega, rfl⟩⟩, fun q => absurd rfl q⟩
    · exact ⟨fun _ => ⟨_, rfl, rfl, Or.inr ⟨by omega, rfl⟩⟩, fun q => absurd rfl q⟩
  · rw [w_inj (by omega) (by omega) (by omega) (by omega)] at e
    rw [w_lt (by omega) (by omega) (by omega) (by omega), hPi.2.2.2.2.1, w_add, w_lt (by omega) (by omega) (by omega) (by omega)]
    exact ⟨fun q => ⟨_, rfl, rfl, Or.inr ⟨by omega, rfl⟩⟩, fun q => ⟨fun q2 => ⟨_, rfl, rfl, Or.inr ⟨by omega, rfl⟩⟩, fun q2 => ⟨_, rfl, rfl, Or.inl ⟨by omega, rfl⟩⟩⟩⟩
/-- after step i: how many boxes, which, the month -/
def ga0 (s : Nat) (pv : Nat → Nat → Int) (i : Nat) : Nat := if pv i 0 = 0 then s + 1 else if pv i 0 = 1 then s - 1 else s
def ga1 (ru : Nat → Int) (bx : Nat → Nat → Int) (s m : Nat) (pv : Nat → Nat → Int) (i : Nat) : Nat → Nat → Int :=
  if pv i 0 = 0 then bput bx s (pv i 1) (pv i 2) 0 (if pv i 3 = 1 then m else -1) else if pv i 0 = 1 then bcut bx (s - 1 - (pv i 1).toNat) else if pv i 0 = 2 then bset bx (s - 1 - (pv i 1).toNat) 3 m else if pv i 0 = 3 then mbx bx s m (ru 2) (pv i 1).toNat else bold bx (tmh ru bx s (pv i 1)) s
def ga2 (m : Nat) (pv : Nat → Nat → Int) (i : Nat) : Nat := if pv i 0 = 3 then m + (pv i 1).toNat else m
theorem goApart_G (hh0 : 0 ≤ ru 2) (hh9 : ru 2 ≤ 99) {v : Nat} (hv : m + v ≤ 999) : ∀ (f k : Nat) (μ : XM), k + f = v → RF μ → HO μ h n ru ki → PF μ 72 s (mbx bx s m (ru 2) k) (m + k) → KN (mbx bx s m (ru 2) k) s n → (∀ μ', off 72 77 μ μ' → PF μ' 72 s (mbx bx s m (ru 2) v) (m + v) → KN (mbx bx s m (ru 2) v) s n → Q none μ') → G Γ m_FB_goApart (d + 3) (0, 0) Q 122 [.ref 32, jk, jk, .int (w v), .int (w k)] [] μ := by
  intro f
  induction f with
  | zero =>
    intro k μ hk hR hH hPi hK hQ
    refine B_FB_goApart_122 hR.ob (hR.r 32 10 72 rfl) hH.2.1 hH.1.ob hH.1.2.2.1 hPi.1.ob ?_
    rw [w_lt (by omega) (by omega) (by omega) (by omega)]
    refine ⟨fun q => absurd q (by omega), fun _ => ?_⟩
    have e : k = v := by omega
    subst e
    exact hQ μ (off.rf _ _ _) hPi hK
  | succ f ih =>
    intro k μ hk hR hH hPi hK hQ
    have hr := hH.rl (j := 2) (by omega) (by omega)
    refine B_FB_goApart_122 hR.ob (hR.r 32 10 72 rfl) hH.2.1 hH.1.ob hH.1.2.2.1 hPi.1.ob ?_
    rw [w_lt (by omega) (by omega) (by omega) (by omega), hr.2, show (2 : Int).toNat = 2 from rfl, w_add]
    refine ⟨fun _ => ⟨hr.1, ?_⟩, fun q => absurd (by omega) q⟩
    refine (C_passMonth (by omega) hPi (by omega) (by omega) (by omega)).conseq (KV.mono ?_)
    rintro μ2 ⟨ho2, hP2⟩
    have g : fof (fun c => 72 ≤ c ∧ c < 77) μ μ2 := ho2.fof (fun c c1 c2 => ⟨c1, c2⟩)
    exact ih (k + 1) μ2 (by omega) (hR.of g.2.2.1 g.2.2.2) (hH.fof g (fun c c1 c2 => by omega)) hP2 (hK.mon _ _) (fun μ3 g1 g2 g3 => hQ μ3 (ho2.trans g1) g2 g3)
theorem C_goApart (hd : 4 ≤ d) (hR : RF μ) (hH : HO μ h n ru ki) (hPi : PF μ 72 s bx m) (hK : KN bx s n) (hm9 : m ≤ 999) (hP : PL μ p z pv) {i : Nat} (hi : i < z) (hb : stb n ru bx s m pv i) : Call Γ m_FB_goApart d [.ref 32, .ref (506 + 9 * p), .int (w i)] μ (KV (fun μ' => off 72 77 μ μ' ∧ PF μ' 72 (ga0 s pv i) (ga1 ru bx s m pv i) (ga2 m pv i) ∧ KN (ga1 ru bx s m pv i) (ga0 s pv i) n ∧ ga2 m pv i ≤ 999)) := by
  obtain ⟨d, rfl⟩ : ∃ e, d = e + 4 := ⟨d - 4, by omega⟩
  have hp := hP.1
  have hz := hP.2.1
  have hs := hPi.2.1
  have hn := hH.2.2.1
  have hu := hH.2.2.2.2.1
  unfold RU at hu
  obtain ⟨r0, r1, r2, r3⟩ := hP.rr hR
  obtain ⟨⟨v0, v1, v2, v3⟩, hv⟩ := hP.2.2.2 i hi
  unfold PV at hv
  refine Call.of ok_FB_goApart (Nat.le_of_ble_eq_true rfl) (B_FB_goApart_0 (hP.o hR) r1 r0 hR.ob (hR.r 32 10 72 rfl) hPi.1.ob r2 r3 ?_)
  rw [w_cln (by omega), v0, v1, v2, v3]
  unfold stb at hb
  refine ⟨hP.ib hR (q := 2) (by omega) (by omega) hi, hP.ib hR (q := 1) (by omega) (by omega) hi, fun e => ?_, fun e => ⟨hP.ib hR (q := 3) (by omega) (by omega) hi, hP.ib hR (q := 4) (by omega) (by omega) hi, ?_⟩, fun e => ?_, fun e => ?_, fun e => ?_⟩
  · rw [w_lt (by omega) (by omega) (by omega) (by omega), w_lt (by omega) (by omega) (by omega) (by omega)] at e
    have e0 : ga0 s pv i = s := by unfold ga0; rw [if_neg (by omega), if_neg (by omega)]
    have e1 : ga1 ru bx s m pv i = bold bx (tmh ru bx s (pv i 1)) s := by unfold ga1; rw [if_neg (by omega), if_neg (by omega), if_neg (by omega), if_neg (by omega)]
    have e2 : ga2 m pv i = m := by unfold ga2; rw [if_neg (by omega)]
    rw [e0, e1, e2]
    refine (C_hoursTooMany (by omega) hR hH hPi (by omega) (by omega)).conseq (KI.mono ?_)
    rintro r μ1 ⟨rfl, rfl⟩
    have hbb := bs_bd hPi
    have hbr := brn_bd hH.2.2.2.2.1 (p := bsum bx 1 s) (by omega) (by omega)
    refine (C_growOlder (n := tmh ru bx s (pv i 1)) (by omega) hPi (by unfold tmh; omega) (by unfold tmh; omega)).conseq (KV.mono ?_)
    rintro μ2 ⟨ho, hP2⟩
    exact ⟨rfl, ho, hP2, hK.old _ _, hm9⟩
  · rw [w_inj (by omega) (by omega) (by omega) (by omega)] at e
    have hc : CP n ru bx s (pv i 1) (pv i 2) := by
      rcases hb with q | q | q | q | q <;> first | exact q.2 | omega
    have e0 : ga0 s pv i = s + 1 := by unfold ga0; rw [if_pos e]
    have e1 : ga1 ru bx s m pv i = bput bx s (pv i 1) (pv i 2) 0 (if pv i 3 = 1 then m else -1) := by unfold ga1; rw [if_pos e]
    have e2 : ga2 m pv i = m := by unfold ga2; rw [if_neg (by omega)]
    rw [e0, e1, e2]
    unfold CP at hc
    refine ⟨fun q => ?_, fun q => ?_⟩
    · rw [w_inj (by omega) (by omega) (by omega) (by omega)] at q
      rw [if_pos q, hPi.2.2.2.2.1]
      refine (C_push (by omega) hPi (by omega) (by unfold BB; simp; omega)).conseq (KV.mono ?_)
      rintro μ2 ⟨ho, hP2⟩
      exact ⟨rfl, ho, hP2, hK.put hc.2.1, hm9⟩
    · rw [w_inj (by omega) (by omega) (by omega) (by omega)] at q
      rw [if_neg q]
      refine (C_push (by omega) hPi (by omega) (by unfold BB; simp; omega)).conseq (KV.mono ?_)
      rintro μ2 ⟨ho, hP2⟩
      exact ⟨rfl, ho, hP2, hK.put hc.2.1, hm9⟩
  · rw [w_inj (by omega) (by omega) (by omega) (by omega)] at e
    have e0 : ga0 s pv i = s - 1 := by unfold ga0; rw [if_neg (by omega), if_pos e]
    have e1 : ga1 ru bx s m pv i = bcut bx (s - 1 - (pv i 1).toNat) := by unfold ga1; rw [if_neg (by omega), if_pos e]
    have e2 : ga2 m pv i = m := by unfold ga2; rw [if_neg (by omega)]
    rw [e0, e1, e2]
    refine (C_indexOf (by omega) hPi).conseq (KI.mono ?_)
    rintro r μ1 ⟨rfl, rfl⟩
    rw [show (s : Int) - 1 - pv i 1 = ((s - 1 - (pv i 1).toNat : Nat) : Int) by omega]
    refine (C_remove (by omega) hPi (by omega)).conseq (KV.mono ?_)
    rintro μ2 ⟨ho, hP2⟩
    exact ⟨rfl, ho, hP2, hK.cut _, hm9⟩
  · rw [w_inj (by omega) (by omega) (by omega) (by omega)] at e
    have e0 : ga0 s pv i = s := by unfold ga0; rw [if_neg (by omega), if_neg (by omega)]
    have e1 : ga1 ru bx s m pv i = bset bx (s - 1 - (pv i 1).toNat) 3 m := by unfold ga1; rw [if_neg (by omega), if_neg (by omega), if_pos e]
    have e2 : ga2 m pv i = m := by unfold ga2; rw [if_neg (by omega)]
    rw [e0, e1, e2]
    refine (C_indexOf (by omega) hPi).conseq (KI.mono ?_)
    rintro r μ1 ⟨rfl, rfl⟩
    rw [show (s : Int) - 1 - pv i 1 = ((s - 1 - (pv i 1).toNat : Nat) : Int) by omega]
    refine (C_putLabel (by omega) hPi (by omega)).conseq (KV.mono ?_)
    rintro μ2 ⟨ho, hP2⟩
    exact ⟨rfl, ho, hP2, hK.set _ _, hm9⟩
  · rw [w_inj (by omega) (by omega) (by omega) (by omega)] at e
    have e0 : ga0 s pv i = s := by unfold ga0; rw [if_neg (by omega), if_neg (by omega)]
    have e1 : ga1 ru bx s m pv i = mbx bx s m (ru 2) (pv i 1).toNat := by unfold ga1; rw [if_neg (by omega), if_neg (by omega), if_neg (by omega), if_pos e]
    have e2 : ga2 m pv i = m + (pv i 1).toNat := by unfold ga2; rw [if_pos e]
    rw [e0, e1, e2]
    obtain ⟨v, hv'⟩ : ∃ v : Nat, pv i 1 = v := ⟨(pv i 1).toNat, by omega⟩
    rw [hv']
    exact goApart_G (d := d + 1) (by omega) (by omega) (by omega) v 0 μ (by omega) hR hH hPi hK (fun μ' g1 g2 g3 => ⟨rfl, g1, g2, g3, by show m + v ≤ 999; omega⟩)
end PN
