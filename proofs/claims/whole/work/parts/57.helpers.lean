/-! SMALL METHODS OF THE CLASS over house and pile -/
/-- a sum over the first i -/
def fsum (f : Nat → Int) : Nat → Int
  | 0 => 0
  | i + 1 => fsum f i + f i
theorem fsum_bd {f : Nat → Int} {lo hi : Int} : ∀ i, (∀ j, j < i → lo ≤ f j ∧ f j ≤ hi) → lo * i ≤ fsum f i ∧ fsum f i ≤ hi * i
  | 0, _ => by simp [fsum]
  | i + 1, h => by
    have h1 := fsum_bd i (fun j hj => h j (by omega))
    have h2 := h i (by omega)
    unfold fsum
    rw [show ((i + 1 : Nat) : Int) = (i : Int) + 1 by omega, Int.mul_add, Int.mul_add]
    omega
theorem fsum_cg {f g : Nat → Int} : ∀ i, (∀ j, j < i → f j = g j) → fsum f i = fsum g i
  | 0, _ => rfl
  | i + 1, h => by unfold fsum; rw [fsum_cg i (fun j hj => h j (by omega)), h i (by omega)]
theorem bsum_f (bx : Nat → Nat → Int) (q : Nat) : ∀ i, bsum bx q i = fsum (fun j => bx j q) i
  | 0 => rfl
  | i + 1 => by unfold bsum fsum; rw [bsum_f bx q i]
/-- all boxes are of kinds that were told -/
def KN (bx : Nat → Nat → Int) (s n : Nat) : Prop := ∀ i, i < s → bx i 0 < n
/-- hours that are borne -/
def brn (ru : Nat → Int) (p : Int) : Int := if 0 < ru 0 then ru 1 * p / ru 0 else 0
theorem mul_bd {a b : Int} {x y : Nat} (h1 : 0 ≤ a) (h2 : a ≤ x) (h3 : 0 ≤ b) (h4 : b ≤ y) : 0 ≤ a * b ∧ a * b ≤ ((x * y : Nat) : Int) := by
  have e1 : (a * b).natAbs = a.natAbs * b.natAbs := Int.natAbs_mul a b
  have e2 : a.natAbs * b.natAbs ≤ x * y := Nat.mul_le_mul (by omega) (by omega)
  have e3 := Int.mul_nonneg h1 h3
  omega
theorem brn_bd {ru : Nat → Int} {n : Nat} (h : RU ru n) {p : Int} (h1 : 0 ≤ p) (h2 : p ≤ 1000) : 0 ≤ brn ru p ∧ brn ru p ≤ 24000 := by
  unfold RU at h
  unfold brn
  split
  · have h3 := mul_bd (a := ru 1) (b := p) (x := 24) (y := 1000) (by omega) (by omega) (by omega) (by omega)
    exact ⟨Int.ediv_nonneg h3.1 (by omega), Int.le_trans (Int.ediv_le_self _ h3.1) (by omega)⟩
  · omega
section HD
variable {Γ : XG} {d h n a s m : Nat} {ru : Nat → Int} {ki bx : Nat → Nat → Int} {ls : Int → Int → Int → Int → Int → Int → Int} {μ : XM} {Q : Option Value → XM → Prop}
theorem vw_bd (hH : HO μ h n ru ki) (hP : PF μ a s bx m) (hK : KN bx s n) {i : Nat} (hi : i < s) (o l b : Int) : 0 ≤ vw ls ki bx m i o l b ∧ vw ls ki bx m i o l b ≤ 81 := by
  have hb := hP.bb i hi
  unfold BB at hb
  have h1 := pw_bd (ls := ls) (k := bx i 0) (n := bx i 1) (a := min 99 (bx i 2 + o)) (y := b) (m := m + l) (hH.kr (k := bx i 0) (by omega) (hK i hi)).2.2.2.2
  unfold vw
  exact mul_bd (x := 9) (y := 9) (by omega) (by omega) h1.1 (by omega)
theorem C_valueThen (hd : 4 ≤ d) (hR : RF μ) (hH : HO μ h n ru ki) (hW : FW μ ls) (hP : PF μ a s bx m) (hK : KN bx s n) (ha : a + 4 < 502) {i : Nat} (hi : i < s) {older later below : Int} (o1 : 0 ≤ older) (o2 : older ≤ 200) (l1 : 0 ≤ later) (l2 : later ≤ 200) (b1 : 0 ≤ below) (b2 : below ≤ 10) : Call Γ m_FB_valueThen d [.ref 32, .ref a, .int (w i), .int (w older), .int (w later), .int (w below)] μ (KI (fun r μ' => fof scr μ μ' ∧ r = w (vw ls ki bx m i older later below))) := by
  obtain ⟨d, rfl⟩ : ∃ e, d = e + 1 := ⟨d - 1, by omega⟩
  have hs8 := hP.2.1
  refine Call.of ok_FB_valueThen (Nat.le_of_ble_eq_true rfl) (B_FB_valueThen_0 hP.1.ob hP.1.2.2.2.1 hR.ob ?_)
  refine ⟨hP.ib (q := 2) (by omega) (by omega) hi, ?_⟩
  refine (C_portionWorth (by omega) hR hH hW hP ha hi (hK i hi) o1 o2 l1 l2 b1 b2).conseq (KI.mono ?_)
  rintro r μ1 ⟨ho, rfl⟩
  refine ⟨_, rfl, ho, ?_⟩
  rw [w_cln (by omega), (hP.2.2.2.2.2 i hi).1.2.1, w_mul]
  rfl
theorem C_valueOf (hd : 4 ≤ d) (hR : RF μ) (hH : HO μ h n ru ki) (hW : FW μ ls) (hP : PF μ a s bx m) (hK : KN bx s n) (ha : a + 4 < 502) {i : Nat} (hi : i < s) : Call Γ m_FB_valueOf d [.ref 32, .ref a, .int (w i)] μ (KI (fun r μ' => fof scr μ μ' ∧ r = w (vw ls ki bx m i 0 0 i))) := by
  obtain ⟨d, rfl⟩ : ∃ e, d = e + 1 := ⟨d - 1, by omega⟩
  have hs8 := hP.2.1
  refine Call.of ok_FB_valueOf (Nat.le_of_ble_eq_true rfl) (B_FB_valueOf_0 hP.1.ob hP.1.2.2.2.1 hR.ob ?_)
  refine ⟨hP.ib (q := 2) (by omega) (by omega) hi, ?_⟩
  refine (C_portionWorth (older := 0) (later := 0) (below := i) (by omega) hR hH hW hP ha hi (hK i hi) (by omega) (by omega) (by omega) (by omega) (by omega) (by omega)).conseq (KI.mono ?_)
  rintro r μ1 ⟨ho, rfl⟩
  refine ⟨_, rfl, ho, ?_⟩
  rw [w_cln (by omega), (hP.2.2.2.2.2 i hi).1.2.1, w_mul]
  rfl
/-- weight of box i -/
def wt (ki bx : Nat → Nat → Int) (i : Nat) : Int := bx i 1 * ki (bx i 0).toNat 1
theorem wt_bd (hH : HO μ h n ru ki) (hP : PF μ a s bx m) (hK : KN bx s n) {i : Nat} (hi : i < s) : 1 ≤ wt ki bx i ∧ wt ki bx i ≤ 81 := by
  have hb := hP.bb i hi
  unfold BB at hb
  have hk := (hH.kr (k := bx i 0) (by omega) (hK i hi)).2.2.2.2
  unfold KK at hk
  have := mul_bd (a := bx i 1) (b := ki (bx i 0).toNat 1) (x := 9) (y := 9) (by omega) (by omega) (by omega) (by omega)
  have h2 : 0 < bx i 1 * ki (bx i 0).toNat 1 := Int.mul_pos (by omega) (by omega)
  unfold wt
  omega
theorem C_weightOfF (hd : 1 ≤ d) (hR : RF μ) (hH : HO μ h n ru ki) (hP : PF μ 67 s bx m) (hK : KN bx s n) {i : Nat} (hi : i < s) : Call Γ m_FB_weightOf d [.ref 32, .int (w i)] μ (KI (fun r μ' => μ' = μ ∧ r = w (wt ki bx i))) := by
  obtain ⟨d, rfl⟩ : ∃ e, d = e + 1 := ⟨d - 1, by omega⟩
  have hs8 := hP.2.1
  obtain ⟨⟨x0, x1, x2, x3⟩, hb⟩ := hP.2.2.2.2.2 i hi
  unfold BB at hb
  obtain ⟨k1, k2, k3, k4, k5⟩ := hH.kr (k := bx i 0) (by omega) (hK i hi)
  refine Call.of ok_FB_weightOf (Nat.le_of_ble_eq_true rfl) (B_FB_weightOf_0 hR.ob (hR.r 32 9 67 rfl) hP.1.ob hP.1.2.2.2.1 hH.2.1 hH.1.ob hH.1.2.2.2.1 hP.1.2.2.1 ?_)
  rw [w_cln (by omega), x0, x1]
  refine ⟨hP.ib (q := 2) (by omega) (by omega) hi, hP.ib (q := 1) (by omega) (by omega) hi, k1, _, k2, k3 1 (by omega) (by omega), ?_⟩
  rw [show (w 1).toNatClampNeg = 1 by decide, k4 1 (by omega), w_mul]
  exact ⟨_, rfl, rfl, rfl⟩
theorem HO.rl (hH : HO μ h n ru ki) {j : Int} (h0 : 0 ≤ j) (h4 : j < 4) : inb μ 0 (h + 1) (w j) ∧ xI μ (h + 1) (w j).toNatClampNeg = w (ru j.toNat) := by
  have hs := hH.1.1
  have h3 := hs.s
  unfold HS at hs
  exact ⟨inb_of h3.2.1 (by omega) hH.1.2.1 h0 (by omega), by rw [w_cl (by omega) (by omega)]; exact hH.2.2.2.2.2.1 _ (by omega)⟩
theorem bs_bd (hP : PF μ a s bx m) : (s : Int) ≤ bsum bx 1 s ∧ bsum bx 1 s ≤ 72 := by
  have := bsum_le hP.bb s (by omega)
  have := hP.2.1
  omega
def CP (n : Nat) (ru : Nat → Int) (bx : Nat → Nat → Int) (s : Nat) (k p : Int) : Prop := 0 ≤ k ∧ k < n ∧ 1 ≤ p ∧ p ≤ 9 ∧ s < 8 ∧ bsum bx 1 s + p ≤ ru 0
theorem C_canPutF (hd : 3 ≤ d) (hR : RF μ) (hH : HO μ h n ru ki) (hP : PF μ a s bx m) {k p : Int} (k1 : -2147483648 ≤ k) (k2 : k < 2147483648) (p1 : -2147483648 ≤ p) (p2 : p < 2147483648) : Call Γ m_FB_canPut d [.ref 32, .ref a, .int (w k), .int (w p)] μ (KI (fun r μ' => μ' = μ ∧ ((CP n ru bx s k p ∧ r = w 1) ∨ (¬ CP n ru bx s k p ∧ r = w 0)))) := by
  obtain ⟨d, rfl⟩ : ∃ e, d = e + 1 := ⟨d - 1, by omega⟩
  refine Call.of ok_FB_canPut (Nat.le_of_ble_eq_true rfl) (B_FB_canPut_0 hR.ob hP.1.ob ?_)
  refine (C_isKindF (by omega) hR hH k1 k2).conseq (KI.mono ?_)
  have hs8 := hP.2.1
  have hb := bs_bd hP
  have hu := hH.2.2.2.2.1
  unfold RU at hu
  unfold CP
  rintro r μ1 ⟨rfl, ⟨g1, g2, rfl⟩ | ⟨g1, rfl⟩⟩
  · refine ⟨fun q => absurd q (by decide), fun _ => ?_⟩
    rw [w_lt (by omega) (by omega) (by omega) (by omega), w_lt (by omega) (by omega) (by omega) (by omega), hP.2.2.2.1, w_lt (by omega) (by omega) (by omega) (by omega)]
    refine ⟨fun q => ⟨_, rfl, rfl, Or.inr ⟨by omega, rfl⟩⟩, fun q => ⟨fun q2 => ⟨_, rfl, rfl, Or.inr ⟨by omega, rfl⟩⟩, fun q2 => ⟨fun q3 => ?_, fun q3 => ⟨_, rfl, rfl, Or.inr ⟨by omega, rfl⟩⟩⟩⟩⟩
    refine (C_portionsInAll (by omega) hP).conseq (KI.mono ?_)
    rintro r μ2 ⟨rfl, rfl⟩
    refine ⟨h, hH.2.1, hH.1.ob, _, hH.1.2.2.1, (hH.rl (j := 0) (by omega) (by omega)).1, ?_⟩
    rw [(hH.rl (j := 0) (by omega) (by omega)).2, show (0 : Int).toNat = 0 from rfl, w_add, w_lt (by omega) (by omega) (by omega) (by omega)]
    exact ⟨fun q => ⟨_, rfl, rfl, Or.inr ⟨by omega, rfl⟩⟩, fun q => ⟨_, rfl, rfl, Or.inl ⟨by omega, rfl⟩⟩⟩
  · exact ⟨fun _ => ⟨_, rfl, rfl, Or.inr ⟨by omega, rfl⟩⟩, fun q => absurd rfl q⟩
theorem C_borneHours (hd : 1 ≤ d) (hR : RF μ) (hH : HO μ h n ru ki) {p : Int} (p1 : 0 ≤ p) (p2 : p ≤ 1000) : Call Γ m_FB_borneHours d [.ref 32, .int (w p)] μ (KI (fun r μ' => μ' = μ ∧ r = w (brn ru p))) := by
  obtain ⟨d, rfl⟩ : ∃ e, d = e + 1 := ⟨d - 1, by omega⟩
  refine Call.of ok_FB_borneHours (Nat.le_of_ble_eq_true rfl) (B_FB_borneHours_0 hR.ob hH.2.1 hH.1.ob hH.1.2.2.1 ?_)
  have hu := hH.2.2.2.2.1
  unfold RU at hu
  have h0 := hH.rl (j := 0) (by omega) (by omega)
  have h1 := hH.rl (j := 1) (by omega) (by omega)
  have h3 := mul_bd (a := ru 1) (b := p) (x := 24) (y := 1000) (by omega) (by omega) (by omega) (by omega)
  rw [h0.2, h1.2, show (0 : Int).toNat = 0 from rfl, show (1 : Int).toNat = 1 from rfl, w_lt (by omega) (by omega) (by omega) (by omega), w_mul]
  unfold brn
  refine ⟨h0.1, fun q => ⟨h1.1, w_nz q (by omega), _, rfl, rfl, ?_⟩, fun q => ⟨_, rfl, rfl, ?_⟩⟩
  · rw [w_div h3.1 (by omega) q (by omega), if_pos q]
  · rw [if_neg q]
theorem C_hoursTooMany (hd : 2 ≤ d) (hR : RF μ) (hH : HO μ h n ru ki) (hP : PF μ a s bx m) {z : Int} (z1 : -1000000 ≤ z) (z2 : z ≤ 1000000) : Call Γ m_FB_hoursTooMany d [.ref 32, .ref a, .int (w z)] μ (KI (fun r μ' => μ' = μ ∧ r = w (max 0 (z - brn ru (bsum bx 1 s))))) := by
  obtain ⟨d, rfl⟩ : ∃ e, d = e + 1 := ⟨d - 1, by omega⟩
  have hb := bs_bd hP
  refine Call.of ok_FB_hoursTooMany (Nat.le_of_ble_eq_true rfl) (B_FB_hoursTooMany_0 hP.1.ob hR.ob ?_)
  refine (C_portionsInAll (by omega) hP).conseq (KI.mono ?_)
  rintro r μ1 ⟨rfl, rfl⟩
  refine (C_borneHours (by omega) hR hH (by omega) (by omega)).conseq (KI.mono ?_)
  rintro r μ2 ⟨rfl, rfl⟩
  have := brn_bd hH.2.2.2.2.1 (p := bsum bx 1 s) (by omega) (by omega)
  rw [w_sub, jmax_w (by omega) (by omega) (by omega) (by omega)]
  exact ⟨_, rfl, rfl, rfl⟩
/-- what questions know of the class: the references, the house, the pile now, the loss -/
def FQ (μ : XM) (h n : Nat) (ru : Nat → Int) (ki : Nat → Nat → Int) (s : Nat) (bx : Nat → Nat → Int) (m : Nat) (ls : Int → Int → Int → Int → Int → Int → Int) : Prop := RF μ ∧ HO μ h n ru ki ∧ FW μ ls ∧ PF μ 67 s bx m ∧ KN bx s n
theorem FQ.q {μ μ' : XM} (hF : FQ μ h n ru ki s bx m ls) (ho : fof qcr μ μ') : FQ μ' h n ru ki s bx m ls := by
  obtain ⟨h1, h2, h3, h4, h5⟩ := hF
  refine ⟨h1.of ho.2.2.1 ho.2.2.2, h2.fof ho (fun c c1 c2 => by unfold qcr scr; omega), h3.fof ho (by unfold qcr scr; omega) (fun i hi => ?_), h4.fof ho (fun c c1 c2 => by unfold qcr scr; omega), h5⟩
  unfold qcr scr
  omega
theorem FQ.sc {μ μ' : XM} (hF : FQ μ h n ru ki s bx m ls) (ho : fof scr μ μ') : FQ μ' h n ru ki s bx m ls := hF.q (ho.wide scr_q)
theorem FQ.ty {hF : FQ μ h n ru ki s bx m ls} : s ≤ 8 := hF.2.2.2.1.2.1
theorem valueOfAll_G {older later : Int} (o1 : 0 ≤ older) (o2 : older ≤ 200) (l1 : 0 ≤ later) (l2 : later ≤ 200) : ∀ (k i : Nat) (μ : XM), i + k = s → FQ μ h n ru ki s bx m ls → (∀ μ', fof scr μ μ' → Q (some (.int (w (fsum (fun i => vw ls ki bx m i older later i) s)))) μ') → G Γ m_FB_valueOfAll (d + 5) (0, 0) Q 5 [.ref 32, .int (w older), .int (w later), .int (w (fsum (fun i => vw ls ki bx m i older later i) i)), .int (w i)] [] μ := by
  intro k
  induction k with
  | zero =>
    intro i μ hi hF hQ
    have hs := hF.2.2.2.1.2.1
    refine B_FB_valueOfAll_5 hF.1.ob (hF.1.r 32 9 67 rfl) hF.2.2.2.1.1.ob ?_
    rw [hF.2.2.2.1.2.2.2.1, w_lt (by omega) (by omega) (by omega) (by omega)]
    refine ⟨fun q => absurd q (by omega), fun _ => ?_⟩
    rw [show i = s by omega]
    exact hQ μ (fof.rf _ _)
  | succ k ih =>
    intro i μ hi hF hQ
    have hs := hF.2.2.2.1.2.1
    refine B_FB_valueOfAll_5 hF.1.ob (hF.1.r 32 9 67 rfl) hF.2.2.2.1.1.ob ?_
    rw [hF.2.2.2.1.2.2.2.1, w_lt (by omega) (by omega) (by omega) (by omega)]
    refine ⟨fun _ => ?_, fun q => absurd (by omega) q⟩
    refine (C_valueThen (d := d + 4) (by omega) hF.1 hF.2.1 hF.2.2.1 hF.2.2.2.1 hF.2.2.2.2 (by omega) (by omega) o1 o2 l1 l2 (by omega) (by omega)).conseq (KI.mono ?_)
    rintro r μ1 ⟨ho, rfl⟩
    rw [w_add, w_add]
    exact ih (i + 1) μ1 (by omega) (hF.sc ho) (fun μ2 g => hQ μ2 (ho.trans g))
theorem C_valueOfAll (hd : 5 ≤ d) (hF : FQ μ h n ru ki s bx m ls) {older later : Int} (o1 : 0 ≤ older) (o2 : older ≤ 200) (l1 : 0 ≤ later) (l2 : later ≤ 200) : Call Γ m_FB_valueOfAll d [.ref 32, .int (w older), .int (w later)] μ (KI (fun r μ' => fof scr μ μ' ∧ r = w (fsum (fun i => vw ls ki bx m i older later i) s))) := by
  obtain ⟨d, rfl⟩ : ∃ e, d = e + 5 := ⟨d - 5, by omega⟩
  exact Call.of ok_FB_valueOfAll (Nat.le_of_ble_eq_true rfl) (B_FB_valueOfAll_0 (valueOfAll_G o1 o2 l1 l2 s 0 μ (by omega) hF (fun μ' g => ⟨_, rfl, g, rfl⟩)))
end HD
