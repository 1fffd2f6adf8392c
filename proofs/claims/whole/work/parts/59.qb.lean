/-! QUESTIONS OF THE CLASS, second lot -/
def bct (x : Int32) : Int32 := ((((((((x - (((x.toUInt32 >>> ((w 1).toUInt32 &&& Int32.toUInt32 31)).toInt32) &&& (w 1431655765))) &&& (w 858993459)) + ((((x - (((x.toUInt32 >>> ((w 1).toUInt32 &&& Int32.toUInt32 31)).toInt32) &&& (w 1431655765))).toUInt32 >>> ((w 2).toUInt32 &&& Int32.toUInt32 31)).toInt32) &&& (w 858993459))) + (((((x - (((x.toUInt32 >>> ((w 1).toUInt32 &&& Int32.toUInt32 31)).toInt32) &&& (w 1431655765))) &&& (w 858993459)) + ((((x - (((x.toUInt32 >>> ((w 1).toUInt32 &&& Int32.toUInt32 31)).toInt32) &&& (w 1431655765))).toUInt32 >>> ((w 2).toUInt32 &&& Int32.toUInt32 31)).toInt32) &&& (w 858993459))).toUInt32 >>> ((w 4).toUInt32 &&& Int32.toUInt32 31)).toInt32)) &&& (w 252645135)) + (((((((x - (((x.toUInt32 >>> ((w 1).toUInt32 &&& Int32.toUInt32 31)).toInt32) &&& (w 1431655765))) &&& (w 858993459)) + ((((x - (((x.toUInt32 >>> ((w 1).toUInt32 &&& Int32.toUInt32 31)).toInt32) &&& (w 1431655765))).toUInt32 >>> ((w 2).toUInt32 &&& Int32.toUInt32 31)).toInt32) &&& (w 858993459))) + (((((x - (((x.toUInt32 >>> ((w 1).toUInt32 &&& Int32.toUInt32 31)).toInt32) &&& (w 1431655765))) &&& (w 858993459)) + ((((x - (((x.toUInt32 >>> ((w 1).toUInt32 &&& Int32.toUInt32 31)).toInt32) &&& (w 1431655765))).toUInt32 >>> ((w 2).toUInt32 &&& Int32.toUInt32 31)).toInt32) &&& (w 858993459))).toUInt32 >>> ((w 4).toUInt32 &&& Int32.toUInt32 31)).toInt32)) &&& (w 252645135)).toUInt32 >>> ((w 8).toUInt32 &&& Int32.toUInt32 31)).toInt32)) + ((((((((x - (((x.toUInt32 >>> ((w 1).toUInt32 &&& Int32.toUInt32 31)).toInt32) &&& (w 1431655765))) &&& (w 858993459)) + ((((x - (((x.toUInt32 >>> ((w 1).toUInt32 &&& Int32.toUInt32 31)).toInt32) &&& (w 1431655765))).toUInt32 >>> ((w 2).toUInt32 &&& Int32.toUInt32 31)).toInt32) &&& (w 858993459))) + (((((x - (((x.toUInt32 >>> ((w 1).toUInt32 &&& Int32.toUInt32 31)).toInt32) &&& (w 1431655765))) &&& (w 858993459)) + ((((x - (((x.toUInt32 >>> ((w 1).toUInt32 &&& Int32.toUInt32 31)).toInt32) &&& (w 1431655765))).toUInt32 >>> ((w 2).toUInt32 &&& Int32.toUInt32 31)).toInt32) &&& (w 858993459))).toUInt32 >>> ((w 4).toUInt32 &&& Int32.toUInt32 31)).toInt32)) &&& (w 252645135)) + (((((((x - (((x.toUInt32 >>> ((w 1).toUInt32 &&& Int32.toUInt32 31)).toInt32) &&& (w 1431655765))) &&& (w 858993459)) + ((((x - (((x.toUInt32 >>> ((w 1).toUInt32 &&& Int32.toUInt32 31)).toInt32) &&& (w 1431655765))).toUInt32 >>> ((w 2).toUInt32 &&& Int32.toUInt32 31)).toInt32) &&& (w 858993459))) + (((((x - (((x.toUInt32 >>> ((w 1).toUInt32 &&& Int32.toUInt32 31)).toInt32) &&& (w 1431655765))) &&& (w 858993459)) + ((((x - (((x.toUInt32 >>> ((w 1).toUInt32 &&& Int32.toUInt32 31)).toInt32) &&& (w 1431655765))).toUInt32 >>> ((w 2).toUInt32 &&& Int32.toUInt32 31)).toInt32) &&& (w 858993459))).toUInt32 >>> ((w 4).toUInt32 &&& Int32.toUInt32 31)).toInt32)) &&& (w 252645135)).toUInt32 >>> ((w 8).toUInt32 &&& Int32.toUInt32 31)).toInt32)).toUInt32 >>> ((w 16).toUInt32 &&& Int32.toUInt32 31)).toInt32)) &&& (w 63))
section HB
variable {Γ : XG} {d h n a s m : Nat} {ru : Nat → Int} {ki bx : Nat → Nat → Int} {ls : Int → Int → Int → Int → Int → Int → Int} {μ : XM} {Q : Option Value → XM → Prop}
theorem C_bitCount (hd : 1 ≤ d) {x : Int32} : Call Γ m_In_bitCount d [.int x] μ (KI (fun r μ' => μ' = μ ∧ r = bct x)) := by
  obtain ⟨d, rfl⟩ : ∃ e, d = e + 1 := ⟨d - 1, by omega⟩
  exact Call.of ok_In_bitCount (Nat.le_of_ble_eq_true rfl) (B_In_bitCount_0 ⟨_, rfl, rfl, rfl⟩)
/-- how many portions of kind k weigh z; -1: none -/
def ptw (ki : Nat → Nat → Int) (k : Nat) (z : Int) : Int := if z % ki k 1 = 0 ∧ 1 ≤ z / ki k 1 ∧ z / ki k 1 ≤ 9 then z / ki k 1 else -1
theorem C_portionsThatWeigh (hd : 1 ≤ d) (hH : HO μ h n ru ki) {k : Int} (k0 : 0 ≤ k) (kn : k < n) {z : Int} (z1 : 0 ≤ z) (z2 : z ≤ 1000) : Call Γ m_Ho_portionsThatWeigh d [.ref h, .int (w k), .int (w z)] μ (KI (fun r μ' => μ' = μ ∧ r = w (ptw ki k.toNat z))) := by
  obtain ⟨d, rfl⟩ : ∃ e, d = e + 1 := ⟨d - 1, by omega⟩
  refine Call.of ok_Ho_portionsThatWeigh (Nat.le_of_ble_eq_true rfl) (B_Ho_portionsThatWeigh_0 hH.1.ob hH.1.2.2.2.1 ?_)
  obtain ⟨k1, k2, k3, k4, k5⟩ := hH.kr k0 kn
  unfold KK at k5
  refine ⟨k1, _, k2, k3 1 (by omega) (by omega), ?_⟩
  rw [show (w 1).toNatClampNeg = 1 by decide, k4 1 (by omega)]
  have hd1 : z / ki k.toNat 1 ≤ z := Int.ediv_le_self _ z1
  have hd0 : 0 ≤ z / ki k.toNat 1 := Int.ediv_nonneg z1 (by omega)
  have hm0 : 0 ≤ z % ki k.toNat 1 := Int.emod_nonneg _ (by omega)
  have hm1 : z % ki k.toNat 1 < ki k.toNat 1 := Int.emod_lt_of_pos _ (by omega)
  rw [w_rem z1 (by omega) (by omega) (by omega), w_div z1 (by omega) (by omega) (by omega), w_lt (by omega) (by omega) (by omega) (by omega), w_inj (by omega) (by omega) (by omega) (by omega), w_lt (by omega) (by omega) (by omega) (by omega), w_lt (by omega) (by omega) (by omega) (by omega)]
  unfold ptw
  refine ⟨fun q => ⟨w_nz (by omega) (by omega), fun q2 => ⟨w_nz (by omega) (by omega), fun q3 => ⟨_, rfl, rfl, by rw [if_neg (by omega)]⟩, fun q3 => ⟨fun q4 => ⟨_, rfl, rfl, by rw [if_neg (by omega)]⟩, fun q4 => ⟨_, rfl, rfl, by rw [if_pos (by omega)]⟩⟩⟩, fun q2 => ⟨_, rfl, rfl, by rw [if_neg (by omega)]⟩⟩, fun q => absurd (by omega) q⟩
/-- portions of a box that could be kind k, or are -/
def spn (ki bx : Nat → Nat → Int) (k : Nat) (z : Int) (i : Nat) : Int :=
  if bx i 3 = -1 then (if z = 1 ∧ ki (bx i 0).toNat 0 = ki k 0 then max 0 (ptw ki k (wt ki bx i)) else 0) else if bx i 0 = k then bx i 1 else 0
theorem spn_bd (hP : PF μ a s bx m) {k : Nat} {z : Int} {i : Nat} (hi : i < s) : 0 ≤ spn ki bx k z i ∧ spn ki bx k z i ≤ 9 := by
  have hb := hP.bb i hi
  unfold BB at hb
  unfold spn
  split
  · split
    · unfold ptw
      split <;> omega
    · omega
  · split <;> omega
theorem spans_G {k z : Int} (k0 : 0 ≤ k) (kn : k < n) (z0 : 0 ≤ z) (z1 : z ≤ 1) : ∀ (f i : Nat), i + f = s → FQ μ h n ru ki s bx m ls → Q (some (.int (w (fsum (spn ki bx k.toNat z) s)))) μ → G Γ m_FB_spans (d + 2) (0, 0) Q 24 [.ref 32, .int (w k), .int (w z), .int (w (fsum (spn ki bx k.toNat z) i)), .int (w i)] [] μ := by
  intro f
  induction f with
  | zero =>
    intro i hi hF hQ
    have hs := hF.2.2.2.1.2.1
    refine B_FB_spans_24 hF.1.ob (hF.1.r 32 9 67 rfl) hF.2.2.2.1.1.ob ?_
    rw [hF.2.2.2.1.2.2.2.1, w_lt (by omega) (by omega) (by omega) (by omega)]
    refine ⟨fun q => absurd q (by omega), fun _ => ?_⟩
    rw [show i = s by omega]
    exact hQ
  | succ f ih =>
    intro i hi hF hQ
    have hP := hF.2.2.2.1
    have hs := hP.2.1
    have nx := ih (i + 1) (by omega) hF hQ
    rw [fsum] at nx
    have hn := hF.2.1.2.2.1
    obtain ⟨⟨x0, x1, x2, x3⟩, hb⟩ := hP.2.2.2.2.2 i (by omega)
    unfold BB at hb
    have hbn := hF.2.2.2.2 i (by omega)
    obtain ⟨k1, k2, k3, k4, k5⟩ := hF.2.1.kr k0 kn
    obtain ⟨j1, j2, j3, j4, j5⟩ := hF.2.1.kr (k := bx i 0) (by omega) hbn
    unfold KK at k5 j5
    have hw := wt_bd hF.2.1 hP hF.2.2.2.2 (i := i) (by omega)
    refine B_FB_spans_24 hF.1.ob (hF.1.r 32 9 67 rfl) hP.1.ob ?_
    rw [hP.2.2.2.1, w_lt (by omega) (by omega) (by omega) (by omega)]
    refine ⟨fun _ => ?_, fun q => absurd (by omega) q⟩
    refine (C_hasLabel (by omega) hP (by omega)).conseq (KI.mono ?_)
    rintro r μ1 ⟨rfl, ⟨hl, rfl⟩ | ⟨hl, rfl⟩⟩
    · refine ⟨fun q => absurd q (by decide), fun _ => ⟨hF.1.r 32 9 67 rfl, 68, hP.1.2.2.1, hP.ib (q := 1) (by omega) (by omega) (by omega), ?_⟩⟩
      rw [w_cln (by omega), x0, w_inj (by omega) (by omega) (by omega) (by omega)]
      refine ⟨fun q => ⟨69, hP.1.2.2.2.1, hP.ib (q := 2) (by omega) (by omega) (by omega), ?_⟩, fun q => ?_⟩
      · rw [x1, w_add, w_add]
        unfold spn at nx
        rw [if_neg hl, if_pos (by omega)] at nx
        exact nx
      · rw [w_add, w_add]
        unfold spn at nx
        rw [if_neg hl, if_neg (by omega)] at nx
        exact nx
    · refine ⟨fun _ => ?_, fun q => absurd rfl q⟩
      rw [w_inj (by omega) (by omega) (by omega) (by omega)]
      refine ⟨fun q => ⟨h, hF.2.1.2.1, hF.2.1.1.ob, h + 2, hF.2.1.1.2.2.2.1, hF.1.r 32 9 67 rfl, 68, hP.1.2.2.1, hP.ib (q := 1) (by omega) (by omega) (by omega), ?_⟩, fun q => ?_⟩
      · rw [w_cln (by omega), x0]
        refine ⟨j1, _, j2, j3 0 (by omega) (by omega), k1, _, k2, k3 0 (by omega) (by omega), ?_⟩
        rw [show (w 0).toNatClampNeg = 0 by decide, j4 0 (by omega), k4 0 (by omega), w_inj (by omega) (by omega) (by omega) (by omega)]
        refine ⟨fun q2 => ?_, fun q2 => ?_⟩
        · refine (C_weightOfF (by omega) hF.1 hF.2.1 hP hF.2.2.2.2 (by omega)).conseq (KI.mono ?_)
          rintro r μ2 ⟨rfl, rfl⟩
          refine (C_portionsThatWeigh (by omega) hF.2.1 k0 kn (by omega) (by omega)).conseq (KI.mono ?_)
          rintro r μ3 ⟨rfl, rfl⟩
          have hp : -1 ≤ ptw ki k.toNat (wt ki bx i) ∧ ptw ki k.toNat (wt ki bx i) ≤ 9 := by
            unfold ptw
            split <;> omega
          rw [jmax_w (by omega) (by omega) (by omega) (by omega), w_add, w_add]
          unfold spn at nx
          rw [if_pos hl, if_pos ⟨q, q2⟩] at nx
          exact nx
        · rw [w_add]
          unfold spn at nx
          rw [if_pos hl, if_neg (fun z => q2 z.2), Int.add_zero] at nx
          exact nx
      · rw [w_add]
        unfold spn at nx
        rw [if_pos hl, if_neg (fun z => q z.1), Int.add_zero] at nx
        exact nx
theorem C_spansF (hd : 3 ≤ d) (hF : FQ μ h n ru ki s bx m ls) {k z : Int} (k1 : -2147483648 ≤ k) (k2 : k < 2147483648) (z1 : -2147483648 ≤ z) (z2 : z < 2147483648) : Call Γ m_FB_spans d [.ref 32, .int (w k), .int (w z)] μ (KI (fun r μ' => fof qcr μ μ' ∧ r = if 0 ≤ k ∧ k < n ∧ 0 ≤ z ∧ z ≤ 1 then w (fsum (spn ki bx k.toNat z) s) else w (-1))) := by
  obtain ⟨d, rfl⟩ : ∃ e, d = e + 3 := ⟨d - 3, by omega⟩
  refine Call.of ok_FB_spans (Nat.le_of_ble_eq_true rfl) (B_FB_spans_0 hF.1.ob ?_)
  refine (C_isKindF (by omega) hF.1 hF.2.1 k1 k2).conseq (KI.mono ?_)
  rintro r μ1 ⟨rfl, ⟨g1, g2, rfl⟩ | ⟨g1, rfl⟩⟩
  · refine ⟨fun q => absurd q (by decide), fun _ => ?_⟩
    rw [w_lt (by omega) (by omega) (by omega) (by omega), w_lt (by omega) (by omega) (by omega) (by omega)]
    refine ⟨fun q => ⟨_, rfl, fof.rf _ _, by rw [if_neg (by omega)]⟩, fun q => ⟨fun q2 => ⟨_, rfl, fof.rf _ _, by rw [if_neg (by omega)]⟩, fun q2 => ?_⟩⟩
    exact spans_G (d := d + 1) g1 g2 (by omega) (by omega) s 0 (by omega) hF ⟨_, rfl, fof.rf _ _, by rw [if_pos (by omega)]⟩
  · exact ⟨fun _ => ⟨_, rfl, fof.rf _ _, by rw [if_neg (by omega)]⟩, fun q => absurd rfl q⟩
theorem C_makeF (hd : 3 ≤ d) (hR : RF μ) (hH : HO μ h n ru ki) {k z : Int} (k1 : -2147483648 ≤ k) (k2 : k < 2147483648) (z1 : -2147483648 ≤ z) (z2 : z < 2147483648) : Call Γ m_FB_make d [.ref 32, .int (w k), .int (w z)] μ (KI (fun r μ' => μ' = μ ∧ r = if 0 ≤ k ∧ k < n ∧ 1 ≤ z ∧ z ≤ 81 then w (ptw ki k.toNat z) else w (-1))) := by
  obtain ⟨d, rfl⟩ : ∃ e, d = e + 1 := ⟨d - 1, by omega⟩
  refine Call.of ok_FB_make (Nat.le_of_ble_eq_true rfl) (B_FB_make_0 hR.ob ?_)
  refine (C_isKindF (by omega) hR hH k1 k2).conseq (KI.mono ?_)
  rintro r μ1 ⟨rfl, ⟨g1, g2, rfl⟩ | ⟨g1, rfl⟩⟩
  · refine ⟨fun q => absurd q (by decide), fun _ => ?_⟩
    rw [w_lt (by omega) (by omega) (by omega) (by omega), w_lt (by omega) (by omega) (by omega) (by omega)]
    refine ⟨fun q => ⟨_, rfl, rfl, by rw [if_neg (by omega)]⟩, fun q => ⟨fun q2 => ⟨_, rfl, rfl, by rw [if_neg (by omega)]⟩, fun q2 => ⟨h, hH.2.1, hH.1.ob, ?_⟩⟩⟩
    refine (C_portionsThatWeigh (by omega) hH g1 g2 (by omega) (by omega)).conseq (KI.mono ?_)
    rintro r μ3 ⟨rfl, rfl⟩
    exact ⟨_, rfl, rfl, by rw [if_pos (by omega)]⟩
  · exact ⟨fun _ => ⟨_, rfl, rfl, by rw [if_neg (by omega)]⟩, fun q => absurd rfl q⟩
/-- bits of nameless places -/
def nml (bx : Nat → Nat → Int) (s : Nat) : Int32 := btw (fun p => decide (bx (s - 1 - p) 3 = -1)) s
theorem nameless_G : ∀ (f i : Nat), i + f = s → FQ μ h n ru ki s bx m ls → Q (some (.int (nml bx s))) μ → G Γ m_FB_nameless (d + 2) (0, 0) Q 13 [.ref 32, .int (btw (fun p => decide (bx (s - 1 - p) 3 = -1)) i), .int (w i)] [] μ := by
  intro f
  induction f with
  | zero =>
    intro i hi hF hQ
    have hs := hF.2.2.2.1.2.1
    refine B_FB_nameless_13 hF.1.ob (hF.1.r 32 9 67 rfl) hF.2.2.2.1.1.ob ?_
    rw [hF.2.2.2.1.2.2.2.1, w_lt (by omega) (by omega) (by omega) (by omega)]
    refine ⟨fun q => absurd q (by omega), fun _ => ?_⟩
    rw [show i = s by omega]
    exact hQ
  | succ f ih =>
    intro i hi hF hQ
    have hP := hF.2.2.2.1
    have hs := hP.2.1
    have nx := ih (i + 1) (by omega) hF hQ
    rw [btw] at nx
    refine B_FB_nameless_13 hF.1.ob (hF.1.r 32 9 67 rfl) hP.1.ob ?_
    rw [hP.2.2.2.1, w_lt (by omega) (by omega) (by omega) (by omega)]
    refine ⟨fun _ => ?_, fun q => absurd (by omega) q⟩
    refine (C_indexOf (by omega) hP).conseq (KI.mono ?_)
    rintro r μ1 ⟨rfl, rfl⟩
    rw [show (s : Int) - 1 - i = ((s - 1 - i : Nat) : Int) by omega]
    refine (C_hasLabel (by omega) hP (by omega)).conseq (KI.mono ?_)
    rintro r μ1 ⟨rfl, ⟨hl, rfl⟩ | ⟨hl, rfl⟩⟩
    · refine ⟨fun q => absurd q (by decide), fun _ => ?_⟩
      rw [if_neg (by simpa using hl)] at nx
      rw [w_add]
      exact nx
    · refine ⟨fun _ => ?_, fun q => absurd rfl q⟩
      rw [if_pos (by simpa using hl)] at nx
      rw [w_add]
      exact nx
theorem C_namelessF (hd : 3 ≤ d) (hF : FQ μ h n ru ki s bx m ls) : Call Γ m_FB_nameless d [.ref 32] μ (KI (fun r μ' => μ' = μ ∧ r = if 0 < n then nml bx s else w (-1))) := by
  obtain ⟨d, rfl⟩ : ∃ e, d = e + 3 := ⟨d - 3, by omega⟩
  refine Call.of ok_FB_nameless (Nat.le_of_ble_eq_true rfl) (B_FB_nameless_0 hF.1.ob ?_)
  refine (C_hasHouse (by omega) hF.1 hF.2.1).conseq (KI.mono ?_)
  rintro r μ1 ⟨rfl, ⟨hn, rfl⟩ | ⟨hn, rfl⟩⟩
  · exact ⟨fun q => absurd q (by decide), fun _ => nameless_G (d := d + 1) s 0 (by omega) hF ⟨_, rfl, rfl, by rw [if_pos hn]⟩⟩
  · exact ⟨fun _ => ⟨_, rfl, rfl, by rw [if_neg (by omega)]⟩, fun q => absurd rfl q⟩
/-- how many labels one has, in the class's words -/
def lbl (bx : Nat → Nat → Int) (s : Nat) (x y : Int) : Int32 := if 0 < x + y then (if x = 1 then w 2 * bct (nml bx s) - w 3 else w 2 * bct (nml bx s)) else (if x = 1 then w 0 - w 3 else w 0)
theorem C_labellerHas (hd : 4 ≤ d) (hF : FQ μ h n ru ki s bx m ls) (hn : 0 < n) {x y : Int} (x0 : 0 ≤ x) (x1 : x ≤ 1) (y0 : 0 ≤ y) (y1 : y ≤ 1) : Call Γ m_FB_labellerHas d [.ref 32, .int (w x), .int (w y)] μ (KI (fun r μ' => μ' = μ ∧ r = lbl bx s x y)) := by
  obtain ⟨d, rfl⟩ : ∃ e, d = e + 1 := ⟨d - 1, by omega⟩
  refine Call.of ok_FB_labellerHas (Nat.le_of_ble_eq_true rfl) (B_FB_labellerHas_0 hF.1.ob ?_)
  rw [w_add, w_lt (by omega) (by omega) (by omega) (by omega), w_inj (by omega) (by omega) (by omega) (by omega)]
  unfold lbl
  refine ⟨fun q => ?_, fun q => ⟨fun q2 => ⟨_, rfl, rfl, by rw [if_neg q, if_pos q2]⟩, fun q2 => ⟨_, rfl, rfl, by rw [if_neg q, if_neg q2]⟩⟩⟩
  refine (C_namelessF (by omega) hF).conseq (KI.mono ?_)
  rintro r μ1 ⟨rfl, rfl⟩
  refine (C_bitCount (by omega)).conseq (KI.mono ?_)
  rintro r μ2 ⟨rfl, rfl⟩
  rw [if_pos hn, if_pos q]
  exact ⟨fun q2 => ⟨_, rfl, rfl, by rw [if_pos q2]⟩, fun q2 => ⟨_, rfl, rfl, by rw [if_neg q2]⟩⟩
theorem C_labelsF (hd : 5 ≤ d) (hF : FQ μ h n ru ki s bx m ls) {x y : Int} (x1 : -2147483648 ≤ x) (x2 : x < 2147483648) (y1 : -2147483648 ≤ y) (y2 : y < 2147483648) : Call Γ m_FB_labels d [.ref 32, .int (w x), .int (w y)] μ (KI (fun r μ' => μ' = μ ∧ r = if 0 < n ∧ 0 ≤ x ∧ x ≤ 1 ∧ 0 ≤ y ∧ y ≤ 1 then lbl bx s x y else w (-1000000))) := by
  obtain ⟨d, rfl⟩ : ∃ e, d = e + 1 := ⟨d - 1, by omega⟩
  refine Call.of ok_FB_labels (Nat.le_of_ble_eq_true rfl) (B_FB_labels_0 hF.1.ob ?_)
  refine (C_hasHouse (by omega) hF.1 hF.2.1).conseq (KI.mono ?_)
  rintro r μ1 ⟨rfl, ⟨hn, rfl⟩ | ⟨hn, rfl⟩⟩
  · refine ⟨fun q => absurd q (by decide), fun _ => ?_⟩
    rw [w_lt (by omega) (by omega) (by omega) (by omega), w_lt (by omega) (by omega) (by omega) (by omega), w_lt (by omega) (by omega) (by omega) (by omega), w_lt (by omega) (by omega) (by omega) (by omega)]
    refine ⟨fun q => ⟨_, rfl, rfl, by rw [if_neg (by omega)]⟩, fun q => ⟨fun q2 => ⟨_, rfl, rfl, by rw [if_neg (by omega)]⟩, fun q2 => ⟨fun q3 => ⟨_, rfl, rfl, by rw [if_neg (by omega)]⟩, fun q3 => ⟨fun q4 => ⟨_, rfl, rfl, by rw [if_neg (by omega)]⟩, fun q4 => ?_⟩⟩⟩⟩
    refine (C_labellerHas (by omega) hF hn (by omega) (by omega) (by omega) (by omega)).conseq (KI.mono ?_)
    rintro r μ2 ⟨rfl, rfl⟩
    exact ⟨_, rfl, rfl, by rw [if_pos (by omega)]⟩
  · exact ⟨fun _ => ⟨_, rfl, rfl, by rw [if_neg (by omega)]⟩, fun q => absurd rfl q⟩
/-- pairs that rest: k more, i the next, many so far -/
def rst (L : Int → Int → Int32) (z : Int) : Nat → Nat → Nat → Int
  | 0, _, c => if z = -1 then c else -1
  | f + 1, i, c =>
    if L ((i / 2 : Nat) : Int) ((i % 2 : Nat) : Int) < L (1 - ((i / 2 : Nat) : Int)) ((i % 2 : Nat) : Int) ∨ L ((i % 2 : Nat) : Int) ((i / 2 : Nat) : Int) < L (1 - ((i % 2 : Nat) : Int)) ((i / 2 : Nat) : Int) then rst L z f (i + 1) c
    else if (c : Int) = z then 10 * ((i / 2 : Nat) : Int) + ((i % 2 : Nat) : Int) else rst L z f (i + 1) (c + 1)
theorem rests_G {z : Int} (z1 : -2147483648 ≤ z) (z2 : z < 2147483648) (hn : 0 < n) : ∀ (f i c : Nat), i + f = 4 → c ≤ i → FQ μ h n ru ki s bx m ls → Q (some (.int (w (rst (lbl bx s) z f i c)))) μ → G Γ m_FB_rests (d + 5) (0, 0) Q 18 [.ref 32, .int (w z), .int (w c), .int (w i)] [] μ := by
  intro f
  induction f with
  | zero =>
    intro i c hi hc hF hQ
    refine B_FB_rests_18 hF.1.ob ?_
    rw [w_lt (by omega) (by omega) (by omega) (by omega)]
    unfold rst at hQ
    refine ⟨fun q => absurd q (by omega), fun _ => ⟨fun q => ?_, fun q => ?_⟩⟩
    · rw [w_inj (by omega) (by omega) (by omega) (by omega)] at q
      rw [if_pos q] at hQ; exact hQ
    · rw [w_inj (by omega) (by omega) (by omega) (by omega)] at q
      rw [if_neg q] at hQ; exact hQ
  | succ f ih =>
    intro i c hi hc hF hQ
    refine B_FB_rests_18 hF.1.ob ?_
    unfold rst at hQ
    rw [w_lt (by omega) (by omega) (by omega) (by omega), w_rem (by omega) (by omega) (by omega) (by omega), w_div (by omega) (by omega) (by omega) (by omega), show ((i : Int) / 2) = ((i / 2 : Nat) : Int) by omega, show ((i : Int) % 2) = ((i % 2 : Nat) : Int) by omega, w_sub, w_sub]
    refine ⟨fun _ => ⟨by decide, by decide, ?_⟩, fun q => absurd (by omega) q⟩
    refine (C_labellerHas (d := d + 4) (by omega) hF hn (by omega) (by omega) (by omega) (by omega)).conseq (KI.mono ?_)
    rintro r μ1 ⟨rfl, rfl⟩
    refine (C_labellerHas (d := d + 4) (by omega) hF hn (by omega) (by omega) (by omega) (by omega)).conseq (KI.mono ?_)
    rintro r μ1 ⟨rfl, rfl⟩
    rw [w_add, w_add]
    refine ⟨fun q => ?_, fun q => ?_⟩
    · rw [if_pos (Or.inl q)] at hQ
      exact ih (i + 1) c (by omega) (by omega) hF hQ
    · refine (C_labellerHas (d := d + 4) (by omega) hF hn (by omega) (by omega) (by omega) (by omega)).conseq (KI.mono ?_)
      rintro r μ1 ⟨rfl, rfl⟩
      refine (C_labellerHas (d := d + 4) (by omega) hF hn (by omega) (by omega) (by omega) (by omega)).conseq (KI.mono ?_)
      rintro r μ1 ⟨rfl, rfl⟩
      refine ⟨fun q2 => ?_, fun q2 => ?_⟩
      · rw [if_pos (Or.inr q2)] at hQ
        exact ih (i + 1) c (by omega) (by omega) hF hQ
      · rw [if_neg (fun q3 => q3.elim q q2)] at hQ
        rw [w_inj (by omega) (by omega) (by omega) (by omega)]
        refine ⟨fun q3 => ?_, fun q3 => ?_⟩
        · rw [if_pos q3] at hQ
          rw [w_mul, w_add]
          exact hQ
        · rw [if_neg q3] at hQ
          exact ih (i + 1) (c + 1) (by omega) (by omega) hF hQ
theorem C_restsF (hd : 6 ≤ d) (hF : FQ μ h n ru ki s bx m ls) {z : Int} (z1 : -2147483648 ≤ z) (z2 : z < 2147483648) : Call Γ m_FB_rests d [.ref 32, .int (w z)] μ (KI (fun r μ' => μ' = μ ∧ r = if 0 < n ∧ -1 ≤ z then w (rst (lbl bx s) z 4 0 0) else w (-1))) := by
  obtain ⟨d, rfl⟩ : ∃ e, d = e + 6 := ⟨d - 6, by omega⟩
  refine Call.of ok_FB_rests (Nat.le_of_ble_eq_true rfl) (B_FB_rests_0 hF.1.ob ?_)
  refine (C_hasHouse (by omega) hF.1 hF.2.1).conseq (KI.mono ?_)
  rintro r μ1 ⟨rfl, ⟨hn, rfl⟩ | ⟨hn, rfl⟩⟩
  · refine ⟨fun q => absurd q (by decide), fun _ => ?_⟩
    rw [w_lt (by omega) (by omega) (by omega) (by omega)]
    refine ⟨fun q => ⟨_, rfl, rfl, by rw [if_neg (by omega)]⟩, fun q => ?_⟩
    exact rests_G (d := d + 1) z1 z2 hn 4 0 0 (by omega) (by omega) hF ⟨_, rfl, rfl, by rw [if_pos (by omega)]⟩
  · exact ⟨fun _ => ⟨_, rfl, rfl, by rw [if_neg (by omega)]⟩, fun q => absurd rfl q⟩
end HB
