/-! YEARS BY DRAWS, THE IMAGE -/
def shv (x : Int64) : Nat := (x.toUInt64 >>> 33).toNat
theorem shv_lt (x : Int64) : shv x < 2147483648 := by
  have h1 : (x.toUInt64 >>> 33).toNat = x.toUInt64.toNat / 2 ^ 33 := by rw [UInt64.toNat_shiftRight]; simp [Nat.shiftRight_eq_div_pow]
  have h2 : x.toUInt64.toNat < 2 ^ 64 := UInt64.toNat_lt _
  unfold shv
  omega
theorem shv_w (x : Int64) : (x.toUInt64 >>> ((w 33).toInt64.toUInt64 &&& Int64.toUInt64 63)).toInt64 = wl (shv x) := by
  have e : ((w 33).toInt64.toUInt64 &&& Int64.toUInt64 63) = 33 := by decide
  rw [e]
  have h := shv_lt x
  apply Int64.toInt_inj.mp
  rw [wl_toInt (by omega) (by omega)]
  show (x.toUInt64 >>> 33).toBitVec.toInt = _
  rw [BitVec.toInt_eq_toNat_of_lt (by show 2 * (x.toUInt64 >>> 33).toNat < 2 ^ 64; unfold shv at h; omega)]
  rfl
/-- a draw out of j -/
theorem drw_ex (x : Int64) (j : Nat) : ∃ y, y = shv x % j := ⟨_, rfl⟩
theorem nxd_ex (x : Int64) : ∃ y, y = x * wl 6364136223846793005 + wl 1442695040888963407 := ⟨_, rfl⟩
noncomputable def drw (x : Int64) (j : Nat) : Nat := Classical.choose (drw_ex x j)
noncomputable def nxd (x : Int64) : Int64 := Classical.choose (nxd_ex x)
theorem drw_e (x : Int64) (j : Nat) : drw x j = shv x % j := Classical.choose_spec (drw_ex x j)
theorem nxd_e (x : Int64) : nxd x = x * wl 6364136223846793005 + wl 1442695040888963407 := Classical.choose_spec (nxd_ex x)
theorem drw_lt (x : Int64) {j : Nat} (h : 0 < j) : drw x j < j := by rw [drw_e]; exact Nat.mod_lt _ h
theorem drw_w (x : Int64) {j : Nat} (h0 : 0 < j) (h1 : j < 1000) : ((wl (shv x)) - (wl (shv x)) / (wl (j : Int)) * (wl (j : Int))).toInt32 = w (drw x j) := by
  have h := shv_lt x
  rw [wl_tdiv (by omega) (by omega) (by omega) (by omega), wl_mul, wl_sub, wl_i, Int.tdiv_eq_ediv_of_nonneg (by omega)]
  congr 1
  have := Int.emod_add_mul_ediv (shv x : Int) (j : Int)
  rw [Int.mul_comm] at this
  rw [drw_e]
  omega
def cpb (n : Nat) (ru : Nat → Int) (bx : Nat → Nat → Int) (s : Nat) (k p : Int) : Bool := decide (0 ≤ k ∧ k < n ∧ 1 ≤ p ∧ p ≤ 9 ∧ s < 8 ∧ bsum bx 1 s + p ≤ ru 0)
/-- boxes, month, meals, acts, and the draws' number -/
def LL : Type := Nat × (Nat → Nat → Int) × Nat × Nat × (Nat → Nat → Int) × AA × Int64
def l0 (L : LL) : Nat := L.1
def l1 (L : LL) : Nat → Nat → Int := L.2.1
def l2 (L : LL) : Nat := L.2.2.1
def l3 (L : LL) : Nat := L.2.2.2.1
def l4 (L : LL) : Nat → Nat → Int := L.2.2.2.2.1
def l5 (L : LL) : AA := L.2.2.2.2.2.1
def l6 (L : LL) : Int64 := L.2.2.2.2.2.2
/-- after the box of a month -/
noncomputable def lvc (n : Nat) (ru : Nat → Int) (L : LL) : Bool := cpb n ru (l1 L) (l0 L) (drw (nxd (l6 L)) n) ((drw (nxd (nxd (l6 L))) 9 : Int) + 1)
noncomputable def lv1 (n : Nat) (ru : Nat → Int) (hab : Int) (L : LL) : LL :=
  (if lvc n ru L = true then l0 L + 1 else l0 L, if lvc n ru L = true then bput (l1 L) (l0 L) (drw (nxd (l6 L)) n) ((drw (nxd (nxd (l6 L))) 9 : Int) + 1) 0 (if (drw (nxd (nxd (nxd (l6 L)))) 10 : Int) < hab then l2 L else -1) else l1 L, l2 L, l3 L, l4 L, asav (l5 L) (l0 L) (l1 L) (l2 L) (l3 L), nxd (nxd (nxd (l6 L))))
/-- box i is eaten -/
def leat (ls : Int → Int → Int → Int → Int → Int → Int) (ki : Nat → Nat → Int) (i : Nat) (L : LL) : LL := (l0 L - 1, bcut (l1 L) i, l2 L, l3 L + 1, mput (l4 L) (l3 L) (l1 L i 0) (l1 L i 1) (l1 L i 2) (vw ls ki (l1 L) (l2 L) i 0 0 i), l5 L, l6 L)
/-- after the meal of a month -/
noncomputable def lvi (L : LL) : Nat := if drw (nxd (l6 L)) 2 = 0 then l0 L - 1 else 0
noncomputable def lv2 (ls : Int → Int → Int → Int → Int → Int → Int) (ki : Nat → Nat → Int) (L : LL) : LL :=
  (if 0 < l0 L then l0 (leat ls ki (lvi L) L) else l0 L, if 0 < l0 L then l1 (leat ls ki (lvi L) L) else l1 L, l2 L, if 0 < l0 L then l3 L + 1 else l3 L, if 0 < l0 L then l4 (leat ls ki (lvi L) L) else l4 L, l5 L, l6 L)
theorem lv2_y {ls : Int → Int → Int → Int → Int → Int → Int} {ki : Nat → Nat → Int} {L : LL} (h : 0 < l0 L) : lv2 ls ki L = leat ls ki (lvi L) L := by
  unfold lv2
  rw [if_pos h, if_pos h, if_pos h, if_pos h]
  rfl
theorem lv2_n {ls : Int → Int → Int → Int → Int → Int → Int} {ki : Nat → Nat → Int} {L : LL} (h : ¬ 0 < l0 L) : lv2 ls ki L = L := by
  unfold lv2
  rw [if_neg h, if_neg h, if_neg h, if_neg h]
  rfl
/-- the month passes -/
def lv3 (hh : Int) (x : Int64) (L : LL) : LL := (l0 L, bmon (l1 L) (l0 L) (l2 L) hh, l2 L + 1, l3 L, l4 L, l5 L, x)
noncomputable def lvm (n : Nat) (ru : Nat → Int) (ki : Nat → Nat → Int) (ls : Int → Int → Int → Int → Int → Int → Int) (hab : Int) (L : LL) : LL := lv3 (ru 2) (nxd (l6 (lv1 n ru hab L))) (lv2 ls ki (lv1 n ru hab L))
def FL (μ : XM) (h n : Nat) (ru : Nat → Int) (ki : Nat → Nat → Int) (ls : Int → Int → Int → Int → Int → Int → Int) (L : LL) (e : Nat) : Prop := FS μ h n ru ki ls (l0 L) (l1 L) (l2 L) (l3 L) (l4 L) (l5 L) e
section YR
variable {Γ : XG} {d h n s m T : Nat} {ru : Nat → Int} {ki bx mg : Nat → Nat → Int} {ls : Int → Int → Int → Int → Int → Int → Int} {μ : XM} {Q : Option Value → XM → Prop} {A : AA} {L : LL} {hab : Int}
theorem cpb_iff {k p : Int} : cpb n ru bx s k p = true ↔ CP n ru bx s k p := by
  unfold cpb CP
  exact decide_eq_true_iff
theorem C_nextDraw (hd : 1 ≤ d) {x : Int64} : Call Γ m_FB_nextDraw d [.long x] μ (KL (fun r μ' => μ' = μ ∧ r = nxd x)) := by
  obtain ⟨d, rfl⟩ : ∃ e, d = e + 1 := ⟨d - 1, by omega⟩
  exact Call.of ok_FB_nextDraw (Nat.le_of_ble_eq_true rfl) (B_FB_nextDraw_0 ⟨_, rfl, rfl, (nxd_e x).symm⟩)
theorem C_drawnOf (hd : 1 ≤ d) {x : Int64} {j : Nat} (h0 : 0 < j) (h1 : j < 1000) : Call Γ m_FB_drawnOf d [.long x, .int (w j)] μ (KI (fun r μ' => μ' = μ ∧ r = w (drw x j))) := by
  obtain ⟨d, rfl⟩ : ∃ e, d = e + 1 := ⟨d - 1, by omega⟩
  refine Call.of ok_FB_drawnOf (Nat.le_of_ble_eq_true rfl) (B_FB_drawnOf_0 ?_)
  rw [w_lt (by omega) (by omega) (by omega) (by omega), w_l (by omega) (by omega), shv_w, drw_w x h0 h1]
  refine ⟨fun _ => ⟨fun z => ?_, _, rfl, rfl, rfl⟩, fun q => absurd (by omega) q⟩
  rw [show (0 : Int64) = wl 0 from rfl, wl_inj (by omega) (by omega) (by omega) (by omega)] at z
  omega
/-- the end of a month -/
theorem tl_pass (hd : 2 ≤ d) {Qv : XM → Prop} {e : Nat} (hF : FS μ h n ru ki ls s bx m T mg A 0) (hm : m < 999) (hQ : ∀ μ', fof wcr μ μ' → FS μ' h n ru ki ls s (bmon bx s m (ru 2)) (m + 1) T mg A 0 → Qv μ') : ∃ a, xR μ 32 1 = some a ∧ zob μ a 1 ∧ ∃ b, xR μ a 0 = some b ∧ zib μ 0 b (w 2) ∧ Call Γ m_Pi_passMonth d [.ref 67, .int (xI μ b (w 2).toNatClampNeg)] μ (KV Qv) := by
  have hH := hF.1.2.1
  have hu := hH.2.2.2.2.1
  unfold RU at hu
  have hr := hH.rl (j := 2) (by omega) (by omega)
  refine ⟨h, hH.2.1, hH.1.ob, h + 1, hH.1.2.2.1, hr.1, ?_⟩
  rw [hr.2, show (2 : Int).toNat = 2 from rfl]
  refine (C_passMonth (by omega) hF.1.2.2.2.1 (by omega) (by omega) (by omega)).conseq (KV.mono ?_)
  rintro μ2 ⟨ho2, hP2⟩
  exact hQ μ2 (off_w ho2) (hF.pile ho2 hP2 (hF.1.2.2.2.2.mon _ _) (by omega))
theorem FL_lv3 {x : Int64} {hh : Int} (hF : FS μ h n ru ki ls (l0 L) (bmon (l1 L) (l0 L) (l2 L) hh) (l2 L + 1) (l3 L) (l4 L) (l5 L) 0) : FL μ h n ru ki ls (lv3 hh x L) 0 := hF
theorem tl_eat (hd : 5 ≤ d) {Qv : XM → Prop} (hT2 : l3 L < 1000000) (hF : FL μ h n ru ki ls L 1) (hA : 0 < aC (l5 L)) (hm : l2 L < 999) {i : Nat} (hi : i < l0 L) (x : Int64) (hQ : ∀ μ', fof wcr μ μ' → FL μ' h n ru ki ls (lv3 (ru 2) x (leat ls ki i L)) 0 → Qv μ') : Call Γ m_FB_eatBox d [.ref 32, .int (w i)] μ (KI (fun _ μ1 => xR μ1 32 9 = some 67 ∧ ∃ a, xR μ1 32 1 = some a ∧ zob μ1 a 1 ∧ ∃ b, xR μ1 a 0 = some b ∧ zib μ1 0 b (w 2) ∧ Call Γ m_Pi_passMonth d [.ref 67, .int (xI μ1 b (w 2).toNatClampNeg)] μ1 (KV Qv))) := by
  refine (C_eatBox (by omega) hT2 hF hA hi).conseq (KI.mono ?_)
  rintro r μ1 ⟨ho, rfl, hF1⟩
  exact ⟨hF1.1.1.r 32 9 67 rfl, tl_pass (e := 0) (by omega) hF1 hm (fun μ2 g1 g2 => hQ μ2 (ho.trans g1) g2)⟩
/-- the tail of a month: a meal if there is a box, then the month passes -/
theorem tl_all (hd : 5 ≤ d) {Qv : XM → Prop} (hT2 : l3 L < 1000000) (hF : FL μ h n ru ki ls L 1) (hA : 0 < aC (l5 L)) (hm : l2 L < 999) {t : Bool} (hQ : ∀ μ', fof wcr μ μ' → FL μ' h n ru ki ls (lv3 (ru 2) (nxd (l6 L)) (lv2 ls ki L)) 0 → Qv μ') (ht : (drw (nxd (l6 L)) 2 = 0) ↔ t = true) :
    ((w 0 < xI μ 67 4 → ((w (if t = true then 1 else 0) = w 0 → Call Γ m_FB_eatBox d [.ref 32, .int (w 0)] μ (KI (fun _ μ1 => xR μ1 32 9 = some 67 ∧ ∃ a, xR μ1 32 1 = some a ∧ zob μ1 a 1 ∧ ∃ b, xR μ1 a 0 = some b ∧ zib μ1 0 b (w 2) ∧ Call Γ m_Pi_passMonth d [.ref 67, .int (xI μ1 b (w 2).toNatClampNeg)] μ1 (KV Qv)))) ∧ (¬ w (if t = true then 1 else 0) = w 0 → Call Γ m_FB_eatBox d [.ref 32, .int ((xI μ 67 4) - (w 1))] μ (KI (fun _ μ1 => xR μ1 32 9 = some 67 ∧ ∃ a, xR μ1 32 1 = some a ∧ zob μ1 a 1 ∧ ∃ b, xR μ1 a 0 = some b ∧ zib μ1 0 b (w 2) ∧ Call Γ m_Pi_passMonth d [.ref 67, .int (xI μ1 b (w 2).toNatClampNeg)] μ1 (KV Qv)))))) ∧ (¬ w 0 < xI μ 67 4 → ∃ a, xR μ 32 1 = some a ∧ zob μ a 1 ∧ ∃ b, xR μ a 0 = some b ∧ zib μ 0 b (w 2) ∧ Call Γ m_Pi_passMonth d [.ref 67, .int (xI μ b (w 2).toNatClampNeg)] μ (KV Qv))) := by
  have hP := hF.1.2.2.2.1
  have hs := hP.2.1
  rw [hP.2.2.2.1, w_lt (by omega) (by omega) (by omega) (by omega), w_sub]
  refine ⟨fun q => ⟨fun q2 => ?_, fun q2 => ?_⟩, fun q => ?_⟩
  · have h0 : ¬ drw (nxd (l6 L)) 2 = 0 := by
      intro z
      rw [ht.mp z] at q2
      exact absurd q2 (by decide)
    rw [lv2_y (by omega), lvi, if_neg h0] at hQ
    exact tl_eat (i := 0) hd hT2 hF hA hm (by omega) _ hQ
  · have h0 : drw (nxd (l6 L)) 2 = 0 := by
      refine ht.mpr ?_
      cases t with
      | true => rfl
      | false => exact absurd rfl q2
    rw [lv2_y (by omega), lvi, if_pos h0] at hQ
    rw [show (l0 L : Int) - 1 = ((l0 L - 1 : Nat) : Int) by omega]
    exact tl_eat hd hT2 hF hA hm (by omega) _ hQ
  · rw [lv2_n (by omega)] at hQ
    exact tl_pass (e := 0) (by omega) hF.e0 hm (fun μ2 g1 g2 => hQ μ2 g1 (FL_lv3 g2))
theorem C_liveMonth (hd : 6 ≤ d) (hT2 : l3 L < 1000000) (hF : FL μ h n ru ki ls L 0) (hn : 0 < n) (hm : l2 L < 999) (hh : xI μ 32 8 = w hab) (hh0 : 0 ≤ hab) (hh1 : hab ≤ 9) : Call Γ m_FB_liveMonth d [.ref 32, .long (l6 L)] μ (KL (fun r μ' => fof wcr μ μ' ∧ r = l6 (lvm n ru ki ls hab L) ∧ FL μ' h n ru ki ls (lvm n ru ki ls hab L) 0)) := by
  obtain ⟨d, rfl⟩ : ∃ e, d = e + 1 := ⟨d - 1, by omega⟩
  have hn6 := hF.1.2.1.2.2.1
  refine Call.of ok_FB_liveMonth (Nat.le_of_ble_eq_true rfl) (B_FB_liveMonth_0 hF.1.1.ob ?_)
  refine (C_saveAct (by omega) hT2 hF).conseq (KV.mono ?_)
  rintro μ1 ⟨ho, hF1⟩
  refine (C_nextDraw (by omega)).conseq (KL.mono ?_)
  rintro x μ2 ⟨rfl, rfl⟩
  refine ⟨h, hF1.1.2.1.2.1, hF1.1.2.1.1.ob, ?_⟩
  rw [hF1.1.2.1.2.2.2.1]
  refine (C_drawnOf (by omega) hn (by omega)).conseq (KI.mono ?_)
  rintro x μ3 ⟨rfl, rfl⟩
  refine (C_nextDraw (by omega)).conseq (KL.mono ?_)
  rintro x μ4 ⟨rfl, rfl⟩
  refine (C_drawnOf (j := 9) (by omega) (by omega) (by omega)).conseq (KI.mono ?_)
  rintro x μ5 ⟨rfl, rfl⟩
  refine (C_nextDraw (by omega)).conseq (KL.mono ?_)
  rintro x μ6 ⟨rfl, rfl⟩
  refine (C_drawnOf (j := 10) (by omega) (by omega) (by omega)).conseq (KI.mono ?_)
  rintro x μ7 ⟨rfl, rfl⟩
  have hk : drw (nxd (l6 L)) n < n := drw_lt _ hn
  have hp : drw (nxd (nxd (l6 L))) 9 < 9 := drw_lt _ (by omega)
  have hl : drw (nxd (nxd (nxd (l6 L)))) 10 < 10 := drw_lt _ (by omega)
  have hs8 := hF1.1.2.2.2.1.2.1
  rw [ho.1 32 (by unfold acr; omega), hh, w_lt (by omega) (by omega) (by omega) (by omega), w_add]
  have step : ∀ lab : Bool, ((drw (nxd (nxd (nxd (l6 L)))) 10 : Int) < hab ↔ lab = true) → G Γ m_FB_liveMonth (d + 1) (0, 0) (KL (fun r μ' => fof wcr μ μ' ∧ r = l6 (lvm n ru ki ls hab L) ∧ FL μ' h n ru ki ls (lvm n ru ki ls hab L) 0)) 60 [.ref 32, jk, jk, .long (nxd (nxd (nxd (l6 L)))), jk, .int (w (drw (nxd (l6 L)) n)), .int (w ((drw (nxd (nxd (l6 L))) 9 : Int) + 1))] [.int (w (if lab = true then 1 else 0))] μ7 := by
    intro lab hlab
    have fin : ∀ (μ2 : XM), fof wcr μ μ2 → FL μ2 h n ru ki ls (lv1 n ru hab L) 1 → l3 (lv1 n ru hab L) = l3 L → l2 (lv1 n ru hab L) = l2 L → l6 (lv1 n ru hab L) = nxd (nxd (nxd (l6 L))) → 0 < aC (l5 (lv1 n ru hab L)) →
        Call Γ m_FB_nextDraw d [.long (nxd (nxd (nxd (l6 L))))] μ2 (KL (fun r μ' => μ' = μ2 ∧ r = nxd (l6 (lv1 n ru hab L)))) ∧ Call Γ m_FB_drawnOf d [.long (nxd (l6 (lv1 n ru hab L))), .int (w 2)] μ2 (KI (fun r μ' => μ' = μ2 ∧ r = w (drw (nxd (l6 (lv1 n ru hab L))) 2))) := by
      intro μ2 _ _ _ _ e6 _
      rw [e6]
      exact ⟨C_nextDraw (by omega), C_drawnOf (j := 2) (by omega) (by omega) (by omega)⟩
    refine B_FB_liveMonth_60 hF1.1.1.ob (hF1.1.1.r 32 9 67 rfl) hF1.1.2.2.2.1.1.ob ?_
    refine (C_canPutF (by omega) hF1.1.1 hF1.1.2.1 hF1.1.2.2.2.1 (by omega) (by omega) (by omega) (by omega)).conseq (KI.mono ?_)
    rintro r μ2 ⟨rfl, ⟨hc, rfl⟩ | ⟨hc, rfl⟩⟩
    · refine ⟨fun q => absurd q (by decide), fun _ => ⟨hF1.1.1.r 32 9 67 rfl, ?_⟩⟩
      have e1 : lv1 n ru hab L = (l0 L + 1, bput (l1 L) (l0 L) (drw (nxd (l6 L)) n) ((drw (nxd (nxd (l6 L))) 9 : Int) + 1) 0 (if (drw (nxd (nxd (nxd (l6 L)))) 10 : Int) < hab then l2 L else -1), l2 L, l3 L, l4 L, asav (l5 L) (l0 L) (l1 L) (l2 L) (l3 L), nxd (nxd (nxd (l6 L)))) := by
        have hc2 : lvc n ru L = true := cpb_iff.mpr hc
        unfold lv1
        rw [if_pos hc2, if_pos hc2]
      unfold CP at hc
      have psh : ∀ lm : Int, (lm = if (drw (nxd (nxd (nxd (l6 L)))) 10 : Int) < hab then (l2 L : Int) else -1) → G Γ m_FB_liveMonth (d + 1) (0, 0) (KL (fun r μ' => fof wcr μ μ' ∧ r = l6 (lvm n ru ki ls hab L) ∧ FL μ' h n ru ki ls (lvm n ru ki ls hab L) 0)) 102 [.ref 32, jk, jk, .long (nxd (nxd (nxd (l6 L))))] [.int (w lm), .int (w 0), .int (w ((drw (nxd (nxd (l6 L))) 9 : Int) + 1)), .int (w (drw (nxd (l6 L)) n)), .ref 67] μ2 := by
        intro lm hlm
        have hlm2 : -1 ≤ lm ∧ lm ≤ 2000 := by
          rw [hlm]
          split <;> omega
        refine B_FB_liveMonth_102 hF1.1.2.2.2.1.1.ob hF1.1.1.ob ?_
        refine (C_push (by omega) hF1.1.2.2.2.1 (by omega) (by unfold BB; simp; omega)).conseq (KV.mono ?_)
        rintro μ3 ⟨ho3, hP3⟩
        have hF3 : FL μ3 h n ru ki ls (lv1 n ru hab L) 1 := by
          rw [e1, ← hlm]
          exact FS.pile hF1 ho3 hP3 (hF1.1.2.2.2.2.put hc.2.1) hF1.2.1
        have g3 := (ho.wide acr_w).trans (off_w ho3)
        have e6 : l6 (lv1 n ru hab L) = nxd (nxd (nxd (l6 L))) := by rw [e1]; rfl
        have e3 : l3 (lv1 n ru hab L) = l3 L := by rw [e1]; rfl
        have e2 : l2 (lv1 n ru hab L) = l2 L := by rw [e1]; rfl
        have e5 : 0 < aC (l5 (lv1 n ru hab L)) := by rw [e1]; exact asav_pos
        obtain ⟨c1, c2⟩ := fin μ3 g3 hF3 e3 e2 e6 e5
        refine c1.conseq (KL.mono ?_)
        rintro x μ4 ⟨rfl, rfl⟩
        refine c2.conseq (KI.mono ?_)
        rintro x μ5 ⟨rfl, rfl⟩
        have hd2 : drw (nxd (l6 (lv1 n ru hab L))) 2 < 2 := drw_lt _ (by omega)
        have ta : ∀ t, (drw (nxd (l6 (lv1 n ru hab L))) 2 = 0 ↔ t = true) → _ := fun t ht => tl_all (Qv := fun μ' => KL (fun r μ' => fof wcr μ μ' ∧ r = l6 (lvm n ru ki ls hab L) ∧ FL μ' h n ru ki ls (lvm n ru ki ls hab L) 0) (some (.long (nxd (l6 (lv1 n ru hab L))))) μ') (Γ := Γ) (d := d) (by omega) (by omega) hF3 e5 (by omega) (t := t) (fun μ6 g1 g2 => ⟨_, rfl, g3.trans g1, rfl, g2⟩) ht
        refine ⟨fun q => ⟨67, hF3.1.1.r 32 9 67 rfl, hF3.1.2.2.2.1.1.ob, ?_⟩, fun q => ⟨67, hF3.1.1.r 32 9 67 rfl, hF3.1.2.2.2.1.1.ob, ?_⟩⟩
        · rw [w_inj (by omega) (by omega) (by omega) (by omega)] at q
          exact ta true ⟨fun _ => rfl, fun _ => by omega⟩
        · rw [w_inj (by omega) (by omega) (by omega) (by omega)] at q
          exact ta false ⟨fun z => absurd (by omega) q, fun z => absurd z (by decide)⟩
      refine ⟨fun q => psh (-1) ?_, fun q => ?_⟩
      · cases lab with
        | true => exact absurd q (by decide)
        | false => rw [if_neg (fun z => absurd (hlab.mp z) (by decide))]
      · rw [hF1.1.2.2.2.1.2.2.2.2.1]
        refine psh (l2 L) ?_
        cases lab with
        | true => rw [if_pos (hlab.mpr rfl)]
        | false => exact absurd rfl q
    · refine ⟨fun _ => ?_, fun q => absurd rfl q⟩
      have e1 : lv1 n ru hab L = (l0 L, l1 L, l2 L, l3 L, l4 L, asav (l5 L) (l0 L) (l1 L) (l2 L) (l3 L), nxd (nxd (nxd (l6 L)))) := by
        have hc2 : ¬ lvc n ru L = true := fun z => hc (cpb_iff.mp z)
        unfold lv1
        rw [if_neg hc2, if_neg hc2]
      have hF3 : FL μ2 h n ru ki ls (lv1 n ru hab L) 1 := by
        rw [e1]
        exact hF1
      have g3 := ho.wide acr_w
      have e6 : l6 (lv1 n ru hab L) = nxd (nxd (nxd (l6 L))) := by rw [e1]; rfl
      have e3 : l3 (lv1 n ru hab L) = l3 L := by rw [e1]; rfl
      have e2 : l2 (lv1 n ru hab L) = l2 L := by rw [e1]; rfl
      have e5 : 0 < aC (l5 (lv1 n ru hab L)) := by rw [e1]; exact asav_pos
      obtain ⟨c1, c2⟩ := fin μ2 g3 hF3 e3 e2 e6 e5
      refine c1.conseq (KL.mono ?_)
      rintro x μ4 ⟨rfl, rfl⟩
      refine c2.conseq (KI.mono ?_)
      rintro x μ5 ⟨rfl, rfl⟩
      have hd2 : drw (nxd (l6 (lv1 n ru hab L))) 2 < 2 := drw_lt _ (by omega)
      have ta : ∀ t, (drw (nxd (l6 (lv1 n ru hab L))) 2 = 0 ↔ t = true) → _ := fun t ht => tl_all (Qv := fun μ' => KL (fun r μ' => fof wcr μ μ' ∧ r = l6 (lvm n ru ki ls hab L) ∧ FL μ' h n ru ki ls (lvm n ru ki ls hab L) 0) (some (.long (nxd (l6 (lv1 n ru hab L))))) μ') (Γ := Γ) (d := d) (by omega) (by omega) hF3 e5 (by omega) (t := t) (fun μ6 g1 g2 => ⟨_, rfl, g3.trans g1, rfl, g2⟩) ht
      refine ⟨fun q => ⟨hF3.1.1.r 32 9 67 rfl, ?_⟩, fun q => ⟨hF3.1.1.r 32 9 67 rfl, ?_⟩⟩
      · rw [w_inj (by omega) (by omega) (by omega) (by omega)] at q
        exact ta true ⟨fun _ => rfl, fun _ => by omega⟩
      · rw [w_inj (by omega) (by omega) (by omega) (by omega)] at q
        exact ta false ⟨fun z => absurd (by omega) q, fun z => absurd z (by decide)⟩
  exact ⟨fun q => step true ⟨fun _ => rfl, fun _ => q⟩, fun q => step false ⟨fun z => absurd z q, fun z => absurd z (by decide)⟩⟩
end YR
