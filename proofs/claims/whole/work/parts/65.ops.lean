/-! WHAT CHANGES THE BOXES, in the class -/
/-- the acts kept: how many, sizes, boxes, months, meals ahead -/
def AA : Type := Nat × (Nat → Nat) × (Nat → Nat → Nat → Int) × (Nat → Nat) × (Nat → Nat)
def aC (A : AA) : Nat := A.1
def aS (A : AA) : Nat → Nat := A.2.1
def aB (A : AA) : Nat → Nat → Nat → Int := A.2.2.1
def aM (A : AA) : Nat → Nat := A.2.2.2.1
def aT (A : AA) : Nat → Nat := A.2.2.2.2
def asav (A : AA) (s : Nat) (bx : Nat → Nat → Int) (m T : Nat) : AA := (min 40 (aC A + 1), shf (aS A) (aC A) s, shf (aB A) (aC A) bx, shf (aM A) (aC A) m, shf (aT A) (aC A) T)
def apop (A : AA) : AA := (aC A - 1, aS A, aB A, aM A, aT A)
/-- the meals from which on the ring is good, 60 later -/
def alo (A : AA) (T : Nat) : Nat := if aC A = 0 then T else aT A 0
def wcr (c : Nat) : Prop := scr c ∨ (67 ≤ c ∧ c < 382)
/-- the class's boxes, log and acts -/
def FS (μ : XM) (h n : Nat) (ru : Nat → Int) (ki : Nat → Nat → Int) (ls : Int → Int → Int → Int → Int → Int → Int) (s : Nat) (bx : Nat → Nat → Int) (m T : Nat) (mg : Nat → Nat → Int) (A : AA) (e : Nat) : Prop :=
  FQ μ h n ru ki s bx m ls ∧ m ≤ 999 ∧ xI μ 280 1 = w T ∧ MR μ 282 (alo A T) T mg ∧ ∃ nx, AV μ n (aC A) nx T e (aS A) (aB A) (aM A) (aT A)
theorem AV.e0 {μ : XM} {n c nx T : Nat} {as : Nat → Nat} {ab : Nat → Nat → Nat → Int} {am aT : Nat → Nat} (h : AV μ n c nx T 1 as ab am aT) : AV μ n c nx T 0 as ab am aT := ⟨h.1, h.2.1, h.2.2.1, h.2.2.2.1, fun j hj => by
  obtain ⟨b1, b2, b3, b4, b5, b6, b7⟩ := h.2.2.2.2 j hj
  exact ⟨b1, b2, b3, b4, b5, by omega, b7⟩⟩
theorem AV.up {μ : XM} {n c nx T : Nat} {as : Nat → Nat} {ab : Nat → Nat → Nat → Int} {am aT : Nat → Nat} (h : AV μ n c nx T 1 as ab am aT) : AV μ n c nx (T + 1) 0 as ab am aT := ⟨h.1, h.2.1, h.2.2.1, h.2.2.2.1, fun j hj => by
  obtain ⟨b1, b2, b3, b4, b5, b6, b7⟩ := h.2.2.2.2 j hj
  exact ⟨b1, b2, b3, b4, by omega, by omega, b7⟩⟩
section OP
variable {Γ : XG} {d h n s m T : Nat} {ru : Nat → Int} {ki bx mg : Nat → Nat → Int} {ls : Int → Int → Int → Int → Int → Int → Int} {μ : XM} {Q : Option Value → XM → Prop} {A : AA}
theorem FS.e0 (hF : FS μ h n ru ki ls s bx m T mg A 1) : FS μ h n ru ki ls s bx m T mg A 0 := by
  obtain ⟨h1, h2, h3, h4, nx, h5⟩ := hF
  exact ⟨h1, h2, h3, h4, nx, h5.e0⟩
/-- another pile now, all else as it was -/
theorem FS.pile {μ' : XM} {s' m' e : Nat} {bx' : Nat → Nat → Int} (hF : FS μ h n ru ki ls s bx m T mg A e) (ho : off 67 72 μ μ') (hP : PF μ' 67 s' bx' m') (hK : KN bx' s' n) (hm : m' ≤ 999) : FS μ' h n ru ki ls s' bx' m' T mg A e := by
  obtain ⟨⟨f1, f2, f3, f4, f5⟩, h2, h3, h4, nx, h5⟩ := hF
  have g : fof (fun c => 67 ≤ c ∧ c < 72) μ μ' := ho.fof (fun c c1 c2 => ⟨c1, c2⟩)
  exact ⟨⟨f1.of g.2.2.1 g.2.2.2, f2.fof g (fun c c1 c2 => by omega), f3.fof g (by omega) (fun i hi => by omega), hP, hK⟩, hm, by rw [g.1 280 (by omega)]; exact h3, h4.fof g (fun i hi => by omega), nx, h5.fof g (fun c c1 c2 => by omega)⟩
theorem FS.sc {μ' : XM} {e : Nat} (hF : FS μ h n ru ki ls s bx m T mg A e) (g : fof scr μ μ') : FS μ' h n ru ki ls s bx m T mg A e := by
  obtain ⟨h1, h2, h3, h4, nx, h5⟩ := hF
  exact ⟨h1.sc g, h2, by rw [g.1 280 (by unfold scr; omega)]; exact h3, h4.fof g (fun i hi => by unfold scr; omega), nx, h5.fof g (fun c c1 c2 => by unfold scr; omega)⟩
theorem C_saveAct (hd : 4 ≤ d) (hT2 : T < 1000000) (hF : FS μ h n ru ki ls s bx m T mg A 0) : Call Γ m_FB_saveAct d [.ref 32] μ (KV (fun μ' => fof acr μ μ' ∧ FS μ' h n ru ki ls s bx m T mg (asav A s bx m T) 1)) := by
  obtain ⟨d, rfl⟩ : ∃ e, d = e + 1 := ⟨d - 1, by omega⟩
  obtain ⟨h1, h2, h3, h4, nx, h5⟩ := hF
  have hR := h1.1
  refine Call.of ok_FB_saveAct (Nat.le_of_ble_eq_true rfl) (B_FB_saveAct_0 hR.ob (hR.r 32 11 77 rfl) (hR.r 32 9 67 rfl) (hR.r 32 12 280 rfl) (hR.o rfl (by omega)) (hR.o rfl (by omega)) ?_)
  rw [h3]
  refine (C_save (by omega) hR h1.2.2.2.1 h1.2.2.2.2 h2 hT2 h5).conseq (KV.mono ?_)
  rintro μ1 ⟨ho, hA⟩
  refine ⟨rfl, ho, ⟨hR.of ho.2.2.1 ho.2.2.2, h1.2.1.fof ho (fun c c1 c2 => by unfold acr; omega), h1.2.2.1.fof ho (by unfold acr; omega) (fun i hi => by unfold acr; omega), h1.2.2.2.1.fof ho (fun c c1 c2 => by unfold acr; omega), h1.2.2.2.2⟩, h2, by rw [ho.1 280 (by unfold acr; omega)]; exact h3, (h4.fof ho (fun i hi => by unfold acr; omega)).less (Nat.le_refl _) ?_, _, hA⟩
  unfold alo
  have c40 := h5.1
  rw [show (if aC (asav A s bx m T) = 0 then T else aT (asav A s bx m T) 0) = shf (aT A) (aC A) T 0 from if_neg (by show ¬ min 40 (aC A + 1) = 0; omega)]
  unfold shf
  by_cases e : aC A = 0
  · rw [if_pos e, if_pos (by omega), if_pos (by omega)]
    exact Nat.le_refl _
  · rw [if_neg e]
    by_cases e2 : aC A < 40
    · rw [if_pos e2, if_neg (by omega)]
      exact Nat.le_refl _
    · rw [if_neg e2, if_neg (by omega)]
      exact ((h5.2.2.2.2 1 (by omega)).2.2.2.2.2.2 0 (by omega)).1
theorem KN.cut (hK : KN bx s n) (i : Nat) : KN (bcut bx i) (s - 1) n := fun j hj => by
  unfold bcut
  by_cases e : i ≤ j
  · rw [if_pos e]; exact hK (j + 1) (by omega)
  · rw [if_neg e]; exact hK j (by omega)
theorem C_eatBox (hd : 5 ≤ d) (hT2 : T < 1000000) (hF : FS μ h n ru ki ls s bx m T mg A 1) (hA : 0 < aC A) {i : Nat} (hi : i < s) : Call Γ m_FB_eatBox d [.ref 32, .int (w i)] μ (KI (fun r μ' => fof wcr μ μ' ∧ r = w (vw ls ki bx m i 0 0 i) ∧ FS μ' h n ru ki ls (s - 1) (bcut bx i) m (T + 1) (mput mg T (bx i 0) (bx i 1) (bx i 2) (vw ls ki bx m i 0 0 i)) A 0)) := by
  obtain ⟨d, rfl⟩ : ∃ e, d = e + 1 := ⟨d - 1, by omega⟩
  have hF0 := hF
  obtain ⟨h1, h2, h3, h4, nx, h5⟩ := hF
  have hR := h1.1
  have hs := h1.2.2.2.1.2.1
  refine Call.of ok_FB_eatBox (Nat.le_of_ble_eq_true rfl) (B_FB_eatBox_0 hR.ob (hR.r 32 9 67 rfl) h1.2.2.2.1.1.ob ?_)
  refine (C_valueOf (by omega) hR h1.2.1 h1.2.2.1 h1.2.2.2.1 h1.2.2.2.2 (by omega) hi).conseq (KI.mono ?_)
  rintro r μ1 ⟨ho, rfl⟩
  obtain ⟨k1, k2, k3, k4, kx, k5⟩ := hF0.sc ho
  have hR1 := k1.1
  have hP1 := k1.2.2.2.1
  obtain ⟨⟨x0, x1, x2, x3⟩, hb⟩ := hP1.2.2.2.2.2 i hi
  refine ⟨280, hR1.r 32 12 280 rfl, hR1.r 32 9 67 rfl, 68, hP1.1.2.2.1, hP1.ib (q := 1) (by omega) (by omega) hi, 69, hP1.1.2.2.2.1, hP1.ib (q := 2) (by omega) (by omega) hi, 70, hP1.1.2.2.2.2.1, hP1.ib (q := 3) (by omega) (by omega) hi, hR1.o rfl (by omega), ?_⟩
  rw [w_cln (by omega), x0, x1, x2]
  have hl : alo A T = aT A 0 := by unfold alo; rw [if_neg (by omega)]
  obtain ⟨b1, b2, b3, b4, b5, b6, b7⟩ := k5.2.2.2.2 0 (by omega)
  have c40 := k5.1
  refine (C_meAdd (by omega) hR1 k3 hT2 (by omega) k4).conseq (KV.mono ?_)
  rintro μ2 ⟨ho2, e2, hM⟩
  have hR2 := hR1.of ho2.2.2.1 ho2.2.2.2
  refine ⟨hR2.r 32 9 67 rfl, ?_⟩
  have hP2 := hP1.fof ho2 (fun c c1 c2 => by unfold mcr; omega)
  refine (C_remove (by omega) hP2 hi).conseq (KV.mono ?_)
  rintro μ3 ⟨ho3, hP3⟩
  have hF2 : FS μ2 h n ru ki ls s bx m (T + 1) (mput mg T (bx i 0) (bx i 1) (bx i 2) (vw ls ki bx m i 0 0 i)) A 0 := by
    refine ⟨⟨hR2, k1.2.1.fof ho2 (fun c c1 c2 => by unfold mcr; omega), k1.2.2.1.fof ho2 (by unfold mcr; omega) (fun i hi => by unfold mcr; omega), hP2, k1.2.2.2.2⟩, k2, e2, ?_, kx, k5.up.fof ho2 (fun c c1 c2 => by unfold mcr; omega)⟩
    rw [show alo A (T + 1) = alo A T by unfold alo; rw [if_neg (by omega), if_neg (by omega)]]
    exact hM
  exact ⟨_, rfl, ((ho.wide (fun c q => Or.inl q)).trans (ho2.wide (fun c q => Or.inr (by unfold mcr at q; omega)))).trans (ho3.fof (fun c c1 c2 => Or.inr (by omega))), rfl, hF2.pile ho3 hP3 (h1.2.2.2.2.cut i) h2⟩
theorem acr_w (c : Nat) (q : acr c) : wcr c := Or.inr (by unfold acr at q; omega)
theorem off_w {μ μ' : XM} (ho : off 67 72 μ μ') : fof wcr μ μ' := ho.fof (fun c c1 c2 => Or.inr (by omega))
theorem KN.put (hK : KN bx s n) {k p g l : Int} (h : k < n) : KN (bput bx s k p g l) (s + 1) n := fun j hj => by
  unfold bput
  by_cases e : j = s
  · rw [if_pos e, if_pos rfl]; exact h
  · rw [if_neg e]; exact hK j (by omega)
theorem C_putF (hd : 5 ≤ d) (hT2 : T < 1000000) (hF : FS μ h n ru ki ls s bx m T mg A 0) {k p l : Int} (k1 : -2147483648 ≤ k) (k2 : k < 2147483648) (p1 : -2147483648 ≤ p) (p2 : p < 2147483648) (l0 : 0 ≤ l) (l1 : l ≤ 1) : Call Γ m_FB_put d [.ref 32, .int (w k), .int (w p), .int (w l)] μ (KI (fun r μ' => fof wcr μ μ' ∧ ((CP n ru bx s k p ∧ r = w ((s + 1 : Nat) : Int) ∧ FS μ' h n ru ki ls (s + 1) (bput bx s k p 0 (if l = 0 then -1 else m)) m T mg (asav A s bx m T) 0) ∨ (¬ CP n ru bx s k p ∧ r = w (-1) ∧ FS μ' h n ru ki ls s bx m T mg A 0)))) := by
  obtain ⟨d, rfl⟩ : ∃ e, d = e + 1 := ⟨d - 1, by omega⟩
  have h1 := hF.1
  have hR := h1.1
  refine Call.of ok_FB_put (Nat.le_of_ble_eq_true rfl) (B_FB_put_0 hR.ob (hR.r 32 9 67 rfl) h1.2.2.2.1.1.ob ?_)
  refine (C_canPutF (by omega) hR h1.2.1 h1.2.2.2.1 k1 k2 p1 p2).conseq (KI.mono ?_)
  rintro r μ1 ⟨rfl, ⟨hc, rfl⟩ | ⟨hc, rfl⟩⟩
  · refine ⟨fun q => absurd q (by decide), fun _ => ?_⟩
    have hc' := hc
    unfold CP at hc
    refine (C_saveAct (by omega) hT2 hF).conseq (KV.mono ?_)
    rintro μ2 ⟨ho, hF2⟩
    have hP2 := hF2.1.2.2.2.1
    have hm := hF2.2.1
    have hn := hF2.1.2.1.2.2.1
    refine ⟨hF2.1.1.r 32 9 67 rfl, fun q => ?_, fun q => ?_⟩
    · rw [w_inj (by omega) (by omega) (by omega) (by omega)] at q
      rw [if_pos q]
      refine (C_push (by omega) hP2 hc.2.2.2.2.1 (by unfold BB; simp; omega)).conseq (KV.mono ?_)
      rintro μ3 ⟨ho3, hP3⟩
      have hF3 := (hF2.e0).pile ho3 hP3 (hF2.1.2.2.2.2.put hc.2.1) hm
      exact ⟨hF3.1.1.r 32 9 67 rfl, _, rfl, (ho.wide acr_w).trans (off_w ho3), Or.inl ⟨hc', hP3.2.2.2.1, hF3⟩⟩
    · rw [w_inj (by omega) (by omega) (by omega) (by omega)] at q
      rw [if_neg q, hP2.2.2.2.2.1]
      refine (C_push (by omega) hP2 hc.2.2.2.2.1 (by unfold BB; simp; omega)).conseq (KV.mono ?_)
      rintro μ3 ⟨ho3, hP3⟩
      have hF3 := (hF2.e0).pile ho3 hP3 (hF2.1.2.2.2.2.put hc.2.1) hm
      exact ⟨hF3.1.1.r 32 9 67 rfl, _, rfl, (ho.wide acr_w).trans (off_w ho3), Or.inl ⟨hc', hP3.2.2.2.1, hF3⟩⟩
  · exact ⟨fun _ => ⟨_, rfl, fof.rf _ _, Or.inr ⟨hc, rfl, hF⟩⟩, fun q => absurd rfl q⟩
theorem asav_pos : 0 < aC (asav A s bx m T) := by
  show 0 < min 40 (aC A + 1)
  omega
theorem C_takeF (hd : 6 ≤ d) (hT2 : T < 1000000) (hF : FS μ h n ru ki ls s bx m T mg A 0) {z : Int} (z1 : -2147483648 ≤ z) (z2 : z < 2147483648) : Call Γ m_FB_take d [.ref 32, .int (w z)] μ (KI (fun r μ' => fof wcr μ μ' ∧ (((0 ≤ z ∧ z < s) ∧ r = w (vpl ls ki bx m s z.toNat) ∧ FS μ' h n ru ki ls (s - 1) (bcut bx (s - 1 - z.toNat)) m (T + 1) (mput mg T (bx (s - 1 - z.toNat) 0) (bx (s - 1 - z.toNat) 1) (bx (s - 1 - z.toNat) 2) (vpl ls ki bx m s z.toNat)) (asav A s bx m T) 0) ∨ (¬ (0 ≤ z ∧ z < s) ∧ r = w (-1) ∧ FS μ' h n ru ki ls s bx m T mg A 0)))) := by
  obtain ⟨d, rfl⟩ : ∃ e, d = e + 1 := ⟨d - 1, by omega⟩
  have h1 := hF.1
  have hR := h1.1
  refine Call.of ok_FB_take (Nat.le_of_ble_eq_true rfl) (B_FB_take_0 hR.ob (hR.r 32 9 67 rfl) h1.2.2.2.1.1.ob ?_)
  refine (C_hasPlace (by omega) h1.2.2.2.1 z1 z2).conseq (KI.mono ?_)
  rintro r μ1 ⟨rfl, ⟨g1, g2, rfl⟩ | ⟨g1, rfl⟩⟩
  · refine ⟨fun q => absurd q (by decide), fun _ => ?_⟩
    refine (C_saveAct (by omega) hT2 hF).conseq (KV.mono ?_)
    rintro μ2 ⟨ho, hF2⟩
    refine ⟨hF2.1.1.r 32 9 67 rfl, ?_⟩
    refine (C_indexOf (by omega) hF2.1.2.2.2.1).conseq (KI.mono ?_)
    rintro r μ3 ⟨rfl, rfl⟩
    rw [show (s : Int) - 1 - z = ((s - 1 - z.toNat : Nat) : Int) by omega]
    refine (C_eatBox (by omega) hT2 hF2 asav_pos (by omega)).conseq (KI.mono ?_)
    rintro r μ4 ⟨ho4, rfl, hF4⟩
    exact ⟨_, rfl, (ho.wide acr_w).trans ho4, Or.inl ⟨⟨g1, g2⟩, rfl, hF4⟩⟩
  · exact ⟨fun _ => ⟨_, rfl, fof.rf _ _, Or.inr ⟨g1, rfl, hF⟩⟩, fun q => absurd rfl q⟩
theorem KN.set (hK : KN bx s n) (i : Nat) (v : Int) : KN (bset bx i 3 v) s n := fun j hj => by
  unfold bset
  rw [if_neg (by omega)]
  exact hK j hj
theorem KN.old (hK : KN bx s n) (v : Int) (i : Nat) : KN (bold bx v i) s n := fun j hj => by
  unfold bold
  rw [if_neg (by omega)]
  exact hK j hj
theorem KN.mon (hK : KN bx s n) (m h : Int) : KN (bmon bx s m h) s n := fun j hj => by
  unfold bmon bfall
  rw [if_neg (by omega)]
  exact hK.old 1 s j hj
theorem C_labelF (hd : 6 ≤ d) (hT2 : T < 1000000) (hF : FS μ h n ru ki ls s bx m T mg A 0) {z : Int} (z1 : -2147483648 ≤ z) (z2 : z < 2147483648) : Call Γ m_FB_label d [.ref 32, .int (w z)] μ (KI (fun r μ' => fof wcr μ μ' ∧ (((0 ≤ z ∧ z < s ∧ bx (s - 1 - z.toNat) 3 = -1) ∧ r = w 1 ∧ FS μ' h n ru ki ls s (bset bx (s - 1 - z.toNat) 3 m) m T mg (asav A s bx m T) 0) ∨ (¬ (0 ≤ z ∧ z < s ∧ bx (s - 1 - z.toNat) 3 = -1) ∧ r = w 0 ∧ FS μ' h n ru ki ls s bx m T mg A 0)))) := by
  obtain ⟨d, rfl⟩ : ∃ e, d = e + 1 := ⟨d - 1, by omega⟩
  have h1 := hF.1
  have hR := h1.1
  refine Call.of ok_FB_label (Nat.le_of_ble_eq_true rfl) (B_FB_label_0 hR.ob (hR.r 32 9 67 rfl) h1.2.2.2.1.1.ob ?_)
  refine (C_hasPlace (by omega) h1.2.2.2.1 z1 z2).conseq (KI.mono ?_)
  rintro r μ1 ⟨rfl, ⟨g1, g2, rfl⟩ | ⟨g1, rfl⟩⟩
  · refine ⟨fun q => absurd q (by decide), fun _ => ⟨hR.r 32 9 67 rfl, ?_⟩⟩
    refine (C_indexOf (by omega) h1.2.2.2.1).conseq (KI.mono ?_)
    rintro r μ3 ⟨rfl, rfl⟩
    have ei : (s : Int) - 1 - z = ((s - 1 - z.toNat : Nat) : Int) := by omega
    rw [ei]
    refine (C_hasLabel (by omega) h1.2.2.2.1 (by omega)).conseq (KI.mono ?_)
    rintro r μ4 ⟨rfl, ⟨hl, rfl⟩ | ⟨hl, rfl⟩⟩
    · exact ⟨fun q => absurd q (by decide), fun _ => ⟨_, rfl, fof.rf _ _, Or.inr ⟨fun q => hl q.2.2, rfl, hF⟩⟩⟩
    · refine ⟨fun _ => ?_, fun q => absurd rfl q⟩
      refine (C_saveAct (by omega) hT2 hF).conseq (KV.mono ?_)
      rintro μ2 ⟨ho, hF2⟩
      refine ⟨hF2.1.1.r 32 9 67 rfl, ?_⟩
      refine (C_indexOf (by omega) hF2.1.2.2.2.1).conseq (KI.mono ?_)
      rintro r μ3 ⟨rfl, rfl⟩
      rw [ei]
      refine (C_putLabel (by omega) hF2.1.2.2.2.1 (by omega)).conseq (KV.mono ?_)
      rintro μ4 ⟨ho4, hP4⟩
      exact ⟨_, rfl, (ho.wide acr_w).trans (off_w ho4), Or.inl ⟨⟨g1, g2, hl⟩, rfl, hF2.e0.pile ho4 hP4 (hF2.1.2.2.2.2.set _ _) hF2.2.1⟩⟩
  · exact ⟨fun _ => ⟨_, rfl, fof.rf _ _, Or.inr ⟨fun q => g1 ⟨q.1, q.2.1⟩, rfl, hF⟩⟩, fun q => absurd rfl q⟩
theorem C_offF (hd : 6 ≤ d) (hT2 : T < 1000000) (hF : FS μ h n ru ki ls s bx m T mg A 0) {z : Int} (z1 : -2147483648 ≤ z) (z2 : z < 2147483648) : Call Γ m_FB_off d [.ref 32, .int (w z)] μ (KI (fun r μ' => fof wcr μ μ' ∧ ((isH n z ∧ r = w (tmh ru bx s z) ∧ FS μ' h n ru ki ls s (bold bx (tmh ru bx s z) s) m T mg (asav A s bx m T) 0) ∨ (¬ isH n z ∧ r = w (-1) ∧ FS μ' h n ru ki ls s bx m T mg A 0)))) := by
  obtain ⟨d, rfl⟩ : ∃ e, d = e + 1 := ⟨d - 1, by omega⟩
  have h1 := hF.1
  have hR := h1.1
  refine Call.of ok_FB_off (Nat.le_of_ble_eq_true rfl) (B_FB_off_0 hR.ob ?_)
  refine (C_isHoursF (by omega) hR h1.2.1 z1 z2).conseq (KI.mono ?_)
  rintro r μ1 ⟨rfl, ⟨hz, rfl⟩ | ⟨hz, rfl⟩⟩
  · refine ⟨fun q => absurd q (by decide), fun _ => ?_⟩
    have hz' := hz
    unfold isH at hz'
    refine (C_saveAct (by omega) hT2 hF).conseq (KV.mono ?_)
    rintro μ2 ⟨ho, hF2⟩
    refine ⟨67, hF2.1.1.r 32 9 67 rfl, ?_⟩
    refine (C_hoursTooMany (by omega) hF2.1.1 hF2.1.2.1 hF2.1.2.2.2.1 (by omega) (by omega)).conseq (KI.mono ?_)
    rintro r μ3 ⟨rfl, rfl⟩
    have ht := tmh_bd h1 hz'.2.2
    refine ⟨hF2.1.1.r 32 9 67 rfl, hF2.1.2.2.2.1.1.ob, ?_⟩
    refine (C_growOlder (n := tmh ru bx s z) (by omega) hF2.1.2.2.2.1 (by omega) (by omega)).conseq (KV.mono ?_)
    rintro μ4 ⟨ho4, hP4⟩
    exact ⟨_, rfl, (ho.wide acr_w).trans (off_w ho4), Or.inl ⟨hz, rfl, hF2.e0.pile ho4 hP4 (hF2.1.2.2.2.2.old _ _) hF2.2.1⟩⟩
  · exact ⟨fun _ => ⟨_, rfl, fof.rf _ _, Or.inr ⟨hz, rfl, hF⟩⟩, fun q => absurd rfl q⟩
def cpm (n m : Nat) (z : Int) : Prop := 0 < n ∧ 1 ≤ z ∧ z ≤ 60 ∧ m + z ≤ 999
theorem C_canPassMonths (hd : 2 ≤ d) (hR : RF μ) (hH : HO μ h n ru ki) (hP : PF μ 67 s bx m) {z : Int} (z1 : -2147483648 ≤ z) (z2 : z < 2147483648) : Call Γ m_FB_canPassMonths d [.ref 32, .int (w z)] μ (KI (fun r μ' => μ' = μ ∧ ((cpm n m z ∧ r = w 1) ∨ (¬ cpm n m z ∧ r = w 0)))) := by
  obtain ⟨d, rfl⟩ : ∃ e, d = e + 1 := ⟨d - 1, by omega⟩
  have hm := hP.2.2.1
  refine Call.of ok_FB_canPassMonths (Nat.le_of_ble_eq_true rfl) (B_FB_canPassMonths_0 hR.ob ?_)
  refine (C_hasHouse (by omega) hR hH).conseq (KI.mono ?_)
  unfold cpm
  rintro r μ1 ⟨rfl, ⟨hn, rfl⟩ | ⟨hn, rfl⟩⟩
  · refine ⟨fun q => absurd q (by decide), fun _ => ?_⟩
    rw [w_lt (by omega) (by omega) (by omega) (by omega), w_lt (by omega) (by omega) (by omega) (by omega)]
    refine ⟨fun q => ⟨_, rfl, rfl, Or.inr ⟨by omega, rfl⟩⟩, fun q => ⟨fun q2 => ⟨_, rfl, rfl, Or.inr ⟨by omega, rfl⟩⟩, fun q2 => ⟨67, hR.r 32 9 67 rfl, hP.1.ob, ?_⟩⟩⟩
    rw [hP.2.2.2.2.1, w_add, w_lt (by omega) (by omega) (by omega) (by omega)]
    exact ⟨fun q3 => ⟨_, rfl, rfl, Or.inr ⟨by omega, rfl⟩⟩, fun q3 => ⟨_, rfl, rfl, Or.inl ⟨by omega, rfl⟩⟩⟩
  · exact ⟨fun _ => ⟨_, rfl, rfl, Or.inr ⟨by omega, rfl⟩⟩, fun q => absurd rfl q⟩
/-- boxes and acts after k months more -/
def mbx (bx : Nat → Nat → Int) (s : Nat) (m : Nat) (hh : Int) : Nat → Nat → Nat → Int
  | 0 => bx
  | k + 1 => bmon (mbx bx s m hh k) s ((m + k : Nat) : Int) hh
def mac (A : AA) (bx : Nat → Nat → Int) (s m T : Nat) (hh : Int) : Nat → AA
  | 0 => A
  | k + 1 => asav (mac A bx s m T hh k) s (mbx bx s m hh k) (m + k) T
theorem passMonths_G (hT2 : T < 1000000) {z : Nat} (hz : m + z ≤ 999) : ∀ (f k : Nat) (μ : XM), k + f = z → FS μ h n ru ki ls s (mbx bx s m (ru 2) k) (m + k) T mg (mac A bx s m T (ru 2) k) 0 → (∀ μ', fof wcr μ μ' → FS μ' h n ru ki ls s (mbx bx s m (ru 2) z) (m + z) T mg (mac A bx s m T (ru 2) z) 0 → Q none μ') → G Γ m_FB_passMonthsAsActs (d + 5) (0, 0) Q 2 [.ref 32, .int (w z), .int (w k)] [] μ := by
  intro f
  induction f with
  | zero =>
    intro k μ hk hF hQ
    refine B_FB_passMonthsAsActs_2 hF.1.1.ob ?_
    rw [w_lt (by omega) (by omega) (by omega) (by omega)]
    refine ⟨fun q => absurd q (by omega), fun _ => hQ μ (fof.rf _ _) ?_⟩
    rw [← show k = z by omega]
    exact hF
  | succ f ih =>
    intro k μ hk hF hQ
    refine B_FB_passMonthsAsActs_2 hF.1.1.ob ?_
    rw [w_lt (by omega) (by omega) (by omega) (by omega)]
    refine ⟨fun _ => ?_, fun q => absurd (by omega) q⟩
    refine (C_saveAct (d := d + 4) (by omega) hT2 hF).conseq (KV.mono ?_)
    rintro μ1 ⟨ho, hF1⟩
    have hH := hF1.1.2.1
    have hu := hH.2.2.2.2.1
    unfold RU at hu
    have hr := hH.rl (j := 2) (by omega) (by omega)
    refine ⟨67, hF1.1.1.r 32 9 67 rfl, h, hH.2.1, hH.1.ob, h + 1, hH.1.2.2.1, hr.1, hF1.1.2.2.2.1.1.ob, ?_⟩
    rw [hr.2, show (2 : Int).toNat = 2 from rfl, w_add]
    refine (C_passMonth (by omega) hF1.1.2.2.2.1 (by omega) (by omega) (by omega)).conseq (KV.mono ?_)
    rintro μ2 ⟨ho2, hP2⟩
    exact ih (k + 1) μ2 (by omega) (hF1.e0.pile ho2 hP2 (hF1.1.2.2.2.2.mon _ _) (by omega)) (fun μ3 g1 g2 => hQ μ3 (((ho.wide acr_w).trans (off_w ho2)).trans g1) g2)
theorem C_passMonthsAsActs (hd : 5 ≤ d) (hT2 : T < 1000000) {z : Nat} (hz : m + z ≤ 999) (hF : FS μ h n ru ki ls s bx m T mg A 0) : Call Γ m_FB_passMonthsAsActs d [.ref 32, .int (w z)] μ (KV (fun μ' => fof wcr μ μ' ∧ FS μ' h n ru ki ls s (mbx bx s m (ru 2) z) (m + z) T mg (mac A bx s m T (ru 2) z) 0)) := by
  obtain ⟨d, rfl⟩ : ∃ e, d = e + 5 := ⟨d - 5, by omega⟩
  exact Call.of ok_FB_passMonthsAsActs (Nat.le_of_ble_eq_true rfl) (B_FB_passMonthsAsActs_0 (passMonths_G hT2 hz z 0 μ (by omega) hF (fun μ' g1 g2 => ⟨rfl, g1, g2⟩)))
theorem C_monthsF (hd : 6 ≤ d) (hT2 : T < 1000000) (hF : FS μ h n ru ki ls s bx m T mg A 0) {z : Int} (z1 : -2147483648 ≤ z) (z2 : z < 2147483648) : Call Γ m_FB_months d [.ref 32, .int (w z)] μ (KI (fun r μ' => fof wcr μ μ' ∧ ((cpm n m z ∧ r = w ((m + z.toNat : Nat) : Int) ∧ FS μ' h n ru ki ls s (mbx bx s m (ru 2) z.toNat) (m + z.toNat) T mg (mac A bx s m T (ru 2) z.toNat) 0) ∨ (¬ cpm n m z ∧ r = w (-1) ∧ FS μ' h n ru ki ls s bx m T mg A 0)))) := by
  obtain ⟨d, rfl⟩ : ∃ e, d = e + 1 := ⟨d - 1, by omega⟩
  have h1 := hF.1
  have hR := h1.1
  refine Call.of ok_FB_months (Nat.le_of_ble_eq_true rfl) (B_FB_months_0 hR.ob ?_)
  refine (C_canPassMonths (by omega) hR h1.2.1 h1.2.2.2.1 z1 z2).conseq (KI.mono ?_)
  rintro r μ1 ⟨rfl, ⟨hz, rfl⟩ | ⟨hz, rfl⟩⟩
  · refine ⟨fun q => absurd q (by decide), fun _ => ?_⟩
    have hz' := hz
    unfold cpm at hz'
    obtain ⟨z, rfl⟩ : ∃ j : Nat, z = j := ⟨z.toNat, by omega⟩
    refine (C_passMonthsAsActs (by omega) hT2 (by omega) hF).conseq (KV.mono ?_)
    rintro μ2 ⟨ho, hF2⟩
    exact ⟨67, hF2.1.1.r 32 9 67 rfl, hF2.1.2.2.2.1.1.ob, _, rfl, ho, Or.inl ⟨hz, hF2.1.2.2.2.1.2.2.2.2.1, hF2⟩⟩
  · exact ⟨fun _ => ⟨_, rfl, fof.rf _ _, Or.inr ⟨hz, rfl, hF⟩⟩, fun q => absurd rfl q⟩
theorem C_undoF (hd : 5 ≤ d) (hF : FS μ h n ru ki ls s bx m T mg A 0) : Call Γ m_FB_undo d [.ref 32] μ (KI (fun r μ' => fof wcr μ μ' ∧ ((0 < aC A ∧ r = w ((aC A - 1 : Nat) : Int) ∧ FS μ' h n ru ki ls (aS A (aC A - 1)) (aB A (aC A - 1)) (aM A (aC A - 1)) (aT A (aC A - 1)) mg (apop A) 0) ∨ (aC A = 0 ∧ r = w (-1) ∧ FS μ' h n ru ki ls s bx m T mg A 0)))) := by
  obtain ⟨d, rfl⟩ : ∃ e, d = e + 1 := ⟨d - 1, by omega⟩
  have hF0 := hF
  obtain ⟨h1, h2, h3, h4, nx, h5⟩ := hF
  have hR := h1.1
  refine Call.of ok_FB_undo (Nat.le_of_ble_eq_true rfl) (B_FB_undo_0 hR.ob (hR.r 32 11 77 rfl) (hR.o rfl (by omega)) (hR.r 32 12 280 rfl) (hR.r 32 9 67 rfl) (hR.o rfl (by omega)) ?_)
  have c40 := h5.1
  rw [h5.2.2.1, w_inj (by omega) (by omega) (by omega) (by omega)]
  refine ⟨fun q => ⟨_, rfl, fof.rf _ _, Or.inr ⟨by omega, rfl, hF0⟩⟩, fun q => ?_⟩
  obtain ⟨c, hc⟩ : ∃ c, aC A = c + 1 := ⟨aC A - 1, by omega⟩
  rw [hc] at h5
  obtain ⟨b1, b2, b3, b4, b5, b6, b7⟩ := h5.2.2.2.2 c (by omega)
  refine (C_giveBack (by omega) hR h5).conseq (KI.mono ?_)
  rintro r μ1 ⟨ho, hA1, hP1, rfl⟩
  rintro μ2 rfl
  have hR1 := hR.of ho.2.2.1 ho.2.2.2
  have g : fof (fun c => c = 280) μ1 (sI μ1 280 1 (w (aT A c))) := fof.sI _ _ _ rfl
  have hA2 := hA1.fof g (fun c c1 c2 => by omega)
  have hR2 : RF (sI μ1 280 1 (w (aT A c))) := hR1.of rfl rfl
  rw [hc, show c + 1 - 1 = c by omega, hA2.2.2.1]
  refine ⟨hR2.r 32 11 77 rfl, _, rfl, (ho.wide (fun c q => Or.inr (by omega))).trans (g.wide (fun c q => Or.inr (by omega))), Or.inl ⟨by omega, rfl, ⟨hR2, (h1.2.1.fof ho (fun c c1 c2 => by omega)).fof g (fun c c1 c2 => by omega), (h1.2.2.1.fof ho (by omega) (fun i hi => by omega)).fof g (by omega) (fun i hi => by omega), hP1.fof g (fun c c1 c2 => by omega), b2⟩, b3, by rw [xI_sI, if_pos ⟨rfl, rfl⟩], ?_, (nx + 39) % 40, ?_⟩⟩
  · refine ((h4.fof ho (fun i hi => by omega)).fof g (fun i hi => by omega)).less b5 ?_
    unfold alo
    rw [if_neg (by omega)]
    show _ ≤ if aC A - 1 = 0 then _ else aT A 0
    by_cases e : c = 0
    · rw [if_pos (by omega), e]
      exact Nat.le_refl _
    · rw [if_neg (by omega)]
      exact Nat.le_refl _
  · show AV _ n (aC A - 1) _ _ 0 (aS A) (aB A) (aM A) (aT A)
    rw [hc]
    exact hA2
end OP
