/-! WORTH, in the reference: its memory of what it reckoned -/
theorem wl_rem {a b : Int} (h1 : 0 ≤ a) (h2 : a < 9223372036854775807) (h3 : 0 < b) (h4 : b < 9223372036854775807) : wl a - wl a / wl b * wl b = wl (a % b) := by
  rw [wl_tdiv (by omega) (by omega) (by omega) (by omega), wl_mul, wl_sub, Int.tdiv_eq_ediv_of_nonneg h1]
  congr 1
  have := Int.emod_add_mul_ediv a b
  rw [Int.mul_comm] at this
  omega
theorem lgz2 (x y : Int64) : lg_cmp x y = w 0 ↔ x = y := by
  unfold lg_cmp
  constructor
  · intro h
    split at h
    · exact absurd h (by decide)
    · split at h
      · assumption
      · exact absurd h (by decide)
  · rintro rfl
    rw [if_neg (by rw [gt_iff_lt, Int64.lt_iff_toInt_lt]; omega), if_pos rfl]
    rfl
/-- laws told, the one that holds, how long their texts are, their bytes -/
abbrev WL : Type := Nat × Int × (Nat → Nat) × (Nat → Nat → Nat)
/-- the value of a text at letters e -/
def lvl (tn : Nat) (tt : Nat → Nat) (e : Nat → Int) : Int := match law tt tn with
  | .inl _ => 0
  | .inr (_, h) => (h e).getD 0
theorem lvl_bd {tn : Nat} {tt : Nat → Nat} {e : Nat → Int} (he : EV e) : -1000000 ≤ lvl tn tt e ∧ lvl tn tt e ≤ 1000000 := by
  have := law_LG (tb := tt) (n := tn)
  unfold lvl
  split
  · omega
  · rename_i c h eq
    rw [eq] at this
    match hh : h e with
    | none => exact ⟨by decide, by decide⟩
    | some v => exact (this.2.2 e he).1 v hh
/-- what letters may be -/
def BL (a o n y k m : Int) : Prop := 0 ≤ a ∧ a ≤ 99 ∧ 0 ≤ o ∧ o ≤ 39 ∧ 0 ≤ n ∧ n ≤ 9 ∧ 0 ≤ y ∧ y ≤ 9 ∧ 0 ≤ k ∧ k ≤ 9 ∧ 0 ≤ m ∧ m ≤ 100000
theorem BL.ev {a o n y k m : Int} (h : BL a o n y k m) : EV (evL a o n y k m) := by
  intro j
  unfold BL at h
  unfold evL
  split
  · omega
  · split
    · omega
    · split
      · omega
      · split
        · omega
        · split <;> omega
def mky (i a o n y k m : Int) : Int := 5 * (10 * (10 * (10 * (40 * (100 * m + a) + o) + n) + y) + k) + i + 1
theorem mky_inj {i a o n y k m i' a' o' n' y' k' m' : Int} (h : BL a o n y k m) (h' : BL a' o' n' y' k' m') (hi : 0 ≤ i ∧ i ≤ 3) (hi' : 0 ≤ i' ∧ i' ≤ 3) (e : mky i a o n y k m = mky i' a' o' n' y' k' m') : i = i' ∧ a = a' ∧ o = o' ∧ n = n' ∧ y = y' ∧ k = k' ∧ m = m' := by
  unfold BL at h h'
  unfold mky at e
  have e1 : i = i' := by omega
  have e2 : 10 * (10 * (10 * (40 * (100 * m + a) + o) + n) + y) + k = 10 * (10 * (10 * (40 * (100 * m' + a') + o') + n') + y') + k' := by omega
  have e3 : k = k' := by omega
  have e4 : 10 * (10 * (40 * (100 * m + a) + o) + n) + y = 10 * (10 * (40 * (100 * m' + a') + o') + n') + y' := by omega
  have e5 : y = y' := by omega
  have e6 : 10 * (40 * (100 * m + a) + o) + n = 10 * (40 * (100 * m' + a') + o') + n' := by omega
  have e7 : n = n' := by omega
  have e8 : 40 * (100 * m + a) + o = 40 * (100 * m' + a') + o' := by omega
  have e9 : o = o' := by omega
  have e10 : 100 * m + a = 100 * m' + a' := by omega
  omega
theorem mky_bd {i a o n y k m : Int} (h : BL a o n y k m) (hi : 0 ≤ i ∧ i ≤ 3) : 1 ≤ mky i a o n y k m ∧ mky i a o n y k m ≤ 100000000000000 := by
  unfold BL at h
  unfold mky
  omega
/-- what is remembered is right -/
def MEM (μ : XM) (W : WL) : Prop := (∀ s, s < 8191 → xL μ 561 s = wl 0 ∨ ∃ i a o n y k m : Int, 0 ≤ i ∧ i < W.1 ∧ BL a o n y k m ∧ xL μ 561 s = wl (mky i a o n y k m) ∧ xI μ 562 s = w (lvl (W.2.2.1 i.toNat) (W.2.2.2 i.toNat) (evL a o n y k m))) ∧ ∃ e, LE μ e
/-- the reference's laws -/
def MW (μ : XM) (W : WL) : Prop := SS μ ∧ W.1 ≤ 4 ∧ xI μ 547 32 = w W.2.1 ∧ -1 ≤ W.2.1 ∧ W.2.1 < W.1 ∧ (∀ i, i < W.1 → xI μ 550 i = w (W.2.2.1 i) ∧ TX μ 549 (240 * i) (W.2.2.1 i) (W.2.2.2 i) ∧ ∃ c h, law (W.2.2.2 i) (W.2.2.1 i) = .inr (c, h)) ∧ MEM μ W
theorem TX.fr {F : Nat → Nat → Prop} {μ μ' : XM} {a o n : Nat} {tb : Nat → Nat} (h : TX μ a o n tb) (ho : fr F μ μ') (hF : ∀ j, ¬ F a j) : TX μ' a o n tb := ⟨h.1, h.2.1, fun j hj => by rw [(ho.1 a _ (hF _)).1]; exact h.2.2 j hj⟩
theorem SS.frm {F : Nat → Nat → Prop} {μ μ' : XM} (h : SS μ) (ho : fr F μ μ') (hF : ∀ c j, c < 32 → ¬ F c j) : SS μ' := fun j hj i hi => by
  rw [(ho.1 _ _ (hF _ _ (by omega))).1]
  exact h j hj i hi
theorem MW.frm {F : Nat → Nat → Prop} {μ μ' : XM} {W : WL} (h : MW μ W) (ho : fr F μ μ') (h1 : ∀ c j, c < 32 → ¬ F c j) (h2 : ¬ F 547 32) (h3 : ∀ c j, 549 ≤ c → c ≤ 550 → ¬ F c j) (h4 : ∀ c j, 551 ≤ c → (c = 551 ∨ (561 ≤ c ∧ c ≤ 562)) → ¬ F c j) : MW μ' W := by
  obtain ⟨a1, a2, a3, a4, a5, a6, a7⟩ := h
  refine ⟨a1.frm ho h1, a2, by rw [(ho.1 547 32 h2).1]; exact a3, a4, a5, fun i hi => ⟨by rw [(ho.1 550 i (h3 _ _ (by omega) (by omega))).1]; exact (a6 i hi).1, (a6 i hi).2.1.fr ho (fun j => h3 _ _ (by omega) (by omega)), (a6 i hi).2.2⟩, fun s hs => ?_, ?_⟩
  · rw [(ho.1 561 s (h4 _ _ (by omega) (by omega))).2.1, (ho.1 562 s (h4 _ _ (by omega) (by omega))).1]
    exact a7.1 s hs
  · obtain ⟨e, q1, q2⟩ := a7.2
    exact ⟨e, q1, fun j hj => by rw [(ho.1 551 _ (h4 _ _ (by omega) (by omega))).1]; exact q2 j hj⟩
/-- what reckoning a value may write -/
def vfr (c j : Nat) : Prop := gfr c j ∨ c = 551 ∨ c = 561 ∨ c = 562
theorem vfr_r (k v : Nat) (h : rM k = some v) : ¬ vfr 547 k := by
  rintro (q | q | q | q)
  · exact gfr_r k v h q
  · omega
  · omega
  · omega
theorem sh56 : shp 561 = some (.inr (4, 8191)) ∧ shp 562 = some (.inr (0, 8191)) ∧ shp 551 = some (.inr (0, 128)) ∧ shp 550 = some (.inr (0, 4)) := ⟨rfl, rfl, rfl, rfl⟩
section MX
variable {Γ : XG} {d n s m T : Nat} {ru : Nat → Int} {ki bx mg : Nat → Nat → Int} {ls : Int → Int → Int → Int → Int → Int → Int} {μ : XM} {Q : Option Value → XM → Prop} {W : WL}
theorem C_worthNow (hf : FM Γ) (hd : 34 ≤ d) (hR : RM μ) (hW : MW μ W) (h0 : 0 ≤ W.2.1) {a o n y k m : Int} (hB : BL a o n y k m) (hE : ∀ j, j < 6 → xI μ 551 (ltr 3 j).toNat = w (evL a o n y k m j)) : Call Γ m_MO_worthNow d [.ref 547] μ (KI (fun r μ' => fr vfr μ μ' ∧ MW μ' W ∧ r = w (lvl (W.2.2.1 W.2.1.toNat) (W.2.2.2 W.2.1.toNat) (evL a o n y k m)))) := by
  obtain ⟨d, rfl⟩ : ∃ e, d = e + 1 := ⟨d - 1, by omega⟩
  obtain ⟨a1, a2, a3, a4, a5, a6, a7⟩ := hW
  have hev := hB.ev
  have hB' := hB
  unfold BL at hB'
  have e0 : xI μ 551 (w 97).toNatClampNeg = w a := hE 0 (by omega)
  have e1 : xI μ 551 (w 111).toNatClampNeg = w o := hE 1 (by omega)
  have e2 : xI μ 551 (w 110).toNatClampNeg = w n := hE 2 (by omega)
  have e3 : xI μ 551 (w 121).toNatClampNeg = w y := hE 3 (by omega)
  have e4 : xI μ 551 (w 107).toNatClampNeg = w k := hE 4 (by omega)
  have e5 : xI μ 551 (w 109).toNatClampNeg = w m := hE 5 (by omega)
  have hkb := mky_bd (i := W.2.1) hB ⟨h0, by omega⟩
  obtain ⟨K, eK⟩ : ∃ K, K = mky W.2.1 a o n y k m := ⟨_, rfl⟩
  rw [← eK] at hkb
  have hK : ((((wl 5) * (((wl 10) * (((wl 10) * (((wl 10) * (((wl 40) * (((wl 100) * ((xI μ 551 (w 109).toNatClampNeg).toInt64)) + ((xI μ 551 (w 97).toNatClampNeg).toInt64))) + ((xI μ 551 (w 111).toNatClampNeg).toInt64))) + ((xI μ 551 (w 110).toNatClampNeg).toInt64))) + ((xI μ 551 (w 121).toNatClampNeg).toInt64))) + ((xI μ 551 (w 107).toNatClampNeg).toInt64))) + ((xI μ 547 32).toInt64)) + (wl 1)) = wl K := by
    rw [e0, e1, e2, e3, e4, e5, a3, w_l (by omega) (by omega), w_l (by omega) (by omega), w_l (by omega) (by omega), w_l (by omega) (by omega), w_l (by omega) (by omega), w_l (by omega) (by omega), w_l (by omega) (by omega)]
    simp only [wl_mul, wl_add]
    rw [eK]
    rfl
  have i550 : ∀ j : Int, 0 ≤ j → j < 128 → zib μ 0 551 (w j) := fun j j0 j1 => inb_of sh56.2.2.1 (by omega) hR.1 j0 j1
  refine Call.of ok_MO_worthNow (Nat.le_of_ble_eq_true rfl) (B_MO_worthNow_0 hR.o (hR.r 4 551 rfl) (hR.r 34 561 rfl) (hR.r 2 549 rfl) (hR.r 3 550 rfl) (hR.r 35 562 rfl) ?_)
  rw [hK, wl_rem (by omega) (by omega) (by omega) (by omega), wl_i]
  have hm1 := Int.emod_nonneg K (show (8191 : Int) ≠ 0 by decide)
  have hm2 := Int.emod_lt_of_pos K (show (0 : Int) < 8191 by decide)
  obtain ⟨sp, esp⟩ : ∃ sp : Nat, K % 8191 = sp := ⟨(K % 8191).toNat, by omega⟩
  rw [esp, w_cln (by omega), lgz2]
  have hs : sp < 8191 := by omega
  refine ⟨i550 _ (by omega) (by omega), i550 _ (by omega) (by omega), i550 _ (by omega) (by omega), i550 _ (by omega) (by omega), i550 _ (by omega) (by omega), i550 _ (by omega) (by omega), by decide, inb_of sh56.1 (by omega) hR.1 (by omega) (by omega), fun q => ⟨inb_of sh56.2.1 (by omega) hR.1 (by omega) (by omega), _, rfl, fr.rf _ _, ⟨a1, a2, a3, a4, a5, a6, a7⟩, ?_⟩, fun q => ⟨?_, ?_⟩⟩
  · rcases a7.1 sp hs with h | ⟨i, a', o', n', y', k', m', g0, g1, g2, g3, g4⟩
    · rw [h, wl_inj (by omega) (by omega) (by omega) (by omega)] at q
      omega
    · have hkb2 := mky_bd (i := i) g2 ⟨g0, by omega⟩
      rw [g3, wl_inj (by omega) (by omega) (by omega) (by omega), eK] at q
      obtain ⟨rfl, rfl, rfl, rfl, rfl, rfl, rfl⟩ := mky_inj g2 hB ⟨g0, by omega⟩ ⟨h0, by omega⟩ q
      exact g4
  · rw [a3]
    exact inb_of sh56.2.2.2 (by omega) hR.1 h0 (by omega)
  · obtain ⟨b1, b2, c, h, b3⟩ := a6 W.2.1.toNat (by omega)
    rw [a3, w_mul, w_cl (by omega) (by omega), b1, show (240 : Int) * W.2.1 = ((240 * W.2.1.toNat : Nat) : Int) by omega]
    refine (C_goThrough (e := evL a o n y k m) hf (by omega) hR a1 ⟨hev, hE⟩ b2).conseq (KV.mono ?_)
    rw [b3]
    rintro μ1 ⟨o1, h1, h2⟩
    have hR1 : RM μ1 := hR.fr o1 gfr_r
    refine ⟨hR1.r 34 561 rfl, inS_of sh56.1 (by omega) hR1.1 (by omega) (by omega) (by omega), ?_⟩
    rintro μ13 rfl
    refine ⟨562, hR1.r 35 562 rfl, inS_of sh56.2.1 (by omega) hR1.1 (by omega) (by omega) (by omega), ?_⟩
    rintro μ16 rfl
    have o2 : fr vfr μ (sI (sL μ1 561 sp (wl K)) 562 sp (xI (sL μ1 561 sp (wl K)) 547 14)) := ((o1.wide (fun c j q => Or.inl q)).trans (fr.sL (F := vfr) (a := 561) (k := sp) μ1 (wl K) (Or.inr (Or.inr (Or.inl rfl))))).trans (fr.sI (F := vfr) (a := 562) (k := sp) _ _ (Or.inr (Or.inr (Or.inr rfl))))
    have el : lvl (W.2.2.1 W.2.1.toNat) (W.2.2.2 W.2.1.toNat) (evL a o n y k m) = (h (evL a o n y k m)).getD 0 := by unfold lvl; rw [b3]
    refine ⟨_, rfl, o2, ⟨a1.frm o2 (fun c j hc => by unfold vfr gfr; omega), a2, by rw [(o2.1 547 32 (by unfold vfr gfr; omega)).1]; exact a3, a4, a5, fun i hi => ⟨by rw [(o2.1 550 i (by unfold vfr gfr; omega)).1]; exact (a6 i hi).1, (a6 i hi).2.1.fr o2 (fun j => by unfold vfr gfr; omega), (a6 i hi).2.2⟩, fun s hs2 => ?_, ⟨_, hev, fun j hj => ?_⟩⟩, ?_⟩
    · rw [xL_sI, xL_sL, xI_sI]
      by_cases e : s = sp
      · rw [if_pos ⟨rfl, e⟩, if_pos ⟨rfl, e⟩]
        refine Or.inr ⟨W.2.1, a, o, n, y, k, m, h0, a5, hB, by rw [eK], ?_⟩
        rw [xI_sL, h2, el]
      · rw [if_neg (fun z => e z.2), if_neg (fun z => e z.2), xI_sL, (o1.1 561 s (by unfold gfr; omega)).2.1, (o1.1 562 s (by unfold gfr; omega)).1]
        exact a7.1 s hs2
    · rw [xI_sI, if_neg (by omega), xI_sL, (o1.1 551 _ (by unfold gfr; omega)).1]
      exact hE j hj
    · rw [xI_sI, if_neg (by omega), xI_sL, h2, el]
/-- the loss that ls tells is that of the law that holds -/
def LSok (ls : Int → Int → Int → Int → Int → Int → Int) (W : WL) : Prop := (W.2.1 < 0 → ∀ a o n y k m, ls a o n y k m = a - o) ∧ (0 ≤ W.2.1 → ∀ a o n y k m, BL a o n y k m → ls a o n y k m = lvl (W.2.2.1 W.2.1.toNat) (W.2.2.2 W.2.1.toNat) (evL a o n y k m))
theorem HM_v (h : HM μ n ru ki) {μ' : XM} (ho : fr vfr μ μ') : HM μ' n ru ki := h.fr ho vfr_r (by unfold vfr gfr; omega) (fun j => by unfold vfr gfr; omega) (fun j => by unfold vfr gfr; omega)
theorem C_portionOf (hf : FM Γ) (hd : 35 ≤ d) (hM : HM μ n ru ki) (hW : MW μ W) (hL : LSok ls W) {k p a y m : Int} (k0 : 0 ≤ k) (kn : k < n) (p0 : 0 ≤ p) (p9 : p ≤ 9) (a0 : 0 ≤ a) (a9 : a ≤ 99) (y0 : 0 ≤ y) (y9 : y ≤ 9) (m0 : 0 ≤ m) (m9 : m ≤ 100000) : Call Γ m_MO_portionOf d [.ref 547, .int (w k), .int (w p), .int (w a), .int (w y), .int (w m)] μ (KI (fun r μ' => fr vfr μ μ' ∧ MW μ' W ∧ r = w (pw ls ki k p a y m))) := by
  obtain ⟨d, rfl⟩ : ∃ e, d = e + 1 := ⟨d - 1, by omega⟩
  have hn := hM.2.1
  have hk := (hM.2.2.2.2.2 k.toNat (by omega)).2
  unfold KK at hk
  have ek : k = ((k.toNat : Nat) : Int) := by omega
  have tl : ∀ (μ : XM) (j : Nat), HM μ n ru ki → j < 5 → Call Γ m_MO_told d [.ref 547, .int (w k), .int (w j)] μ (KI (fun r μ' => μ' = μ ∧ r = w (ki k.toNat j))) := fun μ j h hj => by
    have := C_told (Γ := Γ) (d := d) (k := k.toNat) (j := j) (by omega) h (by omega) hj
    rwa [← ek] at this
  refine Call.of ok_MO_portionOf (Nat.le_of_ble_eq_true rfl) (B_MO_portionOf_0 hM.1.o ?_)
  refine (tl μ 2 hM (by omega)).conseq (KI.mono ?_)
  rintro r μ1 ⟨rfl, rfl⟩
  have hW' := hW
  obtain ⟨a1, a2, a3, a4, a5, a6, a7⟩ := hW'
  rw [a3, w_inj (by omega) (by omega) (by omega) (by omega)]
  refine ⟨fun q => ?_, fun q => ⟨551, hM.1.r 4 551 rfl, inS_of sh56.2.2.1 (by omega) hM.1.1 (by omega) (by omega) (by omega), ?_⟩⟩
  · refine (tl μ1 3 hM (by omega)).conseq (KI.mono ?_)
    rintro r μ2 ⟨rfl, rfl⟩
    refine ⟨_, rfl, fr.rf _ _, hW, ?_⟩
    rw [w_sub, jmax_w (by omega) (by omega) (by omega) (by omega), jmin_w (by omega) (by omega) (by omega) (by omega), jmax_w (by omega) (by omega) (by omega) (by omega), w_sub, jmax_w (by omega) (by omega) (by omega) (by omega)]
    unfold pw
    rw [hL.1 (by omega)]
    congr 1
    omega
  · have wr : ∀ (μ' : XM) (j : Nat) (v : Int32), fr vfr μ' (sI μ' 551 j v) := fun μ' j v => fr.sI μ' v (Or.inr (Or.inl rfl))
    rintro μ5 rfl
    have o5 := wr μ1 (w 97).toNatClampNeg (w a)
    have hM5 := HM_v hM o5
    refine (tl _ 2 hM5 (by omega)).conseq (KI.mono ?_)
    rintro r μ6 ⟨rfl, rfl⟩
    refine ⟨inS_of sh56.2.2.1 (by omega) hM5.1.1 (by omega) (by omega) (by omega), ?_⟩
    rintro μ8 rfl
    refine ⟨hM5.1.r 4 551 rfl, inS_of sh56.2.2.1 (by omega) hM5.1.1 (by omega) (by omega) (by omega), ?_⟩
    rintro μ11 rfl
    refine ⟨inS_of sh56.2.2.1 (by omega) hM5.1.1 (by omega) (by omega) (by omega), ?_⟩
    rintro μ13 rfl
    refine ⟨inS_of sh56.2.2.1 (by omega) hM5.1.1 (by omega) (by omega) (by omega), ?_⟩
    rintro μ15 rfl
    refine ⟨inS_of sh56.2.2.1 (by omega) hM5.1.1 (by omega) (by omega) (by omega), ?_⟩
    rintro μ17 rfl
    have o17 := ((((o5.trans (wr _ (w 111).toNatClampNeg (w (ki k.toNat 2)))).trans (wr _ (w 110).toNatClampNeg (w p))).trans (wr _ (w 121).toNatClampNeg (w y))).trans (wr _ (w 107).toNatClampNeg (w k))).trans (wr _ (w 109).toNatClampNeg (w m))
    obtain ⟨ν, eν⟩ : ∃ ν, ν = sI (sI (sI (sI (sI (sI μ1 551 (w 97).toNatClampNeg (w a)) 551 (w 111).toNatClampNeg (w (ki k.toNat 2))) 551 (w 110).toNatClampNeg (w p)) 551 (w 121).toNatClampNeg (w y)) 551 (w 107).toNatClampNeg (w k)) 551 (w 109).toNatClampNeg (w m) := ⟨_, rfl⟩
    have hE : ∀ j, j < 6 → xI ν 551 (ltr 3 j).toNat = w (evL a (ki k.toNat 2) p y k m j) := by
      intro j hj
      have d0 : (w 97).toNatClampNeg = 97 := by decide
      have d1 : (w 111).toNatClampNeg = 111 := by decide
      have d2 : (w 110).toNatClampNeg = 110 := by decide
      have d3 : (w 121).toNatClampNeg = 121 := by decide
      have d4 : (w 107).toNatClampNeg = 107 := by decide
      have d5 : (w 109).toNatClampNeg = 109 := by decide
      rw [eν]
      simp only [xI_sI, d0, d1, d2, d3, d4, d5, true_and]
      have l0 : (ltr 3 0).toNat = 97 := by decide
      have l1 : (ltr 3 1).toNat = 111 := by decide
      have l2 : (ltr 3 2).toNat = 110 := by decide
      have l3 : (ltr 3 3).toNat = 121 := by decide
      have l4 : (ltr 3 4).toNat = 107 := by decide
      have l5 : (ltr 3 5).toNat = 109 := by decide
      rcases (show j = 0 ∨ j = 1 ∨ j = 2 ∨ j = 3 ∨ j = 4 ∨ j = 5 by omega) with rfl | rfl | rfl | rfl | rfl | rfl
      · rw [l0]; simp [evL]
      · rw [l1]; simp [evL]
      · rw [l2]; simp [evL]
      · rw [l3]; simp [evL]
      · rw [l4]; simp [evL]
      · rw [l5]; simp [evL]
    rw [← eν] at o17 ⊢
    have hB : BL a (ki k.toNat 2) p y k m := by unfold BL; omega
    have o17' : fr (fun c j => c = 551) μ1 ν := by
      have wr2 : ∀ (μ' : XM) (j : Nat) (v : Int32), fr (fun c j => c = 551) μ' (sI μ' 551 j v) := fun μ' j v => fr.sI μ' v rfl
      rw [eν]
      exact (((((wr2 μ1 _ _).trans (wr2 _ _ _)).trans (wr2 _ _ _)).trans (wr2 _ _ _)).trans (wr2 _ _ _)).trans (wr2 _ _ _)
    have hWν : MW ν W := by
      obtain ⟨c1, c2, c3, c4, c5, c6, c7⟩ := hW
      exact ⟨c1.frm o17' (fun c j hc q => by omega), c2, by rw [(o17'.1 547 32 (by omega)).1]; exact c3, c4, c5, fun i hi => ⟨by rw [(o17'.1 550 i (by omega)).1]; exact (c6 i hi).1, (c6 i hi).2.1.fr o17' (fun j => by omega), (c6 i hi).2.2⟩, fun s hs => by rw [(o17'.1 561 s (by omega)).2.1, (o17'.1 562 s (by omega)).1]; exact c7.1 s hs, _, hB.ev, hE⟩
    have hMν := HM_v hM o17
    refine (C_worthNow hf (by omega) hMν.1 hWν (by omega) hB hE).conseq (KI.mono ?_)
    rintro r μ18 ⟨o18, hW18, rfl⟩
    have hM18 := HM_v hMν o18
    refine (tl _ 3 hM18 (by omega)).conseq (KI.mono ?_)
    rintro r μ19 ⟨rfl, rfl⟩
    refine ⟨_, rfl, o17.trans o18, hW18, ?_⟩
    have hv := lvl_bd (tn := W.2.2.1 W.2.1.toNat) (tt := W.2.2.2 W.2.1.toNat) hB.ev
    rw [jmin_w (by omega) (by omega) (by omega) (by omega), jmax_w (by omega) (by omega) (by omega) (by omega), w_sub, jmax_w (by omega) (by omega) (by omega) (by omega)]
    unfold pw
    rw [hL.2 (by omega) _ _ _ _ _ _ hB]
end MX
