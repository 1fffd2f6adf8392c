/-! VALUES, in the reference -/
/-- a cell that holds a row -/
def RC (a : Nat) : Prop := a = 559 ∨ a = 560
theorem RC.sh {a : Nat} (h : RC a) : shp a = some (.inr (0, 283)) ∧ a < 574 ∧ 32 ≤ a := by
  rcases h with rfl | rfl
  · exact ⟨rfl, by omega, by omega⟩
  · exact ⟨rfl, by omega, by omega⟩
theorem RC.v {a : Nat} (h : RC a) (j : Nat) : ¬ vfr a j := by unfold RC at h; unfold vfr gfr; omega
/-- what questions of the reference may write -/
def qfr (c j : Nat) : Prop := vfr c j ∨ (c = 547 ∧ (j = 0 ∨ j = 39 ∨ j = 40 ∨ j = 51 ∨ j = 52 ∨ j = 53)) ∨ c = 560 ∨ c = 568 ∨ c = 569 ∨ c = 570
theorem vfr_q (c j : Nat) (h : vfr c j) : qfr c j := Or.inl h
theorem thr_q (c j : Nat) (h : thr c j) : qfr c j := by unfold thr at h; exact Or.inr (Or.inl ⟨h.1, Or.inl h.2⟩)
theorem qfr_r (k v : Nat) (h : rM k = some v) : ¬ qfr 547 k := by
  have q := vfr_r k v h
  have : ∀ k, k < 56 → (k = 0 ∨ k = 39 ∨ k = 40 ∨ k = 51 ∨ k = 52 ∨ k = 53) → rM k = none := by decide
  rintro (z | ⟨-, z⟩ | z | z | z | z)
  · exact q z
  · rw [this k (by omega) z] at h
    cases h
  · omega
  · omega
  · omega
  · omega
/-- what questions know of the reference -/
def MQs (μ : XM) (n : Nat) (ru : Nat → Int) (ki : Nat → Nat → Int) (s : Nat) (bx : Nat → Nat → Int) (m T : Nat) (mg : Nat → Nat → Int) (W : WL) (ls : Int → Int → Int → Int → Int → Int → Int) : Prop := HM μ n ru ki ∧ NR μ 559 0 s bx m T mg ∧ KN bx s n ∧ (n = 0 → s = 0) ∧ MW μ W ∧ LSok ls W
theorem pw_min {ls : Int → Int → Int → Int → Int → Int → Int} {ki bx : Nat → Nat → Int} {m i : Nat} (t l b : Int) : vw ls ki (bold bx t (i + 1)) m i 0 l b = vw ls ki bx m i t l b := by
  have e2 : bold bx t (i + 1) i 2 = min 99 (bx i 2 + t) := by unfold bold; rw [if_pos ⟨rfl, by omega⟩]
  have e0 : bold bx t (i + 1) i 0 = bx i 0 := by unfold bold; rw [if_neg (by omega)]
  have e1 : bold bx t (i + 1) i 1 = bx i 1 := by unfold bold; rw [if_neg (by omega)]
  unfold vw
  rw [e0, e1, e2, show min 99 (min 99 (bx i 2 + t) + 0) = min 99 (bx i 2 + t) by omega]
theorem bold_at {bx : Nat → Nat → Int} {t : Int} {s i : Nat} (h : i < s) (q : Nat) : bold bx t s i q = bold bx t (i + 1) i q := by
  unfold bold
  by_cases e : q = 2
  · rw [if_pos ⟨e, h⟩, if_pos ⟨e, by omega⟩]
  · rw [if_neg (fun z => e z.1), if_neg (fun z => e z.1)]
theorem vw_old {ls : Int → Int → Int → Int → Int → Int → Int} {ki bx : Nat → Nat → Int} {m i s : Nat} (h : i < s) (t l b : Int) : vw ls ki (bold bx t s) m i 0 l b = vw ls ki bx m i t l b := by
  rw [← pw_min (bx := bx) t l b]
  unfold vw
  rw [bold_at h, bold_at h, bold_at h]
section NA
variable {Γ : XG} {d n a s m T : Nat} {ru : Nat → Int} {ki bx mg : Nat → Nat → Int} {ls : Int → Int → Int → Int → Int → Int → Int} {μ : XM} {Q : Option Value → XM → Prop} {W : WL}
theorem NR.sz (hN : NR μ a 0 s bx m T mg) : xI μ a (w 40).toNatClampNeg = w s := by rw [show (w 40).toNatClampNeg = 0 + 40 by decide]; exact hN.2.2.1
theorem NR.mo (hN : NR μ a 0 s bx m T mg) : xI μ a (w 41).toNatClampNeg = w m := by rw [show (w 41).toNatClampNeg = 0 + 41 by decide]; exact hN.2.2.2.1
theorem NR.at (hN : NR μ a 0 s bx m T mg) {b : Nat} (hb : b < s) : xI μ a (w 5 * w b + w 0).toNatClampNeg = w (bx (s - 1 - b) 0) ∧ xI μ a (w 5 * w b + w 1).toNatClampNeg = w (bx (s - 1 - b) 1) ∧ xI μ a (w 5 * w b + w 2).toNatClampNeg = w (bx (s - 1 - b) 2) ∧ BB bx (s - 1 - b) := by
  have h8 := hN.1
  obtain ⟨⟨e0, e1, e2, -, -⟩, hB⟩ := hN.2.2.2.2.2.1 b hb
  refine ⟨?_, ?_, ?_, hB⟩
  · rw [w_mul, w_add, w_cl (by omega) (by omega), show (5 * (b : Int) + 0).toNat = 0 + 5 * b by omega]; exact e0
  · rw [w_mul, w_add, w_cl (by omega) (by omega), show (5 * (b : Int) + 1).toNat = 0 + 5 * b + 1 by omega]; exact e1
  · rw [w_mul, w_add, w_cl (by omega) (by omega), show (5 * (b : Int) + 2).toNat = 0 + 5 * b + 2 by omega]; exact e2
theorem rc_in (ha : RC a) (hx : 574 ≤ xN μ) {z : Int} (z0 : 0 ≤ z) (z1 : z < 283) : zib μ 0 a (w z) := inb_of ha.sh.1 ha.sh.2.1 hx z0 z1
theorem rc_5 (ha : RC a) (hx : 574 ≤ xN μ) {b : Nat} (hb : b < 8) {q : Int} (q0 : 0 ≤ q) (q1 : q < 5) : zib μ 0 a (w 5 * w b + w q) := by
  rw [w_mul, w_add]
  exact rc_in ha hx (by omega) (by omega)
theorem NRv (hN : NR μ a 0 s bx m T mg) (ha : RC a) {μ' : XM} (ho : fr vfr μ μ') : NR μ' a 0 s bx m T mg := hN.fr ho (fun j => ha.v j)
theorem C_valueOn (hf : FM Γ) (hd : 36 ≤ d) (hM : HM μ n ru ki) (hW : MW μ W) (hL : LSok ls W) (ha : RC a) (hN : NR μ a 0 s bx m T mg) (hK : KN bx s n) {b : Nat} (hb : b < s) {y t : Int} (y0 : 0 ≤ y) (y9 : y ≤ 9) (t0 : 0 ≤ t) (t9 : t ≤ 200) : Call Γ m_MO_valueOn d [.ref 547, .ref a, .int (w b), .int (w y), .int (w t)] μ (KI (fun r μ' => fr vfr μ μ' ∧ MW μ' W ∧ r = w (vw ls ki bx m (s - 1 - b) t t y))) := by
  obtain ⟨d, rfl⟩ : ∃ e, d = e + 1 := ⟨d - 1, by omega⟩
  have h8 := hN.1
  have hm9 := hN.2.1
  have hx := hM.1.1
  obtain ⟨e0, e1, e2, hB⟩ := hN.at hb
  have hk := hK (s - 1 - b) (by omega)
  unfold BB at hB
  refine Call.of ok_MO_valueOn (Nat.le_of_ble_eq_true rfl) (B_MO_valueOn_0 hM.1.o ?_)
  rw [e0, e1, e2, hN.mo, w_add, w_add, jmin_w (by omega) (by omega) (by omega) (by omega)]
  refine ⟨rc_5 ha hx (by omega) (by omega) (by omega), rc_5 ha hx (by omega) (by omega) (by omega), rc_5 ha hx (by omega) (by omega) (by omega), rc_5 ha hx (by omega) (by omega) (by omega), rc_in ha hx (by omega) (by omega), ?_⟩
  refine (C_portionOf hf (by omega) hM hW hL (by omega) hk (by omega) (by omega) (by omega) (by omega) y0 y9 (by omega) (by omega)).conseq (KI.mono ?_)
  rintro r μ6 ⟨o6, h6, rfl⟩
  refine ⟨_, rfl, o6, h6, ?_⟩
  rw [w_mul]
  rfl
theorem C_valueOfM (hf : FM Γ) (hd : 37 ≤ d) (hM : HM μ n ru ki) (hW : MW μ W) (hL : LSok ls W) (ha : RC a) (hN : NR μ a 0 s bx m T mg) (hK : KN bx s n) {b : Nat} (hb : b < s) : Call Γ m_MO_valueOf d [.ref 547, .ref a, .int (w b)] μ (KI (fun r μ' => fr vfr μ μ' ∧ MW μ' W ∧ r = w (vpl ls ki bx m s b))) := by
  obtain ⟨d, rfl⟩ : ∃ e, d = e + 1 := ⟨d - 1, by omega⟩
  have h8 := hN.1
  refine Call.of ok_MO_valueOf (Nat.le_of_ble_eq_true rfl) (B_MO_valueOf_0 hM.1.o ⟨rc_in ha hM.1.1 (by omega) (by omega), ?_⟩)
  rw [hN.sz, w_sub, w_sub, show (s : Int) - 1 - b = ((s - 1 - b : Nat) : Int) by omega]
  refine (C_valueOn (t := 0) hf (by omega) hM hW hL ha hN hK hb (by omega) (by omega) (by omega) (by omega)).conseq (KI.mono ?_)
  rintro r μ2 ⟨o2, h2, rfl⟩
  exact ⟨_, rfl, o2, h2, rfl⟩
theorem vpl_b (hM : HM μ n ru ki) (hN : NR μ a 0 s bx m T mg) (hK : KN bx s n) {i : Nat} (hi : i < s) (o l b : Int) : 0 ≤ vw ls ki bx m i o l b ∧ vw ls ki bx m i o l b ≤ 81 := by
  have h8 := hN.1
  have hB := (hN.at (b := s - 1 - i) (by omega)).2.2.2
  rw [show s - 1 - (s - 1 - i) = i by omega] at hB
  have hk := hK i hi
  unfold BB at hB
  have hn := hM.2.1
  have h1 := pw_bd (ls := ls) (k := bx i 0) (n := bx i 1) (a := min 99 (bx i 2 + o)) (y := b) (m := m + l) (hM.2.2.2.2.2 (bx i 0).toNat (by omega)).2
  unfold vw
  exact mul_bd (x := 9) (y := 9) (by omega) (by omega) h1.1 (by omega)
theorem valueIn_G (hf : FM Γ) (hL : LSok ls W) (ha : RC a) (hK : KN bx s n) : ∀ (f b : Nat) (μ : XM), b + f = s → HM μ n ru ki → MW μ W → NR μ a 0 s bx m T mg → (∀ μ', fr vfr μ μ' → MW μ' W → Q (some (.int (w (fsum (vpl ls ki bx m s) s)))) μ') → G Γ m_MO_valueIn (d + 38) (0, 0) Q 4 [.ref 547, .ref a, .int (w (fsum (vpl ls ki bx m s) b)), .int (w b)] [] μ := by
  intro f
  induction f with
  | zero =>
    intro b μ hb hM hW hN hQ
    have h8 := hN.1
    refine B_MO_valueIn_4 hM.1.o ⟨rc_in ha hM.1.1 (by omega) (by omega), ?_⟩
    rw [hN.sz, w_lt (by omega) (by omega) (by omega) (by omega)]
    refine ⟨fun q => absurd q (by omega), fun _ => ?_⟩
    rw [show b = s by omega]
    exact hQ μ (fr.rf _ _) hW
  | succ f ih =>
    intro b μ hb hM hW hN hQ
    have h8 := hN.1
    refine B_MO_valueIn_4 hM.1.o ⟨rc_in ha hM.1.1 (by omega) (by omega), ?_⟩
    rw [hN.sz, w_lt (by omega) (by omega) (by omega) (by omega)]
    refine ⟨fun _ => ?_, fun q => absurd (by omega) q⟩
    refine (C_valueOfM (d := d + 37) hf (by omega) hM hW hL ha hN hK (by omega)).conseq (KI.mono ?_)
    rintro r μ2 ⟨o2, h2, rfl⟩
    rw [w_add, w_add]
    exact ih (b + 1) μ2 (by omega) (HM_v hM o2) h2 (NRv hN ha o2) (fun μ' g1 g2 => hQ μ' (o2.trans g1) g2)
theorem C_valueIn (hf : FM Γ) (hd : 38 ≤ d) (hM : HM μ n ru ki) (hW : MW μ W) (hL : LSok ls W) (ha : RC a) (hN : NR μ a 0 s bx m T mg) (hK : KN bx s n) : Call Γ m_MO_valueIn d [.ref 547, .ref a] μ (KI (fun r μ' => fr vfr μ μ' ∧ MW μ' W ∧ r = w (sov ls ki bx m s 0 0))) := by
  obtain ⟨d, rfl⟩ : ∃ e, d = e + 38 := ⟨d - 38, by omega⟩
  refine Call.of ok_MO_valueIn (Nat.le_of_ble_eq_true rfl) (B_MO_valueIn_0 (valueIn_G hf hL ha hK s 0 μ (by omega) hM hW hN (fun μ' g1 g2 => ⟨_, rfl, g1, g2, ?_⟩)))
  unfold sov
  rw [fsum_rev]
  refine congrArg w (fsum_cg s (fun i hi => ?_))
  unfold vpl
  rw [show s - 1 - (s - 1 - i) = i by omega]
theorem C_weightOfM (hd : 2 ≤ d) (hM : HM μ n ru ki) (ha : RC a) (hN : NR μ a 0 s bx m T mg) (hK : KN bx s n) {b : Nat} (hb : b < s) : Call Γ m_MO_weightOf d [.ref 547, .ref a, .int (w b)] μ (KI (fun r μ' => μ' = μ ∧ r = w (wt ki bx (s - 1 - b)))) := by
  obtain ⟨d, rfl⟩ : ∃ e, d = e + 1 := ⟨d - 1, by omega⟩
  have h8 := hN.1
  obtain ⟨e0, e1, e2, hB⟩ := hN.at hb
  have hk := hK (s - 1 - b) (by omega)
  unfold BB at hB
  refine Call.of ok_MO_weightOf (Nat.le_of_ble_eq_true rfl) (B_MO_weightOf_0 hM.1.o ⟨rc_5 ha hM.1.1 (by omega) (by omega) (by omega), rc_5 ha hM.1.1 (by omega) (by omega) (by omega), ?_⟩)
  rw [e0, e1]
  have := C_told (Γ := Γ) (d := d) (k := (bx (s - 1 - b) 0).toNat) (j := 1) (by omega) hM (by omega) (by omega)
  rw [show (((bx (s - 1 - b) 0).toNat : Nat) : Int) = bx (s - 1 - b) 0 by omega] at this
  refine this.conseq (KI.mono ?_)
  rintro r μ1 ⟨rfl, rfl⟩
  exact ⟨_, rfl, rfl, by rw [w_mul]; rfl⟩
theorem C_kindIn (hd : 1 ≤ d) (hM : HM μ n ru ki) (hN : NR μ 559 0 s bx m T mg) {b : Nat} (hb : b < s) : Call Γ m_MO_kindIn d [.ref 547, .int (w b)] μ (KI (fun r μ' => μ' = μ ∧ r = w (bx (s - 1 - b) 0))) := by
  obtain ⟨d, rfl⟩ : ∃ e, d = e + 1 := ⟨d - 1, by omega⟩
  have h8 := hN.1
  refine Call.of ok_MO_kindIn (Nat.le_of_ble_eq_true rfl) (B_MO_kindIn_0 hM.1.o (hM.1.r 30 559 rfl) ⟨rc_5 (Or.inl rfl) hM.1.1 (by omega) (by omega) (by omega), _, rfl, rfl, (hN.at hb).1⟩)
/-- told, of a number that is a kind -/
theorem C_toldI (hd : 1 ≤ d) (hM : HM μ n ru ki) {k : Int} (k0 : 0 ≤ k) (kn : k < n) {j : Nat} (hj : j < 5) : Call Γ m_MO_told d [.ref 547, .int (w k), .int (w j)] μ (KI (fun r μ' => μ' = μ ∧ r = w (ki k.toNat j))) := by
  have := C_told (Γ := Γ) (d := d) (k := k.toNat) (j := j) hd hM (by omega) hj
  rwa [show ((k.toNat : Nat) : Int) = k by omega] at this
theorem C_couldBe (hd : 3 ≤ d) (hM : HM μ n ru ki) (hN : NR μ 559 0 s bx m T mg) (hK : KN bx s n) {b : Nat} (hb : b < s) {k : Int} (k0 : 0 ≤ k) (kn : k < n) : Call Γ m_MO_couldBe d [.ref 547, .int (w b), .int (w k)] μ (KI (fun r μ' => μ' = μ ∧ r = w (if ki (bx (s - 1 - b) 0).toNat 0 = ki k.toNat 0 then max 0 (ptw ki k.toNat (wt ki bx (s - 1 - b))) else 0))) := by
  obtain ⟨d, rfl⟩ : ∃ e, d = e + 1 := ⟨d - 1, by omega⟩
  have h8 := hN.1
  have hn := hM.2.1
  obtain ⟨e0, e1, e2, hB⟩ := hN.at hb
  have hk := hK (s - 1 - b) (by omega)
  unfold BB at hB
  have k5 := (hM.2.2.2.2.2 k.toNat (by omega)).2
  have k6 := (hM.2.2.2.2.2 (bx (s - 1 - b) 0).toNat (by omega)).2
  unfold KK at k5 k6
  refine Call.of ok_MO_couldBe (Nat.le_of_ble_eq_true rfl) (B_MO_couldBe_0 hM.1.o (hM.1.r 30 559 rfl) ?_)
  refine (C_weightOfM (by omega) hM (Or.inl rfl) hN hK hb).conseq (KI.mono ?_)
  rintro r μ1 ⟨rfl, rfl⟩
  refine (C_toldI (j := 1) (by omega) hM k0 kn (by omega)).conseq (KI.mono ?_)
  rintro r μ1 ⟨rfl, rfl⟩
  refine (C_kindIn (by omega) hM hN hb).conseq (KI.mono ?_)
  rintro r μ1 ⟨rfl, rfl⟩
  refine (C_toldI (j := 0) (by omega) hM (by omega) hk (by omega)).conseq (KI.mono ?_)
  rintro r μ1 ⟨rfl, rfl⟩
  refine (C_toldI (j := 0) (by omega) hM k0 kn (by omega)).conseq (KI.mono ?_)
  rintro r μ1 ⟨rfl, rfl⟩
  have hw : 1 ≤ wt ki bx (s - 1 - b) ∧ wt ki bx (s - 1 - b) ≤ 81 := by
    have := mul_bd (a := bx (s - 1 - b) 1) (b := ki (bx (s - 1 - b) 0).toNat 1) (x := 9) (y := 9) (by omega) (by omega) (by omega) (by omega)
    have h2 : 0 < bx (s - 1 - b) 1 * ki (bx (s - 1 - b) 0).toNat 1 := Int.mul_pos (by omega) (by omega)
    unfold wt
    omega
  have hd1 := Int.ediv_nonneg (a := wt ki bx (s - 1 - b)) (b := ki k.toNat 1) (by omega) (by omega)
  have hd2 := Int.ediv_le_self (a := wt ki bx (s - 1 - b)) (ki k.toNat 1) (by omega)
  have hm1 := Int.emod_nonneg (wt ki bx (s - 1 - b)) (show ki k.toNat 1 ≠ 0 by omega)
  have hm2 := Int.emod_lt_of_pos (wt ki bx (s - 1 - b)) (show 0 < ki k.toNat 1 by omega)
  have hed := Int.emod_add_mul_ediv (wt ki bx (s - 1 - b)) (ki k.toNat 1)
  have hnz : ¬ w (ki k.toNat 1) = 0 := w_nz (by omega) (by omega)
  have hp1 : wt ki bx (s - 1 - b) % ki k.toNat 1 = 0 → 1 ≤ wt ki bx (s - 1 - b) / ki k.toNat 1 := fun q => by
    refine Decidable.byContradiction fun z => ?_
    rw [show wt ki bx (s - 1 - b) / ki k.toNat 1 = 0 by omega, Int.mul_zero] at hed
    omega
  rw [w_inj (by omega) (by omega) (by omega) (by omega), w_rem (by omega) (by omega) (by omega) (by omega), w_div (by omega) (by omega) (by omega) (by omega), w_inj (by omega) (by omega) (by omega) (by omega), w_lt (by omega) (by omega) (by omega) (by omega)]
  refine ⟨fun q => ⟨hnz, fun q2 => ⟨hnz, fun q3 => ⟨_, rfl, rfl, ?_⟩, fun q3 => ⟨hnz, _, rfl, rfl, ?_⟩⟩, fun q2 => ⟨_, rfl, rfl, ?_⟩⟩, fun q => ⟨_, rfl, rfl, by rw [if_neg q]⟩⟩
  · rw [if_pos q]
    unfold ptw
    rw [if_neg (by omega)]
    rfl
  · rw [if_pos q]
    unfold ptw
    rw [if_pos ⟨q2, hp1 q2, by omega⟩]
    congr 1
    omega
  · rw [if_pos q]
    unfold ptw
    rw [if_neg (fun z => q2 z.1)]
    rfl
end NA
