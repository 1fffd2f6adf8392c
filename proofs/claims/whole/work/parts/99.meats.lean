/-! A MEAL OF THE REFERENCE -/
/-- what a meal from row a may change -/
def efr (a c j : Nat) : Prop := vfr c j ∨ c = a
theorem NR.lg {μ : XM} {a o s m L T : Nat} {bx mg mg' : Nat → Nat → Int} (h : NR μ a o s bx m L mg) (hl : min 60 L = min 60 T) (he : ∀ k, k < min 60 T → ∀ q, q < 4 → mg (L - min 60 L + k) q = mg' (T - min 60 T + k) q) : NR μ a o s bx m T mg' :=
  ⟨h.1, h.2.1, h.2.2.1, h.2.2.2.1, by rw [← hl]; exact h.2.2.2.2.1, h.2.2.2.2.2.1, fun k hk q hq => by rw [← he k hk q hq]; exact h.2.2.2.2.2.2 k (by omega) q hq⟩
section OB
variable {Γ : XG} {d n a s m T : Nat} {ru : Nat → Int} {ki bx mg : Nat → Nat → Int} {ls : Int → Int → Int → Int → Int → Int → Int} {μ : XM} {Q : Option Value → XM → Prop} {W : WL}
theorem MW_a (h : MW μ W) (ha : RC a) {μ' : XM} (ho : fr (fun c _ => c = a) μ μ') : MW μ' W := h.frm ho (fun c j hc => by unfold RC at ha; omega) (by unfold RC at ha; omega) (fun c j h1 h2 => by unfold RC at ha; omega) (fun c j h1 h2 => by unfold RC at ha; omega)
theorem mput_lt {k p g v : Int} {j q : Nat} (h : j ≠ T) : mput mg T k p g v j q = mg j q := by unfold mput; rw [if_neg h]
theorem mput_at {k p g v : Int} {q : Nat} : mput mg T k p g v T q = if q = 0 then k else if q = 1 then p else if q = 2 then g else v := by unfold mput; rw [if_pos rfl]
theorem eat_1 (hf : FM Γ) (hd : 37 ≤ d) (hM : HM μ n ru ki) (hW : MW μ W) (hL : LSok ls W) (ha : RC a) {L : Nat} (hN : NR μ a 0 s bx m L mg) (hK : KN bx s n) {b : Nat} (hb : b < s) (h9 : L ≤ 59) (hQ : ∀ μ', fr (efr a) μ μ' → MW μ' W → NR μ' a 0 (s - 1) (bcut bx (s - 1 - b)) m (L + 1) (mput mg L (bx (s - 1 - b) 0) (bx (s - 1 - b) 1) (bx (s - 1 - b) 2) (vpl ls ki bx m s b)) → Q (some (.int (w (vpl ls ki bx m s b)))) μ') : Call Γ m_MO_valueOf d [.ref 547, .ref a, .int (w b)] μ (KI (fun v2 μ2 => inb μ2 0 a (w 42) ∧ inb μ2 0 a (((w 5) * (w b)) + (w 0)) ∧ inS μ2 0 a ((w 43) + ((w 4) * (xI μ2 a (w 42).toNatClampNeg))) ∧ ∀ μ6, μ6 = sI μ2 a ((w 43) + ((w 4) * (xI μ2 a (w 42).toNatClampNeg))).toNatClampNeg (xI μ2 a (((w 5) * (w b)) + (w 0)).toNatClampNeg) → inb μ6 0 a (((w 5) * (w b)) + (w 1)) ∧ inS μ6 0 a (((w 43) + ((w 4) * (xI μ2 a (w 42).toNatClampNeg))) + (w 1)) ∧ ∀ μ9, μ9 = sI μ6 a (((w 43) + ((w 4) * (xI μ2 a (w 42).toNatClampNeg))) + (w 1)).toNatClampNeg (xI μ6 a (((w 5) * (w b)) + (w 1)).toNatClampNeg) → inb μ9 0 a (((w 5) * (w b)) + (w 2)) ∧ inS μ9 0 a (((w 43) + ((w 4) * (xI μ2 a (w 42).toNatClampNeg))) + (w 2)) ∧ ∀ μ12, μ12 = sI μ9 a (((w 43) + ((w 4) * (xI μ2 a (w 42).toNatClampNeg))) + (w 2)).toNatClampNeg (xI μ9 a (((w 5) * (w b)) + (w 2)).toNatClampNeg) → inS μ12 0 a (((w 43) + ((w 4) * (xI μ2 a (w 42).toNatClampNeg))) + (w 3)) ∧ ∀ μ14, μ14 = sI μ12 a (((w 43) + ((w 4) * (xI μ2 a (w 42).toNatClampNeg))) + (w 3)).toNatClampNeg v2 → inb μ14 0 a (w 42) ∧ inS μ14 0 a (w 42) ∧ ∀ μ17, μ17 = sI μ14 a (w 42).toNatClampNeg ((xI μ14 a (w 42).toNatClampNeg) + (w 1)) → Call Γ m_MO_drops d [.ref a, .int (w b)] μ17 (KV (fun μ18 => Q (some (.int v2)) μ18)))) := by
  have h8 := hN.1
  have hm9 := hN.2.1
  refine (C_valueOfM hf hd hM hW hL ha hN hK hb).conseq (KI.mono ?_)
  rintro r μ2 ⟨o2, hW2, rfl⟩
  have hN2 := NRv hN ha o2
  have hx2 : 574 ≤ xN μ2 := by rw [o2.2]; exact hM.1.1
  obtain ⟨z0, z1, z2⟩ := hN2.z
  rw [show min 60 L = L by omega] at z2
  have d42 : (w 42).toNatClampNeg = 42 := by decide
  have c0 : (w (5 * (b : Int) + 0)).toNatClampNeg = 5 * b + 0 := by rw [w_cl (by omega) (by omega)]; omega
  have c1 : (w (5 * (b : Int) + 1)).toNatClampNeg = 5 * b + 1 := by rw [w_cl (by omega) (by omega)]; omega
  have c2 : (w (5 * (b : Int) + 2)).toNatClampNeg = 5 * b + 2 := by rw [w_cl (by omega) (by omega)]; omega
  have e0 : (w (43 + 4 * (L : Int))).toNatClampNeg = 43 + 4 * L := by rw [w_cl (by omega) (by omega)]; omega
  have e1 : (w (43 + 4 * (L : Int) + 1)).toNatClampNeg = 43 + 4 * L + 1 := by rw [w_cl (by omega) (by omega)]; omega
  have e2 : (w (43 + 4 * (L : Int) + 2)).toNatClampNeg = 43 + 4 * L + 2 := by rw [w_cl (by omega) (by omega)]; omega
  have e3 : (w (43 + 4 * (L : Int) + 3)).toNatClampNeg = 43 + 4 * L + 3 := by rw [w_cl (by omega) (by omega)]; omega
  have hr := hN2.rb hb
  unfold RB at hr
  dsimp only at hr
  obtain ⟨r0, r1, r2, -, -⟩ := hr
  have iS : ∀ (μ' : XM) (z : Int), xN μ' = xN μ2 → 0 ≤ z → z < 283 → inS μ' 0 a (w z) := fun μ' z e z0 z1 => ⟨ha.sh.2.2, rc_in ha (by omega) z0 z1⟩
  have iB : ∀ (μ' : XM) (z : Int), xN μ' = xN μ2 → 0 ≤ z → z < 283 → inb μ' 0 a (w z) := fun μ' z e z0 z1 => rc_in ha (by omega) z0 z1
  simp only [d42, z2, w_mul, w_add, c0, c1, c2, e0, e1, e2, e3]
  rw [r0]
  refine ⟨iB _ _ rfl (by omega) (by omega), iB _ _ rfl (by omega) (by omega), iS _ _ rfl (by omega) (by omega), ?_⟩
  rintro μ6 rfl
  rw [xI_sI, if_neg (by omega), r1]
  refine ⟨iB _ _ rfl (by omega) (by omega), iS _ _ rfl (by omega) (by omega), ?_⟩
  rintro μ9 rfl
  rw [xI_sI, if_neg (by omega), xI_sI, if_neg (by omega), r2]
  refine ⟨iB _ _ rfl (by omega) (by omega), iS _ _ rfl (by omega) (by omega), ?_⟩
  rintro μ12 rfl
  refine ⟨iS _ _ rfl (by omega) (by omega), ?_⟩
  rintro μ14 rfl
  rw [xI_sI, if_neg (by omega), xI_sI, if_neg (by omega), xI_sI, if_neg (by omega), xI_sI, if_neg (by omega), z2, w_add]
  refine ⟨iB _ _ rfl (by omega) (by omega), iS _ _ rfl (by omega) (by omega), ?_⟩
  rintro μ17 rfl
  generalize hv : vpl ls ki bx m s b = v at *
  have fs : ∀ (μ' : XM) (k : Nat) (v : Int32), fr (fun c _ => c = a) μ' (sI μ' a k v) := fun μ' k v => fr.sI (F := fun c _ => c = a) μ' v rfl
  have hE := (((fs μ2 (43 + 4 * L) (w (bx (s - 1 - b) 0))).trans (fs _ (43 + 4 * L + 1) (w (bx (s - 1 - b) 1)))).trans (fs _ (43 + 4 * L + 2) (w (bx (s - 1 - b) 2)))).trans ((fs _ (43 + 4 * L + 3) (w v)).trans (fs _ 42 (w ((L : Int) + 1))))
  have g0 : xI (sI (sI (sI (sI (sI μ2 a (43 + 4 * L) (w (bx (s - 1 - b) 0))) a (43 + 4 * L + 1) (w (bx (s - 1 - b) 1))) a (43 + 4 * L + 2) (w (bx (s - 1 - b) 2))) a (43 + 4 * L + 3) (w v)) a 42 (w ((L : Int) + 1))) a (43 + 4 * L) = w (bx (s - 1 - b) 0) := by
    rw [xI_sI, if_neg (by omega), xI_sI, if_neg (by omega), xI_sI, if_neg (by omega), xI_sI, if_neg (by omega), xI_sI, if_pos ⟨rfl, rfl⟩]
  have g1 : xI (sI (sI (sI (sI (sI μ2 a (43 + 4 * L) (w (bx (s - 1 - b) 0))) a (43 + 4 * L + 1) (w (bx (s - 1 - b) 1))) a (43 + 4 * L + 2) (w (bx (s - 1 - b) 2))) a (43 + 4 * L + 3) (w v)) a 42 (w ((L : Int) + 1))) a (43 + 4 * L + 1) = w (bx (s - 1 - b) 1) := by
    rw [xI_sI, if_neg (by omega), xI_sI, if_neg (by omega), xI_sI, if_neg (by omega), xI_sI, if_pos ⟨rfl, rfl⟩]
  have g2 : xI (sI (sI (sI (sI (sI μ2 a (43 + 4 * L) (w (bx (s - 1 - b) 0))) a (43 + 4 * L + 1) (w (bx (s - 1 - b) 1))) a (43 + 4 * L + 2) (w (bx (s - 1 - b) 2))) a (43 + 4 * L + 3) (w v)) a 42 (w ((L : Int) + 1))) a (43 + 4 * L + 2) = w (bx (s - 1 - b) 2) := by
    rw [xI_sI, if_neg (by omega), xI_sI, if_neg (by omega), xI_sI, if_pos ⟨rfl, rfl⟩]
  have g3 : xI (sI (sI (sI (sI (sI μ2 a (43 + 4 * L) (w (bx (s - 1 - b) 0))) a (43 + 4 * L + 1) (w (bx (s - 1 - b) 1))) a (43 + 4 * L + 2) (w (bx (s - 1 - b) 2))) a (43 + 4 * L + 3) (w v)) a 42 (w ((L : Int) + 1))) a (43 + 4 * L + 3) = w v := by
    rw [xI_sI, if_neg (by omega), xI_sI, if_pos ⟨rfl, rfl⟩]
  have g42 : xI (sI (sI (sI (sI (sI μ2 a (43 + 4 * L) (w (bx (s - 1 - b) 0))) a (43 + 4 * L + 1) (w (bx (s - 1 - b) 1))) a (43 + 4 * L + 2) (w (bx (s - 1 - b) 2))) a (43 + 4 * L + 3) (w v)) a 42 (w ((L : Int) + 1))) a 42 = w ((L : Int) + 1) := by
    rw [xI_sI, if_pos ⟨rfl, rfl⟩]
  have ne : ∀ i, i ≠ 42 → (i < 43 + 4 * L ∨ 43 + 4 * L + 3 < i) → xI (sI (sI (sI (sI (sI μ2 a (43 + 4 * L) (w (bx (s - 1 - b) 0))) a (43 + 4 * L + 1) (w (bx (s - 1 - b) 1))) a (43 + 4 * L + 2) (w (bx (s - 1 - b) 2))) a (43 + 4 * L + 3) (w v)) a 42 (w ((L : Int) + 1))) a i = xI μ2 a i := fun i h1 h2 => by
    rw [xI_sI, if_neg (by omega), xI_sI, if_neg (by omega), xI_sI, if_neg (by omega), xI_sI, if_neg (by omega), xI_sI, if_neg (by omega)]
  generalize (sI (sI (sI (sI (sI μ2 a (43 + 4 * L) (w (bx (s - 1 - b) 0))) a (43 + 4 * L + 1) (w (bx (s - 1 - b) 1))) a (43 + 4 * L + 2) (w (bx (s - 1 - b) 2))) a (43 + 4 * L + 3) (w v)) a 42 (w ((L : Int) + 1))) = E at *
  have hN3 : NR E a 0 s bx m (L + 1) (mput mg L (bx (s - 1 - b) 0) (bx (s - 1 - b) 1) (bx (s - 1 - b) 2) v) := by
    refine NR.mk h8 hm9 (by rw [ne _ (by omega) (by omega)]; exact z0) (by rw [ne _ (by omega) (by omega)]; exact z1) (by rw [g42, show min 60 (L + 1) = L + 1 by omega]; rfl) (fun c hc => ⟨(hN2.rb hc).cg (fun q hq => ne _ (by omega) (by omega)) (fun _ _ => rfl), hN2.bb _ (by omega)⟩) (fun k hk q hq => ?_)
    rw [show L + 1 - min 60 (L + 1) + k = k by omega]
    by_cases e : k = L
    · subst e
      rw [mput_at]
      rcases (show q = 0 ∨ q = 1 ∨ q = 2 ∨ q = 3 by omega) with rfl | rfl | rfl | rfl
      · rw [if_pos rfl]; exact g0
      · rw [if_neg (by omega), if_pos rfl]; exact g1
      · rw [if_neg (by omega), if_neg (by omega), if_pos rfl]; exact g2
      · rw [if_neg (by omega), if_neg (by omega), if_neg (by omega)]; exact g3
    · rw [mput_lt e, ne _ (by omega) (by omega)]
      have := hN2.l4 (k := k) (q := q) (by omega) hq
      rw [show L - min 60 L + k = k by omega] at this
      exact this
  have hxE : 574 ≤ xN E := by rw [hE.2]; exact hx2
  refine (C_drops (by omega) ha hxE hN3 hb).conseq (KV.mono ?_)
  rintro μ3 ⟨o3, h3⟩
  have oa : fr (efr a) μ μ3 := (o2.wide (fun c j hj => Or.inl hj)).trans ((hE.trans o3).wide (fun c j hj => Or.inr hj))
  refine hQ μ3 oa (MW_a hW2 ha (hE.trans o3)) h3
theorem eats_G {b : Nat} (ha : RC a) (hM : HM μ n ru ki) : ∀ (f j : Nat) (μ1 : XM), j + f = 237 → 1 ≤ j → fr (fun c _ => c = a) μ μ1 → (∀ i, 42 + j ≤ i → xI μ1 a i = xI μ a i) → (∀ i, (i ≤ 42) → xI μ1 a i = xI μ a i) → (∀ i, 43 ≤ i → i < 42 + j → xI μ1 a i = xI μ a (i + 4)) → (∀ μ', fr (fun c _ => c = a) μ μ' → (∀ i, i ≤ 42 → xI μ' a i = xI μ a i) → (∀ i, 43 ≤ i → i < 279 → xI μ' a i = xI μ a (i + 4)) → G Γ m_MO_eats (d + 1) (0, 0) Q 11 [.ref 547, .ref a, .int (w b), .int (w 237)] [] μ') → G Γ m_MO_eats (d + 1) (0, 0) Q 11 [.ref 547, .ref a, .int (w b), .int (w j)] [] μ1 := by
  intro f
  induction f with
  | zero =>
    intro j μ1 hj h1 ho g1 g2 g3 hQ
    rw [show ((j : Nat) : Int) = 237 by omega]
    exact hQ μ1 ho g2 (fun i h3 h4 => g3 i h3 (by omega))
  | succ f ih =>
    intro j μ1 hj h1 ho g1 g2 g3 hQ
    have hM1 := HM_a hM ha ho
    have hx1 := hM1.1.1
    have e0 : (w (42 + (j : Int))).toNatClampNeg = 42 + j := by rw [w_cl (by omega) (by omega)]; omega
    have e4 : (w (42 + (j : Int) + 4)).toNatClampNeg = 42 + j + 4 := by rw [w_cl (by omega) (by omega)]; omega
    refine B_MO_eats_11 hM1.1.o ?_
    simp only [w_add, e0, e4]
    rw [w_lt (by omega) (by omega) (by omega) (by omega)]
    refine ⟨fun q => absurd q (by omega), fun _ => ⟨rc_in ha hx1 (by omega) (by omega), ⟨ha.sh.2.2, rc_in ha hx1 (by omega) (by omega)⟩, ?_⟩⟩
    rintro μ23 rfl
    refine ih (j + 1) _ (by omega) (by omega) (ho.trans (fr.sI (F := fun c _ => c = a) (a := a) (k := 42 + j) μ1 _ rfl)) (fun i hi => ?_) (fun i hi => ?_) (fun i h3 h4 => ?_) hQ
    · rw [xI_sI, if_neg (by omega)]; exact g1 i (by omega)
    · rw [xI_sI, if_neg (by omega)]; exact g2 i (by omega)
    · by_cases e : i = 42 + j
      · subst e
        rw [xI_sI, if_pos ⟨rfl, rfl⟩]; exact g1 _ (by omega)
      · rw [xI_sI, if_neg (by omega)]; exact g3 i h3 (by omega)
theorem C_eatsM (hf : FM Γ) (hd : 38 ≤ d) (hM : HM μ n ru ki) (hW : MW μ W) (hL : LSok ls W) (ha : RC a) (hN : NR μ a 0 s bx m T mg) (hK : KN bx s n) {b : Nat} (hb : b < s) : Call Γ m_MO_eats d [.ref 547, .ref a, .int (w b)] μ (KI (fun r μ' => fr (efr a) μ μ' ∧ MW μ' W ∧ NR μ' a 0 (s - 1) (bcut bx (s - 1 - b)) m (T + 1) (mput mg T (bx (s - 1 - b) 0) (bx (s - 1 - b) 1) (bx (s - 1 - b) 2) (vpl ls ki bx m s b)) ∧ r = w (vpl ls ki bx m s b))) := by
  obtain ⟨d, rfl⟩ : ∃ e, d = e + 1 := ⟨d - 1, by omega⟩
  have h8 := hN.1
  have hm9 := hN.2.1
  have hx := hM.1.1
  have hB := hN.bb
  obtain ⟨z0, z1, z2⟩ := hN.z
  have d42 : (w 42).toNatClampNeg = 42 := by decide
  refine Call.of ok_MO_eats (Nat.le_of_ble_eq_true rfl) (B_MO_eats_0 hM.1.o ⟨rc_in ha hx (by omega) (by omega), ?_⟩)
  refine ⟨fun q => ?_, fun q => ?_⟩
  · have hT : 60 ≤ T := by
      rw [d42, z2, w_inj (by omega) (by omega) (by omega) (by omega)] at q
      omega
    refine eats_G ha hM 236 1 μ (by omega) (by omega) (fr.rf _ _) (fun _ _ => rfl) (fun _ _ => rfl) (fun i h1 h2 => by omega) (fun μ1 o1 g1 g2 => ?_)
    have hM1 := HM_a hM ha o1
    have hx1 := hM1.1.1
    refine B_MO_eats_11 hM1.1.o ⟨fun _ => ⟨rc_in ha hx1 (by omega) (by omega), ⟨ha.sh.2.2, rc_in ha hx1 (by omega) (by omega)⟩, ?_⟩, fun q => absurd (by decide) q⟩
    rintro μ3 rfl
    rw [d42, g1 42 (by omega), z2, show min 60 T = 60 by omega, w_sub]
    have o3 : fr (fun c _ => c = a) μ (sI μ1 a 42 (w (((60 : Nat) : Int) - 1))) := o1.trans (fr.sI (F := fun c _ => c = a) (a := a) (k := 42) μ1 _ rfl)
    have ne : ∀ i, i ≠ 42 → xI (sI μ1 a 42 (w (((60 : Nat) : Int) - 1))) a i = xI μ1 a i := fun i h => by rw [xI_sI, if_neg (fun z => h z.2)]
    have hN3 : NR (sI μ1 a 42 (w (((60 : Nat) : Int) - 1))) a 0 s bx m 59 (fun j q => mg (T - 59 + j) q) := by
      refine NR.mk h8 hm9 (by rw [ne _ (by omega), g1 _ (by omega)]; exact z0) (by rw [ne _ (by omega), g1 _ (by omega)]; exact z1) (by rw [xI_sI, if_pos ⟨rfl, rfl⟩]; rfl) (fun c hc => ⟨(hN.rb hc).cg (fun q hq => by rw [ne _ (by omega), g1 _ (by omega)]) (fun _ _ => rfl), hN.bb _ (by omega)⟩) (fun k hk q hq => ?_)
      rw [ne _ (by omega), g2 _ (by omega) (by omega)]
      have := hN.l4 (k := k + 1) (q := q) (by omega) hq
      rw [show 43 + 4 * (k + 1) + q = 43 + 4 * k + q + 4 by omega, show T - min 60 T + (k + 1) = T - 59 + (59 - min 60 59 + k) by omega] at this
      exact this
    refine eat_1 hf (by omega) (HM_a hM ha o3) (MW_a hW ha o3) hL ha hN3 hK hb (by omega) (fun μ' o4 hW4 h4 => ⟨_, rfl, (o3.wide (fun c j hj => Or.inr hj)).trans o4, hW4, h4.lg (by omega) (fun k hk q hq => ?_), rfl⟩)
    by_cases e : k = 59
    · subst e
      rw [show 59 + 1 - min 60 (59 + 1) + 59 = 59 by omega, show T + 1 - min 60 (T + 1) + 59 = T by omega, mput_at, mput_at]
    · rw [mput_lt (by omega), mput_lt (by omega)]
      congr 1
      omega
  · have hT : T < 60 := by
      by_cases e : T < 60
      · exact e
      · exfalso
        rw [d42, z2, show min 60 T = 60 by omega] at q
        exact q rfl
    exact eat_1 hf (by omega) hM hW hL ha hN hK hb (by omega) (fun μ' o4 hW4 h4 => ⟨_, rfl, o4, hW4, h4, rfl⟩)
end OB
