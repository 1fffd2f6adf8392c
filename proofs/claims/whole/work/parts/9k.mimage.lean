/-! THE IMAGE AND THE COUNTS, in the reference -/
section OL
variable {Γ : XG} {d n s m T : Nat} {ru : Nat → Int} {ki bx mg : Nat → Nat → Int} {ls : Int → Int → Int → Int → Int → Int → Int} {μ : XM} {Q : Option Value → XM → Prop} {W : WL} {A : AA}
theorem imf_0 {c j : Nat} (h : thr c j) : imf c j := Or.inr ⟨h.1, Or.inl h.2⟩
theorem MA.im (h : MA μ n ru ki s bx m T mg W ls A) {μ' : XM} (ho : fr imf μ μ') : MA μ' n ru ki s bx m T mg W ls A :=
  ⟨⟨h.1.1.fr ho (fun k v e => by
    unfold imf
    rintro (q | ⟨-, rfl | rfl⟩)
    · omega
    · exact nomatch e
    · exact nomatch e) (by unfold imf; omega) (fun j => by unfold imf; omega) (fun j => by unfold imf; omega), h.1.2.1.fr ho (fun j => by unfold imf; omega), h.1.2.2.1, h.1.2.2.2.1, h.1.2.2.2.2.1.frm ho (fun c j hc => by unfold imf; omega) (by unfold imf; omega) (fun c j h1 h2 => by unfold imf; omega) (fun c j h1 h2 => by unfold imf; omega), h.1.2.2.2.2.2⟩, h.2.frm ho (fun j => by unfold imf; omega) (by unfold imf; omega)⟩
theorem C_imageM (hd : 2 ≤ d) (h : MA μ n ru ki s bx m T mg W ls A) {k : Bool} {si mi Ti : Nat} {bi gi : Nat → Nat → Int} (hI : IMM μ n k si bi mi Ti gi) : Call Γ m_MO_image d [.ref 547] μ (KI (fun r μ' => fr imf μ μ' ∧ MA μ' n ru ki s bx m T mg W ls A ∧ ((0 < n ∧ r = w m ∧ IMM μ' n true s bx m T mg) ∨ (n = 0 ∧ r = w (-1) ∧ IMM μ' n k si bi mi Ti gi)))) := by
  obtain ⟨d, rfl⟩ : ∃ e, d = e + 1 := ⟨d - 1, by omega⟩
  have hR := h.1.hm.1
  have hn6 := h.1.hm.2.1
  refine Call.of ok_MO_image (Nat.le_of_ble_eq_true rfl) (B_MO_image_0 hR.o (hR.r 30 559 rfl) (hR.r 54 572 rfl) ?_)
  rintro μ1 rfl
  have o1 := th0 μ
  have h1 := h.th
  have hI1 : IMM (sI μ 547 0 (w 0)) n k si bi mi Ti gi := hI.frm o1 (fun j => by unfold thr; omega) (by unfold thr; omega)
  have h0 := o1.wide (fun _ _ => imf_0)
  generalize sI μ 547 0 (w 0) = μ1 at *
  rw [h1.1.hm.2.2.1, w_inj (by omega) (by omega) (by omega) (by omega)]
  refine ⟨fun q => ⟨_, rfl, h0, h1, Or.inr ⟨by omega, rfl, hI1⟩⟩, fun q => ?_⟩
  refine (C_copyM (by omega) (Or.inl rfl) (Or.inr (Or.inr rfl)) (by omega) h1.1.hm.1.1 h1.1.nr).conseq (KV.mono ?_)
  rintro μ2 ⟨o2, h2⟩
  rintro μ3 rfl
  have o2' : fr imf μ1 μ2 := o2.wide (fun c j z => Or.inl z)
  have o3 : fr imf μ2 (sI μ2 547 55 (w 1)) := fr.sI (F := imf) (a := 547) (k := 55) _ _ (Or.inr ⟨rfl, Or.inr rfl⟩)
  have h3 := h1.im (o2'.trans o3)
  have hN3 : NR (sI μ2 547 55 (w 1)) 572 0 s bx m T mg := h2.fr (F := wfr 55) (fr.sI (F := wfr 55) (a := 547) (k := 55) _ _ ⟨rfl, Or.inr rfl⟩) (fun j => by unfold wfr; omega)
  have e55 : xI (sI μ2 547 55 (w 1)) 547 55 = w 1 := by rw [xI_sI, if_pos ⟨rfl, rfl⟩]
  generalize sI μ2 547 55 (w 1) = μ3 at *
  obtain ⟨t0, t1, t2⟩ := h3.1.nr.z
  refine ⟨h3.1.hm.1.r 30 559 rfl, in558 h3.1.hm.1.1 (by omega) (by omega), _, rfl, h0.trans (o2'.trans o3), h3, Or.inl ⟨by omega, ?_, e55, fun _ => ⟨hN3, h3.1.kn, by omega⟩⟩⟩
  rw [show (w 41).toNatClampNeg = 41 by decide]
  exact t1
theorem C_backM (hd : 2 ≤ d) (h : MA μ n ru ki s bx m T mg W ls A) {k : Bool} {si mi Ti : Nat} {bi gi : Nat → Nat → Int} (hI : IMM μ n k si bi mi Ti gi) : Call Γ m_MO_back d [.ref 547] μ (KI (fun r μ' => fr mof μ μ' ∧ IMM μ' n k si bi mi Ti gi ∧ ((k = true ∧ 0 < n ∧ r = w mi ∧ MA μ' n ru ki si bi mi Ti gi W ls (0, aS A, aB A, aM A, aT A)) ∨ (¬ (k = true ∧ 0 < n) ∧ r = w (-1) ∧ MA μ' n ru ki s bx m T mg W ls A)))) := by
  obtain ⟨d, rfl⟩ : ∃ e, d = e + 1 := ⟨d - 1, by omega⟩
  have hR := h.1.hm.1
  have hn6 := h.1.hm.2.1
  refine Call.of ok_MO_back (Nat.le_of_ble_eq_true rfl) (B_MO_back_0 hR.o (hR.r 54 572 rfl) (hR.r 30 559 rfl) ?_)
  rintro μ1 rfl
  have o1 := th0 μ
  have h1 := h.th
  have hI1 : IMM (sI μ 547 0 (w 0)) n k si bi mi Ti gi := hI.frm o1 (fun j => by unfold thr; omega) (by unfold thr; omega)
  have h0 := o1.wide (fun _ _ => mof_0)
  generalize sI μ 547 0 (w 0) = μ1 at *
  rw [hI1.1]
  cases k with
  | false => exact ⟨fun _ => ⟨_, rfl, h0, hI1, Or.inr ⟨by simp, rfl, h1⟩⟩, fun q => absurd (by decide) q⟩
  | true =>
    refine ⟨fun q => absurd q (by decide), fun q => ?_⟩
    obtain ⟨hN, hK, hn⟩ := hI1.2 rfl
    refine (C_copyM (by omega) (Or.inr (Or.inr rfl)) (Or.inl rfl) (by omega) h1.1.hm.1.1 hN).conseq (KV.mono ?_)
    rintro μ2 ⟨o2, h2⟩
    rintro μ3 rfl
    have hq2 := h1.1.row o2 h2 hK (fun q => by omega)
    have o3 : fr rmf μ2 (sI μ2 547 37 (w 0)) := fr.sI (F := rmf) (a := 547) (k := 37) _ _ (Or.inr ⟨rfl, rfl⟩)
    have hq3 := hq2.rm o3
    have e37 : xI (sI μ2 547 37 (w 0)) 547 37 = w 0 := by rw [xI_sI, if_pos ⟨rfl, rfl⟩]
    have hI3 : IMM (sI μ2 547 37 (w 0)) n true si bi mi Ti gi := (hI1.frm o2 (fun j => by omega) (by omega)).frm o3 (fun j => by unfold rmf; omega) (by unfold rmf; omega)
    generalize sI μ2 547 37 (w 0) = μ3 at *
    obtain ⟨t0, t1, t2⟩ := hq3.nr.z
    refine ⟨hq3.hm.1.r 30 559 rfl, in558 hq3.hm.1.1 (by omega) (by omega), _, rfl, h0.trans ((o2.wide (fun _ _ => mof_a)).trans (o3.wide (fun _ _ => mof_r))), hI3, Or.inl ⟨rfl, hn, ?_, hq3, ?_⟩⟩
    · rw [show (w 41).toNatClampNeg = 41 by decide]
      exact t1
    · exact ⟨Nat.zero_le _, e37, fun i j _ hj => absurd hj (Nat.not_lt_zero _), fun j hj => absurd hj (Nat.not_lt_zero _)⟩
theorem mvs_rev (mg : Nat → Nat → Int) (T L : Nat) (hL : L ≤ T) : fsum (fun k => mg (T - L + k) 3) L = mvs mg T L := by
  rw [fsum_rev]
  unfold mvs
  refine fsum_cg L (fun j hj => ?_)
  rw [show T - L + (L - 1 - j) = T - 1 - j by omega]
theorem count_G (hM : HM μ n ru ki) (hN : NR μ 559 0 s bx m T mg) : ∀ (f j : Nat), j + f = min 60 T → Q (some (.int (w (fsum (fun k => mg (T - min 60 T + k) 3) (min 60 T))))) μ → G Γ m_MO_count (d + 1) (0, 0) Q 158 [.ref 547, jk, .int (w (fsum (fun k => mg (T - min 60 T + k) 3) j)), .int (w j)] [] μ := by
  obtain ⟨t0, t1, t2⟩ := hN.z
  have d42 : (w 42).toNatClampNeg = 42 := by decide
  intro f
  induction f with
  | zero =>
    intro j hj hQ
    refine B_MO_count_158 hM.1.o (hM.1.r 30 559 rfl) ?_
    rw [d42, t2, w_lt (by omega) (by omega) (by omega) (by omega)]
    refine ⟨in558 hM.1.1 (by omega) (by omega), fun q => absurd q (by omega), fun _ => ?_⟩
    rw [show j = min 60 T by omega]
    exact hQ
  | succ f ih =>
    intro j hj hQ
    refine B_MO_count_158 hM.1.o (hM.1.r 30 559 rfl) ?_
    have e4 : (w (46 + 4 * (j : Int))).toNatClampNeg = 43 + 4 * j + 3 := by rw [w_cl (by omega) (by omega)]; omega
    rw [d42, t2, w_lt (by omega) (by omega) (by omega) (by omega), w_mul, w_add, e4, hN.l4 (by omega) (by omega), w_add, w_add]
    refine ⟨in558 hM.1.1 (by omega) (by omega), fun _ => ⟨in558 hM.1.1 (by omega) (by omega), ?_⟩, fun q => absurd (by omega) q⟩
    exact ih (j + 1) (by omega) hQ
theorem C_countM (hf : FM Γ) (hd : 39 ≤ d) (h : MA μ n ru ki s bx m T mg W ls A) {tn lt k cl cf : Nat} {hab : Int} (e6 : xI μ 547 6 = w tn) (e7 : xI μ 547 7 = w lt) (e28 : xI μ 547 28 = w k) (e33 : xI μ 547 33 = w hab) (e43 : xI μ 547 43 = w cl) (e50 : xI μ 547 50 = w cf) {z : Int} (z1 : -2147483648 ≤ z) (z2 : z < 2147483648) : Call Γ m_MO_count d [.ref 547, .int (w z)] μ (KI (fun r μ' => fr qfr μ μ' ∧ MW μ' W ∧ r = w (cnt n s lt k tn W.2.1 m (bsum bx 1 s) (sov ls ki bx m s 0 0) hab cl cf (mvs mg T (min 60 T)) (min 60 T) (aC A) z))) := by
  obtain ⟨d, rfl⟩ : ∃ e, d = e + 1 := ⟨d - 1, by omega⟩
  have hR := h.1.hm.1
  refine Call.of ok_MO_count (Nat.le_of_ble_eq_true rfl) (B_MO_count_0 hR.o (hR.r 30 559 rfl) ?_)
  rintro μ1 rfl
  have o1 := (th0 μ).wide thr_q
  have h1 := h.th
  have ne : ∀ j, j ≠ 0 → xI (sI μ 547 0 (w 0)) 547 j = xI μ 547 j := fun j hj => by rw [xI_sI, if_neg (by omega)]
  rw [ne 6 (by omega), ne 7 (by omega), ne 28 (by omega), ne 33 (by omega), ne 43 (by omega), ne 50 (by omega), e6, e7, e28, e33, e43, e50]
  generalize sI μ 547 0 (w 0) = μ1 at *
  have hM := h1.1.hm
  have hx := hM.1.1
  obtain ⟨t0, t1, t2⟩ := h1.1.nr.z
  have d40 : (w 40).toNatClampNeg = 40 := by decide
  have d41 : (w 41).toNatClampNeg = 41 := by decide
  have d42 : (w 42).toNatClampNeg = 42 := by decide
  rw [hM.2.2.1, h1.1.mw.2.2.1, h1.2.2.1, d40, d41, d42, t0, t1, t2]
  refine ⟨fun e => ?_, fun e => ?_, fun e => ?_, fun e => ?_, fun e => ?_, fun e => ?_, fun e => ?_, fun e => ?_, fun e => ?_, fun e => ?_, fun e => ?_, fun e => ?_, fun e => ?_, fun e => ?_, fun e => ?_, fun e => ?_⟩
  · rw [w_lt (by omega) (by omega) (by omega) (by omega), w_lt (by omega) (by omega) (by omega) (by omega)] at e
    refine ⟨_, rfl, o1, h1.1.mw, ?_⟩
    unfold cnt
    rw [if_neg (by omega), if_neg (by omega), if_neg (by omega), if_neg (by omega), if_neg (by omega), if_neg (by omega), if_neg (by omega), if_neg (by omega), if_neg (by omega), if_neg (by omega), if_neg (by omega), if_neg (by omega), if_neg (by omega), if_neg (by omega), if_neg (by omega)]
  all_goals rw [w_inj (by omega) (by omega) (by omega) (by omega)] at e
  all_goals subst e
  · exact ⟨_, rfl, o1, h1.1.mw, rfl⟩
  · exact ⟨in558 hx (by omega) (by omega), _, rfl, o1, h1.1.mw, rfl⟩
  · exact ⟨_, rfl, o1, h1.1.mw, rfl⟩
  · exact ⟨_, rfl, o1, h1.1.mw, rfl⟩
  · exact ⟨_, rfl, o1, h1.1.mw, rfl⟩
  · exact ⟨_, rfl, o1, h1.1.mw, rfl⟩
  · exact ⟨in558 hx (by omega) (by omega), _, rfl, o1, h1.1.mw, rfl⟩
  · refine (C_sumIn (by omega) hx r558.sh.1 r558.sh.2.1 h1.1.nr).conseq (KI.mono ?_)
    rintro r μ2 ⟨rfl, rfl⟩
    exact ⟨_, rfl, o1, h1.1.mw, rfl⟩
  · refine (C_valueIn hf (by omega) hM h1.1.mw h1.1.lo r558 h1.1.nr h1.1.kn).conseq (KI.mono ?_)
    rintro r μ2 ⟨o2, hW2, rfl⟩
    exact ⟨_, rfl, o1.trans (o2.wide (fun _ _ q => Or.inl q)), hW2, rfl⟩
  · exact ⟨_, rfl, o1, h1.1.mw, rfl⟩
  · exact ⟨_, rfl, o1, h1.1.mw, rfl⟩
  · exact ⟨_, rfl, o1, h1.1.mw, rfl⟩
  · exact count_G hM h1.1.nr (min 60 T) 0 (by omega) ⟨_, rfl, o1, h1.1.mw, by rw [mvs_rev mg T (min 60 T) (by omega)]; rfl⟩
  · exact ⟨in558 hx (by omega) (by omega), _, rfl, o1, h1.1.mw, rfl⟩
  · exact ⟨_, rfl, o1, h1.1.mw, rfl⟩
end OL
