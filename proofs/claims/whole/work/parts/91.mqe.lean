/-! THE REFERENCE'S QUESTIONS, fifth lot: months, spoilt, most, soonest, kinds -/
section NB
variable {Γ : XG} {d n a s m T : Nat} {ru : Nat → Int} {ki bx mg : Nat → Nat → Int} {ls : Int → Int → Int → Int → Int → Int → Int} {μ : XM} {Q : Option Value → XM → Prop} {W : WL}
theorem MQs.hm (h : MQs μ n ru ki s bx m T mg W ls) : HM μ n ru ki := h.1
theorem MQs.nr (h : MQs μ n ru ki s bx m T mg W ls) : NR μ 559 0 s bx m T mg := h.2.1
theorem MQs.kn (h : MQs μ n ru ki s bx m T mg W ls) : KN bx s n := h.2.2.1
theorem MQs.n0 (h : MQs μ n ru ki s bx m T mg W ls) : n = 0 → s = 0 := h.2.2.2.1
theorem MQs.mw (h : MQs μ n ru ki s bx m T mg W ls) : MW μ W := h.2.2.2.2.1
theorem MQs.lo (h : MQs μ n ru ki s bx m T mg W ls) : LSok ls W := h.2.2.2.2.2
theorem MQs.v (h : MQs μ n ru ki s bx m T mg W ls) {μ' : XM} (ho : fr vfr μ μ') (hW : MW μ' W) : MQs μ' n ru ki s bx m T mg W ls := ⟨HM_v h.1 ho, NRv h.2.1 (Or.inl rfl) ho, h.2.2.1, h.2.2.2.1, hW, h.2.2.2.2.2⟩
theorem MQs.th (h : MQs μ n ru ki s bx m T mg W ls) : MQs (sI μ 547 0 (w 0)) n ru ki s bx m T mg W ls := by
  have h0 := th0 μ
  exact ⟨HM_th h.1 h0, h.2.1.fr h0 (fun j => by unfold thr; omega), h.2.2.1, h.2.2.2.1, h.2.2.2.2.1.frm h0 (fun c j hc => by unfold thr; omega) (by unfold thr; omega) (fun c j h1 h2 => by unfold thr; omega) (fun c j h1 h2 => by unfold thr; omega), h.2.2.2.2.2⟩
/-- value of place b: as a question of the whole state -/
theorem V_of (hf : FM Γ) (hd : 37 ≤ d) (h : MQs μ n ru ki s bx m T mg W ls) {b : Nat} (hb : b < s) : Call Γ m_MO_valueOf d [.ref 547, .ref 559, .int (w b)] μ (KI (fun r μ' => fr vfr μ μ' ∧ MQs μ' n ru ki s bx m T mg W ls ∧ r = w (vpl ls ki bx m s b))) := by
  refine (C_valueOfM hf hd h.hm h.mw h.lo (Or.inl rfl) h.nr h.kn hb).conseq (KI.mono ?_)
  rintro r μ1 ⟨o1, h1, rfl⟩
  exact ⟨o1, h.v o1 h1, rfl⟩
theorem V_on (hf : FM Γ) (hd : 36 ≤ d) (h : MQs μ n ru ki s bx m T mg W ls) {b : Nat} (hb : b < s) {y t : Int} (y0 : 0 ≤ y) (y9 : y ≤ 9) (t0 : 0 ≤ t) (t9 : t ≤ 200) : Call Γ m_MO_valueOn d [.ref 547, .ref 559, .int (w b), .int (w y), .int (w t)] μ (KI (fun r μ' => fr vfr μ μ' ∧ MQs μ' n ru ki s bx m T mg W ls ∧ r = w (vw ls ki bx m (s - 1 - b) t t y))) := by
  refine (C_valueOn hf hd h.hm h.mw h.lo (Or.inl rfl) h.nr h.kn hb y0 y9 t0 t9).conseq (KI.mono ?_)
  rintro r μ1 ⟨o1, h1, rfl⟩
  exact ⟨o1, h.v o1 h1, rfl⟩
theorem MQs.vb (h : MQs μ n ru ki s bx m T mg W ls) {b : Nat} (hb : b < s) : 0 ≤ vpl ls ki bx m s b ∧ vpl ls ki bx m s b ≤ 81 := vpl_b h.hm h.nr h.kn (by omega) _ _ _
theorem in40 (h : MQs μ n ru ki s bx m T mg W ls) : zib μ 0 559 (w 40) := rc_in (Or.inl rfl) h.hm.1.1 (by omega) (by omega)
theorem now30 (h : MQs μ n ru ki s bx m T mg W ls) : xR μ 547 30 = some 559 := h.hm.1.r 30 559 rfl
theorem monthlyM_G (hf : FM Γ) {z : Int} (z0 : 0 ≤ z) (z1 : z ≤ 60) : ∀ (f b : Nat) (μ : XM), b + f = s → MQs μ n ru ki s bx m T mg W ls → (∀ μ', fr vfr μ μ' → MW μ' W → Q (some (.int (w (fsum (fun b => vw ls ki bx m (s - 1 - b) z z ((s - 1 - b : Nat) : Int)) s)))) μ') → G Γ m_MO_monthly (d + 37) (0, 0) Q 30 [.ref 547, .int (w z), .int (w (fsum (fun b => vw ls ki bx m (s - 1 - b) z z ((s - 1 - b : Nat) : Int)) b)), .int (w b)] [] μ := by
  intro f
  induction f with
  | zero =>
    intro b μ hb h hQ
    have h8 := h.nr.1
    refine B_MO_monthly_30 h.hm.1.o (now30 h) ⟨in40 h, ?_⟩
    rw [h.nr.sz, w_lt (by omega) (by omega) (by omega) (by omega)]
    refine ⟨fun q => absurd q (by omega), fun _ => ?_⟩
    rw [show b = s by omega]
    exact hQ μ (fr.rf _ _) h.mw
  | succ f ih =>
    intro b μ hb h hQ
    have h8 := h.nr.1
    refine B_MO_monthly_30 h.hm.1.o (now30 h) ⟨in40 h, ?_⟩
    rw [h.nr.sz, w_lt (by omega) (by omega) (by omega) (by omega), w_sub, w_sub, show (s : Int) - 1 - b = ((s - 1 - b : Nat) : Int) by omega]
    refine ⟨fun _ => ⟨in40 h, ?_⟩, fun q => absurd (by omega) q⟩
    refine (V_on (d := d + 36) hf (by omega) h (b := b) (by omega) (by omega) (by omega) z0 (by omega)).conseq (KI.mono ?_)
    rintro r μ2 ⟨o2, h2, rfl⟩
    rw [w_add, w_add]
    exact ih (b + 1) μ2 (by omega) h2 (fun μ' g1 g2 => hQ μ' (o2.trans g1) g2)
theorem C_monthlyM (hf : FM Γ) (hd : 38 ≤ d) (h : MQs μ n ru ki s bx m T mg W ls) {z : Int} (z1 : -2147483648 ≤ z) (z2 : z < 2147483648) : Call Γ m_MO_monthly d [.ref 547, .int (w z)] μ (KI (fun r μ' => fr qfr μ μ' ∧ MW μ' W ∧ r = if 0 < n ∧ 0 ≤ z ∧ z ≤ 60 then w (sov ls ki bx m s z z) else w (-1))) := by
  obtain ⟨d, rfl⟩ : ∃ e, d = e + 38 := ⟨d - 38, by omega⟩
  have hn := h.hm.2.1
  refine Call.of ok_MO_monthly (Nat.le_of_ble_eq_true rfl) (B_MO_monthly_0 h.hm.1.o ?_)
  rintro μ1 rfl
  have h0 := (th0 μ).wide thr_q
  have h1 := h.th
  rw [h1.hm.2.2.1, w_inj (by omega) (by omega) (by omega) (by omega), w_l z1 z2]
  refine ⟨fun q => ⟨_, rfl, h0, h1.mw, by rw [if_neg (by omega)]⟩, fun q => ?_⟩
  refine (C_isIn (x := 0) (y := 60) (by omega) (by omega) (by omega) (by omega) (by omega) (by omega) (by omega)).conseq (KI.mono ?_)
  rintro r μ2 ⟨rfl, ⟨g1, g2, rfl⟩ | ⟨g1, rfl⟩⟩
  · refine ⟨fun q2 => absurd q2 w01, fun _ => ?_⟩
    refine monthlyM_G (d := d + 1) hf g1 g2 s 0 _ (by omega) h1 (fun μ' g3 g4 => ⟨_, rfl, h0.trans (g3.wide vfr_q), g4, ?_⟩)
    rw [if_pos (by omega)]
    unfold sov
    rw [fsum_rev (fun i => vw ls ki bx m i z z i)]
  · exact ⟨fun _ => ⟨_, rfl, h0, h1.mw, by rw [if_neg (by omega)]⟩, fun q2 => absurd rfl q2⟩
theorem or_0 (x : Int32) : x ||| w 0 = x := by rw [show w 0 = (0 : Int32) from rfl, Int32.or_zero]
theorem spoiltM_G (hf : FM Γ) : ∀ (f b : Nat) (μ : XM), b + f = s → MQs μ n ru ki s bx m T mg W ls → (∀ μ', fr vfr μ μ' → MW μ' W → Q (some (.int (btw (fun p => decide (vpl ls ki bx m s p = 0)) s))) μ') → G Γ m_MO_spoilt (d + 38) (0, 0) Q 18 [.ref 547, .int (btw (fun p => decide (vpl ls ki bx m s p = 0)) b), .int (w b)] [] μ := by
  intro f
  induction f with
  | zero =>
    intro b μ hb h hQ
    have h8 := h.nr.1
    refine B_MO_spoilt_18 h.hm.1.o (now30 h) ⟨in40 h, ?_⟩
    rw [h.nr.sz, w_lt (by omega) (by omega) (by omega) (by omega)]
    refine ⟨fun q => absurd q (by omega), fun _ => ?_⟩
    rw [show b = s by omega]
    exact hQ μ (fr.rf _ _) h.mw
  | succ f ih =>
    intro b μ hb h hQ
    have h8 := h.nr.1
    refine B_MO_spoilt_18 h.hm.1.o (now30 h) ⟨in40 h, ?_⟩
    rw [h.nr.sz, w_lt (by omega) (by omega) (by omega) (by omega)]
    refine ⟨fun _ => ?_, fun q => absurd (by omega) q⟩
    refine (V_of (d := d + 37) hf (by omega) h (b := b) (by omega)).conseq (KI.mono ?_)
    rintro r μ2 ⟨o2, h2, rfl⟩
    have hv := h.vb (b := b) (by omega)
    have nx := ih (b + 1) μ2 (by omega) h2 (fun μ' g1 g2 => hQ μ' (o2.trans g1) g2)
    rw [btw] at nx
    rw [w_inj (by omega) (by omega) (by omega) (by omega), w_add]
    refine ⟨fun q => ?_, fun q => ?_⟩
    · rw [if_pos (by simpa using q)] at nx; exact nx
    · rw [if_neg (by simpa using q)] at nx; rw [or_0]; exact nx
theorem C_spoiltM (hf : FM Γ) (hd : 39 ≤ d) (h : MQs μ n ru ki s bx m T mg W ls) : Call Γ m_MO_spoilt d [.ref 547] μ (KI (fun r μ' => fr qfr μ μ' ∧ MW μ' W ∧ r = if 0 < n then btw (fun p => decide (vpl ls ki bx m s p = 0)) s else w (-1))) := by
  obtain ⟨d, rfl⟩ : ∃ e, d = e + 39 := ⟨d - 39, by omega⟩
  have hn := h.hm.2.1
  refine Call.of ok_MO_spoilt (Nat.le_of_ble_eq_true rfl) (B_MO_spoilt_0 h.hm.1.o ?_)
  rintro μ1 rfl
  have h0 := (th0 μ).wide thr_q
  have h1 := h.th
  rw [h1.hm.2.2.1, w_inj (by omega) (by omega) (by omega) (by omega)]
  refine ⟨fun q => ⟨_, rfl, h0, h1.mw, by rw [if_neg (by omega)]⟩, fun q => ?_⟩
  exact spoiltM_G (d := d + 1) hf s 0 _ (by omega) h1 (fun μ' g3 g4 => ⟨_, rfl, h0.trans (g3.wide vfr_q), g4, by rw [if_pos (by omega)]⟩)
theorem mst_at (V : Nat → Int) : ∀ (f p : Nat) (q : Nat), mst V f p (V q) q = mst V f p (V q) q := fun _ _ _ => rfl
theorem mostM_G (hf : FM Γ) {z : Int} (z0 : 0 ≤ z) (z1 : z ≤ 1) : ∀ (f p q : Nat) (μ : XM), p + f = s → q < p → q < s → MQs μ n ru ki s bx m T mg W ls → (∀ μ', fr vfr μ μ' → MW μ' W → Q (some (.int (w (mst (msv ls ki bx m s z) f p (msv ls ki bx m s z q) q)))) μ') → G Γ m_MO_most (d + 38) (0, 0) Q 38 [.ref 547, .int (w z), .int (w q), .int (w p)] [] μ := by
  intro f
  induction f with
  | zero =>
    intro p q μ hp hq hqs h hQ
    have h8 := h.nr.1
    refine B_MO_most_38 h.hm.1.o (now30 h) ⟨in40 h, ?_⟩
    rw [h.nr.sz, w_lt (by omega) (by omega) (by omega) (by omega)]
    exact ⟨fun q => absurd q (by omega), fun _ => hQ μ (fr.rf _ _) h.mw⟩
  | succ f ih =>
    intro p q μ hp hq hqs h hQ
    have h8 := h.nr.1
    have hx := h.hm.1.1
    refine B_MO_most_38 h.hm.1.o (now30 h) ⟨in40 h, ?_⟩
    unfold mst at hQ
    rw [h.nr.sz, w_lt (by omega) (by omega) (by omega) (by omega), w_inj (by omega) (by omega) (by omega) (by omega), w_add]
    refine ⟨fun _ => ⟨fun e0 => ⟨rc_5 (Or.inl rfl) hx (by omega) (by omega) (by omega), rc_5 (Or.inl rfl) hx (by omega) (by omega) (by omega), ?_⟩, fun e0 => ?_⟩, fun q => absurd (by omega) q⟩
    · obtain ⟨-, -, p2, pB⟩ := h.nr.at (b := p) (by omega)
      obtain ⟨-, -, q2, qB⟩ := h.nr.at (b := q) (by omega)
      have e1 : ∀ x, msv ls ki bx m s z x = bx (s - 1 - x) 2 := fun x => by unfold msv; rw [if_pos e0]
      unfold BB at pB qB
      rw [p2, q2, w_lt (by omega) (by omega) (by omega) (by omega)]
      rw [e1 q, e1 p] at hQ
      refine ⟨fun g => ⟨fun q => absurd q w01, fun _ => ?_⟩, fun g => ⟨fun _ => ?_, fun q => absurd rfl q⟩⟩
      · rw [if_pos g, ← e1 p] at hQ
        exact ih (p + 1) p μ (by omega) (by omega) (by omega) h hQ
      · rw [if_neg g, ← e1 q] at hQ
        exact ih (p + 1) q μ (by omega) (by omega) hqs h hQ
    · have e1 : ∀ x, msv ls ki bx m s z x = vpl ls ki bx m s x := fun x => by unfold msv; rw [if_neg e0]
      have vp := h.vb (b := p) (by omega)
      have vq := h.vb hqs
      refine (V_of (d := d + 37) hf (by omega) h (b := p) (by omega)).conseq (KI.mono ?_)
      rintro r μ2 ⟨o2, h2, rfl⟩
      refine ⟨now30 h2, ?_⟩
      refine (V_of (d := d + 37) hf (by omega) h2 (b := q) hqs).conseq (KI.mono ?_)
      rintro r μ4 ⟨o4, h4, rfl⟩
      rw [w_lt (by omega) (by omega) (by omega) (by omega)]
      rw [e1 q, e1 p] at hQ
      refine ⟨fun g => ⟨fun q => absurd q w01, fun _ => ?_⟩, fun g => ⟨fun _ => ?_, fun q => absurd rfl q⟩⟩
      · rw [if_pos g, ← e1 p] at hQ
        exact ih (p + 1) p μ4 (by omega) (by omega) (by omega) h4 (fun μ' g1 g2 => hQ μ' ((o2.trans o4).trans g1) g2)
      · rw [if_neg g, ← e1 q] at hQ
        exact ih (p + 1) q μ4 (by omega) (by omega) hqs h4 (fun μ' g1 g2 => hQ μ' ((o2.trans o4).trans g1) g2)
theorem C_mostM (hf : FM Γ) (hd : 39 ≤ d) (h : MQs μ n ru ki s bx m T mg W ls) {z : Int} (z1 : -2147483648 ≤ z) (z2 : z < 2147483648) : Call Γ m_MO_most d [.ref 547, .int (w z)] μ (KI (fun r μ' => fr qfr μ μ' ∧ MW μ' W ∧ r = if 0 < n ∧ 0 ≤ z ∧ z ≤ 1 then w (mst (msv ls ki bx m s z) s 0 (-1) (-1)) else w (-1))) := by
  obtain ⟨d, rfl⟩ : ∃ e, d = e + 39 := ⟨d - 39, by omega⟩
  have hn := h.hm.2.1
  have h8 := h.nr.1
  refine Call.of ok_MO_most (Nat.le_of_ble_eq_true rfl) (B_MO_most_0 h.hm.1.o ?_)
  rintro μ1 rfl
  have h0 := (th0 μ).wide thr_q
  have h1 := h.th
  rw [h1.hm.2.2.1, w_inj (by omega) (by omega) (by omega) (by omega), w_l z1 z2]
  refine ⟨fun q => ⟨_, rfl, h0, h1.mw, by rw [if_neg (by omega)]⟩, fun q => ?_⟩
  refine (C_isIn (x := 0) (y := 1) (by omega) (by omega) (by omega) (by omega) (by omega) (by omega) (by omega)).conseq (KI.mono ?_)
  rintro r μ2 ⟨rfl, ⟨g1, g2, rfl⟩ | ⟨g1, rfl⟩⟩
  · refine ⟨fun q2 => absurd q2 w01, fun _ => ⟨559, now30 h1, in40 h1, ?_⟩⟩
    rw [h1.nr.sz, w_inj (by omega) (by omega) (by omega) (by omega)]
    refine ⟨fun e0 => ⟨_, rfl, h0, h1.mw, ?_⟩, fun e0 => ?_⟩
    · rw [if_pos (by omega), show s = 0 by omega]
      rfl
    · refine mostM_G (d := d + 1) hf g1 g2 (s - 1) 1 0 _ (by omega) (by omega) (by omega) h1 (fun μ' g3 g4 => ⟨_, rfl, h0.trans (g3.wide vfr_q), g4, ?_⟩)
      have e9 : mst (msv ls ki bx m s z) s 0 (-1) (-1) = mst (msv ls ki bx m s z) (s - 1) 1 (msv ls ki bx m s z 0) 0 := by
        rw [show s = s - 1 + 1 by omega]
        have hv : -1 < msv ls ki bx m (s - 1 + 1) z 0 := by
          rw [show s - 1 + 1 = s by omega]
          unfold msv
          split
          · have hB := (h.nr.at (b := 0) (by omega)).2.2.2
            unfold BB at hB
            omega
          · have := h.vb (b := 0) (by omega)
            omega
        conv => lhs; unfold mst
        rw [if_pos hv]
        rfl
      rw [if_pos (by omega), e9]
      rfl
  · exact ⟨fun _ => ⟨_, rfl, h0, h1.mw, by rw [if_neg (by omega)]⟩, fun q2 => absurd rfl q2⟩
theorem soonestM_G (hf : FM Γ) {z : Nat} (hz : z < s) : ∀ (f k : Nat) (μ : XM), k + f = 100 → MQs μ n ru ki s bx m T mg W ls → (∀ μ', fr vfr μ μ' → MW μ' W → Q (some (.int (w (sch (fun t => decide (vw ls ki bx m (s - 1 - z) t t ((s - 1 - z : Nat) : Int) = 0)) f k)))) μ') → G Γ m_MO_soonest (d + 37) (0, 0) Q 21 [.ref 547, .int (w z), .int (w k)] [] μ := by
  intro f
  induction f with
  | zero =>
    intro k μ hk h hQ
    refine B_MO_soonest_21 h.hm.1.o (now30 h) ?_
    rw [w_lt (by omega) (by omega) (by omega) (by omega)]
    exact ⟨fun _ => hQ μ (fr.rf _ _) h.mw, fun q => absurd (by omega) q⟩
  | succ f ih =>
    intro k μ hk h hQ
    have h8 := h.nr.1
    refine B_MO_soonest_21 h.hm.1.o (now30 h) ?_
    rw [w_lt (by omega) (by omega) (by omega) (by omega), h.nr.sz, w_sub, w_sub, show (s : Int) - 1 - z = ((s - 1 - z : Nat) : Int) by omega]
    refine ⟨fun q => absurd q (by omega), fun _ => ⟨in40 h, ?_⟩⟩
    refine (V_on (d := d + 36) hf (by omega) h (b := z) hz (by omega) (by omega) (by omega) (by omega)).conseq (KI.mono ?_)
    rintro r μ2 ⟨o2, h2, rfl⟩
    have hv := vpl_b (ls := ls) h.hm h.nr h.kn (i := s - 1 - z) (by omega) k k ((s - 1 - z : Nat) : Int)
    unfold sch at hQ
    rw [w_inj (by omega) (by omega) (by omega) (by omega), w_add]
    refine ⟨fun q => ?_, fun q => ?_⟩
    · rw [if_pos (by simpa using q)] at hQ
      exact hQ μ2 o2 h2.mw
    · rw [if_neg (by simpa using q)] at hQ
      exact ih (k + 1) μ2 (by omega) h2 (fun μ' g1 g2 => hQ μ' (o2.trans g1) g2)
theorem C_soonestM (hf : FM Γ) (hd : 38 ≤ d) (h : MQs μ n ru ki s bx m T mg W ls) {z : Int} (z1 : -2147483648 ≤ z) (z2 : z < 2147483648) : Call Γ m_MO_soonest d [.ref 547, .int (w z)] μ (KI (fun r μ' => fr qfr μ μ' ∧ MW μ' W ∧ r = if 0 ≤ z ∧ z < s then w (sch (fun t => decide (vw ls ki bx m (s - 1 - z.toNat) t t ((s - 1 - z.toNat : Nat) : Int) = 0)) 100 0) else w (-1))) := by
  obtain ⟨d, rfl⟩ : ∃ e, d = e + 38 := ⟨d - 38, by omega⟩
  have hn := h.hm.2.1
  have h8 := h.nr.1
  refine Call.of ok_MO_soonest (Nat.le_of_ble_eq_true rfl) (B_MO_soonest_0 h.hm.1.o (now30 h) ?_)
  rintro μ1 rfl
  have h0 := (th0 μ).wide thr_q
  have h1 := h.th
  refine (C_isBox (by omega) h1.hm shmod.2.2.1 (by omega) h1.nr h.n0 z1 z2).conseq (KI.mono ?_)
  rintro r μ2 ⟨rfl, ⟨g1, g2, rfl⟩ | ⟨g1, rfl⟩⟩
  · refine ⟨fun q2 => absurd q2 w01, fun _ => ?_⟩
    obtain ⟨z, rfl⟩ : ∃ j : Nat, z = j := ⟨z.toNat, by omega⟩
    exact soonestM_G (d := d + 1) hf (by omega) 100 0 _ (by omega) h1 (fun μ' g3 g4 => ⟨_, rfl, h0.trans (g3.wide vfr_q), g4, by rw [if_pos (by omega)]; rfl⟩)
  · exact ⟨fun _ => ⟨_, rfl, h0, h1.mw, by rw [if_neg (by omega)]⟩, fun q2 => absurd rfl q2⟩
theorem C_kindM (hd : 2 ≤ d) (hM : HM μ n ru ki) {k z : Int} (k1 : -2147483648 ≤ k) (k2 : k < 2147483648) (z1 : -2147483648 ≤ z) (z2 : z < 2147483648) : Call Γ m_MO_kind d [.ref 547, .int (w k), .int (w z)] μ (KI (fun r μ' => fr thr μ μ' ∧ r = if 0 ≤ k ∧ k < n ∧ 0 ≤ z ∧ z ≤ 4 ∧ ¬ (z = 4 ∧ ki k.toNat 4 = 6) then w (ki k.toNat z.toNat) else w (-1))) := by
  obtain ⟨d, rfl⟩ : ∃ e, d = e + 1 := ⟨d - 1, by omega⟩
  have hn := hM.2.1
  refine Call.of ok_MO_kind (Nat.le_of_ble_eq_true rfl) (B_MO_kind_0 hM.1.o ?_)
  rintro μ1 rfl
  have h0 := th0 μ
  have hM1 := HM_th hM h0
  refine (C_isKindM (by omega) hM1 k1 k2).conseq (KI.mono ?_)
  rintro r μ2 ⟨rfl, ⟨g1, g2, rfl⟩ | ⟨g1, rfl⟩⟩
  · refine ⟨fun q => absurd q w01, fun _ => ?_⟩
    rw [w_l z1 z2]
    refine (C_isIn (x := 0) (y := 4) (by omega) (by omega) (by omega) (by omega) (by omega) (by omega) (by omega)).conseq (KI.mono ?_)
    have k5 := (hM.2.2.2.2.2 k.toNat (by omega)).2
    unfold KK at k5
    rintro r μ3 ⟨rfl, ⟨g3, g4, rfl⟩ | ⟨g3, rfl⟩⟩
    · refine ⟨fun q => absurd q w01, fun _ => ?_⟩
      rw [w_inj (by omega) (by omega) (by omega) (by omega)]
      have tl : Call Γ m_MO_told d [.ref 547, .int (w k), .int (w z)] (sI μ 547 0 (w 0)) (KI (fun r μ' => μ' = sI μ 547 0 (w 0) ∧ r = w (ki k.toNat z.toNat))) := by
        have := C_toldI (Γ := Γ) (d := d) (j := z.toNat) (by omega) hM1 g1 g2 (by omega)
        rwa [show ((z.toNat : Nat) : Int) = z by omega] at this
      refine ⟨fun q => ?_, fun q => ?_⟩
      · refine (C_toldI (j := 4) (by omega) hM1 g1 g2 (by omega)).conseq (KI.mono ?_)
        rintro r μ5 ⟨rfl, rfl⟩
        rw [w_inj (by omega) (by omega) (by omega) (by omega)]
        refine ⟨fun q2 => ⟨_, rfl, h0, by rw [if_neg (by omega)]⟩, fun q2 => ?_⟩
        refine tl.conseq (KI.mono ?_)
        rintro r μ6 ⟨rfl, rfl⟩
        exact ⟨_, rfl, h0, by rw [if_pos (by omega)]⟩
      · refine tl.conseq (KI.mono ?_)
        rintro r μ6 ⟨rfl, rfl⟩
        exact ⟨_, rfl, h0, by rw [if_pos (by omega)]⟩
    · exact ⟨fun _ => ⟨_, rfl, h0, by rw [if_neg (by omega)]⟩, fun q => absurd rfl q⟩
  · exact ⟨fun _ => ⟨_, rfl, h0, by rw [if_neg (by omega)]⟩, fun q => absurd rfl q⟩
end NB
