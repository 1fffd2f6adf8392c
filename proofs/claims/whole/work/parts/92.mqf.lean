/-! THE REFERENCE'S QUESTIONS, sixth lot: what goes with what, spans, doubles, lots -/
def bit1 (i : Nat) : Int32 := w 1 <<< (w i &&& 31)
theorem kwb_or (ki : Nat → Nat → Int) (k : Nat) (b0 : Int32) : ∀ n, kwb ki k b0 n = b0 ||| btw (fun j => decide (ki j 4 = k ∨ ki k 4 = j)) n
  | 0 => by unfold kwb btw; rw [show w 0 = (0 : Int32) from rfl, Int32.or_zero]
  | n + 1 => by
    unfold kwb btw
    rw [kwb_or ki k b0 n]
    by_cases h : ki n 4 = k ∨ ki k 4 = n
    · rw [if_pos h, if_pos (by simpa using h), Int32.or_assoc]
    · rw [if_neg h, if_neg (by simpa using h)]
theorem btw_self (P : Nat → Bool) (k : Nat) : ∀ n, btw (fun j => decide (j = k ∨ P j = true)) n = (if k < n then bit1 k else w 0) ||| btw P n
  | 0 => by unfold btw; rw [if_neg (by omega)]; decide
  | n + 1 => by
    unfold btw
    rw [btw_self P k n]
    by_cases h : n = k
    · subst h
      rw [if_pos (by simp), if_neg (by omega), if_pos (by omega), show w 0 = (0 : Int32) from rfl, Int32.zero_or]
      by_cases h2 : P n = true
      · rw [if_pos h2]
        show btw P n ||| bit1 n = bit1 n ||| (btw P n ||| bit1 n)
        rw [Int32.or_comm (bit1 n), Int32.or_assoc, Int32.or_self]
      · rw [if_neg h2]
        exact Int32.or_comm _ _
    · by_cases h2 : P n = true
      · rw [if_pos (by simp [h2]), if_pos h2, Int32.or_assoc]
        by_cases h3 : k < n
        · rw [if_pos h3, if_pos (by omega)]
        · rw [if_neg h3, if_neg (by omega)]
      · rw [if_neg (by simp [h, h2]), if_neg h2]
        by_cases h3 : k < n
        · rw [if_pos h3, if_pos (by omega)]
        · rw [if_neg h3, if_neg (by omega)]
/-- two kinds go together -/
def gob (ki : Nat → Nat → Int) (a b : Nat) : Bool := decide (a = b ∨ ki a 4 = b ∨ ki b 4 = a)
theorem kwi_btw (ki : Nat → Nat → Int) {n k : Nat} (hk : k < n) : kwi ki n k = btw (fun j => gob ki j k) n := by
  unfold kwi
  rw [kwb_or]
  have := btw_self (fun j => decide (ki j 4 = k ∨ ki k 4 = j)) k n
  rw [if_pos hk] at this
  show bit1 k ||| _ = _
  rw [← this]
  refine btw_cg n (fun j _ => ?_)
  unfold gob
  simp
section NC
variable {Γ : XG} {d n a s m T : Nat} {ru : Nat → Int} {ki bx mg : Nat → Nat → Int} {ls : Int → Int → Int → Int → Int → Int → Int} {μ : XM} {Q : Option Value → XM → Prop} {W : WL}
theorem C_fit (hd : 2 ≤ d) (hM : HM μ n ru ki) {a b : Int} (a0 : 0 ≤ a) (an : a < n) (b0 : 0 ≤ b) (bn : b < n) : Call Γ m_MO_fit d [.ref 547, .int (w a), .int (w b)] μ (KI (fun r μ' => μ' = μ ∧ ((gob ki a.toNat b.toNat = true ∧ r = w 1) ∨ (gob ki a.toNat b.toNat = false ∧ r = w 0)))) := by
  obtain ⟨d, rfl⟩ : ∃ e, d = e + 1 := ⟨d - 1, by omega⟩
  have hn := hM.2.1
  have ka := (hM.2.2.2.2.2 a.toNat (by omega)).2
  have kb := (hM.2.2.2.2.2 b.toNat (by omega)).2
  unfold KK at ka kb
  refine Call.of ok_MO_fit (Nat.le_of_ble_eq_true rfl) (B_MO_fit_0 hM.1.o ?_)
  unfold gob
  rw [w_inj (by omega) (by omega) (by omega) (by omega)]
  refine ⟨fun q => ⟨_, rfl, rfl, Or.inl ⟨by simp; omega, rfl⟩⟩, fun q => ?_⟩
  refine (C_toldI (j := 4) (by omega) hM a0 an (by omega)).conseq (KI.mono ?_)
  rintro r μ1 ⟨rfl, rfl⟩
  rw [w_inj (by omega) (by omega) (by omega) (by omega)]
  refine ⟨fun q2 => ⟨_, rfl, rfl, Or.inl ⟨by simp; omega, rfl⟩⟩, fun q2 => ?_⟩
  refine (C_toldI (j := 4) (by omega) hM b0 bn (by omega)).conseq (KI.mono ?_)
  rintro r μ1 ⟨rfl, rfl⟩
  rw [w_inj (by omega) (by omega) (by omega) (by omega)]
  exact ⟨fun q3 => ⟨_, rfl, rfl, Or.inl ⟨by simp; omega, rfl⟩⟩, fun q3 => ⟨_, rfl, rfl, Or.inr ⟨by simp; omega, rfl⟩⟩⟩
theorem goesM_G (hM : HM μ n ru ki) {k : Nat} (hk : k < n) : ∀ (f j : Nat), j + f = n → Q (some (.int (btw (fun j => gob ki j k) n))) μ → G Γ m_MO_goes (d + 3) (0, 0) Q 19 [.ref 547, .int (w k), .int (btw (fun j => gob ki j k) j), .int (w j)] [] μ := by
  have hn := hM.2.1
  intro f
  induction f with
  | zero =>
    intro j hj hQ
    refine B_MO_goes_19 hM.1.o ?_
    rw [hM.2.2.1, w_lt (by omega) (by omega) (by omega) (by omega)]
    refine ⟨fun q => absurd q (by omega), fun _ => ?_⟩
    rw [show j = n by omega]
    exact hQ
  | succ f ih =>
    intro j hj hQ
    refine B_MO_goes_19 hM.1.o ?_
    rw [hM.2.2.1, w_lt (by omega) (by omega) (by omega) (by omega), w_add]
    refine ⟨fun _ => ?_, fun q => absurd (by omega) q⟩
    refine (C_fit (a := j) (b := k) (by omega) hM (by omega) (by omega) (by omega) (by omega)).conseq (KI.mono ?_)
    have nx := ih (j + 1) (by omega) hQ
    rw [btw] at nx
    rintro r μ1 ⟨rfl, ⟨g, rfl⟩ | ⟨g, rfl⟩⟩
    · rw [if_pos (by simpa using g)] at nx
      exact ⟨fun q => absurd q w01, fun _ => nx⟩
    · rw [if_neg (by simpa using g)] at nx
      rw [or_0]
      exact ⟨fun _ => nx, fun q => absurd rfl q⟩
theorem C_goesM (hd : 4 ≤ d) (hM : HM μ n ru ki) {k : Int} (k1 : -2147483648 ≤ k) (k2 : k < 2147483648) : Call Γ m_MO_goes d [.ref 547, .int (w k)] μ (KI (fun r μ' => fr thr μ μ' ∧ r = if 0 ≤ k ∧ k < n then kwi ki n k.toNat else w (-1))) := by
  obtain ⟨d, rfl⟩ : ∃ e, d = e + 4 := ⟨d - 4, by omega⟩
  have hn := hM.2.1
  refine Call.of ok_MO_goes (Nat.le_of_ble_eq_true rfl) (B_MO_goes_0 hM.1.o ?_)
  rintro μ1 rfl
  have h0 := th0 μ
  have hM1 := HM_th hM h0
  refine (C_isKindM (by omega) hM1 k1 k2).conseq (KI.mono ?_)
  rintro r μ2 ⟨rfl, ⟨g1, g2, rfl⟩ | ⟨g1, rfl⟩⟩
  · refine ⟨fun q => absurd q w01, fun _ => ?_⟩
    obtain ⟨k, rfl⟩ : ∃ j : Nat, k = j := ⟨k.toNat, by omega⟩
    refine goesM_G (d := d + 1) hM1 (by omega) n 0 (by omega) ⟨_, rfl, h0, ?_⟩
    rw [if_pos (by omega), kwi_btw ki (by omega)]
    rfl
  · exact ⟨fun _ => ⟨_, rfl, h0, by rw [if_neg (by omega)]⟩, fun q => absurd rfl q⟩
theorem spansM_G (hM : HM μ n ru ki) (hN : NR μ 559 0 s bx m T mg) (hK : KN bx s n) {k z : Int} (k0 : 0 ≤ k) (kn : k < n) (z0 : 0 ≤ z) (z1 : z ≤ 1) : ∀ (f b : Nat), b + f = s → Q (some (.int (w (fsum (fun b => spn ki bx k.toNat z (s - 1 - b)) s)))) μ → G Γ m_MO_spans (d + 4) (0, 0) Q 30 [.ref 547, .int (w k), .int (w z), .int (w (fsum (fun b => spn ki bx k.toNat z (s - 1 - b)) b)), .int (w b)] [] μ := by
  have h8 := hN.1
  have hn := hM.2.1
  have hx := hM.1.1
  intro f
  induction f with
  | zero =>
    intro b hb hQ
    refine B_MO_spans_30 hM.1.o (hM.1.r 30 559 rfl) ⟨rc_in (Or.inl rfl) hx (by omega) (by omega), ?_⟩
    rw [hN.sz, w_lt (by omega) (by omega) (by omega) (by omega)]
    refine ⟨fun q => absurd q (by omega), fun _ => ?_⟩
    rw [show b = s by omega]
    exact hQ
  | succ f ih =>
    intro b hb hQ
    have nx := ih (b + 1) (by omega) hQ
    unfold fsum at nx
    obtain ⟨e0, e1, e2, hB⟩ := hN.at (b := b) (by omega)
    have hk := hK (s - 1 - b) (by omega)
    unfold BB at hB
    have fin : ∀ v : Int, v = spn ki bx k.toNat z (s - 1 - b) → G Γ m_MO_spans (d + 4) (0, 0) Q 30 [.ref 547, .int (w k), .int (w z), .int (w (fsum (fun b => spn ki bx k.toNat z (s - 1 - b)) b + v)), .int (w ((b : Int) + 1))] [] μ := fun v hv => by
      rw [hv]; exact nx
    refine B_MO_spans_30 hM.1.o (hM.1.r 30 559 rfl) ⟨rc_in (Or.inl rfl) hx (by omega) (by omega), ?_⟩
    rw [hN.sz, w_lt (by omega) (by omega) (by omega) (by omega), w_add]
    refine ⟨fun _ => ?_, fun q => absurd (by omega) q⟩
    refine (C_isNameless (by omega) hM hN (b := b) (by omega)).conseq (KI.mono ?_)
    rintro r μ1 ⟨rfl, ⟨hl, rfl⟩ | ⟨hl, rfl⟩⟩
    · refine ⟨fun q => absurd q w01, fun _ => ?_⟩
      rw [w_inj (by omega) (by omega) (by omega) (by omega)]
      refine ⟨fun q => ?_, fun q => ?_⟩
      · refine (C_couldBe (by omega) hM hN hK (b := b) (by omega) k0 kn).conseq (KI.mono ?_)
        rintro r μ2 ⟨rfl, rfl⟩
        rw [w_add]
        refine fin _ ?_
        unfold spn
        rw [if_pos hl]
        by_cases ec : ki (bx (s - 1 - b) 0).toNat 0 = ki k.toNat 0
        · rw [if_pos ec, if_pos ⟨q, ec⟩]
        · rw [if_neg ec, if_neg (fun y => ec y.2)]
      · rw [w_add]
        refine fin _ ?_
        unfold spn
        rw [if_pos hl, if_neg (fun y => q y.1)]
    · refine ⟨fun _ => ?_, fun q => absurd rfl q⟩
      refine (C_kindIn (by omega) hM hN (b := b) (by omega)).conseq (KI.mono ?_)
      rintro r μ2 ⟨rfl, rfl⟩
      rw [w_inj (by omega) (by omega) (by omega) (by omega)]
      refine ⟨fun q => ⟨hM.1.r 30 559 rfl, rc_5 (Or.inl rfl) hx (by omega) (by omega) (by omega), ?_⟩, fun q => ?_⟩
      · rw [e1, w_add]
        refine fin _ ?_
        unfold spn
        rw [if_neg hl, if_pos (by omega)]
      · rw [w_add]
        refine fin _ ?_
        unfold spn
        rw [if_neg hl, if_neg (by omega)]
theorem C_spansM (hd : 5 ≤ d) (hM : HM μ n ru ki) (hN : NR μ 559 0 s bx m T mg) (hK : KN bx s n) {k z : Int} (k1 : -2147483648 ≤ k) (k2 : k < 2147483648) (z1 : -2147483648 ≤ z) (z2 : z < 2147483648) : Call Γ m_MO_spans d [.ref 547, .int (w k), .int (w z)] μ (KI (fun r μ' => fr thr μ μ' ∧ r = if 0 ≤ k ∧ k < n ∧ 0 ≤ z ∧ z ≤ 1 then w (fsum (spn ki bx k.toNat z) s) else w (-1))) := by
  obtain ⟨d, rfl⟩ : ∃ e, d = e + 5 := ⟨d - 5, by omega⟩
  have hn := hM.2.1
  refine Call.of ok_MO_spans (Nat.le_of_ble_eq_true rfl) (B_MO_spans_0 hM.1.o ?_)
  rintro μ1 rfl
  have h0 := th0 μ
  have hM1 := HM_th hM h0
  have hN1 := hN.fr h0 (fun j => by unfold thr; omega)
  refine (C_isKindM (by omega) hM1 k1 k2).conseq (KI.mono ?_)
  rintro r μ2 ⟨rfl, ⟨g1, g2, rfl⟩ | ⟨g1, rfl⟩⟩
  · refine ⟨fun q => absurd q w01, fun _ => ?_⟩
    rw [w_l z1 z2]
    refine (C_isIn (x := 0) (y := 1) (by omega) (by omega) (by omega) (by omega) (by omega) (by omega) (by omega)).conseq (KI.mono ?_)
    rintro r μ3 ⟨rfl, ⟨g3, g4, rfl⟩ | ⟨g3, rfl⟩⟩
    · refine ⟨fun q => absurd q w01, fun _ => ?_⟩
      refine spansM_G (d := d + 1) hM1 hN1 hK g1 g2 g3 g4 s 0 (by omega) ⟨_, rfl, h0, ?_⟩
      rw [if_pos (by omega), fsum_rev (spn ki bx k.toNat z)]
    · exact ⟨fun _ => ⟨_, rfl, h0, by rw [if_neg (by omega)]⟩, fun q => absurd rfl q⟩
  · exact ⟨fun _ => ⟨_, rfl, h0, by rw [if_neg (by omega)]⟩, fun q => absurd rfl q⟩
/-- pairs of places that look alike -/
def lkp (ki bx : Nat → Nat → Int) (s : Nat) (a b : Nat) : Bool := lka ki bx (s - 1 - a) (s - 1 - b)
theorem doublesM_i (hM : HM μ n ru ki) (hN : NR μ 559 0 s bx m T mg) (hK : KN bx s n) {z : Int} (z1 : -2147483648 ≤ z) (z2 : z < 2147483648) {a : Nat} (ha : a < s) : ∀ (f b c : Nat), b + f = s → a < b → c + f ≤ 1000 →
    (match dbi (lkp ki bx s) z a f b c with
     | .inl r => Q (some (.int (w r))) μ
     | .inr c' => G Γ m_MO_doubles (d + 4) (0, 0) Q 23 [.ref 547, .int (w z), .int (w c'), .int (w ((a + 1 : Nat) : Int))] [] μ) → G Γ m_MO_doubles (d + 4) (0, 0) Q 39 [.ref 547, .int (w z), .int (w c), .int (w a), .int (w b)] [] μ := by
  have h8 := hN.1
  have hn := hM.2.1
  have hx := hM.1.1
  intro f
  induction f with
  | zero =>
    intro b c hb hab hc hQ
    refine B_MO_doubles_39 hM.1.o (hM.1.r 30 559 rfl) ⟨rc_in (Or.inl rfl) hx (by omega) (by omega), ?_⟩
    rw [hN.sz, w_lt (by omega) (by omega) (by omega) (by omega)]
    simp only [w_add]
    exact ⟨fun q => absurd q (by omega), fun _ => hQ⟩
  | succ f ih =>
    intro b c hb hab hc hQ
    have kb := hN.at (b := b) (by omega)
    have ka := hN.at (b := a) (by omega)
    have kb3 := kb.2.2.2
    have ka3 := ka.2.2.2
    have hkb := hK (s - 1 - b) (by omega)
    have hka := hK (s - 1 - a) (by omega)
    unfold BB at kb3 ka3
    have k5 := (hM.2.2.2.2.2 (bx (s - 1 - a) 0).toNat (by omega)).2
    have k6 := (hM.2.2.2.2.2 (bx (s - 1 - b) 0).toNat (by omega)).2
    unfold KK at k5 k6
    have wb : ∀ i : Nat, (1 ≤ bx i 1 ∧ bx i 1 ≤ 9) → (1 ≤ ki (bx i 0).toNat 1 ∧ ki (bx i 0).toNat 1 ≤ 9) → 0 ≤ wt ki bx i ∧ wt ki bx i ≤ 81 := fun i g1 g2 => by
      have := mul_bd (a := bx i 1) (b := ki (bx i 0).toNat 1) (x := 9) (y := 9) (by omega) (by omega) (by omega) (by omega)
      unfold wt
      omega
    have wa := wb (s - 1 - a) (by omega) (by omega)
    have wbb := wb (s - 1 - b) (by omega) (by omega)
    unfold dbi at hQ
    have no : lkp ki bx s a b = false → G Γ m_MO_doubles (d + 4) (0, 0) Q 39 [.ref 547, .int (w z), .int (w c), .int (w a), .int (w ((b : Int) + 1))] [] μ := fun q => by
      rw [if_neg (by rw [q]; decide)] at hQ
      exact ih (b + 1) c (by omega) (by omega) (by omega) hQ
    have nf : ¬ (bx (s - 1 - a) 3 = -1 ∧ bx (s - 1 - b) 3 = -1 ∧ wt ki bx (s - 1 - a) = wt ki bx (s - 1 - b) ∧ ki (bx (s - 1 - a) 0).toNat 0 = ki (bx (s - 1 - b) 0).toNat 0) → lkp ki bx s a b = false := fun q => by
      unfold lkp lka
      exact decide_eq_false q
    refine B_MO_doubles_39 hM.1.o (hM.1.r 30 559 rfl) ⟨rc_in (Or.inl rfl) hx (by omega) (by omega), ?_⟩
    rw [hN.sz, w_lt (by omega) (by omega) (by omega) (by omega), w_add]
    refine ⟨fun _ => ?_, fun q => absurd (by omega) q⟩
    refine (C_isNameless (by omega) hM hN ha).conseq (KI.mono ?_)
    rintro r μ1 ⟨rfl, ⟨l1, rfl⟩ | ⟨l1, rfl⟩⟩
    · refine ⟨fun q => absurd q w01, fun _ => ?_⟩
      refine (C_isNameless (by omega) hM hN (b := b) (by omega)).conseq (KI.mono ?_)
      rintro r μ1 ⟨rfl, ⟨l2, rfl⟩ | ⟨l2, rfl⟩⟩
      · refine ⟨fun q => absurd q w01, fun _ => ?_⟩
        refine (C_kindIn (by omega) hM hN ha).conseq (KI.mono ?_)
        rintro r μ1 ⟨rfl, rfl⟩
        refine (C_toldI (j := 0) (by omega) hM (by omega) hka (by omega)).conseq (KI.mono ?_)
        rintro r μ1 ⟨rfl, rfl⟩
        refine (C_kindIn (by omega) hM hN (b := b) (by omega)).conseq (KI.mono ?_)
        rintro r μ1 ⟨rfl, rfl⟩
        refine (C_toldI (j := 0) (by omega) hM (by omega) hkb (by omega)).conseq (KI.mono ?_)
        rintro r μ1 ⟨rfl, rfl⟩
        rw [w_inj (by omega) (by omega) (by omega) (by omega)]
        refine ⟨fun q => ⟨hM.1.r 30 559 rfl, ?_⟩, fun q => no (nf (fun y => q y.2.2.2))⟩
        refine (C_weightOfM (by omega) hM (Or.inl rfl) hN hK ha).conseq (KI.mono ?_)
        rintro r μ1 ⟨rfl, rfl⟩
        refine ⟨hM.1.r 30 559 rfl, ?_⟩
        refine (C_weightOfM (by omega) hM (Or.inl rfl) hN hK (b := b) (by omega)).conseq (KI.mono ?_)
        rintro r μ1 ⟨rfl, rfl⟩
        rw [w_inj (by omega) (by omega) (by omega) (by omega)]
        refine ⟨fun q2 => ?_, fun q2 => no (nf (fun y => q2 y.2.2.1))⟩
        have yes : lkp ki bx s a b = true := by
          unfold lkp lka
          exact decide_eq_true ⟨l1, l2, q2, q⟩
        rw [if_pos yes] at hQ
        rw [w_inj (by omega) (by omega) (by omega) (by omega), w_mul, w_add, w_add]
        refine ⟨fun q3 => ?_, fun q3 => ?_⟩
        · rw [if_pos q3] at hQ
          exact hQ
        · rw [if_neg q3] at hQ
          exact ih (b + 1) (c + 1) (by omega) (by omega) (by omega) hQ
      · exact ⟨fun _ => no (nf (fun y => l2 y.2.1)), fun q => absurd rfl q⟩
    · exact ⟨fun _ => no (nf (fun y => l1 y.1)), fun q => absurd rfl q⟩
theorem doublesM_o (hM : HM μ n ru ki) (hN : NR μ 559 0 s bx m T mg) (hK : KN bx s n) {z : Int} (z1 : -2147483648 ≤ z) (z2 : z < 2147483648) : ∀ (f a c : Nat), a + f = s → c ≤ 8 * a → Q (some (.int (w (dbo (lkp ki bx s) z s f a c)))) μ → G Γ m_MO_doubles (d + 4) (0, 0) Q 23 [.ref 547, .int (w z), .int (w c), .int (w a)] [] μ := by
  have h8 := hN.1
  have hx := hM.1.1
  intro f
  induction f with
  | zero =>
    intro a c ha hc hQ
    refine B_MO_doubles_23 hM.1.o (hM.1.r 30 559 rfl) ⟨rc_in (Or.inl rfl) hx (by omega) (by omega), ?_⟩
    unfold dbo at hQ
    rw [hN.sz, w_lt (by omega) (by omega) (by omega) (by omega), w_inj (by omega) (by omega) (by omega) (by omega)]
    refine ⟨fun q => absurd q (by omega), fun _ => ⟨fun q => ?_, fun q => ?_⟩⟩
    · rw [if_pos q] at hQ; exact hQ
    · rw [if_neg q] at hQ; exact hQ
  | succ f ih =>
    intro a c ha hc hQ
    refine B_MO_doubles_23 hM.1.o (hM.1.r 30 559 rfl) ⟨rc_in (Or.inl rfl) hx (by omega) (by omega), ?_⟩
    unfold dbo at hQ
    rw [hN.sz, w_lt (by omega) (by omega) (by omega) (by omega), w_add]
    refine ⟨fun _ => ?_, fun q => absurd (by omega) q⟩
    refine doublesM_i hM hN hK z1 z2 (by omega) (s - (a + 1)) (a + 1) c (by omega) (by omega) (by omega) ?_
    match hP : dbi (lkp ki bx s) z a (s - (a + 1)) (a + 1) c, hQ with
    | .inl r, hQ => exact hQ
    | .inr c', hQ =>
      have := dbi_le (lkp ki bx s) z a _ _ _ _ hP
      exact ih (a + 1) c' (by omega) (by omega) hQ
theorem C_doublesM (hd : 5 ≤ d) (hM : HM μ n ru ki) (hN : NR μ 559 0 s bx m T mg) (hK : KN bx s n) {z : Int} (z1 : -2147483648 ≤ z) (z2 : z < 2147483648) : Call Γ m_MO_doubles d [.ref 547, .int (w z)] μ (KI (fun r μ' => fr thr μ μ' ∧ r = if 0 < n ∧ -1 ≤ z then w (dbo (fun a b => lka ki bx (s - 1 - a) (s - 1 - b)) z s s 0 0) else w (-1))) := by
  obtain ⟨d, rfl⟩ : ∃ e, d = e + 5 := ⟨d - 5, by omega⟩
  have hn := hM.2.1
  refine Call.of ok_MO_doubles (Nat.le_of_ble_eq_true rfl) (B_MO_doubles_0 hM.1.o ?_)
  rintro μ1 rfl
  have h0 := th0 μ
  have hM1 := HM_th hM h0
  have hN1 := hN.fr h0 (fun j => by unfold thr; omega)
  rw [hM1.2.2.1, w_inj (by omega) (by omega) (by omega) (by omega), w_lt (by omega) (by omega) (by omega) (by omega)]
  refine ⟨fun q => ⟨_, rfl, h0, by rw [if_neg (by omega)]⟩, fun q => ⟨fun q2 => ⟨_, rfl, h0, by rw [if_neg (by omega)]⟩, fun q2 => ?_⟩⟩
  exact doublesM_o (d := d + 1) hM1 hN1 hK z1 z2 s 0 0 (by omega) (by omega) ⟨_, rfl, h0, by rw [if_pos (by omega)]; rfl⟩
/-- lots: the inner, the middle, the outer sum -/
theorem lotM_3 (hf : FM Γ) {z : Int} {a b : Nat} (ha : a < s) (hb : b < a) : ∀ (f c : Nat) (x y : Int) (μ : XM), c + f = b → MQs μ n ru ki s bx m T mg W ls → (∀ μ', fr vfr μ μ' → MQs μ' n ru ki s bx m T mg W ls → G Γ m_MO_lot (d + 38) (0, 0) Q 46 [.ref 547, .int (w z), .int (w (x + (fsum (fun c => mx3 (vpl ls ki bx m s) c b a) b - fsum (fun c => mx3 (vpl ls ki bx m s) c b a) c))), .int (w (y + (fsum (fun _ => 1) b - fsum (fun _ => 1) c))), .int (w a), .int (w ((b + 1 : Nat) : Int))] [] μ') → G Γ m_MO_lot (d + 38) (0, 0) Q 56 [.ref 547, .int (w z), .int (w x), .int (w y), .int (w a), .int (w b), .int (w c)] [] μ := by
  intro f
  induction f with
  | zero =>
    intro c x y μ hc h hQ
    have h8 := h.nr.1
    refine B_MO_lot_56 h.hm.1.o (now30 h) ?_
    rw [w_lt (by omega) (by omega) (by omega) (by omega)]
    simp only [w_add]
    refine ⟨fun q => absurd q (by omega), fun _ => ?_⟩
    have := hQ μ (fr.rf _ _) h
    rw [show c = b by omega, Int.sub_self, Int.sub_self, Int.add_zero, Int.add_zero] at this
    exact this
  | succ f ih =>
    intro c x y μ hc h hQ
    have h8 := h.nr.1
    refine B_MO_lot_56 h.hm.1.o (now30 h) ?_
    rw [w_lt (by omega) (by omega) (by omega) (by omega)]
    refine ⟨fun _ => ?_, fun q => absurd (by omega) q⟩
    refine (V_of (d := d + 37) hf (by omega) h (b := a) (by omega)).conseq (KI.mono ?_)
    rintro r μ2 ⟨o2, h2, rfl⟩
    refine ⟨now30 h2, ?_⟩
    refine (V_of (d := d + 37) hf (by omega) h2 (b := b) (by omega)).conseq (KI.mono ?_)
    rintro r μ4 ⟨o4, h4, rfl⟩
    refine ⟨now30 h4, ?_⟩
    refine (V_of (d := d + 37) hf (by omega) h4 (b := c) (by omega)).conseq (KI.mono ?_)
    rintro r μ6 ⟨o6, h6, rfl⟩
    have va := h.vb (b := a) (by omega)
    have vb := h.vb (b := b) (by omega)
    have vc := h.vb (b := c) (by omega)
    rw [jmax_w (by omega) (by omega) (by omega) (by omega), jmax_w (by omega) (by omega) (by omega) (by omega), w_add, w_add, w_add]
    refine ih (c + 1) _ _ μ6 (by omega) h6 (fun μ' g1 g2 => ?_)
    have := hQ μ' ((o2.trans o4).trans (o6.trans g1)) g2
    have e1 : fsum (fun c => mx3 (vpl ls ki bx m s) c b a) (c + 1) = fsum (fun c => mx3 (vpl ls ki bx m s) c b a) c + mx3 (vpl ls ki bx m s) c b a := rfl
    have e2 : fsum (fun _ => 1) (c + 1) = fsum (fun _ => 1) c + 1 := rfl
    have e3 : mx3 (vpl ls ki bx m s) c b a = max (vpl ls ki bx m s a) (max (vpl ls ki bx m s b) (vpl ls ki bx m s c)) := by unfold mx3; omega
    rw [e1, e2, e3]
    rw [show x + max (vpl ls ki bx m s a) (max (vpl ls ki bx m s b) (vpl ls ki bx m s c)) + (fsum (fun c => mx3 (vpl ls ki bx m s) c b a) b - (fsum (fun c => mx3 (vpl ls ki bx m s) c b a) c + max (vpl ls ki bx m s a) (max (vpl ls ki bx m s b) (vpl ls ki bx m s c)))) = x + (fsum (fun c => mx3 (vpl ls ki bx m s) c b a) b - fsum (fun c => mx3 (vpl ls ki bx m s) c b a) c) by omega, show y + 1 + (fsum (fun _ => 1) b - (fsum (fun _ => 1) c + 1)) = y + (fsum (fun _ => 1) b - fsum (fun _ => 1) c) by omega]
    exact this
def lt2 (g : Nat → Nat → Nat → Int) (a b : Nat) : Int := fsum (fun c => g c b a) b
def lt1 (g : Nat → Nat → Nat → Int) (a : Nat) : Int := fsum (fun b => lt2 g a b) a
theorem lotM_2 (hf : FM Γ) {z : Int} {a : Nat} (ha : a < s) : ∀ (f b : Nat) (x y : Int) (μ : XM), b + f = a → MQs μ n ru ki s bx m T mg W ls → (∀ μ', fr vfr μ μ' → MQs μ' n ru ki s bx m T mg W ls → G Γ m_MO_lot (d + 38) (0, 0) Q 31 [.ref 547, .int (w z), .int (w (x + (fsum (lt2 (mx3 (vpl ls ki bx m s)) a) a - fsum (lt2 (mx3 (vpl ls ki bx m s)) a) b))), .int (w (y + (fsum (lt2 (fun _ _ _ => 1) a) a - fsum (lt2 (fun _ _ _ => 1) a) b))), .int (w ((a + 1 : Nat) : Int))] [] μ') → G Γ m_MO_lot (d + 38) (0, 0) Q 46 [.ref 547, .int (w z), .int (w x), .int (w y), .int (w a), .int (w b)] [] μ := by
  intro f
  induction f with
  | zero =>
    intro b x y μ hb h hQ
    have h8 := h.nr.1
    refine B_MO_lot_46 ?_
    rw [w_lt (by omega) (by omega) (by omega) (by omega), w_add]
    refine ⟨fun q => absurd q (by omega), fun _ => ?_⟩
    have := hQ μ (fr.rf _ _) h
    rw [show b = a by omega, Int.sub_self, Int.sub_self, Int.add_zero, Int.add_zero] at this
    exact this
  | succ f ih =>
    intro b x y μ hb h hQ
    have h8 := h.nr.1
    refine B_MO_lot_46 ?_
    rw [w_lt (by omega) (by omega) (by omega) (by omega)]
    refine ⟨fun _ => ?_, fun q => absurd (by omega) q⟩
    refine lotM_3 hf ha (by omega) b 0 x y μ (by omega) h (fun μ1 g1 h1 => ?_)
    refine ih (b + 1) _ _ μ1 (by omega) h1 (fun μ' g2 h2 => ?_)
    have := hQ μ' (g1.trans g2) h2
    have e1 : ∀ g : Nat → Nat → Nat → Int, fsum (lt2 g a) (b + 1) = fsum (lt2 g a) b + fsum (fun c => g c b a) b := fun g => rfl
    have e0 : ∀ g : Nat → Int, fsum g 0 = 0 := fun g => rfl
    rw [e1, e1, e0, e0]
    rw [show x + (fsum (fun c => mx3 (vpl ls ki bx m s) c b a) b - 0) + (fsum (lt2 (mx3 (vpl ls ki bx m s)) a) a - (fsum (lt2 (mx3 (vpl ls ki bx m s)) a) b + fsum (fun c => mx3 (vpl ls ki bx m s) c b a) b)) = x + (fsum (lt2 (mx3 (vpl ls ki bx m s)) a) a - fsum (lt2 (mx3 (vpl ls ki bx m s)) a) b) by omega, show y + (fsum (fun _ => 1) b - 0) + (fsum (lt2 (fun _ _ _ => 1) a) a - (fsum (lt2 (fun _ _ _ => 1) a) b + fsum (fun c => (1 : Int)) b)) = y + (fsum (lt2 (fun _ _ _ => 1) a) a - fsum (lt2 (fun _ _ _ => 1) a) b) by omega]
    exact this
theorem lotM_1 (hf : FM Γ) {z : Int} (z0 : 0 ≤ z) (z1 : z ≤ 1) : ∀ (f a : Nat) (x y : Int) (μ : XM), a + f = s → MQs μ n ru ki s bx m T mg W ls → (∀ μ', fr vfr μ μ' → MW μ' W → Q (some (.int (if z = 0 then w (x + (fsum (lt1 (mx3 (vpl ls ki bx m s))) s - fsum (lt1 (mx3 (vpl ls ki bx m s))) a)) else w (y + (fsum (lt1 (fun _ _ _ => 1)) s - fsum (lt1 (fun _ _ _ => 1)) a))))) μ') → G Γ m_MO_lot (d + 38) (0, 0) Q 31 [.ref 547, .int (w z), .int (w x), .int (w y), .int (w a)] [] μ := by
  intro f
  induction f with
  | zero =>
    intro a x y μ ha h hQ
    have h8 := h.nr.1
    refine B_MO_lot_31 h.hm.1.o (now30 h) ⟨in40 h, ?_⟩
    rw [h.nr.sz, w_lt (by omega) (by omega) (by omega) (by omega), w_inj (by omega) (by omega) (by omega) (by omega)]
    have := hQ μ (fr.rf _ _) h.mw
    rw [show a = s by omega, Int.sub_self, Int.sub_self, Int.add_zero, Int.add_zero] at this
    refine ⟨fun q => absurd q (by omega), fun _ => ⟨fun q => ?_, fun q => ?_⟩⟩
    · rw [if_pos q] at this; exact this
    · rw [if_neg q] at this; exact this
  | succ f ih =>
    intro a x y μ ha h hQ
    have h8 := h.nr.1
    refine B_MO_lot_31 h.hm.1.o (now30 h) ⟨in40 h, ?_⟩
    rw [h.nr.sz, w_lt (by omega) (by omega) (by omega) (by omega)]
    refine ⟨fun _ => ?_, fun q => absurd (by omega) q⟩
    refine lotM_2 hf (by omega) a 0 x y μ (by omega) h (fun μ1 g1 h1 => ?_)
    refine ih (a + 1) _ _ μ1 (by omega) h1 (fun μ' g2 h2 => ?_)
    have := hQ μ' (g1.trans g2) h2
    have e1 : ∀ g : Nat → Nat → Nat → Int, fsum (lt1 g) (a + 1) = fsum (lt1 g) a + fsum (lt2 g a) a := fun g => rfl
    have e0 : ∀ g : Nat → Int, fsum g 0 = 0 := fun g => rfl
    rw [e1, e1, e0, e0]
    rw [show x + (fsum (lt2 (mx3 (vpl ls ki bx m s)) a) a - 0) + (fsum (lt1 (mx3 (vpl ls ki bx m s))) s - (fsum (lt1 (mx3 (vpl ls ki bx m s))) a + fsum (lt2 (mx3 (vpl ls ki bx m s)) a) a)) = x + (fsum (lt1 (mx3 (vpl ls ki bx m s))) s - fsum (lt1 (mx3 (vpl ls ki bx m s))) a) by omega, show y + (fsum (lt2 (fun _ _ _ => 1) a) a - 0) + (fsum (lt1 (fun _ _ _ => 1)) s - (fsum (lt1 (fun _ _ _ => 1)) a + fsum (lt2 (fun _ _ _ => 1) a) a)) = y + (fsum (lt1 (fun _ _ _ => 1)) s - fsum (lt1 (fun _ _ _ => 1)) a) by omega]
    exact this
theorem C_lotM (hf : FM Γ) (hd : 39 ≤ d) (h : MQs μ n ru ki s bx m T mg W ls) {z : Int} (z1 : -2147483648 ≤ z) (z2 : z < 2147483648) : Call Γ m_MO_lot d [.ref 547, .int (w z)] μ (KI (fun r μ' => fr qfr μ μ' ∧ MW μ' W ∧ r = if 0 < n ∧ 0 ≤ z ∧ z ≤ 1 then w (if z = 0 then sm1 (mx3 (vpl ls ki bx m s)) s s 0 else sm1 (fun _ _ _ => 1) s s 0) else w (-1))) := by
  obtain ⟨d, rfl⟩ : ∃ e, d = e + 39 := ⟨d - 39, by omega⟩
  have hn := h.hm.2.1
  refine Call.of ok_MO_lot (Nat.le_of_ble_eq_true rfl) (B_MO_lot_0 h.hm.1.o ?_)
  rintro μ1 rfl
  have h0 := (th0 μ).wide thr_q
  have h1 := h.th
  rw [h1.hm.2.2.1, w_inj (by omega) (by omega) (by omega) (by omega), w_l z1 z2]
  refine ⟨fun q => ⟨_, rfl, h0, h1.mw, by rw [if_neg (by omega)]⟩, fun q => ?_⟩
  refine (C_isIn (x := 0) (y := 1) (by omega) (by omega) (by omega) (by omega) (by omega) (by omega) (by omega)).conseq (KI.mono ?_)
  rintro r μ2 ⟨rfl, ⟨g1, g2, rfl⟩ | ⟨g1, rfl⟩⟩
  · refine ⟨fun q2 => absurd q2 w01, fun _ => ?_⟩
    refine lotM_1 (d := d + 1) hf g1 g2 s 0 0 0 _ (by omega) h1 (fun μ' g3 g4 => ⟨_, rfl, h0.trans (g3.wide vfr_q), g4, ?_⟩)
    have e0 : ∀ g : Nat → Int, fsum g 0 = 0 := fun g => rfl
    rw [if_pos (show 0 < n ∧ 0 ≤ z ∧ z ≤ 1 by omega), sm1_tri, sm1_tri, e0, e0]
    by_cases ez : z = 0
    · rw [if_pos ez, if_pos ez]
      congr 1
      show 0 + (tri _ s - 0) = _
      omega
    · rw [if_neg ez, if_neg ez]
      congr 1
      show 0 + (tri _ s - 0) = _
      omega
  · exact ⟨fun _ => ⟨_, rfl, h0, h1.mw, by rw [if_neg (by omega)]⟩, fun q2 => absurd rfl q2⟩
end NC
