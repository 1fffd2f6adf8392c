/-! FEEDING; SMALL WRITES OF THE CLASS -/
theorem and255 (y : Int32) : ∃ v : Nat, v ≤ 255 ∧ y &&& w 255 = w v := by
  refine ⟨(y &&& w 255).toBitVec.toNat, ?_, ?_⟩
  · rw [Int32.toBitVec_and, BitVec.toNat_and]
    exact Nat.le_trans Nat.and_le_right (by decide)
  · have h : (y &&& w 255).toBitVec.toNat ≤ 255 := by
      rw [Int32.toBitVec_and, BitVec.toNat_and]
      exact Nat.le_trans Nat.and_le_right (by decide)
    apply Int32.toInt_inj.mp
    rw [w_toInt (by omega) (by omega)]
    show (y &&& w 255).toBitVec.toInt = _
    rw [BitVec.toInt_eq_toNat_of_lt (by omega)]
/-- the j-th byte of x, from the lowest -/
def byt (x : Int32) (j : Nat) : Nat := ((x.toUInt32 >>> ((w (8 * (j : Int))).toUInt32 &&& Int32.toUInt32 31)).toInt32 &&& w 255).toInt.toNat
theorem byt_w (x : Int32) (j : Nat) : ((x.toUInt32 >>> ((w (8 * (j : Int))).toUInt32 &&& Int32.toUInt32 31)).toInt32) &&& (w 255) = w (byt x j) ∧ byt x j ≤ 255 := by
  obtain ⟨v, h1, h2⟩ := and255 ((x.toUInt32 >>> ((w (8 * (j : Int))).toUInt32 &&& Int32.toUInt32 31)).toInt32)
  have h3 : byt x j = v := by
    unfold byt
    rw [h2, w_toInt (by omega) (by omega)]
    rfl
  rw [h3]
  exact ⟨h2, h1⟩
/-- how many of the lowest f bytes are not zero -/
def bsz (x : Int32) : Nat → Nat
  | 0 => 0
  | f + 1 => (if byt x f = 0 then 0 else 1) + bsz x f
theorem bsz_le (x : Int32) : ∀ f, bsz x f ≤ f
  | 0 => Nat.le_refl _
  | f + 1 => by
    have := bsz_le x f
    unfold bsz
    split <;> omega
/-- bytes put behind n bytes tb: how many then, which -/
def apb (tb : Nat → Nat) (n b : Nat) : Nat → Nat := fun i => if i = n then b else tb i
def apf (x : Int32) : Nat → Nat → (Nat → Nat) → Nat → Nat
  | 0, _, tb => tb
  | f + 1, n, tb => if byt x f = 0 then apf x f n tb else apf x f (n + 1) (apb tb n (byt x f))
/-- the tape holds n bytes tb, wherever the cursor stands -/
def TN (μ : XM) (n : Nat) (tb : Nat → Nat) : Prop := xR μ 33 0 = some 34 ∧ 574 ≤ xN μ ∧ xI μ 33 1 = w n ∧ n ≤ 240 ∧ ∀ j, j < n → xI μ 34 j = w (tb j) ∧ 1 ≤ tb j ∧ tb j ≤ 255
theorem TN.fof {P : Nat → Prop} {μ μ' : XM} {n : Nat} {tb : Nat → Nat} (h : TN μ n tb) (ho : fof P μ μ') (hp : ¬ P 33 ∧ ¬ P 34) : TN μ' n tb := by
  obtain ⟨h1, h2, h3, h4, h5⟩ := h
  exact ⟨by rw [ho.2.2.1]; exact h1, by rw [ho.2.2.2]; exact h2, by rw [ho.1 33 hp.1]; exact h3, h4, fun j hj => by rw [ho.1 34 hp.2]; exact h5 j hj⟩
def tcr (c : Nat) : Prop := c = 33 ∨ c = 34
section FE
variable {Γ : XG} {d n : Nat} {tb : Nat → Nat} {μ : XM} {Q : Option Value → XM → Prop}
theorem bytesIn_G {x : Int32} : ∀ (f c : Nat), f ≤ 4 → c + f ≤ 100 → Q (some (.int (w ((c + bsz x f : Nat) : Int)))) μ → G Γ m_Ta_bytesIn (d + 1) (0, 0) Q 5 [.int x, .int (w c), .int (w (8 * (f : Int) - 8))] [] μ := by
  intro f
  induction f with
  | zero =>
    intro c hf hc hQ
    refine B_Ta_bytesIn_5 ?_
    rw [w_lt (by omega) (by omega) (by omega) (by omega)]
    exact ⟨fun _ => hQ, fun q => absurd (by omega) q⟩
  | succ f ih =>
    intro c hf hc hQ
    refine B_Ta_bytesIn_5 ?_
    rw [show 8 * ((f + 1 : Nat) : Int) - 8 = 8 * (f : Int) by omega, w_lt (by omega) (by omega) (by omega) (by omega), (byt_w x f).1]
    have hb := (byt_w x f).2
    unfold bsz at hQ
    refine ⟨fun q => absurd q (by omega), fun _ => ⟨fun q => ?_, fun q => ?_⟩⟩
    · rw [w_inj (by omega) (by omega) (by omega) (by omega)] at q
      rw [if_pos (by omega)] at hQ
      rw [w_add, w_add]
      have := ih (c + 0) (by omega) (by omega) (by rw [show c + 0 + bsz x f = c + (0 + bsz x f) by omega]; exact hQ)
      exact this
    · rw [w_inj (by omega) (by omega) (by omega) (by omega)] at q
      rw [if_neg (by omega)] at hQ
      rw [w_add, w_add]
      have := ih (c + 1) (by omega) (by omega) (by rw [show c + 1 + bsz x f = c + (1 + bsz x f) by omega]; exact hQ)
      exact this
theorem C_bytesInF (hd : 1 ≤ d) {x : Int32} : Call Γ m_Ta_bytesIn d [.int x] μ (KI (fun r μ' => μ' = μ ∧ r = w (bsz x 4))) := by
  obtain ⟨d, rfl⟩ : ∃ e, d = e + 1 := ⟨d - 1, by omega⟩
  refine Call.of ok_Ta_bytesIn (Nat.le_of_ble_eq_true rfl) (B_Ta_bytesIn_0 ?_)
  have := bytesIn_G (Γ := Γ) (d := d) (μ := μ) (Q := KI (fun r μ' => μ' = μ ∧ r = w (bsz x 4))) (x := x) 4 0 (by omega) (by omega) ⟨_, rfl, rfl, by rw [Nat.zero_add]⟩
  exact this
theorem sh34 : shp 34 = some (.inr (0, 240)) := rfl
theorem append_G {x : Int32} : ∀ (f n : Nat) (tb : Nat → Nat) (μ : XM), f ≤ 4 → n + bsz x f ≤ 240 → TN μ n tb → (∀ μ', fof tcr μ μ' → TN μ' (n + bsz x f) (apf x f n tb) → Q none μ') → G Γ m_Ta_append (d + 1) (0, 0) Q 3 [.ref 33, .int x, .int (w (8 * (f : Int) - 8))] [] μ := by
  intro f
  induction f with
  | zero =>
    intro n tb μ hf hn hT hQ
    refine B_Ta_append_3 (ob_of rfl (by omega) hT.2.1) hT.1 ?_
    rw [w_lt (by omega) (by omega) (by omega) (by omega)]
    exact ⟨fun _ => hQ μ (fof.rf _ _) hT, fun q => absurd (by omega) q⟩
  | succ f ih =>
    intro n tb μ hf hn hT hQ
    refine B_Ta_append_3 (ob_of rfl (by omega) hT.2.1) hT.1 ?_
    have hb := (byt_w x f).2
    rw [show 8 * ((f + 1 : Nat) : Int) - 8 = 8 * (f : Int) by omega, w_lt (by omega) (by omega) (by omega) (by omega), (byt_w x f).1]
    unfold bsz at hn hQ
    unfold apf at hQ
    refine ⟨fun q => absurd q (by omega), fun _ => ⟨fun q => ?_, fun q => ⟨240, ar_of sh34 (by omega) hT.2.1, ?_⟩⟩⟩
    · rw [w_inj (by omega) (by omega) (by omega) (by omega)] at q
      have q' : byt x f = 0 := by omega
      rw [if_pos q'] at hn
      rw [if_pos q', if_pos q'] at hQ
      rw [w_add]
      exact ih n tb μ (by omega) (by omega) hT (fun μ' g1 g2 => hQ μ' g1 (by rw [show n + (0 + bsz x f) = n + bsz x f by omega]; exact g2))
    · rw [w_inj (by omega) (by omega) (by omega) (by omega)] at q
      have q' : ¬ byt x f = 0 := by omega
      rw [if_neg q'] at hn
      rw [if_neg q', if_neg q'] at hQ
      rw [hT.2.2.1, w_lt (by omega) (by omega) (by omega) (by omega), w_cln (by omega)]
      refine ⟨fun _ => ⟨inS_of sh34 (by omega) hT.2.1 (by omega) (by omega) (by omega), ?_⟩, fun q2 => absurd (by omega) q2⟩
      rintro μ3 rfl μ4 rfl
      rw [xI_sI, if_neg (by omega), hT.2.2.1, w_add, w_add, show (n : Int) + 1 = ((n + 1 : Nat) : Int) by omega]
      have g : fof tcr μ (sI (sI μ 34 n (w (byt x f))) 33 1 (w ((n + 1 : Nat) : Int))) := (fof.sI _ _ _ (Or.inr rfl)).trans (fof.sI _ _ _ (Or.inl rfl))
      refine ih (n + 1) (apb tb n (byt x f)) _ (by omega) (by omega) ⟨hT.1, hT.2.1, by rw [xI_sI, if_pos ⟨rfl, rfl⟩], by omega, fun j hj => ?_⟩ (fun μ' g1 g2 => hQ μ' (g.trans g1) (by rw [show n + (1 + bsz x f) = n + 1 + bsz x f by omega]; exact g2))
      rw [xI_sI, if_neg (by omega), xI_sI]
      unfold apb
      by_cases e : j = n
      · rw [if_pos ⟨rfl, e⟩, if_pos e]
        exact ⟨rfl, by omega, hb⟩
      · rw [if_neg (fun z => e z.2), if_neg e]
        exact hT.2.2.2.2 j (by omega)
theorem C_append (hd : 1 ≤ d) {x : Int32} (hn : n + bsz x 4 ≤ 240) (hT : TN μ n tb) : Call Γ m_Ta_append d [.ref 33, .int x] μ (KV (fun μ' => fof tcr μ μ' ∧ TN μ' (n + bsz x 4) (apf x 4 n tb))) := by
  obtain ⟨d, rfl⟩ : ∃ e, d = e + 1 := ⟨d - 1, by omega⟩
  refine Call.of ok_Ta_append (Nat.le_of_ble_eq_true rfl) (B_Ta_append_0 ?_)
  exact append_G (Γ := Γ) (d := d) (x := x) 4 n tb μ (by omega) hn hT (fun μ' g1 g2 => ⟨rfl, g1, g2⟩)
/-- bytes of a feed behind n bytes tb -/
def fdt (a b c e g : Int32) (n : Nat) (tb : Nat → Nat) : Nat → Nat := apf g 4 (n + bsz a 4 + bsz b 4 + bsz c 4 + bsz e 4) (apf e 4 (n + bsz a 4 + bsz b 4 + bsz c 4) (apf c 4 (n + bsz a 4 + bsz b 4) (apf b 4 (n + bsz a 4) (apf a 4 n tb))))
theorem C_feedF (hd : 2 ≤ d) (hR : RF μ) (hT : TN μ n tb) {a b c e g : Int32} : Call Γ m_FB_feed d [.ref 32, .int a, .int b, .int c, .int e, .int g] μ (KI (fun r μ' => fof tcr μ μ' ∧ ((n + bsz a 4 + bsz b 4 + bsz c 4 + bsz e 4 + bsz g 4 ≤ 240 ∧ r = w ((n + bsz a 4 + bsz b 4 + bsz c 4 + bsz e 4 + bsz g 4 : Nat) : Int) ∧ TN μ' (n + bsz a 4 + bsz b 4 + bsz c 4 + bsz e 4 + bsz g 4) (fdt a b c e g n tb)) ∨ (240 < n + bsz a 4 + bsz b 4 + bsz c 4 + bsz e 4 + bsz g 4 ∧ r = w (-1) ∧ TN μ' n tb)))) := by
  obtain ⟨d, rfl⟩ : ∃ e, d = e + 1 := ⟨d - 1, by omega⟩
  have l := fun x => bsz_le x 4
  have la := l a
  have lb := l b
  have lc := l c
  have le := l e
  have lg := l g
  have hn := hT.2.2.2.1
  refine Call.of ok_FB_feed (Nat.le_of_ble_eq_true rfl) (B_FB_feed_0 hR.ob ?_)
  refine (C_bytesInF (by omega)).conseq (KI.mono ?_)
  rintro r μ1 ⟨rfl, rfl⟩
  refine (C_bytesInF (by omega)).conseq (KI.mono ?_)
  rintro r μ1 ⟨rfl, rfl⟩
  refine (C_bytesInF (by omega)).conseq (KI.mono ?_)
  rintro r μ1 ⟨rfl, rfl⟩
  refine (C_bytesInF (by omega)).conseq (KI.mono ?_)
  rintro r μ1 ⟨rfl, rfl⟩
  refine (C_bytesInF (by omega)).conseq (KI.mono ?_)
  rintro r μ1 ⟨rfl, rfl⟩
  refine ⟨33, hR.r 32 0 33 rfl, hR.o rfl (by omega), ?_⟩
  rw [hT.2.2.1, w_add, w_add, w_add, w_add, w_add, w_lt (by omega) (by omega) (by omega) (by omega)]
  refine ⟨fun q => ⟨_, rfl, fof.rf _ _, Or.inr ⟨by omega, rfl, hT⟩⟩, fun q => ?_⟩
  refine (C_append (by omega) (by omega) hT).conseq (KV.mono ?_)
  rintro μ2 ⟨o2, t2⟩
  have R2 := hR.of o2.2.2.1 o2.2.2.2
  refine ⟨R2.r 32 0 33 rfl, ?_⟩
  refine (C_append (by omega) (by omega) t2).conseq (KV.mono ?_)
  rintro μ3 ⟨o3, t3⟩
  have R3 := R2.of o3.2.2.1 o3.2.2.2
  refine ⟨R3.r 32 0 33 rfl, ?_⟩
  refine (C_append (by omega) (by omega) t3).conseq (KV.mono ?_)
  rintro μ4 ⟨o4, t4⟩
  have R4 := R3.of o4.2.2.1 o4.2.2.2
  refine ⟨R4.r 32 0 33 rfl, ?_⟩
  refine (C_append (by omega) (by omega) t4).conseq (KV.mono ?_)
  rintro μ5 ⟨o5, t5⟩
  have R5 := R4.of o5.2.2.1 o5.2.2.2
  refine ⟨R5.r 32 0 33 rfl, ?_⟩
  refine (C_append (by omega) (by omega) t5).conseq (KV.mono ?_)
  rintro μ6 ⟨o6, t6⟩
  have R6 := R5.of o6.2.2.1 o6.2.2.2
  exact ⟨R6.r 32 0 33 rfl, _, rfl, (((o2.trans o3).trans o4).trans o5).trans o6, Or.inl ⟨by omega, t6.2.2.1, t6⟩⟩
theorem C_endF (hd : 1 ≤ d) (hR : RF μ) (hT : TN μ n tb) {z : Int} (z1 : -2147483648 ≤ z) (z2 : z < 2147483648) : Call Γ m_FB_end d [.ref 32, .int (w z)] μ (KI (fun r μ' => fof tcr μ μ' ∧ (((0 ≤ z ∧ z ≤ n) ∧ r = w 1 ∧ TN μ' z.toNat tb) ∨ (¬ (0 ≤ z ∧ z ≤ n) ∧ r = w 0 ∧ TN μ' n tb)))) := by
  obtain ⟨d, rfl⟩ : ∃ e, d = e + 1 := ⟨d - 1, by omega⟩
  have hn := hT.2.2.2.1
  refine Call.of ok_FB_end (Nat.le_of_ble_eq_true rfl) (B_FB_end_0 hR.ob (hR.r 32 0 33 rfl) (hR.o rfl (by omega)) ?_)
  rw [hT.2.2.1, w_lt (by omega) (by omega) (by omega) (by omega), w_lt (by omega) (by omega) (by omega) (by omega)]
  refine ⟨fun q => ⟨_, rfl, fof.rf _ _, Or.inr ⟨by omega, rfl, hT⟩⟩, fun q => ⟨fun q2 => ⟨_, rfl, fof.rf _ _, Or.inr ⟨by omega, rfl, hT⟩⟩, fun q2 => ?_⟩⟩
  rintro μ1 rfl
  refine ⟨_, rfl, fof.sI _ _ _ (Or.inl rfl), Or.inl ⟨by omega, rfl, hT.1, hT.2.1, ?_, by omega, fun j hj => ?_⟩⟩
  · rw [xI_sI, if_pos ⟨rfl, rfl⟩]
    congr 1
    omega
  · rw [xI_sI, if_neg (by omega)]
    exact hT.2.2.2.2 j (by omega)
end FE
