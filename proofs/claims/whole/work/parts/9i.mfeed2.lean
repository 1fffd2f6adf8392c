/-! FEED AND END, in the reference -/
/-- the tape holds n bytes tb -/
def TM (μ : XM) (n : Nat) (tb : Nat → Nat) : Prop := TX μ 548 0 n tb ∧ xI μ 547 6 = w n
def tpf (c j : Nat) : Prop := c = 548 ∨ (c = 547 ∧ (j = 6 ∨ j = 0))
theorem TM.frm {F : Nat → Nat → Prop} {μ μ' : XM} {n : Nat} {tb : Nat → Nat} (h : TM μ n tb) (ho : fr F μ μ') (h1 : ∀ j, ¬ F 548 j) (h2 : ¬ F 547 6) : TM μ' n tb := ⟨h.1.fr ho h1, by rw [(ho.1 547 6 h2).1]; exact h.2⟩
theorem RM_tp {μ μ' : XM} (h : RM μ) (ho : fr tpf μ μ') : RM μ' := RM.fr h ho (fun k v e => by
  unfold tpf
  rintro (q | ⟨-, rfl | rfl⟩)
  · omega
  · exact nomatch e
  · exact nomatch e)
theorem sh547 : shp 548 = some (.inr (1, 240)) := rfl
theorem TM.mk {μ : XM} {n : Nat} {tb : Nat → Nat} (h : xI μ 547 6 = w n) (hn : n ≤ 240) (hb : ∀ j, j < n → xI μ 548 j = w (sb (tb j)) ∧ 1 ≤ tb j ∧ tb j ≤ 255) : TM μ n tb := ⟨⟨hn, ⟨240, sh547, by omega, by omega, by omega, by omega⟩, fun j hj => by rw [Nat.zero_add]; exact hb j hj⟩, h⟩
theorem TM.b {μ : XM} {n : Nat} {tb : Nat → Nat} (h : TM μ n tb) {j : Nat} (hj : j < n) : xI μ 548 j = w (sb (tb j)) ∧ 1 ≤ tb j ∧ tb j ≤ 255 := by
  have := h.1.2.2 j hj
  rwa [Nat.zero_add] at this
section OJ
variable {Γ : XG} {d n : Nat} {tb : Nat → Nat} {μ : XM} {Q : Option Value → XM → Prop}
theorem bytesInM_G {x : Int32} : ∀ (f c : Nat), f ≤ 4 → c + f ≤ 100 → Q (some (.int (w ((c + bsz x f : Nat) : Int)))) μ → G Γ m_MO_bytesIn (d + 1) (0, 0) Q 5 [.int x, .int (w c), .int (w (8 * (f : Int) - 8))] [] μ := by
  intro f
  induction f with
  | zero =>
    intro c hf hc hQ
    refine B_MO_bytesIn_5 ?_
    rw [w_lt (by omega) (by omega) (by omega) (by omega)]
    exact ⟨fun _ => hQ, fun q => absurd (by omega) q⟩
  | succ f ih =>
    intro c hf hc hQ
    refine B_MO_bytesIn_5 ?_
    have hb := (byt_w x f).2
    rw [show 8 * ((f + 1 : Nat) : Int) - 8 = 8 * (f : Int) by omega, w_lt (by omega) (by omega) (by omega) (by omega), shr_and x (by omega)]
    unfold bsz at hQ
    refine ⟨fun q => absurd q (by omega), fun _ => ⟨fun q => ?_, fun q => ?_⟩⟩
    · rw [w_inj (by omega) (by omega) (by omega) (by omega)] at q
      rw [if_pos (by omega)] at hQ
      rw [w_add, w_add]
      exact ih (c + 0) (by omega) (by omega) (by rw [show c + 0 + bsz x f = c + (0 + bsz x f) by omega]; exact hQ)
    · rw [w_inj (by omega) (by omega) (by omega) (by omega)] at q
      rw [if_neg (by omega)] at hQ
      rw [w_add, w_add]
      exact ih (c + 1) (by omega) (by omega) (by rw [show c + 1 + bsz x f = c + (1 + bsz x f) by omega]; exact hQ)
theorem C_bytesInM (hd : 1 ≤ d) {x : Int32} : Call Γ m_MO_bytesIn d [.int x] μ (KI (fun r μ' => μ' = μ ∧ r = w (bsz x 4))) := by
  obtain ⟨d, rfl⟩ : ∃ e, d = e + 1 := ⟨d - 1, by omega⟩
  refine Call.of ok_MO_bytesIn (Nat.le_of_ble_eq_true rfl) (B_MO_bytesIn_0 ?_)
  have := bytesInM_G (Γ := Γ) (d := d) (μ := μ) (Q := KI (fun r μ' => μ' = μ ∧ r = w (bsz x 4))) (x := x) 4 0 (by omega) (by omega) ⟨_, rfl, rfl, by rw [Nat.zero_add]⟩
  exact this
theorem put1_G {x : Int32} : ∀ (f n : Nat) (tb : Nat → Nat) (μ : XM), f ≤ 4 → n + bsz x f ≤ 240 → RM μ → TM μ n tb → (∀ μ', fr tpf μ μ' → TM μ' (n + bsz x f) (apf x f n tb) → Q none μ') → G Γ m_MO_put1 (d + 1) (0, 0) Q 3 [.ref 547, .int x, .int (w (8 * (f : Int) - 8))] [] μ := by
  intro f
  induction f with
  | zero =>
    intro n tb μ hf hn hR hT hQ
    refine B_MO_put1_3 hR.o (hR.r 1 548 rfl) ?_
    rw [w_lt (by omega) (by omega) (by omega) (by omega)]
    exact ⟨fun _ => hQ μ (fr.rf _ _) hT, fun q => absurd (by omega) q⟩
  | succ f ih =>
    intro n tb μ hf hn hR hT hQ
    refine B_MO_put1_3 hR.o (hR.r 1 548 rfl) ?_
    have hb := (byt_w x f).2
    have hand := shr_and x (f := f) (by omega)
    rw [show 8 * ((f + 1 : Nat) : Int) - 8 = 8 * (f : Int) by omega, w_lt (by omega) (by omega) (by omega) (by omega), hand]
    unfold bsz at hn hQ
    unfold apf at hQ
    refine ⟨fun q => absurd q (by omega), fun _ => ⟨fun q => ?_, fun q => ?_⟩⟩
    · rw [w_inj (by omega) (by omega) (by omega) (by omega)] at q
      have q' : byt x f = 0 := by omega
      rw [if_pos q'] at hn
      rw [if_pos q', if_pos q'] at hQ
      rw [w_add]
      exact ih n tb μ (by omega) (by omega) hR hT (fun μ' g1 g2 => hQ μ' g1 (by rw [show n + (0 + bsz x f) = n + bsz x f by omega]; exact g2))
    · rw [w_inj (by omega) (by omega) (by omega) (by omega)] at q
      have q' : ¬ byt x f = 0 := by omega
      rw [if_neg q'] at hn
      rw [if_neg q', if_neg q'] at hQ
      rw [hT.2, w_cln (by omega), byte_sb hb hand]
      refine ⟨⟨by omega, inb_of sh547 (by omega) hR.1 (by omega) (by omega)⟩, ?_⟩
      rintro μ2 rfl μ3 rfl
      rw [xI_sI, if_neg (by omega), hT.2, w_add, w_add, show (n : Int) + 1 = ((n + 1 : Nat) : Int) by omega]
      have g : fr tpf μ (sI (sI μ 548 n (w (sb (byt x f)))) 547 6 (w ((n + 1 : Nat) : Int))) := (fr.sI (F := tpf) (a := 548) (k := n) μ _ (Or.inl rfl)).trans (fr.sI (F := tpf) (a := 547) (k := 6) _ _ (Or.inr ⟨rfl, Or.inl rfl⟩))
      refine ih (n + 1) (apb tb n (byt x f)) _ (by omega) (by omega) (RM_tp hR g) (TM.mk (by rw [xI_sI, if_pos ⟨rfl, rfl⟩]) (by omega) (fun j hj => ?_)) (fun μ' g1 g2 => hQ μ' (g.trans g1) (by rw [show n + (1 + bsz x f) = n + 1 + bsz x f by omega]; exact g2))
      rw [xI_sI, if_neg (by omega), xI_sI]
      unfold apb
      by_cases e : j = n
      · rw [if_pos ⟨rfl, e⟩, if_pos e]
        exact ⟨rfl, by omega, hb⟩
      · rw [if_neg (fun z => e z.2), if_neg e]
        exact hT.b (by omega)
theorem C_put1 (hd : 1 ≤ d) {x : Int32} (hn : n + bsz x 4 ≤ 240) (hR : RM μ) (hT : TM μ n tb) : Call Γ m_MO_put1 d [.ref 547, .int x] μ (KV (fun μ' => fr tpf μ μ' ∧ TM μ' (n + bsz x 4) (apf x 4 n tb))) := by
  obtain ⟨d, rfl⟩ : ∃ e, d = e + 1 := ⟨d - 1, by omega⟩
  refine Call.of ok_MO_put1 (Nat.le_of_ble_eq_true rfl) (B_MO_put1_0 ?_)
  exact put1_G (Γ := Γ) (d := d) (x := x) 4 n tb μ (by omega) hn hR hT (fun μ' g1 g2 => ⟨rfl, g1, g2⟩)
theorem C_feedM (hd : 2 ≤ d) (hR : RM μ) (hT : TM μ n tb) {a b c e g : Int32} : Call Γ m_MO_feed d [.ref 547, .int a, .int b, .int c, .int e, .int g] μ (KI (fun r μ' => fr tpf μ μ' ∧ ((n + bsz a 4 + bsz b 4 + bsz c 4 + bsz e 4 + bsz g 4 ≤ 240 ∧ r = w ((n + bsz a 4 + bsz b 4 + bsz c 4 + bsz e 4 + bsz g 4 : Nat) : Int) ∧ TM μ' (n + bsz a 4 + bsz b 4 + bsz c 4 + bsz e 4 + bsz g 4) (fdt a b c e g n tb)) ∨ (240 < n + bsz a 4 + bsz b 4 + bsz c 4 + bsz e 4 + bsz g 4 ∧ r = w (-1) ∧ TM μ' n tb)))) := by
  obtain ⟨d, rfl⟩ : ∃ e, d = e + 1 := ⟨d - 1, by omega⟩
  have l := fun x => bsz_le x 4
  have la := l a
  have lb := l b
  have lc := l c
  have le := l e
  have lg := l g
  have hn := hT.1.1
  refine Call.of ok_MO_feed (Nat.le_of_ble_eq_true rfl) (B_MO_feed_0 hR.o ?_)
  rintro μ1 rfl
  have o1 : fr tpf μ (sI μ 547 0 (w 0)) := fr.sI (F := tpf) (a := 547) (k := 0) μ _ (Or.inr ⟨rfl, Or.inr rfl⟩)
  have R1 := RM_tp hR o1
  have t1 : TM (sI μ 547 0 (w 0)) n tb := TM.mk (by rw [xI_sI, if_neg (by omega)]; exact hT.2) hn (fun j hj => by rw [xI_sI, if_neg (by omega)]; exact hT.b hj)
  generalize sI μ 547 0 (w 0) = μ1 at *
  refine (C_bytesInM (by omega)).conseq (KI.mono ?_)
  rintro r μ1 ⟨rfl, rfl⟩
  refine (C_bytesInM (by omega)).conseq (KI.mono ?_)
  rintro r μ1 ⟨rfl, rfl⟩
  refine (C_bytesInM (by omega)).conseq (KI.mono ?_)
  rintro r μ1 ⟨rfl, rfl⟩
  refine (C_bytesInM (by omega)).conseq (KI.mono ?_)
  rintro r μ1 ⟨rfl, rfl⟩
  refine (C_bytesInM (by omega)).conseq (KI.mono ?_)
  rintro r μ1 ⟨rfl, rfl⟩
  rw [t1.2, w_add, w_add, w_add, w_add, w_add, w_lt (by omega) (by omega) (by omega) (by omega)]
  refine ⟨fun q => ⟨_, rfl, o1, Or.inr ⟨by omega, rfl, t1⟩⟩, fun q => ?_⟩
  refine (C_put1 (by omega) (by omega) R1 t1).conseq (KV.mono ?_)
  rintro μ2 ⟨o2, t2⟩
  have R2 := RM_tp R1 o2
  refine (C_put1 (by omega) (by omega) R2 t2).conseq (KV.mono ?_)
  rintro μ3 ⟨o3, t3⟩
  have R3 := RM_tp R2 o3
  refine (C_put1 (by omega) (by omega) R3 t3).conseq (KV.mono ?_)
  rintro μ4 ⟨o4, t4⟩
  have R4 := RM_tp R3 o4
  refine (C_put1 (by omega) (by omega) R4 t4).conseq (KV.mono ?_)
  rintro μ5 ⟨o5, t5⟩
  have R5 := RM_tp R4 o5
  refine (C_put1 (by omega) (by omega) R5 t5).conseq (KV.mono ?_)
  rintro μ6 ⟨o6, t6⟩
  exact ⟨_, rfl, o1.trans ((((o2.trans o3).trans o4).trans o5).trans o6), Or.inl ⟨by omega, t6.2, t6⟩⟩
theorem C_endM (hd : 1 ≤ d) (hR : RM μ) (hT : TM μ n tb) {z : Int} (z1 : -2147483648 ≤ z) (z2 : z < 2147483648) : Call Γ m_MO_end d [.ref 547, .int (w z)] μ (KI (fun r μ' => fr tpf μ μ' ∧ (((0 ≤ z ∧ z ≤ n) ∧ r = w 1 ∧ TM μ' z.toNat tb) ∨ (¬ (0 ≤ z ∧ z ≤ n) ∧ r = w 0 ∧ TM μ' n tb)))) := by
  obtain ⟨d, rfl⟩ : ∃ e, d = e + 1 := ⟨d - 1, by omega⟩
  have hn := hT.1.1
  refine Call.of ok_MO_end (Nat.le_of_ble_eq_true rfl) (B_MO_end_0 hR.o ?_)
  rintro μ1 rfl
  have o1 : fr tpf μ (sI μ 547 0 (w 0)) := fr.sI (F := tpf) (a := 547) (k := 0) μ _ (Or.inr ⟨rfl, Or.inr rfl⟩)
  have t1 : TM (sI μ 547 0 (w 0)) n tb := TM.mk (by rw [xI_sI, if_neg (by omega)]; exact hT.2) hn (fun j hj => by rw [xI_sI, if_neg (by omega)]; exact hT.b hj)
  generalize sI μ 547 0 (w 0) = μ1 at *
  rw [t1.2, w_lt (by omega) (by omega) (by omega) (by omega), w_lt (by omega) (by omega) (by omega) (by omega)]
  refine ⟨fun q => ⟨_, rfl, o1, Or.inr ⟨by omega, rfl, t1⟩⟩, fun q => ⟨fun q2 => ⟨_, rfl, o1, Or.inr ⟨by omega, rfl, t1⟩⟩, fun q2 => ?_⟩⟩
  rintro μ2 rfl
  refine ⟨_, rfl, o1.trans (fr.sI (F := tpf) (a := 547) (k := 6) _ _ (Or.inr ⟨rfl, Or.inl rfl⟩)), Or.inl ⟨by omega, rfl, TM.mk ?_ (by omega) (fun j hj => ?_)⟩⟩
  · rw [xI_sI, if_pos ⟨rfl, rfl⟩]
    congr 1
    omega
  · rw [xI_sI, if_neg (by omega)]
    exact t1.b (by omega)
end OJ
