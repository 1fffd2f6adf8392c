/-! PILES -/
/-- outside lo .. hi nothing has changed -/
def off (lo hi : Nat) (μ μ' : XM) : Prop := (∀ c, (c < lo ∨ hi ≤ c) → ∀ j, xI μ' c j = xI μ c j) ∧ xL μ' = xL μ ∧ xR μ' = xR μ ∧ xN μ' = xN μ
theorem off.rf (lo hi : Nat) (μ : XM) : off lo hi μ μ := ⟨fun _ _ _ => rfl, rfl, rfl, rfl⟩
theorem off.trans {lo hi : Nat} {μ μ1 μ2 : XM} (h1 : off lo hi μ μ1) (h2 : off lo hi μ1 μ2) : off lo hi μ μ2 := ⟨fun c hc j => (h2.1 c hc j).trans (h1.1 c hc j), h2.2.1.trans h1.2.1, h2.2.2.1.trans h1.2.2.1, h2.2.2.2.trans h1.2.2.2⟩
theorem off.sI {lo hi a : Nat} (μ : XM) (k : Nat) (v : Int32) (h1 : lo ≤ a) (h2 : a < hi) : off lo hi μ (sI μ a k v) := ⟨fun c hc j => by rw [xI_sI, if_neg (by omega)], rfl, rfl, rfl⟩
theorem off.sC {lo hi c : Nat} (μ : XM) (a n : Nat) (h1 : lo ≤ c) (h2 : c < hi) : off lo hi μ (sC μ a c n) := ⟨fun q hq j => by rw [xI_sC, if_neg (by omega)], rfl, rfl, rfl⟩
theorem off.wide {lo hi lo' hi' : Nat} {μ μ' : XM} (h : off lo hi μ μ') (h1 : lo' ≤ lo) (h2 : hi ≤ hi') : off lo' hi' μ μ' := ⟨fun c hc j => h.1 c (by omega) j, h.2⟩
def PS (a : Nat) : Prop := 32 ≤ a ∧ a + 4 < 574 ∧ shp a = some (.inl 6) ∧ shp (a + 1) = some (.inr (0, 8)) ∧ shp (a + 2) = some (.inr (0, 8)) ∧ shp (a + 3) = some (.inr (0, 8)) ∧ shp (a + 4) = some (.inr (0, 8))
def PB (μ : XM) (a : Nat) : Prop := PS a ∧ 574 ≤ xN μ ∧ xR μ a 0 = some (a + 1) ∧ xR μ a 1 = some (a + 2) ∧ xR μ a 2 = some (a + 3) ∧ xR μ a 3 = some (a + 4)
theorem PB.ob {μ : XM} {a : Nat} (h : PB μ a) : ob μ a 6 := ob_of h.1.2.2.1 (by have := h.1.2.1; omega) h.2.1
theorem PB.is {μ : XM} {a : Nat} (h : PB μ a) {q : Nat} (h1 : 1 ≤ q) (h4 : q ≤ 4) {i : Int} (hi : 0 ≤ i) (h8 : i < 8) : inS μ 0 (a + q) (w i) := by
  obtain ⟨⟨p1, p2, p3, p4, p5, p6, p7⟩, hN, -⟩ := h
  have hs : shp (a + q) = some (.inr (0, 8)) := by
    rcases (show q = 1 ∨ q = 2 ∨ q = 3 ∨ q = 4 by omega) with rfl | rfl | rfl | rfl <;> assumption
  exact inS_of hs (by omega) hN hi (by omega) (by omega)
theorem PB.of {μ μ' : XM} {a : Nat} (h : PB μ a) (h1 : xR μ' = xR μ) (h2 : xN μ' = xN μ) : PB μ' a := by
  unfold PB; rw [h1, h2]; exact h
/-- what a box may be: kind, portions, age, the month of its label (-1: none) -/
def BB (bx : Nat → Nat → Int) (i : Nat) : Prop := 0 ≤ bx i 0 ∧ bx i 0 ≤ 5 ∧ 1 ≤ bx i 1 ∧ bx i 1 ≤ 9 ∧ 0 ≤ bx i 2 ∧ bx i 2 ≤ 99 ∧ -1 ≤ bx i 3 ∧ bx i 3 ≤ 2000
/-- the pile at a: s boxes bx from the lowest, the month m -/
def PF (μ : XM) (a s : Nat) (bx : Nat → Nat → Int) (m : Nat) : Prop := PB μ a ∧ s ≤ 8 ∧ m ≤ 2000 ∧ xI μ a 4 = w s ∧ xI μ a 5 = w m ∧ ∀ i, i < s → (xI μ (a + 1) i = w (bx i 0) ∧ xI μ (a + 2) i = w (bx i 1) ∧ xI μ (a + 3) i = w (bx i 2) ∧ xI μ (a + 4) i = w (bx i 3)) ∧ BB bx i
theorem PF.of {μ μ' : XM} {a s m : Nat} {bx : Nat → Nat → Int} (h : PF μ a s bx m) (hx : ∀ c, a ≤ c → c ≤ a + 4 → ∀ j, xI μ' c j = xI μ c j) (h1 : xR μ' = xR μ) (h2 : xN μ' = xN μ) : PF μ' a s bx m := by
  obtain ⟨hB, hs, hm, e4, e5, hb⟩ := h
  refine ⟨hB.of h1 h2, hs, hm, by rw [hx a (by omega) (by omega)]; exact e4, by rw [hx a (by omega) (by omega)]; exact e5, fun i hi => ?_⟩
  rw [hx (a + 1) (by omega) (by omega), hx (a + 2) (by omega) (by omega), hx (a + 3) (by omega) (by omega), hx (a + 4) (by omega) (by omega)]
  exact hb i hi
theorem PF.off {μ μ' : XM} {a s m lo hi : Nat} {bx : Nat → Nat → Int} (h : PF μ a s bx m) (ho : off lo hi μ μ') (hd : a + 4 < lo ∨ hi ≤ a) : PF μ' a s bx m := h.of (fun c h1 h2 j => ho.1 c (by omega) j) ho.2.2.1 ho.2.2.2
def bset (bx : Nat → Nat → Int) (i q : Nat) (v : Int) : Nat → Nat → Int := fun j t => if j = i ∧ t = q then v else bx j t
section PC
variable {Γ : XG} {d a s m : Nat} {bx : Nat → Nat → Int} {μ : XM} {Q : Option Value → XM → Prop}
theorem C_hasPlace (hd : 1 ≤ d) (h : PF μ a s bx m) {z : Int} (h1 : -2147483648 ≤ z) (h2 : z < 2147483648) : Call Γ m_Pi_hasPlace d [.ref a, .int (w z)] μ (KI (fun r μ' => μ' = μ ∧ ((0 ≤ z ∧ z < s ∧ r = w 1) ∨ (¬ (0 ≤ z ∧ z < s) ∧ r = w 0)))) := by
  obtain ⟨d, rfl⟩ : ∃ e, d = e + 1 := ⟨d - 1, by omega⟩
  refine Call.of ok_Pi_hasPlace (Nat.le_of_ble_eq_true rfl) (B_Pi_hasPlace_0 h.1.ob ?_)
  have hs := h.2.1
  rw [h.2.2.2.1, w_lt (by omega) (by omega) (by omega) (by omega), w_lt (by omega) (by omega) (by omega) (by omega)]
  exact ⟨fun q => ⟨_, rfl, rfl, Or.inr ⟨by omega, rfl⟩⟩, fun q => ⟨fun q2 => ⟨_, rfl, rfl, Or.inl ⟨by omega, q2, rfl⟩⟩, fun q2 => ⟨_, rfl, rfl, Or.inr ⟨by omega, rfl⟩⟩⟩⟩
theorem C_indexOf (hd : 1 ≤ d) (h : PF μ a s bx m) {z : Int} : Call Γ m_Pi_indexOf d [.ref a, .int (w z)] μ (KI (fun r μ' => μ' = μ ∧ r = w (s - 1 - z))) := by
  obtain ⟨d, rfl⟩ : ∃ e, d = e + 1 := ⟨d - 1, by omega⟩
  refine Call.of ok_Pi_indexOf (Nat.le_of_ble_eq_true rfl) (B_Pi_indexOf_0 h.1.ob ?_)
  rw [h.2.2.2.1, w_sub, w_sub]
  exact ⟨_, rfl, rfl, rfl⟩
theorem C_hasLabel (hd : 1 ≤ d) (h : PF μ a s bx m) {i : Nat} (hi : i < s) : Call Γ m_Pi_hasLabel d [.ref a, .int (w i)] μ (KI (fun r μ' => μ' = μ ∧ ((¬ bx i 3 = -1 ∧ r = w 1) ∨ (bx i 3 = -1 ∧ r = w 0)))) := by
  obtain ⟨d, rfl⟩ : ∃ e, d = e + 1 := ⟨d - 1, by omega⟩
  refine Call.of ok_Pi_hasLabel (Nat.le_of_ble_eq_true rfl) (B_Pi_hasLabel_0 h.1.ob h.1.2.2.2.2.2 ?_)
  have hs := h.2.1
  obtain ⟨⟨-, -, -, e3⟩, hb⟩ := h.2.2.2.2.2 i hi
  have b1 := hb.2.2.2.2.2.2
  rw [w_cln (by omega), e3, w_inj (by omega) (by omega) (by omega) (by omega)]
  exact ⟨(h.1.is (q := 4) (by omega) (by omega) (by omega) (by omega)).2, fun q => ⟨_, rfl, rfl, Or.inr ⟨q, rfl⟩⟩, fun q => ⟨_, rfl, rfl, Or.inl ⟨q, rfl⟩⟩⟩
theorem C_putLabel (hd : 1 ≤ d) (h : PF μ a s bx m) {i : Nat} (hi : i < s) : Call Γ m_Pi_putLabel d [.ref a, .int (w i)] μ (KV (fun μ' => off a (a + 5) μ μ' ∧ PF μ' a s (bset bx i 3 m) m)) := by
  obtain ⟨d, rfl⟩ : ∃ e, d = e + 1 := ⟨d - 1, by omega⟩
  refine Call.of ok_Pi_putLabel (Nat.le_of_ble_eq_true rfl) (B_Pi_putLabel_0 h.1.ob h.1.2.2.2.2.2 ?_)
  obtain ⟨hB, hs, hm, e4, e5, hb⟩ := h
  refine ⟨hB.is (q := 4) (by omega) (by omega) (by omega) (by omega), ?_⟩
  rintro μ2 rfl
  rw [w_cln (by omega), e5]
  refine ⟨rfl, off.sI _ _ _ (by omega) (by omega), hB.of rfl rfl, hs, hm, by rw [xI_sI, if_neg (by omega)]; exact e4, by rw [xI_sI, if_neg (by omega)]; exact e5, fun j hj => ?_⟩
  obtain ⟨⟨x0, x1, x2, x3⟩, hbb⟩ := hb j hj
  simp only [xI_sI, bset, BB]
  by_cases e : j = i
  · subst e
    refine ⟨⟨?_, ?_, ?_, ?_⟩, ?_⟩
    · rw [if_neg (by omega), if_neg (by omega)]; exact x0
    · rw [if_neg (by omega), if_neg (by omega)]; exact x1
    · rw [if_neg (by omega), if_neg (by omega)]; exact x2
    · simp
    · unfold BB at hbb
      simp
      omega
  · refine ⟨⟨?_, ?_, ?_, ?_⟩, ?_⟩
    · rw [if_neg (by omega), if_neg (by omega)]; exact x0
    · rw [if_neg (by omega), if_neg (by omega)]; exact x1
    · rw [if_neg (by omega), if_neg (by omega)]; exact x2
    · rw [if_neg (by omega), if_neg (by omega)]; exact x3
    · unfold BB at hbb
      simp [e]
      omega
/-- a sum over the first i boxes -/
def bsum (bx : Nat → Nat → Int) (q : Nat) : Nat → Int
  | 0 => 0
  | i + 1 => bsum bx q i + bx i q
theorem bsum_le {bx : Nat → Nat → Int} {s : Nat} (hb : ∀ i, i < s → BB bx i) : ∀ i, i ≤ s → (i : Int) ≤ bsum bx 1 i ∧ bsum bx 1 i ≤ 9 * i
  | 0, _ => by simp [bsum]
  | i + 1, hi => by
    have := bsum_le hb i (by omega)
    have := hb i (by omega)
    unfold BB at this
    unfold bsum
    omega
theorem PF.bb {μ : XM} (h : PF μ a s bx m) : ∀ i, i < s → BB bx i := fun i hi => (h.2.2.2.2.2 i hi).2
theorem portionsInAll_G (h : PF μ a s bx m) : ∀ (k i : Nat), i + k = s → Q (some (.int (w (bsum bx 1 s)))) μ → G Γ m_Pi_portionsInAll (d + 1) (0, 0) Q 4 [.ref a, .int (w (bsum bx 1 i)), .int (w i)] [] μ := by
  intro k
  induction k with
  | zero =>
    intro i hi hQ
    refine B_Pi_portionsInAll_4 h.1.ob h.1.2.2.2.1 ?_
    have hs := h.2.1
    rw [h.2.2.2.1, w_lt (by omega) (by omega) (by omega) (by omega)]
    refine ⟨fun q => absurd q (by omega), fun _ => ?_⟩
    rw [show i = s by omega]
    exact hQ
  | succ k ih =>
    intro i hi hQ
    refine B_Pi_portionsInAll_4 h.1.ob h.1.2.2.2.1 ?_
    have hs := h.2.1
    rw [h.2.2.2.1, w_lt (by omega) (by omega) (by omega) (by omega)]
    refine ⟨fun q => ⟨(h.1.is (q := 2) (by omega) (by omega) (by omega) (by omega)).2, ?_⟩, fun q => absurd (by omega) q⟩
    rw [w_cln (by omega), (h.2.2.2.2.2 i (by omega)).1.2.1, w_add, w_add]
    exact ih (i + 1) (by omega) hQ
theorem C_portionsInAll (hd : 1 ≤ d) (h : PF μ a s bx m) : Call Γ m_Pi_portionsInAll d [.ref a] μ (KI (fun r μ' => μ' = μ ∧ r = w (bsum bx 1 s))) := by
  obtain ⟨d, rfl⟩ : ∃ e, d = e + 1 := ⟨d - 1, by omega⟩
  exact Call.of ok_Pi_portionsInAll (Nat.le_of_ble_eq_true rfl) (B_Pi_portionsInAll_0 (portionsInAll_G h s 0 (by omega) ⟨_, rfl, rfl, rfl⟩))
/-- one more box on top -/
def bput (bx : Nat → Nat → Int) (s : Nat) (k p g l : Int) : Nat → Nat → Int := fun j t => if j = s then (if t = 0 then k else if t = 1 then p else if t = 2 then g else l) else bx j t
theorem C_push (hd : 1 ≤ d) (h : PF μ a s bx m) {k p g l : Int} (h8 : s < 8) (hk : BB (fun _ t => if t = 0 then k else if t = 1 then p else if t = 2 then g else l) 0) : Call Γ m_Pi_push d [.ref a, .int (w k), .int (w p), .int (w g), .int (w l)] μ (KV (fun μ' => off a (a + 5) μ μ' ∧ PF μ' a (s + 1) (bput bx s k p g l) m)) := by
  obtain ⟨d, rfl⟩ : ∃ e, d = e + 1 := ⟨d - 1, by omega⟩
  refine Call.of ok_Pi_push (Nat.le_of_ble_eq_true rfl) (B_Pi_push_0 h.1.ob h.1.2.2.1 h.1.2.2.2.1 h.1.2.2.2.2.1 h.1.2.2.2.2.2 ?_)
  obtain ⟨hB, hs, hm, e4, e5, hb⟩ := h
  rw [e4, w_lt (by omega) (by omega) (by omega) (by omega), w_cln (by omega)]
  refine ⟨fun _ => ?_, fun q => absurd (by omega) q⟩
  have iS : ∀ (μ' : XM) (q : Nat), PB μ' a → 1 ≤ q → q ≤ 4 → inS μ' 0 (a + q) (w s) := fun μ' q hp g1 g2 => hp.is g1 g2 (by omega) (by omega)
  refine ⟨iS _ 1 hB (by omega) (by omega), ?_⟩
  rintro μ2 rfl
  simp (disch := omega) only [xI_sI, if_neg, e4, w_cln]
  refine ⟨iS _ 2 (hB.of rfl rfl) (by omega) (by omega), ?_⟩
  rintro μ4 rfl
  rw [xI_sI, if_neg (by omega), xI_sI, if_neg (by omega), e4, w_cln (by omega)]
  refine ⟨iS _ 3 (hB.of rfl rfl) (by omega) (by omega), ?_⟩
  rintro μ6 rfl
  rw [xI_sI, if_neg (by omega), xI_sI, if_neg (by omega), xI_sI, if_neg (by omega), e4, w_cln (by omega)]
  refine ⟨iS _ 4 (hB.of rfl rfl) (by omega) (by omega), ?_⟩
  rintro μ8 rfl μ9 rfl
  rw [xI_sI, if_neg (by omega), xI_sI, if_neg (by omega), xI_sI, if_neg (by omega), xI_sI, if_neg (by omega), e4, w_add]
  refine ⟨rfl, ((((off.sI _ _ _ (by omega) (by omega)).trans (off.sI _ _ _ (by omega) (by omega))).trans (off.sI _ _ _ (by omega) (by omega))).trans (off.sI _ _ _ (by omega) (by omega))).trans (off.sI _ _ _ (by omega) (by omega)), hB.of rfl rfl, h8, hm, ?_, ?_, fun j hj => ?_⟩
  · rw [xI_sI, if_pos ⟨rfl, rfl⟩]; rfl
  · simp (disch := omega) only [xI_sI, if_neg]
    exact e5
  · by_cases e : j = s
    · subst e
      refine ⟨⟨?_, ?_, ?_, ?_⟩, ?_⟩
      · simp (disch := omega) [xI_sI, bput]
      · simp (disch := omega) [xI_sI, bput]
      · simp (disch := omega) [xI_sI, bput]
      · simp (disch := omega) [xI_sI, bput]
      · unfold BB bput at *
        simpa using hk
    · obtain ⟨⟨x0, x1, x2, x3⟩, hbb⟩ := hb j (by omega)
      refine ⟨⟨?_, ?_, ?_, ?_⟩, ?_⟩
      · simp (disch := omega) only [xI_sI, if_neg, bput, e]; exact x0
      · simp (disch := omega) only [xI_sI, if_neg, bput, e]; exact x1
      · simp (disch := omega) only [xI_sI, if_neg, bput, e]; exact x2
      · simp (disch := omega) only [xI_sI, if_neg, bput, e]; exact x3
      · unfold BB bput at *
        simpa [e] using hbb
/-- ages grow by n, of the first i boxes -/
def bold (bx : Nat → Nat → Int) (n : Int) (i : Nat) : Nat → Nat → Int := fun j t => if t = 2 ∧ j < i then min 99 (bx j 2 + n) else bx j t
theorem bold_BB {bx : Nat → Nat → Int} {n : Int} {i j : Nat} (h : BB bx j) (h0 : 0 ≤ n) : BB (bold bx n i) j := by
  unfold BB bold at *
  simp
  split <;> omega
theorem growOlder_G {n : Int} (h0 : 0 ≤ n) (h9 : n ≤ 1000) : ∀ (k i : Nat) (μ : XM), i + k = s → PF μ a s (bold bx n i) m → (∀ j, j < s → BB bx j) → (∀ μ', off a (a + 5) μ μ' → PF μ' a s (bold bx n s) m → Q none μ') → G Γ m_Pi_growOlder (d + 1) (0, 0) Q 2 [.ref a, .int (w n), .int (w i)] [] μ := by
  intro k
  induction k with
  | zero =>
    intro i μ hi h hbb hQ
    refine B_Pi_growOlder_2 h.1.ob h.1.2.2.2.2.1 ?_
    have hs := h.2.1
    rw [h.2.2.2.1, w_lt (by omega) (by omega) (by omega) (by omega)]
    refine ⟨fun q => absurd q (by omega), fun _ => ?_⟩
    have e : i = s := by omega
    subst e
    exact hQ μ (off.rf _ _ _) h
  | succ k ih =>
    intro i μ hi h hbb hQ
    refine B_Pi_growOlder_2 h.1.ob h.1.2.2.2.2.1 ?_
    have hs := h.2.1
    have hib := hbb i (by omega)
    have hBi := h.bb i (by omega)
    rw [h.2.2.2.1, w_lt (by omega) (by omega) (by omega) (by omega)]
    refine ⟨fun q => ⟨(h.1.is (q := 3) (by omega) (by omega) (by omega) (by omega)).2, h.1.is (q := 3) (by omega) (by omega) (by omega) (by omega), ?_⟩, fun q => absurd (by omega) q⟩
    rintro μ3 rfl
    have e3 := (h.2.2.2.2.2 i (by omega)).1.2.2.1
    have eb : bold bx n i i 2 = bx i 2 := by unfold bold; rw [if_neg (by omega)]
    unfold BB at hib
    rw [w_cln (by omega), e3, eb, w_add, w_add, jmin_w (by omega) (by omega) (by omega) (by omega)]
    refine ih (i + 1) _ (by omega) ?_ hbb (fun μ' g1 g2 => hQ μ' ((off.sI _ _ _ (by omega) (by omega)).trans g1) g2)
    obtain ⟨hB, hs, hm, e4, e5, hb⟩ := h
    refine ⟨hB.of rfl rfl, hs, hm, ?_, ?_, fun j hj => ?_⟩
    · simp (disch := omega) only [xI_sI, if_neg]; exact e4
    · simp (disch := omega) only [xI_sI, if_neg]; exact e5
    · obtain ⟨⟨x0, x1, x2, x3⟩, -⟩ := hb j hj
      refine ⟨⟨?_, ?_, ?_, ?_⟩, bold_BB (hbb j hj) h0⟩
      · simp (disch := omega) only [xI_sI, if_neg]; rw [x0]; unfold bold; simp
      · simp (disch := omega) only [xI_sI, if_neg]; rw [x1]; unfold bold; simp
      · rw [xI_sI]
        by_cases e : j = i
        · subst e
          rw [if_pos ⟨rfl, rfl⟩]
          unfold bold
          rw [if_pos ⟨rfl, by omega⟩]
        · rw [if_neg (by omega), x2]
          unfold bold
          by_cases e2 : j < i
          · rw [if_pos ⟨rfl, e2⟩, if_pos ⟨rfl, by omega⟩]
          · rw [if_neg (by omega), if_neg (by omega)]
      · simp (disch := omega) only [xI_sI, if_neg]; rw [x3]; unfold bold; simp
theorem bold0 (bx : Nat → Nat → Int) (n : Int) : bold bx n 0 = bx := by
  funext j t; unfold bold; rw [if_neg (by omega)]
theorem C_growOlder (hd : 1 ≤ d) (h : PF μ a s bx m) {n : Int} (h0 : 0 ≤ n) (h9 : n ≤ 1000) : Call Γ m_Pi_growOlder d [.ref a, .int (w n)] μ (KV (fun μ' => off a (a + 5) μ μ' ∧ PF μ' a s (bold bx n s) m)) := by
  obtain ⟨d, rfl⟩ : ∃ e, d = e + 1 := ⟨d - 1, by omega⟩
  exact Call.of ok_Pi_growOlder (Nat.le_of_ble_eq_true rfl) (B_Pi_growOlder_0 (growOlder_G h0 h9 s 0 μ (by omega) (by rw [bold0]; exact h) h.bb (fun μ' g1 g2 => ⟨rfl, g1, g2⟩)))
/-- labels fall off the first i boxes, in the month m, if they hold h months -/
def bfall (bx : Nat → Nat → Int) (m h : Int) (i : Nat) : Nat → Nat → Int := fun j t => if t = 3 ∧ j < i ∧ ¬ bx j 3 = -1 ∧ h ≤ m - bx j 3 then -1 else bx j t
theorem bfall_BB {bx : Nat → Nat → Int} {m h : Int} {i j : Nat} (hb : BB bx j) : BB (bfall bx m h i) j := by
  unfold BB bfall at *
  simp
  split <;> omega
theorem bfall0 (bx : Nat → Nat → Int) (m h : Int) : bfall bx m h 0 = bx := by
  funext j t; unfold bfall; rw [if_neg (by omega)]
theorem passMonth_G {hh : Int} (h0 : 0 ≤ hh) (h9 : hh ≤ 1000) : ∀ (k i : Nat) (μ : XM), i + k = s → PF μ a s (bfall bx m hh i) m → (∀ j, j < s → BB bx j) → (∀ μ', off a (a + 5) μ μ' → PF μ' a s (bfall bx m hh s) m → Q none μ') → G Γ m_Pi_passMonth (d + 2) (0, 0) Q 17 [.ref a, .int (w hh), .int (w i)] [] μ := by
  intro k
  induction k with
  | zero =>
    intro i μ hi h hbb hQ
    refine B_Pi_passMonth_17 h.1.ob ?_
    have hs := h.2.1
    rw [h.2.2.2.1, w_lt (by omega) (by omega) (by omega) (by omega)]
    refine ⟨fun q => absurd q (by omega), fun _ => ?_⟩
    have e : i = s := by omega
    subst e
    exact hQ μ (off.rf _ _ _) h
  | succ k ih =>
    intro i μ hi h hbb hQ
    refine B_Pi_passMonth_17 h.1.ob ?_
    have hs := h.2.1
    have hm := h.2.2.1
    have hib := hbb i (by omega)
    rw [h.2.2.2.1, w_lt (by omega) (by omega) (by omega) (by omega)]
    refine ⟨fun q => ?_, fun q => absurd (by omega) q⟩
    have ebi : ∀ t, bfall bx m hh i i t = bx i t := fun t => by unfold bfall; rw [if_neg (by omega)]
    have keep : ¬ (¬ bx i 3 = -1 ∧ hh ≤ m - bx i 3) → bfall bx m hh (i + 1) = bfall bx m hh i := fun q => by
      funext j t
      unfold bfall
      by_cases e : j = i
      · subst e
        rw [if_neg (fun z => q ⟨z.2.2.1, z.2.2.2⟩), if_neg (by omega)]
      · by_cases e2 : t = 3 ∧ j < i ∧ ¬ bx j 3 = -1 ∧ hh ≤ m - bx j 3
        · rw [if_pos e2, if_pos ⟨e2.1, by omega, e2.2.2⟩]
        · rw [if_neg e2, if_neg (fun z => e2 ⟨z.1, by omega, z.2.2⟩)]
    refine (C_hasLabel (by omega) h (by omega)).conseq (KI.mono ?_)
    have hBB := hib
    unfold BB at hBB
    rintro r μ1 ⟨rfl, ⟨hl, rfl⟩ | ⟨hl, rfl⟩⟩
    · rw [ebi] at hl
      refine ⟨fun q => absurd q (by decide), fun _ => ⟨a + 4, h.1.2.2.2.2.2, (h.1.is (q := 4) (by omega) (by omega) (by omega) (by omega)).2, ?_⟩⟩
      have e3 := (h.2.2.2.2.2 i (by omega)).1.2.2.2
      rw [w_cln (by omega), e3, ebi, h.2.2.2.2.1, w_sub, w_lt (by omega) (by omega) (by omega) (by omega), w_add]
      refine ⟨fun z => ?_, fun z => ⟨h.1.is (q := 4) (by omega) (by omega) (by omega) (by omega), ?_⟩⟩
      · refine ih (i + 1) _ (by omega) ?_ hbb hQ
        rw [keep (by omega)]
        exact h
      · rintro μ5 rfl
        refine ih (i + 1) _ (by omega) ?_ hbb (fun μ' g1 g2 => hQ μ' ((off.sI _ _ _ (by omega) (by omega)).trans g1) g2)
        obtain ⟨hB, hs, hm, e4, e5, hb⟩ := h
        refine ⟨hB.of rfl rfl, hs, hm, ?_, ?_, fun j hj => ?_⟩
        · simp (disch := omega) only [xI_sI, if_neg]; exact e4
        · simp (disch := omega) only [xI_sI, if_neg]; exact e5
        · obtain ⟨⟨x0, x1, x2, x3⟩, -⟩ := hb j hj
          refine ⟨⟨?_, ?_, ?_, ?_⟩, bfall_BB (hbb j hj)⟩
          · simp (disch := omega) only [xI_sI, if_neg]; rw [x0]; unfold bfall; simp
          · simp (disch := omega) only [xI_sI, if_neg]; rw [x1]; unfold bfall; simp
          · simp (disch := omega) only [xI_sI, if_neg]; rw [x2]; unfold bfall; simp
          · rw [xI_sI]
            by_cases e : j = i
            · subst e
              rw [if_pos ⟨rfl, rfl⟩]
              unfold bfall
              rw [if_pos ⟨rfl, by omega, hl, by omega⟩]
            · rw [if_neg (by omega), x3]
              unfold bfall
              by_cases e2 : j < i ∧ ¬ bx j 3 = -1 ∧ hh ≤ m - bx j 3
              · rw [if_pos ⟨rfl, e2⟩, if_pos ⟨rfl, by omega, e2.2⟩]
              · rw [if_neg (fun z => e2 z.2), if_neg (fun z => e2 ⟨by omega, z.2.2⟩)]
    · rw [ebi] at hl
      refine ⟨fun _ => ?_, fun q => absurd rfl q⟩
      rw [w_add]
      refine ih (i + 1) _ (by omega) ?_ hbb hQ
      rw [keep (by omega)]
      exact h
/-- a month goes by -/
def bmon (bx : Nat → Nat → Int) (s : Nat) (m h : Int) : Nat → Nat → Int := bfall (bold bx 1 s) (m + 1) h s
theorem C_passMonth (hd : 2 ≤ d) (h : PF μ a s bx m) (hm : m < 2000) {hh : Int} (h0 : 0 ≤ hh) (h9 : hh ≤ 1000) : Call Γ m_Pi_passMonth d [.ref a, .int (w hh)] μ (KV (fun μ' => off a (a + 5) μ μ' ∧ PF μ' a s (bmon bx s m hh) (m + 1))) := by
  obtain ⟨d, rfl⟩ : ∃ e, d = e + 2 := ⟨d - 2, by omega⟩
  refine Call.of ok_Pi_passMonth (Nat.le_of_ble_eq_true rfl) (B_Pi_passMonth_0 h.1.ob ?_)
  refine (C_growOlder (n := 1) (by omega) h (by decide) (by decide)).conseq (KV.mono ?_)
  rintro μ1 ⟨ho, h1⟩
  rintro μ2 rfl
  rw [h1.2.2.2.2.1, w_add]
  refine passMonth_G (bx := bold bx 1 s) (m := m + 1) h0 h9 s 0 _ (by omega) ?_ h1.bb (fun μ' g1 g2 => ⟨rfl, (ho.trans (off.sI _ _ _ (by omega) (by omega))).trans g1, g2⟩)
  rw [bfall0]
  obtain ⟨hB, hs, -, e4, e5, hb⟩ := h1
  refine ⟨hB.of rfl rfl, hs, by omega, ?_, ?_, fun j hj => ?_⟩
  · simp (disch := omega) only [xI_sI, if_neg]; exact e4
  · rw [xI_sI, if_pos ⟨rfl, rfl⟩]; rfl
  · simp (disch := omega) only [xI_sI, if_neg]; exact hb j hj
/-- the box i goes -/
def bcut (bx : Nat → Nat → Int) (i : Nat) : Nat → Nat → Int := fun j t => if i ≤ j then bx (j + 1) t else bx j t
/-- .. as far as the loop at e has come -/
def bcutT (bx : Nat → Nat → Int) (i e : Nat) : Nat → Nat → Int := fun j t => if i ≤ j ∧ j < e then bx (j + 1) t else bx j t
theorem bcutT_BB {bx : Nat → Nat → Int} {i e s j : Nat} (hb : ∀ j, j < s → BB bx j) (hj : j < s) (he : e < s) : BB (bcutT bx i e) j := by
  have h1 := hb j hj
  unfold BB bcutT at *
  split
  · have := hb (j + 1) (by omega); exact this
  · exact h1
theorem remove_G {i : Nat} (hi : i < s) : ∀ (k e : Nat) (μ : XM), i ≤ e → e + k + 1 = s → PF μ a s (bcutT bx i e) m → (∀ j, j < s → BB bx j) → (∀ μ', off a (a + 5) μ μ' → PF μ' a (s - 1) (bcut bx i) m → Q none μ') → G Γ m_Pi_remove (d + 1) (0, 0) Q 2 [.ref a, jk, .int (w e)] [] μ := by
  intro k
  induction k with
  | zero =>
    intro e μ hie he h hbb hQ
    refine B_Pi_remove_2 h.1.ob h.1.2.2.1 h.1.2.2.2.1 h.1.2.2.2.2.1 h.1.2.2.2.2.2 ?_
    have hs := h.2.1
    rw [h.2.2.2.1, w_sub, w_lt (by omega) (by omega) (by omega) (by omega)]
    refine ⟨fun q => absurd q (by omega), fun _ => ?_⟩
    rintro μ1 rfl
    refine hQ _ (off.sI _ _ _ (by omega) (by omega)) ?_
    obtain ⟨hB, hs, hm, e4, e5, hb⟩ := h
    refine ⟨hB.of rfl rfl, by omega, hm, ?_, ?_, fun j hj => ?_⟩
    · rw [xI_sI, if_pos ⟨rfl, rfl⟩]; congr 1; omega
    · simp (disch := omega) only [xI_sI, if_neg]; exact e5
    · obtain ⟨x, y⟩ := hb j (by omega)
      have eq : bcut bx i j = bcutT bx i e j := by
        funext t
        unfold bcut bcutT
        by_cases g : i ≤ j
        · rw [if_pos g, if_pos ⟨g, by omega⟩]
        · rw [if_neg g, if_neg (by omega)]
      simp (disch := omega) only [xI_sI, if_neg]
      unfold BB at *
      rw [eq]
      exact ⟨x, y⟩
  | succ k ih =>
    intro e μ hie he h hbb hQ
    refine B_Pi_remove_2 h.1.ob h.1.2.2.1 h.1.2.2.2.1 h.1.2.2.2.2.1 h.1.2.2.2.2.2 ?_
    have hs := h.2.1
    have iB : ∀ (μ' : XM) (q : Nat) (z : Int), PB μ' a → 1 ≤ q → q ≤ 4 → 0 ≤ z → z < 8 → zib μ' 0 (a + q) (w z) := fun μ' q z hp g1 g2 g3 g4 => (hp.is g1 g2 g3 g4).2
    have iS : ∀ (μ' : XM) (q : Nat) (z : Int), PB μ' a → 1 ≤ q → q ≤ 4 → 0 ≤ z → z < 8 → inS μ' 0 (a + q) (w z) := fun μ' q z hp g1 g2 g3 g4 => hp.is g1 g2 g3 g4
    rw [h.2.2.2.1, w_sub, w_lt (by omega) (by omega) (by omega) (by omega)]
    refine ⟨fun _ => ?_, fun q => absurd (by omega) q⟩
    have ee : ((e : Int) + 1) = ((e + 1 : Nat) : Int) := by omega
    rw [w_add, ee, w_cln (by omega), w_cln (by omega)]
    have hB := h.1
    obtain ⟨⟨x0, x1, x2, x3⟩, -⟩ := h.2.2.2.2.2 (e + 1) (by omega)
    refine ⟨iB _ 1 _ hB (by omega) (by omega) (by omega) (by omega), iS _ 1 _ hB (by omega) (by omega) (by omega) (by omega), ?_⟩
    rintro μ4 rfl
    refine ⟨iB _ 2 _ (hB.of rfl rfl) (by omega) (by omega) (by omega) (by omega), iS _ 2 _ (hB.of rfl rfl) (by omega) (by omega) (by omega) (by omega), ?_⟩
    rintro μ7 rfl
    refine ⟨iB _ 3 _ (hB.of rfl rfl) (by omega) (by omega) (by omega) (by omega), iS _ 3 _ (hB.of rfl rfl) (by omega) (by omega) (by omega) (by omega), ?_⟩
    rintro μ10 rfl
    refine ⟨iB _ 4 _ (hB.of rfl rfl) (by omega) (by omega) (by omega) (by omega), iS _ 4 _ (hB.of rfl rfl) (by omega) (by omega) (by omega) (by omega), ?_⟩
    rintro μ13 rfl
    simp (disch := omega) only [xI_sI, if_neg, x0, x1, x2, x3]
    refine ih (e + 1) _ (by omega) (by omega) ?_ hbb (fun μ' g1 g2 => hQ μ' (((((off.sI _ _ _ (by omega) (by omega)).trans (off.sI _ _ _ (by omega) (by omega))).trans (off.sI _ _ _ (by omega) (by omega))).trans (off.sI _ _ _ (by omega) (by omega))).trans g1) g2)
    obtain ⟨-, -, hm, e4, e5, hb⟩ := h
    have eb : ∀ t, bcutT bx i e (e + 1) t = bx (e + 1) t := fun t => by unfold bcutT; rw [if_neg (by omega)]
    refine ⟨hB.of rfl rfl, hs, hm, ?_, ?_, fun j hj => ?_⟩
    · simp (disch := omega) only [xI_sI, if_neg]; exact e4
    · simp (disch := omega) only [xI_sI, if_neg]; exact e5
    · refine ⟨?_, bcutT_BB hbb hj (by omega)⟩
      obtain ⟨⟨y0, y1, y2, y3⟩, -⟩ := hb j hj
      by_cases g : j = e
      · subst g
        have ec : ∀ t, bcutT bx i (j + 1) j t = bx (j + 1) t := fun t => by unfold bcutT; rw [if_pos ⟨hie, by omega⟩]
        simp (disch := omega) [xI_sI, ec, eb]
      · have ec : ∀ t, bcutT bx i (e + 1) j t = bcutT bx i e j t := fun t => by
          unfold bcutT
          by_cases g2 : i ≤ j ∧ j < e
          · rw [if_pos g2, if_pos ⟨g2.1, by omega⟩]
          · rw [if_neg g2, if_neg (by omega)]
        simp (disch := omega) only [xI_sI, if_neg, ec]
        exact ⟨y0, y1, y2, y3⟩
theorem C_remove (hd : 1 ≤ d) (h : PF μ a s bx m) {i : Nat} (hi : i < s) : Call Γ m_Pi_remove d [.ref a, .int (w i)] μ (KV (fun μ' => off a (a + 5) μ μ' ∧ PF μ' a (s - 1) (bcut bx i) m)) := by
  obtain ⟨d, rfl⟩ : ∃ e, d = e + 1 := ⟨d - 1, by omega⟩
  have e : bcutT bx i i = bx := by funext j t; unfold bcutT; rw [if_neg (by omega)]
  refine Call.of ok_Pi_remove (Nat.le_of_ble_eq_true rfl) (B_Pi_remove_0 (remove_G hi (s - 1 - i) i μ (Nat.le_refl _) (by omega) (by rw [e]; exact h) h.bb (fun μ' g1 g2 => ⟨rfl, g1, g2⟩)))
theorem C_clear (hd : 1 ≤ d) (h : PB μ a) : Call Γ m_Pi_clear d [.ref a] μ (KV (fun μ' => off a (a + 5) μ μ' ∧ PF μ' a 0 bx 0)) := by
  obtain ⟨d, rfl⟩ : ∃ e, d = e + 1 := ⟨d - 1, by omega⟩
  refine Call.of ok_Pi_clear (Nat.le_of_ble_eq_true rfl) (B_Pi_clear_0 h.ob ?_)
  rintro μ1 rfl μ2 rfl
  refine ⟨rfl, (off.sI _ _ _ (by omega) (by omega)).trans (off.sI _ _ _ (by omega) (by omega)), h.of rfl rfl, by omega, by omega, ?_, ?_, fun j hj => absurd hj (by omega)⟩
  · simp (disch := omega) [xI_sI]
  · simp (disch := omega) [xI_sI]
theorem C_copyFrom {b : Nat} (hd : 2 ≤ d) (h : PF μ b s bx m) (ha : PB μ a) (hab : a + 4 < b ∨ b + 4 < a) : Call Γ m_Pi_copyFrom d [.ref a, .ref b] μ (KV (fun μ' => off a (a + 5) μ μ' ∧ PF μ' a s bx m)) := by
  obtain ⟨d, rfl⟩ : ∃ e, d = e + 2 := ⟨d - 2, by omega⟩
  refine Call.of ok_Pi_copyFrom (Nat.le_of_ble_eq_true rfl) (B_Pi_copyFrom_0 h.1.ob h.1.2.2.1 ha.ob ha.2.2.1 h.1.2.2.2.1 ha.2.2.2.1 h.1.2.2.2.2.1 ha.2.2.2.2.1 h.1.2.2.2.2.2 ha.2.2.2.2.2 ?_)
  obtain ⟨hB, hs, hm, e4, e5, hb⟩ := h
  have ha0 := ha
  obtain ⟨⟨p1, p2, p3, p4, p5, p6, p7⟩, hN, -⟩ := ha
  obtain ⟨⟨q1, q2, q3, q4, q5, q6, q7⟩, -, -⟩ := hB
  have hsh : ∀ q, 1 ≤ q → q ≤ 4 → shp (a + q) = some (.inr (0, 8)) ∧ shp (b + q) = some (.inr (0, 8)) := fun q g1 g4 => by
    rcases (show q = 1 ∨ q = 2 ∨ q = 3 ∨ q = 4 by omega) with rfl | rfl | rfl | rfl
    · exact ⟨p4, q4⟩
    · exact ⟨p5, q5⟩
    · exact ⟨p6, q6⟩
    · exact ⟨p7, q7⟩
  have cp : ∀ (μ' : XM) (q : Nat), xN μ' = xN μ → 1 ≤ q → q ≤ 4 → cpo μ' (b + q) (a + q) 8 := fun μ' q hN' g1 g4 => cpo_of (hsh q g1 g4).2 (hsh q g1 g4).1 (by omega) (by omega) (by omega) (by omega) (Nat.le_refl _) (Nat.le_refl _)
  refine ⟨cp _ 1 rfl (by omega) (by omega), ?_⟩
  rintro μ2 rfl
  refine ⟨cp _ 2 rfl (by omega) (by omega), ?_⟩
  rintro μ4 rfl
  refine ⟨cp _ 3 rfl (by omega) (by omega), ?_⟩
  rintro μ6 rfl
  refine ⟨cp _ 4 rfl (by omega) (by omega), ?_⟩
  rintro μ8 rfl μ9 rfl μ10 rfl
  refine ⟨rfl, ((((((off.sC _ _ _ (by omega) (by omega)).trans (off.sC _ _ _ (by omega) (by omega))).trans (off.sC _ _ _ (by omega) (by omega))).trans (off.sC _ _ _ (by omega) (by omega))).trans (off.sI _ _ _ (by omega) (by omega))).trans (off.sI _ _ _ (by omega) (by omega))), ?_, hs, hm, ?_, ?_, fun j hj => ?_⟩
  · exact ha0.of rfl rfl
  · simp (disch := omega) only [xI_sI, xI_sC, if_neg, if_pos]
    exact e4
  · simp (disch := omega) only [xI_sI, xI_sC, if_neg, if_pos]
    exact e5
  · have hj8 : j < 8 := by omega
    simp (disch := omega) only [xI_sI, xI_sC, if_neg, true_and, if_pos hj8]
    exact hb j hj
end PC
