/-! QUESTIONS OF THE CLASS, third lot -/
section HE
variable {Γ : XG} {d h n a s m : Nat} {ru : Nat → Int} {ki bx : Nat → Nat → Int} {ls : Int → Int → Int → Int → Int → Int → Int} {μ : XM} {Q : Option Value → XM → Prop}
def lka (ki bx : Nat → Nat → Int) (i j : Nat) : Bool := decide (bx i 3 = -1 ∧ bx j 3 = -1 ∧ wt ki bx i = wt ki bx j ∧ ki (bx i 0).toNat 0 = ki (bx j 0).toNat 0)
theorem C_looksAlike (hd : 2 ≤ d) (hF : FQ μ h n ru ki s bx m ls) {i j : Nat} (hi : i < s) (hj : j < s) : Call Γ m_FB_looksAlike d [.ref 32, .int (w i), .int (w j)] μ (KI (fun r μ' => μ' = μ ∧ ((lka ki bx i j = true ∧ r = w 1) ∨ (lka ki bx i j = false ∧ r = w 0)))) := by
  obtain ⟨d, rfl⟩ : ∃ e, d = e + 1 := ⟨d - 1, by omega⟩
  have hP := hF.2.2.2.1
  have hs := hP.2.1
  have hn := hF.2.1.2.2.1
  refine Call.of ok_FB_looksAlike (Nat.le_of_ble_eq_true rfl) (B_FB_looksAlike_0 hF.1.ob (hF.1.r 32 9 67 rfl) hP.1.ob ?_)
  obtain ⟨⟨x0, x1, x2, x3⟩, hb⟩ := hP.2.2.2.2.2 i hi
  obtain ⟨⟨y0, y1, y2, y3⟩, hc⟩ := hP.2.2.2.2.2 j hj
  unfold BB at hb hc
  obtain ⟨k1, k2, k3, k4, k5⟩ := hF.2.1.kr (k := bx i 0) (by omega) (hF.2.2.2.2 i hi)
  obtain ⟨j1, j2, j3, j4, j5⟩ := hF.2.1.kr (k := bx j 0) (by omega) (hF.2.2.2.2 j hj)
  unfold KK at k5 j5
  have hw := wt_bd hF.2.1 hP hF.2.2.2.2 hi
  have hv := wt_bd hF.2.1 hP hF.2.2.2.2 hj
  unfold lka
  refine (C_hasLabel (by omega) hP hi).conseq (KI.mono ?_)
  rintro r μ1 ⟨rfl, ⟨hl, rfl⟩ | ⟨hl, rfl⟩⟩
  · exact ⟨fun q => absurd q (by decide), fun _ => ⟨_, rfl, rfl, Or.inr ⟨by simp [hl], rfl⟩⟩⟩
  · refine ⟨fun _ => ⟨hF.1.r 32 9 67 rfl, ?_⟩, fun q => absurd rfl q⟩
    refine (C_hasLabel (by omega) hP hj).conseq (KI.mono ?_)
    rintro r μ1 ⟨rfl, ⟨hl2, rfl⟩ | ⟨hl2, rfl⟩⟩
    · exact ⟨fun q => absurd q (by decide), fun _ => ⟨_, rfl, rfl, Or.inr ⟨by simp [hl2], rfl⟩⟩⟩
    · refine ⟨fun _ => ?_, fun q => absurd rfl q⟩
      refine (C_weightOfF (by omega) hF.1 hF.2.1 hP hF.2.2.2.2 hi).conseq (KI.mono ?_)
      rintro r μ1 ⟨rfl, rfl⟩
      refine (C_weightOfF (by omega) hF.1 hF.2.1 hP hF.2.2.2.2 hj).conseq (KI.mono ?_)
      rintro r μ1 ⟨rfl, rfl⟩
      rw [w_inj (by omega) (by omega) (by omega) (by omega)]
      refine ⟨fun q => ⟨h, hF.2.1.2.1, hF.2.1.1.ob, h + 2, hF.2.1.1.2.2.2.1, hF.1.r 32 9 67 rfl, 68, hP.1.2.2.1, hP.ib (q := 1) (by omega) (by omega) hi, ?_⟩, fun q => ⟨_, rfl, rfl, Or.inr ⟨by simp [q], rfl⟩⟩⟩
      rw [w_cln (by omega), w_cln (by omega), x0, y0]
      refine ⟨k1, _, k2, k3 0 (by omega) (by omega), hP.ib (q := 1) (by omega) (by omega) hj, j1, _, j2, j3 0 (by omega) (by omega), ?_⟩
      rw [show (w 0).toNatClampNeg = 0 by decide, j4 0 (by omega), k4 0 (by omega), w_inj (by omega) (by omega) (by omega) (by omega)]
      exact ⟨fun q2 => ⟨_, rfl, rfl, Or.inl ⟨by simp [hl, hl2, q, q2], rfl⟩⟩, fun q2 => ⟨_, rfl, rfl, Or.inr ⟨by simp [q2], rfl⟩⟩⟩
/-- pairs: the inner loop; c so far; an answer is 10 a + b, or how many there are -/
def dbi (P : Nat → Nat → Bool) (z : Int) (a : Nat) : Nat → Nat → Nat → Int ⊕ Nat
  | 0, _, c => .inr c
  | f + 1, b, c => if P a b = true then (if (c : Int) = z then .inl (10 * a + b) else dbi P z a f (b + 1) (c + 1)) else dbi P z a f (b + 1) c
def dbo (P : Nat → Nat → Bool) (z : Int) (s : Nat) : Nat → Nat → Nat → Int
  | 0, _, c => if z = -1 then c else -1
  | f + 1, a, c => match dbi P z a (s - (a + 1)) (a + 1) c with
    | .inl r => r
    | .inr c' => dbo P z s f (a + 1) c'
theorem dbi_le (P : Nat → Nat → Bool) (z : Int) (a : Nat) : ∀ f b c c', dbi P z a f b c = .inr c' → c' ≤ c + f
  | 0, b, c, c', h => by unfold dbi at h; injection h with h; omega
  | f + 1, b, c, c', h => by
    unfold dbi at h
    split at h
    · split at h
      · exact absurd h (by simp)
      · have := dbi_le P z a f (b + 1) (c + 1) c' h; omega
    · have := dbi_le P z a f (b + 1) c c' h; omega
theorem doubles_i {z : Int} (z1 : -2147483648 ≤ z) (z2 : z < 2147483648) {a : Nat} (ha : a < s) (hF : FQ μ h n ru ki s bx m ls) : ∀ (f b c : Nat), b + f = s → a < b → c + f ≤ 1000 →
    (∀ r, dbi (fun a b => lka ki bx (s - 1 - a) (s - 1 - b)) z a f b c = .inl r → Q (some (.int (w r))) μ) →
    (∀ c', dbi (fun a b => lka ki bx (s - 1 - a) (s - 1 - b)) z a f b c = .inr c' → G Γ m_FB_doubles (d + 3) (0, 0) Q 18 [.ref 32, .int (w z), .int (w c'), .int (w ((a + 1 : Nat) : Int))] [] μ) → G Γ m_FB_doubles (d + 3) (0, 0) Q 34 [.ref 32, .int (w z), .int (w c), .int (w a), .int (w b)] [] μ := by
  have hP := hF.2.2.2.1
  have hs := hP.2.1
  intro f
  induction f with
  | zero =>
    intro b c hb hab hc h1 h2
    refine B_FB_doubles_34 hF.1.ob (hF.1.r 32 9 67 rfl) hP.1.ob ?_
    rw [hP.2.2.2.1, w_lt (by omega) (by omega) (by omega) (by omega)]
    refine ⟨fun q => absurd q (by omega), fun _ => ?_⟩
    rw [w_add]
    exact h2 c rfl
  | succ f ih =>
    intro b c hb hab hc h1 h2
    refine B_FB_doubles_34 hF.1.ob (hF.1.r 32 9 67 rfl) hP.1.ob ?_
    rw [hP.2.2.2.1, w_lt (by omega) (by omega) (by omega) (by omega)]
    refine ⟨fun _ => ?_, fun q => absurd (by omega) q⟩
    refine (C_indexOf (by omega) hP).conseq (KI.mono ?_)
    rintro r μ1 ⟨rfl, rfl⟩
    refine ⟨hF.1.r 32 9 67 rfl, ?_⟩
    refine (C_indexOf (by omega) hP).conseq (KI.mono ?_)
    rintro r μ1 ⟨rfl, rfl⟩
    rw [show (s : Int) - 1 - a = ((s - 1 - a : Nat) : Int) by omega, show (s : Int) - 1 - b = ((s - 1 - b : Nat) : Int) by omega]
    refine (C_looksAlike (by omega) hF (by omega) (by omega)).conseq (KI.mono ?_)
    unfold dbi at h1 h2
    rintro r μ1 ⟨rfl, ⟨hl, rfl⟩ | ⟨hl, rfl⟩⟩
    · refine ⟨fun q => absurd q (by decide), fun _ => ?_⟩
      rw [if_pos hl] at h1 h2
      rw [w_inj (by omega) (by omega) (by omega) (by omega), w_mul, w_add, w_add, w_add]
      refine ⟨fun q => ?_, fun q => ?_⟩
      · rw [if_pos q] at h1
        exact h1 _ rfl
      · rw [if_neg q] at h1 h2
        exact ih (b + 1) (c + 1) (by omega) (by omega) (by omega) h1 h2
    · refine ⟨fun _ => ?_, fun q => absurd rfl q⟩
      rw [if_neg (by simp [hl])] at h1 h2
      rw [w_add]
      exact ih (b + 1) c (by omega) (by omega) (by omega) h1 h2
theorem doubles_o {z : Int} (z1 : -2147483648 ≤ z) (z2 : z < 2147483648) (hF : FQ μ h n ru ki s bx m ls) : ∀ (f a c : Nat), a + f = s → c ≤ 8 * a → Q (some (.int (w (dbo (fun a b => lka ki bx (s - 1 - a) (s - 1 - b)) z s f a c)))) μ → G Γ m_FB_doubles (d + 3) (0, 0) Q 18 [.ref 32, .int (w z), .int (w c), .int (w a)] [] μ := by
  have hP := hF.2.2.2.1
  have hs := hP.2.1
  intro f
  induction f with
  | zero =>
    intro a c ha hc hQ
    refine B_FB_doubles_18 hF.1.ob (hF.1.r 32 9 67 rfl) hP.1.ob ?_
    rw [hP.2.2.2.1, w_lt (by omega) (by omega) (by omega) (by omega), w_inj (by omega) (by omega) (by omega) (by omega)]
    unfold dbo at hQ
    refine ⟨fun q => absurd q (by omega), fun _ => ⟨fun q => ?_, fun q => ?_⟩⟩
    · rw [if_pos q] at hQ; exact hQ
    · rw [if_neg q] at hQ; exact hQ
  | succ f ih =>
    intro a c ha hc hQ
    refine B_FB_doubles_18 hF.1.ob (hF.1.r 32 9 67 rfl) hP.1.ob ?_
    rw [hP.2.2.2.1, w_lt (by omega) (by omega) (by omega) (by omega)]
    refine ⟨fun _ => ?_, fun q => absurd (by omega) q⟩
    rw [w_add]
    unfold dbo at hQ
    refine doubles_i z1 z2 (by omega) hF (s - (a + 1)) (a + 1) c (by omega) (by omega) (by omega) (fun r hr => ?_) (fun c' hr => ?_)
    · rw [hr] at hQ
      exact hQ
    · rw [hr] at hQ
      have := dbi_le _ z a _ _ _ _ hr
      exact ih (a + 1) c' (by omega) (by omega) hQ
theorem C_doublesF (hd : 4 ≤ d) (hF : FQ μ h n ru ki s bx m ls) {z : Int} (z1 : -2147483648 ≤ z) (z2 : z < 2147483648) : Call Γ m_FB_doubles d [.ref 32, .int (w z)] μ (KI (fun r μ' => μ' = μ ∧ r = if 0 < n ∧ -1 ≤ z then w (dbo (fun a b => lka ki bx (s - 1 - a) (s - 1 - b)) z s s 0 0) else w (-1))) := by
  obtain ⟨d, rfl⟩ : ∃ e, d = e + 4 := ⟨d - 4, by omega⟩
  refine Call.of ok_FB_doubles (Nat.le_of_ble_eq_true rfl) (B_FB_doubles_0 hF.1.ob ?_)
  refine (C_hasHouse (by omega) hF.1 hF.2.1).conseq (KI.mono ?_)
  rintro r μ1 ⟨rfl, ⟨hn, rfl⟩ | ⟨hn, rfl⟩⟩
  · refine ⟨fun q => absurd q (by decide), fun _ => ?_⟩
    rw [w_lt (by omega) (by omega) (by omega) (by omega)]
    refine ⟨fun q => ⟨_, rfl, rfl, by rw [if_neg (by omega)]⟩, fun q => ?_⟩
    exact doubles_o (d := d + 1) z1 z2 hF s 0 0 (by omega) (by omega) ⟨_, rfl, rfl, by rw [if_pos (by omega)]⟩
  · exact ⟨fun _ => ⟨_, rfl, rfl, by rw [if_neg (by omega)]⟩, fun q => absurd rfl q⟩
/-- kinds that go with k, as the class reckons them: the rest of the bits -/
def kwb (ki : Nat → Nat → Int) (k : Nat) (b0 : Int32) : Nat → Int32
  | 0 => b0
  | j + 1 => if ki j 4 = k ∨ ki k 4 = j then kwb ki k b0 j ||| (w 1 <<< (w j &&& 31)) else kwb ki k b0 j
def kwi (ki : Nat → Nat → Int) (n k : Nat) : Int32 := kwb ki k (w 1 <<< (w k &&& 31)) n
theorem kindsWith_G (hH : HO μ h n ru ki) {k : Nat} (kn : k < n) : ∀ (f j : Nat), j + f = n → Q (some (.int (kwi ki n k))) μ → G Γ m_Ho_kindsWith (d + 1) (0, 0) Q 6 [.ref h, .int (w k), .int (kwb ki k (w 1 <<< (w k &&& 31)) j), .int (w j)] [] μ := by
  have hn := hH.2.2.1
  intro f
  induction f with
  | zero =>
    intro j hj hQ
    refine B_Ho_kindsWith_6 hH.1.ob hH.1.2.2.2.1 ?_
    rw [hH.2.2.2.1, w_lt (by omega) (by omega) (by omega) (by omega)]
    refine ⟨fun q => absurd q (by omega), fun _ => ?_⟩
    unfold kwi at hQ
    rw [show j = n by omega]
    exact hQ
  | succ f ih =>
    intro j hj hQ
    have nx := ih (j + 1) (by omega) hQ
    rw [kwb] at nx
    obtain ⟨k1, k2, k3, k4, k5⟩ := hH.kr (k := k) (by omega) (by omega)
    obtain ⟨j1, j2, j3, j4, j5⟩ := hH.kr (k := j) (by omega) (by omega)
    unfold KK at k5 j5
    simp only [Int.toNat_natCast] at k2 k3 k4 k5 j2 j3 j4 j5
    refine B_Ho_kindsWith_6 hH.1.ob hH.1.2.2.2.1 ?_
    rw [hH.2.2.2.1, w_lt (by omega) (by omega) (by omega) (by omega)]
    refine ⟨fun _ => ⟨j1, _, j2, j3 4 (by omega) (by omega), ?_⟩, fun q => absurd (by omega) q⟩
    rw [show (w 4).toNatClampNeg = 4 by decide, j4 4 (by omega), w_inj (by omega) (by omega) (by omega) (by omega)]
    refine ⟨fun q => ?_, fun q => ⟨k1, _, k2, k3 4 (by omega) (by omega), ?_⟩⟩
    · rw [if_pos (Or.inl q)] at nx
      rw [w_add]
      exact nx
    · rw [k4 4 (by omega), w_inj (by omega) (by omega) (by omega) (by omega), w_add]
      refine ⟨fun q2 => ?_, fun q2 => ?_⟩
      · rw [if_pos (Or.inr q2)] at nx
        exact nx
      · rw [if_neg (fun z => z.elim q q2)] at nx
        exact nx
theorem C_kindsWith (hd : 1 ≤ d) (hH : HO μ h n ru ki) {k : Nat} (kn : k < n) : Call Γ m_Ho_kindsWith d [.ref h, .int (w k)] μ (KI (fun r μ' => μ' = μ ∧ r = kwi ki n k)) := by
  obtain ⟨d, rfl⟩ : ∃ e, d = e + 1 := ⟨d - 1, by omega⟩
  exact Call.of ok_Ho_kindsWith (Nat.le_of_ble_eq_true rfl) (B_Ho_kindsWith_0 (kindsWith_G hH kn n 0 (by omega) ⟨_, rfl, rfl, rfl⟩))
theorem C_goesF (hd : 3 ≤ d) (hR : RF μ) (hH : HO μ h n ru ki) {k : Int} (k1 : -2147483648 ≤ k) (k2 : k < 2147483648) : Call Γ m_FB_goes d [.ref 32, .int (w k)] μ (KI (fun r μ' => μ' = μ ∧ r = if 0 ≤ k ∧ k < n then kwi ki n k.toNat else w (-1))) := by
  obtain ⟨d, rfl⟩ : ∃ e, d = e + 1 := ⟨d - 1, by omega⟩
  refine Call.of ok_FB_goes (Nat.le_of_ble_eq_true rfl) (B_FB_goes_0 hR.ob ?_)
  refine (C_isKindF (by omega) hR hH k1 k2).conseq (KI.mono ?_)
  rintro r μ1 ⟨rfl, ⟨g1, g2, rfl⟩ | ⟨g1, rfl⟩⟩
  · refine ⟨fun q => absurd q (by decide), fun _ => ⟨h, hH.2.1, hH.1.ob, ?_⟩⟩
    obtain ⟨k, rfl⟩ : ∃ j : Nat, k = j := ⟨k.toNat, by omega⟩
    refine (C_kindsWith (by omega) hH (by omega)).conseq (KI.mono ?_)
    rintro r μ2 ⟨rfl, rfl⟩
    exact ⟨_, rfl, rfl, by rw [if_pos (by omega)]; rfl⟩
  · exact ⟨fun _ => ⟨_, rfl, rfl, by rw [if_neg (by omega)]⟩, fun q => absurd rfl q⟩
/-- the place of the greatest: f more, p the next, best so far, its place -/
def mst (V : Nat → Int) : Nat → Nat → Int → Int → Int
  | 0, _, _, q => q
  | f + 1, p, b, q => if b < V p then mst V f (p + 1) (V p) p else mst V f (p + 1) b q
/-- the value of the box at a place -/
def vpl (ls : Int → Int → Int → Int → Int → Int → Int) (ki bx : Nat → Nat → Int) (m s : Nat) (p : Nat) : Int := vw ls ki bx m (s - 1 - p) 0 0 ((s - 1 - p : Nat) : Int)
def msv (ls : Int → Int → Int → Int → Int → Int → Int) (ki bx : Nat → Nat → Int) (m s : Nat) (z : Int) (p : Nat) : Int := if z = 0 then bx (s - 1 - p) 2 else vpl ls ki bx m s p
theorem most_G {z : Int} (z0 : 0 ≤ z) (z1 : z ≤ 1) : ∀ (f p : Nat) (b q : Int) (μ : XM), p + f = s → -1 ≤ b → b ≤ 1000 → FQ μ h n ru ki s bx m ls → (∀ μ', fof scr μ μ' → Q (some (.int (w (mst (msv ls ki bx m s z) f p b q)))) μ') → G Γ m_FB_most (d + 5) (0, 0) Q 25 [.ref 32, .int (w z), .int (w b), .int (w q), .int (w p)] [] μ := by
  intro f
  induction f with
  | zero =>
    intro p b q μ hp b1 b2 hF hQ
    have hs := hF.2.2.2.1.2.1
    refine B_FB_most_25 hF.1.ob (hF.1.r 32 9 67 rfl) hF.2.2.2.1.1.ob ?_
    rw [hF.2.2.2.1.2.2.2.1, w_lt (by omega) (by omega) (by omega) (by omega)]
    exact ⟨fun q => absurd q (by omega), fun _ => hQ μ (fof.rf _ _)⟩
  | succ f ih =>
    intro p b q μ hp b1 b2 hF hQ
    have hP := hF.2.2.2.1
    have hs := hP.2.1
    refine B_FB_most_25 hF.1.ob (hF.1.r 32 9 67 rfl) hP.1.ob ?_
    rw [hP.2.2.2.1, w_lt (by omega) (by omega) (by omega) (by omega)]
    refine ⟨fun _ => ?_, fun q => absurd (by omega) q⟩
    refine (C_indexOf (by omega) hP).conseq (KI.mono ?_)
    rintro r μ1 ⟨rfl, rfl⟩
    rw [show (s : Int) - 1 - p = ((s - 1 - p : Nat) : Int) by omega, w_inj (by omega) (by omega) (by omega) (by omega)]
    obtain ⟨⟨x0, x1, x2, x3⟩, hb⟩ := hP.2.2.2.2.2 (s - 1 - p) (by omega)
    unfold BB at hb
    unfold mst at hQ
    refine ⟨fun hz => ⟨hF.1.r 32 9 67 rfl, 70, hP.1.2.2.2.2.1, hP.ib (q := 3) (by omega) (by omega) (by omega), ?_⟩, fun hz => ⟨hF.1.r 32 9 67 rfl, ?_⟩⟩
    · rw [w_cln (by omega), x2, w_lt (by omega) (by omega) (by omega) (by omega), w_add]
      have e : msv ls ki bx m s z p = bx (s - 1 - p) 2 := by unfold msv; rw [if_pos hz]
      rw [e] at hQ
      refine ⟨fun q2 => ?_, fun q2 => ?_⟩
      · rw [if_pos q2] at hQ
        exact ih (p + 1) _ _ μ1 (by omega) (by omega) (by omega) hF hQ
      · rw [if_neg q2] at hQ
        exact ih (p + 1) _ _ μ1 (by omega) (by omega) (by omega) hF hQ
    · refine (C_valueOf (d := d + 4) (by omega) hF.1 hF.2.1 hF.2.2.1 hP hF.2.2.2.2 (by omega) (by omega)).conseq (KI.mono ?_)
      rintro r μ2 ⟨ho, rfl⟩
      have e : msv ls ki bx m s z p = vw ls ki bx m (s - 1 - p) 0 0 ((s - 1 - p : Nat) : Int) := by unfold msv; rw [if_neg hz]; rfl
      have hv := vw_bd (ls := ls) hF.2.1 hP hF.2.2.2.2 (i := s - 1 - p) (by omega) 0 0 ((s - 1 - p : Nat) : Int)
      rw [e] at hQ
      rw [w_lt (by omega) (by omega) (by omega) (by omega), w_add]
      refine ⟨fun q2 => ?_, fun q2 => ?_⟩
      · rw [if_pos q2] at hQ
        exact ih (p + 1) _ _ μ2 (by omega) (by omega) (by omega) (hF.sc ho) (fun μ3 g => hQ μ3 (ho.trans g))
      · rw [if_neg q2] at hQ
        exact ih (p + 1) _ _ μ2 (by omega) (by omega) (by omega) (hF.sc ho) (fun μ3 g => hQ μ3 (ho.trans g))
theorem C_mostF (hd : 6 ≤ d) (hF : FQ μ h n ru ki s bx m ls) {z : Int} (z1 : -2147483648 ≤ z) (z2 : z < 2147483648) : Call Γ m_FB_most d [.ref 32, .int (w z)] μ (KI (fun r μ' => fof qcr μ μ' ∧ r = if 0 < n ∧ 0 ≤ z ∧ z ≤ 1 then w (mst (msv ls ki bx m s z) s 0 (-1) (-1)) else w (-1))) := by
  obtain ⟨d, rfl⟩ : ∃ e, d = e + 6 := ⟨d - 6, by omega⟩
  refine Call.of ok_FB_most (Nat.le_of_ble_eq_true rfl) (B_FB_most_0 hF.1.ob ?_)
  refine (C_hasHouse (by omega) hF.1 hF.2.1).conseq (KI.mono ?_)
  rintro r μ1 ⟨rfl, ⟨hn, rfl⟩ | ⟨hn, rfl⟩⟩
  · refine ⟨fun q => absurd q (by decide), fun _ => ?_⟩
    rw [w_lt (by omega) (by omega) (by omega) (by omega), w_lt (by omega) (by omega) (by omega) (by omega)]
    refine ⟨fun q => ⟨_, rfl, fof.rf _ _, by rw [if_neg (by omega)]⟩, fun q => ⟨fun q2 => ⟨_, rfl, fof.rf _ _, by rw [if_neg (by omega)]⟩, fun q2 => ?_⟩⟩
    exact most_G (d := d + 1) (by omega) (by omega) s 0 (-1) (-1) μ1 (by omega) (by omega) (by omega) hF (fun μ' g => ⟨_, rfl, g.wide scr_q, by rw [if_pos (by omega)]⟩)
  · exact ⟨fun _ => ⟨_, rfl, fof.rf _ _, by rw [if_neg (by omega)]⟩, fun q => absurd rfl q⟩
theorem spoilt_G : ∀ (f i : Nat) (μ : XM), i + f = s → FQ μ h n ru ki s bx m ls → (∀ μ', fof scr μ μ' → Q (some (.int (btw (fun p => decide (vpl ls ki bx m s p = 0)) s))) μ') → G Γ m_FB_spoilt (d + 5) (0, 0) Q 13 [.ref 32, .int (btw (fun p => decide (vpl ls ki bx m s p = 0)) i), .int (w i)] [] μ := by
  intro f
  induction f with
  | zero =>
    intro i μ hi hF hQ
    have hs := hF.2.2.2.1.2.1
    refine B_FB_spoilt_13 hF.1.ob (hF.1.r 32 9 67 rfl) hF.2.2.2.1.1.ob ?_
    rw [hF.2.2.2.1.2.2.2.1, w_lt (by omega) (by omega) (by omega) (by omega)]
    refine ⟨fun q => absurd q (by omega), fun _ => ?_⟩
    rw [show i = s by omega]
    exact hQ μ (fof.rf _ _)
  | succ f ih =>
    intro i μ hi hF hQ
    have hP := hF.2.2.2.1
    have hs := hP.2.1
    refine B_FB_spoilt_13 hF.1.ob (hF.1.r 32 9 67 rfl) hP.1.ob ?_
    rw [hP.2.2.2.1, w_lt (by omega) (by omega) (by omega) (by omega)]
    refine ⟨fun _ => ?_, fun q => absurd (by omega) q⟩
    refine (C_indexOf (by omega) hP).conseq (KI.mono ?_)
    rintro r μ1 ⟨rfl, rfl⟩
    rw [show (s : Int) - 1 - i = ((s - 1 - i : Nat) : Int) by omega]
    refine (C_valueOf (d := d + 4) (by omega) hF.1 hF.2.1 hF.2.2.1 hP hF.2.2.2.2 (by omega) (by omega)).conseq (KI.mono ?_)
    rintro r μ2 ⟨ho, rfl⟩
    have hv := vw_bd (ls := ls) hF.2.1 hP hF.2.2.2.2 (i := s - 1 - i) (by omega) 0 0 ((s - 1 - i : Nat) : Int)
    rw [w_inj (by omega) (by omega) (by omega) (by omega), w_add]
    have nx := ih (i + 1) μ2 (by omega) (hF.sc ho) (fun μ3 g => hQ μ3 (ho.trans g))
    rw [btw] at nx
    refine ⟨fun q => ?_, fun q => ?_⟩
    · rw [if_pos (decide_eq_true (p := vpl ls ki bx m s i = 0) q)] at nx
      exact nx
    · rw [if_neg (fun z => q (of_decide_eq_true (p := vpl ls ki bx m s i = 0) z))] at nx
      exact nx
theorem C_spoiltF (hd : 6 ≤ d) (hF : FQ μ h n ru ki s bx m ls) : Call Γ m_FB_spoilt d [.ref 32] μ (KI (fun r μ' => fof qcr μ μ' ∧ r = if 0 < n then btw (fun p => decide (vpl ls ki bx m s p = 0)) s else w (-1))) := by
  obtain ⟨d, rfl⟩ : ∃ e, d = e + 6 := ⟨d - 6, by omega⟩
  refine Call.of ok_FB_spoilt (Nat.le_of_ble_eq_true rfl) (B_FB_spoilt_0 hF.1.ob ?_)
  refine (C_hasHouse (by omega) hF.1 hF.2.1).conseq (KI.mono ?_)
  rintro r μ1 ⟨rfl, ⟨hn, rfl⟩ | ⟨hn, rfl⟩⟩
  · exact ⟨fun q => absurd q (by decide), fun _ => spoilt_G (d := d + 1) s 0 μ1 (by omega) hF (fun μ' g => ⟨_, rfl, g.wide scr_q, by rw [if_pos hn]⟩)⟩
  · exact ⟨fun _ => ⟨_, rfl, fof.rf _ _, by rw [if_neg (by omega)]⟩, fun q => absurd rfl q⟩
theorem buried_G (hR : RF μ) (hP : PF μ 67 s bx m) : ∀ (f i : Nat) (v : Int), i + f = s → G Γ m_FB_buried (d + 1) (0, 0) (KI (fun r μ' => μ' = μ ∧ r = w (v + (bsum bx 1 s - bsum bx 1 i)))) 26 [.ref 32, jk, .int (w v), .int (w i)] [] μ := by
  have hs := hP.2.1
  intro f
  induction f with
  | zero =>
    intro i v hi
    refine B_FB_buried_26 hR.ob (hR.r 32 9 67 rfl) hP.1.ob hP.1.2.2.2.1 ?_
    rw [hP.2.2.2.1, w_lt (by omega) (by omega) (by omega) (by omega)]
    refine ⟨fun q => absurd q (by omega), fun _ => ⟨_, rfl, rfl, ?_⟩⟩
    rw [show i = s by omega, Int.sub_self, Int.add_zero]
  | succ f ih =>
    intro i v hi
    refine B_FB_buried_26 hR.ob (hR.r 32 9 67 rfl) hP.1.ob hP.1.2.2.2.1 ?_
    rw [hP.2.2.2.1, w_lt (by omega) (by omega) (by omega) (by omega)]
    refine ⟨fun _ => ⟨hP.ib (q := 2) (by omega) (by omega) (by omega), ?_⟩, fun q => absurd (by omega) q⟩
    rw [w_cln (by omega), (hP.2.2.2.2.2 i (by omega)).1.2.1, w_add, w_add]
    have := ih (i + 1) (v + bx i 1) (by omega)
    rw [bsum, show v + bx i 1 + (bsum bx 1 s - (bsum bx 1 i + bx i 1)) = v + (bsum bx 1 s - bsum bx 1 i) by omega] at this
    exact this
theorem C_buriedF (hd : 2 ≤ d) (hR : RF μ) (hP : PF μ 67 s bx m) {z : Int} (z1 : -2147483648 ≤ z) (z2 : z < 2147483648) : Call Γ m_FB_buried d [.ref 32, .int (w z)] μ (KI (fun r μ' => μ' = μ ∧ r = if 0 ≤ z ∧ z < s then w (bsum bx 1 s - bsum bx 1 (s - z.toNat)) else w (-1))) := by
  obtain ⟨d, rfl⟩ : ∃ e, d = e + 1 := ⟨d - 1, by omega⟩
  have hs := hP.2.1
  refine Call.of ok_FB_buried (Nat.le_of_ble_eq_true rfl) (B_FB_buried_0 hR.ob (hR.r 32 9 67 rfl) hP.1.ob ?_)
  refine (C_hasPlace (by omega) hP z1 z2).conseq (KI.mono ?_)
  rintro r μ1 ⟨rfl, ⟨g1, g2, rfl⟩ | ⟨g1, rfl⟩⟩
  · refine ⟨fun q => absurd q (by decide), fun _ => ⟨hR.r 32 9 67 rfl, ?_⟩⟩
    refine (C_indexOf (by omega) hP).conseq (KI.mono ?_)
    rintro r μ2 ⟨rfl, rfl⟩
    rw [w_add, show (s : Int) - 1 - z + 1 = ((s - z.toNat : Nat) : Int) by omega]
    refine (buried_G hR hP (z.toNat) (s - z.toNat) 0 (by omega)).conseq (KI.mono ?_)
    rintro r μ3 ⟨rfl, rfl⟩
    exact ⟨rfl, by rw [if_pos (by omega), Int.zero_add]⟩
  · exact ⟨fun _ => ⟨_, rfl, rfl, by rw [if_neg (by omega)]⟩, fun q => absurd rfl q⟩
theorem soonest_G {i : Nat} (hi : i < s) : ∀ (f k : Nat) (μ : XM), k + f = 100 → FQ μ h n ru ki s bx m ls → (∀ μ', fof scr μ μ' → Q (some (.int (w (sch (fun t => decide (vw ls ki bx m i t t i = 0)) f k)))) μ') → G Γ m_FB_soonest (d + 5) (0, 0) Q 24 [.ref 32, jk, .int (w i), .int (w k)] [] μ := by
  intro f
  induction f with
  | zero =>
    intro k μ hk hF hQ
    refine B_FB_soonest_24 hF.1.ob (hF.1.r 32 9 67 rfl) ?_
    rw [w_lt (by omega) (by omega) (by omega) (by omega)]
    exact ⟨fun _ => hQ μ (fof.rf _ _), fun q => absurd (by omega) q⟩
  | succ f ih =>
    intro k μ hk hF hQ
    have hP := hF.2.2.2.1
    have hs := hP.2.1
    refine B_FB_soonest_24 hF.1.ob (hF.1.r 32 9 67 rfl) ?_
    rw [w_lt (by omega) (by omega) (by omega) (by omega)]
    refine ⟨fun q => absurd q (by omega), fun _ => ?_⟩
    refine (C_valueThen (d := d + 4) (by omega) hF.1 hF.2.1 hF.2.2.1 hP hF.2.2.2.2 (by omega) hi (by omega) (by omega) (by omega) (by omega) (by omega) (by omega)).conseq (KI.mono ?_)
    rintro r μ2 ⟨ho, rfl⟩
    have hv := vw_bd (ls := ls) hF.2.1 hP hF.2.2.2.2 (i := i) hi k k i
    rw [w_inj (by omega) (by omega) (by omega) (by omega), w_add]
    unfold sch at hQ
    refine ⟨fun q => ?_, fun q => ?_⟩
    · rw [if_pos (by simpa using q)] at hQ
      exact hQ μ2 ho
    · rw [if_neg (by simpa using q)] at hQ
      exact ih (k + 1) μ2 (by omega) (hF.sc ho) (fun μ3 g => hQ μ3 (ho.trans g))
theorem C_soonestF (hd : 6 ≤ d) (hF : FQ μ h n ru ki s bx m ls) {z : Int} (z1 : -2147483648 ≤ z) (z2 : z < 2147483648) : Call Γ m_FB_soonest d [.ref 32, .int (w z)] μ (KI (fun r μ' => fof qcr μ μ' ∧ r = if 0 ≤ z ∧ z < s then w (sch (fun t => decide (vw ls ki bx m (s - 1 - z.toNat) t t ((s - 1 - z.toNat : Nat) : Int) = 0)) 100 0) else w (-1))) := by
  obtain ⟨d, rfl⟩ : ∃ e, d = e + 6 := ⟨d - 6, by omega⟩
  have hP := hF.2.2.2.1
  have hs := hP.2.1
  refine Call.of ok_FB_soonest (Nat.le_of_ble_eq_true rfl) (B_FB_soonest_0 hF.1.ob (hF.1.r 32 9 67 rfl) hP.1.ob ?_)
  refine (C_hasPlace (by omega) hP z1 z2).conseq (KI.mono ?_)
  rintro r μ1 ⟨rfl, ⟨g1, g2, rfl⟩ | ⟨g1, rfl⟩⟩
  · refine ⟨fun q => absurd q (by decide), fun _ => ⟨hF.1.r 32 9 67 rfl, ?_⟩⟩
    refine (C_indexOf (by omega) hP).conseq (KI.mono ?_)
    rintro r μ2 ⟨rfl, rfl⟩
    rw [show (s : Int) - 1 - z = ((s - 1 - z.toNat : Nat) : Int) by omega]
    exact soonest_G (d := d + 1) (by omega) 100 0 μ2 (by omega) hF (fun μ' g => ⟨_, rfl, g.wide scr_q, by rw [if_pos (by omega)]⟩)
  · exact ⟨fun _ => ⟨_, rfl, fof.rf _ _, by rw [if_neg (by omega)]⟩, fun q => absurd rfl q⟩
end HE
