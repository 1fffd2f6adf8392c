/-! QUESTIONS OF THE CLASS, fourth lot: values by place, lots, eating in turn, dinners -/
section HG
variable {Γ : XG} {d h n a s m : Nat} {ru : Nat → Int} {ki bx : Nat → Nat → Int} {ls : Int → Int → Int → Int → Int → Int → Int} {μ : XM} {Q : Option Value → XM → Prop}
def vcr (c : Nat) : Prop := scr c ∨ c = 501
theorem vcr_q (c : Nat) (h : vcr c) : qcr c := h.elim Or.inl (fun q => Or.inr (Or.inr (Or.inr (Or.inl q))))
theorem scr_v (c : Nat) (h : scr c) : vcr c := Or.inl h
theorem fillValues_G : ∀ (f i : Nat) (μ : XM), i + f = s → FQ μ h n ru ki s bx m ls → (∀ j, j < i → xI μ 501 j = w (vpl ls ki bx m s j)) → (∀ μ', fof vcr μ μ' → (∀ j, j < s → xI μ' 501 j = w (vpl ls ki bx m s j)) → Q none μ') → G Γ m_FB_fillValues (d + 5) (0, 0) Q 2 [.ref 32, .int (w i)] [] μ := by
  intro f
  induction f with
  | zero =>
    intro i μ hi hF hv hQ
    have hs := hF.2.2.2.1.2.1
    refine B_FB_fillValues_2 hF.1.ob (hF.1.r 32 9 67 rfl) hF.2.2.2.1.1.ob (hF.1.r 32 18 501 rfl) ?_
    rw [hF.2.2.2.1.2.2.2.1, w_lt (by omega) (by omega) (by omega) (by omega)]
    exact ⟨fun q => absurd q (by omega), fun _ => hQ μ (fof.rf _ _) (fun j hj => hv j (by omega))⟩
  | succ f ih =>
    intro i μ hi hF hv hQ
    have hP := hF.2.2.2.1
    have hs := hP.2.1
    refine B_FB_fillValues_2 hF.1.ob (hF.1.r 32 9 67 rfl) hP.1.ob (hF.1.r 32 18 501 rfl) ?_
    rw [hP.2.2.2.1, w_lt (by omega) (by omega) (by omega) (by omega)]
    refine ⟨fun _ => ?_, fun q => absurd (by omega) q⟩
    refine (C_indexOf (by omega) hP).conseq (KI.mono ?_)
    rintro r μ1 ⟨rfl, rfl⟩
    rw [show (s : Int) - 1 - i = ((s - 1 - i : Nat) : Int) by omega]
    refine (C_valueOf (d := d + 4) (by omega) hF.1 hF.2.1 hF.2.2.1 hP hF.2.2.2.2 (by omega) (by omega)).conseq (KI.mono ?_)
    rintro r μ2 ⟨ho, rfl⟩
    have hF2 := hF.sc ho
    refine ⟨inS_of (show shp 501 = some (.inr (0, 8)) from rfl) (by omega) hF2.1.1 (by omega) (by omega) (by omega), ?_⟩
    rintro μ4 rfl
    rw [w_add, w_cln (by omega)]
    have hb : fof vcr μ2 (sI μ2 501 i (w (vw ls ki bx m (s - 1 - i) 0 0 ((s - 1 - i : Nat) : Int)))) := fof.sI _ _ _ (Or.inr rfl)
    have hb2 := (ho.wide scr_v).trans hb
    refine ih (i + 1) _ (by omega) (hF2.q (hb.wide vcr_q)) (fun j hj => ?_) (fun μ5 g1 g2 => hQ μ5 (hb2.trans g1) g2)
    rw [xI_sI]
    by_cases e : j = i
    · subst e
      rw [if_pos ⟨rfl, rfl⟩]
      rfl
    · rw [if_neg (by omega), ho.1 501 (by unfold scr; omega)]
      exact hv j (by omega)
theorem C_fillValues (hd : 6 ≤ d) (hF : FQ μ h n ru ki s bx m ls) : Call Γ m_FB_fillValues d [.ref 32] μ (KV (fun μ' => fof vcr μ μ' ∧ ∀ j, j < s → xI μ' 501 j = w (vpl ls ki bx m s j))) := by
  obtain ⟨d, rfl⟩ : ∃ e, d = e + 6 := ⟨d - 6, by omega⟩
  exact Call.of ok_FB_fillValues (Nat.le_of_ble_eq_true rfl) (B_FB_fillValues_0 (fillValues_G (d := d + 1) s 0 μ (by omega) hF (fun j hj => absurd hj (by omega)) (fun μ' g1 g2 => ⟨rfl, g1, g2⟩)))
theorem vpl_bd (hF : FQ μ h n ru ki s bx m ls) {p : Nat} (hp : p < s) : 0 ≤ vpl ls ki bx m s p ∧ vpl ls ki bx m s p ≤ 81 := vw_bd hF.2.1 hF.2.2.2.1 hF.2.2.2.2 (i := s - 1 - p) (by omega) 0 0 _
/-- sums over rising threes: f more, k the next -/
def sm3 (g : Nat → Nat → Nat → Int) (i j : Nat) : Nat → Nat → Int
  | 0, _ => 0
  | f + 1, k => g i j k + sm3 g i j f (k + 1)
def sm2 (g : Nat → Nat → Nat → Int) (s i : Nat) : Nat → Nat → Int
  | 0, _ => 0
  | f + 1, j => sm3 g i j (s - (j + 1)) (j + 1) + sm2 g s i f (j + 1)
def sm1 (g : Nat → Nat → Nat → Int) (s : Nat) : Nat → Nat → Int
  | 0, _ => 0
  | f + 1, i => sm2 g s i (s - (i + 1)) (i + 1) + sm1 g s f (i + 1)
def mx3 (V : Nat → Int) (i j k : Nat) : Int := max (V i) (max (V j) (V k))
theorem lot_3 (hF : FQ μ h n ru ki s bx m ls) (hv : ∀ j, j < s → xI μ 501 j = w (vpl ls ki bx m s j)) {z : Int} {i j : Nat} (hi : i < s) (hj : j < s) : ∀ (f k : Nat) (x y : Int), k + f = s → G Γ m_FB_lot (d + 1) (0, 0) Q 47 [.ref 32, .int (w z), .int (w (x + sm3 (mx3 (vpl ls ki bx m s)) i j f k)), .int (w (y + sm3 (fun _ _ _ => 1) i j f k)), .int (w i), .int (w ((j + 1 : Nat) : Int))] [] μ → G Γ m_FB_lot (d + 1) (0, 0) Q 65 [.ref 32, .int (w z), .int (w x), .int (w y), .int (w i), .int (w j), .int (w k)] [] μ := by
  have hP := hF.2.2.2.1
  have hs := hP.2.1
  intro f
  induction f with
  | zero =>
    intro k x y hk hQ
    refine B_FB_lot_65 hF.1.ob (hF.1.r 32 9 67 rfl) hP.1.ob (hF.1.r 32 18 501 rfl) ?_
    rw [hP.2.2.2.1, w_lt (by omega) (by omega) (by omega) (by omega)]
    refine ⟨fun q => absurd q (by omega), fun _ => ?_⟩
    rw [w_add]
    simp only [sm3, Int.add_zero] at hQ
    exact hQ
  | succ f ih =>
    intro k x y hk hQ
    have ib : ∀ p : Nat, p < s → inb μ 0 501 (w p) := fun p hp => inb_of (show shp 501 = some (.inr (0, 8)) from rfl) (by omega) hF.1.1 (by omega) (by omega)
    refine B_FB_lot_65 hF.1.ob (hF.1.r 32 9 67 rfl) hP.1.ob (hF.1.r 32 18 501 rfl) ?_
    rw [hP.2.2.2.1, w_lt (by omega) (by omega) (by omega) (by omega)]
    refine ⟨fun _ => ⟨ib i hi, ib j hj, ib k (by omega), ?_⟩, fun q => absurd (by omega) q⟩
    have b1 := vpl_bd hF hi
    have b2 := vpl_bd hF hj
    have b3 := vpl_bd hF (p := k) (by omega)
    rw [w_cln (by omega), w_cln (by omega), w_cln (by omega), hv i hi, hv j hj, hv k (by omega), jmax_w (by omega) (by omega) (by omega) (by omega), jmax_w (by omega) (by omega) (by omega) (by omega), w_add, w_add, w_add]
    refine ih (k + 1) _ _ (by omega) ?_
    simp only [sm3, mx3, ← Int.add_assoc] at hQ
    exact hQ
theorem lot_2 (hF : FQ μ h n ru ki s bx m ls) (hv : ∀ j, j < s → xI μ 501 j = w (vpl ls ki bx m s j)) {z : Int} {i : Nat} (hi : i < s) : ∀ (f j : Nat) (x y : Int), j + f = s → G Γ m_FB_lot (d + 1) (0, 0) Q 29 [.ref 32, .int (w z), .int (w (x + sm2 (mx3 (vpl ls ki bx m s)) s i f j)), .int (w (y + sm2 (fun _ _ _ => 1) s i f j)), .int (w ((i + 1 : Nat) : Int))] [] μ → G Γ m_FB_lot (d + 1) (0, 0) Q 47 [.ref 32, .int (w z), .int (w x), .int (w y), .int (w i), .int (w j)] [] μ := by
  have hP := hF.2.2.2.1
  have hs := hP.2.1
  intro f
  induction f with
  | zero =>
    intro j x y hj hQ
    refine B_FB_lot_47 hF.1.ob (hF.1.r 32 9 67 rfl) hP.1.ob ?_
    rw [hP.2.2.2.1, w_lt (by omega) (by omega) (by omega) (by omega)]
    refine ⟨fun q => absurd q (by omega), fun _ => ?_⟩
    rw [w_add]
    simp only [sm2, Int.add_zero] at hQ
    exact hQ
  | succ f ih =>
    intro j x y hj hQ
    refine B_FB_lot_47 hF.1.ob (hF.1.r 32 9 67 rfl) hP.1.ob ?_
    rw [hP.2.2.2.1, w_lt (by omega) (by omega) (by omega) (by omega)]
    refine ⟨fun _ => ?_, fun q => absurd (by omega) q⟩
    rw [w_add]
    refine lot_3 hF hv hi (j := j) (by omega) (s - (j + 1)) (j + 1) x y (by omega) ?_
    refine ih (j + 1) _ _ (by omega) ?_
    simp only [sm2, ← Int.add_assoc] at hQ
    exact hQ
theorem lot_1 (hF : FQ μ h n ru ki s bx m ls) (hv : ∀ j, j < s → xI μ 501 j = w (vpl ls ki bx m s j)) {z : Int} (z0 : 0 ≤ z) (z1 : z ≤ 1) : ∀ (f i : Nat) (x y : Int), i + f = s → Q (some (.int (if z = 0 then w (x + sm1 (mx3 (vpl ls ki bx m s)) s f i) else w (y + sm1 (fun _ _ _ => 1) s f i)))) μ → G Γ m_FB_lot (d + 1) (0, 0) Q 29 [.ref 32, .int (w z), .int (w x), .int (w y), .int (w i)] [] μ := by
  have hP := hF.2.2.2.1
  have hs := hP.2.1
  intro f
  induction f with
  | zero =>
    intro i x y hi hQ
    refine B_FB_lot_29 hF.1.ob (hF.1.r 32 9 67 rfl) hP.1.ob ?_
    rw [hP.2.2.2.1, w_lt (by omega) (by omega) (by omega) (by omega), w_inj (by omega) (by omega) (by omega) (by omega)]
    refine ⟨fun q => absurd q (by omega), fun _ => ?_⟩
    simp only [sm1, Int.add_zero] at hQ
    exact ⟨fun q => by rw [if_pos q] at hQ; exact hQ, fun q => by rw [if_neg q] at hQ; exact hQ⟩
  | succ f ih =>
    intro i x y hi hQ
    refine B_FB_lot_29 hF.1.ob (hF.1.r 32 9 67 rfl) hP.1.ob ?_
    rw [hP.2.2.2.1, w_lt (by omega) (by omega) (by omega) (by omega)]
    refine ⟨fun _ => ?_, fun q => absurd (by omega) q⟩
    rw [w_add]
    refine lot_2 hF hv (i := i) (by omega) (s - (i + 1)) (i + 1) x y (by omega) ?_
    refine ih (i + 1) _ _ (by omega) ?_
    simp only [sm1, ← Int.add_assoc] at hQ
    exact hQ
theorem C_lotF (hd : 7 ≤ d) (hF : FQ μ h n ru ki s bx m ls) {z : Int} (z1 : -2147483648 ≤ z) (z2 : z < 2147483648) : Call Γ m_FB_lot d [.ref 32, .int (w z)] μ (KI (fun r μ' => fof qcr μ μ' ∧ r = if 0 < n ∧ 0 ≤ z ∧ z ≤ 1 then w (if z = 0 then sm1 (mx3 (vpl ls ki bx m s)) s s 0 else sm1 (fun _ _ _ => 1) s s 0) else w (-1))) := by
  obtain ⟨d, rfl⟩ : ∃ e, d = e + 7 := ⟨d - 7, by omega⟩
  refine Call.of ok_FB_lot (Nat.le_of_ble_eq_true rfl) (B_FB_lot_0 hF.1.ob ?_)
  refine (C_hasHouse (by omega) hF.1 hF.2.1).conseq (KI.mono ?_)
  rintro r μ1 ⟨rfl, ⟨hn, rfl⟩ | ⟨hn, rfl⟩⟩
  · refine ⟨fun q => absurd q (by decide), fun _ => ?_⟩
    rw [w_lt (by omega) (by omega) (by omega) (by omega), w_lt (by omega) (by omega) (by omega) (by omega)]
    refine ⟨fun q => ⟨_, rfl, fof.rf _ _, by rw [if_neg (by omega)]⟩, fun q => ⟨fun q2 => ⟨_, rfl, fof.rf _ _, by rw [if_neg (by omega)]⟩, fun q2 => ?_⟩⟩
    refine (C_fillValues (by omega) hF).conseq (KV.mono ?_)
    rintro μ2 ⟨ho, hv⟩
    refine lot_1 (hF.q (ho.wide vcr_q)) hv (by omega) (by omega) s 0 0 0 (by omega) ⟨_, rfl, ho.wide vcr_q, ?_⟩
    rw [if_pos (show 0 < n ∧ 0 ≤ z ∧ z ≤ 1 by omega), Int.zero_add, Int.zero_add]
    split <;> rfl
  · exact ⟨fun _ => ⟨_, rfl, fof.rf _ _, by rw [if_neg (by omega)]⟩, fun q => absurd rfl q⟩
/-- the g-th eaten, from the top or from below -/
def eit (ls : Int → Int → Int → Int → Int → Int → Int) (ki bx : Nat → Nat → Int) (m s : Nat) (top : Bool) (g : Nat) : Int := if top = true then vw ls ki bx m (s - 1 - g) g g ((s - 1 - g : Nat) : Int) else vw ls ki bx m g g g 0
theorem eatenInTurn_G {top : Bool} : ∀ (f i : Nat) (μ : XM), i + f = s → FQ μ h n ru ki s bx m ls → (∀ μ', fof scr μ μ' → Q (some (.int (w (fsum (eit ls ki bx m s top) s)))) μ') → G Γ m_FB_eatenInTurn (d + 5) (0, 0) Q 4 [.ref 32, .int (w (if top = true then 1 else 0)), .int (w (fsum (eit ls ki bx m s top) i)), .int (w i)] [] μ := by
  intro f
  induction f with
  | zero =>
    intro i μ hi hF hQ
    have hs := hF.2.2.2.1.2.1
    refine B_FB_eatenInTurn_4 hF.1.ob (hF.1.r 32 9 67 rfl) hF.2.2.2.1.1.ob ?_
    rw [hF.2.2.2.1.2.2.2.1, w_lt (by omega) (by omega) (by omega) (by omega)]
    refine ⟨fun q => absurd q (by omega), fun _ => ?_⟩
    rw [show i = s by omega]
    exact hQ μ (fof.rf _ _)
  | succ f ih =>
    intro i μ hi hF hQ
    have hP := hF.2.2.2.1
    have hs := hP.2.1
    refine B_FB_eatenInTurn_4 hF.1.ob (hF.1.r 32 9 67 rfl) hP.1.ob ?_
    rw [hP.2.2.2.1, w_lt (by omega) (by omega) (by omega) (by omega)]
    refine ⟨fun _ => ?_, fun q => absurd (by omega) q⟩
    cases top with
    | true =>
      refine ⟨fun q => absurd q (by decide), fun _ => ⟨fun q => absurd q (by decide), fun _ => ?_⟩⟩
      rw [w_sub, w_sub, show (s : Int) - 1 - i = ((s - 1 - i : Nat) : Int) by omega]
      refine (C_valueThen (d := d + 4) (by omega) hF.1 hF.2.1 hF.2.2.1 hP hF.2.2.2.2 (by omega) (by omega) (by omega) (by omega) (by omega) (by omega) (by omega) (by omega)).conseq (KI.mono ?_)
      rintro r μ2 ⟨ho, rfl⟩
      rw [w_add, w_add]
      have nx := ih (i + 1) μ2 (by omega) (hF.sc ho) (fun μ3 g => hQ μ3 (ho.trans g))
      exact nx
    | false =>
      refine ⟨fun _ => ⟨fun _ => ?_, fun q => absurd rfl q⟩, fun q => absurd rfl q⟩
      refine (C_valueThen (below := 0) (d := d + 4) (by omega) hF.1 hF.2.1 hF.2.2.1 hP hF.2.2.2.2 (by omega) (by omega) (by omega) (by omega) (by omega) (by omega) (by omega) (by omega)).conseq (KI.mono ?_)
      rintro r μ2 ⟨ho, rfl⟩
      rw [w_add, w_add]
      have nx := ih (i + 1) μ2 (by omega) (hF.sc ho) (fun μ3 g => hQ μ3 (ho.trans g))
      exact nx
theorem C_eatenInTurn (hd : 6 ≤ d) (hF : FQ μ h n ru ki s bx m ls) (top : Bool) : Call Γ m_FB_eatenInTurn d [.ref 32, .int (w (if top = true then 1 else 0))] μ (KI (fun r μ' => fof scr μ μ' ∧ r = w (fsum (eit ls ki bx m s top) s))) := by
  obtain ⟨d, rfl⟩ : ∃ e, d = e + 6 := ⟨d - 6, by omega⟩
  exact Call.of ok_FB_eatenInTurn (Nat.le_of_ble_eq_true rfl) (B_FB_eatenInTurn_0 (eatenInTurn_G (d := d + 1) s 0 μ (by omega) hF (fun μ' g => ⟨_, rfl, g, rfl⟩)))
/-- set x has p -/
def hsb (x : Int32) (p : Nat) : Bool := decide ((x >>> (w p &&& 31)) &&& w 1 = w 1)
theorem hsb_t {x : Int32} {p : Nat} (q : (x >>> (w p &&& 31)) &&& w 1 = w 1) : hsb x p = true := decide_eq_true q
theorem hsb_f {x : Int32} {p : Nat} (q : ¬ (x >>> (w p &&& 31)) &&& w 1 = w 1) : ¬ hsb x p = true := fun z => q (of_decide_eq_true z)
def pos (bx : Nat → Nat → Int) (s : Nat) (x : Int32) : Int := fsum (fun p => if hsb x p = true then bx (s - 1 - p) 1 else 0) s
def vos (ls : Int → Int → Int → Int → Int → Int → Int) (ki bx : Nat → Nat → Int) (m s : Nat) (x : Int32) : Int := fsum (fun p => if hsb x p = true then vpl ls ki bx m s p else 0) s
theorem portionsOf_G {x : Int32} (hR : RF μ) (hP : PF μ 67 s bx m) : ∀ (f i : Nat), i + f = s → Q (some (.int (w (pos bx s x)))) μ → G Γ m_FB_portionsOf (d + 2) (0, 0) Q 4 [.ref 32, .int x, .int (w (fsum (fun p => if hsb x p = true then bx (s - 1 - p) 1 else 0) i)), .int (w i)] [] μ := by
  have hs := hP.2.1
  intro f
  induction f with
  | zero =>
    intro i hi hQ
    refine B_FB_portionsOf_4 hR.ob (hR.r 32 9 67 rfl) hP.1.ob hP.1.2.2.2.1 ?_
    rw [hP.2.2.2.1, w_lt (by omega) (by omega) (by omega) (by omega)]
    refine ⟨fun q => absurd q (by omega), fun _ => ?_⟩
    rw [show i = s by omega]
    exact hQ
  | succ f ih =>
    intro i hi hQ
    have nx := ih (i + 1) (by omega) hQ
    rw [fsum] at nx
    refine B_FB_portionsOf_4 hR.ob (hR.r 32 9 67 rfl) hP.1.ob hP.1.2.2.2.1 ?_
    rw [hP.2.2.2.1, w_lt (by omega) (by omega) (by omega) (by omega)]
    refine ⟨fun _ => ⟨fun q => ?_, fun q => ?_⟩, fun q => absurd (by omega) q⟩
    · refine (C_indexOf (by omega) hP).conseq (KI.mono ?_)
      rintro r μ1 ⟨rfl, rfl⟩
      rw [show (s : Int) - 1 - i = ((s - 1 - i : Nat) : Int) by omega]
      refine ⟨hP.ib (q := 2) (by omega) (by omega) (by omega), ?_⟩
      rw [w_cln (by omega), (hP.2.2.2.2.2 (s - 1 - i) (by omega)).1.2.1, w_add, w_add]
      rw [if_pos (hsb_t q)] at nx
      exact nx
    · rw [if_neg (hsb_f q), Int.add_zero] at nx
      rw [w_add]
      exact nx
theorem C_portionsOf (hd : 2 ≤ d) {x : Int32} (hR : RF μ) (hP : PF μ 67 s bx m) : Call Γ m_FB_portionsOf d [.ref 32, .int x] μ (KI (fun r μ' => μ' = μ ∧ r = w (pos bx s x))) := by
  obtain ⟨d, rfl⟩ : ∃ e, d = e + 2 := ⟨d - 2, by omega⟩
  exact Call.of ok_FB_portionsOf (Nat.le_of_ble_eq_true rfl) (B_FB_portionsOf_0 (portionsOf_G hR hP s 0 (by omega) ⟨_, rfl, rfl, rfl⟩))
theorem valueOfSet_G {x : Int32} (hF : FQ μ h n ru ki s bx m ls) (hv : ∀ j, j < s → xI μ 501 j = w (vpl ls ki bx m s j)) : ∀ (f i : Nat), i + f = s → Q (some (.int (w (vos ls ki bx m s x)))) μ → G Γ m_FB_valueOfSet (d + 1) (0, 0) Q 4 [.ref 32, .int x, .int (w (fsum (fun p => if hsb x p = true then vpl ls ki bx m s p else 0) i)), .int (w i)] [] μ := by
  have hP := hF.2.2.2.1
  have hR := hF.1
  have hs := hP.2.1
  intro f
  induction f with
  | zero =>
    intro i hi hQ
    refine B_FB_valueOfSet_4 hR.ob (hR.r 32 9 67 rfl) hP.1.ob (hR.r 32 18 501 rfl) ?_
    rw [hP.2.2.2.1, w_lt (by omega) (by omega) (by omega) (by omega)]
    refine ⟨fun q => absurd q (by omega), fun _ => ?_⟩
    rw [show i = s by omega]
    exact hQ
  | succ f ih =>
    intro i hi hQ
    have nx := ih (i + 1) (by omega) hQ
    rw [fsum] at nx
    refine B_FB_valueOfSet_4 hR.ob (hR.r 32 9 67 rfl) hP.1.ob (hR.r 32 18 501 rfl) ?_
    rw [hP.2.2.2.1, w_lt (by omega) (by omega) (by omega) (by omega)]
    refine ⟨fun _ => ⟨fun q => ?_, fun q => ?_⟩, fun q => absurd (by omega) q⟩
    · refine ⟨inb_of (show shp 501 = some (.inr (0, 8)) from rfl) (by omega) hF.1.1 (by omega) (by omega), ?_⟩
      rw [w_cln (by omega), hv i (by omega), w_add, w_add]
      rw [if_pos (hsb_t q)] at nx
      exact nx
    · rw [if_neg (hsb_f q), Int.add_zero] at nx
      rw [w_add]
      exact nx
theorem C_valueOfSet (hd : 1 ≤ d) {x : Int32} (hF : FQ μ h n ru ki s bx m ls) (hv : ∀ j, j < s → xI μ 501 j = w (vpl ls ki bx m s j)) : Call Γ m_FB_valueOfSet d [.ref 32, .int x] μ (KI (fun r μ' => μ' = μ ∧ r = w (vos ls ki bx m s x))) := by
  obtain ⟨d, rfl⟩ : ∃ e, d = e + 1 := ⟨d - 1, by omega⟩
  exact Call.of ok_FB_valueOfSet (Nat.le_of_ble_eq_true rfl) (B_FB_valueOfSet_0 (valueOfSet_G hF hv s 0 (by omega) ⟨_, rfl, rfl, rfl⟩))
/-- the kinds in a set, as bits -/
def kms (bx : Nat → Nat → Int) (s : Nat) (x : Int32) : Nat → Int32
  | 0 => w 0
  | p + 1 => if hsb x p = true then kms bx s x p ||| (w 1 <<< (w (bx (s - 1 - p) 0) &&& 31)) else kms bx s x p
/-- from kind k on, f more, all in the set of kinds y go together -/
def gtk (ki : Nat → Nat → Int) (n : Nat) (y : Int32) : Nat → Nat → Bool
  | 0, _ => true
  | f + 1, k => if hsb y k = true ∧ ¬ y &&& (kwi ki n k ^^^ w (-1)) = w 0 then false else gtk ki n y f (k + 1)
theorem goesTogether_2 {y : Int32} (hR : RF μ) (hH : HO μ h n ru ki) : ∀ (f k : Nat), k + f = n → Q (some (.int (w (if gtk ki n y f k = true then 1 else 0)))) μ → G Γ m_FB_goesTogether (d + 2) (0, 0) Q 53 [.ref 32, jk, .int y, .int (w k)] [] μ := by
  have hn := hH.2.2.1
  intro f
  induction f with
  | zero =>
    intro k hk hQ
    refine B_FB_goesTogether_53 hR.ob hH.2.1 hH.1.ob ?_
    rw [hH.2.2.2.1, w_lt (by omega) (by omega) (by omega) (by omega)]
    exact ⟨fun q => absurd q (by omega), fun _ => hQ⟩
  | succ f ih =>
    intro k hk hQ
    refine B_FB_goesTogether_53 hR.ob hH.2.1 hH.1.ob ?_
    rw [hH.2.2.2.1, w_lt (by omega) (by omega) (by omega) (by omega)]
    have e0 : gtk ki n y (f + 1) k = if hsb y k = true ∧ ¬ y &&& (kwi ki n k ^^^ w (-1)) = w 0 then false else gtk ki n y f (k + 1) := rfl
    rw [e0] at hQ
    refine ⟨fun _ => ⟨fun q => ?_, fun q => ?_⟩, fun q => absurd (by omega) q⟩
    · refine (C_kindsWith (by omega) hH (by omega)).conseq (KI.mono ?_)
      rintro r μ1 ⟨rfl, rfl⟩
      refine ⟨fun q2 => ?_, fun q2 => ?_⟩
      · rw [if_neg (c := hsb y k = true ∧ ¬ y &&& (kwi ki n k ^^^ w (-1)) = w 0) (fun z => z.2 q2)] at hQ
        rw [w_add]
        exact ih (k + 1) (by omega) hQ
      · rw [if_pos (c := hsb y k = true ∧ ¬ y &&& (kwi ki n k ^^^ w (-1)) = w 0) ⟨hsb_t q, q2⟩] at hQ
        exact hQ
    · rw [if_neg (c := hsb y k = true ∧ ¬ y &&& (kwi ki n k ^^^ w (-1)) = w 0) (fun z => hsb_f q z.1)] at hQ
      rw [w_add]
      exact ih (k + 1) (by omega) hQ
theorem goesTogether_1 {x : Int32} (hR : RF μ) (hH : HO μ h n ru ki) (hP : PF μ 67 s bx m) : ∀ (f i : Nat), i + f = s → Q (some (.int (w (if gtk ki n (kms bx s x s) n 0 = true then 1 else 0)))) μ → G Γ m_FB_goesTogether (d + 2) (0, 0) Q 4 [.ref 32, .int x, .int (kms bx s x i), .int (w i)] [] μ := by
  have hs := hP.2.1
  intro f
  induction f with
  | zero =>
    intro i hi hQ
    refine B_FB_goesTogether_4 hR.ob (hR.r 32 9 67 rfl) hP.1.ob hP.1.2.2.1 ?_
    rw [hP.2.2.2.1, w_lt (by omega) (by omega) (by omega) (by omega)]
    refine ⟨fun q => absurd q (by omega), fun _ => ?_⟩
    rw [show i = s by omega]
    exact goesTogether_2 hR hH n 0 (by omega) hQ
  | succ f ih =>
    intro i hi hQ
    have nx := ih (i + 1) (by omega) hQ
    rw [kms] at nx
    refine B_FB_goesTogether_4 hR.ob (hR.r 32 9 67 rfl) hP.1.ob hP.1.2.2.1 ?_
    rw [hP.2.2.2.1, w_lt (by omega) (by omega) (by omega) (by omega)]
    refine ⟨fun _ => ⟨fun q => ?_, fun q => ?_⟩, fun q => absurd (by omega) q⟩
    · refine (C_indexOf (by omega) hP).conseq (KI.mono ?_)
      rintro r μ1 ⟨rfl, rfl⟩
      rw [show (s : Int) - 1 - i = ((s - 1 - i : Nat) : Int) by omega]
      refine ⟨hP.ib (q := 1) (by omega) (by omega) (by omega), ?_⟩
      rw [w_cln (by omega), (hP.2.2.2.2.2 (s - 1 - i) (by omega)).1.1, w_add]
      rw [if_pos (hsb_t q)] at nx
      exact nx
    · rw [if_neg (hsb_f q)] at nx
      rw [w_add]
      exact nx
def gts (ki bx : Nat → Nat → Int) (n s : Nat) (x : Int32) : Bool := gtk ki n (kms bx s x s) n 0
theorem C_goesTogether (hd : 2 ≤ d) {x : Int32} (hR : RF μ) (hH : HO μ h n ru ki) (hP : PF μ 67 s bx m) : Call Γ m_FB_goesTogether d [.ref 32, .int x] μ (KI (fun r μ' => μ' = μ ∧ ((gts ki bx n s x = true ∧ r = w 1) ∨ (gts ki bx n s x = false ∧ r = w 0)))) := by
  obtain ⟨d, rfl⟩ : ∃ e, d = e + 2 := ⟨d - 2, by omega⟩
  refine Call.of ok_FB_goesTogether (Nat.le_of_ble_eq_true rfl) (B_FB_goesTogether_0 (goesTogether_1 hR hH hP s 0 (by omega) ⟨_, rfl, rfl, ?_⟩))
  by_cases e : gts ki bx n s x = true
  · exact Or.inl ⟨e, by unfold gts at e; rw [if_pos e]⟩
  · exact Or.inr ⟨by simpa using e, by unfold gts at e; rw [if_neg e]⟩
def sl2 (y : Int) (X : Int × Int) : Int := if y = 0 then X.1 else X.2
/-- the best dinner: f more, t the next set; b best, r its rate, q its portions -/
def dnr (P V : Int32 → Int) (T : Int32 → Bool) (z : Int) : Nat → Nat → Int → Int → Int → Int × Int
  | 0, _, b, r, _ => (b, r)
  | f + 1, t, b, r, q =>
    if P (w t) < z ∨ T (w t) = false then dnr P V T z f (t + 1) b r q
    else if r < V (w t) * 100 / P (w t) ∨ (V (w t) * 100 / P (w t) = r ∧ P (w t) < q) then dnr P V T z f (t + 1) t (V (w t) * 100 / P (w t)) (P (w t))
    else dnr P V T z f (t + 1) b r q
theorem shl_w {s : Nat} (h : s ≤ 8) : w 1 <<< (w s &&& 31) = w ((2 ^ s : Nat) : Int) := by
  rcases (show s = 0 ∨ s = 1 ∨ s = 2 ∨ s = 3 ∨ s = 4 ∨ s = 5 ∨ s = 6 ∨ s = 7 ∨ s = 8 by omega) with rfl | rfl | rfl | rfl | rfl | rfl | rfl | rfl | rfl <;> decide
theorem pw_le {s : Nat} (h : s ≤ 8) : 1 ≤ 2 ^ s ∧ 2 ^ s ≤ 256 := by
  rcases (show s = 0 ∨ s = 1 ∨ s = 2 ∨ s = 3 ∨ s = 4 ∨ s = 5 ∨ s = 6 ∨ s = 7 ∨ s = 8 by omega) with rfl | rfl | rfl | rfl | rfl | rfl | rfl | rfl | rfl <;> decide
theorem pos_bd (hP : PF μ a s bx m) (x : Int32) : 0 ≤ pos bx s x ∧ pos bx s x ≤ 72 := by
  have := fsum_bd (f := fun p => if hsb x p = true then bx (s - 1 - p) 1 else 0) (lo := 0) (hi := 9) s (fun j hj => by
    have hb := hP.bb (s - 1 - j) (by omega)
    unfold BB at hb
    show 0 ≤ (if hsb x j = true then bx (s - 1 - j) 1 else 0) ∧ (if hsb x j = true then bx (s - 1 - j) 1 else 0) ≤ 9
    split <;> omega)
  have hs := hP.2.1
  unfold pos
  omega
theorem vos_bd (hF : FQ μ h n ru ki s bx m ls) (x : Int32) : 0 ≤ vos ls ki bx m s x ∧ vos ls ki bx m s x ≤ 648 := by
  have := fsum_bd (f := fun p => if hsb x p = true then vpl ls ki bx m s p else 0) (lo := 0) (hi := 81) s (fun j hj => by
    have hb := vpl_bd hF hj
    show 0 ≤ (if hsb x j = true then vpl ls ki bx m s j else 0) ∧ (if hsb x j = true then vpl ls ki bx m s j else 0) ≤ 81
    split <;> omega)
  have hs := hF.2.2.2.1.2.1
  unfold vos
  omega
theorem dinner_G {z y : Int} (z1 : 1 ≤ z) (z2 : z ≤ 30) (y0 : 0 ≤ y) (y1 : y ≤ 1) (hF : FQ μ h n ru ki s bx m ls) (hv : ∀ j, j < s → xI μ 501 j = w (vpl ls ki bx m s j)) : ∀ (f t : Nat) (b r q : Int), (1 ≤ f ∧ t + f = 2 ^ s ∨ f = 0 ∧ 2 ^ s ≤ t ∧ t ≤ 256) → -1 ≤ r → r ≤ 64800 → 0 ≤ q → q ≤ 72 → Q (some (.int (w (sl2 y (dnr (pos bx s) (vos ls ki bx m s) (gts ki bx n s) z f t b r q))))) μ → G Γ m_FB_dinner (d + 3) (0, 0) Q 44 [.ref 32, .int (w z), .int (w y), .int (w b), .int (w r), .int (w q), .int (w t)] [] μ := by
  have hP := hF.2.2.2.1
  have hR := hF.1
  have hs := hP.2.1
  have h2 := pw_le hs
  intro f
  induction f with
  | zero =>
    intro t b r q ht r1 r2 q1 q2 hQ
    refine B_FB_dinner_44 hR.ob (hR.r 32 9 67 rfl) hP.1.ob ?_
    rw [hP.2.2.2.1, shl_w hs, w_lt (by omega) (by omega) (by omega) (by omega)]
    refine ⟨fun q => absurd q (by omega), fun _ => ?_⟩
    rw [w_inj (by omega) (by omega) (by omega) (by omega)]
    unfold dnr sl2 at hQ
    exact ⟨fun e => by rw [if_pos e] at hQ; exact hQ, fun e => by rw [if_neg e] at hQ; exact hQ⟩
  | succ f ih =>
    intro t b r q ht r1 r2 q1 q2 hQ
    refine B_FB_dinner_44 hR.ob (hR.r 32 9 67 rfl) hP.1.ob ?_
    rw [hP.2.2.2.1, shl_w hs, w_lt (by omega) (by omega) (by omega) (by omega)]
    refine ⟨fun _ => ?_, fun q => absurd (by omega) q⟩
    have ht' : (1 ≤ f ∧ t + 1 + f = 2 ^ s ∨ f = 0 ∧ 2 ^ s ≤ t + 1 ∧ t + 1 ≤ 256) := by omega
    have p1 := pos_bd hP (w t)
    have p2 := vos_bd hF (w t)
    unfold dnr at hQ
    refine (C_portionsOf (by omega) hR hP).conseq (KI.mono ?_)
    rintro v μ1 ⟨rfl, rfl⟩
    rw [w_lt (by omega) (by omega) (by omega) (by omega), w_add]
    refine ⟨fun e => ?_, fun e => ?_⟩
    · rw [if_pos (Or.inl e)] at hQ
      exact ih (t + 1) b r q ht' r1 r2 q1 q2 hQ
    · refine (C_goesTogether (by omega) hR hF.2.1 hP).conseq (KI.mono ?_)
      rintro v μ1 ⟨rfl, ⟨e2, rfl⟩ | ⟨e2, rfl⟩⟩
      · refine ⟨fun e3 => absurd e3 (by decide), fun _ => ?_⟩
        refine (C_valueOfSet (by omega) hF hv).conseq (KI.mono ?_)
        rintro v μ1 ⟨rfl, rfl⟩
        rw [if_neg (fun e3 => e3.elim e (fun e4 => by rw [e2] at e4; exact absurd e4 (by decide)))] at hQ
        have g0 : 0 ≤ vos ls ki bx m s (w t) * 100 / pos bx s (w t) := Int.ediv_nonneg (by omega) (by omega)
        have g1 : vos ls ki bx m s (w t) * 100 / pos bx s (w t) ≤ vos ls ki bx m s (w t) * 100 := Int.ediv_le_self _ (by omega)
        rw [w_mul, w_div (by omega) (by omega) (by omega) (by omega), w_lt (by omega) (by omega) (by omega) (by omega), w_lt (by omega) (by omega) (by omega) (by omega), w_inj (by omega) (by omega) (by omega) (by omega)]
        refine ⟨w_nz (by omega) (by omega), fun e3 => ?_, fun e3 => ⟨fun e4 => ⟨fun e5 => ?_, fun e5 => ?_⟩, fun e4 => ?_⟩⟩
        · rw [if_pos (Or.inl e3)] at hQ
          exact ih (t + 1) _ _ _ ht' (by omega) (by omega) (by omega) (by omega) hQ
        · rw [if_pos (Or.inr ⟨e4, e5⟩)] at hQ
          exact ih (t + 1) _ _ _ ht' (by omega) (by omega) (by omega) (by omega) hQ
        · rw [if_neg (fun e6 => e6.elim e3 (fun e7 => e5 e7.2))] at hQ
          exact ih (t + 1) _ _ _ ht' (by omega) (by omega) (by omega) (by omega) hQ
        · rw [if_neg (fun e6 => e6.elim e3 (fun e7 => e4 e7.1))] at hQ
          exact ih (t + 1) _ _ _ ht' (by omega) (by omega) (by omega) (by omega) hQ
      · refine ⟨fun _ => ?_, fun e3 => absurd rfl e3⟩
        rw [if_pos (Or.inr e2)] at hQ
        exact ih (t + 1) b r q ht' r1 r2 q1 q2 hQ
theorem C_dinnerF (hd : 7 ≤ d) (hF : FQ μ h n ru ki s bx m ls) {z y : Int} (z1 : -2147483648 ≤ z) (z2 : z < 2147483648) (y1 : -2147483648 ≤ y) (y2 : y < 2147483648) : Call Γ m_FB_dinner d [.ref 32, .int (w z), .int (w y)] μ (KI (fun r μ' => fof qcr μ μ' ∧ r = if 0 < n ∧ 1 ≤ z ∧ z ≤ 30 ∧ 0 ≤ y ∧ y ≤ 1 then w (sl2 y (dnr (pos bx s) (vos ls ki bx m s) (gts ki bx n s) z (2 ^ s - 1) 1 (-1) (-1) 0)) else w (-1))) := by
  obtain ⟨d, rfl⟩ : ∃ e, d = e + 7 := ⟨d - 7, by omega⟩
  refine Call.of ok_FB_dinner (Nat.le_of_ble_eq_true rfl) (B_FB_dinner_0 hF.1.ob ?_)
  refine (C_hasHouse (by omega) hF.1 hF.2.1).conseq (KI.mono ?_)
  rintro r μ1 ⟨rfl, ⟨hn, rfl⟩ | ⟨hn, rfl⟩⟩
  · refine ⟨fun q => absurd q (by decide), fun _ => ?_⟩
    rw [w_lt (by omega) (by omega) (by omega) (by omega), w_lt (by omega) (by omega) (by omega) (by omega), w_lt (by omega) (by omega) (by omega) (by omega), w_lt (by omega) (by omega) (by omega) (by omega)]
    refine ⟨fun q => ⟨_, rfl, fof.rf _ _, by rw [if_neg (by omega)]⟩, fun q => ⟨fun q2 => ⟨_, rfl, fof.rf _ _, by rw [if_neg (by omega)]⟩, fun q2 => ⟨fun q3 => ⟨_, rfl, fof.rf _ _, by rw [if_neg (by omega)]⟩, fun q3 => ⟨fun q4 => ⟨_, rfl, fof.rf _ _, by rw [if_neg (by omega)]⟩, fun q4 => ?_⟩⟩⟩⟩
    refine (C_fillValues (by omega) hF).conseq (KV.mono ?_)
    rintro μ2 ⟨ho, hv⟩
    have h2 := pw_le hF.2.2.2.1.2.1
    refine dinner_G (d := d + 4) (by omega) (by omega) (by omega) (by omega) (hF.q (ho.wide vcr_q)) hv (2 ^ s - 1) 1 (-1) (-1) 0 (by omega) (by omega) (by omega) (by omega) (by omega) ⟨_, rfl, ho.wide vcr_q, ?_⟩
    rw [if_pos (by omega)]
  · exact ⟨fun _ => ⟨_, rfl, fof.rf _ _, by rw [if_neg (by omega)]⟩, fun q => absurd rfl q⟩
end HG
