/-! LAW, HABIT; WHAT WAS FOUND, ROWS -/
/-- the loss by the law sel (-1: none), the laws being lz signs lc -/
def lsof (sel : Int) (lz : Nat → Nat) (lc : Nat → Nat → Int) : Int → Int → Int → Int → Int → Int → Int := fun a o n y k m => if sel < 0 then a - o else wst (lc sel.toNat) (evL a o n y k m) (lz sel.toNat) 0 0 (fun _ => 0) false
/-- the laws told, and the one that holds -/
def LW (μ : XM) (lt : Nat) (lz : Nat → Nat) (lc : Nat → Nat → Int) (sel : Int) : Prop := lt ≤ 4 ∧ xI μ 32 4 = w lt ∧ xI μ 32 5 = w sel ∧ -1 ≤ sel ∧ sel < lt ∧ ∀ i, i < lt → LF μ (502 + 9 * i) (lz i) (lc i)
theorem LW.fw {μ : XM} {lt : Nat} {lz : Nat → Nat} {lc : Nat → Nat → Int} {sel : Int} (h : LW μ lt lz lc sel) : FW μ (lsof sel lz lc) := by
  obtain ⟨h1, h2, h3, h4, h5, h6⟩ := h
  refine ⟨sel, lt, h3, h2, h4, Or.inr h5, by omega, by omega, fun q a o n y k m => ?_, fun q => ⟨lz sel.toNat, lc sel.toNat, h6 _ (by omega), fun a o n y k m => ?_⟩⟩
  · unfold lsof; rw [if_pos q]
  · unfold lsof; rw [if_neg (by omega)]
theorem LW.fof {P : Nat → Prop} {μ μ' : XM} {lt : Nat} {lz : Nat → Nat} {lc : Nat → Nat → Int} {sel : Int} (h : LW μ lt lz lc sel) (ho : fof P μ μ') (h32 : ¬ P 32) (hp : ∀ i, i < 4 → ¬ P (502 + 9 * i) ∧ ¬ P (503 + 9 * i)) : LW μ' lt lz lc sel := by
  obtain ⟨h1, h2, h3, h4, h5, h6⟩ := h
  refine ⟨h1, by rw [ho.1 32 h32]; exact h2, by rw [ho.1 32 h32]; exact h3, h4, h5, fun i hi => (h6 i hi).of (fun j => ho.1 _ (hp i (by omega)).1 j) (fun j => ho.1 _ ?_ j) ho.2.2.1 ho.2.2.2⟩
  have := (hp i (by omega)).2
  rwa [show 503 + 9 * i = 502 + 9 * i + 1 by omega] at this
/-- one cell of the class's own fields -/
def onF (k : Nat) (μ μ' : XM) : Prop := (∀ c j, ¬ (c = 32 ∧ j = k) → xI μ' c j = xI μ c j) ∧ xL μ' = xL μ ∧ xR μ' = xR μ ∧ xN μ' = xN μ
theorem onF.rf (k : Nat) (μ : XM) : onF k μ μ := ⟨fun _ _ _ => rfl, rfl, rfl, rfl⟩
theorem onF.sI (k : Nat) (μ : XM) (v : Int32) : onF k μ (sI μ 32 k v) := ⟨fun c j h => by rw [xI_sI, if_neg h], rfl, rfl, rfl⟩
/-- c things found: box, kind, is it so -/
def FD (μ : XM) (c : Nat) (fd : Nat → Nat → Int) : Prop := c ≤ 10 ∧ xI μ 493 5 = w c ∧ ∀ i, i < c → (xI μ 494 i = w (fd i 0) ∧ xI μ 495 i = w (fd i 1) ∧ xI μ 496 i = w (fd i 2)) ∧ 0 ≤ fd i 0 ∧ fd i 0 < 6 ∧ 0 ≤ fd i 1 ∧ fd i 1 < 6 ∧ (fd i 2 = 0 ∨ fd i 2 = 1)
theorem FD.fof {P : Nat → Prop} {μ μ' : XM} {c : Nat} {fd : Nat → Nat → Int} (h : FD μ c fd) (ho : fof P μ μ') (hp : ∀ c, 493 ≤ c → c ≤ 496 → ¬ P c) : FD μ' c fd := ⟨h.1, by rw [ho.1 493 (hp _ (by omega) (by omega))]; exact h.2.1, fun i hi => by
  rw [ho.1 494 (hp _ (by omega) (by omega)), ho.1 495 (hp _ (by omega) (by omega)), ho.1 496 (hp _ (by omega) (by omega))]
  exact h.2.2 i hi⟩
def fput (fd : Nat → Nat → Int) (c : Nat) (x y v : Int) : Nat → Nat → Int := fun i t => if i = c then (if t = 0 then x else if t = 1 then y else v) else fd i t
def dcr (c : Nat) : Prop := 493 ≤ c ∧ c ≤ 496
theorem sh494 : shp 494 = some (.inr (0, 10)) ∧ shp 495 = some (.inr (0, 10)) ∧ shp 496 = some (.inr (2, 10)) ∧ shp 497 = some (.inr (0, 6)) ∧ shp 498 = some (.inr (0, 6)) := ⟨rfl, rfl, rfl, rfl, rfl⟩
section PA
variable {Γ : XG} {d h n c : Nat} {ru : Nat → Int} {ki fd : Nat → Nat → Int} {μ : XM} {Q : Option Value → XM → Prop}
theorem C_lawF (hd : 1 ≤ d) (hR : RF μ) {lt : Nat} (hl : lt ≤ 4) (e4 : xI μ 32 4 = w lt) {z : Int} (z1 : -2147483648 ≤ z) (z2 : z < 2147483648) : Call Γ m_FB_law d [.ref 32, .int (w z)] μ (KI (fun r μ' => onF 5 μ μ' ∧ (((-1 ≤ z ∧ z < lt) ∧ r = w 1 ∧ xI μ' 32 5 = w z) ∨ (¬ (-1 ≤ z ∧ z < lt) ∧ r = w 0 ∧ μ' = μ)))) := by
  obtain ⟨d, rfl⟩ : ∃ e, d = e + 1 := ⟨d - 1, by omega⟩
  refine Call.of ok_FB_law (Nat.le_of_ble_eq_true rfl) (B_FB_law_0 hR.ob ?_)
  rw [e4, w_lt (by omega) (by omega) (by omega) (by omega), w_lt (by omega) (by omega) (by omega) (by omega)]
  refine ⟨fun q => ⟨_, rfl, onF.rf _ _, Or.inr ⟨by omega, rfl, rfl⟩⟩, fun q => ⟨fun q2 => ?_, fun q2 => ⟨_, rfl, onF.rf _ _, Or.inr ⟨by omega, rfl, rfl⟩⟩⟩⟩
  rintro μ1 rfl
  exact ⟨_, rfl, onF.sI _ _ _, Or.inl ⟨by omega, rfl, by rw [xI_sI, if_pos ⟨rfl, rfl⟩]⟩⟩
theorem C_habitF (hd : 1 ≤ d) (hR : RF μ) {hab : Int} (h0 : 0 ≤ hab) (h9 : hab ≤ 9) (e8 : xI μ 32 8 = w hab) {z : Int} (z1 : -2147483648 ≤ z) (z2 : z < 2147483648) : Call Γ m_FB_habit d [.ref 32, .int (w z)] μ (KI (fun r μ' => onF 8 μ μ' ∧ (((0 ≤ z ∧ z ≤ 9 ∧ ¬ z = hab) ∧ r = w 1 ∧ xI μ' 32 8 = w z) ∨ (¬ (0 ≤ z ∧ z ≤ 9 ∧ ¬ z = hab) ∧ r = w 0 ∧ μ' = μ)))) := by
  obtain ⟨d, rfl⟩ : ∃ e, d = e + 1 := ⟨d - 1, by omega⟩
  refine Call.of ok_FB_habit (Nat.le_of_ble_eq_true rfl) (B_FB_habit_0 hR.ob ?_)
  rw [e8, w_lt (by omega) (by omega) (by omega) (by omega), w_lt (by omega) (by omega) (by omega) (by omega), w_inj (by omega) (by omega) (by omega) (by omega)]
  refine ⟨fun q => ⟨_, rfl, onF.rf _ _, Or.inr ⟨by omega, rfl, rfl⟩⟩, fun q => ⟨fun q2 => ⟨_, rfl, onF.rf _ _, Or.inr ⟨by omega, rfl, rfl⟩⟩, fun q2 => ⟨fun q3 => ⟨_, rfl, onF.rf _ _, Or.inr ⟨by omega, rfl, rfl⟩⟩, fun q3 => ?_⟩⟩⟩
  rintro μ1 rfl
  exact ⟨_, rfl, onF.sI _ _ _, Or.inl ⟨by omega, rfl, by rw [xI_sI, if_pos ⟨rfl, rfl⟩]⟩⟩
theorem C_foundF (hd : 3 ≤ d) (hR : RF μ) (hH : HO μ h n ru ki) (hD : FD μ c fd) {x y v : Int} (x1 : -2147483648 ≤ x) (x2 : x < 2147483648) (y1 : -2147483648 ≤ y) (y2 : y < 2147483648) (hv : v = 0 ∨ v = 1) : Call Γ m_FB_found d [.ref 32, .int (w x), .int (w y), .int (w v)] μ (KI (fun r μ' => fof dcr μ μ' ∧ (((0 ≤ y ∧ y < n ∧ 0 ≤ x ∧ x < 6 ∧ c < 10) ∧ r = w ((c + 1 : Nat) : Int) ∧ FD μ' (c + 1) (fput fd c x y v)) ∨ (¬ (0 ≤ y ∧ y < n ∧ 0 ≤ x ∧ x < 6 ∧ c < 10) ∧ r = w (-1) ∧ FD μ' c fd)))) := by
  obtain ⟨d, rfl⟩ : ∃ e, d = e + 2 := ⟨d - 2, by omega⟩
  have hc := hD.1
  have hn := hH.2.2.1
  refine Call.of ok_FB_found (Nat.le_of_ble_eq_true rfl) (B_FB_found_0 hR.ob ?_)
  refine (C_isKindF (by omega) hR hH y1 y2).conseq (KI.mono ?_)
  rintro r μ1 ⟨rfl, ⟨g1, g2, rfl⟩ | ⟨g1, rfl⟩⟩
  · refine ⟨fun q => absurd q (by decide), fun _ => ?_⟩
    rw [w_lt (by omega) (by omega) (by omega) (by omega), w_lt (by omega) (by omega) (by omega) (by omega)]
    refine ⟨fun q => ⟨_, rfl, fof.rf _ _, Or.inr ⟨by omega, rfl, hD⟩⟩, fun q => ⟨fun q2 => ⟨493, hR.r 32 15 493 rfl, hR.o rfl (by omega), ?_⟩, fun q2 => ⟨_, rfl, fof.rf _ _, Or.inr ⟨by omega, rfl, hD⟩⟩⟩⟩
    rw [hD.2.1, w_lt (by omega) (by omega) (by omega) (by omega)]
    refine ⟨fun q3 => ?_, fun q3 => ⟨_, rfl, fof.rf _ _, Or.inr ⟨by omega, rfl, hD⟩⟩⟩
    refine Call.of ok_Pa_add (Nat.le_of_ble_eq_true rfl) (B_Pa_add_0 (hR.o rfl (by omega)) (hR.r 493 0 494 rfl) (hR.r 493 1 495 rfl) (hR.r 493 2 496 rfl) ?_)
    rw [hD.2.1, w_lt (by omega) (by omega) (by omega) (by omega), w_cln (by omega)]
    refine ⟨fun _ => ⟨inS_of sh494.1 (by omega) hR.1 (by omega) (by omega) (by omega), ?_⟩, fun z => absurd q3 z⟩
    rintro μ2 rfl
    simp (disch := omega) only [xI_sI, if_neg, hD.2.1, w_cln]
    refine ⟨inS_of sh494.2.1 (by omega) hR.1 (by omega) (by omega) (by omega), ?_⟩
    rintro μ4 rfl
    simp (disch := omega) only [xI_sI, if_neg, hD.2.1, w_cln]
    refine ⟨inS_of sh494.2.2.1 (by omega) hR.1 (by omega) (by omega) (by omega), by rcases hv with rfl | rfl <;> simp, ?_⟩
    rintro μ6 rfl μ7 rfl
    simp (disch := omega) only [xI_sI, if_neg, hD.2.1, w_add]
    refine ⟨rfl, hR.r 32 15 493 rfl, _, rfl, (((fof.sI _ _ _ (by unfold dcr; omega)).trans (fof.sI _ _ _ (by unfold dcr; omega))).trans (fof.sI _ _ _ (by unfold dcr; omega))).trans (fof.sI _ _ _ (by unfold dcr; omega)), Or.inl ⟨⟨g1, g2, by omega, by omega, by omega⟩, ?_, by omega, ?_, fun i hi => ?_⟩⟩
    · rw [xI_sI, if_pos ⟨rfl, rfl⟩]; rfl
    · rw [xI_sI, if_pos ⟨rfl, rfl⟩]; rfl
    · simp (disch := omega) only [xI_sI, if_neg]
      unfold fput
      by_cases e : i = c
      · subst e
        simp
        omega
      · obtain ⟨⟨l0, l1, l2⟩, l3⟩ := hD.2.2 i (by omega)
        simp [e]
        exact ⟨⟨l0, l1, l2⟩, l3⟩
  · exact ⟨fun _ => ⟨_, rfl, fof.rf _ _, Or.inr ⟨by omega, rfl, hD⟩⟩, fun q => absurd rfl q⟩
/-- a row of six kinds at cell b -/
def RW (μ : XM) (b : Nat) (x : Nat → Int) : Prop := ∀ i, i < 6 → xI μ b i = w (x i) ∧ 0 ≤ x i ∧ x i < 6
/-- the row fits the first k of what was found -/
def fit (fd : Nat → Nat → Int) (x : Nat → Int) (c : Nat) : Prop := ∀ i, i < c → (x (fd i 0).toNat = fd i 1 ↔ fd i 2 = 1)
theorem fitsAll_G (hR : RF μ) (hD : FD μ c fd) {x : Nat → Int} (hx : RW μ 497 x) : ∀ (f i : Nat), i + f = c → (∀ j, j < i → (x (fd j 0).toNat = fd j 1 ↔ fd j 2 = 1)) → (fit fd x c → Q (some (.int (w 1))) μ) → (¬ fit fd x c → Q (some (.int (w 0))) μ) → G Γ m_Pa_fitsAll (d + 1) (0, 0) Q 2 [.ref 493, .int (w i)] [] μ := by
  have hc := hD.1
  intro f
  induction f with
  | zero =>
    intro i hi hj q1 q0
    refine B_Pa_fitsAll_2 (hR.o rfl (by omega)) (hR.r 493 3 497 rfl) (hR.r 493 0 494 rfl) (hR.r 493 1 495 rfl) (hR.r 493 2 496 rfl) ?_
    rw [hD.2.1, w_lt (by omega) (by omega) (by omega) (by omega)]
    exact ⟨fun q => absurd q (by omega), fun _ => q1 (fun j hj' => hj j (by omega))⟩
  | succ f ih =>
    intro i hi hj q1 q0
    refine B_Pa_fitsAll_2 (hR.o rfl (by omega)) (hR.r 493 3 497 rfl) (hR.r 493 0 494 rfl) (hR.r 493 1 495 rfl) (hR.r 493 2 496 rfl) ?_
    obtain ⟨⟨f0, f1, f2⟩, f3, f4, f5, f6, f7⟩ := hD.2.2 i (by omega)
    obtain ⟨x0, x1, x2⟩ := hx (fd i 0).toNat (by omega)
    rw [hD.2.1, w_lt (by omega) (by omega) (by omega) (by omega), w_cln (by omega), f0, f1, f2, w_cl (by omega) (by omega), x0, w_inj (by omega) (by omega) (by omega) (by omega), w_inj (by omega) (by omega) (by omega) (by omega), w_inj (by omega) (by omega) (by omega) (by omega), w_add]
    have nx : (x (fd i 0).toNat = fd i 1 ↔ fd i 2 = 1) → G Γ m_Pa_fitsAll (d + 1) (0, 0) Q 2 [.ref 493, .int (w ((i : Int) + 1))] [] μ := fun e => ih (i + 1) (by omega) (fun j hj' => by
      rcases Nat.lt_or_eq_of_le (Nat.le_of_lt_succ hj') with z | z
      · exact hj j z
      · rw [z]; exact e) q1 q0
    have no : ¬ (x (fd i 0).toNat = fd i 1 ↔ fd i 2 = 1) → Q (some (.int (w 0))) μ := fun e => q0 (fun z => e (z i (by omega)))
    refine ⟨fun _ => ⟨inb_of sh494.1 (by omega) hR.1 (by omega) (by omega), inb_of sh494.2.2.2.1 (by omega) hR.1 (by omega) (by omega), inb_of sh494.2.1 (by omega) hR.1 (by omega) (by omega), fun e => ⟨inb_of sh494.2.2.1 (by omega) hR.1 (by omega) (by omega), fun e2 => nx ⟨fun _ => by omega, fun _ => e⟩, fun e2 => no (fun z => by have := z.mp e; omega)⟩, fun e => ⟨inb_of sh494.2.2.1 (by omega) hR.1 (by omega) (by omega), fun e2 => nx ⟨fun z => absurd z e, fun z => by omega⟩, fun e2 => no (fun z => e (z.mpr (by omega)))⟩⟩, fun q => absurd (by omega) q⟩
theorem C_fitsAll (hd : 1 ≤ d) (hR : RF μ) (hD : FD μ c fd) {x : Nat → Int} (hx : RW μ 497 x) : Call Γ m_Pa_fitsAll d [.ref 493] μ (KI (fun r μ' => μ' = μ ∧ ((fit fd x c ∧ r = w 1) ∨ (¬ fit fd x c ∧ r = w 0)))) := by
  obtain ⟨d, rfl⟩ : ∃ e, d = e + 1 := ⟨d - 1, by omega⟩
  refine Call.of ok_Pa_fitsAll (Nat.le_of_ble_eq_true rfl) (B_Pa_fitsAll_0 ?_)
  exact fitsAll_G hR hD hx c 0 (by omega) (fun j hj => absurd hj (by omega)) (fun e => ⟨_, rfl, rfl, Or.inl ⟨e, rfl⟩⟩) (fun e => ⟨_, rfl, rfl, Or.inr ⟨e, rfl⟩⟩)
/-- the digits of the first i of a row -/
def dgs (x : Nat → Int) : Nat → Int
  | 0 => 0
  | i + 1 => dgs x i * 10 + x i
theorem rowAsDigits_G (hR : RF μ) {x : Nat → Int} (hx : RW μ 497 x) : ∀ (f i : Nat), i + f = 6 → Q (some (.int (w (dgs x 6)))) μ → G Γ m_Pa_rowAsDigits (d + 1) (0, 0) Q 4 [.ref 493, .int (w (dgs x i)), .int (w i)] [] μ := by
  intro f
  induction f with
  | zero =>
    intro i hi hQ
    refine B_Pa_rowAsDigits_4 (hR.o rfl (by omega)) (hR.r 493 3 497 rfl) ?_
    rw [w_lt (by omega) (by omega) (by omega) (by omega)]
    refine ⟨fun q => absurd q (by omega), fun _ => ?_⟩
    rw [show i = 6 by omega]
    exact hQ
  | succ f ih =>
    intro i hi hQ
    refine B_Pa_rowAsDigits_4 (hR.o rfl (by omega)) (hR.r 493 3 497 rfl) ?_
    rw [w_lt (by omega) (by omega) (by omega) (by omega), w_cln (by omega), (hx i (by omega)).1, w_mul, w_add, w_add]
    exact ⟨fun _ => ⟨inb_of sh494.2.2.2.1 (by omega) hR.1 (by omega) (by omega), ih (i + 1) (by omega) hQ⟩, fun q => absurd (by omega) q⟩
theorem C_rowAsDigits (hd : 1 ≤ d) (hR : RF μ) {x : Nat → Int} (hx : RW μ 497 x) : Call Γ m_Pa_rowAsDigits d [.ref 493] μ (KI (fun r μ' => μ' = μ ∧ r = w (dgs x 6))) := by
  obtain ⟨d, rfl⟩ : ∃ e, d = e + 1 := ⟨d - 1, by omega⟩
  exact Call.of ok_Pa_rowAsDigits (Nat.le_of_ble_eq_true rfl) (B_Pa_rowAsDigits_0 (rowAsDigits_G hR hx 6 0 (by omega) ⟨_, rfl, rfl, rfl⟩))
theorem C_keepRow (hd : 2 ≤ d) (hR : RF μ) {x : Nat → Int} (hx : RW μ 497 x) : Call Γ m_Pa_keepRow d [.ref 493] μ (KI (fun r μ' => off 498 499 μ μ' ∧ RW μ' 498 x ∧ r = w 63)) := by
  obtain ⟨d, rfl⟩ : ∃ e, d = e + 2 := ⟨d - 2, by omega⟩
  refine Call.of ok_Pa_keepRow (Nat.le_of_ble_eq_true rfl) (B_Pa_keepRow_0 (hR.o rfl (by omega)) (hR.r 493 3 497 rfl) (hR.r 493 4 498 rfl) ⟨cpo_of sh494.2.2.2.1 sh494.2.2.2.2 (by omega) (by omega) (by omega) hR.1 (by omega) (by omega), ?_⟩)
  rintro μ2 rfl
  refine ⟨_, rfl, off.sC μ 497 6 (by omega) (by omega), fun i hi => ?_, rfl⟩
  rw [xI_sC, if_pos ⟨rfl, hi⟩]
  exact hx i hi
theorem likeKept_G (hR : RF μ) {x y : Nat → Int} (hx : RW μ 497 x) (hy : RW μ 498 y) : ∀ (f i : Nat), i + f = 6 → Q (some (.int (btw (fun i => decide (x i = y i)) 6))) μ → G Γ m_Pa_likeKept (d + 1) (0, 0) Q 4 [.ref 493, .int (btw (fun i => decide (x i = y i)) i), .int (w i)] [] μ := by
  intro f
  induction f with
  | zero =>
    intro i hi hQ
    refine B_Pa_likeKept_4 (hR.o rfl (by omega)) (hR.r 493 3 497 rfl) (hR.r 493 4 498 rfl) ?_
    rw [w_lt (by omega) (by omega) (by omega) (by omega)]
    refine ⟨fun q => absurd q (by omega), fun _ => ?_⟩
    rw [show i = 6 by omega]
    exact hQ
  | succ f ih =>
    intro i hi hQ
    have nx := ih (i + 1) (by omega) hQ
    obtain ⟨x0, x1, x2⟩ := hx i (by omega)
    obtain ⟨y0, y1, y2⟩ := hy i (by omega)
    refine B_Pa_likeKept_4 (hR.o rfl (by omega)) (hR.r 493 3 497 rfl) (hR.r 493 4 498 rfl) ?_
    rw [w_lt (by omega) (by omega) (by omega) (by omega), w_cln (by omega), x0, y0, w_inj (by omega) (by omega) (by omega) (by omega), w_add]
    rw [btw] at nx
    refine ⟨fun _ => ⟨inb_of sh494.2.2.2.1 (by omega) hR.1 (by omega) (by omega), inb_of sh494.2.2.2.2 (by omega) hR.1 (by omega) (by omega), fun e => ?_, fun e => ?_⟩, fun q => absurd (by omega) q⟩
    · rw [if_pos (decide_eq_true e)] at nx
      exact nx
    · rw [if_neg (fun z => e (of_decide_eq_true z))] at nx
      rw [show w 0 = (0 : Int32) from rfl, Int32.or_zero]
      exact nx
theorem C_likeKept (hd : 1 ≤ d) (hR : RF μ) {x y : Nat → Int} (hx : RW μ 497 x) (hy : RW μ 498 y) : Call Γ m_Pa_likeKept d [.ref 493] μ (KI (fun r μ' => μ' = μ ∧ r = btw (fun i => decide (x i = y i)) 6)) := by
  obtain ⟨d, rfl⟩ : ∃ e, d = e + 1 := ⟨d - 1, by omega⟩
  exact Call.of ok_Pa_likeKept (Nat.le_of_ble_eq_true rfl) (B_Pa_likeKept_0 (likeKept_G hR hx hy 6 0 (by omega) ⟨_, rfl, rfl, rfl⟩))
end PA
