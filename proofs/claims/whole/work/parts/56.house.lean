/-! WHAT POINTS TO WHAT in the class, the house, what a portion is worth -/
def rF (a k : Nat) : Option Nat :=
  if a = 32 then (match k with | 0 => some 33 | 3 => some 65 | 6 => some 66 | 9 => some 67 | 10 => some 72 | 11 => some 77 | 12 => some 280 | 13 => some 382 | 14 => some 490 | 15 => some 493 | 16 => some 499 | 17 => some 500 | 18 => some 501 | _ => none)
  else if a = 33 then (match k with | 0 => some 34 | _ => none)
  else if a = 77 then (match k with | 0 => some 78 | 1 => some 79 | _ => none)
  else if a = 280 then (match k with | 0 => some 281 | _ => none)
  else if a = 388 then (match k with | 0 => some 389 | _ => none)
  else if a = 382 then (match k with | 0 => some 383 | 1 => some 388 | _ => none)
  else if a = 490 then (match k with | 0 => some 491 | 1 => some 492 | _ => none)
  else if a = 493 then (match k with | 0 => some 494 | 1 => some 495 | 2 => some 496 | 3 => some 497 | 4 => some 498 | _ => none)
  else none
/-- the class's references, but house and draft -/
def RF (μ : XM) : Prop := 574 ≤ xN μ ∧ (∀ a k v, rF a k = some v → xR μ a k = some v) ∧ PB μ 67 ∧ PB μ 72 ∧ PB μ 383 ∧ (∀ i, i < 40 → xR μ 78 i = some (80 + 5 * i) ∧ PB μ (80 + 5 * i)) ∧ (∀ i, i < 100 → xR μ 281 i = some (282 + i) ∧ xR μ 389 i = some (390 + i)) ∧ (∀ i, i < 5 → xR μ 65 i = some (502 + 9 * i) ∧ LB μ (502 + 9 * i) ∧ xR μ 66 i = some (506 + 9 * i) ∧ xR μ (506 + 9 * i) 0 = some (507 + 9 * i) ∧ xR μ (506 + 9 * i) 1 = some (508 + 9 * i) ∧ xR μ (506 + 9 * i) 2 = some (509 + 9 * i) ∧ xR μ (506 + 9 * i) 3 = some (510 + 9 * i))
theorem RF.N {μ : XM} (h : RF μ) : 574 ≤ xN μ := h.1
theorem RF.r {μ : XM} (h : RF μ) (a k v : Nat) (e : rF a k = some v) : xR μ a k = some v := h.2.1 a k v e
theorem RF.o {μ : XM} (h : RF μ) {a c : Nat} (e : shp a = some (.inl c)) (ha : a < 574) : ob μ a c := ob_of e ha h.1
theorem RF.ob {μ : XM} (h : RF μ) : ob μ 32 10 := h.o rfl (by omega)
theorem RF.of {μ μ' : XM} (h : RF μ) (h1 : xR μ' = xR μ) (h2 : xN μ' = xN μ) : RF μ' := by
  unfold RF PB LB at *; rw [h1, h2]; exact h
def HS (h : Nat) : Prop := h = 35 ∨ h = 50
theorem HS.s {h : Nat} (hh : HS h) : shp h = some (.inl 1) ∧ shp (h + 1) = some (.inr (0, 4)) ∧ shp (h + 2) = some (.inr (8, 6)) ∧ (∀ k, k < 6 → shp (h + 3 + k) = some (.inr (0, 5))) ∧ shp (h + 9) = some (.inr (0, 4)) := by
  rcases hh with rfl | rfl <;> refine ⟨rfl, rfl, rfl, ?_, rfl⟩ <;> decide
/-- a house at h: its references -/
def HH (μ : XM) (h : Nat) : Prop := HS h ∧ 574 ≤ xN μ ∧ xR μ h 0 = some (h + 1) ∧ xR μ h 1 = some (h + 2) ∧ xR μ h 2 = some (h + 9) ∧ xR μ h 3 = some (h + 10) ∧ PB μ (h + 10) ∧ ∀ k, k < 6 → xR μ (h + 2) k = some (h + 3 + k)
theorem HH.of {μ μ' : XM} {h : Nat} (hh : HH μ h) (h1 : xR μ' = xR μ) (h2 : xN μ' = xN μ) : HH μ' h := by
  unfold HH PB at *; rw [h1, h2]; exact hh
theorem HH.ob {μ : XM} {h : Nat} (hh : HH μ h) : ob μ h 1 := ob_of hh.1.s.1 (by have := hh.1; unfold HS at this; omega) hh.2.1
def KK (ki : Nat → Nat → Int) (n k : Nat) : Prop := 0 ≤ ki k 0 ∧ ki k 0 ≤ 5 ∧ 1 ≤ ki k 1 ∧ ki k 1 ≤ 9 ∧ 1 ≤ ki k 2 ∧ ki k 2 ≤ 36 ∧ 0 ≤ ki k 3 ∧ ki k 3 ≤ 9 ∧ 0 ≤ ki k 4 ∧ ki k 4 ≤ 6 ∧ (ki k 4 = 6 ∨ ki k 4 < n)
def RU (ru : Nat → Int) (n : Nat) : Prop := (0 ≤ ru 0 ∧ ru 0 ≤ 99 ∧ 0 ≤ ru 1 ∧ ru 1 ≤ 24 ∧ 0 ≤ ru 2 ∧ ru 2 ≤ 99 ∧ 0 ≤ ru 3 ∧ ru 3 ≤ 5) ∧ (0 < n → 1 ≤ ru 0 ∧ 1 ≤ ru 2)
/-- the house that holds, at h: n kinds ki, the rules ru -/
def HO (μ : XM) (h n : Nat) (ru : Nat → Int) (ki : Nat → Nat → Int) : Prop := HH μ h ∧ xR μ 32 1 = some h ∧ n ≤ 6 ∧ xI μ h 4 = w n ∧ RU ru n ∧ (∀ j, j < 4 → xI μ (h + 1) j = w (ru j)) ∧ ∀ k, k < n → (∀ j, j < 5 → xI μ (h + 3 + k) j = w (ki k j)) ∧ KK ki n k
theorem HO.of {μ μ' : XM} {h n : Nat} {ru : Nat → Int} {ki : Nat → Nat → Int} (hh : HO μ h n ru ki) (hx : ∀ c, h ≤ c → c ≤ h + 8 → ∀ j, xI μ' c j = xI μ c j) (h1 : xR μ' = xR μ) (h2 : xN μ' = xN μ) : HO μ' h n ru ki := by
  obtain ⟨a1, a2, a3, a4, a5, a6, a7⟩ := hh
  refine ⟨a1.of h1 h2, by rw [h1]; exact a2, a3, by rw [hx h (by omega) (by omega)]; exact a4, a5, fun j hj => by rw [hx (h + 1) (by omega) (by omega)]; exact a6 j hj, fun k hk => ⟨fun j hj => ?_, (a7 k hk).2⟩⟩
  rw [hx (h + 3 + k) (by omega) (by omega)]
  exact (a7 k hk).1 j hj
/-- outside of P nothing has changed -/
def fof (P : Nat → Prop) (μ μ' : XM) : Prop := (∀ c, ¬ P c → ∀ j, xI μ' c j = xI μ c j) ∧ xL μ' = xL μ ∧ xR μ' = xR μ ∧ xN μ' = xN μ
theorem fof.rf (P : Nat → Prop) (μ : XM) : fof P μ μ := ⟨fun _ _ _ => rfl, rfl, rfl, rfl⟩
theorem fof.trans {P : Nat → Prop} {μ μ1 μ2 : XM} (h1 : fof P μ μ1) (h2 : fof P μ1 μ2) : fof P μ μ2 := ⟨fun c hc j => (h2.1 c hc j).trans (h1.1 c hc j), h2.2.1.trans h1.2.1, h2.2.2.1.trans h1.2.2.1, h2.2.2.2.trans h1.2.2.2⟩
theorem fof.wide {P P' : Nat → Prop} {μ μ' : XM} (h : fof P μ μ') (hp : ∀ c, P c → P' c) : fof P' μ μ' := ⟨fun c hc j => h.1 c (fun q => hc (hp c q)) j, h.2⟩
theorem fof.sI {P : Nat → Prop} {a : Nat} (μ : XM) (k : Nat) (v : Int32) (h : P a) : fof P μ (sI μ a k v) := ⟨fun c hc j => by rw [xI_sI, if_neg (by rintro ⟨rfl, -⟩; exact hc h)], rfl, rfl, rfl⟩
theorem off.fof {P : Nat → Prop} {lo hi : Nat} {μ μ' : XM} (h : off lo hi μ μ') (hp : ∀ c, lo ≤ c → c < hi → P c) : fof P μ μ' := ⟨fun c hc j => h.1 c (Decidable.byContradiction fun q => hc (hp c (by omega) (by omega))) j, h.2⟩
/-- the letters and stacks of the laws -/
def scr (c : Nat) : Prop := c = 504 ∨ c = 505 ∨ c = 513 ∨ c = 514 ∨ c = 522 ∨ c = 523 ∨ c = 531 ∨ c = 532 ∨ c = 540 ∨ c = 541
/-- what questions may write -/
def qcr (c : Nat) : Prop := scr c ∨ (72 ≤ c ∧ c ≤ 76) ∨ c = 499 ∨ c = 501 ∨ c = 497 ∨ c = 498 ∨ c = 500
theorem scr_q (c : Nat) (h : scr c) : qcr c := Or.inl h
theorem PF.fof {P : Nat → Prop} {a s m : Nat} {bx : Nat → Nat → Int} {μ μ' : XM} (h : PF μ a s bx m) (ho : fof P μ μ') (hp : ∀ c, a ≤ c → c ≤ a + 4 → ¬ P c) : PF μ' a s bx m := h.of (fun c h1 h2 j => ho.1 c (hp c h1 h2) j) ho.2.2.1 ho.2.2.2
theorem HO.fof {P : Nat → Prop} {μ μ' : XM} {h n : Nat} {ru : Nat → Int} {ki : Nat → Nat → Int} (hh : HO μ h n ru ki) (ho : fof P μ μ') (hp : ∀ c, 35 ≤ c → c < 65 → ¬ P c) : HO μ' h n ru ki := by
  have hs := hh.1.1
  unfold HS at hs
  exact hh.of (fun c h1 h2 j => ho.1 c (hp c (by omega) (by omega)) j) ho.2.2.1 ho.2.2.2
/-- the loss that the law that holds tells, or the boxes' own -/
def FW (μ : XM) (ls : Int → Int → Int → Int → Int → Int → Int) : Prop := ∃ sel nl : Int, xI μ 32 5 = w sel ∧ xI μ 32 4 = w nl ∧ -1 ≤ sel ∧ (sel = -1 ∨ sel < nl) ∧ 0 ≤ nl ∧ nl ≤ 4 ∧ (sel < 0 → ∀ a o n y k m, ls a o n y k m = a - o) ∧ (0 ≤ sel → ∃ sz cd, LF μ (502 + 9 * sel.toNat) sz cd ∧ ∀ a o n y k m, ls a o n y k m = wst cd (evL a o n y k m) sz 0 0 (fun _ => 0) false)
theorem FW.fof {P : Nat → Prop} {μ μ' : XM} {ls : Int → Int → Int → Int → Int → Int → Int} (h : FW μ ls) (ho : fof P μ μ') (h32 : ¬ P 32) (hp : ∀ i, i < 4 → ¬ P (502 + 9 * i) ∧ ¬ P (503 + 9 * i)) : FW μ' ls := by
  obtain ⟨sel, nl, e1, e2, e3, e4, e5, e6, e7, e8⟩ := h
  refine ⟨sel, nl, by rw [ho.1 32 h32]; exact e1, by rw [ho.1 32 h32]; exact e2, e3, e4, e5, e6, e7, fun hs => ?_⟩
  obtain ⟨sz, cd, q1, q2⟩ := e8 hs
  refine ⟨sz, cd, q1.of (fun j => ho.1 _ (hp sel.toNat (by omega)).1 j) (fun j => ho.1 _ ?_ j) ho.2.2.1 ho.2.2.2, q2⟩
  have := (hp sel.toNat (by omega)).2
  rwa [show 503 + 9 * sel.toNat = 502 + 9 * sel.toNat + 1 by omega] at this
theorem jnd_SB (sg a b : Int) : SB (jnd sg a b) := by
  unfold jnd
  have := clp_bd (if sg = 38 then (w a &&& w b).toInt else if sg = 42 then a * b else if sg = 43 then a + b else if sg = 45 then a - b else if sg = 47 then (if b = 0 then 0 else a.tdiv b) else if sg = 60 then (if a < b then 1 else 0) else if sg = 61 then (if a = b then 1 else 0) else if sg = 62 then (if b < a then 1 else 0) else (w a ||| w b).toInt)
  exact ⟨this.1, by omega⟩
theorem wst_SB {cd ev : Nat → Int} (hev : ∀ j, SB (ev j)) : ∀ (f i t : Nat) (S : Nat → Int) (p : Bool), (∀ j, i ≤ j → j < i + f → CB (cd j)) → (∀ j, SB (S j)) → SB (wst cd ev f i t S p) := by
  intro f
  induction f with
  | zero => intro i t S p _ _; unfold wst; exact ⟨by decide, by decide⟩
  | succ f ih =>
    intro i t S p hc hS
    have z0 : SB 0 := ⟨by decide, by decide⟩
    have hi := hc i (by omega) (by omega)
    have hc' : ∀ j, i + 1 ≤ j → j < i + 1 + f → CB (cd j) := fun j h1 h2 => hc j (by omega) (by omega)
    have up : ∀ (k : Nat) (v : Int), SB v → ∀ j, SB (ups S k v j) := by
      intro k v hv j
      unfold ups
      split
      · exact hv
      · exact hS j
    unfold CB at hi
    unfold wst
    split
    · exact ih _ _ _ _ hc' hS
    · split
      · split
        · exact z0
        · refine ih _ _ _ _ hc' (up _ _ ?_)
          split
          · exact ⟨by omega, by omega⟩
          · exact hev _
      · split
        · exact z0
        · split
          · exact hS _
          · split
            · refine ih _ _ _ _ hc' (up _ _ ?_)
              have := hS (t - 1)
              exact ⟨by have := this.2; omega, by have := this.1; omega⟩
            · split
              · exact ih _ _ _ _ hc' hS
              · split
                · exact ih _ _ _ _ hc' hS
                · exact ih _ _ _ _ hc' (up _ _ (jnd_SB _ _ _))
/-- what a portion is worth -/
def pw (ls : Int → Int → Int → Int → Int → Int → Int) (ki : Nat → Nat → Int) (k n a y m : Int) : Int := max 0 (ki k.toNat 3 - max 0 (min 9 (ls a (ki k.toNat 2) n y k m)))
def vw (ls : Int → Int → Int → Int → Int → Int → Int) (ki bx : Nat → Nat → Int) (m : Nat) (i : Nat) (older later below : Int) : Int := bx i 1 * pw ls ki (bx i 0) (bx i 1) (min 99 (bx i 2 + older)) below (m + later)
theorem pw_bd {ls : Int → Int → Int → Int → Int → Int → Int} {ki : Nat → Nat → Int} {k n a y m : Int} {nn : Nat} (hk : KK ki nn k.toNat) : 0 ≤ pw ls ki k n a y m ∧ pw ls ki k n a y m ≤ 9 := by
  unfold KK at hk
  unfold pw
  omega
section HC
variable {Γ : XG} {d h n a s m : Nat} {ru : Nat → Int} {ki bx : Nat → Nat → Int} {ls : Int → Int → Int → Int → Int → Int → Int} {μ : XM} {Q : Option Value → XM → Prop}
theorem C_hasHouse (hd : 1 ≤ d) (hR : RF μ) (hH : HO μ h n ru ki) : Call Γ m_FB_hasHouse d [.ref 32] μ (KI (fun r μ' => μ' = μ ∧ ((0 < n ∧ r = w 1) ∨ (n = 0 ∧ r = w 0)))) := by
  obtain ⟨d, rfl⟩ : ∃ e, d = e + 1 := ⟨d - 1, by omega⟩
  refine Call.of ok_FB_hasHouse (Nat.le_of_ble_eq_true rfl) (B_FB_hasHouse_0 hR.ob hH.2.1 hH.1.ob ?_)
  have h6 := hH.2.2.1
  rw [hH.2.2.2.1, w_lt (by omega) (by omega) (by omega) (by omega)]
  exact ⟨fun q => ⟨_, rfl, rfl, Or.inl ⟨by omega, rfl⟩⟩, fun q => ⟨_, rfl, rfl, Or.inr ⟨by omega, rfl⟩⟩⟩
theorem C_isKindF (hd : 2 ≤ d) (hR : RF μ) (hH : HO μ h n ru ki) {z : Int} (h1 : -2147483648 ≤ z) (h2 : z < 2147483648) : Call Γ m_FB_isKind d [.ref 32, .int (w z)] μ (KI (fun r μ' => μ' = μ ∧ ((0 ≤ z ∧ z < n ∧ r = w 1) ∨ (¬ (0 ≤ z ∧ z < n) ∧ r = w 0)))) := by
  obtain ⟨d, rfl⟩ : ∃ e, d = e + 1 := ⟨d - 1, by omega⟩
  refine Call.of ok_FB_isKind (Nat.le_of_ble_eq_true rfl) (B_FB_isKind_0 hR.ob ?_)
  refine (C_hasHouse (by omega) hR hH).conseq (KI.mono ?_)
  have h6 := hH.2.2.1
  rintro r μ1 ⟨rfl, ⟨hn, rfl⟩ | ⟨hn, rfl⟩⟩
  · refine ⟨fun q => absurd q (by decide), fun _ => ?_⟩
    rw [w_lt (by omega) (by omega) (by omega) (by omega)]
    refine ⟨fun q => ⟨_, rfl, rfl, Or.inr ⟨by omega, rfl⟩⟩, fun q => ⟨h, hH.2.1, hH.1.ob, ?_⟩⟩
    rw [hH.2.2.2.1, w_lt (by omega) (by omega) (by omega) (by omega)]
    exact ⟨fun q => ⟨_, rfl, rfl, Or.inl ⟨by omega, by omega, rfl⟩⟩, fun q => ⟨_, rfl, rfl, Or.inr ⟨by omega, rfl⟩⟩⟩
  · exact ⟨fun _ => ⟨_, rfl, rfl, Or.inr ⟨by omega, rfl⟩⟩, fun q => absurd rfl q⟩
theorem HO.kr (hH : HO μ h n ru ki) {k : Int} (h0 : 0 ≤ k) (hk : k < n) : inb μ 8 (h + 2) (w k) ∧ xR μ (h + 2) (w k).toNatClampNeg = some (h + 3 + k.toNat) ∧ (∀ j : Int, 0 ≤ j → j < 5 → inb μ 0 (h + 3 + k.toNat) (w j)) ∧ (∀ j, j < 5 → xI μ (h + 3 + k.toNat) j = w (ki k.toNat j)) ∧ KK ki n k.toNat := by
  have hs := hH.1.1
  have h6 := hH.2.2.1
  have hN := hH.1.2.1
  have h3 := hs.s
  unfold HS at hs
  refine ⟨inb_of h3.2.2.1 (by omega) hN h0 (by omega), ?_, fun j hj1 hj2 => inb_of (h3.2.2.2.1 k.toNat (by omega)) (by omega) hN hj1 hj2, (hH.2.2.2.2.2.2 k.toNat (by omega)).1, (hH.2.2.2.2.2.2 k.toNat (by omega)).2⟩
  rw [w_cl (by omega) (by omega)]
  exact hH.1.2.2.2.2.2.2.2 k.toNat (by omega)
theorem PF.ib (h : PF μ a s bx m) {q : Nat} (h1 : 1 ≤ q) (h4 : q ≤ 4) {i : Nat} (hi : i < s) : inb μ 0 (a + q) (w i) := (h.1.is h1 h4 (i := i) (by omega) (by have := h.2.1; omega)).2
theorem C_portionWorth (hd : 3 ≤ d) (hR : RF μ) (hH : HO μ h n ru ki) (hW : FW μ ls) (hP : PF μ a s bx m) (ha : a + 4 < 502) {i : Nat} (hi : i < s) (hk : bx i 0 < n) {older later below : Int} (o1 : 0 ≤ older) (o2 : older ≤ 200) (l1 : 0 ≤ later) (l2 : later ≤ 200) (b1 : 0 ≤ below) (b2 : below ≤ 10) : Call Γ m_FB_portionWorth d [.ref 32, .ref a, .int (w i), .int (w older), .int (w later), .int (w below)] μ (KI (fun r μ' => fof scr μ μ' ∧ r = w (pw ls ki (bx i 0) (bx i 1) (min 99 (bx i 2 + older)) below (m + later)))) := by
  obtain ⟨d, rfl⟩ : ∃ e, d = e + 1 := ⟨d - 1, by omega⟩
  obtain ⟨sel, nl, e1, e2, e3, e4, e5, e6, e7, e8⟩ := hW
  have hs8 := hP.2.1
  have hm := hP.2.2.1
  obtain ⟨⟨x0, x1, x2, x3⟩, hb⟩ := hP.2.2.2.2.2 i hi
  have hb' := hb
  unfold BB at hb
  obtain ⟨k1, k2, k3, k4, k5⟩ := hH.kr (by omega) hk
  have k5' := k5
  unfold KK at k5
  have fin : ∀ (μ' : XM) (v : Int), fof scr μ μ' → SB v → (v = ls (min 99 (bx i 2 + older)) (ki (bx i 0).toNat 2) (bx i 1) below (bx i 0) (m + later)) → xI μ' (h + 3 + (bx i 0).toNat) 3 = xI μ (h + 3 + (bx i 0).toNat) 3 → KI (fun r μ' => fof scr μ μ' ∧ r = w (pw ls ki (bx i 0) (bx i 1) (min 99 (bx i 2 + older)) below (m + later))) (some (.int (jmax (w 0) ((xI μ' (h + 3 + (bx i 0).toNat) (w 3).toNatClampNeg) - (jmax (w 0) (jmin (w 9) (w v))))))) μ' := by
    intro μ' v ho hv ev e3
    refine ⟨_, rfl, ho, ?_⟩
    have hv1 := hv.1
    have hv2 := hv.2
    rw [show (w 3).toNatClampNeg = 3 by decide, e3, k4 3 (by omega), jmin_w (by omega) (by omega) (by omega) (by omega), jmax_w (by omega) (by omega) (by omega) (by omega), w_sub, jmax_w (by omega) (by omega) (by omega) (by omega)]
    unfold pw
    rw [ev]
  refine Call.of ok_FB_portionWorth (Nat.le_of_ble_eq_true rfl) (B_FB_portionWorth_0 hP.1.ob hP.1.2.2.1 hP.1.2.2.2.2.1 hR.ob hH.2.1 hH.1.ob hH.1.2.2.2.1 (hR.r 32 3 65 rfl) hP.1.2.2.2.1 ?_)
  rw [w_cln (by omega), x0, x1, x2, e1, e2, w_lt (by omega) (by omega) (by omega) (by omega), w_lt (by omega) (by omega) (by omega) (by omega), hP.2.2.2.2.1, w_add, w_add, jmin_w (by omega) (by omega) (by omega) (by omega)]
  refine ⟨hP.ib (q := 1) (by omega) (by omega) hi, hP.ib (q := 3) (by omega) (by omega) hi, k1, _, k2, k3 2 (by omega) (by omega), fun q => ⟨k1, _, k2, k3 3 (by omega) (by omega), ?_⟩, fun q => ⟨fun q2 => ?_, fun q2 => absurd q2 (by omega)⟩⟩
  · rw [show (w 2).toNatClampNeg = 2 by decide, k4 2 (by omega), w_sub]
    exact fin μ _ (fof.rf _ _) ⟨by omega, by omega⟩ (by rw [e7 q]) rfl
  · obtain ⟨r1, r2, -⟩ := hR.2.2.2.2.2.2.2 sel.toNat (by omega)
    obtain ⟨sz, cd, q3, q4⟩ := e8 (by omega)
    rw [show (w 2).toNatClampNeg = 2 by decide, k4 2 (by omega)]
    refine ⟨inb_of (show shp 65 = some (.inr (5, 5)) from rfl) (by omega) hR.1 (by omega) (by omega), 502 + 9 * sel.toNat, by rw [w_cl (by omega) (by omega)]; exact r1, hP.ib (q := 2) (by omega) (by omega) hi, q3.1.ob, ?_⟩
    refine (C_worth (by omega) q3 ?_).conseq (KI.mono ?_)
    · intro j hj
      unfold evL
      split
      · omega
      · split
        · omega
        · split
          · omega
          · split
            · omega
            · split <;> omega
    · rintro r μ1 ⟨ho, rfl⟩
      have sl : sel.toNat < 4 := by omega
      have ho' : fof scr μ μ1 := ho.fof (fun c c1 c2 => by unfold scr; omega)
      have hh := hH.1.1
      unfold HS at hh
      refine ⟨by rw [ho.2.2.1]; exact hH.2.1, by rw [ho.2.2.1]; exact hH.1.2.2.2.1, inb_of hH.1.1.s.2.2.1 (by omega) (by rw [ho.2.2.2]; exact hR.1) (by omega) (by have := hH.2.2.1; omega), h + 3 + (bx i 0).toNat, by rw [ho.2.2.1]; exact k2, inb_of (hH.1.1.s.2.2.2.1 _ (by have := hH.2.2.1; omega)) (by have := hH.2.2.1; omega) (by rw [ho.2.2.2]; exact hR.1) (by omega) (by omega), ?_⟩
      refine fin μ1 _ ho' (wst_SB ?_ sz 0 0 _ false (fun j j1 j2 => (q3.2.2.2 j (by omega)).2) (fun j => ⟨by decide, by decide⟩)) (by rw [q4]) (ho.1 _ (by have := hH.2.2.1; omega) 3)
      intro j
      unfold evL SB
      split
      · omega
      · split
        · omega
        · split
          · omega
          · split
            · omega
            · split <;> omega
end HC
