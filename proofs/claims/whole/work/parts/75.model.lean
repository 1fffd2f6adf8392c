/-! THE REFERENCE: what points to what, its rows, small methods -/
def rM (k : Nat) : Option Nat := match k with
  | 1 => some 548 | 2 => some 549 | 3 => some 550 | 4 => some 551 | 18 => some 552 | 19 => some 553 | 20 => some 554 | 21 => some 555 | 22 => some 556 | 23 => some 557 | 24 => some 558 | 30 => some 559 | 31 => some 560 | 34 => some 561 | 35 => some 562 | 36 => some 563 | 41 => some 564 | 42 => some 565 | 44 => some 566 | 45 => some 567 | 46 => some 568 | 47 => some 569 | 48 => some 570 | 49 => some 571 | 54 => some 572 | _ => none
def RM (μ : XM) : Prop := 574 ≤ xN μ ∧ ∀ k v, rM k = some v → xR μ 547 k = some v
theorem RM.r {μ : XM} (h : RM μ) (k v : Nat) (e : rM k = some v) : xR μ 547 k = some v := h.2 k v e
theorem RM.o {μ : XM} (h : RM μ) : ob μ 547 11 := ob_of rfl (by omega) h.1
theorem RM.of {μ μ' : XM} (h : RM μ) (h1 : xR μ' = xR μ) (h2 : xN μ' = xN μ) : RM μ' := by
  unfold RM at *; rw [h1, h2]; exact h
theorem shmod : shp 552 = some (.inr (0, 4)) ∧ shp 554 = some (.inr (0, 30)) ∧ shp 559 = some (.inr (0, 283)) ∧ shp 560 = some (.inr (0, 283)) ∧ shp 572 = some (.inr (0, 283)) ∧ shp 563 = some (.inr (0, 11320)) := ⟨rfl, rfl, rfl, rfl, rfl, rfl⟩
/-- the reference's house -/
def HM (μ : XM) (n : Nat) (ru : Nat → Int) (ki : Nat → Nat → Int) : Prop := RM μ ∧ n ≤ 6 ∧ xI μ 547 25 = w n ∧ RU ru n ∧ (∀ j, j < 4 → xI μ 552 j = w (ru j)) ∧ ∀ k, k < n → (∀ j, j < 5 → xI μ 554 (5 * k + j) = w (ki k j)) ∧ KK ki n k
theorem HM.fof {P : Nat → Prop} {μ μ' : XM} {n : Nat} {ru : Nat → Int} {ki : Nat → Nat → Int} (h : HM μ n ru ki) (ho : fof P μ μ') (hp : ¬ P 547 ∧ ¬ P 552 ∧ ¬ P 554) : HM μ' n ru ki := ⟨h.1.of ho.2.2.1 ho.2.2.2, h.2.1, by rw [ho.1 547 hp.1]; exact h.2.2.1, h.2.2.2.1, fun j hj => by rw [ho.1 552 hp.2.1]; exact h.2.2.2.2.1 j hj, fun k hk => ⟨fun j hj => by rw [ho.1 554 hp.2.2]; exact (h.2.2.2.2.2 k hk).1 j hj, (h.2.2.2.2.2 k hk).2⟩⟩
/-- a row of the reference, at o in cell a: boxes from the top, month, the last meals -/
def NR (μ : XM) (a o s : Nat) (bx : Nat → Nat → Int) (m T : Nat) (mg : Nat → Nat → Int) : Prop := s ≤ 8 ∧ m ≤ 999 ∧ xI μ a (o + 40) = w s ∧ xI μ a (o + 41) = w m ∧ xI μ a (o + 42) = w ((min 60 T : Nat) : Int) ∧ (∀ b, b < s → (xI μ a (o + 5 * b) = w (bx (s - 1 - b) 0) ∧ xI μ a (o + 5 * b + 1) = w (bx (s - 1 - b) 1) ∧ xI μ a (o + 5 * b + 2) = w (bx (s - 1 - b) 2) ∧ xI μ a (o + 5 * b + 3) = w (if bx (s - 1 - b) 3 = -1 then 0 else 1) ∧ (¬ bx (s - 1 - b) 3 = -1 → xI μ a (o + 5 * b + 4) = w (bx (s - 1 - b) 3))) ∧ BB bx (s - 1 - b)) ∧ ∀ k, k < min 60 T → ∀ q, q < 4 → xI μ a (o + 43 + 4 * k + q) = w (mg (T - min 60 T + k) q)
section MO
variable {Γ : XG} {d n a s m T : Nat} {ru : Nat → Int} {ki bx mg : Nat → Nat → Int} {μ : XM} {Q : Option Value → XM → Prop}
theorem C_isIn (hd : 1 ≤ d) {v x y : Int} (v1 : -4000000000000000000 ≤ v) (v2 : v ≤ 4000000000000000000) (x1 : -4000000000000000000 ≤ x) (x2 : x ≤ 4000000000000000000) (y1 : -4000000000000000000 ≤ y) (y2 : y ≤ 4000000000000000000) : Call Γ m_MO_isIn d [.long (wl v), .long (wl x), .long (wl y)] μ (KI (fun r μ' => μ' = μ ∧ ((x ≤ v ∧ v ≤ y ∧ r = w 1) ∨ (¬ (x ≤ v ∧ v ≤ y) ∧ r = w 0)))) := by
  obtain ⟨d, rfl⟩ : ∃ e, d = e + 1 := ⟨d - 1, by omega⟩
  refine Call.of ok_MO_isIn (Nat.le_of_ble_eq_true rfl) (B_MO_isIn_0 ?_)
  have e : lg_cmp (wl v) (wl x) < w 0 ↔ v < x := by
    rw [lgc_w (by omega) (by omega) (by omega) (by omega), w_lt (by split <;> (try split) <;> omega) (by split <;> (try split) <;> omega) (by omega) (by omega)]
    split
    · omega
    · split <;> omega
  rw [e, lgc v1 v2 y1 y2]
  exact ⟨fun q => ⟨_, rfl, rfl, Or.inr ⟨by omega, rfl⟩⟩, fun q => ⟨fun q2 => ⟨_, rfl, rfl, Or.inr ⟨by omega, rfl⟩⟩, fun q2 => ⟨_, rfl, rfl, Or.inl ⟨by omega, by omega, rfl⟩⟩⟩⟩
theorem C_isKindM (hd : 1 ≤ d) (hM : HM μ n ru ki) {z : Int} (z1 : -2147483648 ≤ z) (z2 : z < 2147483648) : Call Γ m_MO_isKind d [.ref 547, .int (w z)] μ (KI (fun r μ' => μ' = μ ∧ ((0 ≤ z ∧ z < n ∧ r = w 1) ∨ (¬ (0 ≤ z ∧ z < n) ∧ r = w 0)))) := by
  obtain ⟨d, rfl⟩ : ∃ e, d = e + 1 := ⟨d - 1, by omega⟩
  have hn := hM.2.1
  refine Call.of ok_MO_isKind (Nat.le_of_ble_eq_true rfl) (B_MO_isKind_0 hM.1.o ?_)
  rw [hM.2.2.1, w_lt (by omega) (by omega) (by omega) (by omega), w_lt (by omega) (by omega) (by omega) (by omega)]
  exact ⟨fun q => ⟨_, rfl, rfl, Or.inr ⟨by omega, rfl⟩⟩, fun q => ⟨fun q2 => ⟨_, rfl, rfl, Or.inl ⟨by omega, by omega, rfl⟩⟩, fun q2 => ⟨_, rfl, rfl, Or.inr ⟨by omega, rfl⟩⟩⟩⟩
theorem C_told (hd : 1 ≤ d) (hM : HM μ n ru ki) {k j : Nat} (hk : k < n) (hj : j < 5) : Call Γ m_MO_told d [.ref 547, .int (w k), .int (w j)] μ (KI (fun r μ' => μ' = μ ∧ r = w (ki k j))) := by
  obtain ⟨d, rfl⟩ : ∃ e, d = e + 1 := ⟨d - 1, by omega⟩
  have hn := hM.2.1
  refine Call.of ok_MO_told (Nat.le_of_ble_eq_true rfl) (B_MO_told_0 hM.1.o (hM.1.r 20 554 rfl) ?_)
  rw [w_mul, w_add, w_cl (by omega) (by omega), show (5 * (k : Int) + j).toNat = 5 * k + j by omega, (hM.2.2.2.2.2 k hk).1 j hj]
  exact ⟨inb_of shmod.2.1 (by omega) hM.1.1 (by omega) (by omega), _, rfl, rfl, rfl⟩
theorem C_isBox (hd : 1 ≤ d) (hM : HM μ n ru ki) (hs : shp a = some (.inr (0, 283))) (ha : a < 574) (hN : NR μ a 0 s bx m T mg) (h0 : n = 0 → s = 0) {z : Int} (z1 : -2147483648 ≤ z) (z2 : z < 2147483648) : Call Γ m_MO_isBox d [.ref 547, .ref a, .int (w z)] μ (KI (fun r μ' => μ' = μ ∧ ((0 ≤ z ∧ z < s ∧ r = w 1) ∨ (¬ (0 ≤ z ∧ z < s) ∧ r = w 0)))) := by
  obtain ⟨d, rfl⟩ : ∃ e, d = e + 1 := ⟨d - 1, by omega⟩
  have hn := hM.2.1
  have h8 := hN.1
  refine Call.of ok_MO_isBox (Nat.le_of_ble_eq_true rfl) (B_MO_isBox_0 hM.1.o ?_)
  rw [hM.2.2.1, show (w 40).toNatClampNeg = 0 + 40 by decide, hN.2.2.1, w_lt (by omega) (by omega) (by omega) (by omega), w_lt (by omega) (by omega) (by omega) (by omega), w_lt (by omega) (by omega) (by omega) (by omega)]
  exact ⟨fun q => ⟨fun q2 => ⟨_, rfl, rfl, Or.inr ⟨by omega, rfl⟩⟩, fun q2 => ⟨inb_of hs ha hM.1.1 (by omega) (by omega), fun q3 => ⟨_, rfl, rfl, Or.inl ⟨by omega, by omega, rfl⟩⟩, fun q3 => ⟨_, rfl, rfl, Or.inr ⟨by omega, rfl⟩⟩⟩⟩, fun q => ⟨_, rfl, rfl, Or.inr ⟨by omega, rfl⟩⟩⟩
theorem sumIn_G (hx : 574 ≤ xN μ) (hs : shp a = some (.inr (0, 283))) (ha : a < 574) (hN : NR μ a 0 s bx m T mg) : ∀ (f b : Nat), b + f = s → Q (some (.int (w (fsum (fun b => bx (s - 1 - b) 1) s)))) μ → G Γ m_MO_sumIn (d + 1) (0, 0) Q 4 [jk, .ref a, .int (w (fsum (fun b => bx (s - 1 - b) 1) b)), .int (w b)] [] μ := by
  have h8 := hN.1
  intro f
  induction f with
  | zero =>
    intro b hb hQ
    refine B_MO_sumIn_4 ⟨inb_of hs ha hx (by omega) (by omega), ?_⟩
    rw [show (w 40).toNatClampNeg = 0 + 40 by decide, hN.2.2.1, w_lt (by omega) (by omega) (by omega) (by omega)]
    refine ⟨fun q => absurd q (by omega), fun _ => ?_⟩
    rw [show b = s by omega]
    exact hQ
  | succ f ih =>
    intro b hb hQ
    refine B_MO_sumIn_4 ⟨inb_of hs ha hx (by omega) (by omega), ?_⟩
    rw [show (w 40).toNatClampNeg = 0 + 40 by decide, hN.2.2.1, w_lt (by omega) (by omega) (by omega) (by omega), w_mul, w_add, w_cl (by omega) (by omega), show (5 * (b : Int) + 1).toNat = 0 + 5 * b + 1 by omega, (hN.2.2.2.2.2.1 b (by omega)).1.2.1, w_add, w_add]
    exact ⟨fun _ => ⟨inb_of hs ha hx (by omega) (by omega), ih (b + 1) (by omega) hQ⟩, fun q => absurd (by omega) q⟩
theorem C_sumIn (hd : 1 ≤ d) (hx : 574 ≤ xN μ) (hs : shp a = some (.inr (0, 283))) (ha : a < 574) (hN : NR μ a 0 s bx m T mg) : Call Γ m_MO_sumIn d [.ref 547, .ref a] μ (KI (fun r μ' => μ' = μ ∧ r = w (bsum bx 1 s))) := by
  obtain ⟨d, rfl⟩ : ∃ e, d = e + 1 := ⟨d - 1, by omega⟩
  refine Call.of ok_MO_sumIn (Nat.le_of_ble_eq_true rfl) (B_MO_sumIn_0 (sumIn_G hx hs ha hN s 0 (by omega) ⟨_, rfl, rfl, ?_⟩))
  rw [bsum_f, fsum_rev (fun j => bx j 1)]
end MO
