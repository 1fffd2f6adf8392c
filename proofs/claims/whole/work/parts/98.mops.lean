/-! WHAT CHANGES A ROW OF THE REFERENCE -/
/-- five places that hold a box -/
def RB (f : Nat → Int32) (x : Nat → Int) : Prop := f 0 = w (x 0) ∧ f 1 = w (x 1) ∧ f 2 = w (x 2) ∧ f 3 = w (if x 3 = -1 then 0 else 1) ∧ (¬ x 3 = -1 → f 4 = w (x 3))
theorem RB.cg {f f' : Nat → Int32} {x x' : Nat → Int} (h : RB f x) (hf : ∀ q, q < 5 → f' q = f q) (hx : ∀ t, t < 4 → x' t = x t) : RB f' x' := by
  unfold RB at *
  rw [hf 0 (by omega), hf 1 (by omega), hf 2 (by omega), hf 3 (by omega), hf 4 (by omega), hx 0 (by omega), hx 1 (by omega), hx 2 (by omega), hx 3 (by omega)]
  exact h
theorem NR.rb {μ : XM} {a s m T : Nat} {bx mg : Nat → Nat → Int} (h : NR μ a 0 s bx m T mg) {b : Nat} (hb : b < s) : RB (fun q => xI μ a (5 * b + q)) (bx (s - 1 - b)) := by
  have := (h.2.2.2.2.2.1 b hb).1
  rw [Nat.zero_add] at this
  exact this
theorem NR.mk {μ : XM} {a s m T : Nat} {bx mg : Nat → Nat → Int} (h1 : s ≤ 8) (h2 : m ≤ 999) (h3 : xI μ a 40 = w s) (h4 : xI μ a 41 = w m) (h5 : xI μ a 42 = w ((min 60 T : Nat) : Int)) (h6 : ∀ b, b < s → RB (fun q => xI μ a (5 * b + q)) (bx (s - 1 - b)) ∧ BB bx (s - 1 - b)) (h7 : ∀ k, k < min 60 T → ∀ q, q < 4 → xI μ a (43 + 4 * k + q) = w (mg (T - min 60 T + k) q)) : NR μ a 0 s bx m T mg := by
  refine ⟨h1, h2, by rw [Nat.zero_add]; exact h3, by rw [Nat.zero_add]; exact h4, by rw [Nat.zero_add]; exact h5, fun b hb => ?_, fun k hk q hq => by rw [Nat.zero_add]; exact h7 k hk q hq⟩
  rw [Nat.zero_add]
  exact h6 b hb
theorem NR.l4 {μ : XM} {a s m T : Nat} {bx mg : Nat → Nat → Int} (h : NR μ a 0 s bx m T mg) {k q : Nat} (hk : k < min 60 T) (hq : q < 4) : xI μ a (43 + 4 * k + q) = w (mg (T - min 60 T + k) q) := by
  have := h.2.2.2.2.2.2 k hk q hq
  rw [Nat.zero_add] at this
  exact this
theorem NR.z {μ : XM} {a s m T : Nat} {bx mg : Nat → Nat → Int} (h : NR μ a 0 s bx m T mg) : xI μ a 40 = w s ∧ xI μ a 41 = w m ∧ xI μ a 42 = w ((min 60 T : Nat) : Int) := by
  have h3 := h.2.2.1
  have h4 := h.2.2.2.1
  have h5 := h.2.2.2.2.1
  rw [Nat.zero_add] at h3 h4 h5
  exact ⟨h3, h4, h5⟩
section OA
variable {Γ : XG} {d n a s m T : Nat} {ru : Nat → Int} {ki bx mg : Nat → Nat → Int} {ls : Int → Int → Int → Int → Int → Int → Int} {μ : XM} {Q : Option Value → XM → Prop} {W : WL}
theorem drops_1 (ha : RC a) (hs : 1 ≤ s) (h8 : s ≤ 8) : ∀ (f j : Nat) (μ : XM), j + f = 5 * (s - 1) → 574 ≤ xN μ → xI μ a 40 = w s → (∀ μ', fr (fun c _ => c = a) μ μ' → (∀ i, (i < j ∨ 5 * (s - 1) ≤ i) → xI μ' a i = xI μ a i) → (∀ i, j ≤ i → i < 5 * (s - 1) → xI μ' a i = xI μ a (i + 5)) → G Γ m_MO_drops (d + 1) (0, 0) Q 39 [.ref a, jk, .int (w ((5 * (s - 1) : Nat) : Int))] [] μ') → G Γ m_MO_drops (d + 1) (0, 0) Q 4 [.ref a, jk, .int (w j)] [] μ := by
  intro f
  induction f with
  | zero =>
    intro j μ hj hx h40 hQ
    refine B_MO_drops_4 ⟨rc_in ha hx (by omega) (by omega), ?_⟩
    rw [show (w 40).toNatClampNeg = 40 by decide, h40, w_sub, w_mul, w_lt (by omega) (by omega) (by omega) (by omega), show (5 : Int) * ((s : Int) - 1) = ((5 * (s - 1) : Nat) : Int) by omega]
    exact ⟨fun q => absurd q (by omega), fun _ => ⟨rc_in ha hx (by omega) (by omega), hQ μ (fr.rf _ _) (fun _ _ => rfl) (fun i h1 h2 => absurd h2 (by omega))⟩⟩
  | succ f ih =>
    intro j μ hj hx h40 hQ
    have e5 : (w ((j : Int) + 5)).toNatClampNeg = j + 5 := by rw [w_cl (by omega) (by omega)]; omega
    refine B_MO_drops_4 ⟨rc_in ha hx (by omega) (by omega), ?_⟩
    rw [show (w 40).toNatClampNeg = 40 by decide, h40, w_sub, w_mul, w_lt (by omega) (by omega) (by omega) (by omega), w_add, w_cln (a := j) (by omega), e5]
    refine ⟨fun _ => ⟨rc_in ha hx (by omega) (by omega), ⟨ha.sh.2.2, rc_in ha hx (by omega) (by omega)⟩, ?_⟩, fun q => absurd (by omega) q⟩
    rintro μ5 rfl
    rw [w_add]
    refine ih (j + 1) _ (by omega) hx (by rw [xI_sI, if_neg (by omega)]; exact h40) (fun μ' g1 g2 g3 => hQ μ' ((fr.sI (F := fun c _ => c = a) (a := a) (k := j) μ _ rfl).trans g1) (fun i hi => ?_) (fun i h1 h2 => ?_))
    · rw [g2 i (by omega), xI_sI, if_neg (by omega)]
    · by_cases e : i = j
      · subst e
        rw [g2 i (by omega), xI_sI, if_pos ⟨rfl, rfl⟩]
      · rw [g3 i (by omega) h2, xI_sI, if_neg (by omega)]
theorem drops_2 (ha : RC a) (hs : 1 ≤ s) (h8 : s ≤ 8) : ∀ (f j : Nat) (μ : XM), j + f = 5 * s → 5 * (s - 1) ≤ j → 574 ≤ xN μ → xI μ a 40 = w s → (∀ μ', fr (fun c _ => c = a) μ μ' → (∀ i, (i < 5 * (s - 1) ∨ 5 * s ≤ i) → i ≠ 40 → xI μ' a i = xI μ a i) → xI μ' a 40 = w ((s - 1 : Nat) : Int) → Q none μ') → G Γ m_MO_drops (d + 1) (0, 0) Q 39 [.ref a, jk, .int (w j)] [] μ := by
  intro f
  induction f with
  | zero =>
    intro j μ hj hl hx h40 hQ
    refine B_MO_drops_39 ⟨rc_in ha hx (by omega) (by omega), ?_⟩
    rw [show (w 40).toNatClampNeg = 40 by decide, h40, w_mul, w_lt (by omega) (by omega) (by omega) (by omega), w_sub]
    refine ⟨fun q => absurd q (by omega), fun _ => ⟨rc_in ha hx (by omega) (by omega), ⟨ha.sh.2.2, rc_in ha hx (by omega) (by omega)⟩, ?_⟩⟩
    rintro μ4 rfl
    refine hQ _ (fr.sI (F := fun c _ => c = a) (a := a) (k := 40) μ _ rfl) (fun i hi h => by rw [xI_sI, if_neg (by omega)]) ?_
    rw [xI_sI, if_pos ⟨rfl, rfl⟩]
    congr 1
    omega
  | succ f ih =>
    intro j μ hj hl hx h40 hQ
    refine B_MO_drops_39 ⟨rc_in ha hx (by omega) (by omega), ?_⟩
    rw [show (w 40).toNatClampNeg = 40 by decide, h40, w_mul, w_lt (by omega) (by omega) (by omega) (by omega), w_cln (by omega)]
    refine ⟨fun _ => ⟨⟨ha.sh.2.2, rc_in ha hx (by omega) (by omega)⟩, ?_⟩, fun q => absurd (by omega) q⟩
    rintro μ6 rfl
    rw [w_add]
    refine ih (j + 1) _ (by omega) (by omega) hx (by rw [xI_sI, if_neg (by omega)]; exact h40) (fun μ' g1 g2 g3 => hQ μ' ((fr.sI (F := fun c _ => c = a) (a := a) (k := j) μ _ rfl).trans g1) (fun i hi h => ?_) g3)
    rw [g2 i (by omega) h, xI_sI, if_neg (by omega)]
theorem C_drops (hd : 1 ≤ d) (ha : RC a) (hx : 574 ≤ xN μ) (hN : NR μ a 0 s bx m T mg) {b : Nat} (hb : b < s) : Call Γ m_MO_drops d [.ref a, .int (w b)] μ (KV (fun μ' => fr (fun c _ => c = a) μ μ' ∧ NR μ' a 0 (s - 1) (bcut bx (s - 1 - b)) m T mg)) := by
  obtain ⟨d, rfl⟩ : ∃ e, d = e + 1 := ⟨d - 1, by omega⟩
  have h8 := hN.1
  obtain ⟨z0, z1, z2⟩ := hN.z
  refine Call.of ok_MO_drops (Nat.le_of_ble_eq_true rfl) (B_MO_drops_0 ?_)
  rw [w_mul, show (5 : Int) * b = ((5 * b : Nat) : Int) by omega]
  refine drops_1 ha (by omega) h8 (5 * (s - 1) - 5 * b) (5 * b) μ (by omega) hx z0 (fun μ1 g1 g2 g3 => ?_)
  have hx1 : 574 ≤ xN μ1 := by rw [g1.2]; exact hx
  refine drops_2 ha (by omega) h8 5 (5 * (s - 1)) μ1 (by omega) (by omega) hx1 (by rw [g2 40 (by omega)]; exact z0) (fun μ2 k1 k2 k3 => ⟨rfl, g1.trans k1, ?_⟩)
  have lo : ∀ i, i < 5 * b → xI μ2 a i = xI μ a i := fun i hi => by rw [k2 i (by omega) (by omega), g2 i (by omega)]
  have mi : ∀ i, 5 * b ≤ i → i < 5 * (s - 1) → xI μ2 a i = xI μ a (i + 5) := fun i h1 h2 => by rw [k2 i (by omega) (by omega), g3 i h1 h2]
  have hi : ∀ i, 41 ≤ i → xI μ2 a i = xI μ a i := fun i h1 => by rw [k2 i (by omega) (by omega), g2 i (by omega)]
  refine NR.mk (by omega) hN.2.1 k3 (by rw [hi 41 (by omega)]; exact z1) (by rw [hi 42 (by omega)]; exact z2) (fun c hc => ?_) (fun k hk q hq => by rw [hi _ (by omega)]; exact hN.l4 hk hq)
  have hB := hN.bb
  by_cases e : c < b
  · have eb : ∀ t, bcut bx (s - 1 - b) (s - 1 - 1 - c) t = bx (s - 1 - c) t := fun t => by
      unfold bcut
      rw [if_pos (by omega), show s - 1 - 1 - c + 1 = s - 1 - c by omega]
    refine ⟨(hN.rb (b := c) (by omega)).cg (fun q hq => lo _ (by omega)) (fun t _ => eb t), ?_⟩
    have := hB (s - 1 - c) (by omega)
    unfold BB at *
    rw [eb, eb, eb, eb]
    exact this
  · have eb : ∀ t, bcut bx (s - 1 - b) (s - 1 - 1 - c) t = bx (s - 1 - (c + 1)) t := fun t => by
      unfold bcut
      rw [if_neg (by omega), show s - 1 - 1 - c = s - 1 - (c + 1) by omega]
    refine ⟨(hN.rb (b := c + 1) (by omega)).cg (fun q hq => ?_) (fun t _ => eb t), ?_⟩
    · rw [mi _ (by omega) (by omega)]
      congr 1
      omega
    · have := hB (s - 1 - (c + 1)) (by omega)
      unfold BB at *
      rw [eb, eb, eb, eb]
      exact this
theorem puts_G (ha : RC a) {x1 x2 x3 : Int32} (h8 : s < 8) : ∀ (j : Nat) (μ : XM), j ≤ 5 * s → 574 ≤ xN μ → xI μ a 40 = w s → xI μ a 41 = w m → (∀ μ', fr (fun c _ => c = a) μ μ' → (∀ i, j + 5 ≤ i → i ≠ 40 → xI μ' a i = xI μ a i) → (∀ i, i < j → xI μ' a (i + 5) = xI μ a i) → xI μ' a 0 = x1 → xI μ' a 1 = x2 → xI μ' a 2 = w 0 → xI μ' a 3 = x3 → xI μ' a 4 = w m → xI μ' a 40 = w ((s + 1 : Nat) : Int) → Q none μ') → G Γ m_MO_puts (d + 1) (0, 0) Q 10 [.ref a, .int x1, .int x2, .int x3, .int (w ((j : Int) - 1))] [] μ := by
  intro j
  induction j with
  | zero =>
    intro μ hj hx h40 h41 hQ
    have iS : ∀ (μ' : XM) (z : Int), xN μ' = xN μ → 0 ≤ z → z < 283 → inS μ' 0 a (w z) := fun μ' z e z0 z1 => ⟨ha.sh.2.2, rc_in ha (by omega) z0 z1⟩
    refine B_MO_puts_10 ?_
    rw [w_lt (by omega) (by omega) (by omega) (by omega)]
    refine ⟨fun _ => ⟨iS _ _ rfl (by omega) (by omega), ?_⟩, fun q => absurd (by omega) q⟩
    rintro μ2 rfl
    refine ⟨iS _ _ rfl (by omega) (by omega), ?_⟩
    rintro μ4 rfl
    refine ⟨iS _ _ rfl (by omega) (by omega), ?_⟩
    rintro μ6 rfl
    refine ⟨iS _ _ rfl (by omega) (by omega), ?_⟩
    rintro μ8 rfl
    refine ⟨rc_in ha hx (by omega) (by omega), iS _ _ rfl (by omega) (by omega), ?_⟩
    rintro μ11 rfl
    refine ⟨rc_in ha hx (by omega) (by omega), iS _ _ rfl (by omega) (by omega), ?_⟩
    rintro μ14 rfl
    have d0 : (w 0).toNatClampNeg = 0 := by decide
    have d1 : (w 1).toNatClampNeg = 1 := by decide
    have d2 : (w 2).toNatClampNeg = 2 := by decide
    have d3 : (w 3).toNatClampNeg = 3 := by decide
    have d4 : (w 4).toNatClampNeg = 4 := by decide
    have d40 : (w 40).toNatClampNeg = 40 := by decide
    have d41 : (w 41).toNatClampNeg = 41 := by decide
    rw [d0, d1, d2, d3, d4, d40, d41]
    have e41 : xI (sI (sI (sI (sI μ a 0 x1) a 1 x2) a 2 (w 0)) a 3 x3) a 41 = w m := by
      rw [xI_sI, if_neg (by omega), xI_sI, if_neg (by omega), xI_sI, if_neg (by omega), xI_sI, if_neg (by omega)]; exact h41
    rw [e41]
    have e40 : xI (sI (sI (sI (sI (sI μ a 0 x1) a 1 x2) a 2 (w 0)) a 3 x3) a 4 (w m)) a 40 = w s := by
      rw [xI_sI, if_neg (by omega), xI_sI, if_neg (by omega), xI_sI, if_neg (by omega), xI_sI, if_neg (by omega), xI_sI, if_neg (by omega)]; exact h40
    rw [e40, w_add]
    have fs : ∀ (μ' : XM) (k : Nat) (v : Int32), fr (fun c _ => c = a) μ' (sI μ' a k v) := fun μ' k v => fr.sI (F := fun c _ => c = a) μ' v rfl
    refine hQ _ ((((((fs _ _ _).trans (fs _ _ _)).trans (fs _ _ _)).trans (fs _ _ _)).trans (fs _ _ _)).trans (fs _ _ _)) (fun i hi h => ?_) (fun i hi => absurd hi (by omega)) ?_ ?_ ?_ ?_ ?_ ?_
    · rw [xI_sI, if_neg (by omega), xI_sI, if_neg (by omega), xI_sI, if_neg (by omega), xI_sI, if_neg (by omega), xI_sI, if_neg (by omega), xI_sI, if_neg (by omega)]
    · rw [xI_sI, if_neg (by omega), xI_sI, if_neg (by omega), xI_sI, if_neg (by omega), xI_sI, if_neg (by omega), xI_sI, if_neg (by omega), xI_sI, if_pos ⟨rfl, rfl⟩]
    · rw [xI_sI, if_neg (by omega), xI_sI, if_neg (by omega), xI_sI, if_neg (by omega), xI_sI, if_neg (by omega), xI_sI, if_pos ⟨rfl, rfl⟩]
    · rw [xI_sI, if_neg (by omega), xI_sI, if_neg (by omega), xI_sI, if_neg (by omega), xI_sI, if_pos ⟨rfl, rfl⟩]
    · rw [xI_sI, if_neg (by omega), xI_sI, if_neg (by omega), xI_sI, if_pos ⟨rfl, rfl⟩]
    · rw [xI_sI, if_neg (by omega), xI_sI, if_pos ⟨rfl, rfl⟩]
    · rw [xI_sI, if_pos ⟨rfl, rfl⟩]; rfl
  | succ j ih =>
    intro μ hj hx h40 h41 hQ
    have e5 : (w ((j : Int) + 5)).toNatClampNeg = j + 5 := by rw [w_cl (by omega) (by omega)]; omega
    refine B_MO_puts_10 ?_
    rw [w_lt (by omega) (by omega) (by omega) (by omega), show ((j + 1 : Nat) : Int) - 1 = (j : Int) by omega, w_add, w_add, w_cln (a := j) (by omega), e5]
    refine ⟨fun q => absurd q (by omega), fun _ => ⟨rc_in ha hx (by omega) (by omega), ⟨ha.sh.2.2, rc_in ha hx (by omega) (by omega)⟩, ?_⟩⟩
    rintro μ17 rfl
    rw [show (j : Int) + -1 = (j : Int) - 1 by omega]
    refine ih _ (by omega) hx (by rw [xI_sI, if_neg (by omega)]; exact h40) (by rw [xI_sI, if_neg (by omega)]; exact h41) (fun μ' g1 g2 g3 => hQ μ' ((fr.sI (F := fun c _ => c = a) (a := a) (k := j + 5) μ _ rfl).trans g1) (fun i hi h => ?_) (fun i hi => ?_))
    · rw [g2 i (by omega) h, xI_sI, if_neg (by omega)]
    · by_cases e : i = j
      · subst e
        rw [g2 (i + 5) (by omega) (by omega), xI_sI, if_pos ⟨rfl, rfl⟩]
      · rw [g3 i (by omega), xI_sI, if_neg (by omega)]
theorem C_puts (hd : 1 ≤ d) (ha : RC a) (hx : 574 ≤ xN μ) (hN : NR μ a 0 s bx m T mg) (h8 : s < 8) {k p l : Int} (k0 : 0 ≤ k) (k5 : k ≤ 5) (p1 : 1 ≤ p) (p9 : p ≤ 9) (l0 : 0 ≤ l) (l1 : l ≤ 1) : Call Γ m_MO_puts d [.ref a, .int (w k), .int (w p), .int (w l)] μ (KV (fun μ' => fr (fun c _ => c = a) μ μ' ∧ NR μ' a 0 (s + 1) (bput bx s k p 0 (if l = 0 then -1 else m)) m T mg)) := by
  obtain ⟨d, rfl⟩ : ∃ e, d = e + 1 := ⟨d - 1, by omega⟩
  obtain ⟨z0, z1, z2⟩ := hN.z
  have hm9 := hN.2.1
  refine Call.of ok_MO_puts (Nat.le_of_ble_eq_true rfl) (B_MO_puts_0 ⟨rc_in ha hx (by omega) (by omega), ?_⟩)
  rw [show (w 40).toNatClampNeg = 40 by decide, z0, w_mul, w_sub, show (5 : Int) * s - 1 = ((5 * s : Nat) : Int) - 1 by omega]
  refine puts_G ha h8 (5 * s) μ (by omega) hx z0 z1 (fun μ' g1 g2 g3 e0 e1 e2 e3 e4 e40 => ⟨rfl, g1, ?_⟩)
  have hi : ∀ i, 41 ≤ i → xI μ' a i = xI μ a i := fun i h1 => g2 i (by omega) (by omega)
  refine NR.mk (by omega) hm9 e40 (by rw [hi 41 (by omega)]; exact z1) (by rw [hi 42 (by omega)]; exact z2) (fun c hc => ?_) (fun k hk q hq => by rw [hi _ (by omega)]; exact hN.l4 hk hq)
  by_cases e : c = 0
  · subst e
    have b0 : bput bx s k p 0 (if l = 0 then -1 else (m : Int)) (s + 1 - 1 - 0) 0 = k := by unfold bput; rw [if_pos (by omega), if_pos rfl]
    have b1 : bput bx s k p 0 (if l = 0 then -1 else (m : Int)) (s + 1 - 1 - 0) 1 = p := by unfold bput; rw [if_pos (by omega), if_neg (by omega), if_pos rfl]
    have b2 : bput bx s k p 0 (if l = 0 then -1 else (m : Int)) (s + 1 - 1 - 0) 2 = 0 := by unfold bput; rw [if_pos (by omega), if_neg (by omega), if_neg (by omega), if_pos rfl]
    have b3 : bput bx s k p 0 (if l = 0 then -1 else (m : Int)) (s + 1 - 1 - 0) 3 = if l = 0 then -1 else (m : Int) := by unfold bput; rw [if_pos (by omega), if_neg (by omega), if_neg (by omega), if_neg (by omega)]
    unfold RB BB
    rw [b0, b1, b2, b3]
    refine ⟨⟨e0, e1, e2, ?_, fun q => ?_⟩, ?_⟩
    · show xI μ' a 3 = _
      rw [e3]
      by_cases el : l = 0
      · rw [if_pos el, if_pos rfl, el]
      · rw [if_neg el, if_neg (by omega), show l = 1 by omega]
    · show xI μ' a 4 = _
      rw [e4]
      by_cases el : l = 0
      · rw [if_pos el] at q
        exact absurd rfl q
      · rw [if_neg el]
    · by_cases el : l = 0
      · rw [if_pos el]; omega
      · rw [if_neg el]; omega
  · have eb : ∀ t, bput bx s k p 0 (if l = 0 then -1 else (m : Int)) (s + 1 - 1 - c) t = bx (s - 1 - (c - 1)) t := fun t => by
      unfold bput
      rw [if_neg (by omega), show s + 1 - 1 - c = s - 1 - (c - 1) by omega]
    refine ⟨(hN.rb (b := c - 1) (by omega)).cg (fun q hq => ?_) (fun t _ => eb t), ?_⟩
    · rw [← g3 (5 * (c - 1) + q) (by omega)]
      congr 1
      omega
    · have := hN.bb (s - 1 - (c - 1)) (by omega)
      unfold BB at *
      rw [eb, eb, eb, eb]
      exact this
theorem C_names (hd : 1 ≤ d) (ha : RC a) (hx : 574 ≤ xN μ) (hN : NR μ a 0 s bx m T mg) {b : Nat} (hb : b < s) : Call Γ m_MO_names d [.ref a, .int (w b)] μ (KV (fun μ' => fr (fun c _ => c = a) μ μ' ∧ NR μ' a 0 s (bset bx (s - 1 - b) 3 m) m T mg)) := by
  obtain ⟨d, rfl⟩ : ∃ e, d = e + 1 := ⟨d - 1, by omega⟩
  have h8 := hN.1
  have hm9 := hN.2.1
  obtain ⟨z0, z1, z2⟩ := hN.z
  refine Call.of ok_MO_names (Nat.le_of_ble_eq_true rfl) (B_MO_names_0 ?_)
  rw [show (w 41).toNatClampNeg = 41 by decide, w_mul, w_add, w_add, w_cl (by omega) (by omega), w_cl (by omega) (by omega), show (5 * (b : Int) + 3).toNat = 5 * b + 3 by omega, show (5 * (b : Int) + 4).toNat = 5 * b + 4 by omega]
  refine ⟨⟨ha.sh.2.2, rc_in ha hx (by omega) (by omega)⟩, ?_⟩
  rintro μ2 rfl
  refine ⟨rc_in ha hx (by omega) (by omega), ⟨ha.sh.2.2, rc_in ha hx (by omega) (by omega)⟩, ?_⟩
  rintro μ5 rfl
  rw [xI_sI, if_neg (by omega), z1]
  have ne : ∀ i, i ≠ 5 * b + 3 → i ≠ 5 * b + 4 → xI (sI (sI μ a (5 * b + 3) (w 1)) a (5 * b + 4) (w m)) a i = xI μ a i := fun i h1 h2 => by rw [xI_sI, if_neg (fun z => h2 z.2), xI_sI, if_neg (fun z => h1 z.2)]
  have e3 : xI (sI (sI μ a (5 * b + 3) (w 1)) a (5 * b + 4) (w m)) a (5 * b + 3) = w 1 := by rw [xI_sI, if_neg (by omega), xI_sI, if_pos ⟨rfl, rfl⟩]
  have e4 : xI (sI (sI μ a (5 * b + 3) (w 1)) a (5 * b + 4) (w m)) a (5 * b + 4) = w m := by rw [xI_sI, if_pos ⟨rfl, rfl⟩]
  refine ⟨rfl, (fr.sI (F := fun c _ => c = a) (a := a) (k := 5 * b + 3) μ _ rfl).trans (fr.sI (F := fun c _ => c = a) (a := a) (k := 5 * b + 4) _ _ rfl), NR.mk h8 hm9 (by rw [ne _ (by omega) (by omega)]; exact z0) (by rw [ne _ (by omega) (by omega)]; exact z1) (by rw [ne _ (by omega) (by omega)]; exact z2) (fun c hc => ?_) (fun k hk q hq => by rw [ne _ (by omega) (by omega)]; exact hN.l4 hk hq)⟩
  have hB := hN.bb (s - 1 - c) (by omega)
  have hr := hN.rb (b := c) hc
  by_cases e : c = b
  · subst e
    have b0 : ∀ t, t < 3 → bset bx (s - 1 - c) 3 m (s - 1 - c) t = bx (s - 1 - c) t := fun t ht => by unfold bset; rw [if_neg (by omega)]
    have b3 : bset bx (s - 1 - c) 3 m (s - 1 - c) 3 = m := by unfold bset; rw [if_pos ⟨rfl, rfl⟩]
    unfold RB BB at *
    rw [b0 0 (by omega), b0 1 (by omega), b0 2 (by omega), b3]
    dsimp only at hr ⊢
    rw [ne (5 * c + 0) (by omega) (by omega), ne (5 * c + 1) (by omega) (by omega), ne (5 * c + 2) (by omega) (by omega), e3, e4]
    exact ⟨⟨hr.1, hr.2.1, hr.2.2.1, by rw [if_neg (by omega)], fun _ => rfl⟩, by omega⟩
  · have eb : ∀ t, bset bx (s - 1 - b) 3 m (s - 1 - c) t = bx (s - 1 - c) t := fun t => by unfold bset; rw [if_neg (by omega)]
    refine ⟨hr.cg (fun q hq => ne _ (by omega) (by omega)) (fun t _ => eb t), ?_⟩
    unfold BB at *
    rw [eb, eb, eb, eb]
    exact hB
/-- labels fall off the b upper boxes -/
def bflt (bx : Nat → Nat → Int) (m h : Int) (s b : Nat) : Nat → Nat → Int := fun j t => if t = 3 ∧ s ≤ j + b ∧ ¬ bx j 3 = -1 ∧ h ≤ m - bx j 3 then -1 else bx j t
theorem goMonth_G (ha : RC a) (hn : 0 < n) : ∀ (f b : Nat) (μ : XM), b + f = s → HM μ n ru ki → (∀ j, j < s → BB bx j) → NR μ a 0 s (bflt bx m (ru 2) s b) m T mg → (∀ μ', fr (fun c _ => c = a) μ μ' → NR μ' a 0 s (bfall bx m (ru 2) s) m T mg → Q none μ') → G Γ m_MO_goMonth (d + 1) (0, 0) Q 16 [.ref 547, .ref a, .int (w b)] [] μ := by
  intro f
  induction f with
  | zero =>
    intro b μ hb hM hBB hN hQ
    have h8 := hN.1
    refine B_MO_goMonth_16 hM.1.o (hM.1.r 18 552 rfl) ⟨rc_in ha hM.1.1 (by omega) (by omega), ?_⟩
    rw [hN.sz, w_lt (by omega) (by omega) (by omega) (by omega)]
    refine ⟨fun q => absurd q (by omega), fun _ => hQ μ (fr.rf _ _) (hN.cg (fun j hj t ht => ?_))⟩
    unfold bfall bflt
    by_cases e : t = 3 ∧ ¬ bx j 3 = -1 ∧ ru 2 ≤ m - bx j 3
    · rw [if_pos ⟨e.1, hj, e.2⟩, if_pos ⟨e.1, by omega, e.2⟩]
    · rw [if_neg (fun z => e ⟨z.1, z.2.2⟩), if_neg (fun z => e ⟨z.1, z.2.2⟩)]
  | succ f ih =>
    intro b μ hb hM hBB hN hQ
    have h8 := hN.1
    have hm9 := hN.2.1
    have hu := hM.2.2.2.1
    unfold RU at hu
    obtain ⟨z0, z1, z2⟩ := hN.z
    have hbb := hBB (s - 1 - b) (by omega)
    unfold BB at hbb
    have e3 : ∀ t, bflt bx m (ru 2) s b (s - 1 - b) t = bx (s - 1 - b) t := fun t => by unfold bflt; rw [if_neg (by omega)]
    have hr := hN.rb (b := b) (by omega)
    unfold RB at hr
    rw [e3, e3, e3, e3] at hr
    dsimp only at hr
    obtain ⟨r0, r1, r2, r3, r4⟩ := hr
    have nx := ih (b + 1)
    have keep : ¬ (¬ bx (s - 1 - b) 3 = -1 ∧ ru 2 ≤ m - bx (s - 1 - b) 3) → G Γ m_MO_goMonth (d + 1) (0, 0) Q 16 [.ref 547, .ref a, .int (w ((b : Int) + 1))] [] μ := fun q => by
      refine nx μ (by omega) hM hBB (hN.cg (fun j hj t ht => ?_)) hQ
      unfold bflt
      by_cases e : t = 3 ∧ ¬ bx j 3 = -1 ∧ ru 2 ≤ m - bx j 3
      · by_cases e5 : s ≤ j + b
        · rw [if_pos (show t = 3 ∧ s ≤ j + (b + 1) ∧ ¬ bx j 3 = -1 ∧ ru 2 ≤ m - bx j 3 from ⟨e.1, by omega, e.2⟩), if_pos (show t = 3 ∧ s ≤ j + b ∧ ¬ bx j 3 = -1 ∧ ru 2 ≤ m - bx j 3 from ⟨e.1, e5, e.2⟩)]
        · have ne : ¬ s ≤ j + (b + 1) := fun z => q (by rw [show s - 1 - b = j by omega]; exact e.2)
          rw [if_neg (fun z => ne z.2.1), if_neg (fun z => e5 z.2.1)]
      · rw [if_neg (fun z => e ⟨z.1, z.2.2⟩), if_neg (fun z => e ⟨z.1, z.2.2⟩)]
    refine B_MO_goMonth_16 hM.1.o (hM.1.r 18 552 rfl) ⟨rc_in ha hM.1.1 (by omega) (by omega), ?_⟩
    rw [hN.sz, w_lt (by omega) (by omega) (by omega) (by omega), show (w 41).toNatClampNeg = 41 by decide, show (w 2).toNatClampNeg = 2 by decide, z1, hM.2.2.2.2.1 2 (by omega), w_mul, w_add, w_add, w_add, w_cl (by omega) (by omega), w_cl (by omega) (by omega), show (5 * (b : Int) + 3).toNat = 5 * b + 3 by omega, show (5 * (b : Int) + 4).toNat = 5 * b + 4 by omega]
    have fall : (bx (s - 1 - b) 3 = -1 ∨ (¬ bx (s - 1 - b) 3 = -1 ∧ ru 2 ≤ m - bx (s - 1 - b) 3)) → G Γ m_MO_goMonth (d + 1) (0, 0) Q 16 [.ref 547, .ref a, .int (w ((b : Int) + 1))] [] (sI μ a (5 * b + 3) (w 0)) := fun q => by
      have ho : fr (fun c _ => c = a) μ (sI μ a (5 * b + 3) (w 0)) := fr.sI (F := fun c _ => c = a) μ _ rfl
      have hM2 : HM (sI μ a (5 * b + 3) (w 0)) n ru ki := hM.fr ho (fun k v e => by unfold RC at ha; omega) (by unfold RC at ha; omega) (fun j => by unfold RC at ha; omega) (fun j => by unfold RC at ha; omega)
      refine nx _ (by omega) hM2 hBB ?_ (fun μ' g1 g2 => hQ μ' (ho.trans g1) g2)
      have ne : ∀ i, i ≠ 5 * b + 3 → xI (sI μ a (5 * b + 3) (w 0)) a i = xI μ a i := fun i h1 => by rw [xI_sI, if_neg (fun z => h1 z.2)]
      have ev : xI (sI μ a (5 * b + 3) (w 0)) a (5 * b + 3) = w 0 := by rw [xI_sI, if_pos ⟨rfl, rfl⟩]
      refine NR.mk h8 hm9 (by rw [ne _ (by omega)]; exact z0) (by rw [ne _ (by omega)]; exact z1) (by rw [ne _ (by omega)]; exact z2) (fun c hc => ?_) (fun k hk q hq => by rw [ne _ (by omega)]; exact hN.l4 hk hq)
      by_cases e : c = b
      · subst e
        have b0 : ∀ t, t < 3 → bflt bx m (ru 2) s (c + 1) (s - 1 - c) t = bx (s - 1 - c) t := fun t ht => by unfold bflt; rw [if_neg (by omega)]
        have b3 : bflt bx m (ru 2) s (c + 1) (s - 1 - c) 3 = -1 := by
          unfold bflt
          rcases q with q | q
          · rw [if_neg (fun z => z.2.2.1 q)]; exact q
          · rw [if_pos ⟨rfl, by omega, q⟩]
        unfold RB BB
        rw [b0 0 (by omega), b0 1 (by omega), b0 2 (by omega), b3]
        dsimp only
        rw [ne (5 * c + 0) (by omega), ne (5 * c + 1) (by omega), ne (5 * c + 2) (by omega), ev]
        exact ⟨⟨r0, r1, r2, by rw [if_pos rfl], fun z => absurd rfl z⟩, by omega⟩
      · have eb : ∀ t, bflt bx m (ru 2) s (b + 1) (s - 1 - c) t = bflt bx m (ru 2) s b (s - 1 - c) t := fun t => by
          unfold bflt
          by_cases e5 : s ≤ s - 1 - c + b
          · by_cases e6 : t = 3 ∧ ¬ bx (s - 1 - c) 3 = -1 ∧ ru 2 ≤ m - bx (s - 1 - c) 3
            · rw [if_pos ⟨e6.1, by omega, e6.2⟩, if_pos ⟨e6.1, e5, e6.2⟩]
            · rw [if_neg (fun z => e6 ⟨z.1, z.2.2⟩), if_neg (fun z => e6 ⟨z.1, z.2.2⟩)]
          · rw [if_neg (by omega), if_neg (by omega)]
        refine ⟨(hN.rb hc).cg (fun q hq => ne _ (by omega)) (fun t _ => eb t), ?_⟩
        have := hN.bb (s - 1 - c) (by omega)
        unfold BB at *
        rw [eb, eb, eb, eb]
        exact this
    by_cases el : bx (s - 1 - b) 3 = -1
    · refine ⟨fun _ => ⟨rc_in ha hM.1.1 (by omega) (by omega), rc_in ha hM.1.1 (by omega) (by omega), inb_of shmod.1 (by omega) hM.1.1 (by omega) (by omega), fun _ => keep (fun z => z.1 el), fun _ => ⟨⟨ha.sh.2.2, rc_in ha hM.1.1 (by omega) (by omega)⟩, ?_⟩⟩, fun q => absurd (by omega) q⟩
      rintro μ6 rfl
      exact fall (Or.inl el)
    · rw [r4 el, w_sub, w_lt (by omega) (by omega) (by omega) (by omega)]
      refine ⟨fun _ => ⟨rc_in ha hM.1.1 (by omega) (by omega), rc_in ha hM.1.1 (by omega) (by omega), inb_of shmod.1 (by omega) hM.1.1 (by omega) (by omega), fun q => keep (fun z => by omega), fun q => ⟨⟨ha.sh.2.2, rc_in ha hM.1.1 (by omega) (by omega)⟩, ?_⟩⟩, fun q => absurd (by omega) q⟩
      rintro μ6 rfl
      exact fall (Or.inr ⟨el, by omega⟩)
theorem HM_a (h : HM μ n ru ki) (ha : RC a) {μ' : XM} (ho : fr (fun c _ => c = a) μ μ') : HM μ' n ru ki := h.fr ho (fun k v e => by unfold RC at ha; omega) (by unfold RC at ha; omega) (fun j => by unfold RC at ha; omega) (fun j => by unfold RC at ha; omega)
theorem C_goMonth (hd : 2 ≤ d) (ha : RC a) (hn : 0 < n) (hM : HM μ n ru ki) (hN : NR μ a 0 s bx m T mg) (hm : m < 999) : Call Γ m_MO_goMonth d [.ref 547, .ref a] μ (KV (fun μ' => fr (fun c _ => c = a) μ μ' ∧ NR μ' a 0 s (bmon bx s m (ru 2)) (m + 1) T mg)) := by
  obtain ⟨d, rfl⟩ : ∃ e, d = e + 1 := ⟨d - 1, by omega⟩
  have h8 := hN.1
  refine Call.of ok_MO_goMonth (Nat.le_of_ble_eq_true rfl) (B_MO_goMonth_0 hM.1.o ?_)
  refine (C_ages (v := 1) (by omega) ha hM.1.1 hN (by omega) (by omega)).conseq (KV.mono ?_)
  rintro μ1 ⟨o1, h1⟩
  have hM1 := HM_a hM ha o1
  obtain ⟨z0, z1, z2⟩ := h1.z
  refine ⟨rc_in ha hM1.1.1 (by omega) (by omega), ⟨ha.sh.2.2, rc_in ha hM1.1.1 (by omega) (by omega)⟩, ?_⟩
  rintro μ4 rfl
  rw [show (w 41).toNatClampNeg = 41 by decide, z1, w_add]
  have o4 : fr (fun c _ => c = a) μ1 (sI μ1 a 41 (w ((m : Int) + 1))) := fr.sI (F := fun c _ => c = a) μ1 _ rfl
  have ne : ∀ i, i ≠ 41 → xI (sI μ1 a 41 (w ((m : Int) + 1))) a i = xI μ1 a i := fun i h => by rw [xI_sI, if_neg (fun z => h z.2)]
  have h4 : NR (sI μ1 a 41 (w ((m : Int) + 1))) a 0 s (bold bx 1 s) (m + 1) T mg := NR.mk h8 (by omega) (by rw [ne _ (by omega)]; exact z0) (by rw [xI_sI, if_pos ⟨rfl, rfl⟩]; rfl) (by rw [ne _ (by omega)]; exact z2) (fun c hc => ⟨(h1.rb hc).cg (fun q hq => ne _ (by omega)) (fun _ _ => rfl), h1.bb _ (by omega)⟩) (fun k hk q hq => by rw [ne _ (by omega)]; exact h1.l4 hk hq)
  refine goMonth_G (bx := bold bx 1 s) (m := m + 1) ha hn s 0 _ (by omega) (HM_a hM1 ha o4) h1.bb (h4.cg (fun j hj t ht => ?_)) (fun μ' g1 g2 => ⟨rfl, (o1.trans o4).trans g1, g2⟩)
  unfold bflt
  rw [if_neg (by omega)]
end OA
