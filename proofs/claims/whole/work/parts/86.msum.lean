/-! THE REFERENCE GOES THROUGH A TEXT: its cursor, numbers, sums -/
/-- a byte as it lies in an array of bytes -/
def sb (b : Nat) : Int := if b < 128 then (b : Int) else (b : Int) - 256
set_option maxRecDepth 100000 in
theorem sb_ok : ∀ b, b < 256 → (w (sb b) &&& w 255 = w ((b : Nat) : Int)) ∧ -128 ≤ sb b ∧ sb b ≤ 127 := by decide
/-- the text that is read: n bytes tb at o of cell a; the letters' values e -/
def MS (μ : XM) (a o n : Nat) (tb : Nat → Nat) (e : Nat → Int) : Prop := 574 ≤ xN μ ∧ xR μ 547 4 = some 551 ∧ xR μ 547 5 = some a ∧ xI μ 547 8 = w o ∧ xI μ 547 9 = w n ∧ n ≤ 240 ∧ (∃ len, shp a = some (.inr (1, len)) ∧ a < 574 ∧ 547 < a ∧ o + n ≤ len ∧ len ≤ 960) ∧ (∀ j, j < n → xI μ a (o + j) = w (sb (tb j)) ∧ 1 ≤ tb j ∧ tb j ≤ 255) ∧ EV e ∧ (∀ j, j < 6 → xI μ 551 (ltr 3 j).toNat = w (e j)) ∧ SS μ
/-- at p, nothing wrong yet, k more may be nested -/
def MT (μ : XM) (a o n : Nat) (tb : Nat → Nat) (e : Nat → Int) (p k : Nat) : Prop := MS μ a o n tb e ∧ xI μ 547 10 = w p ∧ xI μ 547 11 = w (-1) ∧ xI μ 547 12 = w (6 - k) ∧ p ≤ n ∧ k ≤ 6
def mfr (c j : Nat) : Prop := c = 547 ∧ (j = 10 ∨ j = 11 ∨ j = 12)
theorem MS.frm {F : Nat → Nat → Prop} {μ μ' : XM} {a o n : Nat} {tb : Nat → Nat} {e : Nat → Int} (h : MS μ a o n tb e) (ho : fr F μ μ') (hF : ∀ c j, F c j → c = 547 ∧ 10 ≤ j) : MS μ' a o n tb e := by
  have nf : ∀ c j, (c ≠ 547 ∨ j < 10) → ¬ F c j := fun c j q z => by have := hF c j z; omega
  obtain ⟨h1, h2, h3, h4, h5, h6, ⟨len, s1, s2, s3, s4⟩, h8, h9, h10, h11⟩ := h
  refine ⟨by rw [ho.2]; exact h1, by rw [(ho.1 547 4 (nf _ _ (Or.inr (by omega)))).2.2]; exact h2, by rw [(ho.1 547 5 (nf _ _ (Or.inr (by omega)))).2.2]; exact h3, by rw [(ho.1 547 8 (nf _ _ (Or.inr (by omega)))).1]; exact h4, by rw [(ho.1 547 9 (nf _ _ (Or.inr (by omega)))).1]; exact h5, h6, ⟨len, s1, s2, s3, s4⟩, fun j hj => by rw [(ho.1 a _ (nf _ _ (Or.inl (by omega)))).1]; exact h8 j hj, h9, fun j hj => by rw [(ho.1 551 _ (nf _ _ (Or.inl (by omega)))).1]; exact h10 j hj, fun j hj i hi => by rw [(ho.1 _ _ (nf _ _ (Or.inl (by omega)))).1]; exact h11 j hj i hi⟩
theorem MS.m {μ μ' : XM} {a o n : Nat} {tb : Nat → Nat} {e : Nat → Int} (h : MS μ a o n tb e) (ho : fr mfr μ μ') : MS μ' a o n tb e := h.frm ho (fun c j q => by unfold mfr at q; omega)
theorem mf (μ : XM) {j : Nat} (v : Int32) (hj : j = 10 ∨ j = 11 ∨ j = 12) : fr mfr μ (sI μ 547 j v) := fr.sI μ v ⟨rfl, hj⟩
theorem MS.o {μ : XM} {a o n : Nat} {tb : Nat → Nat} {e : Nat → Int} (h : MS μ a o n tb e) : ob μ 547 11 := ob_of rfl (by omega) h.1
theorem MS.bt {μ : XM} {a o n : Nat} {tb : Nat → Nat} {e : Nat → Int} (h : MS μ a o n tb e) : ∀ j, j < n → 1 ≤ tb j ∧ tb j ≤ 255 := fun j hj => (h.2.2.2.2.2.2.2.1 j hj).2
theorem MS.n2 {μ : XM} {a o n : Nat} {tb : Nat → Nat} {e : Nat → Int} (h : MS μ a o n tb e) : n ≤ 240 := h.2.2.2.2.2.1
theorem MS.b {μ : XM} {a o n : Nat} {tb : Nat → Nat} {e : Nat → Int} (h : MS μ a o n tb e) {p : Nat} (hp : p < n) : zib μ 1 a (w o + w p) ∧ xI μ a (w o + w p).toNatClampNeg = w (sb (tb p)) ∧ 1 ≤ tb p ∧ tb p ≤ 255 := by
  obtain ⟨h1, h2, h3, h4, h5, h6, ⟨len, s1, s2, s3, s4, s5⟩, h8, h9⟩ := h
  rw [w_add, w_cl (by omega) (by omega), show ((o : Int) + p).toNat = o + p by omega]
  exact ⟨inb_of s1 s2 h1 (by omega) (by omega), h8 p hp⟩
theorem MT.mv {μ : XM} {a o n : Nat} {tb : Nat → Nat} {e : Nat → Int} {p k : Nat} (h : MT μ a o n tb e p k) {q : Nat} (hq : q ≤ n) : MT (sI μ 547 10 (w q)) a o n tb e q k := by
  obtain ⟨h1, h2, h3, h4, h5, h6⟩ := h
  exact ⟨h1.m (mf μ (w q) (Or.inl rfl)), by rw [xI_sI, if_pos ⟨rfl, rfl⟩], by rw [xI_sI, if_neg (by omega)]; exact h3, by rw [xI_sI, if_neg (by omega)]; exact h4, hq, h6⟩
/-- how a reading ends: wrong at q, or at p' with the value -/
def MRs (μ μ' : XM) (a o n : Nat) (tb : Nat → Nat) (e : Nat → Int) (k : Nat) (r : LR) (x : Int32) : Prop := fr mfr μ μ' ∧ match r with
  | .inl q => xI μ' 547 11 = w q
  | .inr (p', _, g) => x = w (g e) ∧ MT μ' a o n tb e p' k
theorem sch_cg {f g : Nat → Bool} : ∀ k i, (∀ j, i ≤ j → j < i + k → f j = g j) → sch f k i = sch g k i
  | 0, _, _ => rfl
  | k + 1, i, h => by
    unfold sch
    rw [h i (by omega) (by omega), sch_cg k (i + 1) (fun j h1 h2 => h j (by omega) (by omega))]
theorem lix_spt (c : Int) : lix c = spt 1 c := by
  unfold lix spt
  refine sch_cg 6 0 (fun j h1 h2 => ?_)
  have : ∀ j, j < 6 → ltr 3 j = (sS 1).getD j 0 := by decide
  rw [this j (by omega)]
theorem spt_y (c : Int) : spt 0 c = -1 ↔ ¬ c = 121 := by
  unfold spt
  show sch _ 1 0 = -1 ↔ _
  unfold sch
  by_cases h : c = 121
  · rw [if_pos (by rw [h]; decide)]
    exact ⟨fun q => absurd q (by decide), fun q => absurd h q⟩
  · rw [if_neg (by
      have : (sS 0).getD 0 0 = 121 := by decide
      rw [this]
      simp
      omega)]
    exact ⟨fun _ => h, fun _ => rfl⟩
theorem sch_at {f : Nat → Bool} : ∀ k i (j : Nat), sch f k i = (j : Int) → f j = true
  | 0, i, j, h => by unfold sch at h; omega
  | k + 1, i, j, h => by
    unfold sch at h
    split at h
    · rename_i q
      rw [← show i = j by omega]; exact q
    · exact sch_at k (i + 1) j h
theorem lix_at {c : Int} (h : ¬ lix c = -1) : ltr 3 (lix c).toNat = c := by
  have hb := lix_bd c
  have := sch_at (f := fun j => decide (ltr 3 j = c)) 6 0 (lix c).toNat (by
    have : sch (fun j => decide (ltr 3 j = c)) 6 0 = lix c := rfl
    omega)
  simpa using this
theorem lgz (y : Int64) : lg_cmp y (wl 0) = w 0 ↔ y = wl 0 := by
  unfold lg_cmp
  constructor
  · intro h
    split at h
    · exact absurd h (by decide)
    · split at h
      · assumption
      · exact absurd h (by decide)
  · rintro rfl
    rw [if_neg (by decide), if_pos rfl]
    rfl
theorem jnd_42 (a b : Int) : jnd 42 a b = clp (a * b) := by unfold jnd; rw [if_neg (by omega), if_pos rfl]
theorem jnd_43 (a b : Int) : jnd 43 a b = clp (a + b) := by unfold jnd; rw [if_neg (by omega), if_neg (by omega), if_pos rfl]
theorem jnd_45 (a b : Int) : jnd 45 a b = clp (a - b) := by unfold jnd; rw [if_neg (by omega), if_neg (by omega), if_neg (by omega), if_pos rfl]
theorem jnd_47 (a b : Int) : jnd 47 a b = clp (if b = 0 then 0 else a.tdiv b) := by unfold jnd; rw [if_neg (by omega), if_neg (by omega), if_neg (by omega), if_neg (by omega), if_pos rfl]
theorem bnd_mul {a b : Int} (a1 : -1000000 ≤ a) (a2 : a ≤ 1000000) (b1 : -1000000 ≤ b) (b2 : b ≤ 1000000) : -1000000000000 ≤ a * b ∧ a * b ≤ 1000000000000 := by
  have h1 : (a * b).natAbs = a.natAbs * b.natAbs := Int.natAbs_mul a b
  have h2 : a.natAbs * b.natAbs ≤ 1000000 * 1000000 := Nat.mul_le_mul (by omega) (by omega)
  omega
section MI
variable {Γ : XG} {d a o n k p : Nat} {tb : Nat → Nat} {e : Nat → Int} {μ : XM} {Q : Option Value → XM → Prop}
theorem look_G : ∀ (f : Nat) (μ : XM) (p : Nat), n - p = f → MT μ a o n tb e p k → (∀ μ', fr mfr μ μ' → MT μ' a o n tb e (sk tb n p) k → Q (some (.int (w (lk tb n p)))) μ') → G Γ m_MO_look (d + 1) (0, 0) Q 0 [.ref 547] [] μ := by
  intro f
  induction f with
  | zero =>
    intro μ p hf h hQ
    have hp : p = n := by have := h.2.2.2.2.1; omega
    subst hp
    have hn := h.1.n2
    refine B_MO_look_0 h.1.o h.1.2.2.1 ?_
    rw [h.1.2.2.2.2.1, h.2.1]
    have hlt : ¬ w (p : Int) < w (p : Int) := by rw [w_lt (by omega) (by omega) (by omega) (by omega)]; omega
    have hQ2 := hQ μ (fr.rf _ _) (by rw [sk_end]; exact h)
    rw [show lk tb p p = -1 by unfold lk; rw [sk_end]; unfold ch; rw [if_neg (by omega)]] at hQ2
    exact ⟨fun q => absurd q hlt, fun _ => ⟨fun q => absurd q hlt, fun _ => hQ2⟩⟩
  | succ f ih =>
    intro μ p hf h hQ
    have hp : p < n := by omega
    have hn := h.1.n2
    obtain ⟨b1, b2, b3, b4⟩ := h.1.b hp
    have hsb := sb_ok (tb p) (by omega)
    refine B_MO_look_0 h.1.o h.1.2.2.1 ?_
    rw [h.1.2.2.2.2.1, h.1.2.2.2.1, h.2.1, b2]
    have hlt : w (p : Int) < w (n : Int) := by rw [w_lt (by omega) (by omega) (by omega) (by omega)]; omega
    refine ⟨fun _ => ⟨b1, fun q => ?_, fun q => ⟨fun _ => ⟨b1, ?_⟩, fun q => absurd hlt q⟩⟩, fun q => absurd hlt q⟩
    · rw [w_inj (by omega) (by omega) (by omega) (by omega)] at q
      have hb : tb p = 32 := by unfold sb at q; split at q <;> omega
      rintro μ4 rfl
      rw [w_add, show (p : Int) + 1 = ((p + 1 : Nat) : Int) by omega]
      have hT := h.mv (q := p + 1) (by omega)
      refine ih _ (p + 1) (by omega) hT (fun μ' g1 g2 => ?_)
      rw [← sk_bl hp hb] at g2
      have := hQ μ' ((mf μ _ (Or.inl rfl)).trans g1) g2
      rwa [show lk tb n p = lk tb n (p + 1) by unfold lk; rw [sk_bl hp hb]] at this
    · rw [w_inj (by omega) (by omega) (by omega) (by omega)] at q
      have hb : ¬ tb p = 32 := fun z => q (by rw [z]; rfl)
      have hQ2 := hQ μ (fr.rf _ _) (by rw [sk_nb hp hb]; exact h)
      rw [show lk tb n p = tb p by unfold lk; rw [sk_nb hp hb]; unfold ch; rw [if_pos hp]] at hQ2
      rw [hsb.1]
      exact hQ2
theorem C_look (hd : 1 ≤ d) (h : MT μ a o n tb e p k) : Call Γ m_MO_look d [.ref 547] μ (KI (fun r μ' => r = w (lk tb n p) ∧ fr mfr μ μ' ∧ MT μ' a o n tb e (sk tb n p) k)) := by
  obtain ⟨d, rfl⟩ : ∃ e, d = e + 1 := ⟨d - 1, by omega⟩
  exact Call.of ok_MO_look (Nat.le_of_ble_eq_true rfl) (look_G (n - p) μ p rfl h (fun μ' g1 g2 => ⟨_, rfl, rfl, g1, g2⟩))
theorem C_fails (hd : 1 ≤ d) (hM : MS μ a o n tb e) (hp : xI μ 547 10 = w p) (hf : xI μ 547 11 = w (-1)) : Call Γ m_MO_fails d [.ref 547] μ (KI (fun r μ' => r = w 0 ∧ fr mfr μ μ' ∧ μ' = sI μ 547 11 (w p))) := by
  obtain ⟨d, rfl⟩ : ∃ e, d = e + 1 := ⟨d - 1, by omega⟩
  refine Call.of ok_MO_fails (Nat.le_of_ble_eq_true rfl) (B_MO_fails_0 hM.o ?_)
  refine ⟨fun _ => ?_, fun q => absurd hf q⟩
  rintro μ1 rfl
  rw [hp]
  exact ⟨_, rfl, rfl, mf μ _ (Or.inr (Or.inl rfl)), rfl⟩
/-- something was wrong before -/
theorem C_failsB (hd : 1 ≤ d) (hM : MS μ a o n tb e) (hf : ¬ xI μ 547 11 = w (-1)) : Call Γ m_MO_fails d [.ref 547] μ (KI (fun r μ' => r = w 0 ∧ μ' = μ)) := by
  obtain ⟨d, rfl⟩ : ∃ e, d = e + 1 := ⟨d - 1, by omega⟩
  refine Call.of ok_MO_fails (Nat.le_of_ble_eq_true rfl) (B_MO_fails_0 hM.o ?_)
  exact ⟨fun q => absurd q hf, fun _ => ⟨_, rfl, rfl, rfl⟩⟩
theorem wq {q : Nat} (h : q ≤ 240) : ¬ w (q : Int) = w (-1) := by rw [w_inj (by omega) (by omega) (by omega) (by omega)]; omega
theorem C_goesIn (hd : 2 ≤ d) (h : MT μ a o n tb e p k) : Call Γ m_MO_goesIn d [.ref 547] μ (KI (fun r μ' => fr mfr μ μ' ∧ ((k = 0 ∧ r = w 0 ∧ xI μ' 547 11 = w p) ∨ (0 < k ∧ r = w 1 ∧ (p < n → MT μ' a o n tb e (p + 1) (k - 1)))))) := by
  obtain ⟨d, rfl⟩ : ∃ e, d = e + 1 := ⟨d - 1, by omega⟩
  obtain ⟨h1, h2, h3, h4, h5, h6⟩ := h
  have hn := h1.n2
  refine Call.of ok_MO_goesIn (Nat.le_of_ble_eq_true rfl) (B_MO_goesIn_0 h1.o ?_)
  rw [h4, w_inj (by omega) (by omega) (by omega) (by omega)]
  refine ⟨fun q => ?_, fun q => ?_⟩
  · refine (C_fails (by omega) h1 h2 h3).conseq (KI.mono ?_)
    rintro r μ1 ⟨rfl, o1, rfl⟩
    exact ⟨Or.inl rfl, _, rfl, o1, Or.inl ⟨by omega, rfl, by rw [xI_sI, if_pos ⟨rfl, rfl⟩]⟩⟩
  · rintro μ1 rfl μ2 rfl
    rw [xI_sI, if_neg (by omega), h2, w_add, w_add]
    have o1 := (mf μ (w (6 - (k : Int) + 1)) (Or.inr (Or.inr rfl))).trans (mf _ (w ((p : Int) + 1)) (Or.inl rfl))
    refine ⟨_, rfl, o1, Or.inr ⟨by omega, rfl, fun hp => ⟨h1.m o1, ?_, ?_, ?_, by omega, by omega⟩⟩⟩
    · rw [xI_sI, if_pos ⟨rfl, rfl⟩]; rfl
    · rw [xI_sI, if_neg (by omega), xI_sI, if_neg (by omega)]; exact h3
    · rw [xI_sI, if_neg (by omega), xI_sI, if_pos ⟨rfl, rfl⟩]
      congr 1
      omega
theorem C_takes (hd : 2 ≤ d) (h : MT μ a o n tb e p k) {c : Int} (c1 : 0 ≤ c) (c2 : c ≤ 255) : Call Γ m_MO_takes d [.ref 547, .int (w c)] μ (KI (fun r μ' => fr mfr μ μ' ∧ ((lk tb n p = c ∧ r = w 1 ∧ MT μ' a o n tb e (sk tb n p + 1) k) ∨ (¬ lk tb n p = c ∧ r = w 0 ∧ xI μ' 547 11 = w (sk tb n p))))) := by
  obtain ⟨d, rfl⟩ : ∃ e, d = e + 1 := ⟨d - 1, by omega⟩
  have hb := lk_bd (p := p) h.1.bt
  refine Call.of ok_MO_takes (Nat.le_of_ble_eq_true rfl) (B_MO_takes_0 h.1.o ?_)
  refine ⟨fun _ => ?_, fun q => absurd h.2.2.1 q⟩
  refine (C_look (by omega) h).conseq (KI.mono ?_)
  rintro r μ1 ⟨rfl, o1, h1⟩
  rw [w_inj (by omega) (by omega) (by omega) (by omega)]
  refine ⟨fun q => ?_, fun q => ?_⟩
  · have hlt := lk_lt q c1
    rintro μ3 rfl
    rw [h1.2.1, w_add, show ((sk tb n p : Nat) : Int) + 1 = ((sk tb n p + 1 : Nat) : Int) by omega]
    exact ⟨_, rfl, o1.trans (mf _ _ (Or.inl rfl)), Or.inl ⟨q, rfl, h1.mv (by omega)⟩⟩
  · refine (C_fails (by omega) h1.1 h1.2.1 h1.2.2.1).conseq (KI.mono ?_)
    rintro r μ2 ⟨rfl, o2, rfl⟩
    exact ⟨Or.inl rfl, _, rfl, o1.trans o2, Or.inr ⟨q, rfl, by rw [xI_sI, if_pos ⟨rfl, rfl⟩]⟩⟩
theorem C_takesB (hd : 2 ≤ d) (hM : MS μ a o n tb e) (hf : ¬ xI μ 547 11 = w (-1)) {c : Int} : Call Γ m_MO_takes d [.ref 547, .int (w c)] μ (KI (fun r μ' => r = w 0 ∧ μ' = μ)) := by
  obtain ⟨d, rfl⟩ : ∃ e, d = e + 1 := ⟨d - 1, by omega⟩
  refine Call.of ok_MO_takes (Nat.le_of_ble_eq_true rfl) (B_MO_takes_0 hM.o ?_)
  refine ⟨fun q => absurd q hf, fun _ => ?_⟩
  refine (C_failsB (by omega) hM hf).conseq (KI.mono ?_)
  rintro r μ2 ⟨rfl, rfl⟩
  exact ⟨Or.inl rfl, _, rfl, rfl, rfl⟩
theorem C_isDigitM (hd : 1 ≤ d) (hM : MS μ a o n tb e) (hp : xI μ 547 10 = w p) (hpn : p ≤ n) : Call Γ m_MO_isDigit d [.ref 547] μ (KI (fun r μ' => μ' = μ ∧ ((dg tb n p ∧ r = w 1) ∨ (¬ dg tb n p ∧ r = w 0)))) := by
  obtain ⟨d, rfl⟩ : ∃ e, d = e + 1 := ⟨d - 1, by omega⟩
  have hn := hM.n2
  refine Call.of ok_MO_isDigit (Nat.le_of_ble_eq_true rfl) (B_MO_isDigit_0 hM.o hM.2.2.1 ?_)
  rw [hp, hM.2.2.2.2.1, hM.2.2.2.1, w_lt (by omega) (by omega) (by omega) (by omega)]
  refine ⟨fun q => ?_, fun q => ⟨_, rfl, rfl, Or.inr ⟨fun z => q (by have := z.1; omega), rfl⟩⟩⟩
  have hlt : p < n := by omega
  obtain ⟨b1, b2, b3, b4⟩ := hM.b hlt
  have hsb := sb_ok (tb p) (by omega)
  rw [b2, w_lt (by omega) (by omega) (by omega) (by omega), w_lt (by omega) (by omega) (by omega) (by omega)]
  have e1 : (¬ sb (tb p) < 48 ∧ ¬ 57 < sb (tb p)) ↔ (48 ≤ tb p ∧ tb p ≤ 57) := by unfold sb; split <;> omega
  refine ⟨b1, fun z => ⟨_, rfl, rfl, Or.inr ⟨fun y => ?_, rfl⟩⟩, fun z => ⟨b1, fun y => ⟨_, rfl, rfl, Or.inr ⟨fun x => ?_, rfl⟩⟩, fun y => ⟨_, rfl, rfl, Or.inl ⟨⟨hlt, e1.mp ⟨z, y⟩⟩, rfl⟩⟩⟩⟩
  · exact (e1.mpr y.2).1 z
  · exact (e1.mpr x.2).2 y
theorem atom_G : ∀ (f : Nat) (μ : XM) (q v c : Nat), c + f = 4 → v < 10 ^ c → MT μ a o n tb e q k → (∀ x μ', fr mfr μ μ' → dg tb n (nmF tb n f q v c).1 → xI μ' 547 11 = w (nmF tb n f q v c).1 → Q (some (.int x)) μ') → (∀ μ', fr mfr μ μ' → ¬ dg tb n (nmF tb n f q v c).1 → MT μ' a o n tb e (nmF tb n f q v c).1 k → Q (some (.int (w (nmF tb n f q v c).2.1))) μ') → G Γ m_MO_atom (d + 2) (0, 0) Q 90 [.ref 547, jk, .int (w v), .int (w c)] [] μ := by
  intro f
  induction f with
  | zero =>
    intro μ q v c hc hv h hQ1 hQ2
    simp only [nmF] at hQ1 hQ2
    refine B_MO_atom_90 h.1.o ?_
    refine (C_isDigitM (by omega) h.1 h.2.1 h.2.2.2.2.1).conseq (KI.mono ?_)
    rintro r μ1 ⟨rfl, ⟨hg, rfl⟩ | ⟨hg, rfl⟩⟩
    · refine ⟨fun z => absurd z w01, fun _ => ⟨fun _ => ⟨fun _ => ?_, fun z => absurd (by rw [show c = 4 by omega]; rfl) z⟩, fun z => absurd h.2.2.1 z⟩⟩
      refine (C_fails (by omega) h.1 h.2.1 h.2.2.1).conseq (KI.mono ?_)
      rintro r μ2 ⟨rfl, o2, rfl⟩
      exact hQ1 _ _ o2 hg (by rw [xI_sI, if_pos ⟨rfl, rfl⟩])
    · exact ⟨fun _ => hQ2 _ (fr.rf _ _) hg h, fun z => absurd rfl z⟩
  | succ f ih =>
    intro μ q v c hc hv h hQ1 hQ2
    have hn := h.1.n2
    refine B_MO_atom_90 h.1.o ?_
    refine (C_isDigitM (by omega) h.1 h.2.1 h.2.2.2.2.1).conseq (KI.mono ?_)
    rintro r μ1 ⟨rfl, ⟨hg, rfl⟩ | ⟨hg, rfl⟩⟩
    · have e1 : nmF tb n (f + 1) q v c = nmF tb n f (q + 1) (10 * v + (tb q - 48)) (c + 1) := if_pos hg
      rw [e1] at hQ1 hQ2
      have g1 := hg.1
      have g2 := hg.2
      have hv4 : v < 10000 := Nat.lt_of_lt_of_le hv (Nat.pow_le_pow_right (by decide) (by omega) : 10 ^ c ≤ 10 ^ 4)
      obtain ⟨b1, b2, b3, b4⟩ := h.1.b g1
      refine ⟨fun z => absurd z w01, fun _ => ⟨fun _ => ⟨fun z => ?_, fun z => ⟨a, h.1.2.2.1, ?_, ?_⟩⟩, fun z => absurd h.2.2.1 z⟩⟩
      · rw [w_inj (by omega) (by omega) (by omega) (by omega)] at z
        omega
      · rw [h.1.2.2.2.1, h.2.1]
        exact b1
      · rintro μ4 rfl
        rw [h.1.2.2.2.1, h.2.1, b2, w_mul, w_add, w_sub, w_add, w_add, show sb (tb q) = tb q by unfold sb; rw [if_pos (by omega)], show (10 * (v : Int) + (tb q : Int) - 48) = ((10 * v + (tb q - 48) : Nat) : Int) by omega]
        exact ih _ (q + 1) (10 * v + (tb q - 48)) (c + 1) (by omega) (by rw [Nat.pow_succ]; omega) (h.mv (q := q + 1) g1) (fun x μ' o1 => hQ1 x μ' ((mf _ _ (Or.inl rfl)).trans o1)) (fun μ' o1 => hQ2 μ' ((mf _ _ (Or.inl rfl)).trans o1))
    · have e1 : nmF tb n (f + 1) q v c = (q, v, c) := if_neg hg
      rw [e1] at hQ2
      exact ⟨fun _ => hQ2 _ (fr.rf _ _) hg h, fun z => absurd rfl z⟩
theorem nmF_c0 : ∀ f q v c, 0 < c → 0 < (nmF tb n f q v c).2.2
  | 0, q, v, c, h => h
  | f + 1, q, v, c, h => by
    unfold nmF
    split
    · exact nmF_c0 f _ _ _ (by omega)
    · exact h
theorem C_atom {S : Nat → LR} (hf : FM Γ) (hd : 6 ≤ d) (hS : 0 < k → ∀ (μ : XM) (p : Nat), MT μ a o n tb e p (k - 1) → Call Γ m_MO_sum (d - 1) [.ref 547] μ (KI (fun x μ' => MRs μ μ' a o n tb e (k - 1) (S p) x))) {h : Nat} (hG : 0 < k → ∀ p, p ≤ n → LG n p (CG h) (S p)) (hp : MT μ a o n tb e p k) : Call Γ m_MO_atom d [.ref 547] μ (KI (fun x μ' => MRs μ μ' a o n tb e k (lat tb n k S p) x)) := by
  obtain ⟨d, rfl⟩ : ∃ e, d = e + 2 := ⟨d - 2, by omega⟩
  have hb := lk_bd (p := p) hp.1.bt
  have hn := hp.1.n2
  have hs := sk_le tb hp.2.2.2.2.1
  have hk := hp.2.2.2.2.2
  refine Call.of ok_MO_atom (Nat.le_of_ble_eq_true rfl) (B_MO_atom_0 hp.1.o ?_)
  refine (C_look (by omega) hp).conseq (KI.mono ?_)
  rintro r μ1 ⟨rfl, o1, h1⟩
  refine (C_isAmong (j := 1) (by omega) hf h1.1.1 h1.1.2.2.2.2.2.2.2.2.2.2 (by omega) hb.1 (by omega)).conseq (KI.mono ?_)
  rw [← lix_spt]
  have hx := lix_bd (lk tb n p)
  unfold lat
  rintro r μ2 ⟨rfl, ⟨e2, rfl⟩ | ⟨e2, rfl⟩⟩
  · refine ⟨fun z => absurd z w01, fun _ => ?_⟩
    have el := lix_at e2
    have hne : ¬ lk tb n p = 91 := fun z => e2 (by rw [z]; decide)
    rw [if_neg hne, if_neg e2]
    have hlt : sk tb n p < n := by
      refine Decidable.byContradiction fun q => e2 ?_
      unfold lk ch
      rw [if_neg q]
      decide
    rintro μ9 rfl
    rw [h1.2.1, w_add, show ((sk tb n p : Nat) : Int) + 1 = ((sk tb n p + 1 : Nat) : Int) by omega]
    have h9 := h1.mv (q := sk tb n p + 1) (by omega)
    have hl0 : 0 ≤ lk tb n p := by
      unfold lk ch
      rw [if_pos hlt]
      omega
    refine ⟨551, h9.1.2.1, inb_of (show shp 551 = some (.inr (0, 128)) from rfl) (by omega) h9.1.1 hl0 ?_, _, rfl, o1.trans (mf _ _ (Or.inl rfl)), ?_, h9⟩
    · rw [← el]
      have : ∀ j, j < 6 → ltr 3 j < 128 := by decide
      exact this _ (by omega)
    · have := h9.1.2.2.2.2.2.2.2.2.2.1 (lix (lk tb n p)).toNat (by omega)
      rw [el] at this
      rw [w_cl (by omega) (by omega)]
      exact this
  · refine ⟨fun _ => ?_, fun z => absurd rfl z⟩
    rw [w_inj (by omega) (by omega) (by omega) (by omega)]
    refine ⟨fun z => ?_, fun z => ?_⟩
    · rw [if_pos z]
      have hlt := lk_lt z (by decide)
      refine (C_goesIn (by omega) h1).conseq (KI.mono ?_)
      rintro r μ3 ⟨o3, ⟨e3, rfl, h3⟩ | ⟨e3, rfl, h3⟩⟩
      · refine ⟨fun _ => ⟨_, rfl, ?_⟩, fun q => absurd rfl q⟩
        rw [if_pos e3]
        exact ⟨o1.trans o3, h3⟩
      · refine ⟨fun q => absurd q w01, fun _ => ?_⟩
        rw [if_neg (by omega)]
        refine (hS e3 μ3 _ (h3 hlt)).conseq (KI.mono ?_)
        have hr := hG e3 (sk tb n p + 1) (by omega)
        rintro x μ4 ⟨o4, h4⟩
        match hP : S (sk tb n p + 1), hr, h4 with
        | .inl q, hr, h4 =>
          have hq : q ≤ n := hr
          have hM4 := ((h1.1.m o3).m o4)
          refine (C_takesB (by omega) hM4 (by rw [h4]; exact wq (by omega))).conseq (KI.mono ?_)
          rintro r μ5 ⟨rfl, rfl⟩
          exact ⟨fun _ => ⟨_, rfl, (o1.trans o3).trans o4, h4⟩, fun q => absurd rfl q⟩
        | .inr (p', c, g), hr, h4 =>
          obtain ⟨rfl, h5⟩ := h4
          refine (C_takes (by omega) h5 (c := 93) (by decide) (by decide)).conseq (KI.mono ?_)
          rintro r μ5 ⟨o5, ⟨e5, rfl, h6⟩ | ⟨e5, rfl, h6⟩⟩
          · refine ⟨fun q => absurd q w01, fun _ => ?_⟩
            rintro μ8 rfl
            refine ⟨_, rfl, (((o1.trans o3).trans o4).trans o5).trans (mf _ _ (Or.inr (Or.inr rfl))), ?_⟩
            dsimp only
            rw [if_pos e5, h6.2.2.2.1, w_sub]
            refine ⟨rfl, h6.1.m (mf _ _ (Or.inr (Or.inr rfl))), ?_, ?_, ?_, h6.2.2.2.2.1, hk⟩
            · rw [xI_sI, if_neg (by omega)]; exact h6.2.1
            · rw [xI_sI, if_neg (by omega)]; exact h6.2.2.1
            · rw [xI_sI, if_pos ⟨rfl, rfl⟩]
              congr 1
              omega
          · refine ⟨fun _ => ⟨_, rfl, ((o1.trans o3).trans o4).trans o5, ?_⟩, fun q => absurd rfl q⟩
            dsimp only
            rw [if_neg e5]
            exact h6
    · rw [if_neg z, if_pos e2]
      have en : nm tb n 4 p = nmF tb n 4 (sk tb n p) 0 0 := rfl
      refine (C_isDigitM (by omega) h1.1 h1.2.1 hs.2).conseq (KI.mono ?_)
      rintro r μ3 ⟨rfl, ⟨hg, rfl⟩ | ⟨hg, rfl⟩⟩
      · refine ⟨fun q => absurd q w01, fun _ => ?_⟩
        have hc0 : ¬ (nm tb n 4 p).2.2 = 0 := by
          rw [en, show nmF tb n 4 (sk tb n p) 0 0 = nmF tb n 3 (sk tb n p + 1) (10 * 0 + (tb (sk tb n p) - 48)) (0 + 1) from if_pos hg]
          have := nmF_c0 (tb := tb) (n := n) 3 (sk tb n p + 1) (10 * 0 + (tb (sk tb n p) - 48)) (0 + 1) (by omega)
          omega
        refine atom_G (d := d) 4 _ (sk tb n p) 0 0 (by omega) (by decide) h1 (fun x μ' o2 hd2 hf2 => ?_) (fun μ' o2 hd2 h3 => ?_)
        · refine ⟨_, rfl, o1.trans o2, ?_⟩
          have hd3 : (nm tb n 4 p).2.2 = 0 ∨ ((nm tb n 4 p).1 < n ∧ 48 ≤ tb (nm tb n 4 p).1 ∧ tb (nm tb n 4 p).1 ≤ 57) := Or.inr hd2
          rw [if_pos hd3]
          exact hf2
        · refine ⟨_, rfl, o1.trans o2, ?_⟩
          have hd3 : ¬ ((nm tb n 4 p).2.2 = 0 ∨ ((nm tb n 4 p).1 < n ∧ 48 ≤ tb (nm tb n 4 p).1 ∧ tb (nm tb n 4 p).1 ≤ 57)) := fun q => q.elim hc0 hd2
          rw [if_neg hd3]
          exact ⟨rfl, h3⟩
      · refine ⟨fun _ => ?_, fun q => absurd rfl q⟩
        have e0 : nm tb n 4 p = (sk tb n p, 0, 0) := if_neg hg
        refine (C_fails (by omega) h1.1 h1.2.1 h1.2.2.1).conseq (KI.mono ?_)
        rintro r μ4 ⟨rfl, o4, rfl⟩
        have hM4 := h1.1.m o4
        refine B_MO_atom_90 hM4.o ?_
        refine (C_isDigitM (by omega) hM4 (p := sk tb n p) (by rw [xI_sI, if_neg (by omega)]; exact h1.2.1) hs.2).conseq (KI.mono ?_)
        rintro r μ5 ⟨rfl, ⟨hg2, rfl⟩ | ⟨hg2, rfl⟩⟩
        · exact absurd hg2 hg
        · refine ⟨fun _ => ⟨_, rfl, o1.trans o4, ?_⟩, fun q => absurd rfl q⟩
          rw [if_pos (Or.inl (by rw [e0]))]
          show xI _ 547 11 = w (nm tb n 4 p).1
          rw [e0, xI_sI, if_pos ⟨rfl, rfl⟩]
theorem C_within (hd : 1 ≤ d) {y : Int64} : Call Γ m_MO_within d [.long y] μ (KI (fun r μ' => μ' = μ ∧ r = (jmaxL (wl (-1000000)) (jminL (wl 1000000) y)).toInt32)) := by
  obtain ⟨d, rfl⟩ : ∃ e, d = e + 1 := ⟨d - 1, by omega⟩
  exact Call.of ok_MO_within (Nat.le_of_ble_eq_true rfl) (B_MO_within_0 ⟨_, rfl, rfl, rfl⟩)
theorem termM_G {P : Nat → LR} {h : Nat} (hd : 1 ≤ d) (he : EV e) (hA : ∀ (μ : XM) (p : Nat), MT μ a o n tb e p k → Call Γ m_MO_atom (d + 1) [.ref 547] μ (KI (fun x μ' => MRs μ μ' a o n tb e k (P p) x))) (hG : ∀ p, p ≤ n → LG n p (CG h) (P p)) : ∀ (f : Nat) (μ : XM) (p turn : Nat) (c : List Int) (g : (Nat → Int) → Int), turn + f = 240 → turn < p → MT μ a o n tb e p k → (-1000000 ≤ g e ∧ g e ≤ 1000000) → (∀ x μ', MRs μ μ' a o n tb e k (lgo tb n 42 47 P f p c g) x → Q (some (.int x)) μ') → G Γ m_MO_term (d + 2) (0, 0) Q 5 [.ref 547, .int (w (g e))] [] μ := by
  intro f
  induction f with
  | zero =>
    intro μ p turn c g hf ht h vb hQ
    have := h.1.n2
    have := h.2.2.2.2.1
    omega
  | succ f ih =>
    intro μ p turn c g hf ht h vb hQ
    have hn := h.1.n2
    have hp := h.2.2.2.2.1
    have hs := sk_le tb hp
    have hb := lk_bd (p := p) h.1.bt
    have e1 := lk_sk tb (n := n) hp
    have e2 := sk_sk tb (n := n) hp
    have go : ∀ (μ1 : XM), fr mfr μ μ1 → MT μ1 a o n tb e (sk tb n p) k → (lk tb n p = 42 ∨ lk tb n p = 47) → G Γ m_MO_term (d + 2) (0, 0) Q 31 [.ref 547, .int (w (g e))] [] μ1 := by
      intro μ1 o1 h1 hc0
      have hlt : sk tb n p < n := by
        rcases hc0 with z | z
        · exact lk_lt z (by decide)
        · exact lk_lt z (by decide)
      refine B_MO_term_31 h1.1.o ?_
      refine (C_look (by omega) h1).conseq (KI.mono ?_)
      rw [e1, e2]
      rintro r μ2 ⟨rfl, o2, h2⟩
      rw [w_inj (by omega) (by omega) (by omega) (by omega)]
      refine ⟨fun hc => ?_, fun hc' => ?_⟩
      · rintro μ6 rfl
        · rw [h2.2.1, w_add, show ((sk tb n p : Nat) : Int) + 1 = ((sk tb n p + 1 : Nat) : Int) by omega]
          refine (hA _ _ (h2.mv (q := sk tb n p + 1) (by omega))).conseq (KI.mono ?_)
          have hr := hG (sk tb n p + 1) (by omega)
          have o12 := (o1.trans o2).trans (mf μ2 (w ((sk tb n p + 1 : Nat) : Int)) (Or.inl rfl))
          rintro x μ3 ⟨o3, h3⟩
          rw [lgo, if_pos (by omega)] at hQ
          match hP : P (sk tb n p + 1), hr, h3, hQ with
          | .inl q, hr, h4, hQ =>
            have hq : q ≤ n := hr
            have bad : ∀ (v : Int32), xI μ3 547 11 = w q → G Γ m_MO_term (d + 2) (0, 0) Q 5 [.ref 547, .int v] [] μ3 := fun v hw => by
              refine B_MO_term_5 ((h2.mv (q := sk tb n p + 1) (by omega)).1.m o3).o ?_
              exact ⟨fun z => absurd (hw.symm.trans z) (wq (by omega)), fun _ => hQ v μ3 ⟨o12.trans o3, hw⟩⟩
            refine ⟨fun z => absurd z w01, fun _ => (C_within (by omega)).conseq (KI.mono ?_)⟩
            rintro r μ4 ⟨rfl, -⟩
            exact bad _ h4
          | .inr (p', c', g'), hr, h3, hQ =>
            obtain ⟨rfl, h4⟩ := h3
            obtain ⟨a1, a2, a3, a4⟩ := hr
            have vb2 := (a4.2 e he).1
            have vm := bnd_mul vb.1 vb.2 vb2.1 vb2.2
            have fin : ∀ (v : Int), MT μ3 a o n tb e p' k → v = jnd 42 (g e) (g' e) → G Γ m_MO_term (d + 2) (0, 0) Q 5 [.ref 547, .int (w v)] [] μ3 := fun v h5 ev => by
              have := ih μ3 p' (turn + 1) _ (fun e => jnd (lk tb n p) (g e) (g' e)) (by omega) (by omega) h5 (by show -1000000 ≤ jnd _ _ _ ∧ _; exact clp_bd _) (fun x μ5 h6 => hQ x μ5 ⟨(o12.trans o3).trans h6.1, h6.2⟩)
              rw [ev]
              rw [hc] at this
              exact this
            refine ⟨fun z => absurd z w01, fun _ => ?_⟩
            rw [w_l (by omega) (by omega), w_l (by omega) (by omega), wl_mul]
            refine (C_within (by omega)).conseq (KI.mono ?_)
            rintro r μ4 ⟨rfl, rfl⟩
            rw [clp_w (by omega) (by omega), ← jnd_42]
            exact fin _ h4 rfl
      · have hc : lk tb n p = 47 := by omega
        rintro μ6 rfl
        · rw [h2.2.1, w_add, show ((sk tb n p : Nat) : Int) + 1 = ((sk tb n p + 1 : Nat) : Int) by omega]
          refine (hA _ _ (h2.mv (q := sk tb n p + 1) (by omega))).conseq (KI.mono ?_)
          have hr := hG (sk tb n p + 1) (by omega)
          have o12 := (o1.trans o2).trans (mf μ2 (w ((sk tb n p + 1 : Nat) : Int)) (Or.inl rfl))
          rintro x μ3 ⟨o3, h3⟩
          rw [lgo, if_pos (by omega)] at hQ
          match hP : P (sk tb n p + 1), hr, h3, hQ with
          | .inl q, hr, h4, hQ =>
            have hq : q ≤ n := hr
            have bad : ∀ (v : Int32), xI μ3 547 11 = w q → G Γ m_MO_term (d + 2) (0, 0) Q 5 [.ref 547, .int v] [] μ3 := fun v hw => by
              refine B_MO_term_5 ((h2.mv (q := sk tb n p + 1) (by omega)).1.m o3).o ?_
              exact ⟨fun z => absurd (hw.symm.trans z) (wq (by omega)), fun _ => hQ v μ3 ⟨o12.trans o3, hw⟩⟩
            refine ⟨fun _ => ⟨fun z => (C_within (by omega)).conseq (KI.mono ?_), fun z => ⟨fun q => z ((lgz _).mpr q), (C_within (by omega)).conseq (KI.mono ?_)⟩⟩, fun z => absurd rfl z⟩
            · rintro r μ4 ⟨rfl, -⟩
              exact bad _ h4
            · rintro r μ4 ⟨rfl, -⟩
              exact bad _ h4
          | .inr (p', c', g'), hr, h3, hQ =>
            obtain ⟨rfl, h4⟩ := h3
            obtain ⟨a1, a2, a3, a4⟩ := hr
            have vb2 := (a4.2 e he).1
            have vm := bnd_mul vb.1 vb.2 vb2.1 vb2.2
            have fin : ∀ (v : Int), MT μ3 a o n tb e p' k → v = jnd 47 (g e) (g' e) → G Γ m_MO_term (d + 2) (0, 0) Q 5 [.ref 547, .int (w v)] [] μ3 := fun v h5 ev => by
              have := ih μ3 p' (turn + 1) _ (fun e => jnd (lk tb n p) (g e) (g' e)) (by omega) (by omega) h5 (by show -1000000 ≤ jnd _ _ _ ∧ _; exact clp_bd _) (fun x μ5 h6 => hQ x μ5 ⟨(o12.trans o3).trans h6.1, h6.2⟩)
              rw [ev]
              rw [hc] at this
              exact this
            refine ⟨fun _ => ⟨fun z => ?_, fun z => ⟨?_, ?_⟩⟩, fun z => absurd rfl z⟩
            · rw [w_l (by omega) (by omega), lgz, wl_inj (by omega) (by omega) (by omega) (by omega)] at z
              refine (C_within (by omega)).conseq (KI.mono ?_)
              rintro r μ4 ⟨rfl, rfl⟩
              rw [clp_w (by omega) (by omega), show clp 0 = jnd 47 (g e) (g' e) by rw [jnd_47, if_pos z]]
              exact fin _ h4 rfl
            · rw [lgz] at z
              exact fun q => z (by rw [q]; rfl)
            · rw [w_l (by omega) (by omega), lgz, wl_inj (by omega) (by omega) (by omega) (by omega)] at z
              have ht := tdiv_bd (a := g e) (b := g' e) (B := 1000000) vb.1 vb.2
              rw [w_l (by omega) (by omega), w_l (by omega) (by omega), wl_tdiv (by omega) (by omega) (by omega) (by omega)]
              refine (C_within (by omega)).conseq (KI.mono ?_)
              rintro r μ4 ⟨rfl, rfl⟩
              rw [clp_w (by omega) (by omega), show clp ((g e).tdiv (g' e)) = jnd 47 (g e) (g' e) by rw [jnd_47, if_neg z]]
              exact fin _ h4 rfl
    refine B_MO_term_5 h.1.o ?_
    refine ⟨fun _ => ?_, fun z => absurd h.2.2.1 z⟩
    refine (C_look (by omega) h).conseq (KI.mono ?_)
    rintro r μ1 ⟨rfl, o1, h1⟩
    rw [w_inj (by omega) (by omega) (by omega) (by omega)]
    refine ⟨fun z => go μ1 o1 h1 (Or.inl z), fun z => ?_⟩
    refine (C_look (by omega) h1).conseq (KI.mono ?_)
    rw [e1, e2]
    rintro r μ2 ⟨rfl, o2, h2⟩
    rw [w_inj (by omega) (by omega) (by omega) (by omega)]
    refine ⟨fun z2 => go μ2 (o1.trans o2) h2 (Or.inr z2), fun z2 => ?_⟩
    rw [lgo, if_neg (fun q => q.elim z z2)] at hQ
    exact hQ _ _ ⟨o1.trans o2, rfl, h2⟩
theorem C_term {P : Nat → LR} {h : Nat} (hd : 3 ≤ d) (hA : ∀ (μ : XM) (p : Nat), MT μ a o n tb e p k → Call Γ m_MO_atom (d - 1) [.ref 547] μ (KI (fun x μ' => MRs μ μ' a o n tb e k (P p) x))) (hG : ∀ p, p ≤ n → LG n p (CG h) (P p)) (hp : MT μ a o n tb e p k) : Call Γ m_MO_term d [.ref 547] μ (KI (fun x μ' => MRs μ μ' a o n tb e k (lbeh tb n 42 47 P (P p)) x)) := by
  obtain ⟨d, rfl⟩ : ∃ e, d = e + 2 := ⟨d - 2, by omega⟩
  rw [show d + 2 - 1 = d + 1 by omega] at hA
  have hn := hp.1.n2
  have he := hp.1.2.2.2.2.2.2.2.2.1
  refine Call.of ok_MO_term (Nat.le_of_ble_eq_true rfl) (B_MO_term_0 hp.1.o ?_)
  refine (hA μ p hp).conseq (KI.mono ?_)
  have hr := hG p hp.2.2.2.2.1
  rintro x μ1 ⟨o1, h1⟩
  match hP : P p, hr, h1 with
  | .inl q, hr, h1 =>
    have hq : q ≤ n := hr
    refine B_MO_term_5 (hp.1.m o1).o ?_
    exact ⟨fun z => absurd (h1.symm.trans z) (wq (by omega)), fun _ => ⟨_, rfl, o1, h1⟩⟩
  | .inr (p', c, g), hr, h1 =>
    obtain ⟨rfl, h2⟩ := h1
    obtain ⟨a1, a2, a3, a4⟩ := hr
    exact termM_G (turn := 0) (by omega) he hA hG 240 μ1 p' c g (by omega) (by omega) h2 (a4.2 e he).1 (fun x μ3 h4 => ⟨_, rfl, o1.trans h4.1, h4.2⟩)
theorem sumM_G {P : Nat → LR} {h : Nat} (hd : 1 ≤ d) (he : EV e) (hA : ∀ (μ : XM) (p : Nat), MT μ a o n tb e p k → Call Γ m_MO_term (d + 1) [.ref 547] μ (KI (fun x μ' => MRs μ μ' a o n tb e k (P p) x))) (hG : ∀ p, p ≤ n → LG n p (CG h) (P p)) : ∀ (f : Nat) (μ : XM) (p turn : Nat) (c : List Int) (g : (Nat → Int) → Int), turn + f = 240 → turn < p → MT μ a o n tb e p k → (-1000000 ≤ g e ∧ g e ≤ 1000000) → (∀ x μ', MRs μ μ' a o n tb e k (lgo tb n 43 45 P f p c g) x → Q (some (.int x)) μ') → G Γ m_MO_sum (d + 2) (0, 0) Q 5 [.ref 547, .int (w (g e))] [] μ := by
  intro f
  induction f with
  | zero =>
    intro μ p turn c g hf ht h vb hQ
    have := h.1.n2
    have := h.2.2.2.2.1
    omega
  | succ f ih =>
    intro μ p turn c g hf ht h vb hQ
    have hn := h.1.n2
    have hp := h.2.2.2.2.1
    have hs := sk_le tb hp
    have hb := lk_bd (p := p) h.1.bt
    have e1 := lk_sk tb (n := n) hp
    have e2 := sk_sk tb (n := n) hp
    have go : ∀ (μ1 : XM), fr mfr μ μ1 → MT μ1 a o n tb e (sk tb n p) k → (lk tb n p = 43 ∨ lk tb n p = 45) → G Γ m_MO_sum (d + 2) (0, 0) Q 31 [.ref 547, .int (w (g e))] [] μ1 := by
      intro μ1 o1 h1 hc0
      have hlt : sk tb n p < n := by
        rcases hc0 with z | z
        · exact lk_lt z (by decide)
        · exact lk_lt z (by decide)
      refine B_MO_sum_31 h1.1.o ?_
      refine (C_look (by omega) h1).conseq (KI.mono ?_)
      rw [e1, e2]
      rintro r μ2 ⟨rfl, o2, h2⟩
      rw [w_inj (by omega) (by omega) (by omega) (by omega)]
      refine ⟨fun hc => ?_, fun hc' => ?_⟩
      · rintro μ6 rfl
        · rw [h2.2.1, w_add, show ((sk tb n p : Nat) : Int) + 1 = ((sk tb n p + 1 : Nat) : Int) by omega]
          refine (hA _ _ (h2.mv (q := sk tb n p + 1) (by omega))).conseq (KI.mono ?_)
          have hr := hG (sk tb n p + 1) (by omega)
          have o12 := (o1.trans o2).trans (mf μ2 (w ((sk tb n p + 1 : Nat) : Int)) (Or.inl rfl))
          rintro x μ3 ⟨o3, h3⟩
          rw [lgo, if_pos (by omega)] at hQ
          match hP : P (sk tb n p + 1), hr, h3, hQ with
          | .inl q, hr, h4, hQ =>
            have hq : q ≤ n := hr
            have bad : ∀ (v : Int32), xI μ3 547 11 = w q → G Γ m_MO_sum (d + 2) (0, 0) Q 5 [.ref 547, .int v] [] μ3 := fun v hw => by
              refine B_MO_sum_5 ((h2.mv (q := sk tb n p + 1) (by omega)).1.m o3).o ?_
              exact ⟨fun z => absurd (hw.symm.trans z) (wq (by omega)), fun _ => hQ v μ3 ⟨o12.trans o3, hw⟩⟩
            refine ⟨fun z => absurd z w01, fun _ => (C_within (by omega)).conseq (KI.mono ?_)⟩
            rintro r μ4 ⟨rfl, -⟩
            exact bad _ h4
          | .inr (p', c', g'), hr, h3, hQ =>
            obtain ⟨rfl, h4⟩ := h3
            obtain ⟨a1, a2, a3, a4⟩ := hr
            have vb2 := (a4.2 e he).1
            have fin : ∀ (v : Int), MT μ3 a o n tb e p' k → v = jnd 43 (g e) (g' e) → G Γ m_MO_sum (d + 2) (0, 0) Q 5 [.ref 547, .int (w v)] [] μ3 := fun v h5 ev => by
              have := ih μ3 p' (turn + 1) _ (fun e => jnd (lk tb n p) (g e) (g' e)) (by omega) (by omega) h5 (by show -1000000 ≤ jnd _ _ _ ∧ _; exact clp_bd _) (fun x μ5 h6 => hQ x μ5 ⟨(o12.trans o3).trans h6.1, h6.2⟩)
              rw [ev]
              rw [hc] at this
              exact this
            refine ⟨fun z => absurd z w01, fun _ => ?_⟩
            rw [w_l (by omega) (by omega), w_l (by omega) (by omega), wl_add]
            refine (C_within (by omega)).conseq (KI.mono ?_)
            rintro r μ4 ⟨rfl, rfl⟩
            rw [clp_w (by omega) (by omega), ← jnd_43]
            exact fin _ h4 rfl
      · have hc : lk tb n p = 45 := by omega
        rintro μ6 rfl
        · rw [h2.2.1, w_add, show ((sk tb n p : Nat) : Int) + 1 = ((sk tb n p + 1 : Nat) : Int) by omega]
          refine (hA _ _ (h2.mv (q := sk tb n p + 1) (by omega))).conseq (KI.mono ?_)
          have hr := hG (sk tb n p + 1) (by omega)
          have o12 := (o1.trans o2).trans (mf μ2 (w ((sk tb n p + 1 : Nat) : Int)) (Or.inl rfl))
          rintro x μ3 ⟨o3, h3⟩
          rw [lgo, if_pos (by omega)] at hQ
          match hP : P (sk tb n p + 1), hr, h3, hQ with
          | .inl q, hr, h4, hQ =>
            have hq : q ≤ n := hr
            have bad : ∀ (v : Int32), xI μ3 547 11 = w q → G Γ m_MO_sum (d + 2) (0, 0) Q 5 [.ref 547, .int v] [] μ3 := fun v hw => by
              refine B_MO_sum_5 ((h2.mv (q := sk tb n p + 1) (by omega)).1.m o3).o ?_
              exact ⟨fun z => absurd (hw.symm.trans z) (wq (by omega)), fun _ => hQ v μ3 ⟨o12.trans o3, hw⟩⟩
            refine ⟨fun _ => (C_within (by omega)).conseq (KI.mono ?_), fun z => absurd rfl z⟩
            rintro r μ4 ⟨rfl, -⟩
            exact bad _ h4
          | .inr (p', c', g'), hr, h3, hQ =>
            obtain ⟨rfl, h4⟩ := h3
            obtain ⟨a1, a2, a3, a4⟩ := hr
            have vb2 := (a4.2 e he).1
            have fin : ∀ (v : Int), MT μ3 a o n tb e p' k → v = jnd 45 (g e) (g' e) → G Γ m_MO_sum (d + 2) (0, 0) Q 5 [.ref 547, .int (w v)] [] μ3 := fun v h5 ev => by
              have := ih μ3 p' (turn + 1) _ (fun e => jnd (lk tb n p) (g e) (g' e)) (by omega) (by omega) h5 (by show -1000000 ≤ jnd _ _ _ ∧ _; exact clp_bd _) (fun x μ5 h6 => hQ x μ5 ⟨(o12.trans o3).trans h6.1, h6.2⟩)
              rw [ev]
              rw [hc] at this
              exact this
            refine ⟨fun _ => ?_, fun z => absurd rfl z⟩
            rw [w_l (by omega) (by omega), w_l (by omega) (by omega), wl_sub]
            refine (C_within (by omega)).conseq (KI.mono ?_)
            rintro r μ4 ⟨rfl, rfl⟩
            rw [clp_w (by omega) (by omega), ← jnd_45]
            exact fin _ h4 rfl
    refine B_MO_sum_5 h.1.o ?_
    refine ⟨fun _ => ?_, fun z => absurd h.2.2.1 z⟩
    refine (C_look (by omega) h).conseq (KI.mono ?_)
    rintro r μ1 ⟨rfl, o1, h1⟩
    rw [w_inj (by omega) (by omega) (by omega) (by omega)]
    refine ⟨fun z => go μ1 o1 h1 (Or.inl z), fun z => ?_⟩
    refine (C_look (by omega) h1).conseq (KI.mono ?_)
    rw [e1, e2]
    rintro r μ2 ⟨rfl, o2, h2⟩
    rw [w_inj (by omega) (by omega) (by omega) (by omega)]
    refine ⟨fun z2 => go μ2 (o1.trans o2) h2 (Or.inr z2), fun z2 => ?_⟩
    rw [lgo, if_neg (fun q => q.elim z z2)] at hQ
    exact hQ _ _ ⟨o1.trans o2, rfl, h2⟩
theorem C_sum {P : Nat → LR} {h : Nat} (hd : 3 ≤ d) (hA : ∀ (μ : XM) (p : Nat), MT μ a o n tb e p k → Call Γ m_MO_term (d - 1) [.ref 547] μ (KI (fun x μ' => MRs μ μ' a o n tb e k (P p) x))) (hG : ∀ p, p ≤ n → LG n p (CG h) (P p)) (hp : MT μ a o n tb e p k) : Call Γ m_MO_sum d [.ref 547] μ (KI (fun x μ' => MRs μ μ' a o n tb e k (lbeh tb n 43 45 P (P p)) x)) := by
  obtain ⟨d, rfl⟩ : ∃ e, d = e + 2 := ⟨d - 2, by omega⟩
  rw [show d + 2 - 1 = d + 1 by omega] at hA
  have hn := hp.1.n2
  have he := hp.1.2.2.2.2.2.2.2.2.1
  refine Call.of ok_MO_sum (Nat.le_of_ble_eq_true rfl) (B_MO_sum_0 hp.1.o ?_)
  refine (hA μ p hp).conseq (KI.mono ?_)
  have hr := hG p hp.2.2.2.2.1
  rintro x μ1 ⟨o1, h1⟩
  match hP : P p, hr, h1 with
  | .inl q, hr, h1 =>
    have hq : q ≤ n := hr
    refine B_MO_sum_5 (hp.1.m o1).o ?_
    exact ⟨fun z => absurd (h1.symm.trans z) (wq (by omega)), fun _ => ⟨_, rfl, o1, h1⟩⟩
  | .inr (p', c, g), hr, h1 =>
    obtain ⟨rfl, h2⟩ := h1
    obtain ⟨a1, a2, a3, a4⟩ := hr
    exact sumM_G (turn := 0) (by omega) he hA hG 240 μ1 p' c g (by omega) (by omega) h2 (a4.2 e he).1 (fun x μ3 h4 => ⟨_, rfl, o1.trans h4.1, h4.2⟩)
theorem C_lsmM {S : Nat → LR} {h : Nat} (hf : FM Γ) (hd : 8 ≤ d) (hS : 0 < k → ∀ (μ : XM) (p : Nat), MT μ a o n tb e p (k - 1) → Call Γ m_MO_sum (d - 3) [.ref 547] μ (KI (fun x μ' => MRs μ μ' a o n tb e (k - 1) (S p) x))) (hG : 0 < k → ∀ p, p ≤ n → LG n p (CG h) (S p)) (hh : 1 ≤ h) (hp : MT μ a o n tb e p k) : Call Γ m_MO_sum d [.ref 547] μ (KI (fun x μ' => MRs μ μ' a o n tb e k (lsm tb n k S p) x)) := by
  obtain ⟨d, rfl⟩ : ∃ e, d = e + 3 := ⟨d - 3, by omega⟩
  rw [Nat.add_sub_cancel] at hS
  have ha := lat_LG (tb := tb) hG hh
  refine C_sum (P := ltm tb n k S) (h := h + 1) (by omega) (fun μ p h1 => ?_) (fun p hp => lbeh_LG (by decide) (by decide) ha (fun s c g c' g' hs a b => CG.bin a b (by unfold JS; omega) (by omega)) ((ha p hp).imp (fun _ _ a => a.up (by omega)))) hp
  refine C_term (P := lat tb n k S) (d := d + 2) (h := h) (by omega) (fun μ p h2 => ?_) ha h1
  exact C_atom (d := d + 1) hf (by omega) hS hG h2
theorem C_lSM (hf : FM Γ) : ∀ (k : Nat) (d : Nat) (μ : XM) (p : Nat), 8 + 3 * k ≤ d → MT μ a o n tb e p k → Call Γ m_MO_sum d [.ref 547] μ (KI (fun x μ' => MRs μ μ' a o n tb e k (lS tb n k p) x))
  | 0, d, μ, p, hd, hp => by
    have := C_lsmM (k := 0) (h := 1) (S := fun p => .inl p) hf (by omega) (fun q => absurd q (by omega)) (fun q => absurd q (by omega)) (by omega) (Γ := Γ) (d := d) hp
    exact this
  | k + 1, d, μ, p, hd, hp => by
    have := C_lsmM (k := k + 1) (h := 3 + 2 * k) (S := lS tb n k) (Γ := Γ) (d := d) hf (by omega) (fun _ μ p h1 => C_lSM hf k (d - 3) μ p (by omega) h1) (fun _ => lS_LG k) (by omega) hp
    exact this
end MI
