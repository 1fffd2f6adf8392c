/-! NUMBERS: w z stands for the whole number z -/
theorem w_add (a b : Int) : w a + w b = w (a + b) := (Int32.ofInt_add a b).symm
theorem w_sub (a b : Int) : w a - w b = w (a - b) := (Int32.ofInt_sub a b).symm
theorem w_mul (a b : Int) : w a * w b = w (a * b) := (Int32.ofInt_mul a b).symm
theorem w_toInt {a : Int} (h1 : -2147483648 ≤ a) (h2 : a < 2147483648) : (w a).toInt = a := Int32.toInt_ofInt_of_le (by simpa using h1) (by simpa using h2)
theorem w_self (x : Int32) : w x.toInt = x := Int32.ofInt_toInt x
theorem w_ex (x : Int32) : ∃ z : Int, x = w z ∧ -2147483648 ≤ z ∧ z < 2147483648 := ⟨x.toInt, (w_self x).symm, by have := x.le_toInt; simpa using this, by have := x.toInt_lt; simpa using this⟩
theorem w_lt {a b : Int} (h1 : -2147483648 ≤ a) (h2 : a < 2147483648) (h3 : -2147483648 ≤ b) (h4 : b < 2147483648) : w a < w b ↔ a < b := by
  rw [Int32.lt_iff_toInt_lt, w_toInt h1 h2, w_toInt h3 h4]
theorem w_le {a b : Int} (h1 : -2147483648 ≤ a) (h2 : a < 2147483648) (h3 : -2147483648 ≤ b) (h4 : b < 2147483648) : w a ≤ w b ↔ a ≤ b := by
  rw [Int32.le_iff_toInt_le, w_toInt h1 h2, w_toInt h3 h4]
theorem w_inj {a b : Int} (h1 : -2147483648 ≤ a) (h2 : a < 2147483648) (h3 : -2147483648 ≤ b) (h4 : b < 2147483648) : w a = w b ↔ a = b := by
  rw [← Int32.toInt_inj, w_toInt h1 h2, w_toInt h3 h4]
theorem w_cl {a : Int} (h1 : -2147483648 ≤ a) (h2 : a < 2147483648) : (w a).toNatClampNeg = a.toNat := by
  show (w a).toInt.toNat = _
  rw [w_toInt h1 h2]
theorem w_cln {a : Nat} (h2 : a < 2147483648) : (w (a : Int)).toNatClampNeg = a := by
  rw [w_cl (by omega) (by omega)]; rfl
theorem w_in {a : Int} {n : Nat} (h1 : 0 ≤ a) (h2 : a < n) (h3 : a < 2147483648) : vp_in (w a) n := by
  rintro (h | h)
  · rw [← w0, w_lt (by omega) (by omega) (by omega) (by omega)] at h
    omega
  · rw [w_cl (by omega) h3] at h
    omega
theorem w_div {a b : Int} (h1 : 0 ≤ a) (h2 : a < 2147483648) (h3 : 0 < b) (h4 : b < 2147483648) : w a / w b = w (a / b) := by
  apply Int32.toInt_inj.mp
  have e1 : a.tdiv b = a / b := Int.tdiv_eq_ediv_of_nonneg h1
  have e2 : 0 ≤ a / b := Int.ediv_nonneg h1 (by omega)
  have e3 : a / b ≤ a := Int.ediv_le_self b h1
  rw [Int32.toInt_div, w_toInt (by omega) h2, w_toInt (by omega) h4, e1, w_toInt (by omega) (by omega)]
  exact Int.bmod_eq_of_le (by omega) (by omega)
theorem w_rem {a b : Int} (h1 : 0 ≤ a) (h2 : a < 2147483648) (h3 : 0 < b) (h4 : b < 2147483648) : w a - w a / w b * w b = w (a % b) := by
  rw [w_div h1 h2 h3 h4, w_mul, w_sub]
  congr 1
  have := Int.emod_add_mul_ediv a b
  rw [Int.mul_comm] at this
  omega
theorem w_nz {b : Int} (h3 : 0 < b) (h4 : b < 2147483648) : ¬ w b = 0 := by
  rw [← w0, w_inj (by omega) (by omega) (by omega) (by omega)]
  omega
theorem w_nat (n : Nat) : w (n : Int) = nI n := rfl
theorem jmax_w {a b : Int} (h1 : -2147483648 ≤ a) (h2 : a < 2147483648) (h3 : -2147483648 ≤ b) (h4 : b < 2147483648) : jmax (w a) (w b) = w (max a b) := by
  unfold jmax
  by_cases h : a < b
  · rw [if_pos ((w_lt h1 h2 h3 h4).mpr h), Int.max_eq_right (by omega)]
  · rw [if_neg (fun q => h ((w_lt h1 h2 h3 h4).mp q)), Int.max_eq_left (by omega)]
theorem jmin_w {a b : Int} (h1 : -2147483648 ≤ a) (h2 : a < 2147483648) (h3 : -2147483648 ≤ b) (h4 : b < 2147483648) : jmin (w a) (w b) = w (min a b) := by
  unfold jmin
  by_cases h : b < a
  · rw [if_pos ((w_lt h3 h4 h1 h2).mpr h), Int.min_eq_right (by omega)]
  · rw [if_neg (fun q => h ((w_lt h3 h4 h1 h2).mp q)), Int.min_eq_left (by omega)]
/-! the memory -/
theorem xI_sI (μ : XM) (a k c j : Nat) (v : Int32) : xI (sI μ a k v) c j = if c = a ∧ j = k then v else xI μ c j := by
  show up2 _ _ _ _ _ _ = _
  unfold up2
  by_cases h : c = a
  · by_cases h2 : j = k
    · simp [h, h2]
    · simp [h, h2]; rfl
  · simp [h]; rfl
theorem xL_sI (μ : XM) (a k : Nat) (v : Int32) : xL (sI μ a k v) = xL μ := rfl
theorem xR_sI (μ : XM) (a k : Nat) (v : Int32) : xR (sI μ a k v) = xR μ := rfl
theorem xN_sI (μ : XM) (a k : Nat) (v : Int32) : xN (sI μ a k v) = xN μ := rfl
theorem xI_sL (μ : XM) (a k : Nat) (v : Int64) : xI (sL μ a k v) = xI μ := rfl
theorem xR_sL (μ : XM) (a k : Nat) (v : Int64) : xR (sL μ a k v) = xR μ := rfl
theorem xN_sL (μ : XM) (a k : Nat) (v : Int64) : xN (sL μ a k v) = xN μ := rfl
theorem xL_sL (μ : XM) (a k c j : Nat) (v : Int64) : xL (sL μ a k v) c j = if c = a ∧ j = k then v else xL μ c j := by
  show up2 _ _ _ _ _ _ = _
  unfold up2
  by_cases h : c = a
  · by_cases h2 : j = k
    · simp [h, h2]
    · simp [h, h2]; rfl
  · simp [h]; rfl
theorem xI_sR (μ : XM) (a k : Nat) (v : Option Nat) : xI (sR μ a k v) = xI μ := rfl
theorem xL_sR (μ : XM) (a k : Nat) (v : Option Nat) : xL (sR μ a k v) = xL μ := rfl
theorem xN_sR (μ : XM) (a k : Nat) (v : Option Nat) : xN (sR μ a k v) = xN μ := rfl
theorem xR_sR (μ : XM) (a k c j : Nat) (v : Option Nat) : xR (sR μ a k v) c j = if c = a ∧ j = k then v else xR μ c j := by
  show up2 _ _ _ _ _ _ = _
  unfold up2
  by_cases h : c = a
  · by_cases h2 : j = k
    · simp [h, h2]
    · simp [h, h2]; rfl
  · simp [h]; rfl
theorem xI_sC (μ : XM) (a b n c j : Nat) : xI (sC μ a b n) c j = if c = b ∧ j < n then xI μ a j else xI μ c j := rfl
theorem xL_sC (μ : XM) (a b n : Nat) : xL (sC μ a b n) = xL μ := rfl
theorem xR_sC (μ : XM) (a b n : Nat) : xR (sC μ a b n) = xR μ := rfl
theorem xN_sC (μ : XM) (a b n : Nat) : xN (sC μ a b n) = xN μ := rfl
theorem ob_of {μ : XM} {a ci : Nat} (h : shp a = some (.inl ci)) (ha : a < 574) (hN : 574 ≤ xN μ) : ob μ a ci := ⟨h, by omega⟩
theorem ar_of {μ : XM} {a t n : Nat} (h : shp a = some (.inr (t, n))) (ha : a < 574) (hN : 574 ≤ xN μ) : ar μ a t n := ⟨h, by omega⟩
theorem inb_of {μ : XM} {t a n : Nat} {i : Int} (h : shp a = some (.inr (t, n))) (ha : a < 574) (hN : 574 ≤ xN μ) (h1 : 0 ≤ i) (h2 : i < n) : inb μ t a (w i) :=
  ⟨n, ar_of h ha hN, w_in h1 h2 (by have := (shp_ty _ _ _ h).2; omega)⟩
theorem inS_of {μ : XM} {t a n : Nat} {i : Int} (h : shp a = some (.inr (t, n))) (ha : a < 574) (hN : 574 ≤ xN μ) (h1 : 0 ≤ i) (h2 : i < n) (h3 : 32 ≤ a) : inS μ t a (w i) := ⟨h3, inb_of h ha hN h1 h2⟩
theorem cpo_of {μ : XM} {a c na nc n : Nat} (h1 : shp a = some (.inr (0, na))) (h2 : shp c = some (.inr (0, nc))) (ha : a < 574) (hc : c < 574) (hc2 : 32 ≤ c) (hN : 574 ≤ xN μ) (h3 : n ≤ na) (h4 : n ≤ nc) : cpo μ a c n :=
  ⟨hc2, ⟨na, ar_of h1 ha hN, h3⟩, nc, ar_of h2 hc hN, h4⟩
/-- other names for two words, for places where a theorem's own name hides them -/
abbrev zib (μ : XM) (t a : Nat) (i : Int32) : Prop := inb μ t a i
abbrev zob (μ : XM) (a ci : Nat) : Prop := ob μ a ci
