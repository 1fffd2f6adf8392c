/-! LONGS; more of ints -/
theorem wl_add (a b : Int) : wl a + wl b = wl (a + b) := (Int64.ofInt_add a b).symm
theorem wl_sub (a b : Int) : wl a - wl b = wl (a - b) := (Int64.ofInt_sub a b).symm
theorem wl_mul (a b : Int) : wl a * wl b = wl (a * b) := (Int64.ofInt_mul a b).symm
theorem wl_toInt {a : Int} (h1 : -9223372036854775808 ≤ a) (h2 : a < 9223372036854775808) : (wl a).toInt = a := Int64.toInt_ofInt_of_le (by simpa using h1) (by simpa using h2)
theorem wl_lt {a b : Int} (h1 : -9223372036854775808 ≤ a) (h2 : a < 9223372036854775808) (h3 : -9223372036854775808 ≤ b) (h4 : b < 9223372036854775808) : wl a < wl b ↔ a < b := by
  rw [Int64.lt_iff_toInt_lt, wl_toInt h1 h2, wl_toInt h3 h4]
theorem wl_inj {a b : Int} (h1 : -9223372036854775808 ≤ a) (h2 : a < 9223372036854775808) (h3 : -9223372036854775808 ≤ b) (h4 : b < 9223372036854775808) : wl a = wl b ↔ a = b := by
  rw [← Int64.toInt_inj, wl_toInt h1 h2, wl_toInt h3 h4]
theorem wl_self (x : Int64) : wl x.toInt = x := Int64.ofInt_toInt x
theorem w_l {a : Int} (h1 : -2147483648 ≤ a) (h2 : a < 2147483648) : (w a).toInt64 = wl a := by
  apply Int64.toInt_inj.mp
  rw [Int32.toInt_toInt64, w_toInt h1 h2, wl_toInt (by omega) (by omega)]
theorem wl_i (z : Int) : (wl z).toInt32 = w z := Int64.toInt32_ofInt
theorem jmaxL_w {a b : Int} (h1 : -9223372036854775808 ≤ a) (h2 : a < 9223372036854775808) (h3 : -9223372036854775808 ≤ b) (h4 : b < 9223372036854775808) : jmaxL (wl a) (wl b) = wl (max a b) := by
  unfold jmaxL
  by_cases h : b < a
  · rw [if_pos ((wl_lt h3 h4 h1 h2).mpr h), Int.max_eq_left (by omega)]
  · rw [if_neg (fun q => h ((wl_lt h3 h4 h1 h2).mp q)), Int.max_eq_right (by omega)]
theorem jminL_w {a b : Int} (h1 : -9223372036854775808 ≤ a) (h2 : a < 9223372036854775808) (h3 : -9223372036854775808 ≤ b) (h4 : b < 9223372036854775808) : jminL (wl a) (wl b) = wl (min a b) := by
  unfold jminL
  by_cases h : b < a
  · rw [if_pos ((wl_lt h3 h4 h1 h2).mpr h), Int.min_eq_right (by omega)]
  · rw [if_neg (fun q => h ((wl_lt h3 h4 h1 h2).mp q)), Int.min_eq_left (by omega)]
theorem tdiv_bd {a b B : Int} (h1 : -B ≤ a) (h2 : a ≤ B) : -B ≤ a.tdiv b ∧ a.tdiv b ≤ B := by
  have h := Int.natAbs_tdiv a b
  have h3 : (a.tdiv b).natAbs ≤ a.natAbs := by rw [h]; exact Nat.div_le_self _ _
  omega
theorem w_tdiv {a b : Int} (h1 : -2147483647 ≤ a) (h2 : a ≤ 2147483647) (h3 : -2147483648 ≤ b) (h4 : b < 2147483648) : w a / w b = w (a.tdiv b) := by
  have hb := tdiv_bd (a := a) (b := b) (B := 2147483647) (by omega) h2
  apply Int32.toInt_inj.mp
  rw [Int32.toInt_div, w_toInt (by omega) (by omega), w_toInt h3 h4, w_toInt (by omega) (by omega)]
  exact Int.bmod_eq_of_le (by omega) (by omega)
theorem wl_tdiv {a b : Int} (h1 : -9223372036854775807 ≤ a) (h2 : a ≤ 9223372036854775807) (h3 : -9223372036854775808 ≤ b) (h4 : b < 9223372036854775808) : wl a / wl b = wl (a.tdiv b) := by
  have hb := tdiv_bd (a := a) (b := b) (B := 9223372036854775807) (by omega) h2
  apply Int64.toInt_inj.mp
  rw [Int64.toInt_div, wl_toInt (by omega) (by omega), wl_toInt h3 h4, wl_toInt (by omega) (by omega)]
  exact Int.bmod_eq_of_le (by omega) (by omega)
theorem lgc_w {a b : Int} (h1 : -9223372036854775808 ≤ a) (h2 : a < 9223372036854775808) (h3 : -9223372036854775808 ≤ b) (h4 : b < 9223372036854775808) : lg_cmp (wl a) (wl b) = w (if b < a then 1 else if a = b then 0 else -1) := by
  unfold lg_cmp
  by_cases e1 : b < a
  · rw [if_pos ((wl_lt h3 h4 h1 h2).mpr e1), if_pos e1]; rfl
  · rw [if_neg (fun q => e1 ((wl_lt h3 h4 h1 h2).mp q)), if_neg e1]
    by_cases e2 : a = b
    · rw [if_pos ((wl_inj h1 h2 h3 h4).mpr e2), if_pos e2]; rfl
    · rw [if_neg (fun q => e2 ((wl_inj h1 h2 h3 h4).mp q)), if_neg e2]; rfl
/-- within -1,000,000 .. 1,000,000 -/
def clp (z : Int) : Int := max (-1000000) (min 1000000 z)
theorem clp_bd (z : Int) : -1000000 ≤ clp z ∧ clp z ≤ 1000000 := by unfold clp; omega
theorem clp_w {z : Int} (h1 : -4611686018427387904 ≤ z) (h2 : z < 4611686018427387904) : (jmaxL (wl (-1000000)) (jminL (wl 1000000) (wl z))).toInt32 = w (clp z) := by
  rw [jminL_w (by omega) (by omega) (by omega) (by omega), jmaxL_w (by omega) (by omega) (by omega) (by omega), wl_i]
  rfl
/-- what a sign makes of two values -/
def jnd (sg : Int) (a b : Int) : Int := clp (if sg = 38 then (w a &&& w b).toInt else if sg = 42 then a * b else if sg = 43 then a + b else if sg = 45 then a - b else if sg = 47 then (if b = 0 then 0 else a.tdiv b) else if sg = 60 then (if a < b then 1 else 0) else if sg = 61 then (if a = b then 1 else 0) else if sg = 62 then (if b < a then 1 else 0) else (w a ||| w b).toInt)
/-- what the stack of a law may hold -/
def SB (a : Int) : Prop := -1000000 ≤ a ∧ a ≤ 1000001
section J
variable {Γ : XG} {d : Nat} {μ : XM}
theorem C_joined (hd : 1 ≤ d) {sg a b : Int} (hs0 : -100000 ≤ sg) (hs1 : sg ≤ 100000) (ha : SB a) (hb : SB b) : Call Γ m_La_joined d [.int (w sg), .int (w a), .int (w b)] μ (KI (fun r μ' => μ' = μ ∧ r = w (jnd sg a b))) := by
  obtain ⟨d, rfl⟩ : ∃ e, d = e + 1 := ⟨d - 1, by omega⟩
  obtain ⟨a1, a2⟩ := ha
  obtain ⟨b1, b2⟩ := hb
  have hm : -1000003000002 ≤ a * b ∧ a * b ≤ 1000003000002 := by
    have h1 : (a * b).natAbs = a.natAbs * b.natAbs := Int.natAbs_mul a b
    have h2 : a.natAbs * b.natAbs ≤ 1000001 * 1000001 := Nat.mul_le_mul (by omega) (by omega)
    omega
  have fin : ∀ z : Int, -4611686018427387904 ≤ z → z < 4611686018427387904 → jnd sg a b = clp z → G Γ m_La_joined (d + 1) (0, 0) (KI (fun r μ' => μ' = μ ∧ r = w (jnd sg a b))) 214 [jk, jk, jk, .long (wl z)] [] μ := by
    intro z h1 h2 h3
    refine B_La_joined_214 ?_
    rw [clp_w h1 h2, h3]
    exact ⟨_, rfl, rfl, rfl⟩
  have hor : ∀ x : Int32, x.toInt64 = wl x.toInt := fun x => by
    have := w_l (a := x.toInt) (by have := x.le_toInt; simpa using this) (by have := x.toInt_lt; simpa using this)
    rw [w_self] at this
    exact this
  have hb32 : ∀ x : Int32, -4611686018427387904 ≤ x.toInt ∧ x.toInt < 4611686018427387904 := fun x => by
    have h1 := x.le_toInt
    have h2 := x.toInt_lt
    simp at h1 h2
    omega
  have hel : (¬ sg = 38 ∧ ¬ sg = 42 ∧ ¬ sg = 43 ∧ ¬ sg = 45 ∧ ¬ sg = 47 ∧ ¬ sg = 60 ∧ ¬ sg = 61 ∧ ¬ sg = 62) → G Γ m_La_joined (d + 1) (0, 0) (KI (fun r μ' => μ' = μ ∧ r = w (jnd sg a b))) 214 [jk, jk, jk, .long ((w a ||| w b).toInt64)] [] μ := by
    intro q
    rw [hor]
    refine fin _ (hb32 _).1 (hb32 _).2 ?_
    unfold jnd
    rw [if_neg q.1, if_neg q.2.1, if_neg q.2.2.1, if_neg q.2.2.2.1, if_neg q.2.2.2.2.1, if_neg q.2.2.2.2.2.1, if_neg q.2.2.2.2.2.2.1, if_neg q.2.2.2.2.2.2.2]
  refine Call.of ok_La_joined (Nat.le_of_ble_eq_true rfl) (B_La_joined_0 ?_)
  simp (disch := omega) only [w_inj, w_lt, w_l, wl_add, wl_sub, wl_mul]
  refine ⟨fun q => hel (by omega), fun q => ?_, fun q => hel (by omega), fun q => hel (by omega), fun q => hel (by omega), fun q => ?_, fun q => ?_, fun q => hel (by omega), fun q => ?_, fun q => hel (by omega), fun q => ?_, fun q => hel (by omega), fun q => hel (by omega), fun q => hel (by omega), fun q => hel (by omega), fun q => hel (by omega), fun q => hel (by omega), fun q => hel (by omega), fun q => hel (by omega), fun q => hel (by omega), fun q => hel (by omega), fun q => hel (by omega), fun q => hel (by omega), fun q => ?_, fun q => ?_, fun q => ?_⟩
  · rw [hor]
    refine fin _ (hb32 _).1 (hb32 _).2 ?_
    unfold jnd
    rw [if_pos q]
  · refine fin _ (by omega) (by omega) ?_
    unfold jnd
    rw [if_neg (by omega), if_pos q]
  · refine fin _ (by omega) (by omega) ?_
    unfold jnd
    rw [if_neg (by omega), if_neg (by omega), if_pos q]
  · refine fin _ (by omega) (by omega) ?_
    unfold jnd
    rw [if_neg (by omega), if_neg (by omega), if_neg (by omega), if_pos q]
  · refine ⟨fun z => fin _ (by omega) (by omega) ?_, fun z => ⟨?_, ?_⟩⟩
    · unfold jnd
      rw [if_neg (by omega), if_neg (by omega), if_neg (by omega), if_neg (by omega), if_pos q, if_pos z]
    · rw [← w0, w_inj (by omega) (by omega) (by omega) (by omega)]; exact z
    · have hq := tdiv_bd (a := a) (b := b) (B := 1000001) (by omega) (by omega)
      rw [w_tdiv (by omega) (by omega) (by omega) (by omega), w_l (by omega) (by omega)]
      refine fin _ (by omega) (by omega) ?_
      unfold jnd
      rw [if_neg (by omega), if_neg (by omega), if_neg (by omega), if_neg (by omega), if_pos q, if_neg z]
  · refine ⟨fun z => fin _ (by omega) (by omega) ?_, fun z => fin _ (by omega) (by omega) ?_⟩
    · unfold jnd
      rw [if_neg (by omega), if_neg (by omega), if_neg (by omega), if_neg (by omega), if_neg (by omega), if_pos q, if_pos z]
    · unfold jnd
      rw [if_neg (by omega), if_neg (by omega), if_neg (by omega), if_neg (by omega), if_neg (by omega), if_pos q, if_neg z]
  · refine ⟨fun z => fin _ (by omega) (by omega) ?_, fun z => fin _ (by omega) (by omega) ?_⟩
    · unfold jnd
      rw [if_neg (by omega), if_neg (by omega), if_neg (by omega), if_neg (by omega), if_neg (by omega), if_neg (by omega), if_pos q, if_pos z]
    · unfold jnd
      rw [if_neg (by omega), if_neg (by omega), if_neg (by omega), if_neg (by omega), if_neg (by omega), if_neg (by omega), if_pos q, if_neg z]
  · refine ⟨fun z => fin _ (by omega) (by omega) ?_, fun z => fin _ (by omega) (by omega) ?_⟩
    · unfold jnd
      rw [if_neg (by omega), if_neg (by omega), if_neg (by omega), if_neg (by omega), if_neg (by omega), if_neg (by omega), if_neg (by omega), if_pos q, if_pos z]
    · unfold jnd
      rw [if_neg (by omega), if_neg (by omega), if_neg (by omega), if_neg (by omega), if_neg (by omega), if_neg (by omega), if_neg (by omega), if_pos q, if_neg z]
end J
