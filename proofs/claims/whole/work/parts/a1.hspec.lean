/-! A HOUSE AS A TEXT: what is asked for -/
def tbz (L : List (List Int)) (S k : Nat) : Int := ((L[S]?).getD []).getD k 0
/-- of rules (0), a kind (1), a box (2): what holds without, the least, the most, how many, the sign -/
def hus (S k : Nat) : Int := tbz [[40, 9, 6, 1], [0, 3, 12, 3, 6], [0, 2, 0, 0]] S k
def hls (S k : Nat) : Int := tbz [[1, 0, 1, 0], [0, 1, 1, 0, 0], [0, 1, 0, 0]] S k
def hms (S k : Nat) : Int := tbz [[99, 24, 99, 5], [5, 9, 36, 9, 6], [5, 9, 99, 1]] S k
def hch (S : Nat) : Int := if S = 0 then 115 else if S = 1 then 107 else 98
def hln (S : Nat) : Nat := if S = 1 then 5 else 4
theorem hln_s : ∀ S, S < 3 → (sS (S + 2)).length = hln S := by decide
theorem hls_b : ∀ S, S < 3 → ∀ k, k < hln S → 0 ≤ hls S k ∧ hls S k ≤ hus S k ∧ hus S k ≤ hms S k ∧ hms S k ≤ 99 := by decide
theorem hln_b (S : Nat) : 4 ≤ hln S ∧ hln S ≤ 5 := by unfold hln; split <;> omega
theorem sptS {S : Nat} (hS : S < 3) (c : Int) : -1 ≤ spt (S + 2) c ∧ spt (S + 2) c < hln S := by
  have := sch_bd (fun i => decide ((sS (S + 2)).getD i 0 = c)) (sS (S + 2)).length 0
  rw [hln_s S hS] at this
  unfold spt
  rw [hln_s S hS]
  omega
theorem sptS_0 {S : Nat} (hS : S < 3) {c : Int} (h : ¬ spt (S + 2) c = -1) (h1 : -1 ≤ c) : 0 ≤ c := by
  by_cases e : c = -1
  · subst e
    have : ∀ S, S < 3 → spt (S + 2) (-1) = -1 := by decide
    exact absurd (this S hS) h
  · omega
/-- the number behind the letter at p -/
def nb (tb : Nat → Nat) (n p : Nat) : Nat × Nat × Nat := nm tb n 2 (sk tb n p + 1)
def isd (tb : Nat → Nat) (n q : Nat) : Bool := decide (q < n ∧ 48 ≤ tb q ∧ tb q ≤ 57)
theorem isd_iff {tb : Nat → Nat} {n q : Nat} : isd tb n q = true ↔ dg tb n q := decide_eq_true_iff
theorem nb_bd {tb : Nat → Nat} {n p : Nat} (h : sk tb n p < n) : sk tb n p + 1 ≤ (nb tb n p).1 ∧ (nb tb n p).1 ≤ n ∧ (nb tb n p).2.1 < 100 := by
  have h1 := sk_le tb (n := n) (p := sk tb n p + 1) (by omega)
  have h2 := nmF_le tb n 2 (sk tb n (sk tb n p + 1)) 0 0 h1.2 (by decide)
  have h3 : 10 ^ (nmF tb n 2 (sk tb n (sk tb n p + 1)) 0 0).2.2 ≤ 10 ^ 2 := Nat.pow_le_pow_right (by decide) (by omega)
  unfold nb nm
  refine ⟨by omega, h2.2.1, by omega⟩
def upv (v : Nat → Int) (k : Nat) (x : Int) : Nat → Int := fun j => if j = k then x else v j
def upb (v : Nat → Bool) (k : Nat) : Nat → Bool := fun j => if j = k then true else v j
/-- items from p on: wrong at q, or where they end and what they say -/
def itF (tb : Nat → Nat) (n S : Nat) : Nat → Nat → (Nat → Bool) → (Nat → Int) → Nat ⊕ (Nat × (Nat → Int))
  | 0, p, _, _ => .inl p
  | f + 1, p, sn, v =>
    if spt (S + 2) (lk tb n p) = -1 then .inr (sk tb n p, v)
    else if sn (spt (S + 2) (lk tb n p)).toNat = true then .inl (sk tb n p)
    else if (nb tb n p).2.2 = 0 ∨ isd tb n (nb tb n p).1 = true then .inl (nb tb n p).1
    else if ((nb tb n p).2.1 : Int) < hls S (spt (S + 2) (lk tb n p)).toNat ∨ hms S (spt (S + 2) (lk tb n p)).toNat < ((nb tb n p).2.1 : Int) then .inl ((nb tb n p).1 - 1)
    else itF tb n S f (nb tb n p).1 (upb sn (spt (S + 2) (lk tb n p)).toNat) (upv v (spt (S + 2) (lk tb n p)).toNat (nb tb n p).2.1)
section IT
variable {tb : Nat → Nat} {n S f p : Nat} {sn : Nat → Bool} {v : Nat → Int}
theorem itF_e (h : spt (S + 2) (lk tb n p) = -1) : itF tb n S (f + 1) p sn v = .inr (sk tb n p, v) := by rw [itF, if_pos h]
theorem itF_s (h : ¬ spt (S + 2) (lk tb n p) = -1) (h1 : sn (spt (S + 2) (lk tb n p)).toNat = true) : itF tb n S (f + 1) p sn v = .inl (sk tb n p) := by rw [itF, if_neg h, if_pos h1]
theorem itF_n (h : ¬ spt (S + 2) (lk tb n p) = -1) (h1 : ¬ sn (spt (S + 2) (lk tb n p)).toNat = true) (h2 : (nb tb n p).2.2 = 0 ∨ dg tb n (nb tb n p).1) : itF tb n S (f + 1) p sn v = .inl (nb tb n p).1 := by rw [itF, if_neg h, if_neg h1, if_pos (h2.imp id isd_iff.mpr)]
theorem itF_r (h : ¬ spt (S + 2) (lk tb n p) = -1) (h1 : ¬ sn (spt (S + 2) (lk tb n p)).toNat = true) (h2 : ¬ ((nb tb n p).2.2 = 0 ∨ dg tb n (nb tb n p).1)) (h3 : ((nb tb n p).2.1 : Int) < hls S (spt (S + 2) (lk tb n p)).toNat ∨ hms S (spt (S + 2) (lk tb n p)).toNat < ((nb tb n p).2.1 : Int)) : itF tb n S (f + 1) p sn v = .inl ((nb tb n p).1 - 1) := by rw [itF, if_neg h, if_neg h1, if_neg (fun z => h2 (z.imp id isd_iff.mp)), if_pos h3]
theorem itF_g (h : ¬ spt (S + 2) (lk tb n p) = -1) (h1 : ¬ sn (spt (S + 2) (lk tb n p)).toNat = true) (h2 : ¬ ((nb tb n p).2.2 = 0 ∨ dg tb n (nb tb n p).1)) (h3 : ¬ (((nb tb n p).2.1 : Int) < hls S (spt (S + 2) (lk tb n p)).toNat ∨ hms S (spt (S + 2) (lk tb n p)).toNat < ((nb tb n p).2.1 : Int))) : itF tb n S (f + 1) p sn v = itF tb n S f (nb tb n p).1 (upb sn (spt (S + 2) (lk tb n p)).toNat) (upv v (spt (S + 2) (lk tb n p)).toNat (nb tb n p).2.1) := by rw [itF, if_neg h, if_neg h1, if_neg (fun z => h2 (z.imp id isd_iff.mp)), if_neg h3]
end IT
def IV (S : Nat) (v : Nat → Int) : Prop := ∀ k, k < hln S → hls S k ≤ v k ∧ v k ≤ hms S k
theorem IV_us {S : Nat} (hS : S < 3) : IV S (hus S) := fun k hk => by have := hls_b S hS k hk; omega
def ITK (n p S : Nat) (r : Nat ⊕ (Nat × (Nat → Int))) : Prop := match r with
  | .inl q => q ≤ n
  | .inr u => p ≤ u.1 ∧ u.1 ≤ n ∧ IV S u.2
theorem itF_ok {tb : Nat → Nat} {n S : Nat} (hS : S < 3) (hb : ∀ j, j < n → 1 ≤ tb j ∧ tb j ≤ 255) : ∀ f p sn v, p ≤ n → IV S v → ITK n p S (itF tb n S f p sn v)
  | 0, p, sn, v, hp, hv => hp
  | f + 1, p, sn, v, hp, hv => by
    have hs := sk_le tb hp
    by_cases h : spt (S + 2) (lk tb n p) = -1
    · rw [itF_e h]
      exact ⟨hs.1, hs.2, hv⟩
    have hlt : sk tb n p < n := lk_lt rfl (sptS_0 hS h (lk_bd hb).1)
    have hnb := nb_bd hlt
    have hsb := sptS hS (lk tb n p)
    by_cases h1 : sn (spt (S + 2) (lk tb n p)).toNat = true
    · rw [itF_s h h1]
      exact hs.2
    by_cases h2 : (nb tb n p).2.2 = 0 ∨ dg tb n (nb tb n p).1
    · rw [itF_n h h1 h2]
      exact hnb.2.1
    by_cases h3 : ((nb tb n p).2.1 : Int) < hls S (spt (S + 2) (lk tb n p)).toNat ∨ hms S (spt (S + 2) (lk tb n p)).toNat < ((nb tb n p).2.1 : Int)
    · rw [itF_r h h1 h2 h3]
      show (nb tb n p).1 - 1 ≤ n
      omega
    · rw [itF_g h h1 h2 h3]
      have ih := itF_ok hS hb f (nb tb n p).1 (upb sn (spt (S + 2) (lk tb n p)).toNat) (upv v (spt (S + 2) (lk tb n p)).toNat (nb tb n p).2.1) hnb.2.1 (fun k hk => by
        unfold upv
        by_cases e : k = (spt (S + 2) (lk tb n p)).toNat
        · rw [if_pos e, e]; omega
        · rw [if_neg e]; exact hv k hk)
      revert ih
      generalize itF tb n S f (nb tb n p).1 _ _ = r
      intro ih
      match r, ih with
      | .inl q, ih => exact ih
      | .inr u, ih => exact ⟨by have := ih.1; omega, ih.2⟩
def cnS (sn : Nat → Bool) : Nat → Nat
  | 0 => 0
  | k + 1 => cnS sn k + (if sn k = true then 1 else 0)
theorem cnS_le (sn : Nat → Bool) : ∀ k, cnS sn k ≤ k
  | 0 => Nat.le_refl _
  | k + 1 => by
    have := cnS_le sn k
    unfold cnS
    split <;> omega
theorem cnS_up {sn : Nat → Bool} {i : Nat} (h : ¬ sn i = true) : ∀ k, cnS (upb sn i) k = cnS sn k + (if i < k then 1 else 0)
  | 0 => rfl
  | k + 1 => by
    have ih := cnS_up h k
    unfold cnS
    rw [ih]
    unfold upb
    by_cases e : k = i
    · subst e
      rw [if_pos rfl, if_pos rfl, if_neg h, if_neg (by omega), if_pos (by omega)]
    · rw [if_neg e]
      by_cases e2 : i < k
      · rw [if_pos e2, if_pos (show i < k + 1 by omega)]; omega
      · rw [if_neg e2, if_neg (show ¬ i < k + 1 by omega)]; omega
theorem cnS_0 : ∀ k, cnS (fun _ => false) k = 0
  | 0 => rfl
  | k + 1 => by
    have := cnS_0 k
    unfold cnS
    rw [this]
    rfl
/-- a house so far: whether its rules were told, how many kinds, boxes, the rules, kinds, boxes -/
def HT : Type := Bool × Nat × Nat × (Nat → Int) × (Nat → Nat → Int) × (Nat → Nat → Int)
def t0 (X : HT) : Bool := X.1
def t1 (X : HT) : Nat := X.2.1
def t2 (X : HT) : Nat := X.2.2.1
def t3 (X : HT) : Nat → Int := X.2.2.2.1
def t4 (X : HT) : Nat → Nat → Int := X.2.2.2.2.1
def t5 (X : HT) : Nat → Nat → Int := X.2.2.2.2.2
def HT0 : HT := (false, 0, 0, hus 0, fun _ _ => 0, fun _ _ => 0)
def upk (ki : Nat → Nat → Int) (n : Nat) (v : Nat → Int) : Nat → Nat → Int := fun k => if k = n then v else ki k
/-- the items behind the sign at p -/
def itS (tb : Nat → Nat) (n p S : Nat) : Nat ⊕ (Nat × (Nat → Int)) := itF tb n S 6 (sk tb n p + 1) (fun _ => false) (hus S)
def bnd (r : Nat ⊕ (Nat × (Nat → Int))) (K : (Nat → Int) → HT) : Nat ⊕ (Nat × HT) := match r with
  | .inl q => .inl q
  | .inr u => .inr (u.1, K u.2)
/-- a clause at p -/
def clF (tb : Nat → Nat) (n p : Nat) (X : HT) : Nat ⊕ (Nat × HT) :=
  if lk tb n p = 115 ∧ t0 X = false then bnd (itS tb n p 0) (fun v => (true, t1 X, t2 X, v, t4 X, t5 X))
  else if lk tb n p = 107 ∧ t1 X < 6 then bnd (itS tb n p 1) (fun v => (t0 X, t1 X + 1, t2 X, t3 X, upk (t4 X) (t1 X) v, t5 X))
  else if lk tb n p = 98 ∧ t2 X < 8 then bnd (itS tb n p 2) (fun v => (t0 X, t1 X, t2 X + 1, t3 X, t4 X, upk (t5 X) (t2 X) v))
  else .inl (sk tb n p)
/-- what only the end can show -/
def hwh (X : HT) : Prop := 0 < t1 X ∧ bsum (t5 X) 1 (t2 X) ≤ t3 X 0 ∧ (∀ k, k < t1 X → t4 X k 4 = 6 ∨ t4 X k 4 < t1 X) ∧ ∀ i, i < t2 X → t5 X i 0 < t1 X
noncomputable def hsF (tb : Nat → Nat) (n : Nat) : Nat → Nat → HT → Nat ⊕ HT
  | 0, p, _ => .inl p
  | f + 1, p, X => match clF tb n p X with
    | .inl q => .inl q
    | .inr u => if lk tb n u.1 = -1 then (@ite _ (hwh u.2) (Classical.propDecidable _) (.inr u.2) (.inl (sk tb n u.1))) else if lk tb n u.1 = 59 then hsF tb n f (sk tb n u.1 + 1) u.2 else .inl (sk tb n u.1)
noncomputable def hse (tb : Nat → Nat) (n : Nat) : Nat ⊕ HT := hsF tb n 241 0 HT0
def HI (X : HT) : Prop := t1 X ≤ 6 ∧ t2 X ≤ 8 ∧ IV 0 (t3 X) ∧ (∀ k, k < t1 X → IV 1 (t4 X k)) ∧ (∀ i, i < t2 X → IV 2 (t5 X i)) ∧ (t0 X = false → t3 X = hus 0)
theorem HI_0 : HI HT0 := ⟨Nat.zero_le _, Nat.zero_le _, IV_us (by omega), fun k hk => absurd hk (Nat.not_lt_zero _), fun k hk => absurd hk (Nat.not_lt_zero _), fun _ => rfl⟩
def CLK (n p : Nat) (r : Nat ⊕ (Nat × HT)) : Prop := match r with
  | .inl q => q ≤ n
  | .inr u => p + 1 ≤ u.1 ∧ u.1 ≤ n ∧ HI u.2
theorem bnd_ok {n p S : Nat} {r : Nat ⊕ (Nat × (Nat → Int))} {K : (Nat → Int) → HT} (h : ITK n (p + 1) S r) (hK : ∀ v, IV S v → HI (K v)) : CLK n p (bnd r K) := by
  match r, h with
  | .inl q, h => exact h
  | .inr u, h => exact ⟨h.1, h.2.1, hK _ h.2.2⟩
theorem clF_ok {tb : Nat → Nat} {n p : Nat} {X : HT} (hb : ∀ j, j < n → 1 ≤ tb j ∧ tb j ≤ 255) (hp : p ≤ n) (hX : HI X) : CLK n p (clF tb n p X) := by
  have hs := sk_le tb hp
  obtain ⟨a1, a2, a3, a4, a5, a6⟩ := hX
  have step : ∀ S, S < 3 → 0 ≤ lk tb n p → ITK n (p + 1) S (itS tb n p S) := by
    intro S hS h0
    have hlt : sk tb n p < n := lk_lt rfl h0
    have := itF_ok hS hb 6 (sk tb n p + 1) (fun _ => false) (hus S) (by omega) (IV_us hS)
    unfold itS
    revert this
    generalize itF tb n S 6 (sk tb n p + 1) _ _ = r
    intro this
    match r, this with
    | .inl q, h => exact h
    | .inr u, h => exact ⟨by have := h.1; omega, h.2⟩
  unfold clF
  by_cases c1 : lk tb n p = 115 ∧ t0 X = false
  · rw [if_pos c1]
    exact bnd_ok (step 0 (by omega) (by omega)) (fun v hv => ⟨a1, a2, hv, a4, a5, fun z => Bool.noConfusion z⟩)
  rw [if_neg c1]
  by_cases c2 : lk tb n p = 107 ∧ t1 X < 6
  · rw [if_pos c2]
    refine bnd_ok (step 1 (by omega) (by omega)) (fun v hv => ⟨?_, a2, a3, fun k hk => ?_, a5, a6⟩)
    · show t1 X + 1 ≤ 6
      omega
    · show IV 1 (upk (t4 X) (t1 X) v k)
      have hk : k < t1 X + 1 := hk
      unfold upk
      by_cases e : k = t1 X
      · rw [if_pos e]; exact hv
      · rw [if_neg e]; exact a4 k (by omega)
  rw [if_neg c2]
  by_cases c3 : lk tb n p = 98 ∧ t2 X < 8
  · rw [if_pos c3]
    refine bnd_ok (step 2 (by omega) (by omega)) (fun v hv => ⟨a1, ?_, a3, a4, fun k hk => ?_, a6⟩)
    · show t2 X + 1 ≤ 8
      omega
    · show IV 2 (upk (t5 X) (t2 X) v k)
      have hk : k < t2 X + 1 := hk
      unfold upk
      by_cases e : k = t2 X
      · rw [if_pos e]; exact hv
      · rw [if_neg e]; exact a5 k (by omega)
  rw [if_neg c3]
  exact hs.2
def HSK (n : Nat) (r : Nat ⊕ HT) : Prop := match r with
  | .inl q => q ≤ n
  | .inr X => HI X ∧ hwh X
theorem hsF_ok {tb : Nat → Nat} {n : Nat} (hb : ∀ j, j < n → 1 ≤ tb j ∧ tb j ≤ 255) : ∀ f p X, p ≤ n → HI X → HSK n (hsF tb n f p X)
  | 0, p, X, hp, hX => hp
  | f + 1, p, X, hp, hX => by
    have h := clF_ok hb hp hX
    unfold hsF
    match clF tb n p X, h with
    | .inl q, h => exact h
    | .inr u, h =>
      have hs := sk_le tb h.2.1
      dsimp only
      by_cases e1 : lk tb n u.1 = -1
      · rw [if_pos e1]
        by_cases e2 : hwh u.2
        · rw [if_pos e2]; exact ⟨h.2.2, e2⟩
        · rw [if_neg e2]; exact hs.2
      · rw [if_neg e1]
        by_cases e2 : lk tb n u.1 = 59
        · rw [if_pos e2]
          have : sk tb n u.1 < n := lk_lt e2 (by omega)
          exact hsF_ok hb f _ _ (by omega) h.2.2
        · rw [if_neg e2]; exact hs.2
theorem hse_ok {tb : Nat → Nat} {n : Nat} (hb : ∀ j, j < n → 1 ≤ tb j ∧ tb j ≤ 255) : HSK n (hse tb n) := hsF_ok hb _ _ _ (Nat.zero_le _) HI_0
/-- the boxes as they stand then -/
def lbx (bx : Nat → Nat → Int) : Nat → Nat → Int := fun i t => if t = 3 then (if bx i 3 = 1 then 0 else -1) else bx i t
theorem HI_RU {X : HT} (h : HI X) : RU (t3 X) (t1 X) := by
  have a := h.2.2.1
  have b0 := a 0 (by decide)
  have b1 := a 1 (by decide)
  have b2 := a 2 (by decide)
  have b3 := a 3 (by decide)
  have z : hls 0 0 = 1 ∧ hms 0 0 = 99 ∧ hls 0 1 = 0 ∧ hms 0 1 = 24 ∧ hls 0 2 = 1 ∧ hms 0 2 = 99 ∧ hls 0 3 = 0 ∧ hms 0 3 = 5 := by decide
  unfold RU
  omega
theorem HI_KK {X : HT} (h : HI X) (hw : hwh X) {k : Nat} (hk : k < t1 X) : KK (t4 X) (t1 X) k := by
  have a := h.2.2.2.1 k hk
  have b0 := a 0 (by decide)
  have b1 := a 1 (by decide)
  have b2 := a 2 (by decide)
  have b3 := a 3 (by decide)
  have b4 := a 4 (by decide)
  have z : hls 1 0 = 0 ∧ hms 1 0 = 5 ∧ hls 1 1 = 1 ∧ hms 1 1 = 9 ∧ hls 1 2 = 1 ∧ hms 1 2 = 36 ∧ hls 1 3 = 0 ∧ hms 1 3 = 9 ∧ hls 1 4 = 0 ∧ hms 1 4 = 6 := by decide
  have c := hw.2.2.1 k hk
  unfold KK
  omega
theorem IV_2 {v : Nat → Int} (a : IV 2 v) : (0 ≤ v 0 ∧ v 0 ≤ 5) ∧ (1 ≤ v 1 ∧ v 1 ≤ 9) ∧ (0 ≤ v 2 ∧ v 2 ≤ 99) ∧ (0 ≤ v 3 ∧ v 3 ≤ 1) := by
  have b0 := a 0 (by decide)
  have b1 := a 1 (by decide)
  have b2 := a 2 (by decide)
  have b3 := a 3 (by decide)
  have z : hls 2 0 = 0 ∧ hms 2 0 = 5 ∧ hls 2 1 = 1 ∧ hms 2 1 = 9 ∧ hls 2 2 = 0 ∧ hms 2 2 = 99 ∧ hls 2 3 = 0 ∧ hms 2 3 = 1 := by decide
  omega
theorem lbx_o (bx : Nat → Nat → Int) (i t : Nat) (h : ¬ t = 3) : lbx bx i t = bx i t := if_neg h
theorem lbx_3 (bx : Nat → Nat → Int) (i : Nat) : lbx bx i 3 = if bx i 3 = 1 then 0 else -1 := if_pos rfl
theorem IV_BB {bx : Nat → Nat → Int} {i : Nat} (a : IV 2 (bx i)) : BB (lbx bx) i := by
  have := IV_2 a
  unfold BB
  rw [lbx_o bx i 0 (by omega), lbx_o bx i 1 (by omega), lbx_o bx i 2 (by omega), lbx_3]
  split <;> omega
theorem HI_KN {X : HT} (hw : hwh X) : KN (lbx (t5 X)) (t2 X) (t1 X) := fun i hi => by
  rw [lbx_o _ i 0 (by omega)]
  exact hw.2.2.2 i hi
