/-! EATING MONTH BY MONTH, in the reference: all orders one by one -/
/-- the set seen from the other end -/
def rvF (L s : Nat) : Nat → Nat
  | 0 => 0
  | b + 1 => rvF L s b + (if L.testBit b = true then 2 ^ (s - 1 - b) else 0)
def rv (s L : Nat) : Nat := rvF L s s
set_option maxRecDepth 100000 in
theorem rv_ok : ∀ s, s < 9 → ∀ L, L < 2 ^ s → rv s L < 2 ^ s ∧ pc (rv s L) = pc L ∧ rv s (2 ^ s - 1) = 2 ^ s - 1 ∧ ∀ b, b < s → (rv s L).testBit (s - 1 - b) = L.testBit b ∧ (L.testBit b = true → rv s (L - 2 ^ b) = rv s L - 2 ^ (s - 1 - b)) ∧ pc (rv s L % 2 ^ (s - 1 - b)) = pc (L / 2 ^ (b + 1)) := by decide +kernel
set_option maxRecDepth 100000 in
theorem shr_b : ∀ b, b < 8 → ∀ L, L < 256 → w ((L : Nat) : Int) >>> (w (((b : Nat) : Int) + 1) &&& 31) = w ((L / 2 ^ (b + 1) : Nat) : Int) ∧ L / 2 ^ (b + 1) < 256 := by decide +kernel
def upm (X : Int × Int) (v e : Int) : Int × Int := if X.1 = -1 ∨ X.1 < v then (v, e) else X
/-- the best of the places below b: value, digits -/
def bpl (L : Nat) (C E : Nat → Int) : Nat → Option (Int × Int)
  | 0 => none
  | b + 1 => if L.testBit b = true then (match bpl L C E b with
      | none => some (C b, E b)
      | some (v, e) => if v < C b then some (C b, E b) else some (v, e)) else bpl L C E b
def updo (X : Int × Int) (o : Option (Int × Int)) : Int × Int := match o with
  | none => X
  | some (v, e) => upm X v e
theorem upm2 {M D v e c k : Int} (hM : -1 ≤ M) (hv : 0 ≤ v) (hc : 0 ≤ c) : upm (upm (M, D) v e) c k = if v < c then upm (M, D) c k else upm (M, D) v e := by
  have e1 : ∀ v e : Int, upm (M, D) v e = if M = -1 ∨ M < v then (v, e) else (M, D) := fun _ _ => rfl
  have e2 : upm (v, e) c k = if v = -1 ∨ v < c then (c, k) else (v, e) := rfl
  by_cases h2 : M = -1 ∨ M < v
  · rw [e1 v e, if_pos h2, e2, e1 c k]
    by_cases h1 : v < c
    · rw [if_pos (show v = -1 ∨ v < c from Or.inr h1), if_pos h1, if_pos (show M = -1 ∨ M < c by omega)]
    · rw [if_neg (show ¬ (v = -1 ∨ v < c) by omega), if_neg h1]
  · rw [e1 v e, if_neg h2, e1 c k]
    by_cases h1 : v < c
    · rw [if_pos h1]
    · rw [if_neg h1, if_neg (show ¬ (M = -1 ∨ M < c) by omega)]
theorem bpl_nn {L : Nat} {C E : Nat → Int} (hC : ∀ b, 0 ≤ C b) : ∀ b v e, bpl L C E b = some (v, e) → 0 ≤ v := by
  intro b
  induction b with
  | zero => intro v e h; cases h
  | succ b ih =>
    intro v e h
    unfold bpl at h
    split at h
    · split at h
      · cases h; exact hC b
      · rename_i v' e' heq
        split at h
        · cases h; exact hC b
        · cases h; exact ih _ _ heq
    · exact ih v e h
theorem updo_step {X : Int × Int} {L b : Nat} {C E : Nat → Int} (hX : -1 ≤ X.1) (hC : ∀ b, 0 ≤ C b) (hb : L.testBit b = true) : upm (updo X (bpl L C E b)) (C b) (E b) = updo X (bpl L C E (b + 1)) := by
  obtain ⟨M, D⟩ := X
  have e1 : bpl L C E (b + 1) = (match bpl L C E b with
      | none => some (C b, E b)
      | some (v, e) => if v < C b then some (C b, E b) else some (v, e)) := if_pos hb
  rw [e1]
  match hP : bpl L C E b with
  | none => rfl
  | some (v, e) =>
    have h2 := upm2 (D := D) (e := e) (k := E b) hX (bpl_nn hC b v e hP) (hC b)
    show upm (upm (M, D) v e) (C b) (E b) = updo (M, D) (if v < C b then some (C b, E b) else some (v, e))
    rw [h2]
    by_cases h1 : v < C b
    · rw [if_pos h1, if_pos h1]
      rfl
    · rw [if_neg h1, if_neg h1]
      rfl
theorem bpl_is {L : Nat} {C E : Nat → Int} : ∀ b, (bpl L C E b = none ∧ ∀ p, p < b → ¬ L.testBit p = true) ∨ ∃ p, p < b ∧ L.testBit p = true ∧ bpl L C E b = some (C p, E p) ∧ (∀ q, q < b → L.testBit q = true → C q ≤ C p) ∧ ∀ q, q < p → L.testBit q = true → C q < C p
  | 0 => Or.inl ⟨rfl, fun p h => by omega⟩
  | b + 1 => by
    unfold bpl
    by_cases h : L.testBit b = true
    · rw [if_pos h]
      rcases bpl_is (L := L) (C := C) (E := E) b with ⟨h1, h2⟩ | ⟨p, h1, h2, h3, h4, h5⟩
      · rw [h1]
        refine Or.inr ⟨b, by omega, h, rfl, fun q hq hb => ?_, fun q hq hb => absurd hb (h2 q hq)⟩
        by_cases e : q = b
        · subst e; omega
        · exact absurd hb (h2 q (by omega))
      · rw [h3]
        dsimp only
        by_cases e : C p < C b
        · rw [if_pos e]
          refine Or.inr ⟨b, by omega, h, rfl, fun q hq hb => ?_, fun q hq hb => ?_⟩
          · by_cases e2 : q = b
            · subst e2; omega
            · have := h4 q (by omega) hb; omega
          · have := h4 q hq hb; omega
        · rw [if_neg e]
          refine Or.inr ⟨p, by omega, h2, rfl, fun q hq hb => ?_, h5⟩
          by_cases e2 : q = b
          · subst e2; omega
          · exact h4 q (by omega) hb
    · rw [if_neg h]
      rcases bpl_is (L := L) (C := C) (E := E) b with ⟨h1, h2⟩ | ⟨p, h1, h2, h3, h4, h5⟩
      · refine Or.inl ⟨h1, fun p hp => ?_⟩
        by_cases e : p = b
        · subst e; exact h
        · exact h2 p (by omega)
      · refine Or.inr ⟨p, by omega, h2, h3, fun q hq hb => ?_, h5⟩
        by_cases e : q = b
        · subst e; exact absurd hb h
        · exact h4 q (by omega) hb
/-- the best of all places is the most, by the first best order -/
theorem bpl_all {G : Nat → Nat → Int} {s L f : Nat} {x sm : Int} (hs : s ≤ 8) (hL : L < 2 ^ s) (h0 : 0 < L) (hG : ∀ t i, i < s → t < 256 → 0 ≤ G t i ∧ G t i ≤ 81) : bpl L (fun b => sm + (G (rv s L) (s - 1 - b) + bst G s (rv s L - 2 ^ (s - 1 - b)))) (fun b => bor G s f (rv s L - 2 ^ (s - 1 - b)) (10 * x + b)) s = some (sm + bst G s (rv s L), bor G s (f + 1) (rv s L) x) := by
  obtain ⟨r1, r2, r3, r4⟩ := rv_ok s (by omega) L hL
  have p8 := pw_le hs
  have hT0 : 0 < rv s L := by
    have e1 : pc (rv s L) ≠ 0 := by
      rw [r2]
      exact fun q => by have := (pc_0 L (by omega)).mp q; omega
    refine Nat.pos_of_ne_zero fun q => e1 ?_
    rw [q]
    rfl
  have hbe := bst_eq (G := G) (s := s) (t := rv s L) hs hT0
  have nn : ∀ i, i < s → (rv s L).testBit i = true → 0 ≤ G (rv s L) i + bst G s (rv s L - 2 ^ i) := fun i hi hb => by
    have h1 := hG (rv s L) i hi (by omega)
    have h2 := bst_bd (s := s) hs hG _ (rv s L - 2 ^ i) (Nat.le_refl _) (Nat.lt_of_le_of_lt (Nat.sub_le _ _) (by omega))
    omega
  obtain ⟨i0, i1, i2, i3⟩ := bmx_at (g := fun i => G (rv s L) i + bst G s (rv s L - 2 ^ i)) (t := rv s L) s nn (pc_ex s (by omega) (rv s L) r1 hT0)
  rw [← hbe] at i3
  rcases bpl_is (L := L) (C := fun b => sm + (G (rv s L) (s - 1 - b) + bst G s (rv s L - 2 ^ (s - 1 - b)))) (E := fun b => bor G s f (rv s L - 2 ^ (s - 1 - b)) (10 * x + b)) s with ⟨h1, h2⟩ | ⟨p, h1, h2, h3, h4, h5⟩
  · have := (r4 (s - 1 - i0) (by omega)).1
    rw [show s - 1 - (s - 1 - i0) = i0 by omega, i2] at this
    exact absurd this.symm (h2 (s - 1 - i0) (by omega))
  · have e0 := (r4 (s - 1 - i0) (by omega)).1
    rw [show s - 1 - (s - 1 - i0) = i0 by omega, i2] at e0
    have g1 := h4 (s - 1 - i0) (by omega) e0.symm
    rw [show s - 1 - (s - 1 - i0) = i0 by omega] at g1
    have ep := (r4 p h1).1
    rw [h2] at ep
    have g2 := bmx_ge (g := fun i => G (rv s L) i + bst G s (rv s L - 2 ^ i)) (t := rv s L) s (s - 1 - p) (by omega) ep
    rw [← hbe] at g2
    have eb : G (rv s L) (s - 1 - p) + bst G s (rv s L - 2 ^ (s - 1 - p)) = bst G s (rv s L) := by omega
    have ef : fob G s (rv s L) s 0 = p := by
      refine fob_is ⟨ep, eb⟩ s 0 (Nat.zero_le _) (by omega) (fun r _ hr z => ?_)
      have er := (r4 r (by omega)).1
      rw [z.1] at er
      have := h5 r hr er.symm
      rw [z.2, eb] at this
      omega
    rw [h3]
    rw [eb]
    have e9 : bor G s (f + 1) (rv s L) x = bor G s f (rv s L - 2 ^ (s - 1 - p)) (10 * x + p) := by
      conv => lhs; unfold bor
      rw [ef, Int.mul_comm x 10]
    rw [e9]
/-- what eating may write -/
def etf (c j : Nat) : Prop := vfr c j ∨ (c = 547 ∧ (j = 39 ∨ j = 40))
theorem etf_q (c j : Nat) (h : etf c j) : qfr c j := by
  rcases h with h | h
  · exact Or.inl h
  · exact Or.inr (Or.inl ⟨h.1, by omega⟩)
section NE
variable {Γ : XG} {d n a s m T : Nat} {ru : Nat → Int} {ki bx mg : Nat → Nat → Int} {ls : Int → Int → Int → Int → Int → Int → Int} {μ : XM} {Q : Option Value → XM → Prop} {W : WL}
theorem MQs.e (h : MQs μ n ru ki s bx m T mg W ls) {j : Nat} (hj : j = 39 ∨ j = 40) (v : Int32) : MQs (sI μ 547 j v) n ru ki s bx m T mg W ls := by
  have h0 : fr (fun c i => c = 547 ∧ (i = 39 ∨ i = 40)) μ (sI μ 547 j v) := fr.sI μ v ⟨rfl, hj⟩
  have hr : ∀ k v, rM k = some v → ¬ (547 = 547 ∧ (k = 39 ∨ k = 40)) := fun k v e q => by
    have : ∀ k, k < 56 → (k = 39 ∨ k = 40) → rM k = none := by decide
    rw [this k (by omega) q.2] at e
    cases e
  exact ⟨h.1.fr h0 hr (by omega) (fun j => by omega) (fun j => by omega), h.2.1.fr h0 (fun j => by omega), h.2.2.1, h.2.2.2.1, h.2.2.2.2.1.frm h0 (fun c j hc => by omega) (by omega) (fun c j h1 h2 => by omega) (fun c j h1 h2 => by omega), h.2.2.2.2.2⟩
theorem C_belowOf (hd : 2 ≤ d) {L b : Nat} (hL : L < 256) (hb : b < 8) : Call Γ m_MO_belowOf d [.ref 547, .int (w L), .int (w b)] μ (KI (fun r μ' => μ' = μ ∧ r = w ((pc (L / 2 ^ (b + 1)) : Nat) : Int))) := by
  obtain ⟨d, rfl⟩ : ∃ e, d = e + 1 := ⟨d - 1, by omega⟩
  refine Call.of ok_MO_belowOf (Nat.le_of_ble_eq_true rfl) (B_MO_belowOf_0 ?_)
  refine (C_bitCount (by omega)).conseq (KI.mono ?_)
  rintro r μ1 ⟨rfl, rfl⟩
  obtain ⟨e1, e2⟩ := shr_b b hb L hL
  rw [w_add, e1, bct_pc _ e2]
  exact ⟨_, rfl, rfl, rfl⟩
theorem geiM_bd (h : MQs μ n ru ki s bx m T mg W ls) : ∀ t i, i < s → t < 256 → 0 ≤ gei ls ki bx m s t i ∧ gei ls ki bx m s t i ≤ 81 := fun t i hi _ => by
  unfold gei
  exact vpl_b h.hm h.nr h.kn hi _ _ _
end NE
