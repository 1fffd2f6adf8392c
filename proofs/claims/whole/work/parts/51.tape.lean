/-! THE TAPE OF THE CLASS -/
/-- from p on over blanks -/
def skF (tb : Nat → Nat) : Nat → Nat → Nat
  | 0, p => p
  | f + 1, p => if tb p = 32 then skF tb f (p + 1) else p
def sk (tb : Nat → Nat) (n p : Nat) : Nat := skF tb (n - p) p
/-- the byte at p, -1 at the end -/
def ch (tb : Nat → Nat) (n p : Nat) : Int := if p < n then (tb p : Int) else -1
def lk (tb : Nat → Nat) (n p : Nat) : Int := ch tb n (sk tb n p)
theorem sk_end (tb : Nat → Nat) (n : Nat) : sk tb n n = n := by unfold sk; rw [Nat.sub_self]; rfl
theorem sk_bl {tb : Nat → Nat} {n p : Nat} (h : p < n) (hb : tb p = 32) : sk tb n p = sk tb n (p + 1) := by
  unfold sk
  rw [show n - p = (n - (p + 1)) + 1 by omega]
  show (if tb p = 32 then _ else _) = _
  rw [if_pos hb]
theorem sk_nb {tb : Nat → Nat} {n p : Nat} (h : p < n) (hb : ¬ tb p = 32) : sk tb n p = p := by
  unfold sk
  rw [show n - p = (n - (p + 1)) + 1 by omega]
  show (if tb p = 32 then _ else _) = _
  rw [if_neg hb]
theorem skF_le (tb : Nat → Nat) : ∀ f p, p ≤ skF tb f p ∧ skF tb f p ≤ p + f
  | 0, p => ⟨Nat.le_refl _, Nat.le_refl _⟩
  | f + 1, p => by
    unfold skF
    split
    · have := skF_le tb f (p + 1); omega
    · omega
theorem sk_le (tb : Nat → Nat) {n p : Nat} (h : p ≤ n) : p ≤ sk tb n p ∧ sk tb n p ≤ n := by
  have := skF_le tb (n - p) p
  unfold sk; omega
theorem sI_self {μ : XM} {a k : Nat} {v : Int32} (h : xI μ a k = v) : sI μ a k v = μ := by
  show (up2 μ.1 a k v, μ.2) = μ
  have : up2 μ.1 a k v = μ.1 := by
    funext b j
    unfold up2
    split
    · rename_i e
      split
      · rename_i e2; rw [e, e2, ← h]; rfl
      · rfl
    · rfl
  rw [this]
theorem sI_sI (μ : XM) (a k : Nat) (u v : Int32) : sI (sI μ a k u) a k v = sI μ a k v := by
  show (up2 (up2 μ.1 a k u) a k v, μ.2) = (up2 μ.1 a k v, μ.2)
  congr 1
  funext b j
  unfold up2
  split
  · split <;> rfl
  · rfl
theorem sI_com (μ : XM) {a k c j : Nat} (u v : Int32) (h : a ≠ c ∨ k ≠ j) : sI (sI μ a k u) c j v = sI (sI μ c j v) a k u := by
  show (up2 (up2 μ.1 a k u) c j v, μ.2) = (up2 (up2 μ.1 c j v) a k u, μ.2)
  congr 1
  funext b i
  unfold up2
  by_cases e1 : b = c <;> by_cases e2 : b = a <;> by_cases e3 : i = j <;> by_cases e4 : i = k <;> simp_all
/-- the tape holds n bytes tb, the cursor stands at p -/
def TP (μ : XM) (n : Nat) (tb : Nat → Nat) (p : Nat) : Prop := xR μ 33 0 = some 34 ∧ 574 ≤ xN μ ∧ xI μ 33 1 = w n ∧ n ≤ 240 ∧ (∀ j, j < n → xI μ 34 j = w (tb j) ∧ 1 ≤ tb j ∧ tb j ≤ 255) ∧ xI μ 33 2 = w p ∧ p ≤ n
theorem TP.ob {μ : XM} {n p : Nat} {tb : Nat → Nat} (h : TP μ n tb p) : ob μ 33 9 := ob_of rfl (by decide) h.2.1
theorem TP.inb {μ : XM} {n p : Nat} {tb : Nat → Nat} (h : TP μ n tb p) {j : Int} (h0 : 0 ≤ j) (hj : j < 240) : inb μ 0 34 (w j) := inb_of (n := 240) rfl (by decide) h.2.1 h0 (by omega)
theorem TP.mv {μ : XM} {n p : Nat} {tb : Nat → Nat} (h : TP μ n tb p) {q : Nat} (hq : q ≤ n) : TP (sI μ 33 2 (w q)) n tb q := by
  obtain ⟨h1, h2, h3, h4, h5, h6, h7⟩ := h
  refine ⟨h1, h2, ?_, h4, fun j hj => ?_, ?_, hq⟩
  · rw [xI_sI, if_neg (by decide)]; exact h3
  · rw [xI_sI, if_neg (by omega)]; exact h5 j hj
  · rw [xI_sI, if_pos ⟨rfl, rfl⟩]
theorem TP.fl {μ : XM} {n p : Nat} {tb : Nat → Nat} (h : TP μ n tb p) (v : Int32) : TP (sI μ 33 3 v) n tb p := by
  obtain ⟨h1, h2, h3, h4, h5, h6, h7⟩ := h
  refine ⟨h1, h2, ?_, h4, fun j hj => ?_, ?_, h7⟩
  · rw [xI_sI, if_neg (by decide)]; exact h3
  · rw [xI_sI, if_neg (by omega)]; exact h5 j hj
  · rw [xI_sI, if_neg (by decide)]; exact h6
section TA
variable {Γ : XG} {d n p : Nat} {tb : Nat → Nat} {μ : XM} {Q : Option Value → XM → Prop}
theorem ahead_G : ∀ (k : Nat) (μ : XM) (p : Nat), n - p = k → TP μ n tb p → Q (some (.int (w (lk tb n p)))) (sI μ 33 2 (w (sk tb n p))) → G Γ m_Ta_ahead (d + 1) (0, 0) Q 0 [.ref 33] [] μ := by
  intro k
  induction k with
  | zero =>
    intro μ p hk h hQ
    have hp : p = n := by have := h.2.2.2.2.2.2; omega
    subst hp
    refine B_Ta_ahead_0 h.ob h.1 ?_
    have e1 := h.2.2.1
    have e2 := h.2.2.2.2.2.1
    have hn := h.2.2.2.1
    rw [e1, e2]
    have hlt : ¬ w (p : Int) < w (p : Int) := by rw [w_lt (by omega) (by omega) (by omega) (by omega)]; omega
    refine ⟨fun q => absurd q hlt, fun _ => ⟨fun q => absurd q hlt, fun _ => ?_⟩⟩
    rw [show lk tb p p = -1 by unfold lk; rw [sk_end]; unfold ch; rw [if_neg (by omega)], sk_end, sI_self e2] at hQ
    exact hQ
  | succ k ih =>
    intro μ p hk h hQ
    have hp : p < n := by omega
    refine B_Ta_ahead_0 h.ob h.1 ?_
    have e1 := h.2.2.1
    have e2 := h.2.2.2.2.2.1
    have hn := h.2.2.2.1
    obtain ⟨e3, h3, h4⟩ := h.2.2.2.2.1 p hp
    rw [e1, e2, w_cln (by omega), e3]
    have hlt : w (p : Int) < w (n : Int) := by rw [w_lt (by omega) (by omega) (by omega) (by omega)]; omega
    have hib : zib μ 0 34 (w (p : Int)) := h.inb (by omega) (by omega)
    refine ⟨fun _ => ⟨hib, fun q => ?_, fun q => ⟨fun _ => ⟨hib, ?_⟩, fun q => absurd hlt q⟩⟩, fun q => absurd hlt q⟩
    · rw [w_inj (by omega) (by omega) (by omega) (by omega)] at q
      have hb : tb p = 32 := by omega
      intro μ4 em
      rw [w_add] at em
      subst em
      have hT : TP (sI μ 33 2 (w ((p : Int) + 1))) n tb (p + 1) := h.mv (q := p + 1) (by omega)
      refine ih _ (p + 1) (by omega) hT ?_
      rw [show (((p : Int) + 1)) = (((p + 1 : Nat)) : Int) by omega, sI_sI]
      have e9 : lk tb n (p + 1) = lk tb n p := by unfold lk; rw [sk_bl hp hb]
      rw [e9, ← sk_bl hp hb]
      exact hQ
    · rw [w_inj (by omega) (by omega) (by omega) (by omega)] at q
      have hb : ¬ tb p = 32 := by omega
      rw [show lk tb n p = tb p by unfold lk; rw [sk_nb hp hb]; unfold ch; rw [if_pos hp], sk_nb hp hb, sI_self e2] at hQ
      exact hQ
end TA
