/-! THE VALUE OF A LAW: the run over its signs reckons it -/
/-- the signs of a clause: its value, or on behind its end -/
def CK (c : List Int) (g : (Nat → Int) → Option Int) : Prop := (∀ x, x ∈ c → CB x ∧ ¬ x = 20059) ∧ ∀ ev, EV ev → (∀ v, g ev = some v → -1000000 ≤ v ∧ v ≤ 1000000) ∧ ∀ (cd : Nat → Int) (i f : Nat) (S : Nat → Int), cat cd i (c ++ [20059]) → (∀ v, g ev = some v → wst cd ev (c.length + (1 + f)) i 0 S false = v) ∧ (g ev = none → ∃ S' : Nat → Int, wst cd ev (c.length + (1 + f)) i 0 S false = wst cd ev f (i + c.length + 1) 0 S' false)
def LG2 (n p : Nat) (r : LO2) : Prop := match r with
  | .inl q => q ≤ n
  | .inr (p', c, g) => p < p' ∧ p' ≤ n ∧ c.length + p ≤ p' ∧ CK c g
theorem wst_pass {cd ev : Nat → Int} : ∀ (c : List Int) (i f t : Nat) (S : Nat → Int), (∀ x, x ∈ c → ¬ x = 20059) → cat cd i (c ++ [20059]) → wst cd ev (c.length + (1 + f)) i t S true = wst cd ev f (i + c.length + 1) t S false
  | [], i, f, t, S, _, h => by
    rw [show ([] : List Int).length + (1 + f) = f + 1 by rw [List.length_nil]; omega]
    have := h.1
    simp only [wst, if_true]
    rw [this, if_pos rfl]
    rfl
  | x :: c, i, f, t, S, hx, h => by
    rw [show (x :: c).length + (1 + f) = (c.length + (1 + f)) + 1 by simp; omega]
    have h1 := h.1
    simp only [wst, if_true]
    rw [h1, if_neg (hx x List.mem_cons_self), wst_pass c (i + 1) f t S (fun y hy => hx y (List.mem_cons_of_mem _ hy)) h.2, show i + (x :: c).length + 1 = i + 1 + c.length + 1 by simp; omega]
theorem CK.sum {h : Nat} {c : List Int} {g : (Nat → Int) → Int} (hc : CG h c g) (hh : h ≤ 64) : CK c (fun e => some (g e)) := by
  refine ⟨hc.1, fun ev he => ⟨fun v hv => ?_, fun cd i f S hcat => ⟨fun v hv => ?_, fun q => absurd q (by simp)⟩⟩⟩
  · cases hv
    exact (hc.2 ev he).1
  · cases hv
    obtain ⟨q1, q2⟩ := cat_app _ _ _ hcat
    obtain ⟨S1, e1, e2, e3⟩ := (hc.2 ev he).2 cd i (1 + f) 0 S q1 (by omega)
    rw [e3, show 1 + f = f + 1 by omega]
    have h9 := q2.1
    simp only [wst, Bool.false_eq_true, if_false]
    rw [h9, if_neg (by omega), if_neg (by omega), if_pos rfl]
    exact e2
theorem CK.cnd {h h' : Nat} {c c' : List Int} {g g' : (Nat → Int) → Int} (hc : CT h c g) (hs : CG h' c' g') (hh : h ≤ 64) (hh' : h' ≤ 64) : CK (c ++ (([20063] : List Int) ++ c')) (fun e => if g e = 0 then none else some (g' e)) := by
  refine ⟨fun x hx => ?_, fun ev he => ⟨fun v hv => ?_, fun cd i f S hcat => ?_⟩⟩
  · rcases List.mem_append.mp hx with h | h
    · exact hc.1.1 x h
    · rcases List.mem_append.mp h with h | h
      · have := List.mem_singleton.mp h
        unfold CB
        omega
      · exact hs.1 x h
  · dsimp only at hv
    split at hv
    · cases hv
    · cases hv
      exact (hs.2 ev he).1
  · rw [List.append_assoc, List.append_assoc] at hcat
    obtain ⟨q1, q2⟩ := cat_app _ _ _ hcat
    obtain ⟨q3, q40⟩ := cat_app _ _ _ q2
    have q4 : cat cd (i + c.length + 1) (c' ++ [20059]) := q40
    obtain ⟨S1, e1, e2, e3⟩ := (hc.1.2 ev he).2 cd i (1 + (c'.length + (1 + f))) 0 S q1 (by omega)
    have el : (c ++ (([20063] : List Int) ++ c')).length + (1 + f) = c.length + (1 + (c'.length + (1 + f))) := by simp; omega
    have h9 := q3.1
    have st : wst cd ev ((c ++ (([20063] : List Int) ++ c')).length + (1 + f)) i 0 S false = wst cd ev (c'.length + (1 + f)) (i + c.length + 1) 0 S1 (if g ev = 0 then true else false) := by
      rw [el, e3, show 1 + (c'.length + (1 + f)) = (c'.length + (1 + f)) + 1 by omega]
      simp only [wst, Bool.false_eq_true, if_false]
      rw [h9, if_neg (by omega), if_neg (by omega), if_neg (by omega), if_neg (by omega), if_pos rfl, show 0 + 1 - 1 = 0 by omega, e2]
    refine ⟨fun v hv => ?_, fun q => ?_⟩
    · dsimp only at hv
      by_cases e0 : g ev = 0
      · rw [if_pos e0] at hv; cases hv
      · rw [if_neg e0] at hv
        cases hv
        rw [st, if_neg e0]
        obtain ⟨k1, k2⟩ := cat_app _ _ _ q4
        obtain ⟨S2, f1, f2, f3⟩ := (hs.2 ev he).2 cd (i + c.length + 1) (1 + f) 0 S1 k1 (by omega)
        rw [f3, show 1 + f = f + 1 by omega]
        have h8 := k2.1
        simp only [wst, Bool.false_eq_true, if_false]
        rw [h8, if_neg (by omega), if_neg (by omega), if_pos rfl]
        exact f2
    · dsimp only at q
      by_cases e0 : g ev = 0
      · refine ⟨S1, ?_⟩
        rw [st, if_pos e0, wst_pass c' _ f 0 S1 (fun x hx => (hs.1 x hx).2) q4, show i + (c ++ (([20063] : List Int) ++ c')).length + 1 = i + c.length + 1 + c'.length + 1 by simp; omega]
      · rw [if_neg e0] at q; cases q
section LV
variable {tb : Nat → Nat} {n : Nat}
theorem lct_LG {p0 : Nat} {r : LR} {h : Nat} (hr : LG n p0 (CT h) r) (hh : h ≤ 64) : LG2 n p0 (lct tb n r) := by
  match r, hr with
  | .inl q, hr => exact hr
  | .inr (p, c, g), hr =>
    obtain ⟨a1, a2, a3, a4⟩ := hr
    have hs := sk_le tb a2
    unfold lct
    dsimp only
    by_cases e : lk tb n p = 63
    · rw [if_pos e]
      have hlt := lk_lt e (by decide)
      have := lS_LG (tb := tb) (n := n) 6 (sk tb n p + 1) (by omega)
      split
      · rename_i q eq
        rw [eq] at this
        exact this
      · rename_i p' c' g' eq
        rw [eq] at this
        obtain ⟨b1, b2, b3, b4⟩ := this
        exact ⟨by omega, b2, by simp; omega, CK.cnd a4 b4 hh (by omega)⟩
    · rw [if_neg e]
      exact hs.2
theorem lcs_LG {p : Nat} (hp : p ≤ n) : LG2 n p (lcs tb n p) := by
  have hs := sk_le tb hp
  unfold lcs
  by_cases e : lk tb n p = 33 ∨ lk tb n p = 40
  · rw [if_pos e]
    exact lct_LG ((lC_LG 6 (sk tb n p) hs.2).le hs.1) (by omega)
  · rw [if_neg e]
    have := lS_LG (tb := tb) (n := n) 6 (sk tb n p) hs.2
    split
    · rename_i q eq
      rw [eq] at this
      exact this
    · rename_i p' c' g' eq
      rw [eq] at this
      obtain ⟨b1, b2, b3, b4⟩ := this
      have hs3 := sk_le tb b2
      split
      · exact lct_LG ((lC_LG 6 (sk tb n p) hs.2).le hs.1) (by omega)
      · exact ⟨by omega, by omega, by omega, CK.sum b4 (by omega)⟩
/-- a clause: two bytes more than signs -/
def LG3 (n p : Nat) (r : LO2) : Prop := match r with
  | .inl q => q ≤ n
  | .inr (p', c, g) => p + 2 < p' ∧ p' ≤ n ∧ c.length + p + 2 ≤ p' ∧ CK c g
theorem lcl_LG {p : Nat} (hp : p ≤ n) : LG3 n p (lcl tb n p) := by
  have hs := sk_le tb hp
  unfold lcl
  by_cases e : lk tb n p = 121
  · rw [if_pos e]
    have h1 := lk_lt e (by decide)
    have hs2 := sk_le tb (show sk tb n p + 1 ≤ n by omega)
    by_cases e2 : lk tb n (sk tb n p + 1) = 58
    · rw [if_pos e2]
      have h2 := lk_lt e2 (by decide)
      have := lcs_LG (tb := tb) (n := n) (p := sk tb n (sk tb n p + 1) + 1) (by omega)
      match hr : lcs tb n (sk tb n (sk tb n p + 1) + 1), this with
      | .inl q, this => exact this
      | .inr (p', c, g), this =>
        obtain ⟨b1, b2, b3, b4⟩ := this
        exact ⟨by omega, b2, by omega, b4⟩
    · rw [if_neg e2]
      exact hs2.2
  · rw [if_neg e]
    exact hs.2
def LG4 (n p : Nat) (r : Nat ⊕ (List Int × ((Nat → Int) → Option Int))) : Prop := match r with
  | .inl q => q ≤ n
  | .inr (c, g) => c.length + p ≤ n ∧ (∀ x, x ∈ c → CB x) ∧ ∀ ev, EV ev → (∀ v, g ev = some v → -1000000 ≤ v ∧ v ≤ 1000000) ∧ ∀ (cd : Nat → Int) (i : Nat) (S : Nat → Int), cat cd i c → wst cd ev c.length i 0 S false = (g ev).getD 0
theorem lla_LG : ∀ (f p : Nat), p ≤ n → LG4 n p (lla tb n f p)
  | 0, p, hp => hp
  | f + 1, p, hp => by
    have := lcl_LG (tb := tb) (n := n) hp
    unfold lla
    split
    · rename_i q eq
      rw [eq] at this
      exact this
    · rename_i p' c g eq
      rw [eq] at this
      obtain ⟨b1, b2, b3, b4⟩ := this
      have hs := sk_le tb b2
      have hcb : ∀ x, x ∈ c ++ [20059] → CB x := fun x hx => by
        rcases List.mem_append.mp hx with h | h
        · exact (b4.1 x h).1
        · have := List.mem_singleton.mp h
          unfold CB
          omega
      by_cases e : lk tb n p' = -1
      · rw [if_pos e]
        refine ⟨by simp; omega, hcb, fun ev he => ⟨(b4.2 ev he).1, fun cd i S hcat => ?_⟩⟩
        obtain ⟨h1, h2⟩ := (b4.2 ev he).2 cd i 0 S hcat
        rw [show (c ++ ([20059] : List Int)).length = c.length + (1 + 0) by simp]
        match hg : g ev with
        | some v => exact h1 v hg
        | none =>
          obtain ⟨S', h3⟩ := h2 hg
          rw [h3]
          rfl
      · rw [if_neg e]
        by_cases e2 : lk tb n p' = 59
        · rw [if_pos e2]
          have hlt := lk_lt e2 (by decide)
          have ih := lla_LG f (sk tb n p' + 1) (by omega)
          split
          · rename_i q eq2
            rw [eq2] at ih
            exact ih
          · rename_i c' g' eq2
            rw [eq2] at ih
            obtain ⟨a1, a2, a3⟩ := ih
            refine ⟨by simp; omega, fun x hx => ?_, fun ev he => ⟨fun v hv => ?_, fun cd i S hcat => ?_⟩⟩
            · rw [← List.append_assoc] at hx
              rcases List.mem_append.mp hx with h | h
              · exact hcb x h
              · exact a2 x h
            · dsimp only at hv
              split at hv
              · rename_i v' hg
                cases hv
                exact (b4.2 ev he).1 v hg
              · exact (a3 ev he).1 v hv
            · rw [← List.append_assoc] at hcat
              obtain ⟨k1, k2⟩ := cat_app _ _ _ hcat
              obtain ⟨h1, h2⟩ := (b4.2 ev he).2 cd i c'.length S k1
              rw [show (c ++ (([20059] : List Int) ++ c')).length = c.length + (1 + c'.length) by simp; omega]
              dsimp only
              match hg : g ev with
              | some v => exact h1 v hg
              | none =>
                obtain ⟨S', h3⟩ := h2 hg
                rw [h3]
                rw [show i + (c ++ ([20059] : List Int)).length = i + c.length + 1 by simp; omega] at k2
                exact (a3 ev he).2 cd _ S' k2
        · rw [if_neg e2]
          exact hs.2
theorem law_LG : LG4 n 0 (law tb n) := lla_LG 241 0 (Nat.zero_le _)
end LV
