/-! A TEXT IS TOLD, in the reference -/
def upN {α : Type} (f : Nat → α) (i : Nat) (x : α) : Nat → α := fun j => if j = i then x else f j
theorem upN_y {α : Type} (f : Nat → α) (i : Nat) (x : α) : upN f i x i = x := if_pos rfl
theorem upN_n {α : Type} (f : Nat → α) {i j : Nat} (x : α) (h : ¬ j = i) : upN f i x j = f j := if_neg h
section TM2
variable {Γ : XG} {d : Nat} {X : HT} {Q : Option Value → XM → Prop} {h n s m T lt k tn cl cf si mi Ti : Nat} {ru : Nat → Int} {ki bx mg lo fd bi gi : Nat → Nat → Int} {lz : Nat → Nat} {lc : Nat → Nat → Int} {sel hab : Int} {pz : Nat → Nat} {pv : Nat → Nat → Nat → Int} {tb : Nat → Nat} {ik : Bool} {A : AA} {W : WL} {μ : XM}
def fth (c j : Nat) : Prop := c = 552 ∨ c = 554 ∨ c = 559 ∨ (c = 547 ∧ (j = 6 ∨ j = 25 ∨ j = 37 ∨ j = 43 ∨ j = 50 ∨ j = 55))
theorem fth_r (k v : Nat) (h : rM k = some v) : ¬ fth 547 k := by
  intro q
  have q2 : k = 6 ∨ k = 25 ∨ k = 37 ∨ k = 43 ∨ k = 50 ∨ k = 55 := by unfold fth at q; omega
  have : ∀ k, k < 56 → (k = 6 ∨ k = 25 ∨ k = 37 ∨ k = 43 ∨ k = 50 ∨ k = 55) → rM k = none := by decide
  rw [this k (by omega) q2] at h
  cases h
theorem fth_hi {c j : Nat} (z : fth c j) : 547 ≤ c := by unfold fth at z; omega
theorem text_h (hM : MI μ W n ru ki s bx m T mg A lt lz lc sel k pz pv tn tb hab cl lo cf fd ik si bi mi Ti gi) (hX : HR μ X) (hI : HI X) (hw : hwh X) (hQ : ∀ μ', fr fth μ μ' → MI μ' W (t1 X) (t3 X) (t4 X) (t2 X) (lbx (t5 X)) 0 0 mg (0, aS A, aB A, aM A, aT A) lt lz lc sel k pz pv 0 tb hab 0 lo 0 fd false si bi mi Ti gi → Q (some (.int (w (t1 X)))) μ') : G Γ m_MO_text (d + 1) (0, 0) Q 215 [.ref 547, jk, jk, .int (w 0)] [] (sI (sI μ 547 6 (w 0)) 547 25 (xI (sI μ 547 6 (w 0)) 547 26)) := by
  obtain ⟨⟨⟨a1, a2, a3, a4, a5, a6⟩, a7⟩, b2, b3, b4, b5, b6, b7, b8, b9⟩ := hM
  obtain ⟨x1, x2, x3, x4, x5, x6⟩ := hX
  have hI1 := hI.1
  have hI2 := hI.2.1
  have o0 : fr fth μ (sI (sI μ 547 6 (w 0)) 547 25 (xI (sI μ 547 6 (w 0)) 547 26)) := (fr.sI (F := fth) (a := 547) (k := 6) _ _ (by unfold fth; omega)).trans (fr.sI (F := fth) (a := 547) (k := 25) _ _ (by unfold fth; omega))
  have e25 : xI (sI (sI μ 547 6 (w 0)) 547 25 (xI (sI μ 547 6 (w 0)) 547 26)) 547 25 = w (t1 X) := by rw [xI_sI, if_pos ⟨rfl, rfl⟩, xI_sI, if_neg (by omega)]; exact x1
  have e6 : xI (sI (sI μ 547 6 (w 0)) 547 25 (xI (sI μ 547 6 (w 0)) 547 26)) 547 6 = w 0 := by rw [xI_sI, if_neg (by omega), xI_sI, if_pos ⟨rfl, rfl⟩]
  generalize sI (sI μ 547 6 (w 0)) 547 25 (xI (sI μ 547 6 (w 0)) 547 26) = μ6 at *
  have u6 : ∀ c j, ¬ fth c j → xI μ6 c j = xI μ c j := fun c j z => (o0.1 c j z).1
  have R6 : RM μ6 := a1.1.fr o0 fth_r
  refine text_215 (ν := μ6) R6 (fun μ7 o7 v7 => ?_) 4 0 μ6 (by omega) (fr.rf _ _) (fun j hj => absurd hj (Nat.not_lt_zero _))
  have R7 := RMf R6 o7 (fun j => by unfold f551; omega)
  refine text_240 (ν := μ7) R7 (fun μ8 o8 v8 => ?_) 30 0 μ7 (by omega) (fr.rf _ _) (fun j hj => absurd hj (Nat.not_lt_zero _))
  have R8 := RMf R7 o8 (fun j => by unfold f553; omega)
  refine text_266 (ν := μ8) R8 (fun μ9 o9 v9 => ?_) 283 0 μ8 (by omega) (fr.rf _ _) (fun j hj => absurd hj (Nat.not_lt_zero _))
  have R9 := RMf R8 o9 (fun j => by unfold f558; omega)
  have e7 : ∀ c j, ¬ c = 552 → xI μ7 c j = xI μ6 c j := fun c j z => (o7.1 c j z).1
  have e8 : ∀ c j, ¬ c = 554 → xI μ8 c j = xI μ7 c j := fun c j z => (o8.1 c j z).1
  have e9 : ∀ c j, ¬ c = 559 → xI μ9 c j = xI μ8 c j := fun c j z => (o9.1 c j z).1
  have e96 : ∀ c j, ¬ c = 559 → ¬ c = 554 → ¬ c = 552 → xI μ9 c j = xI μ6 c j := fun c j z1 z2 z3 => by rw [e9 c j z1, e8 c j z2, e7 c j z3]
  have e27 : xI μ9 547 27 = w (t2 X) := by rw [e96 _ _ (by omega) (by omega) (by omega), u6 _ _ (by unfold fth; omega)]; exact x2
  refine text_299 (ν := μ9) R9 hI2 e27 (fun b hb j hj => by rw [e96 _ _ (by omega) (by omega) (by omega), u6 _ _ (by unfold fth; omega)]; exact x6 b hb j hj) (fun μ' o' v' z43 z50 z37 z55 => ?_) (t2 X) 0 μ9 (by omega) (fr.rf _ _) (fun j hj => by
    rw [v9 j hj, rowp_0 X hI2]
    by_cases e : j = 40
    · rw [if_pos e, if_pos e, e8 _ _ (by omega), e7 _ _ (by omega), u6 _ _ (by unfold fth; omega)]; exact x2
    · rw [if_neg e, if_neg e])
  have oo : fr fth μ μ' := (((o0.trans (o7.wide (fun c j z => by unfold f551 at z; unfold fth; omega))).trans (o8.wide (fun c j z => by unfold f553 at z; unfold fth; omega))).trans (o9.wide (fun c j z => by unfold f558 at z; unfold fth; omega))).trans (o'.wide (fun c j z => by unfold f299 at z; unfold fth; omega))
  have e' : ∀ c j, ¬ f299 c j → xI μ' c j = xI μ9 c j := fun c j z => (o'.1 c j z).1
  rw [e96 _ _ (by omega) (by omega) (by omega), e25]
  have e25' : xI μ' 547 25 = w (t1 X) := by rw [e' _ _ (by unfold f299; omega), e96 _ _ (by omega) (by omega) (by omega)]; exact e25
  have e6' : xI μ' 547 6 = w 0 := by rw [e' _ _ (by unfold f299; omega), e96 _ _ (by omega) (by omega) (by omega)]; exact e6
  have v551 : ∀ j, j < 4 → xI μ' 552 j = w (t3 X j) := fun j hj => by rw [e' _ _ (by unfold f299; omega), e9 _ _ (by omega), e8 _ _ (by omega), v7 j hj, u6 _ _ (by unfold fth; omega)]; exact x4 j hj
  have v553 : ∀ k, k < t1 X → ∀ j, j < 5 → xI μ' 554 (5 * k + j) = w (t4 X k j) := fun k hk j hj => by rw [e' _ _ (by unfold f299; omega), e9 _ _ (by omega), v8 _ (by omega), e7 _ _ (by omega), u6 _ _ (by unfold fth; omega)]; exact x5 k hk j hj
  have ef : ∀ c j, ¬ fth c j → xI μ' c j = xI μ c j := fun c j z => (oo.1 c j z).1
  refine hQ μ' oo ⟨⟨⟨⟨a1.1.fr oo fth_r, hI1, e25', HI_RU hI, v551, fun k hk => ⟨v553 k hk, HI_KK hI hw hk⟩⟩, ?_, HI_KN hw, fun z => by have := hw.1; omega, a5.frm oo (fun c j hc => by unfold fth; omega) (by unfold fth; omega) (fun c j h1 h2 => by unfold fth; omega) (fun c j h1 h2 => by unfold fth; omega), a6⟩, (show (0 : Nat) ≤ 40 by omega), z37, fun i j _ hj => absurd hj (Nat.not_lt_zero _), fun j hj => absurd hj (Nat.not_lt_zero _)⟩, b2.frm oo (fun j => by unfold fth; omega) (fun j => by unfold fth; omega) (by unfold fth; omega), TM.mk e6' (by omega) (fun j hj => absurd hj (Nat.not_lt_zero _)), by rw [ef _ _ (by unfold fth; omega)]; exact b4, ⟨by omega, z43, fun i hi => absurd hi (Nat.not_lt_zero _)⟩, ⟨by omega, z50, fun i hi => absurd hi (Nat.not_lt_zero _)⟩, ⟨z55, fun z => Bool.noConfusion z⟩, by rw [ef _ _ (by unfold fth; omega)]; exact b8, b9⟩
  have rv : ∀ b, b < t2 X → ∀ q, q < 4 → rowp X (t2 X) 0 (5 * b + q) = t5 X (t2 X - 1 - b) q := by
    intro b hb q hq
    unfold rowp
    rw [if_neg (by omega), if_pos (by omega), show t2 X - 1 - (5 * b + q) / 5 = t2 X - 1 - b by omega, show (5 * b + q) % 5 = q by omega]
  refine ⟨hI2, by omega, ?_, ?_, ?_, fun b hb => ⟨⟨?_, ?_, ?_, ?_, fun hl => ?_⟩, IV_BB (hI.2.2.2.2.1 _ (by omega))⟩, fun j hj => absurd hj (by omega)⟩
  · rw [v' _ (by omega)]; unfold rowp; rw [if_pos (by omega)]
  · rw [v' _ (by omega)]; unfold rowp; rw [if_neg (by omega), if_neg (by omega)]; rfl
  · rw [v' _ (by omega)]; unfold rowp; rw [if_neg (by omega), if_neg (by omega)]; rfl
  · have := rv b hb 0 (by omega)
    rw [v' _ (by omega), lbx_o _ _ _ (by omega), show 0 + 5 * b = 5 * b + 0 by omega, this]
  · have := rv b hb 1 (by omega)
    rw [v' _ (by omega), lbx_o _ _ _ (by omega), show 0 + 5 * b + 1 = 5 * b + 1 by omega, this]
  · have := rv b hb 2 (by omega)
    rw [v' _ (by omega), lbx_o _ _ _ (by omega), show 0 + 5 * b + 2 = 5 * b + 2 by omega, this]
  · have := rv b hb 3 (by omega)
    have hv := (IV_2 (hI.2.2.2.2.1 (t2 X - 1 - b) (by omega))).2.2.2
    rw [v' _ (by omega), lbx_3, show 0 + 5 * b + 3 = 5 * b + 3 by omega, this]
    by_cases e : t5 X (t2 X - 1 - b) 3 = 1
    · rw [if_pos e, if_neg (by omega), e]
    · rw [if_neg e, if_pos rfl, show t5 X (t2 X - 1 - b) 3 = 0 by omega]
  · rw [v' _ (by omega), lbx_3]
    rw [lbx_3] at hl
    unfold rowp
    rw [if_neg (by omega), if_neg (by omega)]
    by_cases e : t5 X (t2 X - 1 - b) 3 = 1
    · rw [if_pos e]
    · rw [if_neg e] at hl
      exact absurd rfl hl
end TM2
