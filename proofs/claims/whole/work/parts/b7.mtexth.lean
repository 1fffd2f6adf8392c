/-! A HOUSE IS TOLD, in the reference -/
section TM1
variable {Γ : XG} {d : Nat} {X : HT} {Q : Option Value → XM → Prop} {ν : XM}
def f551 (c j : Nat) : Prop := c = 552
def f553 (c j : Nat) : Prop := c = 554
def f558 (c j : Nat) : Prop := c = 559
theorem RMf {F : Nat → Nat → Prop} {μ μ' : XM} (h : RM μ) (ho : fr F μ μ') (hp : ∀ j, ¬ F 547 j) : RM μ' := h.fr ho (fun k v _ => hp k)
theorem text_215 (hR : RM ν) (hQ : ∀ μ', fr f551 ν μ' → (∀ j, j < 4 → xI μ' 552 j = xI ν 553 j) → G Γ m_MO_text (d + 1) (0, 0) Q 240 [.ref 547, jk, jk, .int (w 0)] [] μ') : ∀ (f k : Nat) (μ1 : XM), k + f = 4 → fr f551 ν μ1 → (∀ j, j < k → xI μ1 552 j = xI ν 553 j) → G Γ m_MO_text (d + 1) (0, 0) Q 215 [.ref 547, jk, jk, .int (w (k : Int))] [] μ1 := by
  intro f
  induction f with
  | zero =>
    intro k μ1 hk ho hv
    have R1 := RMf hR ho (fun j => by unfold f551; omega)
    refine B_MO_text_215 R1.o (R1.r 18 552 rfl) (R1.r 19 553 rfl) ?_
    rw [w_lt (by omega) (by omega) (by omega) (by omega)]
    exact ⟨fun z => absurd z (by omega), fun _ => hQ _ ho (fun j hj => hv j (by omega))⟩
  | succ f ih =>
    intro k μ1 hk ho hv
    have R1 := RMf hR ho (fun j => by unfold f551; omega)
    refine B_MO_text_215 R1.o (R1.r 18 552 rfl) (R1.r 19 553 rfl) ?_
    rw [w_lt (by omega) (by omega) (by omega) (by omega)]
    refine ⟨fun _ => ⟨inb_of (n := 4) rfl (by omega) R1.1 (by omega) (by omega), inS_of (n := 4) rfl (by omega) R1.1 (by omega) (by omega) (by omega), ?_⟩, fun z => absurd (by omega) z⟩
    rintro μ3 rfl
    rw [w_cln (by omega), w_add, show (k : Int) + 1 = ((k + 1 : Nat) : Int) by omega, (ho.1 553 k (by unfold f551; omega)).1]
    refine ih (k + 1) _ (by omega) (ho.trans (fr.sI (F := f551) (a := 552) (k := k) _ _ rfl)) (fun j hj => ?_)
    rw [xI_sI]
    by_cases e : j = k
    · rw [if_pos ⟨rfl, e⟩, e]
    · rw [if_neg (by omega)]; exact hv j (by omega)
theorem text_240 (hR : RM ν) (hQ : ∀ μ', fr f553 ν μ' → (∀ j, j < 30 → xI μ' 554 j = xI ν 555 j) → G Γ m_MO_text (d + 1) (0, 0) Q 266 [.ref 547, jk, jk, .int (w 0)] [] μ') : ∀ (f k : Nat) (μ1 : XM), k + f = 30 → fr f553 ν μ1 → (∀ j, j < k → xI μ1 554 j = xI ν 555 j) → G Γ m_MO_text (d + 1) (0, 0) Q 240 [.ref 547, jk, jk, .int (w (k : Int))] [] μ1 := by
  intro f
  induction f with
  | zero =>
    intro k μ1 hk ho hv
    have R1 := RMf hR ho (fun j => by unfold f553; omega)
    refine B_MO_text_240 R1.o (R1.r 20 554 rfl) (R1.r 21 555 rfl) ?_
    rw [w_lt (by omega) (by omega) (by omega) (by omega)]
    exact ⟨fun z => absurd z (by omega), fun _ => hQ _ ho (fun j hj => hv j (by omega))⟩
  | succ f ih =>
    intro k μ1 hk ho hv
    have R1 := RMf hR ho (fun j => by unfold f553; omega)
    refine B_MO_text_240 R1.o (R1.r 20 554 rfl) (R1.r 21 555 rfl) ?_
    rw [w_lt (by omega) (by omega) (by omega) (by omega)]
    refine ⟨fun _ => ⟨inb_of (n := 30) rfl (by omega) R1.1 (by omega) (by omega), inS_of (n := 30) rfl (by omega) R1.1 (by omega) (by omega) (by omega), ?_⟩, fun z => absurd (by omega) z⟩
    rintro μ3 rfl
    rw [w_cln (by omega), w_add, show (k : Int) + 1 = ((k + 1 : Nat) : Int) by omega, (ho.1 555 k (by unfold f553; omega)).1]
    refine ih (k + 1) _ (by omega) (ho.trans (fr.sI (F := f553) (a := 554) (k := k) _ _ rfl)) (fun j hj => ?_)
    rw [xI_sI]
    by_cases e : j = k
    · rw [if_pos ⟨rfl, e⟩, e]
    · rw [if_neg (by omega)]; exact hv j (by omega)
theorem text_266 (hR : RM ν) (hQ : ∀ μ', fr f558 ν μ' → (∀ j, j < 283 → xI μ' 559 j = if j = 40 then xI ν 547 27 else w 0) → G Γ m_MO_text (d + 1) (0, 0) Q 299 [.ref 547, jk, jk, .int (w 0)] [] μ') : ∀ (f k : Nat) (μ1 : XM), k + f = 283 → fr f558 ν μ1 → (∀ j, j < k → xI μ1 559 j = w 0) → G Γ m_MO_text (d + 1) (0, 0) Q 266 [.ref 547, jk, jk, .int (w (k : Int))] [] μ1 := by
  intro f
  induction f with
  | zero =>
    intro k μ1 hk ho hv
    have R1 := RMf hR ho (fun j => by unfold f558; omega)
    refine B_MO_text_266 R1.o (R1.r 30 559 rfl) ?_
    rw [w_lt (by omega) (by omega) (by omega) (by omega)]
    refine ⟨fun z => absurd z (by omega), fun _ => ⟨inS_of (n := 283) rfl (by omega) R1.1 (by omega) (by omega) (by omega), ?_⟩⟩
    rintro μ2 rfl
    rw [show (w 40).toNatClampNeg = 40 by decide, (ho.1 547 27 (by unfold f558; omega)).1]
    refine hQ _ (ho.trans (fr.sI (F := f558) (a := 559) (k := 40) _ _ rfl)) (fun j hj => ?_)
    rw [xI_sI]
    by_cases e : j = 40
    · rw [if_pos ⟨rfl, e⟩, if_pos e]
    · rw [if_neg (by omega), if_neg e]; exact hv j (by omega)
  | succ f ih =>
    intro k μ1 hk ho hv
    have R1 := RMf hR ho (fun j => by unfold f558; omega)
    refine B_MO_text_266 R1.o (R1.r 30 559 rfl) ?_
    rw [w_lt (by omega) (by omega) (by omega) (by omega)]
    refine ⟨fun _ => ⟨inS_of (n := 283) rfl (by omega) R1.1 (by omega) (by omega) (by omega), ?_⟩, fun z => absurd (by omega) z⟩
    rintro μ3 rfl
    rw [w_cln (by omega), w_add, show (k : Int) + 1 = ((k + 1 : Nat) : Int) by omega]
    refine ih (k + 1) _ (by omega) (ho.trans (fr.sI (F := f558) (a := 559) (k := k) _ _ rfl)) (fun j hj => ?_)
    rw [xI_sI]
    by_cases e : j = k
    · rw [if_pos ⟨rfl, e⟩]
    · rw [if_neg (by omega)]; exact hv j (by omega)
/-- the row, boxes below b and the first q of b being there -/
def rowp (X : HT) (b q j : Nat) : Int := if j = 40 then (t2 X : Int) else if j < 5 * t2 X ∧ j % 5 < 4 ∧ (t2 X < b + 1 + j / 5 ∨ (t2 X = b + 1 + j / 5 ∧ j % 5 < q)) then t5 X (t2 X - 1 - j / 5) (j % 5) else 0
theorem rowp_0 (X : HT) (hI : t2 X ≤ 8) (j : Nat) : rowp X 0 0 j = if j = 40 then (t2 X : Int) else 0 := by
  unfold rowp
  by_cases e : j = 40
  · rw [if_pos e, if_pos e]
  · rw [if_neg e, if_neg e, if_neg (by omega)]
theorem rowp_n (X : HT) (b j : Nat) : rowp X b 4 j = rowp X (b + 1) 0 j := by
  unfold rowp
  by_cases e : j = 40
  · rw [if_pos e, if_pos e]
  · rw [if_neg e, if_neg e]
    by_cases e2 : j < 5 * t2 X ∧ j % 5 < 4 ∧ (t2 X < b + 1 + j / 5 ∨ (t2 X = b + 1 + j / 5 ∧ j % 5 < 4))
    · rw [if_pos e2, if_pos (by omega)]
    · rw [if_neg e2, if_neg (by omega)]
theorem rowp_s (X : HT) {b q j : Nat} (hI : t2 X ≤ 8) (hb : b < t2 X) (hq : q < 4) : rowp X b (q + 1) j = if j = 5 * (t2 X - 1 - b) + q then t5 X b q else rowp X b q j := by
  by_cases e : j = 5 * (t2 X - 1 - b) + q
  · rw [if_pos e]
    unfold rowp
    rw [if_neg (by omega), if_pos (by omega), show t2 X - 1 - j / 5 = b by omega, show j % 5 = q by omega]
  · rw [if_neg e]
    unfold rowp
    by_cases e1 : j = 40
    · rw [if_pos e1, if_pos e1]
    · rw [if_neg e1, if_neg e1]
      by_cases e2 : j < 5 * t2 X ∧ j % 5 < 4 ∧ (t2 X < b + 1 + j / 5 ∨ (t2 X = b + 1 + j / 5 ∧ j % 5 < q))
      · rw [if_pos e2, if_pos (by omega)]
      · rw [if_neg e2, if_neg (by omega)]
/-- behind the copying: the rest is laid to none -/
def f299 (c j : Nat) : Prop := c = 559 ∨ (c = 547 ∧ (j = 43 ∨ j = 50 ∨ j = 37 ∨ j = 55))
theorem text_310 (hR : RM ν) (hI : t2 X ≤ 8) (h27 : xI ν 547 27 = w (t2 X)) (hv5 : ∀ b, b < t2 X → ∀ j, j < 4 → xI ν 556 (4 * b + j) = w (t5 X b j)) {b : Nat} (hb : b < t2 X) (hQ : ∀ μ', fr f558 ν μ' → (∀ j, j < 283 → xI μ' 559 j = w (rowp X (b + 1) 0 j)) → G Γ m_MO_text (d + 1) (0, 0) Q 299 [.ref 547, jk, jk, .int (w ((b + 1 : Nat) : Int))] [] μ') : ∀ (f q : Nat) (μ1 : XM), q + f = 4 → fr f558 ν μ1 → (∀ j, j < 283 → xI μ1 559 j = w (rowp X b q j)) → G Γ m_MO_text (d + 1) (0, 0) Q 310 [.ref 547, jk, jk, .int (w (b : Int)), .int (w (q : Int))] [] μ1 := by
  intro f
  induction f with
  | zero =>
    intro q μ1 hq ho hv
    have R1 := RMf hR ho (fun j => by unfold f558; omega)
    refine B_MO_text_310 R1.o (R1.r 30 559 rfl) (R1.r 22 556 rfl) ?_
    rw [w_lt (by omega) (by omega) (by omega) (by omega), w_add ((b : Nat) : Int) 1, show (b : Int) + 1 = ((b + 1 : Nat) : Int) by omega]
    refine ⟨fun z => absurd z (by omega), fun _ => hQ _ ho (fun j hj => ?_)⟩
    rw [hv j hj, show q = 4 by omega, rowp_n]
  | succ f ih =>
    intro q μ1 hq ho hv
    have R1 := RMf hR ho (fun j => by unfold f558; omega)
    refine B_MO_text_310 R1.o (R1.r 30 559 rfl) (R1.r 22 556 rfl) ?_
    have e27 : xI μ1 547 27 = w (t2 X) := by rw [(ho.1 547 27 (by unfold f558; omega)).1]; exact h27
    rw [e27, w_lt (by omega) (by omega) (by omega) (by omega), w_mul, w_add, w_sub, w_sub, w_mul, w_add, w_cl (by omega) (by omega), w_cl (by omega) (by omega), show (4 * (b : Int) + q).toNat = 4 * b + q by omega, show (5 * ((t2 X : Int) - 1 - b) + q).toNat = 5 * (t2 X - 1 - b) + q by omega, (ho.1 556 _ (by unfold f558; omega)).1, hv5 b hb q (by omega), w_add, show (q : Int) + 1 = ((q + 1 : Nat) : Int) by omega]
    refine ⟨fun _ => ⟨inb_of (n := 32) rfl (by omega) R1.1 (by omega) (by omega), inS_of (n := 283) rfl (by omega) R1.1 (by omega) (by omega) (by omega), ?_⟩, fun z => absurd (by omega) z⟩
    rintro μ3 rfl
    refine ih (q + 1) _ (by omega) (ho.trans (fr.sI (F := f558) (a := 559) (k := 5 * (t2 X - 1 - b) + q) _ _ rfl)) (fun j hj => ?_)
    rw [xI_sI, rowp_s X hI hb (by omega)]
    by_cases e : j = 5 * (t2 X - 1 - b) + q
    · rw [if_pos ⟨rfl, e⟩, if_pos e]
    · rw [if_neg (fun z => e z.2), if_neg e]; exact hv j hj
theorem text_299 (hR : RM ν) (hI : t2 X ≤ 8) (h27 : xI ν 547 27 = w (t2 X)) (hv5 : ∀ b, b < t2 X → ∀ j, j < 4 → xI ν 556 (4 * b + j) = w (t5 X b j)) (hQ : ∀ μ', fr f299 ν μ' → (∀ j, j < 283 → xI μ' 559 j = w (rowp X (t2 X) 0 j)) → xI μ' 547 43 = w 0 → xI μ' 547 50 = w 0 → xI μ' 547 37 = w 0 → xI μ' 547 55 = w 0 → Q (some (.int (xI ν 547 25))) μ') : ∀ (f b : Nat) (μ1 : XM), b + f = t2 X → fr f558 ν μ1 → (∀ j, j < 283 → xI μ1 559 j = w (rowp X b 0 j)) → G Γ m_MO_text (d + 1) (0, 0) Q 299 [.ref 547, jk, jk, .int (w (b : Int))] [] μ1 := by
  intro f
  induction f with
  | zero =>
    intro b μ1 hb ho hv
    have R1 := RMf hR ho (fun j => by unfold f558; omega)
    have e27 : xI μ1 547 27 = w (t2 X) := by rw [(ho.1 547 27 (by unfold f558; omega)).1]; exact h27
    refine B_MO_text_299 R1.o ?_
    rw [e27, w_lt (by omega) (by omega) (by omega) (by omega)]
    refine ⟨fun z => absurd z (by omega), fun _ => ?_⟩
    rintro μ2 rfl μ3 rfl μ4 rfl μ5 rfl
    have e25 : xI (sI (sI (sI (sI μ1 547 43 (w 0)) 547 50 (w 0)) 547 37 (w 0)) 547 55 (w 0)) 547 25 = xI ν 547 25 := by
      rw [xI_sI, if_neg (by omega), xI_sI, if_neg (by omega), xI_sI, if_neg (by omega), xI_sI, if_neg (by omega), (ho.1 547 25 (by unfold f558; omega)).1]
    rw [e25]
    have eb : b = t2 X := by omega
    subst eb
    refine hQ _ (((((ho.wide (fun c j z => Or.inl z)).trans (fr.sI (F := f299) (a := 547) (k := 43) _ _ (Or.inr (by omega)))).trans (fr.sI (F := f299) (a := 547) (k := 50) _ _ (Or.inr (by omega)))).trans (fr.sI (F := f299) (a := 547) (k := 37) _ _ (Or.inr (by omega)))).trans (fr.sI (F := f299) (a := 547) (k := 55) _ _ (Or.inr (by omega)))) (fun j hj => ?_) ?_ ?_ ?_ ?_
    · rw [xI_sI, if_neg (by omega), xI_sI, if_neg (by omega), xI_sI, if_neg (by omega), xI_sI, if_neg (by omega)]
      exact hv j hj
    · rw [xI_sI, if_neg (by omega), xI_sI, if_neg (by omega), xI_sI, if_neg (by omega), xI_sI, if_pos ⟨rfl, rfl⟩]
    · rw [xI_sI, if_neg (by omega), xI_sI, if_neg (by omega), xI_sI, if_pos ⟨rfl, rfl⟩]
    · rw [xI_sI, if_neg (by omega), xI_sI, if_pos ⟨rfl, rfl⟩]
    · rw [xI_sI, if_pos ⟨rfl, rfl⟩]
  | succ f ih =>
    intro b μ1 hb ho hv
    have R1 := RMf hR ho (fun j => by unfold f558; omega)
    have e27 : xI μ1 547 27 = w (t2 X) := by rw [(ho.1 547 27 (by unfold f558; omega)).1]; exact h27
    refine B_MO_text_299 R1.o ?_
    rw [e27, w_lt (by omega) (by omega) (by omega) (by omega)]
    refine ⟨fun _ => text_310 hR hI h27 hv5 (b := b) (by omega) (fun μ' g1 g2 => ih (b + 1) μ' (by omega) g1 g2) 4 0 μ1 (by omega) ho hv, fun z => absurd (by omega) z⟩
end TM1
