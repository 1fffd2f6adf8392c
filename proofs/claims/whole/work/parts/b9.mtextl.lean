/-! A LAW, A PLAN IS TOLD, in the reference -/
theorem sb_b8 : ∀ b, b < 256 → (w (sb b)).toInt8.toInt32 = w (sb b) := by decide +kernel
theorem PVM_v {pv pw : Nat → Nat → Int} {i j : Nat} (h : PVM pv i) (e : pw j = pv i) : PVM pw j := by
  unfold PVM PV at *
  rw [e]
  exact h
/-- what a step may say -/
theorem stq_PV {tb : Nat → Nat} {n p : Nat} {u : Nat × (Nat → Int)} (h : stq tb n p = .inr u) : PVM (fun _ => u.2) 0 := by
  have hsb := spt5_b (lk tb n p)
  have dd : ∀ q, dg tb n q → 0 ≤ dv tb q ∧ dv tb q ≤ 9 := fun q hq => by unfold dg at hq; unfold dv; omega
  unfold stq at h
  split at h
  · exact nomatch h
  · split at h
    · rename_i n1 g1
      have d1 := dd _ g1
      split at h
      · split at h
        · rename_i n2 g2
          have d2 := dd _ g2
          have e := Sum.inr.inj h
          rw [← e]
          unfold PVM PV v4
          simp only [if_true, if_false, Nat.one_ne_zero]
          refine ⟨⟨by omega, by omega, by omega, by omega, by simp, by simp, by simp, by simp⟩, fun z => by omega, fun z => by omega⟩
        · exact nomatch h
      · split at h
        · split at h
          · split at h
            · rename_i n2 n3 g2 g3
              have d2 := dd _ g2
              have d3 := dd _ g3.1
              have d33 := g3.2
              have e := Sum.inr.inj h
              rw [← e]
              unfold PVM PV v4
              simp only [if_true, if_false, Nat.one_ne_zero]
              refine ⟨⟨by omega, by omega, by omega, by omega, by simp; omega, by simp; omega, by simp; omega, by simp; omega⟩, fun z => by simp; omega, fun z => by omega⟩
            · exact nomatch h
          · exact nomatch h
        · have e := Sum.inr.inj h
          rw [← e]
          unfold PVM PV v4
          simp only [if_true, if_false, Nat.one_ne_zero]
          refine ⟨⟨by omega, by omega, by omega, by omega, by simp, by simp, by simp, by simp⟩, fun z => by omega, fun z => by omega⟩
    · exact nomatch h
theorem plF_PV {tb : Nat → Nat} {n : Nat} : ∀ (f i p : Nat) (acc : Nat → Nat → Int) (u : Nat × (Nat → Nat → Int)), i + f = 16 → (∀ j, j < i → PVM acc j) → plF tb n f i p acc = .inr u → u.1 ≤ 16 ∧ ∀ j, j < u.1 → PVM u.2 j
  | 0, i, p, acc, u, hi, ha, h => by
    rw [plF] at h
    exact nomatch h
  | f + 1, i, p, acc, u, hi, ha, h => by
    cases es : stq tb n p with
    | inl e =>
      have eP : plF tb n (f + 1) i p acc = .inl e := by rw [plF, es]
      rw [eP] at h
      exact nomatch h
    | inr v =>
      have eP : plF tb n (f + 1) i p acc = (if lk tb n v.1 = -1 then .inr (i + 1, fun j => if j = i then v.2 else acc j) else if lk tb n v.1 = 59 ∧ ¬ i + 1 = 16 then plF tb n f (i + 1) (sk tb n v.1 + 1) (fun j => if j = i then v.2 else acc j) else .inl (sk tb n v.1)) := by rw [plF, es]
      rw [eP] at h
      have hv := stq_PV es
      have hacc : ∀ j, j < i + 1 → PVM (fun j => if j = i then v.2 else acc j) j := by
        intro j hj
        by_cases e : j = i
        · exact PVM_v (i := 0) hv (if_pos e)
        · exact PVM_v (ha j (by omega)) (if_neg e)
      split at h
      · have e := Sum.inr.inj h
        rw [← e]
        exact ⟨by dsimp only; omega, hacc⟩
      · split at h
        · exact plF_PV f _ _ _ u (by omega) hacc h
        · exact nomatch h
section TM3
variable {Γ : XG} {d : Nat} {Q : Option Value → XM → Prop} {h n s m T lt k tn cl cf si mi Ti : Nat} {ru : Nat → Int} {ki bx mg lo fd bi gi : Nat → Nat → Int} {lz : Nat → Nat} {lc : Nat → Nat → Int} {sel hab : Int} {pz : Nat → Nat} {pv : Nat → Nat → Nat → Int} {tb : Nat → Nat} {ik : Bool} {A : AA} {W : WL} {μ ν : XM}
def f548 (c j : Nat) : Prop := c = 549
theorem text_71 (hR : RM ν) (hT : TX ν 548 0 tn tb) (hl : lt < 4) (h7 : xI ν 547 7 = w lt) (hQ : ∀ μ', fr (fun c j => c = 549 ∨ c = 550 ∨ (c = 547 ∧ j = 7)) ν μ' → (∀ j, j < tn → xI μ' 549 (240 * lt + j) = w (sb (tb j))) → (∀ j, j < 240 * lt → xI μ' 549 j = xI ν 549 j) → xI μ' 550 lt = w tn → (∀ j, ¬ j = lt → xI μ' 550 j = xI ν 550 j) → xI μ' 547 7 = w ((lt + 1 : Nat) : Int) → Q (some (.int (w lt))) μ') : ∀ (f q : Nat) (μ1 : XM), q + f = tn → fr f548 ν μ1 → (∀ j, j < q → xI μ1 549 (240 * lt + j) = w (sb (tb j))) → (∀ j, j < 240 * lt → xI μ1 549 j = xI ν 549 j) → G Γ m_MO_text (d + 1) (0, 0) Q 71 [.ref 547, jk, .int (w tn), .int (w (q : Int))] [] μ1 := by
  have hn := hT.1
  intro f
  induction f with
  | zero =>
    intro q μ1 hq ho hv hu
    have R1 := RMf hR ho (fun j => by unfold f548; omega)
    refine B_MO_text_71 R1.o (R1.r 3 550 rfl) (R1.r 2 549 rfl) (R1.r 1 548 rfl) ?_
    have e7 : xI μ1 547 7 = w lt := by rw [(ho.1 547 7 (by unfold f548; omega)).1]; exact h7
    rw [e7, w_lt (by omega) (by omega) (by omega) (by omega), w_cln (a := lt) (by omega)]
    refine ⟨fun z => absurd z (by omega), fun _ => ⟨inS_of (n := 4) rfl (by omega) R1.1 (by omega) (by omega) (by omega), ?_⟩⟩
    rintro μ2 rfl
    have e72 : xI (sI μ1 550 lt (w tn)) 547 7 = w lt := by rw [xI_sI, if_neg (by omega)]; exact e7
    rw [e72, w_add, show (lt : Int) + 1 = ((lt + 1 : Nat) : Int) by omega]
    rintro μ3 rfl
    have e73 : xI (sI (sI μ1 550 lt (w tn)) 547 7 (w ((lt + 1 : Nat) : Int))) 547 7 = w ((lt + 1 : Nat) : Int) := by rw [xI_sI, if_pos ⟨rfl, rfl⟩]
    rw [e73, w_sub, show ((lt + 1 : Nat) : Int) - 1 = (lt : Int) by omega]
    have eq : q = tn := by omega
    subst eq
    refine hQ _ (((ho.wide (fun c j z => Or.inl z)).trans (fr.sI (F := fun c j => c = 549 ∨ c = 550 ∨ (c = 547 ∧ j = 7)) (a := 550) (k := lt) _ _ (by omega))).trans (fr.sI (F := fun c j => c = 549 ∨ c = 550 ∨ (c = 547 ∧ j = 7)) (a := 547) (k := 7) _ _ (by omega))) (fun j hj => ?_) (fun j hj => ?_) ?_ (fun j hj => ?_) e73
    · rw [xI_sI, if_neg (by omega), xI_sI, if_neg (by omega)]; exact hv j hj
    · rw [xI_sI, if_neg (by omega), xI_sI, if_neg (by omega)]; exact hu j hj
    · rw [xI_sI, if_neg (by omega), xI_sI, if_pos ⟨rfl, rfl⟩]
    · rw [xI_sI, if_neg (by omega), xI_sI, if_neg (by omega), (ho.1 550 j (by unfold f548; omega)).1]
  | succ f ih =>
    intro q μ1 hq ho hv hu
    have R1 := RMf hR ho (fun j => by unfold f548; omega)
    refine B_MO_text_71 R1.o (R1.r 3 550 rfl) (R1.r 2 549 rfl) (R1.r 1 548 rfl) ?_
    have e7 : xI μ1 547 7 = w lt := by rw [(ho.1 547 7 (by unfold f548; omega)).1]; exact h7
    obtain ⟨t1', t2', t3'⟩ := hT.2.2 q (by omega)
    rw [Nat.zero_add] at t1'
    rw [e7, w_lt (by omega) (by omega) (by omega) (by omega), w_cln (a := q) (by omega), (ho.1 548 q (by unfold f548; omega)).1, t1', sb_b8 _ (by omega), w_mul, w_add, w_cl (by omega) (by omega), show (240 * (lt : Int) + q).toNat = 240 * lt + q by omega, w_add, show (q : Int) + 1 = ((q + 1 : Nat) : Int) by omega]
    refine ⟨fun _ => ⟨inb_of (n := 240) rfl (by omega) R1.1 (by omega) (by omega), inS_of (n := 960) rfl (by omega) R1.1 (by omega) (by omega) (by omega), ?_⟩, fun z => absurd (by omega) z⟩
    rintro μ6 rfl
    refine ih (q + 1) _ (by omega) (ho.trans (fr.sI (F := f548) (a := 549) (k := 240 * lt + q) _ _ rfl)) (fun j hj => ?_) (fun j hj => ?_)
    · rw [xI_sI]
      by_cases e : j = q
      · rw [if_pos ⟨rfl, by omega⟩, e]
      · rw [if_neg (by omega)]; exact hv j (by omega)
    · rw [xI_sI, if_neg (by omega)]; exact hu j hj
def f556 (c j : Nat) : Prop := c = 557
theorem text_137 (hR : RM ν) (hk : k < 4) (h28 : xI ν 547 28 = w k) (hQ : ∀ μ', fr (fun c j => c = 557 ∨ c = 558 ∨ (c = 547 ∧ j = 28)) ν μ' → (∀ j, j < 64 → xI μ' 557 (64 * k + j) = xI ν 557 (256 + j)) → (∀ j, j < 64 * k → xI μ' 557 j = xI ν 557 j) → xI μ' 558 k = xI ν 558 4 → (∀ j, ¬ j = k → xI μ' 558 j = xI ν 558 j) → xI μ' 547 28 = w ((k + 1 : Nat) : Int) → Q (some (.int (w k))) μ') : ∀ (f q : Nat) (μ1 : XM), q + f = 64 → fr f556 ν μ1 → (∀ j, j < q → xI μ1 557 (64 * k + j) = xI ν 557 (256 + j)) → (∀ j, (j < 64 * k ∨ 64 * k + q ≤ j) → xI μ1 557 j = xI ν 557 j) → G Γ m_MO_text (d + 1) (0, 0) Q 137 [.ref 547, jk, jk, .int (w (q : Int))] [] μ1 := by
  intro f
  induction f with
  | zero =>
    intro q μ1 hq ho hv hu
    have R1 := RMf hR ho (fun j => by unfold f556; omega)
    refine B_MO_text_137 R1.o (R1.r 24 558 rfl) (R1.r 23 557 rfl) ?_
    have e7 : xI μ1 547 28 = w k := by rw [(ho.1 547 28 (by unfold f556; omega)).1]; exact h28
    rw [e7, w_lt (by omega) (by omega) (by omega) (by omega)]
    refine ⟨fun z => absurd z (by omega), fun _ => ⟨inb_of (n := 5) rfl (by omega) R1.1 (by omega) (by omega), inS_of (n := 5) rfl (by omega) R1.1 (by omega) (by omega) (by omega), ?_⟩⟩
    rw [show (w 4).toNatClampNeg = 4 by decide, (ho.1 558 4 (by unfold f556; omega)).1, w_cln (a := k) (by omega)]
    rintro μ2 rfl
    have e72 : xI (sI μ1 558 k (xI ν 558 4)) 547 28 = w k := by rw [xI_sI, if_neg (by omega)]; exact e7
    rw [e72, w_add, show (k : Int) + 1 = ((k + 1 : Nat) : Int) by omega]
    rintro μ3 rfl
    have e73 : xI (sI (sI μ1 558 k (xI ν 558 4)) 547 28 (w ((k + 1 : Nat) : Int))) 547 28 = w ((k + 1 : Nat) : Int) := by rw [xI_sI, if_pos ⟨rfl, rfl⟩]
    rw [e73, w_sub, show ((k + 1 : Nat) : Int) - 1 = (k : Int) by omega]
    have eq : q = 64 := by omega
    subst eq
    refine hQ _ (((ho.wide (fun c j z => Or.inl z)).trans (fr.sI (F := fun c j => c = 557 ∨ c = 558 ∨ (c = 547 ∧ j = 28)) (a := 558) (k := k) _ _ (by omega))).trans (fr.sI (F := fun c j => c = 557 ∨ c = 558 ∨ (c = 547 ∧ j = 28)) (a := 547) (k := 28) _ _ (by omega))) (fun j hj => ?_) (fun j hj => ?_) ?_ (fun j hj => ?_) e73
    · rw [xI_sI, if_neg (by omega), xI_sI, if_neg (by omega)]; exact hv j hj
    · rw [xI_sI, if_neg (by omega), xI_sI, if_neg (by omega)]; exact hu j (by omega)
    · rw [xI_sI, if_neg (by omega), xI_sI, if_pos ⟨rfl, rfl⟩]
    · rw [xI_sI, if_neg (by omega), xI_sI, if_neg (by omega), (ho.1 558 j (by unfold f556; omega)).1]
  | succ f ih =>
    intro q μ1 hq ho hv hu
    have R1 := RMf hR ho (fun j => by unfold f556; omega)
    refine B_MO_text_137 R1.o (R1.r 24 558 rfl) (R1.r 23 557 rfl) ?_
    have e7 : xI μ1 547 28 = w k := by rw [(ho.1 547 28 (by unfold f556; omega)).1]; exact h28
    rw [e7, w_lt (by omega) (by omega) (by omega) (by omega), w_add 256, w_mul, w_add, w_cl (by omega) (by omega), w_cl (by omega) (by omega), show (256 + (q : Int)).toNat = 256 + q by omega, show (64 * (k : Int) + q).toNat = 64 * k + q by omega, w_add, show (q : Int) + 1 = ((q + 1 : Nat) : Int) by omega, hu (256 + q) (by omega)]
    refine ⟨fun _ => ⟨inb_of (n := 320) rfl (by omega) R1.1 (by omega) (by omega), inS_of (n := 320) rfl (by omega) R1.1 (by omega) (by omega) (by omega), ?_⟩, fun z => absurd (by omega) z⟩
    rintro μ6 rfl
    refine ih (q + 1) _ (by omega) (ho.trans (fr.sI (F := f556) (a := 557) (k := 64 * k + q) _ _ rfl)) (fun j hj => ?_) (fun j hj => ?_)
    · rw [xI_sI]
      by_cases e : j = q
      · rw [if_pos ⟨rfl, by omega⟩, e]
      · rw [if_neg (by omega)]; exact hv j (by omega)
    · rw [xI_sI, if_neg (by omega)]; exact hu j (by omega)
end TM3
