/-! PLACES AMONG LETTERS; WHAT TELLING A LAW OR A PLAN WRITES -/
section TE
variable {Γ : XG} {d : Nat} {μ : XM} {Q : Option Value → XM → Prop}
theorem placeAmong_G {a len : Nat} (hs : shp a = some (.inr (3, len))) (ha : a < 574) (hN : 574 ≤ xN μ) (hl : len ≤ 100) {lv : Nat → Int} (hv : ∀ j, j < len → xI μ a j = w (lv j) ∧ 0 ≤ lv j ∧ lv j ≤ 1000) {c : Int} (c1 : -1 ≤ c) (c2 : c ≤ 1000) : ∀ (f i : Nat), i + f = len → Q (some (.int (w (sch (fun j => decide (lv j = c)) f i)))) μ → G Γ m_FB_placeAmong (d + 1) (0, 0) Q 2 [.ref a, .int (w c), .int (w i)] [] μ := by
  intro f
  induction f with
  | zero =>
    intro i hi hQ
    refine B_FB_placeAmong_2 ⟨len, ar_of hs ha hN, ?_⟩
    rw [w_lt (by omega) (by omega) (by omega) (by omega)]
    exact ⟨fun q => absurd q (by omega), fun _ => hQ⟩
  | succ f ih =>
    intro i hi hQ
    refine B_FB_placeAmong_2 ⟨len, ar_of hs ha hN, ?_⟩
    obtain ⟨v0, v1, v2⟩ := hv i (by omega)
    rw [w_lt (by omega) (by omega) (by omega) (by omega), w_cln (by omega), v0, w_inj (by omega) (by omega) (by omega) (by omega), w_add]
    unfold sch at hQ
    refine ⟨fun _ => ⟨inb_of hs ha hN (by omega) (by omega), fun q => ?_, fun q => ?_⟩, fun q => absurd (by omega) q⟩
    · rw [if_pos (decide_eq_true q)] at hQ
      exact hQ
    · rw [if_neg (fun z => q (of_decide_eq_true z))] at hQ
      exact ih (i + 1) (by omega) hQ
theorem C_placeAmong (hd : 1 ≤ d) {a len : Nat} (hs : shp a = some (.inr (3, len))) (ha : a < 574) (hN : 574 ≤ xN μ) (hl : len ≤ 100) {lv : Nat → Int} (hv : ∀ j, j < len → xI μ a j = w (lv j) ∧ 0 ≤ lv j ∧ lv j ≤ 1000) {c : Int} (c1 : -1 ≤ c) (c2 : c ≤ 1000) : Call Γ m_FB_placeAmong d [.ref a, .int (w c)] μ (KI (fun r μ' => μ' = μ ∧ r = w (sch (fun j => decide (lv j = c)) len 0))) := by
  obtain ⟨d, rfl⟩ : ∃ e, d = e + 1 := ⟨d - 1, by omega⟩
  exact Call.of ok_FB_placeAmong (Nat.le_of_ble_eq_true rfl) (B_FB_placeAmong_0 (placeAmong_G hs ha hN hl hv c1 c2 len 0 (by omega) ⟨_, rfl, rfl, rfl⟩))
theorem sch_bd (f : Nat → Bool) : ∀ k i, -1 ≤ sch f k i ∧ sch f k i < ((i + k : Nat) : Int)
  | 0, i => by unfold sch; omega
  | k + 1, i => by
    have := sch_bd f k (i + 1)
    unfold sch
    split <;> omega
/-- the letters of the static tables -/
def ltr (a j : Nat) : Int := (sT a j).getD 0
theorem ltr_ok (hS : ST μ) {a len : Nat} (h : a = 3 ∧ len = 6 ∨ a = 4 ∧ len = 4 ∨ a = 7 ∧ len = 5 ∨ a = 10 ∧ len = 4 ∨ a = 13 ∧ len = 5) : shp a = some (.inr (3, len)) ∧ ∀ j, j < len → xI μ a j = w (ltr a j) ∧ 0 ≤ ltr a j ∧ ltr a j ≤ 1000 := by
  have hq : ∀ a len, (a = 3 ∧ len = 6 ∨ a = 4 ∧ len = 4 ∨ a = 7 ∧ len = 5 ∨ a = 10 ∧ len = 4 ∨ a = 13 ∧ len = 5) → shp a = some (.inr (3, len)) ∧ ∀ j, j < len → sT a j = some (ltr a j) ∧ 0 ≤ ltr a j ∧ ltr a j ≤ 1000 := by
    intro a len h
    rcases h with ⟨rfl, rfl⟩ | ⟨rfl, rfl⟩ | ⟨rfl, rfl⟩ | ⟨rfl, rfl⟩ | ⟨rfl, rfl⟩
    all_goals refine ⟨rfl, by decide⟩
  obtain ⟨h1, h2⟩ := hq a len h
  exact ⟨h1, fun j hj => ⟨hS a j _ (h2 j hj).1, (h2 j hj).2⟩⟩
theorem C_tellLaw (hd : 1 ≤ d) (hR : RF μ) {lt : Nat} (hl : lt ≤ 4) (e4 : xI μ 32 4 = w lt) : Call Γ m_FB_tellLaw d [.ref 32] μ (KI (fun r μ' => (lt < 4 ∧ r = w lt ∧ μ' = sI (sI μ 33 1 (w 0)) 32 4 (w ((lt + 1 : Nat) : Int))) ∨ (lt = 4 ∧ r = w (-1) ∧ μ' = μ))) := by
  obtain ⟨d, rfl⟩ : ∃ e, d = e + 1 := ⟨d - 1, by omega⟩
  refine Call.of ok_FB_tellLaw (Nat.le_of_ble_eq_true rfl) (B_FB_tellLaw_0 hR.ob (hR.r 32 0 33 rfl) (hR.o rfl (by omega)) ?_)
  rw [e4, w_lt (by omega) (by omega) (by omega) (by omega)]
  refine ⟨fun q => ?_, fun q => ⟨_, rfl, Or.inr ⟨by omega, rfl, rfl⟩⟩⟩
  rintro μ1 rfl μ2 rfl
  have e : xI (sI μ 33 1 (w 0)) 32 4 = w lt := by rw [xI_sI, if_neg (by omega)]; exact e4
  rw [xI_sI, if_pos ⟨rfl, rfl⟩, e, w_add, w_sub]
  exact ⟨_, rfl, Or.inl ⟨by omega, by congr 1; omega, rfl⟩⟩
theorem C_tellPlan (hd : 1 ≤ d) (hR : RF μ) {k : Nat} (hl : k ≤ 4) (e4 : xI μ 32 7 = w k) : Call Γ m_FB_tellPlan d [.ref 32] μ (KI (fun r μ' => (k < 4 ∧ r = w k ∧ μ' = sI (sI μ 33 1 (w 0)) 32 7 (w ((k + 1 : Nat) : Int))) ∨ (k = 4 ∧ r = w (-1) ∧ μ' = μ))) := by
  obtain ⟨d, rfl⟩ : ∃ e, d = e + 1 := ⟨d - 1, by omega⟩
  refine Call.of ok_FB_tellPlan (Nat.le_of_ble_eq_true rfl) (B_FB_tellPlan_0 hR.ob (hR.r 32 0 33 rfl) (hR.o rfl (by omega)) ?_)
  rw [e4, w_lt (by omega) (by omega) (by omega) (by omega)]
  refine ⟨fun q => ?_, fun q => ⟨_, rfl, Or.inr ⟨by omega, rfl, rfl⟩⟩⟩
  rintro μ1 rfl μ2 rfl
  have e : xI (sI μ 33 1 (w 0)) 32 7 = w k := by rw [xI_sI, if_neg (by omega)]; exact e4
  rw [xI_sI, if_pos ⟨rfl, rfl⟩, e, w_add, w_sub]
  exact ⟨_, rfl, Or.inl ⟨by omega, by congr 1; omega, rfl⟩⟩
end TE
