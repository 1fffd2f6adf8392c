/-! THE SEARCH OF HISTORIES, in the reference -/
theorem hrf_ap {i : Int} : ∀ (F F' : List (List Nat)) (rc : Nat) (rf : Int), hrf i (F ++ F') rc rf = hrf i F' (rc + F.length) (hrf i F rc rf)
  | [], F', rc, rf => rfl
  | a :: F, F', rc, rf => by
    rw [List.cons_append, hrf, hrf_ap F F', hrf, List.length_cons, show rc + 1 + F.length = rc + (F.length + 1) by omega]
theorem ofo_ap : ∀ (F F' : List (List Nat)) (o : Option (List Nat × (Nat → Bool))), ofo o (F ++ F') = ofo (ofo o F) F'
  | [], F', o => rfl
  | a :: F, F', o => by rw [List.cons_append, ofo, ofo_ap F F', ofo]
theorem dgs_cg {x y : Nat → Int} : ∀ i, (∀ j, j < i → x j = y j) → dgs x i = dgs y i
  | 0, _ => rfl
  | i + 1, h => by rw [dgs, dgs, dgs_cg i (fun j hj => h j (by omega)), h i (by omega)]
theorem getD_ap {p : List Nat} {k : Nat} : (p ++ [k]).getD p.length 0 = k := by
  rw [List.getD_eq_getElem?_getD, List.getElem?_append_right (Nat.le_refl _), Nat.sub_self]
  rfl
theorem getD_al {p : List Nat} {k j : Nat} (h : j < p.length) : (p ++ [k]).getD j 0 = p.getD j 0 := by
  rw [List.getD_eq_getElem?_getD, List.getD_eq_getElem?_getD, List.getElem?_append_left h]
theorem dgp_ap {p : List Nat} {k : Nat} : dgp (p ++ [k]) = dgp p * 10 + k := by
  unfold dgp
  rw [List.length_append, List.length_singleton, dgs, getD_ap]
  congr 1
  congr 1
  exact dgs_cg _ (fun j hj => by rw [getD_al hj])
section ON
variable {Γ : XG} {n c : Nat} {fd : Nat → Nat → Int} {μ : XM} {Q : Option Value → XM → Prop} {ru : Nat → Int} {ki : Nat → Nat → Int}
theorem go_6 {d : Nat} (hM : HM μ n ru ki) {a : List Nat} (ha : a.length = 6) (hp : PRX μ a) {rows : Nat} {rf wt : Int} {o : Option (List Nat × (Nat → Bool))} (hr : rows < 100000) (w1 : -1 ≤ wt) (w2 : wt < 2147483648) (hG : GSP μ rows rf o) (hQ : ∀ μ', fr ghf μ μ' → (∀ j, xI μ' 567 j = xI μ 567 j) → (∀ j, xI μ' 568 j = xI μ 568 j) → GSP μ' (rows + 1) (if (rows : Int) = wt then dgl a else rf) (some (os1 o a)) → Q none μ') : G Γ m_MO_goHistory (d + 1) (0, 0) Q 0 [.ref 546, .int (w 6), .int (w (dgl a)), .int (w wt)] [] μ := by
  have step : ∀ (μ1 : XM) (rf' : Int), fr (fun c j => c = 546 ∧ j = 52) μ μ1 → xI μ1 546 52 = w rf' → (∀ μ', fr ghf μ μ' → (∀ j, xI μ' 567 j = xI μ 567 j) → (∀ j, xI μ' 568 j = xI μ 568 j) → GSP μ' (rows + 1) rf' (some (os1 o a)) → Q none μ') → G Γ m_MO_goHistory (d + 1) (0, 0) Q 22 [.ref 546, jk, jk, jk, .int (w 0)] [] μ1 := fun μ1 rf' o1 e52 hQ => by
    have hM1 : HM μ1 n ru ki := HM_gh hM (o1.wide (fun c j e => Or.inr (Or.inr (Or.inr ⟨e.1, Or.inr (Or.inl e.2)⟩))))
    have og : fr ghf μ μ1 := o1.wide (fun c j e => Or.inr (Or.inr (Or.inr ⟨e.1, Or.inr (Or.inl e.2)⟩)))
    have hp1 : PRX μ1 a := fun j hj => by rw [(o1.1 568 j (by omega)).1]; exact hp j hj
    obtain ⟨g1, g2, g3⟩ := hG
    have e51 : xI μ1 546 51 = w rows := by rw [(o1.1 546 51 (by omega)).1]; exact g1
    cases o with
    | none =>
      obtain ⟨r0, g53⟩ := g3
      subst r0
      refine go_22n hM1 ha hp1 e51 (fun μ' k1 k2 k3 k4 => ?_) 6 0 μ1 (by omega) (fr.rf _ _) (fun q hq => absurd hq (by omega))
      refine hQ μ' (og.trans (k1.wide (fun _ _ => g22_h))) (fun j => by rw [(k1.1 567 j (by unfold g22; omega)).1, (o1.1 567 j (by omega)).1]) (fun j => by rw [(k1.1 568 j (by unfold g22; omega)).1, (o1.1 568 j (by omega)).1]) ⟨k2, by rw [(k1.1 546 52 (by unfold g22; omega)).1]; exact e52, by omega, ?_, fun j hj => ⟨k4 j hj, (hp j (by omega)).2⟩⟩
      rw [k3, (o1.1 546 53 (by omega)).1, g53]
      exact btw_63.symm
    | some p =>
      obtain ⟨r0, g53, g569⟩ := g3
      refine go_22s hM1 ha hp1 r0 hr e51 (b := p.1) (e := p.2) (fun j hj => by rw [(o1.1 569 j (by omega)).1]; exact g569 j hj) (fun μ' k1 k2 k3 k4 => ?_) 6 0 μ1 (by omega) (fr.rf _ _) ?_
      · refine hQ μ' (og.trans (k1.wide (fun _ _ => g22_h))) (fun j => by rw [(k1.1 567 j (by unfold g22; omega)).1, (o1.1 567 j (by omega)).1]) (fun j => by rw [(k1.1 568 j (by unfold g22; omega)).1, (o1.1 568 j (by omega)).1]) ⟨k2, by rw [(k1.1 546 52 (by unfold g22; omega)).1]; exact e52, by omega, k3, fun j hj => ?_⟩
        rw [k4 j hj, (o1.1 569 j (by omega)).1]
        exact g569 j hj
      · rw [(o1.1 546 53 (by omega)).1, g53]
        refine btw_cg 6 (fun q hq => ?_)
        rw [show decide (q < 0 → a.getD q 0 = p.1.getD q 0) = true from decide_eq_true (fun z => absurd z (by omega)), Bool.and_true]
  refine B_MO_goHistory_0 hM.1.o ?_
  refine ⟨fun _ => ⟨fun q => ?_, fun q => ?_⟩, fun q => absurd rfl q⟩
  · rw [hG.1, w_inj (by omega) (by omega) (by omega) (by omega)] at q
    rw [if_pos q] at hQ
    rintro μ1 rfl
    exact step _ (dgl a) (fr.sI (F := fun c j => c = 546 ∧ j = 52) (a := 546) (k := 52) μ _ ⟨rfl, rfl⟩) (by rw [xI_sI, if_pos ⟨rfl, rfl⟩]) hQ
  · rw [hG.1, w_inj (by omega) (by omega) (by omega) (by omega)] at q
    rw [if_neg q] at hQ
    exact step μ rf (fr.rf _ _) hG.2.1 hQ
end ON
