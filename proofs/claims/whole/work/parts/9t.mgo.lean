/-! THE SEARCH OF HISTORIES, in the reference -/
theorem hrf_ap {i : Int} : ∀ (F F' : List (List Nat)) (rc : Nat) (rf : Int), hrf i (F ++ F') rc rf = hrf i F' (rc + F.length) (hrf i F rc rf)
  | [], F', rc, rf => rfl
  | a :: F, F', rc, rf => by
    rw [List.cons_append, hrf, hrf_ap F F', hrf, List.length_cons, show rc + 1 + F.length = rc + (F.length + 1) by omega]
theorem ofo_ap : ∀ (F F' : List (List Nat)) (o : Option (List Nat × (Nat → Bool))), ofo o (F ++ F') = ofo (ofo o F) F'
  | [], F', o => rfl
  | a :: F, F', o => by rw [List.cons_append, ofo, ofo_ap F F', ofo]
theorem dgs_cg {x y : Nat → Int} : ∀ i, (∀ j, j < i → x j = y j) → dgs x i = dgs y i
  | 0, _ => rfl
  | i + 1, h => by rw [dgs, dgs, dgs_cg i (fun j hj => h j (by omega)), h i (by omega)]
theorem getD_ap {p : List Nat} {k : Nat} : (p ++ [k]).getD p.length 0 = k := by
  rw [List.getD_eq_getElem?_getD, List.getElem?_append_right (Nat.le_refl _), Nat.sub_self]
  rfl
theorem getD_al {p : List Nat} {k j : Nat} (h : j < p.length) : (p ++ [k]).getD j 0 = p.getD j 0 := by
  rw [List.getD_eq_getElem?_getD, List.getD_eq_getElem?_getD, List.getElem?_append_left h]
theorem dgp_ap {p : List Nat} {k : Nat} : dgp (p ++ [k]) = dgp p * 10 + k := by
  unfold dgp
  rw [List.length_append, List.length_singleton, dgs, getD_ap]
  congr 1
  congr 1
  exact dgs_cg _ (fun j hj => by rw [getD_al hj])
section ON
variable {Γ : XG} {n c : Nat} {fd : Nat → Nat → Int} {μ : XM} {Q : Option Value → XM → Prop} {ru : Nat → Int} {ki : Nat → Nat → Int}
theorem go_6 {d : Nat} (hM : HM μ n ru ki) {a : List Nat} (ha : a.length = 6) (hp : PRX μ a) {rows : Nat} {rf wt : Int} {o : Option (List Nat × (Nat → Bool))} (hr : rows < 100000) (w1 : -1 ≤ wt) (w2 : wt < 2147483648) (hG : GSP μ rows rf o) (hQ : ∀ μ', fr ghf μ μ' → (∀ j, xI μ' 568 j = xI μ 568 j) → (∀ j, xI μ' 569 j = xI μ 569 j) → GSP μ' (rows + 1) (if (rows : Int) = wt then dgl a else rf) (some (os1 o a)) → Q none μ') : G Γ m_MO_goHistory (d + 1) (0, 0) Q 0 [.ref 547, .int (w 6), .int (w (dgl a)), .int (w wt)] [] μ := by
  have step : ∀ (μ1 : XM) (rf' : Int), fr (fun c j => c = 547 ∧ j = 52) μ μ1 → xI μ1 547 52 = w rf' → (∀ μ', fr ghf μ μ' → (∀ j, xI μ' 568 j = xI μ 568 j) → (∀ j, xI μ' 569 j = xI μ 569 j) → GSP μ' (rows + 1) rf' (some (os1 o a)) → Q none μ') → G Γ m_MO_goHistory (d + 1) (0, 0) Q 22 [.ref 547, jk, jk, jk, .int (w 0)] [] μ1 := fun μ1 rf' o1 e52 hQ => by
    have hM1 : HM μ1 n ru ki := HM_gh hM (o1.wide (fun c j e => Or.inr (Or.inr (Or.inr ⟨e.1, Or.inr (Or.inl e.2)⟩))))
    have og : fr ghf μ μ1 := o1.wide (fun c j e => Or.inr (Or.inr (Or.inr ⟨e.1, Or.inr (Or.inl e.2)⟩)))
    have hp1 : PRX μ1 a := fun j hj => by rw [(o1.1 569 j (by omega)).1]; exact hp j hj
    obtain ⟨g1, g2, g3⟩ := hG
    have e51 : xI μ1 547 51 = w rows := by rw [(o1.1 547 51 (by omega)).1]; exact g1
    cases o with
    | none =>
      obtain ⟨r0, g53⟩ := g3
      subst r0
      refine go_22n hM1 ha hp1 e51 (fun μ' k1 k2 k3 k4 => ?_) 6 0 μ1 (by omega) (fr.rf _ _) (fun q hq => absurd hq (by omega))
      refine hQ μ' (og.trans (k1.wide (fun _ _ => g22_h))) (fun j => by rw [(k1.1 568 j (by unfold g22; omega)).1, (o1.1 568 j (by omega)).1]) (fun j => by rw [(k1.1 569 j (by unfold g22; omega)).1, (o1.1 569 j (by omega)).1]) ⟨k2, by rw [(k1.1 547 52 (by unfold g22; omega)).1]; exact e52, by omega, ?_, fun j hj => ⟨k4 j hj, (hp j (by omega)).2⟩⟩
      rw [k3, (o1.1 547 53 (by omega)).1, g53]
      exact btw_63.symm
    | some p =>
      obtain ⟨r0, g53, g569⟩ := g3
      refine go_22s hM1 ha hp1 r0 hr e51 (b := p.1) (e := p.2) (fun j hj => by rw [(o1.1 570 j (by omega)).1]; exact g569 j hj) (fun μ' k1 k2 k3 k4 => ?_) 6 0 μ1 (by omega) (fr.rf _ _) ?_
      · refine hQ μ' (og.trans (k1.wide (fun _ _ => g22_h))) (fun j => by rw [(k1.1 568 j (by unfold g22; omega)).1, (o1.1 568 j (by omega)).1]) (fun j => by rw [(k1.1 569 j (by unfold g22; omega)).1, (o1.1 569 j (by omega)).1]) ⟨k2, by rw [(k1.1 547 52 (by unfold g22; omega)).1]; exact e52, by omega, k3, fun j hj => ?_⟩
        rw [k4 j hj, (o1.1 570 j (by omega)).1]
        exact g569 j hj
      · rw [(o1.1 547 53 (by omega)).1, g53]
        refine btw_cg 6 (fun q hq => ?_)
        rw [show decide (q < 0 → a.getD q 0 = p.1.getD q 0) = true from decide_eq_true (fun z => absurd z (by omega)), Bool.and_true]
  refine B_MO_goHistory_0 hM.1.o ?_
  refine ⟨fun _ => ⟨fun q => ?_, fun q => ?_⟩, fun q => absurd rfl q⟩
  · rw [hG.1, w_inj (by omega) (by omega) (by omega) (by omega)] at q
    rw [if_pos q] at hQ
    rintro μ1 rfl
    exact step _ (dgl a) (fr.sI (F := fun c j => c = 547 ∧ j = 52) (a := 547) (k := 52) μ _ ⟨rfl, rfl⟩) (by rw [xI_sI, if_pos ⟨rfl, rfl⟩]) hQ
  · rw [hG.1, w_inj (by omega) (by omega) (by omega) (by omega)] at q
    rw [if_neg q] at hQ
    exact step μ rf (fr.rf _ _) hG.2.1 hQ
def pad (p : List Nat) (L : List (List Nat)) : List (List Nat) := L.map (fun a => p ++ a)
theorem pad_ap {p : List Nat} {L L' : List (List Nat)} : pad p (L ++ L') = pad p L ++ pad p L' := List.map_append
theorem pad_cons {p : List Nat} {k : Nat} {L : List (List Nat)} : pad p (L.map (List.cons k)) = pad (p ++ [k]) L := by
  unfold pad
  rw [List.map_map]
  refine List.map_congr_left (fun a _ => ?_)
  show p ++ k :: a = p ++ [k] ++ a
  rw [List.append_assoc]
  rfl
theorem pad_len {p : List Nat} {L : List (List Nat)} : (pad p L).length = L.length := List.length_map _
def blf (fit : Nat → Nat → Bool) (n r : Nat) (c : Nat → Nat) (i k : Nat) : List (List Nat) := if c k = 0 ∨ fit i k = false then [] else (prf fit n r (dck c k) (i + 1)).map (List.cons k)
theorem prf_s {fit : Nat → Nat → Bool} {n r : Nat} {c : Nat → Nat} {i : Nat} : prf fit n (r + 1) c i = (List.range' 0 n).flatMap (blf fit n r c i) := by
  rw [prf]
  rfl
theorem C_go {wt : Int} (w1 : -1 ≤ wt) (w2 : wt < 2147483648) : ∀ (r d : Nat), r + 3 ≤ d → ∀ (cn : Nat → Nat) (p : List Nat) (μ : XM) (rows : Nat) (rf : Int) (o : Option (List Nat × (Nat → Bool))), p.length + r = 6 → HM μ n ru ki → FDM μ c fd → OF μ cn → PRX μ p → GSP μ rows rf o → rows + (prf (fib fd c) n r cn p.length).length < 100000 → Call Γ m_MO_goHistory d [.ref 547, .int (w p.length), .int (w (dgp p)), .int (w wt)] μ (KV (fun μ' => fr ghf μ μ' ∧ OF μ' cn ∧ PRX μ' p ∧ GSP μ' (rows + (prf (fib fd c) n r cn p.length).length) (hrf wt (pad p (prf (fib fd c) n r cn p.length)) rows rf) (ofo o (pad p (prf (fib fd c) n r cn p.length))))) := by
  intro r
  induction r with
  | zero =>
    intro d hd cn p μ rows rf o hp hM hD hO hP hG hb
    obtain ⟨d, rfl⟩ : ∃ e, d = e + 1 := ⟨d - 1, by omega⟩
    have l6 : p.length = 6 := by omega
    have e1 : dgp p = dgl p := by unfold dgp dgl; rw [l6]
    have e2 : pad p (prf (fib fd c) n 0 cn p.length) = [p] := by
      show [p ++ []] = [p]
      rw [List.append_nil]
    have e3 : (prf (fib fd c) n 0 cn p.length).length = 1 := rfl
    rw [e2, e3, e1, show ((p.length : Nat) : Int) = 6 by omega]
    refine Call.of ok_MO_goHistory (Nat.le_of_ble_eq_true rfl) ?_
    exact go_6 hM l6 hP (by omega) w1 w2 hG (fun μ' g1 g2 g3 g4 => ⟨rfl, g1, fun j hj => by rw [g2]; exact hO j hj, fun j hj => by rw [g3]; exact hP j hj, g4⟩)
  | succ r ih =>
    intro d hd cn p μ rows rf o hp hM hD hO hP hG hb
    obtain ⟨d, rfl⟩ : ∃ e, d = e + 1 := ⟨d - 1, by omega⟩
    have hn6 := hM.2.1
    have loop : ∀ (f k : Nat) (μ1 : XM) (rows : Nat) (rf : Int) (o : Option (List Nat × (Nat → Bool))), k + f = n → fr ghf μ μ1 → OF μ1 cn → PRX μ1 p → GSP μ1 rows rf o → rows + ((List.range' k f).flatMap (blf (fib fd c) n r cn p.length)).length < 100000 → ∀ {Q : Option Value → XM → Prop}, (∀ μ', fr ghf μ μ' → OF μ' cn → PRX μ' p → GSP μ' (rows + ((List.range' k f).flatMap (blf (fib fd c) n r cn p.length)).length) (hrf wt (pad p ((List.range' k f).flatMap (blf (fib fd c) n r cn p.length))) rows rf) (ofo o (pad p ((List.range' k f).flatMap (blf (fib fd c) n r cn p.length)))) → Q none μ') → G Γ m_MO_goHistory (d + 1) (0, 0) Q 105 [.ref 547, .int (w p.length), .int (w (dgp p)), .int (w wt), .int (w k)] [] μ1 := by
      intro f
      induction f with
      | zero =>
        intro k μ1 rows rf o hk ho hO hP hG hb Q hQ
        have hM1 := HM_gh hM ho
        refine B_MO_goHistory_105 hM1.1.o (hM1.1.r 46 568 rfl) ?_
        rw [hM1.2.2.1, w_lt (by omega) (by omega) (by omega) (by omega)]
        exact ⟨fun q => absurd q (by omega), fun _ => hQ μ1 ho hO hP hG⟩
      | succ f ihf =>
        intro k μ1 rows rf o hk ho hO hP hG hb Q hQ
        have hM1 := HM_gh hM ho
        have hD1 := FDM_gh hD ho
        rw [List.range'_succ, List.flatMap_cons] at hb hQ
        rw [List.length_append] at hb
        rw [List.length_append, pad_ap, hrf_ap, ofo_ap, pad_len] at hQ
        have hk1 := hO k (by omega)
        have nx : ∀ μ2, fr ghf μ1 μ2 → OF μ2 cn → PRX μ2 p → GSP μ2 (rows + (blf (fib fd c) n r cn p.length k).length) (hrf wt (pad p (blf (fib fd c) n r cn p.length k)) rows rf) (ofo o (pad p (blf (fib fd c) n r cn p.length k))) → G Γ m_MO_goHistory (d + 1) (0, 0) Q 105 [.ref 547, .int (w p.length), .int (w (dgp p)), .int (w wt), .int (w ((k : Int) + 1))] [] μ2 := fun μ2 k1 k2 k3 k4 => by
          refine ihf (k + 1) μ2 _ _ _ (by omega) (ho.trans k1) k2 k3 k4 (by omega) (fun μ' q1 q2 q3 q4 => hQ μ' q1 q2 q3 ?_)
          rw [← Nat.add_assoc]
          exact q4
        have skip : (cn k = 0 ∨ fib fd c p.length k = false) → G Γ m_MO_goHistory (d + 1) (0, 0) Q 105 [.ref 547, .int (w p.length), .int (w (dgp p)), .int (w wt), .int (w ((k : Int) + 1))] [] μ1 := fun q => by
          have e : blf (fib fd c) n r cn p.length k = [] := if_pos q
          rw [e] at nx
          exact nx μ1 (fr.rf _ _) hO hP hG
        refine B_MO_goHistory_105 hM1.1.o (hM1.1.r 46 568 rfl) ?_
        rw [hM1.2.2.1, w_lt (by omega) (by omega) (by omega) (by omega), w_cln (by omega), hk1.1, w_inj (by omega) (by omega) (by omega) (by omega), show w (k : Int) + w 1 = w ((k : Int) + 1) by rw [w_add]]
        refine ⟨fun _ => ⟨inb_of sh567.1 (by omega) hM1.1.1 (by omega) (by omega), fun q => skip (Or.inl (by omega)), fun q => ?_⟩, fun q => absurd (by omega) q⟩
        refine (C_mayBe (by omega) hM1 hD1 (by omega) (by omega)).conseq (KI.mono ?_)
        rintro v μ2 ⟨rfl, ⟨hf, rfl⟩ | ⟨hf, rfl⟩⟩
        · refine ⟨fun q => absurd q (by decide), fun _ => ⟨hM1.1.r 46 568 rfl, inb_of sh567.1 (by omega) hM1.1.1 (by omega) (by omega), ⟨by omega, inb_of sh567.1 (by omega) hM1.1.1 (by omega) (by omega)⟩, ?_⟩⟩
          rw [hk1.1, w_sub]
          rintro μ6 rfl
          have o6 : fr ghf μ2 (sI μ2 568 k (w ((cn k : Int) - 1))) := fr.sI (F := ghf) (a := 568) (k := k) _ _ (Or.inl rfl)
          have hM6 := HM_gh hM1 o6
          refine ⟨569, hM6.1.r 47 569 rfl, ⟨by omega, inb_of sh567.2.1 (by omega) hM6.1.1 (by omega) (by omega)⟩, ?_⟩
          rw [w_cln (by omega)]
          rintro μ9 rfl
          have o9 : fr ghf μ2 (sI (sI μ2 568 k (w ((cn k : Int) - 1))) 569 p.length (w k)) := o6.trans (fr.sI (F := ghf) (a := 569) (k := p.length) _ _ (Or.inr (Or.inl rfl)))
          have hM9 := HM_gh hM1 o9
          have hD9 := FDM_gh hD1 o9
          have e51 : ∀ j, xI (sI (sI μ2 568 k (w ((cn k : Int) - 1))) 569 p.length (w k)) 547 j = xI μ2 547 j := fun j => by rw [xI_sI, if_neg (by omega), xI_sI, if_neg (by omega)]
          have e569 : ∀ j, xI (sI (sI μ2 568 k (w ((cn k : Int) - 1))) 569 p.length (w k)) 570 j = xI μ2 570 j := fun j => by rw [xI_sI, if_neg (by omega), xI_sI, if_neg (by omega)]
          have hO9 : OF (sI (sI μ2 568 k (w ((cn k : Int) - 1))) 569 p.length (w k)) (dck cn k) := fun j hj => by
            have := hO j hj
            rw [xI_sI, if_neg (by omega), xI_sI]
            unfold dck
            by_cases e : j = k
            · subst e
              rw [if_pos ⟨rfl, rfl⟩, if_pos rfl]
              refine ⟨?_, by omega⟩
              congr 1
              omega
            · rw [if_neg (fun z => e z.2), if_neg e]
              exact this
          have lp : (p ++ [k]).length = p.length + 1 := by rw [List.length_append, List.length_singleton]
          have hP9 : PRX (sI (sI μ2 568 k (w ((cn k : Int) - 1))) 569 p.length (w k)) (p ++ [k]) := fun j hj => by
            rw [xI_sI]
            by_cases e : j = p.length
            · subst e
              rw [if_pos ⟨rfl, rfl⟩, getD_ap]
              exact ⟨rfl, by omega⟩
            · rw [if_neg (fun z => e z.2), xI_sI, if_neg (by omega), getD_al (by omega)]
              exact hP j (by omega)
          have hG9 : GSP (sI (sI μ2 568 k (w ((cn k : Int) - 1))) 569 p.length (w k)) rows rf o := by
            obtain ⟨a1, a2, a3⟩ := hG
            refine ⟨by rw [e51]; exact a1, by rw [e51]; exact a2, ?_⟩
            cases o with
            | none => exact ⟨a3.1, by rw [e51]; exact a3.2⟩
            | some u => exact ⟨a3.1, by rw [e51]; exact a3.2.1, fun j hj => by rw [e569]; exact a3.2.2 j hj⟩
          have eb : blf (fib fd c) n r cn p.length k = (prf (fib fd c) n r (dck cn k) (p.length + 1)).map (List.cons k) := if_neg (fun z => by
            rcases z with z | z
            · omega
            · rw [z] at hf; exact Bool.noConfusion hf)
          rw [eb, pad_cons, List.length_map] at nx
          rw [eb, List.length_map] at hb
          generalize (sI (sI μ2 568 k (w ((cn k : Int) - 1))) 569 p.length (w k)) = μ9 at *
          have key := ih d (by omega) (dck cn k) (p ++ [k]) μ9 rows rf o (by omega) hM9 hD9 hO9 hP9 hG9 (by rw [lp]; omega)
          rw [lp, dgp_ap] at key
          rw [w_add, w_mul, w_add, show (10 : Int) * dgp p + k = dgp p * 10 + k by omega]
          refine Call.conseq key (KV.mono ?_)
          rintro μ10 ⟨o10, O10, P10, G10⟩
          have hM10 := HM_gh hM9 o10
          have hk10 := O10 k (by omega)
          refine ⟨hM10.1.r 46 568 rfl, inb_of sh567.1 (by omega) hM10.1.1 (by omega) (by omega), ⟨by omega, inb_of sh567.1 (by omega) hM10.1.1 (by omega) (by omega)⟩, ?_⟩
          rw [hk10.1, w_add]
          rintro μ14 rfl
          have o14 : fr ghf μ10 (sI μ10 568 k (w ((dck cn k k : Int) + 1))) := fr.sI (F := ghf) (a := 568) (k := k) _ _ (Or.inl rfl)
          refine nx _ ((o9.trans o10).trans o14) (fun j hj => ?_) (fun j hj => ?_) ?_
          · have := O10 j hj
            rw [xI_sI]
            unfold dck at this ⊢
            by_cases e : j = k
            · subst e
              rw [if_pos ⟨rfl, rfl⟩, if_pos rfl]
              have h9 := hk1.2
              refine ⟨?_, h9⟩
              congr 1
              omega
            · rw [if_neg (fun z => e z.2)]
              rw [if_neg e] at this
              exact this
          · rw [xI_sI, if_neg (by omega)]
            have := P10 j (by omega)
            rw [getD_al hj] at this
            exact this
          · obtain ⟨a1, a2, a3⟩ := G10
            refine ⟨by rw [xI_sI, if_neg (by omega)]; exact a1, by rw [xI_sI, if_neg (by omega)]; exact a2, ?_⟩
            generalize ofo o (pad (p ++ [k]) (prf (fib fd c) n r (dck cn k) (p.length + 1))) = oo at *
            cases oo with
            | none => exact ⟨a3.1, by rw [xI_sI, if_neg (by omega)]; exact a3.2⟩
            | some u => exact ⟨a3.1, by rw [xI_sI, if_neg (by omega)]; exact a3.2.1, fun j hj => by rw [xI_sI, if_neg (by omega)]; exact a3.2.2 j hj⟩
        · refine ⟨fun _ => skip (Or.inr ?_), fun q => absurd rfl q⟩
          cases e : fib fd c p.length k with
          | false => rfl
          | true => exact absurd e hf
    rw [prf_s] at hb ⊢
    refine Call.of ok_MO_goHistory (Nat.le_of_ble_eq_true rfl) (B_MO_goHistory_0 hM.1.o ?_)
    rw [w_inj (by omega) (by omega) (by omega) (by omega)]
    refine ⟨fun q => absurd q (by omega), fun _ => ?_⟩
    exact loop n 0 μ rows rf o (by omega) (fr.rf _ _) hO hP hG hb (fun μ' q1 q2 q3 q4 => ⟨rfl, q1, q2, q3, q4⟩)
end ON
