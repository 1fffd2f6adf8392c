/-! HISTORY AND SHARE, in the reference -/
theorem hfn_m1 : ∀ (F : List (List Nat)) (rc : Nat), hfn (-1) F rc = ((rc + F.length : Nat) : Int)
  | [], rc => by rw [hfn, if_pos rfl]; rfl
  | a :: F, rc => by
    rw [hfn, if_neg (by omega), hfn_m1 F, List.length_cons]
    congr 1
    omega
theorem hrf_lt {i : Int} : ∀ (F : List (List Nat)) (rc : Nat) (rf : Int), i < rc → hrf i F rc rf = rf
  | [], _, _, _ => rfl
  | a :: F, rc, rf, h => by rw [hrf, if_neg (by omega), hrf_lt F (rc + 1) rf (by omega)]
theorem hrf_hfn {i : Int} (hi : 0 ≤ i) : ∀ (F : List (List Nat)) (rc : Nat), (rc : Int) ≤ i → hrf i F rc (-1) = hfn i F rc
  | [], rc, _ => by rw [hrf, hfn, if_neg (by omega)]
  | a :: F, rc, h => by
    rw [hrf, hfn]
    by_cases e : (rc : Int) = i
    · rw [if_pos e, if_pos e, hrf_lt F (rc + 1) _ (by omega)]
    · rw [if_neg e, if_neg e, hrf_hfn hi F (rc + 1) (by omega)]
theorem ofo_sf : ∀ (F : List (List Nat)) (p : List Nat × (Nat → Bool)), ∃ p', ofo (some p) F = some p' ∧ btw p'.2 6 = sf1 p.1 F p.2
  | [], p => ⟨p, rfl, rfl⟩
  | a :: F, p => ofo_sf F (os1 (some p) a)
theorem pad_nil {L : List (List Nat)} : pad [] L = L := by
  unfold pad
  rw [show (fun a : List Nat => [] ++ a) = id from rfl, List.map_id]
section OO
variable {Γ : XG} {d n c : Nat} {fd : Nat → Nat → Int} {μ : XM} {Q : Option Value → XM → Prop} {ru : Nat → Int} {ki : Nat → Nat → Int}
theorem HC_t {z : Nat} (hn : n ≤ 6) (h : HC n z) : tot (hcn z) n = 6 := by rw [← tot_ext 6 hn (fun v h1 h2 => h.2.1 v h1 h2)]; exact h.2.2
theorem tot_mn {z : Nat} : ∀ (m K : Nat), K ≤ m → tot (hcn z) K ≤ tot (hcn z) m
  | 0, K, h => by rw [show K = 0 by omega]; exact Nat.le_refl _
  | m + 1, K, h => by
    by_cases e : K = m + 1
    · rw [e]; exact Nat.le_refl _
    · have := tot_mn (z := z) m K (by omega)
      show _ ≤ tot (hcn z) m + hcn z m
      omega
theorem lay_29 (hd : 9 ≤ d) (hM : HM μ n ru ki) (hD : FDM μ c fd) {wt : Int} (w1 : -1 ≤ wt) (w2 : wt < 2147483648) {z : Nat} (hz : z ≤ 999999) (hY : ∀ μ', fr ghf μ μ' → HC n z → GSP μ' ((prm n 6 (hcn z)).filter (fts (fib fd c) 0)).length (hrf wt ((prm n 6 (hcn z)).filter (fts (fib fd c) 0)) 0 (-1)) (ofo none ((prm n 6 (hcn z)).filter (fts (fib fd c) 0))) → Q (some (.int (w 1))) μ') (hN : ∀ μ', fr ghf μ μ' → ¬ HC n z → Q (some (.int (w 0))) μ') : ∀ (K : Nat) (sm : Nat) (μ1 : XM), K ≤ 6 → fr ghf μ μ1 → (∀ v, K ≤ v → v < 6 → xI μ1 568 v = w (hcn z v)) → sm + tot (hcn z) K = tot (hcn z) 6 → sm ≤ 100 → (∀ v, n ≤ v → K ≤ v → v < 6 → hcn z v = 0) → G Γ m_MO_layHistory (d + 1) (0, 0) Q 29 [.ref 547, jk, .int (w wt), .int (w ((z / 10 ^ (6 - K) : Nat) : Int)), .int (w sm), .int (w ((K : Int) - 1))] [] μ1 := by
  have hn6 := hM.2.1
  have h9 : ∀ v, hcn z v ≤ 9 := fun v => by unfold hcn; omega
  intro K
  induction K with
  | zero =>
    intro sm μ1 _ ho hv hs hs2 h0
    have hM1 := HM_gh hM ho
    have t0 : tot (hcn z) 0 = 0 := rfl
    refine B_MO_layHistory_29 hM1.1.o (hM1.1.r 46 568 rfl) ?_
    rw [w_lt (by omega) (by omega) (by omega) (by omega), w_inj (by omega) (by omega) (by omega) (by omega)]
    refine ⟨fun _ => ⟨fun q => ?_, fun q => ?_⟩, fun q => absurd (by omega) q⟩
    · have hc : HC n z := ⟨hz, fun v h1 h2 => h0 v h1 (by omega) h2, by omega⟩
      rintro μ2 rfl μ3 rfl μ4 rfl
      have f1 : ∀ (μ' : XM) (j : Nat) (v : Int32), (j = 51 ∨ j = 52 ∨ j = 53) → fr ghf μ' (sI μ' 547 j v) := fun μ' j v h => fr.sI (F := ghf) (a := 547) (k := j) μ' v (Or.inr (Or.inr (Or.inr ⟨rfl, h⟩)))
      have o4 : fr ghf μ1 (sI (sI (sI μ1 547 51 (w 0)) 547 52 (w (-1))) 547 53 (w 63)) := ((f1 _ _ _ (by omega)).trans (f1 _ _ _ (by omega))).trans (f1 _ _ _ (by omega))
      have hG : GSP (sI (sI (sI μ1 547 51 (w 0)) 547 52 (w (-1))) 547 53 (w 63)) 0 (-1) none := ⟨by rw [xI_sI, if_neg (by omega), xI_sI, if_neg (by omega), xI_sI, if_pos ⟨rfl, rfl⟩]; rfl, by rw [xI_sI, if_neg (by omega), xI_sI, if_pos ⟨rfl, rfl⟩], rfl, by rw [xI_sI, if_pos ⟨rfl, rfl⟩]⟩
      have hO : OF (sI (sI (sI μ1 547 51 (w 0)) 547 52 (w (-1))) 547 53 (w 63)) (hcn z) := fun j hj => ⟨by rw [xI_sI, if_neg (by omega), xI_sI, if_neg (by omega), xI_sI, if_neg (by omega)]; exact hv j (by omega) hj, h9 j⟩
      have hM4 := HM_gh hM1 o4
      have hD4 := FDM_gh (FDM_gh hD ho) o4
      generalize sI (sI (sI μ1 547 51 (w 0)) 547 52 (w (-1))) 547 53 (w 63) = μ4 at *
      have ht := HC_t hn6 hc
      have pl := prm_len 6 (hcn z) ht
      have f720 : fct 6 = 720 := rfl
      have fl : ((prm n 6 (hcn z)).filter (fts (fib fd c) 0)).length ≤ (prm n 6 (hcn z)).length := List.length_filter_le _ _
      have key := C_go (Γ := Γ) w1 w2 6 d (by omega) (hcn z) [] μ4 0 (-1) none rfl hM4 hD4 hO (fun j hj => absurd hj (Nat.not_lt_zero _)) hG (by rw [List.length_nil, prf_eq]; omega)
      rw [List.length_nil, pad_nil, prf_eq, Nat.zero_add] at key
      refine Call.conseq key (KV.mono ?_)
      rintro μ5 ⟨o5, -, -, G5⟩
      exact hY μ5 ((ho.trans o4).trans o5) hc G5
    · exact hN μ1 ho (fun x => q (by have := x.2.2; omega))
  | succ K ih =>
    intro sm μ1 hK ho hv hs hs2 h0
    have hM1 := HM_gh hM ho
    have hd' : z / 10 ^ (5 - K) % 10 = hcn z K := rfl
    have hp : z / 10 ^ (6 - K) = z / 10 ^ (5 - K) / 10 := by rw [pow_s, show 5 - K + 1 = 6 - K by omega]
    have hle : z / 10 ^ (5 - K) ≤ z := Nat.div_le_self _ _
    have htot : tot (hcn z) (K + 1) = tot (hcn z) K + hcn z K := rfl
    have hm9 := h9 K
    have nz : ¬ w 10 = 0 := by decide
    refine B_MO_layHistory_29 hM1.1.o (hM1.1.r 46 568 rfl) ?_
    rw [show 6 - (K + 1) = 5 - K by omega, show ((K + 1 : Nat) : Int) - 1 = (K : Int) by omega]
    generalize ea : z / 10 ^ (5 - K) = a at *
    rw [w_rem (by omega) (by omega) (by omega) (by omega), w_div (by omega) (by omega) (by omega) (by omega), show ((a : Nat) : Int) % 10 = ((hcn z K : Nat) : Int) by omega, show ((a : Nat) : Int) / 10 = ((a / 10 : Nat) : Int) by omega, w_lt (by omega) (by omega) (by omega) (by omega), w_cln (by omega)]
    refine ⟨fun q => absurd q (by omega), fun _ => ⟨nz, ⟨by omega, inb_of sh567.1 (by omega) hM1.1.1 (by omega) (by omega)⟩, ?_⟩⟩
    rintro μ7 rfl
    have o7 : fr ghf μ1 (sI μ1 568 K (w (hcn z K : Nat))) := fr.sI (F := ghf) (a := 568) (k := K) _ _ (Or.inl rfl)
    have hM7 := HM_gh hM1 o7
    have e7 : xI (sI μ1 568 K (w (hcn z K : Nat))) 568 K = w (hcn z K : Nat) := by rw [xI_sI, if_pos ⟨rfl, rfl⟩]
    have v7 : ∀ v, K ≤ v → v < 6 → xI (sI μ1 568 K (w (hcn z K : Nat))) 568 v = w (hcn z v) := fun v h1 h2 => by
      rw [xI_sI]
      by_cases e : v = K
      · rw [if_pos ⟨rfl, e⟩, e]
      · rw [if_neg (fun x => e x.2)]; exact hv v (by omega) h2
    generalize sI μ1 568 K (w (hcn z K : Nat)) = μ7 at *
    rw [e7, hM7.2.2.1, w_lt (by omega) (by omega) (by omega) (by omega), w_lt (by omega) (by omega) (by omega) (by omega), w_add, w_add, show (sm : Int) + (hcn z K : Nat) = ((sm + hcn z K : Nat) : Int) by omega, show (K : Int) + -1 = (K : Int) - 1 by omega]
    have hmn := tot_mn (z := z) 6 6 (Nat.le_refl _)
    have t60 : tot (hcn z) 6 ≤ 54 := by
      show 0 + hcn z 0 + hcn z 1 + hcn z 2 + hcn z 3 + hcn z 4 + hcn z 5 ≤ 54
      have := h9 0; have := h9 1; have := h9 2; have := h9 3; have := h9 4; have := h9 5
      omega
    have go : (K < n ∨ hcn z K = 0) → G Γ m_MO_layHistory (d + 1) (0, 0) Q 29 [.ref 547, jk, .int (w wt), .int (w ((a / 10 : Nat) : Int)), .int (w ((sm + hcn z K : Nat) : Int)), .int (w ((K : Int) - 1))] [] μ7 := fun q => by
      have := ih (sm + hcn z K) μ7 (by omega) (ho.trans o7) v7 (by omega) (by omega) (fun v h1 h2 h3 => ?_)
      · rw [hp] at this
        exact this
      · by_cases e : v = K
        · subst e
          rcases q with q | q
          · omega
          · exact q
        · exact h0 v h1 (by omega) h3
    refine ⟨nz, inb_of sh567.1 (by omega) hM7.1.1 (by omega) (by omega), fun q => go (Or.inl (by omega)), fun q => ⟨inb_of sh567.1 (by omega) hM7.1.1 (by omega) (by omega), fun q2 => hN μ7 (ho.trans o7) (fun x => ?_), fun q2 => go (Or.inr (by omega))⟩⟩
    have := x.2.1 K (by omega) (by omega)
    omega
theorem C_layM (hd : 10 ≤ d) (hM : HM μ n ru ki) (hD : FDM μ c fd) {wt z : Int} (w1 : -1 ≤ wt) (w2 : wt < 2147483648) (z1 : -2147483648 ≤ z) (z2 : z < 2147483648) : Call Γ m_MO_layHistory d [.ref 547, .int (w z), .int (w wt)] μ (KI (fun r μ' => fr ghf μ μ' ∧ (((0 < n ∧ 0 ≤ z ∧ HC n z.toNat) ∧ r = w 1 ∧ GSP μ' ((prm n 6 (hcn z.toNat)).filter (fts (fib fd c) 0)).length (hrf wt ((prm n 6 (hcn z.toNat)).filter (fts (fib fd c) 0)) 0 (-1)) (ofo none ((prm n 6 (hcn z.toNat)).filter (fts (fib fd c) 0)))) ∨ (¬ (0 < n ∧ 0 ≤ z ∧ HC n z.toNat) ∧ r = w 0)))) := by
  obtain ⟨d, rfl⟩ : ∃ e, d = e + 1 := ⟨d - 1, by omega⟩
  have hn6 := hM.2.1
  refine Call.of ok_MO_layHistory (Nat.le_of_ble_eq_true rfl) (B_MO_layHistory_0 hM.1.o ?_)
  rw [hM.2.2.1, w_inj (by omega) (by omega) (by omega) (by omega), w_l z1 z2]
  refine ⟨fun q => ⟨_, rfl, fr.rf _ _, Or.inr ⟨by omega, rfl⟩⟩, fun q => ?_⟩
  refine (C_isIn (x := 0) (y := 999999) (by omega) (by omega) (by omega) (by omega) (by omega) (by omega) (by omega)).conseq (KI.mono ?_)
  rintro r μ1 ⟨rfl, ⟨g1, g2, rfl⟩ | ⟨g1, rfl⟩⟩
  · refine ⟨fun q => absurd q (by decide), fun _ => ?_⟩
    obtain ⟨z, rfl⟩ : ∃ v : Nat, z = v := ⟨z.toNat, by omega⟩
    rw [show ((z : Nat) : Int).toNat = z by omega]
    have t0 : ∀ v, 6 ≤ v → v < 6 → xI μ1 568 v = w (hcn z v) := fun v h1 h2 => absurd h1 (by omega)
    have := lay_29 (Γ := Γ) (d := d) (Q := KI (fun r μ' => fr ghf μ1 μ' ∧ (((0 < n ∧ 0 ≤ (z : Int) ∧ HC n z) ∧ r = w 1 ∧ GSP μ' ((prm n 6 (hcn z)).filter (fts (fib fd c) 0)).length (hrf wt ((prm n 6 (hcn z)).filter (fts (fib fd c) 0)) 0 (-1)) (ofo none ((prm n 6 (hcn z)).filter (fts (fib fd c) 0)))) ∨ (¬ (0 < n ∧ 0 ≤ (z : Int) ∧ HC n z) ∧ r = w 0)))) (by omega) hM hD w1 w2 (z := z) (by omega) (fun μ' q1 q2 q3 => ⟨_, rfl, q1, Or.inl ⟨⟨by omega, by omega, q2⟩, rfl, q3⟩⟩) (fun μ' q1 q2 => ⟨_, rfl, q1, Or.inr ⟨fun x => q2 x.2.2, rfl⟩⟩) 6 0 μ1 (by omega) (fr.rf _ _) t0 (by omega) (by omega) (fun v h1 h2 h3 => absurd h2 (by omega))
    simp only [Nat.sub_self, Nat.pow_zero, Nat.div_one] at this
    exact this
  · exact ⟨fun _ => ⟨_, rfl, fr.rf _ _, Or.inr ⟨fun x => g1 ⟨x.2.1, by have := x.2.2.1; omega⟩, rfl⟩⟩, fun q => absurd rfl q⟩
def ghq (c j : Nat) : Prop := ghf c j ∨ thr c j
theorem C_historyM (hd : 11 ≤ d) (hM : HM μ n ru ki) (hD : FDM μ c fd) {z i : Int} (z1 : -2147483648 ≤ z) (z2 : z < 2147483648) (i1 : -2147483648 ≤ i) (i2 : i < 2147483648) : Call Γ m_MO_history d [.ref 547, .int (w z), .int (w i)] μ (KI (fun r μ' => fr ghq μ μ' ∧ r = w (@ite _ (0 < n ∧ -1 ≤ i ∧ 0 ≤ z ∧ HC n z.toNat) (Classical.propDecidable _) (hfn i ((prm n 6 (hcn z.toNat)).filter (fts (fib fd c) 0)) 0) (-1)))) := by
  obtain ⟨d, rfl⟩ : ∃ e, d = e + 1 := ⟨d - 1, by omega⟩
  refine Call.of ok_MO_history (Nat.le_of_ble_eq_true rfl) (B_MO_history_0 hM.1.o ?_)
  rintro μ1 rfl
  have o1 : fr ghq μ (sI μ 547 0 (w 0)) := (th0 μ).wide (fun _ _ h => Or.inr h)
  have hM1 := HM_th hM (th0 μ)
  have hD1 : FDM (sI μ 547 0 (w 0)) c fd := hD.frm (th0 μ) (fun c j h => by unfold thr; omega) (by unfold thr; omega)
  generalize sI μ 547 0 (w 0) = μ1 at *
  rw [w_lt (by omega) (by omega) (by omega) (by omega)]
  refine ⟨fun q => ⟨_, rfl, o1, by rw [if_neg (by omega)]⟩, fun q => ?_⟩
  refine (C_layM (by omega) hM1 hD1 (wt := i) (by omega) i2 z1 z2).conseq (KI.mono ?_)
  rintro r μ2 ⟨o2, ⟨hc, rfl, G⟩ | ⟨hc, rfl⟩⟩
  · refine ⟨fun q => absurd q (by decide), fun _ => ?_⟩
    rw [if_pos (show 0 < n ∧ -1 ≤ i ∧ 0 ≤ z ∧ HC n z.toNat from ⟨hc.1, by omega, hc.2⟩), w_inj (by omega) (by omega) (by omega) (by omega)]
    have oo := o1.trans (o2.wide (fun _ _ h => Or.inl h))
    generalize (prm n 6 (hcn z.toNat)).filter (fts (fib fd c) 0) = F at *
    refine ⟨fun q => ⟨_, rfl, oo, ?_⟩, fun q => ⟨_, rfl, oo, ?_⟩⟩
    · subst q
      rw [hfn_m1, Nat.zero_add]
      exact G.1
    · rw [← hrf_hfn (by omega) F 0 (by omega)]
      exact G.2.1
  · exact ⟨fun _ => ⟨_, rfl, o1.trans (o2.wide (fun _ _ h => Or.inl h)), by rw [if_neg (fun x => hc ⟨x.1, x.2.2⟩)]⟩, fun q => absurd rfl q⟩
theorem C_shareM (hd : 11 ≤ d) (hM : HM μ n ru ki) (hD : FDM μ c fd) {z : Int} (z1 : -2147483648 ≤ z) (z2 : z < 2147483648) : Call Γ m_MO_share d [.ref 547, .int (w z)] μ (KI (fun r μ' => fr ghq μ μ' ∧ r = @ite _ (0 < n ∧ 0 ≤ z ∧ HC n z.toNat) (Classical.propDecidable _) (sf0 ((prm n 6 (hcn z.toNat)).filter (fts (fib fd c) 0))) (w (-1)))) := by
  obtain ⟨d, rfl⟩ : ∃ e, d = e + 1 := ⟨d - 1, by omega⟩
  refine Call.of ok_MO_share (Nat.le_of_ble_eq_true rfl) (B_MO_share_0 hM.1.o ?_)
  rintro μ1 rfl
  have o1 : fr ghq μ (sI μ 547 0 (w 0)) := (th0 μ).wide (fun _ _ h => Or.inr h)
  have hM1 := HM_th hM (th0 μ)
  have hD1 : FDM (sI μ 547 0 (w 0)) c fd := hD.frm (th0 μ) (fun c j h => by unfold thr; omega) (by unfold thr; omega)
  generalize sI μ 547 0 (w 0) = μ1 at *
  refine (C_layM (by omega) hM1 hD1 (wt := -1) (by omega) (by omega) z1 z2).conseq (KI.mono ?_)
  rintro r μ2 ⟨o2, ⟨hc, rfl, G⟩ | ⟨hc, rfl⟩⟩
  · refine ⟨fun q => absurd q (by decide), fun _ => ?_⟩
    have hn6 := hM.2.1
    have fl : ((prm n 6 (hcn z.toNat)).filter (fts (fib fd c) 0)).length ≤ 720 := Nat.le_trans (List.length_filter_le _ _) (prm_len 6 (hcn z.toNat) (HC_t hn6 hc.2.2))
    rw [if_pos hc]
    have oo := o1.trans (o2.wide (fun _ _ h => Or.inl h))
    generalize (prm n 6 (hcn z.toNat)).filter (fts (fib fd c) 0) = F at *
    rw [G.1, w_lt (by omega) (by omega) (by omega) (by omega)]
    cases F with
    | nil => exact ⟨fun q => absurd q (by simp), fun _ => ⟨_, rfl, oo, rfl⟩⟩
    | cons a F =>
      refine ⟨fun q => ⟨_, rfl, oo, ?_⟩, fun q => absurd (by rw [List.length_cons]; omega) q⟩
      obtain ⟨p', e1, e2⟩ := ofo_sf F (a, fun _ => true)
      have G3 := G.2.2
      have e0 : ofo none (a :: F) = some p' := e1
      rw [e0] at G3
      rw [G3.2.1, e2]
      rfl
  · exact ⟨fun _ => ⟨_, rfl, o1.trans (o2.wide (fun _ _ h => Or.inl h)), by rw [if_neg hc]⟩, fun q => absurd rfl q⟩
end OO
