/-! HISTORIES, in the class -/
section PZ
variable {Γ : XG} {d h n c : Nat} {fd : Nat → Nat → Int} {g : Nat → Nat} {μ : XM} {Q : Option Value → XM → Prop} {ru : Nat → Int} {ki : Nat → Nat → Int}
theorem getD_mem : ∀ (s : List Nat) (j : Nat), j < s.length → s.getD j 0 ∈ s
  | [], _, h => absurd h (Nat.not_lt_zero _)
  | x :: t, 0, _ => List.mem_cons_self
  | x :: t, j + 1, h => List.mem_cons_of_mem _ (getD_mem t j (by rw [List.length_cons] at h; omega))
theorem start_21 (hR : RF μ) (hn6 : n ≤ 6) {z : Nat} (hz : z ≤ 999999) (hY : ∀ μ' g, fof hcr μ μ' → RG μ' g → asc (lst g) → (∀ v, (lst g).count v = if v < 6 then hcn z v else 0) → HC n z → Q (some (.int (w 1))) μ') (hN : ∀ μ', fof hcr μ μ' → ¬ HC n z → Q (some (.int (w 0))) μ') : ∀ (K : Nat) (s : List Nat) (μ1 : XM), K ≤ 6 → fof hcr μ μ1 → RS μ1 s → asc s → (∀ v, s.count v = if K ≤ v ∧ v < 6 then hcn z v else 0) → s.length + tot (hcn z) K = tot (hcn z) 6 → (∀ v, n ≤ v → K ≤ v → v < 6 → hcn z v = 0) → G Γ m_Pa_startRows (d + 1) (0, 0) Q 21 [.ref 493, jk, .int (w n), .int (w ((z / 10 ^ (6 - K) : Nat) : Int)), .int (w ((6 - s.length : Nat) : Int)), .int (w ((K : Int) - 1))] [] μ1 := by
  intro K
  induction K with
  | zero =>
    intro s μ1 _ ho hs ha hc hl h0
    have hs6 := hs.1
    refine B_Pa_startRows_21 ?_
    rw [w_lt (by omega) (by omega) (by omega) (by omega), w_inj (by omega) (by omega) (by omega) (by omega)]
    refine ⟨fun _ => ⟨fun q => ?_, fun q => ?_⟩, fun q => absurd (by omega) q⟩
    · have l6 : s.length = 6 := by omega
      have el := lst_of s l6
      refine hY μ1 (fun j => s.getD j 0) ho (fun j hj => ⟨?_, ?_⟩) (by rw [el]; exact ha) (fun v => by
        rw [el, hc v]
        by_cases e : v < 6
        · rw [if_pos ⟨by omega, e⟩, if_pos e]
        · rw [if_neg (fun q => e q.2), if_neg e]) ⟨hz, fun v h1 h2 => h0 v h1 (by omega) h2, ?_⟩
      · have := hs.2 j (by omega)
        rw [l6, show 6 - 6 + j = j by omega] at this
        exact this
      · have hm := getD_mem s j (by omega)
        have h5 := List.count_pos_iff.mpr hm
        rw [hc] at h5
        by_cases e : s.getD j 0 < 6
        · show s.getD j 0 ≤ 5
          omega
        · rw [if_neg (fun q => e q.2)] at h5
          omega
      · have t0 : tot (hcn z) 0 = 0 := rfl
        omega
    · refine hN μ1 ho (fun x => ?_)
      have := x.2.2
      have t0 : tot (hcn z) 0 = 0 := rfl
      omega
  | succ K ih =>
    intro s μ1 hK ho hs ha hc hl h0
    have hs6 := hs.1
    have hd : z / 10 ^ (5 - K) % 10 = hcn z K := rfl
    have hp : z / 10 ^ (6 - K) = z / 10 ^ (5 - K) / 10 := by rw [pow_s, show 5 - K + 1 = 6 - K by omega]
    have hle : z / 10 ^ (5 - K) ≤ z := Nat.div_le_self _ _
    have htot : tot (hcn z) (K + 1) = tot (hcn z) K + hcn z K := rfl
    have hm9 : hcn z K ≤ 9 := by rw [← hd]; omega
    refine B_Pa_startRows_21 ?_
    rw [show 6 - (K + 1) = 5 - K by omega, show ((K + 1 : Nat) : Int) - 1 = (K : Int) by omega]
    generalize ea : z / 10 ^ (5 - K) = a at *
    rw [w_rem (by omega) (by omega) (by omega) (by omega), w_div (by omega) (by omega) (by omega) (by omega), show ((a : Nat) : Int) % 10 = ((hcn z K : Nat) : Int) by omega, show ((a : Nat) : Int) / 10 = ((a / 10 : Nat) : Int) by omega, w_lt (by omega) (by omega) (by omega) (by omega), w_lt (by omega) (by omega) (by omega) (by omega), w_lt (by omega) (by omega) (by omega) (by omega), w_lt (by omega) (by omega) (by omega) (by omega)]
    have nz : ¬ w 10 = 0 := by decide
    have go : ∀ _ : hcn z K ≤ 6 - s.length, (K < n ∨ hcn z K = 0) → G Γ m_Pa_startRows (d + 1) (0, 0) Q 60 [.ref 493, jk, .int (w n), .int (w ((a / 10 : Nat) : Int)), .int (w ((6 - s.length : Nat) : Int)), .int (w K), .int (w (hcn z K : Nat)), .int (w 0)] [] μ1 := fun q1 q2 => by
      refine start_60 (μ := μ) hR (by omega) (m := hcn z K) (by omega) (hcn z K) 0 s μ1 (by omega) (by omega) ho hs (fun μ' g1 g2 => ?_)
      have el : (List.replicate (hcn z K) K ++ s).length = hcn z K + s.length := by rw [List.length_append, List.length_replicate]
      have := ih (List.replicate (hcn z K) K ++ s) μ' (by omega) g1 g2 ?_ (fun v => ?_) (by omega) (fun v h1 h2 h3 => ?_)
      · rw [el, hp] at this
        exact this
      · unfold asc at *
        rw [List.pairwise_append]
        refine ⟨List.pairwise_replicate.mpr (Or.inr (Nat.le_refl _)), ha, fun x hx y hy => ?_⟩
        have hx' := (List.mem_replicate.mp hx).2
        have h5 := List.count_pos_iff.mpr hy
        rw [hc y] at h5
        by_cases e : K + 1 ≤ y ∧ y < 6
        · omega
        · rw [if_neg e] at h5
          omega
      · rw [List.count_append, hc v, List.count_replicate]
        by_cases e : v = K
        · subst e
          rw [if_pos (by simp), if_neg (by omega), if_pos (by omega)]
          omega
        · rw [if_neg (by simp; omega)]
          by_cases e2 : K + 1 ≤ v ∧ v < 6
          · rw [if_pos e2, if_pos (by omega)]
            omega
          · rw [if_neg e2, if_neg (by omega)]
      · by_cases e : v = K
        · subst e
          rcases q2 with q2 | q2
          · omega
          · exact q2
        · exact h0 v h1 (by omega) h3
    refine ⟨fun q => absurd q (by omega), fun _ => ⟨nz, nz, fun q => hN μ1 ho (fun x => ?_), fun q => ⟨fun q2 => ⟨fun q3 => go (by omega) (Or.inl (by omega)), fun q3 => hN μ1 ho (fun x => ?_)⟩, fun q2 => go (by omega) (Or.inr (by omega))⟩⟩⟩
    · have := x.2.2
      omega
    · have := x.2.1 K (by omega) (by omega)
      omega
theorem C_startRows (hd : 1 ≤ d) (hR : RF μ) (hn6 : n ≤ 6) {z : Int} (z1 : -2147483648 ≤ z) (z2 : z < 2147483648) : Call Γ m_Pa_startRows d [.ref 493, .int (w z), .int (w n)] μ (KI (fun r μ' => fof hcr μ μ' ∧ (((0 ≤ z ∧ HC n z.toNat) ∧ r = w 1 ∧ ∃ g, RG μ' g ∧ (prm n 6 (hcn z.toNat)).head? = some (lst g)) ∨ (¬ (0 ≤ z ∧ HC n z.toNat) ∧ r = w 0)))) := by
  obtain ⟨d, rfl⟩ : ∃ e, d = e + 1 := ⟨d - 1, by omega⟩
  refine Call.of ok_Pa_startRows (Nat.le_of_ble_eq_true rfl) (B_Pa_startRows_0 ?_)
  rw [w_lt (by omega) (by omega) (by omega) (by omega), w_lt (by omega) (by omega) (by omega) (by omega)]
  refine ⟨fun q => ⟨_, rfl, fof.rf _ _, Or.inr ⟨by omega, rfl⟩⟩, fun q => ⟨fun q2 => ⟨_, rfl, fof.rf _ _, Or.inr ⟨fun x => by have := x.2.1; omega, rfl⟩⟩, fun q2 => ?_⟩⟩
  obtain ⟨z, rfl⟩ : ∃ v : Nat, z = v := ⟨z.toNat, by omega⟩
  rw [show ((z : Nat) : Int).toNat = z by omega]
  have := start_21 (Γ := Γ) (d := d) (μ := μ) (n := n) (Q := KI (fun r μ' => fof hcr μ μ' ∧ (((0 ≤ (z : Int) ∧ HC n z) ∧ r = w 1 ∧ ∃ g, RG μ' g ∧ (prm n 6 (hcn z)).head? = some (lst g)) ∨ (¬ (0 ≤ (z : Int) ∧ HC n z) ∧ r = w 0)))) hR hn6 (z := z) (by omega) (fun μ' g g1 g2 g3 g4 g5 => ⟨_, rfl, g1, Or.inl ⟨⟨by omega, g5⟩, rfl, g, g2, ?_⟩⟩) (fun μ' g1 g2 => ⟨_, rfl, g1, Or.inr ⟨fun x => g2 x.2, rfl⟩⟩) 6 [] μ (by omega) (fof.rf _ _) ⟨by simp, fun j hj => absurd hj (Nat.not_lt_zero _)⟩ List.Pairwise.nil (fun v => by rw [if_neg (by omega)]; rfl) (by simp) (fun v h1 h2 h3 => absurd h2 (by omega))
  · simp only [Nat.sub_self, Nat.pow_zero, Nat.div_one, List.length_nil] at this
    exact this
  · have ht : tot (hcn z) n = 6 := by rw [← tot_ext 6 hn6 (fun v h1 h2 => g5.2.1 v h1 h2)]; exact g5.2.2
    obtain ⟨p1, p2, p3⟩ := prm_chn n 6 (hcn z) ht
    cases e : prm n 6 (hcn z) with
    | nil => exact absurd e p1
    | cons b L =>
      have hb := p3 b (by rw [e]; rfl)
      have hm := (prm_mem 6 (hcn z) ht b (by rw [e]; exact List.mem_cons_self)).1
      have : b = lst g := asc_uq hb g3 (fun v => by
        rw [hm v, g4 v]
        by_cases e1 : v < n
        · rw [if_pos e1, if_pos (by omega)]
        · rw [if_neg e1]
          by_cases e2 : v < 6
          · rw [if_pos e2, g5.2.1 v (by omega) e2]
          · rw [if_neg e2])
      rw [this]
      rfl
theorem history_40 (hR : RF μ) (hD : FD μ c fd) {i : Int} (i1 : -1 ≤ i) (i2 : i < 2147483648) : ∀ (X : List (List Nat)) (t rc : Nat) (a : List Nat) (g : Nat → Nat) (μ1 : XM), t + (X.length + 1) ≤ 720 → rc ≤ t → cnx a X → chn X → fof hcr μ μ1 → RG μ1 g → a = lst g → (∀ μ', fof hcr μ μ' → Q (some (.int (w (hfn i ((a :: X).filter (fts (fib fd c) 0)) rc)))) μ') → G Γ m_FB_history (d + 4) (0, 0) Q 40 [.ref 32, jk, .int (w i), .int (w rc), .int (w 1), .int (w t)] [] μ1 := by
  have fin : ∀ (rc t : Nat) (μ1 : XM), rc ≤ 720 → t ≤ 720 → fof hcr μ μ1 → Q (some (.int (w (hfn i [] rc)))) μ1 → G Γ m_FB_history (d + 4) (0, 0) Q 40 [.ref 32, jk, .int (w i), .int (w rc), .int (w 0), .int (w t)] [] μ1 := fun rc t μ1 h1 h2 ho hQ => by
    have R1 := hR.of ho.2.2.1 ho.2.2.2
    unfold hfn at hQ
    refine B_FB_history_40 R1.ob (R1.r 32 15 493 rfl) (R1.o rfl (by omega)) ?_
    rw [w_lt (by omega) (by omega) (by omega) (by omega), w_inj (by omega) (by omega) (by omega) (by omega), w_inj (by omega) (by omega) (by omega) (by omega)]
    refine ⟨fun _ => ⟨fun _ => ⟨fun q => ?_, fun q => ?_⟩, fun q => absurd rfl q⟩, fun _ => ⟨fun q => ?_, fun q => ?_⟩⟩
    · rw [if_pos q] at hQ; exact hQ
    · rw [if_neg q] at hQ; exact hQ
    · rw [if_pos q] at hQ; exact hQ
    · rw [if_neg q] at hQ; exact hQ
  intro X
  induction X with
  | nil =>
    intro t rc a g μ1 ht hrc hx _ ho hg ea hQ
    subst ea
    have R1 := hR.of ho.2.2.1 ho.2.2.2
    have D1 : FD μ1 c fd := hD.fof ho (fun c c1 c2 => by unfold hcr; omega)
    refine B_FB_history_40 R1.ob (R1.r 32 15 493 rfl) (R1.o rfl (by omega)) ?_
    rw [w_lt (by omega) (by omega) (by omega) (by omega)]
    have ht' : t + 1 ≤ 720 := ht
    refine ⟨fun _ => ⟨fun q => absurd q (by decide), fun _ => ?_⟩, fun q => absurd (by omega) q⟩
    have nx : ∀ rc' : Nat, rc' ≤ 720 → (∀ μ', fof hcr μ μ' → Q (some (.int (w (hfn i [] rc')))) μ') → Call Γ m_Pa_nextRow (d + 3) [.ref 493] μ1 (KI (fun v3 μ3 => G Γ m_FB_history (d + 4) (0, 0) Q 40 [.ref 32, jk, .int (w i), .int (w rc'), .int v3, .int (w t + w 1)] [] μ3)) := fun rc' h1 hh => by
      refine (C_nextRow (by omega) R1 hg).conseq (KI.mono ?_)
      rintro r μ3 ⟨o3, ⟨g', e, -⟩ | ⟨e, rfl, hg3⟩⟩
      · have hx' : nxl (lst g) = none := hx
        rw [hx'] at e
        exact nomatch e
      · rw [w_add]
        exact fin rc' (t + 1) μ3 h1 ht' (ho.trans o3) (hh μ3 (ho.trans o3))
    refine (C_fitsAll (by omega) R1 D1 hg.rw).conseq (KI.mono ?_)
    rintro r μ2 ⟨rfl, ⟨hf, rfl⟩ | ⟨hf, rfl⟩⟩
    · have hf' := (fit_fts D1).mp hf
      rw [List.filter_cons, if_pos hf', List.filter_nil, hfn] at hQ
      refine ⟨fun q => absurd q (by decide), fun _ => ?_⟩
      rw [w_inj (by omega) (by omega) (by omega) (by omega)]
      refine ⟨fun q => ⟨R1.r 32 15 493 rfl, ?_⟩, fun q => ⟨R1.r 32 15 493 rfl, ?_⟩⟩
      · rw [if_pos q] at hQ
        refine (C_rowAsDigits (by omega) R1 hg.rw).conseq (KI.mono ?_)
        rintro r μ3 ⟨rfl, rfl⟩
        exact hQ _ ho
      · rw [if_neg q] at hQ
        rw [show w (rc : Int) + w 1 = w ((rc + 1 : Nat) : Int) by rw [w_add]; rfl]
        exact nx (rc + 1) (by omega) hQ
    · have hf' : ¬ fts (fib fd c) 0 (lst g) = true := fun z => hf ((fit_fts D1).mpr z)
      rw [List.filter_cons, if_neg hf', List.filter_nil] at hQ
      exact ⟨fun _ => ⟨R1.r 32 15 493 rfl, nx rc (by omega) hQ⟩, fun q => absurd rfl q⟩
  | cons b X ih =>
    intro t rc a g μ1 ht hrc hx hc ho hg ea hQ
    subst ea
    have R1 := hR.of ho.2.2.1 ho.2.2.2
    have D1 : FD μ1 c fd := hD.fof ho (fun c c1 c2 => by unfold hcr; omega)
    have hl : (b :: X).length = X.length + 1 := List.length_cons
    refine B_FB_history_40 R1.ob (R1.r 32 15 493 rfl) (R1.o rfl (by omega)) ?_
    rw [w_lt (by omega) (by omega) (by omega) (by omega)]
    refine ⟨fun _ => ⟨fun q => absurd q (by decide), fun _ => ?_⟩, fun q => absurd (by omega) q⟩
    have nx : ∀ rc' : Nat, rc' ≤ t + 1 → (∀ μ', fof hcr μ μ' → Q (some (.int (w (hfn i ((b :: X).filter (fts (fib fd c) 0)) rc')))) μ') → Call Γ m_Pa_nextRow (d + 3) [.ref 493] μ1 (KI (fun v3 μ3 => G Γ m_FB_history (d + 4) (0, 0) Q 40 [.ref 32, jk, .int (w i), .int (w rc'), .int v3, .int (w t + w 1)] [] μ3)) := fun rc' h1 hh => by
      refine (C_nextRow (by omega) R1 hg).conseq (KI.mono ?_)
      have hx' : nxl (lst g) = some b := hx
      rintro r μ3 ⟨o3, ⟨g', e, rfl, hg3⟩ | ⟨e, -⟩⟩
      · rw [hx'] at e
        have e' : b = lst g' := Option.some.inj e
        rw [w_add]
        exact ih (t + 1) rc' b g' μ3 (by omega) h1 hc.1 hc.2 (ho.trans o3) hg3 e' hh
      · rw [hx'] at e
        exact nomatch e
    refine (C_fitsAll (by omega) R1 D1 hg.rw).conseq (KI.mono ?_)
    rintro r μ2 ⟨rfl, ⟨hf, rfl⟩ | ⟨hf, rfl⟩⟩
    · have hf' := (fit_fts D1).mp hf
      rw [List.filter_cons, if_pos hf', hfn] at hQ
      refine ⟨fun q => absurd q (by decide), fun _ => ?_⟩
      rw [w_inj (by omega) (by omega) (by omega) (by omega)]
      refine ⟨fun q => ⟨R1.r 32 15 493 rfl, ?_⟩, fun q => ⟨R1.r 32 15 493 rfl, ?_⟩⟩
      · rw [if_pos q] at hQ
        refine (C_rowAsDigits (by omega) R1 hg.rw).conseq (KI.mono ?_)
        rintro r μ3 ⟨rfl, rfl⟩
        exact hQ _ ho
      · rw [if_neg q] at hQ
        rw [show w (rc : Int) + w 1 = w ((rc + 1 : Nat) : Int) by rw [w_add]; rfl]
        exact nx (rc + 1) (by omega) hQ
    · have hf' : ¬ fts (fib fd c) 0 (lst g) = true := fun z => hf ((fit_fts D1).mpr z)
      rw [List.filter_cons, if_neg hf'] at hQ
      exact ⟨fun _ => ⟨R1.r 32 15 493 rfl, nx rc (by omega) hQ⟩, fun q => absurd rfl q⟩
theorem C_historyF (hd : 5 ≤ d) (hR : RF μ) (hH : HO μ h n ru ki) (hD : FD μ c fd) {z i : Int} (z1 : -2147483648 ≤ z) (z2 : z < 2147483648) (i1 : -2147483648 ≤ i) (i2 : i < 2147483648) : Call Γ m_FB_history d [.ref 32, .int (w z), .int (w i)] μ (KI (fun r μ' => fof hcr μ μ' ∧ r = w (@ite _ (0 < n ∧ -1 ≤ i ∧ 0 ≤ z ∧ HC n z.toNat) (Classical.propDecidable _) (hfn i ((prm n 6 (hcn z.toNat)).filter (fts (fib fd c) 0)) 0) (-1)))) := by
  obtain ⟨d, rfl⟩ : ∃ e, d = e + 5 := ⟨d - 5, by omega⟩
  have hn := hH.2.2.1
  refine Call.of ok_FB_history (Nat.le_of_ble_eq_true rfl) (B_FB_history_0 hR.ob ?_)
  refine (C_hasHouse (by omega) hR hH).conseq (KI.mono ?_)
  rintro r μ1 ⟨rfl, ⟨g1, rfl⟩ | ⟨g1, rfl⟩⟩
  · refine ⟨fun q => absurd q (by decide), fun _ => ?_⟩
    rw [w_lt (by omega) (by omega) (by omega) (by omega)]
    refine ⟨fun q => ⟨_, rfl, fof.rf _ _, by rw [if_neg (by omega)]⟩, fun q => ⟨493, hR.r 32 15 493 rfl, h, hH.2.1, hH.1.ob, hR.o rfl (by omega), ?_⟩⟩
    rw [hH.2.2.2.1]
    refine (C_startRows (by omega) hR hn z1 z2).conseq (KI.mono ?_)
    rintro r μ2 ⟨o2, ⟨⟨hz, hc⟩, rfl, g, hg, he⟩ | ⟨hc, rfl⟩⟩
    · refine ⟨fun q => absurd q (by decide), fun _ => ?_⟩
      have R2 := hR.of o2.2.2.1 o2.2.2.2
      have D2 : FD μ2 c fd := hD.fof o2 (fun c c1 c2 => by unfold hcr; omega)
      have ht : tot (hcn z.toNat) n = 6 := by rw [← tot_ext 6 hn (fun v h1 h2 => hc.2.1 v h1 h2)]; exact hc.2.2
      obtain ⟨p1, p2, p3⟩ := prm_chn n 6 (hcn z.toNat) ht
      have pl := prm_len 6 (hcn z.toNat) ht
      rw [if_pos (show 0 < n ∧ -1 ≤ i ∧ 0 ≤ z ∧ HC n z.toNat from ⟨g1, by omega, hz, hc⟩)]
      cases e : prm n 6 (hcn z.toNat) with
      | nil => exact absurd e p1
      | cons b L =>
        rw [e] at p2 pl he
        have e' : b = lst g := Option.some.inj he
        have pl' : L.length + 1 ≤ 720 := pl
        exact history_40 R2 D2 (by omega) i2 L 0 0 b g μ2 (by omega) (by omega) p2.1 p2.2 (fof.rf _ _) hg e' (fun μ' g1 => ⟨_, rfl, o2.trans g1, rfl⟩)
    · exact ⟨fun _ => ⟨_, rfl, o2, by rw [if_neg (fun x => hc ⟨x.2.2.1, x.2.2.2⟩)]⟩, fun q => absurd rfl q⟩
  · exact ⟨fun _ => ⟨_, rfl, fof.rf _ _, by rw [if_neg (by omega)]⟩, fun q => absurd rfl q⟩
end PZ
