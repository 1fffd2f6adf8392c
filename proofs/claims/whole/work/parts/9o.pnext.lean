/-! THE NEXT ROW, in the class -/
def hcr (c : Nat) : Prop := c = 497 ∨ c = 498
def hc7 (c : Nat) : Prop := c = 497
def RG (μ : XM) (g : Nat → Nat) : Prop := ∀ j, j < 6 → xI μ 497 j = w (g j) ∧ g j ≤ 5
def sw (g : Nat → Nat) (i j : Nat) : Nat → Nat := fun q => if q = i then g j else if q = j then g i else g q
def rvs : Nat → Nat → Nat → (Nat → Nat) → (Nat → Nat)
  | 0, _, _, g => g
  | f + 1, l, h, g => if l < h then rvs f (l + 1) (h - 1) (sw g l h) else g
def lst (g : Nat → Nat) : List Nat := [g 0, g 1, g 2, g 3, g 4, g 5]
theorem nxl_dn : ∀ a : List Nat, a.Pairwise (fun a b => b ≤ a) → nxl a = none
  | [], _ => rfl
  | x :: t, h => by
    rw [List.pairwise_cons] at h
    exact nxl_3 (nxl_dn t h.2) (pck_no t (fun y hy => by have := h.1 y hy; omega))
theorem nxl_at {g : Nat → Nat} {k o : Nat} (h1 : ∀ q, k < q → q < 5 → ¬ g q < g (q + 1)) (h2 : k < o) (h3 : o ≤ 5) (h4 : g k < g o) (h5 : ∀ q, o < q → q ≤ 5 → ¬ g k < g q) : nxl (lst g) = some (lst (rvs 6 (k + 1) 5 (sw g k o))) := by
  have d1 : k < 1 → ¬ g 1 < g 2 := fun z => h1 1 z (by omega)
  have d2 : k < 2 → ¬ g 2 < g 3 := fun z => h1 2 z (by omega)
  have d3 : k < 3 → ¬ g 3 < g 4 := fun z => h1 3 z (by omega)
  have d4 : k < 4 → ¬ g 4 < g 5 := fun z => h1 4 z (by omega)
  have c2 := h5 2
  have c3 := h5 3
  have c4 := h5 4
  have c5 := h5 5
  unfold lst
  rcases (show k = 0 ∨ k = 1 ∨ k = 2 ∨ k = 3 ∨ k = 4 by omega) with rfl | rfl | rfl | rfl | rfl
  · have hn : nxl [g 1, g 2, g 3, g 4, g 5] = none := nxl_dn _ (by simp; omega)
    rcases (show o = 1 ∨ o = 2 ∨ o = 3 ∨ o = 4 ∨ o = 5 by omega) with rfl | rfl | rfl | rfl | rfl
    · have hp : pck (g 0) [g 1, g 2, g 3, g 4, g 5] = some (g 1, [g 0, g 2, g 3, g 4, g 5]) := by simp (disch := omega) [pck, h4, c2, c3, c4, c5]
      rw [nxl_2 hn hp]; simp [rvs, sw]
    · have hp : pck (g 0) [g 1, g 2, g 3, g 4, g 5] = some (g 2, [g 1, g 0, g 3, g 4, g 5]) := by simp (disch := omega) [pck, h4, c3, c4, c5]
      rw [nxl_2 hn hp]; simp [rvs, sw]
    · have hp : pck (g 0) [g 1, g 2, g 3, g 4, g 5] = some (g 3, [g 1, g 2, g 0, g 4, g 5]) := by simp (disch := omega) [pck, h4, c4, c5]
      rw [nxl_2 hn hp]; simp [rvs, sw]
    · have hp : pck (g 0) [g 1, g 2, g 3, g 4, g 5] = some (g 4, [g 1, g 2, g 3, g 0, g 5]) := by simp (disch := omega) [pck, h4, c5]
      rw [nxl_2 hn hp]; simp [rvs, sw]
    · have hp : pck (g 0) [g 1, g 2, g 3, g 4, g 5] = some (g 5, [g 1, g 2, g 3, g 4, g 0]) := by simp (disch := omega) [pck, h4]
      rw [nxl_2 hn hp]; simp [rvs, sw]
  · have hn : nxl [g 2, g 3, g 4, g 5] = none := nxl_dn _ (by simp; omega)
    rcases (show o = 2 ∨ o = 3 ∨ o = 4 ∨ o = 5 by omega) with rfl | rfl | rfl | rfl
    · have hp : pck (g 1) [g 2, g 3, g 4, g 5] = some (g 2, [g 1, g 3, g 4, g 5]) := by simp (disch := omega) [pck, h4, c3, c4, c5]
      rw [nxl_1 (nxl_2 hn hp)]; simp [rvs, sw]
    · have hp : pck (g 1) [g 2, g 3, g 4, g 5] = some (g 3, [g 2, g 1, g 4, g 5]) := by simp (disch := omega) [pck, h4, c4, c5]
      rw [nxl_1 (nxl_2 hn hp)]; simp [rvs, sw]
    · have hp : pck (g 1) [g 2, g 3, g 4, g 5] = some (g 4, [g 2, g 3, g 1, g 5]) := by simp (disch := omega) [pck, h4, c5]
      rw [nxl_1 (nxl_2 hn hp)]; simp [rvs, sw]
    · have hp : pck (g 1) [g 2, g 3, g 4, g 5] = some (g 5, [g 2, g 3, g 4, g 1]) := by simp (disch := omega) [pck, h4]
      rw [nxl_1 (nxl_2 hn hp)]; simp [rvs, sw]
  · have hn : nxl [g 3, g 4, g 5] = none := nxl_dn _ (by simp; omega)
    rcases (show o = 3 ∨ o = 4 ∨ o = 5 by omega) with rfl | rfl | rfl
    · have hp : pck (g 2) [g 3, g 4, g 5] = some (g 3, [g 2, g 4, g 5]) := by simp (disch := omega) [pck, h4, c4, c5]
      rw [nxl_1 (nxl_1 (nxl_2 hn hp))]; simp [rvs, sw]
    · have hp : pck (g 2) [g 3, g 4, g 5] = some (g 4, [g 3, g 2, g 5]) := by simp (disch := omega) [pck, h4, c5]
      rw [nxl_1 (nxl_1 (nxl_2 hn hp))]; simp [rvs, sw]
    · have hp : pck (g 2) [g 3, g 4, g 5] = some (g 5, [g 3, g 4, g 2]) := by simp (disch := omega) [pck, h4]
      rw [nxl_1 (nxl_1 (nxl_2 hn hp))]; simp [rvs, sw]
  · have hn : nxl [g 4, g 5] = none := nxl_dn _ (by simp; omega)
    rcases (show o = 4 ∨ o = 5 by omega) with rfl | rfl
    · have hp : pck (g 3) [g 4, g 5] = some (g 4, [g 3, g 5]) := by simp (disch := omega) [pck, h4, c5]
      rw [nxl_1 (nxl_1 (nxl_1 (nxl_2 hn hp)))]; simp [rvs, sw]
    · have hp : pck (g 3) [g 4, g 5] = some (g 5, [g 4, g 3]) := by simp (disch := omega) [pck, h4]
      rw [nxl_1 (nxl_1 (nxl_1 (nxl_2 hn hp)))]; simp [rvs, sw]
  · have hn : nxl [g 5] = none := rfl
    have eo : o = 5 := by omega
    subst eo
    have hp : pck (g 4) [g 5] = some (g 5, [g 4]) := by simp (disch := omega) [pck, h4]
    rw [nxl_1 (nxl_1 (nxl_1 (nxl_1 (nxl_2 hn hp))))]; simp [rvs, sw]
section PX
variable {Γ : XG} {d : Nat} {g : Nat → Nat} {μ : XM} {Q : Option Value → XM → Prop}
theorem in497 (hR : RF μ) {j : Int} (j0 : 0 ≤ j) (j1 : j < 6) : zib μ 0 497 (w j) := inb_of sh494.2.2.2.1 (by omega) hR.1 j0 (by omega)
theorem C_swap (hd : 1 ≤ d) (hR : RF μ) (hg : RG μ g) {i j : Nat} (hi : i < 6) (hj : j < 6) : Call Γ m_Pa_swap d [.ref 493, .int (w i), .int (w j)] μ (KV (fun μ' => fof hc7 μ μ' ∧ RG μ' (sw g i j))) := by
  obtain ⟨d, rfl⟩ : ∃ e, d = e + 1 := ⟨d - 1, by omega⟩
  refine Call.of ok_Pa_swap (Nat.le_of_ble_eq_true rfl) (B_Pa_swap_0 (hR.o rfl (by omega)) (hR.r 493 3 497 rfl) ?_)
  rw [w_cln (by omega), w_cln (by omega)]
  refine ⟨in497 hR (by omega) (by omega), in497 hR (by omega) (by omega), ⟨by omega, in497 hR (by omega) (by omega)⟩, ?_⟩
  rintro μ4 rfl
  refine ⟨⟨by omega, inb_of sh494.2.2.2.1 (by omega) hR.1 (by omega) (by omega)⟩, ?_⟩
  rintro μ6 rfl
  refine ⟨rfl, (fof.sI (P := hc7) _ _ _ rfl).trans (fof.sI (P := hc7) _ _ _ rfl), fun q hq => ?_⟩
  have gi := hg i hi
  have gj := hg j hj
  have gq := hg q hq
  rw [xI_sI, xI_sI]
  unfold sw
  by_cases ej : q = j
  · rw [if_pos ⟨rfl, ej⟩]
    by_cases ei : q = i
    · have : i = j := by omega
      subst this
      rw [if_pos ei]
      exact gi
    · rw [if_neg ei, if_pos ej]
      exact gi
  · rw [if_neg (fun z => ej z.2)]
    by_cases ei : q = i
    · rw [if_pos ⟨rfl, ei⟩, if_pos ei]
      exact gj
    · rw [if_neg (fun z => ei z.2), if_neg ei, if_neg ej]
      exact gq
theorem next_76 : ∀ (f l h : Nat) (g : Nat → Nat) (μ : XM), h ≤ 5 → l ≤ 6 → h < l + f → RF μ → RG μ g → (∀ μ', fof hc7 μ μ' → RG μ' (rvs f l h g) → Q (some (.int (w 1))) μ') → G Γ m_Pa_nextRow (d + 2) (0, 0) Q 76 [.ref 493, jk, jk, .int (w l), .int (w h)] [] μ := by
  intro f
  induction f with
  | zero =>
    intro l h g μ h5 l6 hf hR hg hQ
    refine B_Pa_nextRow_76 (hR.o rfl (by omega)) ?_
    rw [w_lt (by omega) (by omega) (by omega) (by omega)]
    exact ⟨fun q => absurd q (by omega), fun _ => hQ μ (fof.rf _ _) hg⟩
  | succ f ih =>
    intro l h g μ h5 l6 hf hR hg hQ
    refine B_Pa_nextRow_76 (hR.o rfl (by omega)) ?_
    rw [w_lt (by omega) (by omega) (by omega) (by omega)]
    unfold rvs at hQ
    refine ⟨fun q => ?_, fun q => ?_⟩
    · rw [if_pos (by omega)] at hQ
      refine (C_swap (by omega) hR hg (by omega) (by omega)).conseq (KV.mono ?_)
      rintro μ1 ⟨o1, hg1⟩
      rw [w_add, w_add, show (h : Int) + -1 = ((h - 1 : Nat) : Int) by omega]
      exact ih (l + 1) (h - 1) _ μ1 (by omega) (by omega) (by omega) (hR.of o1.2.2.1 o1.2.2.2) hg1 (fun μ' g1 g2 => hQ μ' (o1.trans g1) g2)
    · rw [if_neg (by omega)] at hQ
      exact hQ μ (fof.rf _ _) hg
theorem next_37 {k : Nat} (hk : k < 5) (h1 : ∀ q, k < q → q < 5 → ¬ g q < g (q + 1)) (h0 : g k < g (k + 1)) (hR : RF μ) (hg : RG μ g) (hQ : ∀ μ' g', fof hc7 μ μ' → RG μ' g' → nxl (lst g) = some (lst g') → Q (some (.int (w 1))) μ') : ∀ (f o : Nat), k + 1 + f = o → o ≤ 5 → (∀ q, o < q → q ≤ 5 → ¬ g k < g q) → G Γ m_Pa_nextRow (d + 2) (0, 0) Q 37 [.ref 493, .int (w k), .int (w o)] [] μ := by
  have go : ∀ o, k < o → o ≤ 5 → g k < g o → (∀ q, o < q → q ≤ 5 → ¬ g k < g q) → Call Γ m_Pa_swap (d + 1) [.ref 493, .int (w k), .int (w o)] μ (KV (fun μ4 => G Γ m_Pa_nextRow (d + 2) (0, 0) Q 76 [.ref 493, jk, jk, .int (w k + w 1), .int (w 5)] [] μ4)) := fun o k1 k2 k3 k4 => by
    refine (C_swap (by omega) hR hg (by omega) (by omega)).conseq (KV.mono ?_)
    rintro μ1 ⟨o1, hg1⟩
    rw [w_add]
    exact next_76 6 (k + 1) 5 _ μ1 (by omega) (by omega) (by omega) (hR.of o1.2.2.1 o1.2.2.2) hg1 (fun μ' g1 g2 => hQ μ' _ (o1.trans g1) g2 (nxl_at h1 k1 k2 k3 k4))
  intro f
  induction f with
  | zero =>
    intro o ho o5 h5
    have e : o = k + 1 := by omega
    subst e
    refine B_Pa_nextRow_37 (hR.o rfl (by omega)) (hR.r 493 3 497 rfl) ?_
    have gk := hg k (by omega)
    have gq := hg (k + 1) (by omega)
    rw [w_lt (by omega) (by omega) (by omega) (by omega), w_cln (by omega), w_cln (by omega), gk.1, gq.1, w_lt (by omega) (by omega) (by omega) (by omega)]
    exact ⟨fun _ => ⟨in497 hR (by omega) (by omega), in497 hR (by omega) (by omega), fun _ => go (k + 1) (by omega) o5 h0 h5, fun q => absurd (by omega) q⟩, fun q => absurd (by omega) q⟩
  | succ f ih =>
    intro o ho o5 h5
    refine B_Pa_nextRow_37 (hR.o rfl (by omega)) (hR.r 493 3 497 rfl) ?_
    have gk := hg k (by omega)
    have gq := hg o (by omega)
    rw [w_lt (by omega) (by omega) (by omega) (by omega), w_cln (by omega), w_cln (by omega), gk.1, gq.1, w_lt (by omega) (by omega) (by omega) (by omega)]
    refine ⟨fun _ => ⟨in497 hR (by omega) (by omega), in497 hR (by omega) (by omega), fun q => go o (by omega) o5 (by omega) h5, fun q => ?_⟩, fun q => absurd (by omega) q⟩
    rw [w_add, show (o : Int) + -1 = ((o - 1 : Nat) : Int) by omega]
    refine ih (o - 1) (by omega) (by omega) (fun v hv hv5 => ?_)
    by_cases e : v = o
    · subst e; omega
    · exact h5 v (by omega) hv5
theorem next_2 (hR : RF μ) (hg : RG μ g) (hQ : ∀ μ' g', fof hc7 μ μ' → RG μ' g' → nxl (lst g) = some (lst g') → Q (some (.int (w 1))) μ') (hN : nxl (lst g) = none → Q (some (.int (w 0))) μ) : ∀ (m : Nat), m ≤ 5 → (∀ q, m ≤ q → q < 5 → ¬ g q < g (q + 1)) → G Γ m_Pa_nextRow (d + 2) (0, 0) Q 2 [.ref 493, .int (w ((m : Int) - 1))] [] μ := by
  intro m
  induction m with
  | zero =>
    intro _ h1
    refine B_Pa_nextRow_2 (hR.o rfl (by omega)) (hR.r 493 3 497 rfl) ?_
    rw [w_lt (by omega) (by omega) (by omega) (by omega)]
    refine ⟨fun _ => ⟨fun _ => hN ?_, fun q => absurd (by omega) q⟩, fun q => absurd (by omega) q⟩
    have d0 : ¬ g 0 < g 1 := h1 0 (by omega) (by omega)
    have d1 : ¬ g 1 < g 2 := h1 1 (by omega) (by omega)
    have d2 : ¬ g 2 < g 3 := h1 2 (by omega) (by omega)
    have d3 : ¬ g 3 < g 4 := h1 3 (by omega) (by omega)
    have d4 : ¬ g 4 < g 5 := h1 4 (by omega) (by omega)
    exact nxl_dn _ (by unfold lst; simp; omega)
  | succ k ih =>
    intro k5 h1
    refine B_Pa_nextRow_2 (hR.o rfl (by omega)) (hR.r 493 3 497 rfl) ?_
    have gk := hg k (by omega)
    have gq := hg (k + 1) (by omega)
    have e1 : (w ((k : Int) + 1)).toNatClampNeg = k + 1 := by rw [w_cl (by omega) (by omega)]; omega
    rw [show ((k + 1 : Nat) : Int) - 1 = (k : Int) by omega, w_lt (by omega) (by omega) (by omega) (by omega), w_cln (by omega)]
    simp only [w_add]
    rw [e1, gk.1, gq.1, w_lt (by omega) (by omega) (by omega) (by omega)]
    refine ⟨fun q => absurd q (by omega), fun _ => ⟨in497 hR (by omega) (by omega), in497 hR (by omega) (by omega), fun q => ⟨fun q2 => absurd q2 (by omega), fun _ => ?_⟩, fun q => ?_⟩⟩
    · exact next_37 (by omega) (fun v hv => h1 v (by omega)) (by omega) hR hg hQ (4 - k) 5 (by omega) (by omega) (fun v hv hv5 => absurd hv (by omega))
    · rw [show (k : Int) + -1 = (k : Int) - 1 by omega]
      refine ih (by omega) (fun v hv hv5 => ?_)
      by_cases e : v = k
      · subst e; omega
      · exact h1 v (by omega) hv5
theorem C_nextRow7 (hd : 2 ≤ d) (hR : RF μ) (hg : RG μ g) : Call Γ m_Pa_nextRow d [.ref 493] μ (KI (fun r μ' => fof hc7 μ μ' ∧ ((∃ g', nxl (lst g) = some (lst g') ∧ r = w 1 ∧ RG μ' g') ∨ (nxl (lst g) = none ∧ r = w 0 ∧ RG μ' g)))) := by
  obtain ⟨d, rfl⟩ : ∃ e, d = e + 2 := ⟨d - 2, by omega⟩
  refine Call.of ok_Pa_nextRow (Nat.le_of_ble_eq_true rfl) (B_Pa_nextRow_0 ?_)
  exact next_2 hR hg (fun μ' g' g1 g2 g3 => ⟨_, rfl, g1, Or.inl ⟨g', g3, rfl, g2⟩⟩) (fun h => ⟨_, rfl, fof.rf _ _, Or.inr ⟨h, rfl, hg⟩⟩) 5 (by omega) (fun q h1 h2 => absurd h1 (by omega))
theorem C_nextRow (hd : 2 ≤ d) (hR : RF μ) (hg : RG μ g) : Call Γ m_Pa_nextRow d [.ref 493] μ (KI (fun r μ' => fof hcr μ μ' ∧ ((∃ g', nxl (lst g) = some (lst g') ∧ r = w 1 ∧ RG μ' g') ∨ (nxl (lst g) = none ∧ r = w 0 ∧ RG μ' g)))) :=
  (C_nextRow7 hd hR hg).conseq (KI.mono (fun r μ' h => ⟨h.1.wide (fun c e => Or.inl e), h.2⟩))
end PX
