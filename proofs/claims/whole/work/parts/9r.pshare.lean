/-! WHAT ALL HISTORIES SHARE, in the class -/
/-- the bits so far: none yet, or those places where all rows are as row a -/
def BS (μ : XM) (B : Int32) (o : Option (List Nat × (Nat → Bool))) : Prop := match o with
  | none => B = w (-1)
  | some p => B = btw p.2 6 ∧ ∃ ga, p.1 = lst ga ∧ RW μ 498 (fun j => (ga j : Int))
def sfo (o : Option (List Nat × (Nat → Bool))) (F : List (List Nat)) : Int32 := match o with
  | none => sf0 F
  | some p => sf1 p.1 F p.2
section PQ
variable {Γ : XG} {d h n c : Nat} {fd : Nat → Nat → Int} {g : Nat → Nat} {μ : XM} {Q : Option Value → XM → Prop} {ru : Nat → Int} {ki : Nat → Nat → Int}
theorem sfo_nil {B : Int32} {o : Option (List Nat × (Nat → Bool))} (h : BS μ B o) : B = sfo o [] := by
  cases o with
  | none => exact h
  | some p => exact h.1
theorem BS.k {μ' : XM} {B : Int32} {o : Option (List Nat × (Nat → Bool))} (h : BS μ B o) (ho : fof hc7 μ μ') : BS μ' B o := by
  cases o with
  | none => exact h
  | some p =>
    obtain ⟨h1, ga, h2, h3⟩ := h
    exact ⟨h1, ga, h2, fun i hi => by rw [ho.1 498 (by unfold hc7; omega)]; exact h3 i hi⟩
theorem hc7_h (c : Nat) (h : hc7 c) : hcr c := Or.inl h
/-- one row is looked at -/
theorem share_1 (hR : RF μ) (hD : FD μ c fd) {B : Int32} {o : Option (List Nat × (Nat → Bool))} (hg : RG μ g) (hB : BS μ B o) {F : List (List Nat)} {t : Nat} (ht : t < 720)
    (hf : ∀ μ' B' o', fof hcr μ μ' → RG μ' g → BS μ' B' o' → (sfo o' (F.filter (fts (fib fd c) 0)) = sfo o ((lst g :: F).filter (fts (fib fd c) 0))) → Call Γ m_Pa_nextRow (d + 3) [.ref 493] μ' (KI (fun v3 μ3 => G Γ m_FB_share (d + 4) (0, 0) Q 34 [.ref 32, jk, .int B', .int v3, .int (w t + w 1)] [] μ3))) :
    G Γ m_FB_share (d + 4) (0, 0) Q 34 [.ref 32, jk, .int B, .int (w 1), .int (w t)] [] μ := by
  refine B_FB_share_34 hR.ob (hR.r 32 15 493 rfl) (hR.o rfl (by omega)) ?_
  rw [w_lt (by omega) (by omega) (by omega) (by omega)]
  refine ⟨fun _ => ⟨fun q => absurd q (by decide), fun _ => ?_⟩, fun q => absurd (by omega) q⟩
  refine (C_fitsAll (by omega) hR hD hg.rw).conseq (KI.mono ?_)
  rintro r μ2 ⟨rfl, ⟨h1, rfl⟩ | ⟨h1, rfl⟩⟩
  · have hf' := (fit_fts hD).mp h1
    rw [List.filter_cons, if_pos hf'] at hf
    refine ⟨fun q => absurd q (by decide), fun _ => ⟨fun q => ⟨hR.r 32 15 493 rfl, ?_⟩, fun q => ⟨hR.r 32 15 493 rfl, ?_⟩⟩⟩
    · cases o with
      | some p => exact absurd (hB.1.symm.trans q) (btw_ne p.2)
      | none =>
        refine (C_keepRow (by omega) hR hg.rw).conseq (KI.mono ?_)
        rintro r μ9 ⟨o9, h9, rfl⟩
        have g9 : fof hcr μ2 μ9 := o9.fof (fun c c1 c2 => by unfold hcr; omega)
        have R9 := hR.of g9.2.2.1 g9.2.2.2
        refine ⟨R9.r 32 15 493 rfl, hf μ9 (w 63) (some (lst g, fun _ => true)) g9 (fun j hj => ?_) ⟨btw_63.symm, g, rfl, h9⟩ rfl⟩
        rw [(o9.fof (P := fun c => c = 498) (fun c c1 c2 => by omega)).1 497 (by omega)]
        exact hg j hj
    · cases o with
      | none => exact absurd hB q
      | some p =>
        obtain ⟨hb, ga, hp, hk⟩ := hB
        refine (C_likeKept (by omega) hR hg.rw hk).conseq (KI.mono ?_)
        rintro r μ5 ⟨rfl, rfl⟩
        refine ⟨hR.r 32 15 493 rfl, hf _ _ (some (p.1, fun j => p.2 j && decide ((lst g).getD j 0 = p.1.getD j 0))) (fof.rf _ _) hg ⟨?_, ga, hp, hk⟩ rfl⟩
        rw [hb, btw_and]
        refine btw_cg 6 (fun j hj => ?_)
        show (p.2 j && decide ((g j : Int) = (ga j : Int))) = (p.2 j && decide ((lst g).getD j 0 = p.1.getD j 0))
        rw [hp, lst_get hj, lst_get hj]
        congr 1
        rw [decide_eq_decide]
        omega
  · have hf' : ¬ fts (fib fd c) 0 (lst g) = true := fun z => h1 ((fit_fts hD).mpr z)
    rw [List.filter_cons, if_neg hf'] at hf
    exact ⟨fun _ => ⟨hR.r 32 15 493 rfl, hf _ B o (fof.rf _ _) hg hB rfl⟩, fun q => absurd rfl q⟩
theorem share_34 (hR : RF μ) (hD : FD μ c fd) : ∀ (X : List (List Nat)) (t : Nat) (B : Int32) (o : Option (List Nat × (Nat → Bool))) (a : List Nat) (g : Nat → Nat) (μ1 : XM), t + (X.length + 1) ≤ 720 → cnx a X → chn X → fof hcr μ μ1 → RG μ1 g → BS μ1 B o → a = lst g → (∀ μ', fof hcr μ μ' → Q (some (.int (sfo o ((a :: X).filter (fts (fib fd c) 0))))) μ') → G Γ m_FB_share (d + 4) (0, 0) Q 34 [.ref 32, jk, .int B, .int (w 1), .int (w t)] [] μ1 := by
  have fin : ∀ (t : Nat) (B : Int32) (o : Option (List Nat × (Nat → Bool))) (μ1 : XM), t ≤ 720 → fof hcr μ μ1 → BS μ1 B o → Q (some (.int (sfo o []))) μ1 → G Γ m_FB_share (d + 4) (0, 0) Q 34 [.ref 32, jk, .int B, .int (w 0), .int (w t)] [] μ1 := fun t B o μ1 h2 ho hB hQ => by
    have R1 := hR.of ho.2.2.1 ho.2.2.2
    rw [← sfo_nil hB] at hQ
    refine B_FB_share_34 R1.ob (R1.r 32 15 493 rfl) (R1.o rfl (by omega)) ?_
    exact ⟨fun _ => ⟨fun _ => hQ, fun q => absurd rfl q⟩, fun _ => hQ⟩
  intro X
  induction X with
  | nil =>
    intro t B o a g μ1 ht hx _ ho hg hB ea hQ
    subst ea
    have R1 := hR.of ho.2.2.1 ho.2.2.2
    have D1 : FD μ1 c fd := hD.fof ho (fun c c1 c2 => by unfold hcr; omega)
    have ht' : t + 1 ≤ 720 := ht
    refine share_1 (F := []) R1 D1 hg hB (by omega) (fun μ' B' o' g1 g2 g3 g4 => ?_)
    refine (C_nextRow7 (by omega) (R1.of g1.2.2.1 g1.2.2.2) g2).conseq (KI.mono ?_)
    have hx' : nxl (lst g) = none := hx
    rintro r μ3 ⟨o3, ⟨g', e, -⟩ | ⟨e, rfl, hg3⟩⟩
    · rw [hx'] at e
      exact nomatch e
    · have oo := ho.trans (g1.trans (o3.wide hc7_h))
      have := hQ μ3 oo
      rw [← g4] at this
      rw [w_add]
      exact fin (t + 1) B' o' μ3 ht' oo (g3.k o3) this
  | cons b X ih =>
    intro t B o a g μ1 ht hx hc ho hg hB ea hQ
    subst ea
    have R1 := hR.of ho.2.2.1 ho.2.2.2
    have D1 : FD μ1 c fd := hD.fof ho (fun c c1 c2 => by unfold hcr; omega)
    have hl : (b :: X).length = X.length + 1 := List.length_cons
    refine share_1 (F := b :: X) R1 D1 hg hB (by omega) (fun μ' B' o' g1 g2 g3 g4 => ?_)
    refine (C_nextRow7 (by omega) (R1.of g1.2.2.1 g1.2.2.2) g2).conseq (KI.mono ?_)
    have hx' : nxl (lst g) = some b := hx
    rintro r μ3 ⟨o3, ⟨g', e, rfl, hg3⟩ | ⟨e, -⟩⟩
    · rw [hx'] at e
      have e' : b = lst g' := Option.some.inj e
      have oo := ho.trans (g1.trans (o3.wide hc7_h))
      rw [w_add]
      exact ih (t + 1) B' o' b g' μ3 (by omega) hc.1 hc.2 oo hg3 (g3.k o3) e' (fun μ'' k1 => by rw [g4]; exact hQ μ'' k1)
    · rw [hx'] at e
      exact nomatch e
theorem C_shareF (hd : 5 ≤ d) (hR : RF μ) (hH : HO μ h n ru ki) (hD : FD μ c fd) {z : Int} (z1 : -2147483648 ≤ z) (z2 : z < 2147483648) : Call Γ m_FB_share d [.ref 32, .int (w z)] μ (KI (fun r μ' => fof hcr μ μ' ∧ r = @ite _ (0 < n ∧ 0 ≤ z ∧ HC n z.toNat) (Classical.propDecidable _) (sf0 ((prm n 6 (hcn z.toNat)).filter (fts (fib fd c) 0))) (w (-1)))) := by
  obtain ⟨d, rfl⟩ : ∃ e, d = e + 5 := ⟨d - 5, by omega⟩
  have hn := hH.2.2.1
  refine Call.of ok_FB_share (Nat.le_of_ble_eq_true rfl) (B_FB_share_0 hR.ob ?_)
  refine (C_hasHouse (by omega) hR hH).conseq (KI.mono ?_)
  rintro r μ1 ⟨rfl, ⟨g1, rfl⟩ | ⟨g1, rfl⟩⟩
  · refine ⟨fun q => absurd q (by decide), fun _ => ⟨493, hR.r 32 15 493 rfl, h, hH.2.1, hH.1.ob, hR.o rfl (by omega), ?_⟩⟩
    rw [hH.2.2.2.1]
    refine (C_startRows (by omega) hR hn z1 z2).conseq (KI.mono ?_)
    rintro r μ2 ⟨o2, ⟨⟨hz, hc⟩, rfl, g, hg, he⟩ | ⟨hc, rfl⟩⟩
    · refine ⟨fun q => absurd q (by decide), fun _ => ?_⟩
      have R2 := hR.of o2.2.2.1 o2.2.2.2
      have D2 : FD μ2 c fd := hD.fof o2 (fun c c1 c2 => by unfold hcr; omega)
      have ht : tot (hcn z.toNat) n = 6 := by rw [← tot_ext 6 hn (fun v h1 h2 => hc.2.1 v h1 h2)]; exact hc.2.2
      obtain ⟨p1, p2, p3⟩ := prm_chn n 6 (hcn z.toNat) ht
      have pl := prm_len 6 (hcn z.toNat) ht
      rw [if_pos (show 0 < n ∧ 0 ≤ z ∧ HC n z.toNat from ⟨g1, hz, hc⟩)]
      cases e : prm n 6 (hcn z.toNat) with
      | nil => exact absurd e p1
      | cons b L =>
        rw [e] at p2 pl he
        have e' : b = lst g := Option.some.inj he
        have pl' : L.length + 1 ≤ 720 := pl
        exact share_34 R2 D2 L 0 (w (-1)) none b g μ2 (by omega) p2.1 p2.2 (fof.rf _ _) hg rfl e' (fun μ' g1 => ⟨_, rfl, o2.trans g1, rfl⟩)
    · exact ⟨fun _ => ⟨_, rfl, o2, by rw [if_neg (fun x => hc ⟨x.2.1, x.2.2⟩)]⟩, fun q => absurd rfl q⟩
  · exact ⟨fun _ => ⟨_, rfl, fof.rf _ _, by rw [if_neg (by omega)]⟩, fun q => absurd rfl q⟩
end PQ
