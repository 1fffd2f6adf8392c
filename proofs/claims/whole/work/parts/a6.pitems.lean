/-! ITEMS, in the class -/
theorem stl : ∀ S, S < 3 → ∀ k, k < hln S → sT (5 + 3 * S) k = some (hls S k) ∧ sT (6 + 3 * S) k = some (hms S k) ∧ sT S k = some (hus S k) := by decide
theorem shl : ∀ S, S < 3 → shp (4 + 3 * S) = some (.inr (3, hln S)) ∧ shp (5 + 3 * S) = some (.inr (0, hln S)) ∧ shp (6 + 3 * S) = some (.inr (0, hln S)) ∧ shp S = some (.inr (0, hln S)) := by decide
theorem ltl : ∀ S, S < 3 → (4 + 3 * S = 3 ∧ hln S = 6 ∨ 4 + 3 * S = 4 ∧ hln S = 4 ∨ 4 + 3 * S = 7 ∧ hln S = 5 ∨ 4 + 3 * S = 10 ∧ hln S = 4 ∨ 4 + 3 * S = 13 ∧ hln S = 5) := by decide
theorem ltS {S : Nat} (hS : S < 3) (c : Int) : sch (fun j => decide (ltr (4 + 3 * S) j = c)) (hln S) 0 = spt (S + 2) c := by
  unfold spt
  rw [hln_s S hS]
  refine sch_cg (hln S) 0 (fun j h1 h2 => ?_)
  have : ∀ S, S < 3 → ∀ j, j < hln S → ltr (4 + 3 * S) j = (sS (S + 2)).getD j 0 := by decide
  rw [this S hS j (by omega)]
theorem TP_ar {μ : XM} {n q c k : Nat} {tb : Nat → Nat} {v : Int32} (h : TP μ n tb q) (hc : 35 ≤ c) : TP (sI μ c k v) n tb q := by
  obtain ⟨a1, a2, a3, a4, a5, a6, a7⟩ := h
  exact ⟨by rw [xR_sI]; exact a1, a2, by rw [xI_sI, if_neg (by omega)]; exact a3, a4, fun j hj => by rw [xI_sI, if_neg (by omega)]; exact a5 j hj, by rw [xI_sI, if_neg (by omega)]; exact a6, a7⟩
def c3a (a c : Nat) : Prop := c = 33 ∨ c = a
/-- how the reading of items ends -/
def IRF (μ μ' : XM) (n : Nat) (tb : Nat → Nat) (a S : Nat) (r : Nat ⊕ (Nat × (Nat → Int))) (x : Int32) : Prop := fof (c3a a) μ μ' ∧ xI μ' 33 1 = xI μ 33 1 ∧ match r with
  | .inl q => x = w 0 ∧ xI μ' 33 3 = w q
  | .inr u => x = w 1 ∧ TP μ' n tb u.1 ∧ ∀ k, k < hln S → xI μ' a k = w (u.2 k)
section HRP
variable {Γ : XG} {d n p a S len : Nat} {tb : Nat → Nat} {μ : XM} {Q : Option Value → XM → Prop}
theorem f3a (μ : XM) (k : Nat) (v : Int32) : fof (c3a a) μ (sI μ 33 k v) := fof.sI (P := c3a a) μ k v (Or.inl rfl)
theorem itemsF_6 (hd : 2 ≤ d) (hS : S < 3) (sa : shp a = some (.inr (0, len))) (ol : hln S ≤ len) (ha : 35 ≤ a ∧ a < 65) : ∀ (f t : Nat) (sn : Nat → Bool) (p : Nat) (v : Nat → Int) (x6 : Int32) (μ1 : XM), t + f = 6 → cnS sn (hln S) = t → IBP x6 (fun i => sn i = true) → fof (c3a a) μ μ1 → xI μ1 33 1 = xI μ 33 1 → (∀ k, k < hln S → xI μ1 a k = w (v k)) → TP μ1 n tb p → ST μ1 →
    (∀ x μ', IRF μ μ' n tb a S (itF tb n S f p sn v) x → Q (some (.int x)) μ') → G Γ m_Ho_readItems (d + 1) (0, 0) Q 6 [jk, .ref 33, .ref (4 + 3 * S), .ref (5 + 3 * S), .ref (6 + 3 * S), .ref a, .int x6, .int (w (t : Int))] [] μ1 := by
  have hh := hln_b S
  obtain ⟨sl1, sl2, sl3, -⟩ := shl S hS
  intro f
  induction f with
  | zero =>
    intro t sn p v x5 μ1 ht hc
    have := cnS_le sn (hln S)
    omega
  | succ f ih =>
    intro t sn p v x5 μ1 ht hc hx ho x1 hv h hT hQ
    have hn := h.2.2.2.1
    have hp := h.2.2.2.2.2.2
    have hN := h.2.1
    have hcn := cnS_le sn (hln S)
    have hsb := sptS hS (lk tb n p)
    have hb := lk_bd (n := n) (p := p) (fun j hj => (h.2.2.2.2.1 j hj).2)
    have hsk := sk_le tb hp
    refine B_Ho_readItems_6 h.ob ⟨hln S, ar_of sl1 (by omega) hN, ?_⟩
    rw [w_lt (by omega) (by omega) (by omega) (by omega)]
    refine ⟨fun z => absurd z (by omega), fun _ => ?_⟩
    refine (C_ahead (by omega) h).conseq (KI.mono ?_)
    rintro r μ2 ⟨rfl, rfl⟩
    have h2 : TP (sI μ1 33 2 (w (sk tb n p))) n tb (sk tb n p) := h.mv hsk.2
    have o2 := ho.trans (f3a (a := a) μ1 2 (w (sk tb n p)))
    have x2 : xI (sI μ1 33 2 (w (sk tb n p))) 33 1 = xI μ 33 1 := e33 x1 (by omega)
    have hT2 := hT.fof (f3a (a := a) μ1 2 (w (sk tb n p))) (fun c hc => by unfold c3a; omega)
    have v2 : ∀ k, xI (sI μ1 33 2 (w (sk tb n p))) a k = xI μ1 a k := fun k => by rw [xI_sI, if_neg (by omega)]
    generalize sI μ1 33 2 (w (sk tb n p)) = μ2 at *
    have hL := ltr_ok hT2 (ltl S hS)
    refine (C_placeAmong (by omega) hL.1 (by omega) h2.2.1 (by omega) hL.2 (by omega) (by omega)).conseq (KI.mono ?_)
    rw [ltS hS]
    rintro r μ3 ⟨rfl, rfl⟩
    rw [w_inj (b := -1) (by omega) (by omega) (by omega) (by omega)]
    refine ⟨fun q => ?_, fun q => ?_⟩
    · rw [itF_e q] at hQ
      exact hQ _ _ ⟨o2, x2, rfl, h2, fun k hk => by rw [v2]; exact hv k hk⟩
    have hlt : sk tb n p < n := lk_lt rfl (sptS_0 hS q hb.1)
    have hnb := nb_bd hlt
    obtain ⟨k, ek⟩ : ∃ k : Nat, spt (S + 2) (lk tb n p) = k := ⟨(spt (S + 2) (lk tb n p)).toNat, by omega⟩
    have ekn : (spt (S + 2) (lk tb n p)).toNat = k := by omega
    rw [ek]
    refine ⟨fun hg => ?_, fun hg => ?_⟩
    · have hs : sn k = true := (hx.has (by omega)).mp (hsb_t hg)
      rw [itF_s q (by rw [ekn]; exact hs)] at hQ
      refine (C_refuse (by omega) h2).conseq (KI.mono ?_)
      rintro r μ4 ⟨rfl, rfl⟩
      exact ⟨Or.inl rfl, hQ _ _ ⟨o2.trans (f3a _ _ _), e33 x2 (by omega), rfl, by rw [xI_sI, if_pos ⟨rfl, rfl⟩]⟩⟩
    have hs : ¬ sn k = true := fun z => hsb_f hg ((hx.has (by omega)).mpr z)
    refine (C_pass (by omega) h2).conseq (KV.mono ?_)
    rintro μ4 rfl
    have h4 : TP (sI μ3 33 2 (w ((sk tb n p + 1 : Nat) : Int))) n tb (sk tb n p + 1) := h2.mv (by omega)
    have o4 := o2.trans (f3a (a := a) μ3 2 (w ((sk tb n p + 1 : Nat) : Int)))
    have x4 : xI (sI μ3 33 2 (w ((sk tb n p + 1 : Nat) : Int))) 33 1 = xI μ 33 1 := e33 x2 (by omega)
    have hT4 := hT2.fof (f3a (a := a) μ3 2 (w ((sk tb n p + 1 : Nat) : Int))) (fun c hc => by unfold c3a; omega)
    have v4 : ∀ k, xI (sI μ3 33 2 (w ((sk tb n p + 1 : Nat) : Int))) a k = xI μ1 a k := fun k => by rw [xI_sI, if_neg (by omega), v2]
    generalize sI μ3 33 2 (w ((sk tb n p + 1 : Nat) : Int)) = μ4 at *
    have enb : nm tb n 2 (sk tb n p + 1) = nb tb n p := rfl
    refine (C_number (by omega) (m := 2) (by omega) h4).conseq (KI.mono ?_)
    rw [enb]
    rintro v5 μ5 (⟨g1, rfl, rfl⟩ | ⟨g1, rfl, rfl⟩)
    · rw [itF_n q (by rw [ekn]; exact hs) g1] at hQ
      refine ⟨fun _ => hQ _ _ ⟨(o4.trans (f3a _ _ _)).trans (f3a _ _ _), e33 (e33 x4 (by omega)) (by omega), rfl, by rw [xI_sI, if_pos ⟨rfl, rfl⟩]⟩, fun z => absurd rfl z⟩
    have h5 : TP (sI μ4 33 2 (w ((nb tb n p).1 : Nat))) n tb (nb tb n p).1 := h4.mv hnb.2.1
    have o5 := o4.trans (f3a (a := a) μ4 2 (w ((nb tb n p).1 : Nat)))
    have x5' : xI (sI μ4 33 2 (w ((nb tb n p).1 : Nat))) 33 1 = xI μ 33 1 := e33 x4 (by omega)
    have hT5 := hT4.fof (f3a (a := a) μ4 2 (w ((nb tb n p).1 : Nat))) (fun c hc => by unfold c3a; omega)
    have v5 : ∀ k, xI (sI μ4 33 2 (w ((nb tb n p).1 : Nat))) a k = xI μ1 a k := fun k => by rw [xI_sI, if_neg (by omega), v4]
    generalize sI μ4 33 2 (w ((nb tb n p).1 : Nat)) = μ5 at *
    obtain ⟨z1, z2, -⟩ := stl S hS k (by omega)
    have hlm := hls_b S hS k (by omega)
    have hN5 := h5.2.1
    rw [w_inj (b := -1) (by omega) (by omega) (by omega) (by omega), w_cln (by omega), hT5 _ _ _ z1, w_lt (by omega) (by omega) (by omega) (by omega)]
    refine ⟨fun z => absurd z (by omega), fun _ => ⟨inb_of sl2 (by omega) hN5 (by omega) (by omega), ?_⟩⟩
    have fin : ((nb tb n p).2.1 : Int) < hls S k ∨ hms S k < ((nb tb n p).2.1 : Int) → Call Γ m_Ta_refuseLast d [.ref 33] μ5 (KI (fun v7 μ7 => ((v7 = w 0 ∨ v7 = w 1) ∧ Q (some (.int v7)) μ7))) := by
      intro g2
      rw [itF_r q (by rw [ekn]; exact hs) g1 (by rw [ekn]; exact g2)] at hQ
      refine (C_refuseLast (by omega) h5).conseq (KI.mono ?_)
      rintro r μ7 ⟨rfl, rfl⟩
      refine ⟨Or.inl rfl, hQ _ _ ⟨o5.trans (f3a _ _ _), e33 x5' (by omega), rfl, ?_⟩⟩
      rw [xI_sI, if_pos ⟨rfl, rfl⟩]
      congr 1
      omega
    refine ⟨fun z => fin (Or.inl z), fun y1 => ⟨inb_of sl3 (by omega) hN5 (by omega) (by omega), ?_⟩⟩
    rw [hT5 _ _ _ z2, w_lt (by omega) (by omega) (by omega) (by omega)]
    refine ⟨fun z => fin (Or.inr z), fun y2 => ⟨inS_of sa (by omega) hN5 (by omega) (by omega) (by omega), ?_⟩⟩
    clear fin
    rintro μ10 rfl
    have g2 : ¬ (((nb tb n p).2.1 : Int) < hls S k ∨ hms S k < ((nb tb n p).2.1 : Int)) := fun z => z.elim y1 y2
    rw [itF_g q (by rw [ekn]; exact hs) g1 (by rw [ekn]; exact g2), ekn] at hQ
    rw [w_add, show (t : Int) + 1 = ((t + 1 : Nat) : Int) by omega]
    refine ih (t + 1) (upb sn k) (nb tb n p).1 _ _ _ (by omega) ?_ ?_ (o5.trans (fof.sI (P := c3a a) _ _ _ (Or.inr rfl))) (e33 x5' (by omega)) (fun j hj => ?_) (TP_ar h5 (by omega)) (hT5.fof (fof.sI (P := c3a a) _ _ _ (Or.inr rfl)) (fun c hc => by unfold c3a; omega)) hQ
    · rw [cnS_up hs, if_pos (by omega), hc]
    · have := hx.or (i := k) (by omega)
      unfold bit1 at this
      refine this.cg (fun i _ => ?_)
      show (sn i = true ∨ i = k) ↔ (if i = k then true else sn i) = true
      by_cases e : i = k
      · rw [if_pos e]; exact ⟨fun _ => rfl, fun _ => Or.inr e⟩
      · rw [if_neg e]; exact ⟨fun z => z.resolve_right e, Or.inl⟩
    · rw [xI_sI]
      unfold upv
      by_cases e : j = k
      · rw [if_pos ⟨rfl, e⟩, if_pos e]
      · rw [if_neg (fun z => e z.2), if_neg e, v5]
        exact hv j hj
theorem C_readItemsF (hd : 3 ≤ d) (hS : S < 3) (sa : shp a = some (.inr (0, len))) (ol : hln S ≤ len) (ha : 35 ≤ a ∧ a < 65) {h0 : Nat} {v : Nat → Int} (hv : ∀ k, k < hln S → xI μ a k = w (v k)) (h : TP μ n tb p) (hT : ST μ) : Call Γ m_Ho_readItems d [.ref h0, .ref 33, .ref (4 + 3 * S), .ref (5 + 3 * S), .ref (6 + 3 * S), .ref a] μ (KI (fun r μ' => IRF μ μ' n tb a S (itF tb n S 6 p (fun _ => false) v) r)) := by
  obtain ⟨d, rfl⟩ : ∃ e, d = e + 1 := ⟨d - 1, by omega⟩
  refine Call.of ok_Ho_readItems (Nat.le_of_ble_eq_true rfl) (B_Ho_readItems_0 ?_)
  exact itemsF_6 (μ := μ) (by omega) hS sa ol ha 6 0 _ p v (w 0) μ (by omega) (cnS_0 _) (IBP.zero.cg (fun i _ => ⟨fun z => z.elim, fun z => Bool.noConfusion z⟩)) (fof.rf _ _) rfl hv h hT (fun x μ' g => ⟨_, rfl, g⟩)
end HRP
