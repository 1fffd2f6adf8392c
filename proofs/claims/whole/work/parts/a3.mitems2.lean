/-! ITEMS, in the reference -/
def rif (a c j : Nat) : Prop := rdf c j ∨ c = a
def RI (a o S : Nat) : Prop := (a = 553 ∧ o = 0 ∧ S = 0) ∨ (a = 555 ∧ o ≤ 25 ∧ S = 1) ∨ (a = 556 ∧ o ≤ 28 ∧ S = 2)
theorem RI.s {a o S : Nat} (h : RI a o S) : (∃ len, shp a = some (.inr (0, len)) ∧ o + hln S ≤ len ∧ len < 40) ∧ S < 3 ∧ (a = 553 ∨ a = 555 ∨ a = 556) := by
  unfold RI at h
  rcases h with ⟨rfl, rfl, rfl⟩ | ⟨rfl, h, rfl⟩ | ⟨rfl, h, rfl⟩
  · exact ⟨⟨4, rfl, by decide, by omega⟩, by omega, by omega⟩
  · exact ⟨⟨30, rfl, by show o + 5 ≤ 30; omega, by omega⟩, by omega, by omega⟩
  · exact ⟨⟨32, rfl, by show o + 4 ≤ 32; omega, by omega⟩, by omega, by omega⟩
theorem RT.ar {μ : XM} {n : Nat} {tb : Nat → Nat} {p a : Nat} (h : RT μ n tb p) (ha : a = 553 ∨ a = 555 ∨ a = 556) (k : Nat) (v : Int32) : RT (sI μ a k v) n tb p := h.frm (F := fun c _ => c = a) (fr.sI (F := fun c _ => c = a) (a := a) (k := k) μ v rfl) (fun k v e => by omega) (fun c j hc => by omega) (fun j => by omega) (fun j hj => by omega)
/-- how the reading of items ends -/
def IRD (μ μ' : XM) (n : Nat) (tb : Nat → Nat) (a o S : Nat) (r : Nat ⊕ (Nat × (Nat → Int))) : Prop := fr (rif a) μ μ' ∧ (∀ j, (j < o ∨ o + hln S ≤ j) → xI μ' a j = xI μ a j) ∧ match r with
  | .inl q => xI μ' 547 11 = w q
  | .inr u => xI μ' 547 11 = w (-1) ∧ RT μ' n tb u.1 ∧ ∀ k, k < hln S → xI μ' a (o + k) = w (u.2 k)
theorem ri_d {a c j : Nat} (h : rdf c j) : rif a c j := Or.inl h
section HRN
variable {Γ : XG} {d n p a o S : Nat} {tb : Nat → Nat} {μ : XM} {Q : Option Value → XM → Prop}
theorem items_45 (hf : FM Γ) (hd : 5 ≤ d) (hI : RI a o S) : ∀ (f t : Nat) (sn : Nat → Bool) (p : Nat) (v : Nat → Int) (x5 : Int32) (μ1 : XM), t + f = 6 → cnS sn (hln S) = t → IBP x5 (fun i => sn i = true) → p ≤ n → fr (rif a) μ μ1 → (∀ j, (j < o ∨ o + hln S ≤ j) → xI μ1 a j = xI μ a j) → (∀ k, k < hln S → xI μ1 a (o + k) = w (v k)) → RT μ1 n tb (sk tb n p) → xI μ1 547 11 = w (-1) →
    (∀ μ', IRD μ μ' n tb a o S (itF tb n S f p sn v) → Q none μ') → G Γ m_MO_readItems (d + 1) (0, 0) Q 45 [.ref 547, .int (w (hch S)), .ref a, .int (w (o : Int)), .ref (14 + (S + 2)), .int x5, .int (w (spt (S + 2) (lk tb n p)))] [] μ1 := by
  obtain ⟨⟨len, sa, ol, ll⟩, hS, ha⟩ := hI.s
  have hh := hln_b S
  intro f
  induction f with
  | zero =>
    intro t sn p v x5 μ1 ht hc
    have := cnS_le sn (hln S)
    omega
  | succ f ih =>
    intro t sn p v x5 μ1 ht hc hx hp ho u1 hv h h11 hQ
    have hn := h.n2
    have hsb := sptS hS (lk tb n p)
    have hb := lk_bd (n := n) (p := p) (fun j hj => (h.b hj).2.2)
    have hsk := sk_le tb hp
    refine B_MO_readItems_45 h.1.o ?_
    rw [w_inj (b := -1) (by omega) (by omega) (by omega) (by omega)]
    refine ⟨fun q => ?_, fun q => ⟨fun _ => ?_, fun z => absurd h11 z⟩⟩
    · rw [itF_e q] at hQ
      exact hQ _ ⟨ho, u1, h11, h, hv⟩
    have hlt : sk tb n p < n := lk_lt rfl (sptS_0 hS q hb.1)
    have hnb := nb_bd hlt
    obtain ⟨k, ek⟩ : ∃ k : Nat, spt (S + 2) (lk tb n p) = k := ⟨(spt (S + 2) (lk tb n p)).toNat, by omega⟩
    have ekn : (spt (S + 2) (lk tb n p)).toNat = k := by omega
    rw [ek]
    refine (C_has (by omega)).conseq (KI.mono ?_)
    rintro r μ2 ⟨rfl, ⟨hg, rfl⟩ | ⟨hg, rfl⟩⟩
    · refine ⟨fun z => absurd z (by decide), fun _ => ?_⟩
      have hs : sn k = true := (hx.has (by omega)).mp hg
      refine (C_failsR (by omega) h h11).conseq (KI.mono ?_)
      rintro r μ3 ⟨rfl, o3, f3, h3⟩
      rw [itF_s q (by rw [ekn]; exact hs)] at hQ
      exact hQ _ ⟨ho.trans (o3.wide (fun _ _ => ri_d)), fun j hj => by rw [(o3.1 a j (by unfold rdf; omega)).1]; exact u1 j hj, f3⟩
    · refine ⟨fun _ => ?_, fun z => absurd rfl z⟩
      have hs : ¬ sn k = true := fun z => hg ((hx.has (by omega)).mpr z)
      rintro μ3 rfl
      rw [h.2.2.2.2.2.2.1, w_add, show ((sk tb n p : Nat) : Int) + 1 = ((sk tb n p + 1 : Nat) : Int) by omega]
      have hT := h.mv (q := sk tb n p + 1) (by omega)
      have f3 : xI (sI μ2 547 10 (w ((sk tb n p + 1 : Nat) : Int))) 547 11 = w (-1) := by rw [xI_sI, if_neg (by omega)]; exact h11
      have o3 := ho.trans (hT.2.wide (fun _ _ => ri_d))
      have v3 : ∀ j, xI (sI μ2 547 10 (w ((sk tb n p + 1 : Nat) : Int))) a j = xI μ2 a j := fun j => by rw [xI_sI, if_neg (by omega)]
      have h3 := hT.1
      clear hT
      generalize sI μ2 547 10 (w ((sk tb n p + 1 : Nat) : Int)) = μ3 at *
      have hbd := hls_b S hS k (by omega)
      refine (C_leastOf (by omega) hS (k := k) (by omega)).conseq (KI.mono ?_)
      rintro r μ4 ⟨rfl, rfl⟩
      refine (C_mostOf (by omega) hS (k := k) (by omega)).conseq (KI.mono ?_)
      rintro r μ5 ⟨rfl, rfl⟩
      refine (C_numberR (by omega) h3 f3 (x := hls S k) (y := hms S k) (by omega) (by omega) (by omega) (by omega)).conseq (KI.mono ?_)
      have enb : nm tb n 2 (sk tb n p + 1) = nb tb n p := rfl
      rw [enb, w_add, w_cl (by omega) (by omega), show ((o : Int) + k).toNat = o + k by omega]
      rintro v6 μ6 ⟨o6, r6⟩
      have h6N : 574 ≤ xN μ6 := by rw [o6.2]; exact h3.1.1
      have v6' : ∀ j, xI μ6 a j = xI μ2 a j := fun j => by rw [(o6.1 a j (by unfold rdf; omega)).1, v3]
      refine ⟨inS_of sa (by omega) h6N (by omega) (by omega) (by omega), ?_⟩
      rintro μ7 rfl
      have o7 : fr (rif a) μ (sI μ6 a (o + k) v6) := (o3.trans (o6.wide (fun _ _ => ri_d))).trans (fr.sI (F := rif a) (a := a) (k := o + k) μ6 v6 (Or.inr rfl))
      have u7 : ∀ j, (j < o ∨ o + hln S ≤ j) → xI (sI μ6 a (o + k) v6) a j = xI μ a j := fun j hj => by rw [xI_sI, if_neg (by omega), v6']; exact u1 j hj
      have f7 : xI (sI μ6 a (o + k) v6) 547 11 = xI μ6 547 11 := by rw [xI_sI, if_neg (by omega)]
      have o67 := (fr.sI (F := rif a) (a := a) (k := o + k) μ6 v6 (Or.inr rfl))
      have h7o : zob (sI μ6 a (o + k) v6) 547 11 := ob_of rfl (by omega) h6N
      have hkk : ¬ w ((k : Nat) : Int) = w (-1) := by rw [w_inj (by omega) (by omega) (by omega) (by omega)]; omega
      have bad : ∀ z : Nat, z ≤ 300 → xI μ6 547 11 = w z → (∀ μ', IRD μ μ' n tb a o S (.inl z) → Q none μ') → (xI (sI μ6 a (o + k) v6) 547 11 = w (-1) → Call Γ m_MO_look d [.ref 547] (sI μ6 a (o + k) v6) (KI (fun v8 μ8 => Call Γ m_MO_spotOf d [.ref (14 + (S + 2)), .int v8] μ8 (KI (fun v9 μ9 => G Γ m_MO_readItems (d + 1) (0, 0) Q 45 [.ref 547, .int (w (hch S)), .ref a, .int (w (o : Int)), .ref (14 + (S + 2)), .int (x5 ||| ((w 1) <<< (w ((k : Nat) : Int) &&& 31))), .int v9] [] μ9))))) ∧ (¬ xI (sI μ6 a (o + k) v6) 547 11 = w (-1) → G Γ m_MO_readItems (d + 1) (0, 0) Q 45 [.ref 547, .int (w (hch S)), .ref a, .int (w (o : Int)), .ref (14 + (S + 2)), .int (x5 ||| ((w 1) <<< (w ((k : Nat) : Int) &&& 31))), .int (w ((k : Nat) : Int))] [] (sI μ6 a (o + k) v6)) := by
        intro z hz e hQ2
        rw [f7, e]
        have hne : ¬ w (z : Int) = w (-1) := by rw [w_inj (by omega) (by omega) (by omega) (by omega)]; omega
        refine ⟨fun y => absurd y hne, fun _ => B_MO_readItems_45 h7o ?_⟩
        rw [f7, e]
        exact ⟨fun y => absurd y hkk, fun _ => ⟨fun y => absurd y hne, fun _ => hQ2 _ ⟨o7, u7, by rw [f7]; exact e⟩⟩⟩
      rcases r6 with ⟨g1, g2⟩ | ⟨g1, g2, g3⟩ | ⟨g1, g2, rfl, g4, g5⟩
      · rw [itF_n q (by rw [ekn]; exact hs) g1] at hQ
        exact bad _ (by omega) g2 hQ
      · rw [itF_r q (by rw [ekn]; exact hs) g1 (by rw [ekn]; exact g2)] at hQ
        exact bad _ (by omega) g3 hQ
      · rw [itF_g q (by rw [ekn]; exact hs) g1 (by rw [ekn]; exact g2), ekn] at hQ
        clear bad
        have h7 : RT (sI μ6 a (o + k) (w ((nb tb n p).2.1 : Nat))) n tb (nb tb n p).1 := g5.ar ha _ _
        rw [g4] at f7
        refine ⟨fun _ => ?_, fun z => absurd f7 z⟩
        have v7 : ∀ j, j < hln S → xI (sI μ6 a (o + k) (w ((nb tb n p).2.1 : Nat))) a (o + j) = w (upv v k ((nb tb n p).2.1 : Nat) j) := fun j hj => by
          unfold upv
          by_cases e : j = k
          · rw [if_pos e, xI_sI, if_pos ⟨rfl, by omega⟩]
          · rw [if_neg e, xI_sI, if_neg (by omega), v6']
            exact hv j hj
        generalize sI μ6 a (o + k) (w ((nb tb n p).2.1 : Nat)) = μ7 at *
        refine (C_lookR (by omega) h7).conseq (KI.mono ?_)
        rintro r μ8 ⟨rfl, o8, f8, h8⟩
        rw [f7] at f8
        have hb2 := lk_bd (n := n) (p := (nb tb n p).1) (fun j hj => (h8.b hj).2.2)
        refine (C_spotOf (j := S + 2) (by omega) hf h8.1.1 h8.2.1 (by omega) (by omega) (by omega)).conseq (KI.mono ?_)
        rintro r μ9 ⟨rfl, rfl⟩
        refine ih (t + 1) (upb sn k) (nb tb n p).1 _ _ _ (by omega) ?_ ?_ hnb.2.1 (o7.trans (o8.wide (fun _ _ => ri_d))) (fun j hj => by rw [(o8.1 a j (by unfold rdf; omega)).1]; exact u7 j hj) (fun j hj => by rw [(o8.1 a _ (by unfold rdf; omega)).1]; exact v7 j hj) h8 f8 hQ
        · rw [cnS_up hs, if_pos (by omega), hc]
        · have := hx.or (i := k) (by omega)
          unfold bit1 at this
          refine this.cg (fun i _ => ?_)
          show (sn i = true ∨ i = k) ↔ (if i = k then true else sn i) = true
          by_cases e : i = k
          · rw [if_pos e]; exact ⟨fun _ => rfl, fun _ => Or.inr e⟩
          · rw [if_neg e]; exact ⟨fun z => z.resolve_right e, Or.inl⟩
theorem items_3 (hf : FM Γ) (hd : 5 ≤ d) (hI : RI a o S) : ∀ (f k : Nat) (μ1 : XM), k + f = hln S → p ≤ n → fr (rif a) μ μ1 → (∀ j, (j < o ∨ o + hln S ≤ j) → xI μ1 a j = xI μ a j) → (∀ j, j < k → xI μ1 a (o + j) = w (hus S j)) → RT μ1 n tb p → xI μ1 547 11 = w (-1) →
    (∀ μ', IRD μ μ' n tb a o S (itF tb n S 6 p (fun _ => false) (hus S)) → Q none μ') → G Γ m_MO_readItems (d + 1) (0, 0) Q 3 [.ref 547, .int (w (hch S)), .ref a, .int (w (o : Int)), .ref (14 + (S + 2)), .int (w (k : Int))] [] μ1 := by
  obtain ⟨⟨len, sa, ol, ll⟩, hS, ha⟩ := hI.s
  have hh := hln_b S
  have e0 : (sS (S + 2)).length = hln S := hln_s S hS
  intro f
  induction f with
  | zero =>
    intro k μ1 hk hp ho u1 hv h h11 hQ
    refine B_MO_readItems_3 h.1.o ⟨⟨S + 2, by omega, rfl⟩, ?_⟩
    refine (C_stLength (by omega) h.1.1 (j := S + 2) (by omega)).conseq (KI.mono ?_)
    rintro r μ2 ⟨rfl, rfl⟩
    rw [e0, w_lt (by omega) (by omega) (by omega) (by omega)]
    refine ⟨fun z => absurd z (by omega), fun _ => ?_⟩
    refine (C_lookR (by omega) h).conseq (KI.mono ?_)
    rintro r μ3 ⟨rfl, o3, f3, h3⟩
    rw [h11] at f3
    have hb := lk_bd (n := n) (p := p) (fun j hj => (h3.b hj).2.2)
    refine (C_spotOf (j := S + 2) (by omega) hf h3.1.1 h3.2.1 (by omega) (by omega) (by omega)).conseq (KI.mono ?_)
    rintro r μ4 ⟨rfl, rfl⟩
    exact items_45 hf hd hI 6 0 (fun _ => false) p (hus S) (w 0) _ (by omega) (cnS_0 _) (IBP.zero.cg (fun i _ => ⟨fun z => z.elim, fun z => Bool.noConfusion z⟩)) hp (ho.trans (o3.wide (fun _ _ => ri_d))) (fun j hj => by rw [(o3.1 a j (by unfold rdf; omega)).1]; exact u1 j hj) (fun j hj => by rw [(o3.1 a _ (by unfold rdf; omega)).1]; exact hv j (by omega)) h3 f3 hQ
  | succ f ih =>
    intro k μ1 hk hp ho u1 hv h h11 hQ
    refine B_MO_readItems_3 h.1.o ⟨⟨S + 2, by omega, rfl⟩, ?_⟩
    refine (C_stLength (by omega) h.1.1 (j := S + 2) (by omega)).conseq (KI.mono ?_)
    rintro r μ2 ⟨rfl, rfl⟩
    rw [e0, w_lt (by omega) (by omega) (by omega) (by omega)]
    refine ⟨fun _ => ?_, fun z => absurd (by omega) z⟩
    refine (C_usual (by omega) hS (k := k) (by omega)).conseq (KI.mono ?_)
    rintro r μ3 ⟨rfl, rfl⟩
    rw [w_add, w_cl (by omega) (by omega), show ((o : Int) + k).toNat = o + k by omega]
    refine ⟨inS_of sa (by omega) h.1.1 (by omega) (by omega) (by omega), ?_⟩
    rintro μ4 rfl
    rw [w_add, show (k : Int) + 1 = ((k + 1 : Nat) : Int) by omega]
    refine ih (k + 1) _ (by omega) hp (ho.trans (fr.sI (F := rif a) (a := a) (k := o + k) _ _ (Or.inr rfl))) (fun j hj => by rw [xI_sI, if_neg (by omega)]; exact u1 j hj) (fun j hj => ?_) (h.ar ha _ _) (by rw [xI_sI, if_neg (by omega)]; exact h11) hQ
    rw [xI_sI]
    by_cases e : j = k
    · rw [if_pos ⟨rfl, by omega⟩, e]
    · rw [if_neg (by omega)]
      exact hv j (by omega)
theorem C_readItemsM (hf : FM Γ) (hd : 6 ≤ d) (hI : RI a o S) (h : RT μ n tb p) (h11 : xI μ 547 11 = w (-1)) : Call Γ m_MO_readItems d [.ref 547, .int (w (hch S)), .ref a, .int (w (o : Int)), .ref (14 + (S + 2))] μ (KV (fun μ' => IRD μ μ' n tb a o S (itF tb n S 6 p (fun _ => false) (hus S)))) := by
  obtain ⟨d, rfl⟩ : ∃ e, d = e + 1 := ⟨d - 1, by omega⟩
  refine Call.of ok_MO_readItems (Nat.le_of_ble_eq_true rfl) (B_MO_readItems_0 ?_)
  exact items_3 (μ := μ) hf (by omega) hI (hln S) 0 μ (by omega) h.2.2.2.2.2.2.2 (fr.rf _ _) (fun _ _ => rfl) (fun j hj => absurd hj (Nat.not_lt_zero _)) h h11 (fun μ' h => ⟨rfl, h⟩)
end HRN
