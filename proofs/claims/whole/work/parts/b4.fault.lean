/-! FAULTS ON BOTH SIDES -/
section SF
variable {h n s m T lt k tn cl cf si mi Ti : Nat} {ru : Nat → Int} {ki bx mg lo fd bi gi : Nat → Nat → Int} {lz : Nat → Nat} {lc : Nat → Nat → Int} {sel hab : Int} {pz : Nat → Nat} {pv : Nat → Nat → Nat → Int} {tb : Nat → Nat} {ik : Bool} {A : AA} {W : WL} {μ μ' : XM}
/-- what reading a text in the class may write: the tape's cursor, the draft, the next law, the next plan -/
theorem FIs {P : Nat → Prop} (hF : FI μ h n ru ki s bx m T mg A lt lz lc sel k pz pv tn tb hab cl lo cf fd ik si bi mi Ti gi) (ho : fof P μ μ') (hp : ∀ c, P c → c = 33 ∨ (∃ g, xR μ 32 2 = some g ∧ g ≤ c ∧ c ≤ g + 14) ∨ c = 502 + 9 * lt ∨ c = 503 + 9 * lt ∨ (506 + 9 * k ≤ c ∧ c ≤ 510 + 9 * k)) (hT : TN μ' tn tb) : FI μ' h n ru ki s bx m T mg A lt lz lc sel k pz pv tn tb hab cl lo cf fd ik si bi mi Ti gi := by
  obtain ⟨a1, a2, ⟨a3, a4, a5⟩, a6, ⟨a7, a8, a9⟩, b1, b2, b3, b4, g, b5, b6, b7⟩ := hF
  have hg := b5.1
  unfold HS at hg
  have hl4 := a2.1
  have np : ∀ c, ¬ c = 33 → (c < g ∨ g + 14 < c) → ¬ c = 502 + 9 * lt → ¬ c = 503 + 9 * lt → ¬ (506 + 9 * k ≤ c ∧ c ≤ 510 + 9 * k) → ¬ P c := by
    intro c n1 n2 n3 n4 n5 z
    rcases hp c z with e | ⟨g', e, e1, e2⟩ | e | e | e
    · exact n1 e
    · rw [b6] at e
      cases e
      omega
    · exact n3 e
    · exact n4 e
    · exact n5 e
  obtain ⟨⟨f1, f2, f3, f4, f5⟩, h2, h3, h4, nx, h5⟩ := a1
  have n32 : ¬ P 32 := np _ (by omega) (by omega) (by omega) (by omega) (by omega)
  have lw : LW μ' lt lz lc sel := ⟨hl4, by rw [ho.1 32 n32]; exact a2.2.1, by rw [ho.1 32 n32]; exact a2.2.2.1, a2.2.2.2.1, a2.2.2.2.2.1, fun i hi => (a2.2.2.2.2.2 i hi).of (fun j => ho.1 _ (np _ (by omega) (by omega) (by omega) (by omega) (by omega)) j) (fun j => ho.1 _ (np _ (by omega) (by omega) (by omega) (by omega) (by omega)) j) ho.2.2.1 ho.2.2.2⟩
  exact ⟨⟨⟨f1.of ho.2.2.1 ho.2.2.2, f2.of (fun c c1 c2 j => ho.1 c (np _ (by omega) (by omega) (by omega) (by omega) (by omega)) j) ho.2.2.1 ho.2.2.2, lw.fw, f4.fof ho (fun c c1 c2 => np _ (by omega) (by omega) (by omega) (by omega) (by omega)), f5⟩, h2, by rw [ho.1 280 (np _ (by omega) (by omega) (by omega) (by omega) (by omega))]; exact h3, h4.fof ho (fun i hi => np _ (by omega) (by omega) (by omega) (by omega) (by omega)), nx, h5.fof ho (fun c c1 c2 => np _ (by omega) (by omega) (by omega) (by omega) (by omega))⟩, lw, ⟨by rw [ho.1 32 n32]; exact a3, a4, fun p hp => (a5 p hp).fof ho (fun c c1 c2 => np _ (by omega) (by omega) (by omega) (by omega) (by omega))⟩, hT, ⟨by rw [ho.1 32 n32]; exact a7, a8, a9⟩, b1.fof ho ⟨np _ (by omega) (by omega) (by omega) (by omega) (by omega), np _ (by omega) (by omega) (by omega) (by omega) (by omega), np _ (by omega) (by omega) (by omega) (by omega) (by omega)⟩, b2.fof ho (fun c c1 c2 => np _ (by omega) (by omega) (by omega) (by omega) (by omega)), b3.fof ho (fun c c1 c2 => np _ (by omega) (by omega) (by omega) (by omega) (by omega)), b4.fof ho (fun c c1 => np _ (by omega) (by omega) (by omega) (by omega) (by omega)), g, b5.of ho.2.2.1 ho.2.2.2, by rw [ho.2.2.1]; exact b6, b7⟩
/-- what reading a text in the reference may write -/
def sok (c j : Nat) : Prop := (c = 547 ∧ (j = 0 ∨ j = 5 ∨ (8 ≤ j ∧ j ≤ 14) ∨ j = 17 ∨ j = 26 ∨ j = 27 ∨ j = 29)) ∨ c = 553 ∨ c = 555 ∨ c = 556 ∨ c = 557 ∨ c = 558
theorem sok_r (k v : Nat) (h : rM k = some v) : ¬ sok 547 k := by
  intro q
  have q2 : k = 0 ∨ k = 5 ∨ (8 ≤ k ∧ k ≤ 14) ∨ k = 17 ∨ k = 26 ∨ k = 27 ∨ k = 29 := by unfold sok at q; omega
  have : ∀ k, k < 30 → (k = 0 ∨ k = 5 ∨ (8 ≤ k ∧ k ≤ 14) ∨ k = 17 ∨ k = 26 ∨ k = 27 ∨ k = 29) → rM k = none := by decide
  rw [this k (by omega) q2] at h
  cases h
theorem MIs (hM : MI μ W n ru ki s bx m T mg A lt lz lc sel k pz pv tn tb hab cl lo cf fd ik si bi mi Ti gi) (hq : fr sok μ μ') (h6 : ∀ j, j < 256 → xI μ' 557 j = xI μ 557 j) (h7 : ∀ j, ¬ j = 4 → xI μ' 558 j = xI μ 558 j) : MI μ' W n ru ki s bx m T mg A lt lz lc sel k pz pv tn tb hab cl lo cf fd ik si bi mi Ti gi := by
  obtain ⟨⟨⟨a1, a2, a3, a4, a5, a6⟩, a7⟩, b2, b3, b4, b5, b6, b7, b8, b9⟩ := hM
  have e : ∀ c j, ¬ sok c j → xI μ' c j = xI μ c j := fun c j z => (hq.1 c j z).1
  exact ⟨⟨⟨a1.fr hq sok_r (by unfold sok; omega) (fun j => by unfold sok; omega) (fun j => by unfold sok; omega), a2.fr hq (fun j => by unfold sok; omega), a3, a4, a5.frm hq (fun c j hc => by unfold sok; omega) (by unfold sok; omega) (fun c j h1 h2 => by unfold sok; omega) (fun c j h1 h2 => by unfold sok; omega), a6⟩, a7.frm hq (fun j => by unfold sok; omega) (by unfold sok; omega)⟩, ⟨b2.1, by rw [e _ _ (by unfold sok; omega)]; exact b2.2.1, fun p hp => ⟨(b2.2.2 p hp).1, by rw [h7 p (by have := b2.1; omega)]; exact (b2.2.2 p hp).2.1, fun i hi => ⟨((b2.2.2 p hp).2.2 i hi).1, fun q hq2 => by rw [h6 _ (by have := ((b2.2.2 p hp).2.2 i hi).1; omega)]; exact ((b2.2.2 p hp).2.2 i hi).2.1 q hq2, ((b2.2.2 p hp).2.2 i hi).2.2⟩⟩⟩, b3.frm hq (fun j => by unfold sok; omega) (by unfold sok; omega), by rw [e _ _ (by unfold sok; omega)]; exact b4, b5.fr hq (by unfold sok; omega) (fun j => by unfold sok; omega) (fun j => by unfold sok; omega), b6.frm hq (fun c j hc => by unfold sok; omega) (by unfold sok; omega), b7.frm hq (fun j => by unfold sok; omega) (by unfold sok; omega), by rw [e _ _ (by unfold sok; omega)]; exact b8, b9⟩
theorem sok_hi {c j : Nat} (z : sok c j) : 547 ≤ c := by unfold sok at z; omega
theorem hzg_s {c j : Nat} (z : hzg c j) : sok c j := by unfold hzg hzf rdf gfr at z; unfold sok; omega
theorem rpg_s {c j : Nat} (z : rpg c j) : sok c j := by unfold rpg rpf rsf rdf gfr at z; unfold sok; omega
theorem thr_s {c j : Nat} (z : thr c j) : sok c j := by unfold thr at z; unfold sok; omega
theorem gfr_s {c j : Nat} (z : gfr c j) : sok c j := by unfold gfr at z; unfold sok; omega
end SF
section SG
variable {Γ : XG} {d : Nat} {h n s m T lt k tn cl cf si mi Ti : Nat} {ru : Nat → Int} {ki bx mg lo fd bi gi : Nat → Nat → Int} {lz : Nat → Nat} {lc : Nat → Nat → Int} {sel hab : Int} {pz : Nat → Nat} {pv : Nat → Nat → Nat → Int} {tb : Nat → Nat} {ik : Bool} {A : AA} {W : WL} {μ : XM}
theorem law_q {tb : Nat → Nat} {n q : Nat} (h : law tb n = .inl q) : q ≤ n := by
  have := law_LG (tb := tb) (n := n)
  rw [h] at this
  exact this
theorem hse_q {tb : Nat → Nat} {n q : Nat} (hb : ∀ j, j < n → 1 ≤ tb j ∧ tb j ≤ 255) (h : hse tb n = .inl q) : q ≤ n := by
  have := hse_ok (tb := tb) (n := n) hb
  rw [h] at this
  exact this
theorem stq_u {tb : Nat → Nat} {n p : Nat} {u : Nat × (Nat → Int)} (hp : p ≤ n) (h : stq tb n p = .inr u) : u.1 ≤ n + 4 := by
  have b0 : sk tb n p ≤ n := (sk_le tb hp).2
  have b1 : st1 tb n p ≤ n + 1 := sk_mx (by omega)
  have b2 : st2 tb n p ≤ n + 2 := sk_mx (by omega)
  have b3 : st3 tb n p ≤ n + 3 := sk_mx (by omega)
  unfold stq at h
  split at h
  · exact nomatch h
  · split at h
    · split at h
      · split at h
        · have := Sum.inr.inj h; rw [← this]; dsimp only; omega
        · exact nomatch h
      · split at h
        · split at h
          · split at h
            · have := Sum.inr.inj h; rw [← this]; dsimp only; omega
            · exact nomatch h
          · exact nomatch h
        · have := Sum.inr.inj h; rw [← this]; dsimp only; omega
    · exact nomatch h
theorem plF_q {tb : Nat → Nat} {n : Nat} : ∀ (f i p : Nat) (acc : Nat → Nat → Int) (q : Nat), p ≤ n → plF tb n f i p acc = .inl q → q ≤ n + 4
  | 0, i, p, acc, q, hp, h => by
    rw [plF] at h
    have := Sum.inl.inj h
    omega
  | f + 1, i, p, acc, q, hp, h => by
    cases es : stq tb n p with
    | inl e =>
      have eP : plF tb n (f + 1) i p acc = .inl e := by rw [plF, es]
      rw [eP] at h
      have := Sum.inl.inj h
      have := stq_q hp es
      omega
    | inr u =>
      have eP : plF tb n (f + 1) i p acc = (if lk tb n u.1 = -1 then .inr (i + 1, fun j => if j = i then u.2 else acc j) else if lk tb n u.1 = 59 ∧ ¬ i + 1 = 16 then plF tb n f (i + 1) (sk tb n u.1 + 1) (fun j => if j = i then u.2 else acc j) else .inl (sk tb n u.1)) := by rw [plF, es]
      rw [eP] at h
      have hu := stq_u hp es
      have hs : sk tb n u.1 ≤ n + 4 := sk_mx (by omega)
      split at h
      · exact nomatch h
      · split at h
        · rename_i c1 c2
          have : sk tb n u.1 < n := lk_lt c2.1 (by omega)
          exact plF_q f _ _ _ q (by omega) h
        · have := Sum.inl.inj h
          omega
def mfx (μ μ' : XM) : Prop := fr sok μ μ' ∧ (∀ j, j < 256 → xI μ' 557 j = xI μ 557 j) ∧ (∀ j, ¬ j = 4 → xI μ' 558 j = xI μ 558 j)
theorem C_faultM0 (hf : FM Γ) (hd : 60 ≤ d) (hM : MI μ W n ru ki s bx m T mg A lt lz lc sel k pz pv tn tb hab cl lo cf fd ik si bi mi Ti gi) : Call Γ m_MO_fault d [.ref 547, .int (w 0)] μ (KI (fun r μ' => mfx μ μ' ∧ r = xI μ' 547 11 ∧ match hse tb tn with
    | .inl q => xI μ' 547 11 = w q
    | .inr X => xI μ' 547 11 = w (-1) ∧ HR μ' X)) := by
  obtain ⟨d, rfl⟩ : ∃ e, d = e + 1 := ⟨d - 1, by omega⟩
  have hR := hM.1.1.1.1
  refine Call.of ok_MO_fault (Nat.le_of_ble_eq_true rfl) (B_MO_fault_0 hR.o ?_)
  rintro μ1 rfl
  have o1 : fr sok μ (sI μ 547 0 (w 0)) := (th0 μ).wide (fun _ _ => thr_s)
  have hM1 := MIs hM o1 (fun j hj => by rw [xI_sI, if_neg (by omega)]) (fun j hj => by rw [xI_sI, if_neg (by omega)])
  have u1 : ∀ c j, c = 557 ∨ c = 558 → xI (sI μ 547 0 (w 0)) c j = xI μ c j := fun c j hc => by rw [xI_sI, if_neg (by omega)]
  generalize sI μ 547 0 (w 0) = μ1 at *
  rw [w_l (by omega) (by omega)]
  refine (C_isIn (x := 0) (y := 2) (by omega) (by omega) (by omega) (by omega) (by omega) (by omega) (by omega)).conseq (KI.mono ?_)
  rintro r μ2 ⟨rfl, ⟨g1, g2, rfl⟩ | ⟨g1, rfl⟩⟩
  · refine ⟨fun z => absurd z w01, fun _ => ⟨fun _ => ?_, fun z => absurd rfl z⟩⟩
    refine (C_readHouseM hf (by omega) hM1.1.1.1.1 hM1.mw.1 hM1.2.2.1).conseq (KV.mono ?_)
    rintro μ3 ⟨o3, h3⟩
    refine ⟨fun z => absurd z (by decide), fun _ => ⟨fun z => absurd z (by decide), fun _ => ⟨_, rfl, ⟨o1.trans (o3.wide (fun _ _ => hzg_s)), fun j hj => by rw [(o3.1 557 j (by unfold hzg hzf rdf gfr; omega)).1, u1 _ _ (by omega)], fun j hj => by rw [(o3.1 558 j (by unfold hzg hzf rdf gfr; omega)).1, u1 _ _ (by omega)]⟩, rfl, h3⟩⟩⟩
  · omega
theorem C_faultM1 (hf : FM Γ) (hd : 60 ≤ d) (hM : MI μ W n ru ki s bx m T mg A lt lz lc sel k pz pv tn tb hab cl lo cf fd ik si bi mi Ti gi) : Call Γ m_MO_fault d [.ref 547, .int (w 1)] μ (KI (fun r μ' => mfx μ μ' ∧ r = xI μ' 547 11 ∧ match law tb tn with
    | .inl q => xI μ' 547 11 = w q
    | .inr _ => xI μ' 547 11 = w (-1))) := by
  obtain ⟨d, rfl⟩ : ∃ e, d = e + 1 := ⟨d - 1, by omega⟩
  have hR := hM.1.1.1.1
  refine Call.of ok_MO_fault (Nat.le_of_ble_eq_true rfl) (B_MO_fault_0 hR.o ?_)
  rintro μ1 rfl
  have o1 : fr sok μ (sI μ 547 0 (w 0)) := (th0 μ).wide (fun _ _ => thr_s)
  have hM1 := MIs hM o1 (fun j hj => by rw [xI_sI, if_neg (by omega)]) (fun j hj => by rw [xI_sI, if_neg (by omega)])
  have u1 : ∀ c j, c = 557 ∨ c = 558 → xI (sI μ 547 0 (w 0)) c j = xI μ c j := fun c j hc => by rw [xI_sI, if_neg (by omega)]
  generalize sI μ 547 0 (w 0) = μ1 at *
  rw [w_l (by omega) (by omega)]
  refine (C_isIn (x := 0) (y := 2) (by omega) (by omega) (by omega) (by omega) (by omega) (by omega) (by omega)).conseq (KI.mono ?_)
  rintro r μ2 ⟨rfl, ⟨g1, g2, rfl⟩ | ⟨g1, rfl⟩⟩
  · refine ⟨fun z => absurd z w01, fun _ => ⟨fun z => absurd z (by decide), fun _ => ⟨fun _ => ?_, fun z => absurd rfl z⟩⟩⟩
    obtain ⟨e, hE⟩ := hM1.mw.2.2.2.2.2.2.2
    refine ⟨548, hM1.1.1.1.1.r 1 548 rfl, ?_⟩
    rw [hM1.2.2.1.2]
    refine (C_goThrough (o := 0) hf (by omega) hM1.1.1.1.1 hM1.mw.1 hE hM1.2.2.1.1).conseq (KV.mono ?_)
    rintro μ3 ⟨o3, h3⟩
    refine ⟨fun z => absurd z (by decide), fun _ => ⟨_, rfl, ⟨o1.trans (o3.wide (fun _ _ => gfr_s)), fun j hj => by rw [(o3.1 557 j (by unfold gfr; omega)).1, u1 _ _ (by omega)], fun j hj => by rw [(o3.1 558 j (by unfold gfr; omega)).1, u1 _ _ (by omega)]⟩, rfl, ?_⟩⟩
    revert h3
    generalize law tb tn = r
    intro h3
    match r, h3 with
    | .inl q, h4 => exact h4
    | .inr u, h4 => exact h4.1
  · omega
theorem C_faultM2 (hf : FM Γ) (hd : 60 ≤ d) (hM : MI μ W n ru ki s bx m T mg A lt lz lc sel k pz pv tn tb hab cl lo cf fd ik si bi mi Ti gi) : Call Γ m_MO_fault d [.ref 547, .int (w 2)] μ (KI (fun r μ' => mfx μ μ' ∧ r = xI μ' 547 11 ∧ match plF tb tn 16 0 0 (fun _ _ => 0) with
    | .inl q => xI μ' 547 11 = w q
    | .inr u => xI μ' 547 11 = w (-1) ∧ xI μ' 558 4 = w u.1 ∧ ∀ i, i < u.1 → ∀ q, q < 4 → xI μ' 557 (256 + 4 * i + q) = w (u.2 i q))) := by
  obtain ⟨d, rfl⟩ : ∃ e, d = e + 1 := ⟨d - 1, by omega⟩
  have hR := hM.1.1.1.1
  refine Call.of ok_MO_fault (Nat.le_of_ble_eq_true rfl) (B_MO_fault_0 hR.o ?_)
  rintro μ1 rfl
  have o1 : fr sok μ (sI μ 547 0 (w 0)) := (th0 μ).wide (fun _ _ => thr_s)
  have hM1 := MIs hM o1 (fun j hj => by rw [xI_sI, if_neg (by omega)]) (fun j hj => by rw [xI_sI, if_neg (by omega)])
  have u1 : ∀ c j, c = 557 ∨ c = 558 → xI (sI μ 547 0 (w 0)) c j = xI μ c j := fun c j hc => by rw [xI_sI, if_neg (by omega)]
  generalize sI μ 547 0 (w 0) = μ1 at *
  rw [w_l (by omega) (by omega)]
  refine (C_isIn (x := 0) (y := 2) (by omega) (by omega) (by omega) (by omega) (by omega) (by omega) (by omega)).conseq (KI.mono ?_)
  rintro r μ2 ⟨rfl, ⟨g1, g2, rfl⟩ | ⟨g1, rfl⟩⟩
  · refine ⟨fun z => absurd z w01, fun _ => ⟨fun z => absurd z (by decide), fun _ => ⟨fun z => absurd z (by decide), fun _ => ⟨fun _ => ?_, fun z => absurd rfl z⟩⟩⟩⟩
    refine (C_readPlanM hf (by omega) hM1.1.1.1.1 hM1.mw.1 hM1.2.2.1).conseq (KV.mono ?_)
    rintro μ3 ⟨o3, μ4, h4, -, h6, h7, h8⟩
    exact ⟨_, rfl, ⟨o1.trans (o3.wide (fun _ _ => rpg_s)), fun j hj => by rw [h6 j hj, h4 _ _ (by omega), u1 _ _ (by omega)], fun j hj => by rw [h7 j hj, h4 _ _ (by omega), u1 _ _ (by omega)]⟩, rfl, h8⟩
  · omega
theorem C_faultMn (hf : FM Γ) (hd : 60 ≤ d) (hM : MI μ W n ru ki s bx m T mg A lt lz lc sel k pz pv tn tb hab cl lo cf fd ik si bi mi Ti gi) {z : Int} (z1 : -2147483648 ≤ z) (z2 : z < 2147483648) (hz : ¬ (0 ≤ z ∧ z ≤ 2)) : Call Γ m_MO_fault d [.ref 547, .int (w z)] μ (KI (fun r μ' => mfx μ μ' ∧ r = w (-2))) := by
  obtain ⟨d, rfl⟩ : ∃ e, d = e + 1 := ⟨d - 1, by omega⟩
  have hR := hM.1.1.1.1
  refine Call.of ok_MO_fault (Nat.le_of_ble_eq_true rfl) (B_MO_fault_0 hR.o ?_)
  rintro μ1 rfl
  have o1 : fr sok μ (sI μ 547 0 (w 0)) := (th0 μ).wide (fun _ _ => thr_s)
  rw [w_l z1 z2]
  refine (C_isIn (x := 0) (y := 2) (by omega) (by omega) (by omega) (by omega) (by omega) (by omega) (by omega)).conseq (KI.mono ?_)
  rintro r μ2 ⟨rfl, ⟨g1, g2, rfl⟩ | ⟨g1, rfl⟩⟩
  · omega
  · exact ⟨fun _ => ⟨_, rfl, ⟨o1, fun j hj => by rw [xI_sI, if_neg (by omega)], fun j hj => by rw [xI_sI, if_neg (by omega)]⟩, rfl⟩, fun z => absurd rfl z⟩
end SG
