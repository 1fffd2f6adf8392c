/-! READING A LAW, in the class -/
def lfr (L c : Nat) : Prop := c = 33 ∨ c = L ∨ c = L + 1
/-- the law at L has the signs l so far -/
def LQ (μ : XM) (L : Nat) (l : List Int) : Prop := LB μ L ∧ l.length ≤ 240 ∧ xI μ L 3 = w l.length ∧ ∀ i, i < l.length → xI μ (L + 1) i = w (l.getD i 0)
def LPs (μ : XM) (L n : Nat) (tb : Nat → Nat) (p : Nat) (l : List Int) : Prop := TP μ n tb p ∧ LQ μ L l ∧ ST μ ∧ l.length ≤ p ∧ 400 ≤ L
theorem TP.tn {μ : XM} {n p : Nat} {tb : Nat → Nat} (h : TP μ n tb p) : TN μ n tb := ⟨h.1, h.2.1, h.2.2.1, h.2.2.2.1, h.2.2.2.2.1⟩
theorem LSh.big {L : Nat} (h : LSh L) : L + 3 < 574 ∧ 32 ≤ L := ⟨h.2.1, h.1⟩
theorem LQ.fof {P : Nat → Prop} {μ μ' : XM} {L : Nat} {l : List Int} (h : LQ μ L l) (ho : fof P μ μ') (h1 : ¬ P L) (h2 : ¬ P (L + 1)) : LQ μ' L l := ⟨h.1.of ho.2.2.1 ho.2.2.2, h.2.1, by rw [ho.1 L h1]; exact h.2.2.1, fun i hi => by rw [ho.1 (L + 1) h2]; exact h.2.2.2 i hi⟩
theorem LPs.N {μ : XM} {L n p : Nat} {tb : Nat → Nat} {l : List Int} (h : LPs μ L n tb p l) : 574 ≤ xN μ := h.1.2.1
theorem LPs.pn {μ : XM} {L n p : Nat} {tb : Nat → Nat} {l : List Int} (h : LPs μ L n tb p l) : p ≤ n := h.1.2.2.2.2.2.2
theorem LPs.bt {μ : XM} {L n p : Nat} {tb : Nat → Nat} {l : List Int} (h : LPs μ L n tb p l) : ∀ j, j < n → 1 ≤ tb j ∧ tb j ≤ 255 := fun j hj => (h.1.2.2.2.2.1 j hj).2
def c33 (c : Nat) : Prop := c = 33
theorem LPs.mv {μ : XM} {L n p : Nat} {tb : Nat → Nat} {l : List Int} (h : LPs μ L n tb p l) {q : Nat} (hq : q ≤ n) (hp : l.length ≤ q) : LPs (sI μ 33 2 (w q)) L n tb q l := by
  have ho : fof c33 μ (sI μ 33 2 (w q)) := fof.sI μ 2 (w q) rfl
  have hb := h.2.2.2.2
  exact ⟨h.1.mv hq, h.2.1.fof ho (by unfold c33; omega) (by unfold c33; omega), h.2.2.1.fof ho (fun c hc => by unfold c33; omega), hp, h.2.2.2.2⟩
def LRs (μ μ' : XM) (L n : Nat) (tb : Nat → Nat) (l : List Int) (r : LR) (x : Int32) : Prop := fof (lfr L) μ μ' ∧ match r with
  | .inl q => x = w 0 ∧ TN μ' n tb ∧ xI μ' 33 3 = w q
  | .inr (p', c, _) => x = w 1 ∧ LPs μ' L n tb p' (l ++ c)
theorem w01 : ¬ w 1 = w 0 := by decide
section LC
variable {Γ : XG} {d n L p : Nat} {tb : Nat → Nat} {l : List Int} {μ : XM} {Q : Option Value → XM → Prop}
theorem f33 (μ : XM) (k : Nat) (v : Int32) : fof (lfr L) μ (sI μ 33 k v) := fof.sI μ k v (Or.inl rfl)
theorem K_ahead (hd : 1 ≤ d) (h : LPs μ L n tb p l) : Call Γ m_Ta_ahead d [.ref 33] μ (KI (fun r μ' => r = w (lk tb n p) ∧ fof (lfr L) μ μ' ∧ LPs μ' L n tb (sk tb n p) l)) := by
  refine (C_ahead hd h.1).conseq (KI.mono ?_)
  rintro r μ1 ⟨rfl, rfl⟩
  have hs := sk_le tb h.pn
  exact ⟨rfl, f33 _ _ _, h.mv hs.2 (by have := h.2.2.2.1; omega)⟩
theorem K_pass (hd : 1 ≤ d) (h : LPs μ L n tb p l) (hp : p < n) : Call Γ m_Ta_pass d [.ref 33] μ (KV (fun μ' => fof (lfr L) μ μ' ∧ LPs μ' L n tb (p + 1) l)) := by
  refine (C_pass hd h.1).conseq (KV.mono ?_)
  rintro μ1 rfl
  exact ⟨f33 _ _ _, h.mv hp (by have := h.2.2.2.1; omega)⟩
theorem K_refuse (hd : 1 ≤ d) (h : LPs μ L n tb p l) : Call Γ m_Ta_refuse d [.ref 33] μ (KI (fun r μ' => r = w 0 ∧ fof (lfr L) μ μ' ∧ TN μ' n tb ∧ xI μ' 33 3 = w p)) := by
  refine (C_refuse hd h.1).conseq (KI.mono ?_)
  rintro r μ1 ⟨rfl, rfl⟩
  exact ⟨rfl, f33 _ _ _, (h.1.fl _).tn, by rw [xI_sI, if_pos ⟨rfl, rfl⟩]⟩
theorem K_demand (hd : 2 ≤ d) (h : LPs μ L n tb p l) {c : Int} (h0 : 0 ≤ c) (h1 : c < 1000) : Call Γ m_Ta_demand d [.ref 33, .int (w c)] μ (KI (fun r μ' => fof (lfr L) μ μ' ∧ ((lk tb n p = c ∧ r = w 1 ∧ LPs μ' L n tb (sk tb n p + 1) l) ∨ (¬ lk tb n p = c ∧ r = w 0 ∧ TN μ' n tb ∧ xI μ' 33 3 = w (sk tb n p))))) := by
  refine (C_demand hd h.1 h0 h1).conseq (KI.mono ?_)
  rintro r μ1 ⟨g1, g2⟩
  have hs := sk_le tb h.pn
  have hl := h.2.2.2.1
  by_cases e : lk tb n p = c
  · obtain ⟨rfl, rfl⟩ := g1 e
    have := lk_lt e h0
    exact ⟨f33 _ _ _, Or.inl ⟨e, rfl, h.mv (by omega) (by omega)⟩⟩
  · obtain ⟨rfl, rfl⟩ := g2 e
    exact ⟨(f33 _ _ _).trans (f33 _ _ _), Or.inr ⟨e, rfl, ((h.1.mv hs.2).fl _).tn, by rw [xI_sI, if_pos ⟨rfl, rfl⟩]⟩⟩
theorem K_add (hd : 1 ≤ d) (h : LPs μ L n tb p l) (hl : l.length + 1 ≤ p) {x : Int} : Call Γ m_La_add d [.ref L, .int (w x)] μ (KV (fun μ' => fof (lfr L) μ μ' ∧ LPs μ' L n tb p (l ++ [x]))) := by
  obtain ⟨d, rfl⟩ : ∃ e, d = e + 1 := ⟨d - 1, by omega⟩
  obtain ⟨h1, ⟨h2, h3, h4, h5⟩, h6, h7, h8⟩ := h
  have hn := h1.2.2.2.1
  have hp := h1.2.2.2.2.2.2
  obtain ⟨l1, l2, l3, l4, -⟩ := h2.1
  refine Call.of ok_La_add (Nat.le_of_ble_eq_true rfl) (B_La_add_0 h2.ob h2.2.2.1 ⟨240, ar_of l4 (by omega) h2.2.1, ?_⟩)
  rw [h4, w_lt (by omega) (by omega) (by omega) (by omega), w_cln (by omega)]
  refine ⟨fun _ => ⟨inS_of l4 (by omega) h2.2.1 (by omega) (by omega) (by omega), ?_⟩, fun q => absurd (by omega) q⟩
  rintro μ3 rfl μ4 rfl
  rw [xI_sI, if_neg (by omega), h4, w_add]
  have ho : fof (fun c => c = L ∨ c = L + 1) μ (sI (sI μ (L + 1) l.length (w x)) L 3 (w ((l.length : Int) + 1))) := (fof.sI μ l.length (w x) (Or.inr rfl)).trans (fof.sI _ 3 _ (Or.inl rfl))
  refine ⟨rfl, ho.wide (fun c hc => Or.inr hc), ?_, ⟨h2.of rfl rfl, by simp; omega, ?_, fun i hi => ?_⟩, h6.fof ho (fun c hc => by omega), by simp; omega, h8⟩
  · obtain ⟨t1, t2, t3, t4, t5, t6, t7⟩ := h1
    refine ⟨t1, t2, by rw [ho.1 33 (by omega)]; exact t3, t4, fun j hj => by rw [ho.1 34 (by omega)]; exact t5 j hj, by rw [ho.1 33 (by omega)]; exact t6, t7⟩
  · rw [xI_sI, if_pos ⟨rfl, rfl⟩]
    congr 1
    simp
  · rw [xI_sI, if_neg (by omega), xI_sI]
    by_cases e : i = l.length
    · rw [if_pos ⟨rfl, e⟩, e]
      simp
    · rw [if_neg (fun z => e z.2), h5 i (by simp at hi; omega)]
      congr 1
      simp only [List.getD_eq_getElem?_getD]
      rw [List.getElem?_append_left (by simp at hi; omega)]
theorem LPs.same {μ : XM} {p' : Nat} (h : LPs μ L n tb p l) (e : p = p') : LPs μ L n tb p' l := e ▸ h
theorem K_isComparison (hd : 1 ≤ d) {c : Int} (c1 : -1 ≤ c) (c2 : c ≤ 255) : Call Γ m_La_isComparison d [.int (w c)] μ (KI (fun r μ' => μ' = μ ∧ (((c = 61 ∨ c = 60 ∨ c = 62) ∧ r = w 1) ∨ (¬ (c = 61 ∨ c = 60 ∨ c = 62) ∧ r = w 0)))) := by
  obtain ⟨d, rfl⟩ : ∃ e, d = e + 1 := ⟨d - 1, by omega⟩
  refine Call.of ok_La_isComparison (Nat.le_of_ble_eq_true rfl) (B_La_isComparison_0 ?_)
  rw [w_inj (by omega) (by omega) (by omega) (by omega), w_inj (by omega) (by omega) (by omega) (by omega), w_inj (by omega) (by omega) (by omega) (by omega)]
  exact ⟨fun q => ⟨_, rfl, rfl, Or.inl ⟨by omega, rfl⟩⟩, fun q => ⟨fun q2 => ⟨_, rfl, rfl, Or.inl ⟨by omega, rfl⟩⟩, fun q2 => ⟨fun q3 => ⟨_, rfl, rfl, Or.inl ⟨by omega, rfl⟩⟩, fun q3 => ⟨_, rfl, rfl, Or.inr ⟨by omega, rfl⟩⟩⟩⟩⟩
theorem K_lix (hd : 1 ≤ d) (h : LPs μ L n tb p l) {q : Nat} : Call Γ m_FB_placeAmong d [.ref 3, .int (w (lk tb n q))] μ (KI (fun r μ' => μ' = μ ∧ r = w (lix (lk tb n q)))) := by
  have hb := lk_bd (p := q) h.bt
  obtain ⟨s1, s2⟩ := ltr_ok h.2.2.1 (a := 3) (len := 6) (Or.inl ⟨rfl, rfl⟩)
  exact C_placeAmong hd s1 (by omega) h.N (by omega) s2 (by omega) (by omega)
theorem C_readAtom {k h : Nat} {S : Nat → LR} (hk : k ≤ 6) (hd : 3 ≤ d) (hS : 0 < k → ∀ (μ : XM) (p : Nat) (l : List Int), LPs μ L n tb p l → Call Γ m_La_readSum (d - 1) [.ref L, .ref 33, .int (w (6 - k + 1))] μ (KI (fun x μ' => LRs μ μ' L n tb l (S p) x))) (hG : 0 < k → ∀ p, p ≤ n → LG n p (CG h) (S p)) (hp : LPs μ L n tb p l) : Call Γ m_La_readAtom d [.ref L, .ref 33, .int (w (6 - k))] μ (KI (fun x μ' => LRs μ μ' L n tb l (lat tb n k S p) x)) := by
  obtain ⟨d, rfl⟩ : ∃ e, d = e + 1 := ⟨d - 1, by omega⟩
  rw [Nat.add_sub_cancel] at hS
  have hb := lk_bd (p := p) hp.bt
  have hn := hp.1.2.2.2.1
  have hs := sk_le tb hp.pn
  have hl0 := hp.2.2.2.1
  refine Call.of ok_La_readAtom (Nat.le_of_ble_eq_true rfl) (B_La_readAtom_0 hp.1.ob hp.2.1.1.ob ?_)
  refine (K_ahead (by omega) hp).conseq (KI.mono ?_)
  rintro r μ1 ⟨rfl, o1, h1⟩
  rw [w_inj (by omega) (by omega) (by omega) (by omega)]
  unfold lat
  refine ⟨fun z => ?_, fun z => ?_⟩
  · rw [if_pos z]
    have hlt := lk_lt z (by decide)
    rw [w_lt (by omega) (by omega) (by omega) (by omega), w_add]
    refine ⟨fun z2 => ?_, fun z2 => ?_⟩
    · rw [if_neg (by omega)]
      refine (K_pass (by omega) h1 hlt).conseq (KV.mono ?_)
      rintro μ2 ⟨o2, h2⟩
      refine (hS (by omega) μ2 _ _ h2).conseq (KI.mono ?_)
      have hr := hG (by omega) (sk tb n p + 1) (by omega)
      rintro x μ3 ⟨o3, h3⟩
      match hP : S (sk tb n p + 1), hr, h3 with
      | .inl q, hr, h3 =>
        obtain ⟨rfl, h4⟩ := h3
        exact ⟨fun _ => ⟨_, rfl, (o1.trans o2).trans o3, rfl, h4⟩, fun q => absurd rfl q⟩
      | .inr (p', c, g), hr, h3 =>
        obtain ⟨rfl, h4⟩ := h3
        refine ⟨fun q => absurd q w01, fun _ => ?_⟩
        refine (K_demand (by omega) h4 (c := 93) (by decide) (by decide)).conseq (KI.mono ?_)
        rintro x μ4 ⟨o4, ⟨e, rfl, h5⟩ | ⟨e, rfl, h5⟩⟩
        · refine ⟨fun q => absurd q w01, fun _ => ⟨_, rfl, ((o1.trans o2).trans o3).trans o4, ?_⟩⟩
          dsimp only
          rw [if_pos e]
          exact ⟨rfl, h5⟩
        · refine ⟨fun _ => ⟨_, rfl, ((o1.trans o2).trans o3).trans o4, ?_⟩, fun q => absurd rfl q⟩
          dsimp only
          rw [if_neg e]
          exact ⟨rfl, h5⟩
    · rw [if_pos (by omega)]
      refine (K_refuse (by omega) h1).conseq (KI.mono ?_)
      rintro x μ2 ⟨rfl, o2, h2⟩
      exact ⟨Or.inl rfl, _, rfl, o1.trans o2, rfl, h2⟩
  · rw [if_neg z]
    refine (K_lix (by omega) h1).conseq (KI.mono ?_)
    rintro r μ2 ⟨rfl, rfl⟩
    have hx := lix_bd (lk tb n p)
    rw [w_inj (by omega) (by omega) (by omega) (by omega)]
    refine ⟨fun z2 => ?_, fun z2 => ?_⟩
    · rw [if_pos z2]
      refine (C_number (by omega) (m := 4) (by omega) h1.1).conseq (KI.mono ?_)
      have en : nm tb n 4 (sk tb n p) = nm tb n 4 p := by unfold nm; rw [sk_sk tb hp.pn]
      rw [en]
      have hb2 := nm_bd (tb := tb) (m := 4) hp.pn
      have hg : sk tb n p + ((nm tb n 4 p).2.2 - 0) = (nm tb n 4 p).1 ∧ 0 ≤ (nm tb n 4 p).2.2 := nmF_go (tb := tb) (n := n) 4 (sk tb n p) 0 0
      have h10 : 10 ^ (nm tb n 4 p).2.2 ≤ 10 ^ 4 := Nat.pow_le_pow_right (by decide) hb2.2.2.2
      rintro r μ3 (⟨e, rfl, rfl⟩ | ⟨e, rfl, rfl⟩)
      · refine ⟨fun _ => ⟨_, rfl, ?_⟩, fun q => absurd rfl q⟩
        have e' : (nm tb n 4 p).2.2 = 0 ∨ ((nm tb n 4 p).1 < n ∧ 48 ≤ tb (nm tb n 4 p).1 ∧ tb (nm tb n 4 p).1 ≤ 57) := e
        rw [if_pos e']
        exact ⟨o1.trans ((f33 _ _ _).trans (f33 _ _ _)), rfl, ((h1.1.mv hb2.2.1).fl _).tn, by rw [xI_sI, if_pos ⟨rfl, rfl⟩]⟩
      · have e0 : (nm tb n 4 p).2.2 ≠ 0 := fun q => e (Or.inl q)
        have e' : ¬ ((nm tb n 4 p).2.2 = 0 ∨ ((nm tb n 4 p).1 < n ∧ 48 ≤ tb (nm tb n 4 p).1 ∧ tb (nm tb n 4 p).1 ≤ 57)) := e
        rw [w_inj (by omega) (by omega) (by omega) (by omega)]
        refine ⟨fun q => absurd q (by omega), fun _ => ?_⟩
        refine (K_add (by omega) (h1.mv (q := (nm tb n 4 p).1) hb2.2.1 (by omega)) (by omega)).conseq (KV.mono ?_)
        rintro μ4 ⟨o4, h4⟩
        refine ⟨_, rfl, ?_⟩
        rw [if_neg e']
        exact ⟨(o1.trans (f33 _ _ _)).trans o4, rfl, h4⟩
    · rw [if_neg z2]
      have hlt : sk tb n p < n := by
        refine Decidable.byContradiction fun q => z2 ?_
        unfold lk ch
        rw [if_neg q]
        decide
      refine (K_pass (by omega) h1 hlt).conseq (KV.mono ?_)
      rintro μ3 ⟨o3, h3⟩
      rw [w_add]
      refine (K_add (by omega) h3 (by omega)).conseq (KV.mono ?_)
      rintro μ4 ⟨o4, h4⟩
      exact ⟨_, rfl, (o1.trans o3).trans o4, rfl, h4⟩
theorem term_G {x2 : Int32} {P : Nat → LR} {h : Nat} (hd : 2 ≤ d) (hA : ∀ (μ : XM) (p : Nat) (l : List Int), LPs μ L n tb p l → Call Γ m_La_readAtom d [.ref L, .ref 33, .int x2] μ (KI (fun x μ' => LRs μ μ' L n tb l (P p) x))) (hG : ∀ p, p ≤ n → LG n p (CG h) (P p)) : ∀ (f : Nat) (μ : XM) (p turn : Nat) (c : List Int) (g : (Nat → Int) → Int), turn + f = 240 → turn < p → p ≤ n → LPs μ L n tb (sk tb n p) (l ++ c) → (∀ x μ', LRs μ μ' L n tb l (lgo tb n 42 47 P f p c g) x → Q (some (.int x)) μ') → G Γ m_La_readTerm (d + 1) (0, 0) Q 19 [.ref L, .ref 33, .int x2, .int (w (lk tb n p)), .int (w turn)] [] μ := by
  intro f
  induction f with
  | zero =>
    intro μ p turn c g hf ht hp h hQ
    have := h.1.2.2.2.1
    omega
  | succ f ih =>
    intro μ p turn c g hf ht hp h hQ
    have hn := h.1.2.2.2.1
    have hs := sk_le tb hp
    have hb := lk_bd (p := p) h.bt
    refine B_La_readTerm_19 h.1.ob h.2.1.1.ob ?_
    rw [w_lt (by omega) (by omega) (by omega) (by omega), w_inj (by omega) (by omega) (by omega) (by omega), w_inj (by omega) (by omega) (by omega) (by omega)]
    refine ⟨fun _ => ⟨fun z1 => ?_, fun z0 => ⟨fun z1 => ?_, fun z1 => ?_⟩⟩, fun z => absurd (by omega) z⟩
    · have e' : lk tb n p = 42 ∨ lk tb n p = 47 := by omega
      have hlt := lk_lt z1 (by decide)
      have hr := hG (sk tb n p + 1) (by omega)
      rw [lgo, if_pos e'] at hQ
      refine (K_pass (by omega) h hlt).conseq (KV.mono ?_)
      rintro μ1 ⟨o1, h1⟩
      refine (hA μ1 _ _ h1).conseq (KI.mono ?_)
      rintro x μ2 ⟨o2, h2⟩
      match hP : P (sk tb n p + 1), hr, h2, hQ with
      | .inl q, hr, h2, hQ =>
        obtain ⟨rfl, h3⟩ := h2
        exact ⟨fun _ => hQ _ _ ⟨o1.trans o2, rfl, h3⟩, fun q => absurd rfl q⟩
      | .inr (p', c', g'), hr, h2, hQ =>
        obtain ⟨rfl, h3⟩ := h2
        obtain ⟨a1, a2, a3, a4⟩ := hr
        have hl0 := h.2.2.2.1
        refine ⟨fun q => absurd q w01, fun _ => ?_⟩
        rw [w_add]
        refine (K_add (by omega) h3 (by simp at hl0 ⊢; omega)).conseq (KV.mono ?_)
        rintro μ3 ⟨o3, h4⟩
        refine (K_ahead (by omega) h4).conseq (KI.mono ?_)
        rintro r μ4 ⟨rfl, o4, h5⟩
        rw [w_add]
        refine ih μ4 p' (turn + 1) _ _ (by omega) (by omega) a2 ?_ (fun x μ5 h6 => hQ x μ5 ⟨((o1.trans o2).trans (o3.trans o4)).trans h6.1, h6.2⟩)
        simpa [List.append_assoc] using h5
    · have e' : lk tb n p = 42 ∨ lk tb n p = 47 := by omega
      have hlt := lk_lt z1 (by decide)
      have hr := hG (sk tb n p + 1) (by omega)
      rw [lgo, if_pos e'] at hQ
      refine (K_pass (by omega) h hlt).conseq (KV.mono ?_)
      rintro μ1 ⟨o1, h1⟩
      refine (hA μ1 _ _ h1).conseq (KI.mono ?_)
      rintro x μ2 ⟨o2, h2⟩
      match hP : P (sk tb n p + 1), hr, h2, hQ with
      | .inl q, hr, h2, hQ =>
        obtain ⟨rfl, h3⟩ := h2
        exact ⟨fun _ => hQ _ _ ⟨o1.trans o2, rfl, h3⟩, fun q => absurd rfl q⟩
      | .inr (p', c', g'), hr, h2, hQ =>
        obtain ⟨rfl, h3⟩ := h2
        obtain ⟨a1, a2, a3, a4⟩ := hr
        have hl0 := h.2.2.2.1
        refine ⟨fun q => absurd q w01, fun _ => ?_⟩
        rw [w_add]
        refine (K_add (by omega) h3 (by simp at hl0 ⊢; omega)).conseq (KV.mono ?_)
        rintro μ3 ⟨o3, h4⟩
        refine (K_ahead (by omega) h4).conseq (KI.mono ?_)
        rintro r μ4 ⟨rfl, o4, h5⟩
        rw [w_add]
        refine ih μ4 p' (turn + 1) _ _ (by omega) (by omega) a2 ?_ (fun x μ5 h6 => hQ x μ5 ⟨((o1.trans o2).trans (o3.trans o4)).trans h6.1, h6.2⟩)
        simpa [List.append_assoc] using h5
    · have e' : ¬ (lk tb n p = 42 ∨ lk tb n p = 47) := by omega
      rw [lgo, if_neg e'] at hQ
      exact hQ _ _ ⟨fof.rf _ _, rfl, h⟩
theorem C_readTerm {x2 : Int32} {P : Nat → LR} {h : Nat} (hd : 3 ≤ d) (hA : ∀ (μ : XM) (p : Nat) (l : List Int), LPs μ L n tb p l → Call Γ m_La_readAtom (d - 1) [.ref L, .ref 33, .int x2] μ (KI (fun x μ' => LRs μ μ' L n tb l (P p) x))) (hG : ∀ p, p ≤ n → LG n p (CG h) (P p)) (hp : LPs μ L n tb p l) : Call Γ m_La_readTerm d [.ref L, .ref 33, .int x2] μ (KI (fun x μ' => LRs μ μ' L n tb l (lbeh tb n 42 47 P (P p)) x)) := by
  obtain ⟨d, rfl⟩ : ∃ e, d = e + 1 := ⟨d - 1, by omega⟩
  rw [Nat.add_sub_cancel] at hA
  refine Call.of ok_La_readTerm (Nat.le_of_ble_eq_true rfl) (B_La_readTerm_0 hp.2.1.1.ob hp.1.ob ?_)
  refine (hA μ p l hp).conseq (KI.mono ?_)
  have hr := hG p hp.pn
  rintro x μ1 ⟨o1, h1⟩
  match hP : P p, hr, h1 with
  | .inl q, hr, h1 =>
    obtain ⟨rfl, h2⟩ := h1
    exact ⟨fun _ => ⟨_, rfl, o1, rfl, h2⟩, fun q => absurd rfl q⟩
  | .inr (p', c, g), hr, h1 =>
    obtain ⟨rfl, h2⟩ := h1
    refine ⟨fun q => absurd q w01, fun _ => ?_⟩
    refine (K_ahead (by omega) h2).conseq (KI.mono ?_)
    rintro r μ2 ⟨rfl, o2, h3⟩
    exact term_G (turn := 0) (by omega) hA hG 240 μ2 p' c g (by omega) (by have := hr.1; omega) hr.2.1 h3 (fun x μ3 h4 => ⟨_, rfl, (o1.trans o2).trans h4.1, h4.2⟩)
theorem sum_G {x2 : Int32} {P : Nat → LR} {h : Nat} (hd : 2 ≤ d) (hA : ∀ (μ : XM) (p : Nat) (l : List Int), LPs μ L n tb p l → Call Γ m_La_readTerm d [.ref L, .ref 33, .int x2] μ (KI (fun x μ' => LRs μ μ' L n tb l (P p) x))) (hG : ∀ p, p ≤ n → LG n p (CG h) (P p)) : ∀ (f : Nat) (μ : XM) (p turn : Nat) (c : List Int) (g : (Nat → Int) → Int), turn + f = 240 → turn < p → p ≤ n → LPs μ L n tb (sk tb n p) (l ++ c) → (∀ x μ', LRs μ μ' L n tb l (lgo tb n 43 45 P f p c g) x → Q (some (.int x)) μ') → G Γ m_La_readSum (d + 1) (0, 0) Q 19 [.ref L, .ref 33, .int x2, .int (w (lk tb n p)), .int (w turn)] [] μ := by
  intro f
  induction f with
  | zero =>
    intro μ p turn c g hf ht hp h hQ
    have := h.1.2.2.2.1
    omega
  | succ f ih =>
    intro μ p turn c g hf ht hp h hQ
    have hn := h.1.2.2.2.1
    have hs := sk_le tb hp
    have hb := lk_bd (p := p) h.bt
    refine B_La_readSum_19 h.1.ob h.2.1.1.ob ?_
    rw [w_lt (by omega) (by omega) (by omega) (by omega), w_inj (by omega) (by omega) (by omega) (by omega), w_inj (by omega) (by omega) (by omega) (by omega)]
    refine ⟨fun _ => ⟨fun z1 => ?_, fun z0 => ⟨fun z1 => ?_, fun z1 => ?_⟩⟩, fun z => absurd (by omega) z⟩
    · have e' : lk tb n p = 43 ∨ lk tb n p = 45 := by omega
      have hlt := lk_lt z1 (by decide)
      have hr := hG (sk tb n p + 1) (by omega)
      rw [lgo, if_pos e'] at hQ
      refine (K_pass (by omega) h hlt).conseq (KV.mono ?_)
      rintro μ1 ⟨o1, h1⟩
      refine (hA μ1 _ _ h1).conseq (KI.mono ?_)
      rintro x μ2 ⟨o2, h2⟩
      match hP : P (sk tb n p + 1), hr, h2, hQ with
      | .inl q, hr, h2, hQ =>
        obtain ⟨rfl, h3⟩ := h2
        exact ⟨fun _ => hQ _ _ ⟨o1.trans o2, rfl, h3⟩, fun q => absurd rfl q⟩
      | .inr (p', c', g'), hr, h2, hQ =>
        obtain ⟨rfl, h3⟩ := h2
        obtain ⟨a1, a2, a3, a4⟩ := hr
        have hl0 := h.2.2.2.1
        refine ⟨fun q => absurd q w01, fun _ => ?_⟩
        rw [w_add]
        refine (K_add (by omega) h3 (by simp at hl0 ⊢; omega)).conseq (KV.mono ?_)
        rintro μ3 ⟨o3, h4⟩
        refine (K_ahead (by omega) h4).conseq (KI.mono ?_)
        rintro r μ4 ⟨rfl, o4, h5⟩
        rw [w_add]
        refine ih μ4 p' (turn + 1) _ _ (by omega) (by omega) a2 ?_ (fun x μ5 h6 => hQ x μ5 ⟨((o1.trans o2).trans (o3.trans o4)).trans h6.1, h6.2⟩)
        simpa [List.append_assoc] using h5
    · have e' : lk tb n p = 43 ∨ lk tb n p = 45 := by omega
      have hlt := lk_lt z1 (by decide)
      have hr := hG (sk tb n p + 1) (by omega)
      rw [lgo, if_pos e'] at hQ
      refine (K_pass (by omega) h hlt).conseq (KV.mono ?_)
      rintro μ1 ⟨o1, h1⟩
      refine (hA μ1 _ _ h1).conseq (KI.mono ?_)
      rintro x μ2 ⟨o2, h2⟩
      match hP : P (sk tb n p + 1), hr, h2, hQ with
      | .inl q, hr, h2, hQ =>
        obtain ⟨rfl, h3⟩ := h2
        exact ⟨fun _ => hQ _ _ ⟨o1.trans o2, rfl, h3⟩, fun q => absurd rfl q⟩
      | .inr (p', c', g'), hr, h2, hQ =>
        obtain ⟨rfl, h3⟩ := h2
        obtain ⟨a1, a2, a3, a4⟩ := hr
        have hl0 := h.2.2.2.1
        refine ⟨fun q => absurd q w01, fun _ => ?_⟩
        rw [w_add]
        refine (K_add (by omega) h3 (by simp at hl0 ⊢; omega)).conseq (KV.mono ?_)
        rintro μ3 ⟨o3, h4⟩
        refine (K_ahead (by omega) h4).conseq (KI.mono ?_)
        rintro r μ4 ⟨rfl, o4, h5⟩
        rw [w_add]
        refine ih μ4 p' (turn + 1) _ _ (by omega) (by omega) a2 ?_ (fun x μ5 h6 => hQ x μ5 ⟨((o1.trans o2).trans (o3.trans o4)).trans h6.1, h6.2⟩)
        simpa [List.append_assoc] using h5
    · have e' : ¬ (lk tb n p = 43 ∨ lk tb n p = 45) := by omega
      rw [lgo, if_neg e'] at hQ
      exact hQ _ _ ⟨fof.rf _ _, rfl, h⟩
theorem C_readSum {x2 : Int32} {P : Nat → LR} {h : Nat} (hd : 3 ≤ d) (hA : ∀ (μ : XM) (p : Nat) (l : List Int), LPs μ L n tb p l → Call Γ m_La_readTerm (d - 1) [.ref L, .ref 33, .int x2] μ (KI (fun x μ' => LRs μ μ' L n tb l (P p) x))) (hG : ∀ p, p ≤ n → LG n p (CG h) (P p)) (hp : LPs μ L n tb p l) : Call Γ m_La_readSum d [.ref L, .ref 33, .int x2] μ (KI (fun x μ' => LRs μ μ' L n tb l (lbeh tb n 43 45 P (P p)) x)) := by
  obtain ⟨d, rfl⟩ : ∃ e, d = e + 1 := ⟨d - 1, by omega⟩
  rw [Nat.add_sub_cancel] at hA
  refine Call.of ok_La_readSum (Nat.le_of_ble_eq_true rfl) (B_La_readSum_0 hp.2.1.1.ob hp.1.ob ?_)
  refine (hA μ p l hp).conseq (KI.mono ?_)
  have hr := hG p hp.pn
  rintro x μ1 ⟨o1, h1⟩
  match hP : P p, hr, h1 with
  | .inl q, hr, h1 =>
    obtain ⟨rfl, h2⟩ := h1
    exact ⟨fun _ => ⟨_, rfl, o1, rfl, h2⟩, fun q => absurd rfl q⟩
  | .inr (p', c, g), hr, h1 =>
    obtain ⟨rfl, h2⟩ := h1
    refine ⟨fun q => absurd q w01, fun _ => ?_⟩
    refine (K_ahead (by omega) h2).conseq (KI.mono ?_)
    rintro r μ2 ⟨rfl, o2, h3⟩
    exact sum_G (turn := 0) (by omega) hA hG 240 μ2 p' c g (by omega) (by have := hr.1; omega) hr.2.1 h3 (fun x μ3 h4 => ⟨_, rfl, (o1.trans o2).trans h4.1, h4.2⟩)
theorem C_lsm {k h : Nat} {S : Nat → LR} (hk : k ≤ 6) (hd : 5 ≤ d) (hS : 0 < k → ∀ (μ : XM) (p : Nat) (l : List Int), LPs μ L n tb p l → Call Γ m_La_readSum (d - 3) [.ref L, .ref 33, .int (w (6 - k + 1))] μ (KI (fun x μ' => LRs μ μ' L n tb l (S p) x))) (hG : 0 < k → ∀ p, p ≤ n → LG n p (CG h) (S p)) (hh : 1 ≤ h) (hp : LPs μ L n tb p l) : Call Γ m_La_readSum d [.ref L, .ref 33, .int (w (6 - k))] μ (KI (fun x μ' => LRs μ μ' L n tb l (lsm tb n k S p) x)) := by
  obtain ⟨d, rfl⟩ : ∃ e, d = e + 3 := ⟨d - 3, by omega⟩
  rw [Nat.add_sub_cancel] at hS
  have ha := lat_LG (tb := tb) hG hh
  refine C_readSum (P := ltm tb n k S) (h := h + 1) (by omega) (fun μ p l h1 => ?_) (fun p hp => lbeh_LG (by decide) (by decide) ha (fun s c g c' g' hs a b => CG.bin a b (by unfold JS; omega) (by omega)) ((ha p hp).imp (fun _ _ a => a.up (by omega)))) hp
  refine C_readTerm (P := lat tb n k S) (d := d + 2) (h := h) (by omega) (fun μ p l h2 => ?_) ha h1
  exact C_readAtom (d := d + 1) hk (by omega) hS hG h2
theorem C_lS : ∀ (k : Nat) (d : Nat) (μ : XM) (p : Nat) (l : List Int), k ≤ 6 → 5 + 3 * k ≤ d → LPs μ L n tb p l → Call Γ m_La_readSum d [.ref L, .ref 33, .int (w (6 - k))] μ (KI (fun x μ' => LRs μ μ' L n tb l (lS tb n k p) x))
  | 0, d, μ, p, l, hk, hd, hp => by
    have := C_lsm (k := 0) (h := 1) (S := fun p => .inl p) (by omega) (by omega) (fun q => absurd q (by omega)) (fun q => absurd q (by omega)) (by omega) (Γ := Γ) (d := d) hp
    exact this
  | k + 1, d, μ, p, l, hk, hd, hp => by
    have := C_lsm (k := k + 1) (h := 3 + 2 * k) (S := lS tb n k) (Γ := Γ) (d := d) (by omega) (by omega) (fun _ μ p l h1 => ?_) (fun _ => lS_LG k) (by omega) hp
    · exact this
    · have := C_lS k (d - 3) μ p l (by omega) (by omega) h1
      rw [show ((6 : Int) - (k + 1 : Nat) + 1) = 6 - k by omega]
      exact this
end LC
