/-! THE REFERENCE GOES THROUGH A TEXT: conditions, clauses, the whole -/
def MRb (μ μ' : XM) (a o n : Nat) (tb : Nat → Nat) (e : Nat → Int) (k : Nat) (r : LR) (x : Int32) : Prop := (x = w 0 ∨ x = w 1) ∧ MRs μ μ' a o n tb e k r x
section MJ
variable {Γ : XG} {d a o n k p : Nat} {tb : Nat → Nat} {e : Nat → Int} {μ : XM} {Q : Option Value → XM → Prop}
theorem C_isSign (hd : 1 ≤ d) {c : Int} (c1 : -1 ≤ c) (c2 : c ≤ 255) : Call Γ m_MO_isSign d [.int (w c)] μ (KI (fun r μ' => μ' = μ ∧ (((c = 61 ∨ c = 60 ∨ c = 62) ∧ r = w 1) ∨ (¬ (c = 61 ∨ c = 60 ∨ c = 62) ∧ r = w 0)))) := by
  obtain ⟨d, rfl⟩ : ∃ e, d = e + 1 := ⟨d - 1, by omega⟩
  refine Call.of ok_MO_isSign (Nat.le_of_ble_eq_true rfl) (B_MO_isSign_0 ?_)
  rw [w_inj (by omega) (by omega) (by omega) (by omega), w_inj (by omega) (by omega) (by omega) (by omega), w_inj (by omega) (by omega) (by omega) (by omega)]
  exact ⟨fun q => ⟨_, rfl, rfl, Or.inl ⟨by omega, rfl⟩⟩, fun q => ⟨fun q2 => ⟨_, rfl, rfl, Or.inl ⟨by omega, rfl⟩⟩, fun q2 => ⟨fun q3 => ⟨_, rfl, rfl, Or.inl ⟨by omega, rfl⟩⟩, fun q3 => ⟨_, rfl, rfl, Or.inr ⟨by omega, rfl⟩⟩⟩⟩⟩
theorem K_cmp {S : Nat → LR} {h h' : Nat} (hd : 2 ≤ d) (hS : ∀ (μ : XM) (p : Nat), MT μ a o n tb e p k → Call Γ m_MO_sum d [.ref 547] μ (KI (fun x μ' => MRs μ μ' a o n tb e k (S p) x))) (hG : ∀ p, p ≤ n → LG n p (CG h) (S p)) {c : List Int} {g : (Nat → Int) → Int} (hg : CG h' c g) (hp : MT μ a o n tb e p k) (hQ : ∀ x μ', MRb μ μ' a o n tb e k (lcr tb n S p c g) x → Q (some (.int x)) μ') :
    (xI μ 547 11 = w (-1) → Call Γ m_MO_look d [.ref 547] μ (KI (fun v2 μ2 => Call Γ m_MO_isSign d [.int v2] μ2 (KI (fun v3 μ3 => ((v3 = w 0 → Call Γ m_MO_fails d [.ref 547] μ3 (KI (fun v6 μ6 => ((v6 = w 0 ∨ v6 = w 1) ∧ Q (some (.int v6)) μ6)))) ∧ (¬ v3 = w 0 → ∀ μ4, μ4 = sI μ3 547 10 ((xI μ3 547 10) + (w 1)) → Call Γ m_MO_sum d [.ref 547] μ4 (KI (fun v5 μ5 => ((v2 = w 61 → ((w (g e) = v5 → Q (some (.int (w 1))) μ5) ∧ (¬ w (g e) = v5 → Q (some (.int (w 0))) μ5))) ∧ (¬ v2 = w 61 → ((v2 = w 60 → ((w (g e) < v5 → Q (some (.int (w 1))) μ5) ∧ (¬ w (g e) < v5 → Q (some (.int (w 0))) μ5))) ∧ (¬ v2 = w 60 → ((v5 < w (g e) → Q (some (.int (w 1))) μ5) ∧ (¬ v5 < w (g e) → Q (some (.int (w 0))) μ5))))))))))))))) ∧ (¬ xI μ 547 11 = w (-1) → Q (some (.int (w 0))) μ) := by
  have hn := hp.1.n2
  have hs := sk_le tb hp.2.2.2.2.1
  have hb := lk_bd (p := p) hp.1.bt
  have he := hp.1.2.2.2.2.2.2.2.2.1
  have vb := (hg.2 e he).1
  refine ⟨fun _ => ?_, fun q => absurd hp.2.2.1 q⟩
  refine (C_look (by omega) hp).conseq (KI.mono ?_)
  rintro r μ1 ⟨rfl, o1, h1⟩
  refine (C_isSign (by omega) hb.1 hb.2).conseq (KI.mono ?_)
  unfold lcr at hQ
  rintro r μ2 ⟨rfl, ⟨e2, rfl⟩ | ⟨e2, rfl⟩⟩
  · refine ⟨fun q => absurd q w01, fun _ => ?_⟩
    rw [if_pos e2] at hQ
    have hlt : sk tb n p < n := by
      rcases e2 with e2 | e2 | e2
      · exact lk_lt e2 (by decide)
      · exact lk_lt e2 (by decide)
      · exact lk_lt e2 (by decide)
    rintro μ4 rfl
    rw [h1.2.1, w_add, show ((sk tb n p : Nat) : Int) + 1 = ((sk tb n p + 1 : Nat) : Int) by omega]
    have h4 := h1.mv (q := sk tb n p + 1) (by omega)
    have o4 := o1.trans (mf _ (w ((sk tb n p + 1 : Nat) : Int)) (Or.inl rfl))
    refine (hS _ _ h4).conseq (KI.mono ?_)
    have hr := hG (sk tb n p + 1) (by omega)
    rw [w_inj (by omega) (by omega) (by omega) (by omega), w_inj (by omega) (by omega) (by omega) (by omega)]
    rintro x μ5 ⟨o5, h5⟩
    match hP : S (sk tb n p + 1), hr, h5, hQ with
    | .inl q, hr, h5, hQ =>
      have f1 := hQ (w 1) μ5 ⟨Or.inr rfl, o4.trans o5, h5⟩
      have f0 := hQ (w 0) μ5 ⟨Or.inl rfl, o4.trans o5, h5⟩
      exact ⟨fun _ => ⟨fun _ => f1, fun _ => f0⟩, fun _ => ⟨fun _ => ⟨fun _ => f1, fun _ => f0⟩, fun _ => ⟨fun _ => f1, fun _ => f0⟩⟩⟩
    | .inr (p', c', g'), hr, h5, hQ =>
      obtain ⟨rfl, h6⟩ := h5
      obtain ⟨a1, a2, a3, a4⟩ := hr
      have vb2 := (a4.2 e he).1
      rw [w_inj (by omega) (by omega) (by omega) (by omega), w_lt (by omega) (by omega) (by omega) (by omega), w_lt (by omega) (by omega) (by omega) (by omega)]
      have fin : ∀ v : Int, jnd (lk tb n p) (g e) (g' e) = v → (v = 0 ∨ v = 1) → Q (some (.int (w v))) μ5 := fun v hv h01 => by
        refine hQ (w v) μ5 ⟨?_, o4.trans o5, ?_, h6⟩
        · rcases h01 with rfl | rfl
          · exact Or.inl rfl
          · exact Or.inr rfl
        · show w v = w (jnd _ _ _)
          rw [hv]
      refine ⟨fun z => ⟨fun y => ?_, fun y => ?_⟩, fun z => ⟨fun z2 => ⟨fun y => ?_, fun y => ?_⟩, fun z2 => ⟨fun y => ?_, fun y => ?_⟩⟩⟩
      · exact fin 1 (by rw [jnd_cmp e2, if_pos (by rw [if_pos z]; exact y)]) (Or.inr rfl)
      · exact fin 0 (by rw [jnd_cmp e2, if_neg (by rw [if_pos z]; exact y)]) (Or.inl rfl)
      · exact fin 1 (by rw [jnd_cmp e2, if_pos (by rw [if_neg z, if_pos z2]; exact y)]) (Or.inr rfl)
      · exact fin 0 (by rw [jnd_cmp e2, if_neg (by rw [if_neg z, if_pos z2]; exact y)]) (Or.inl rfl)
      · exact fin 1 (by rw [jnd_cmp e2, if_pos (by rw [if_neg z, if_neg z2]; exact y)]) (Or.inr rfl)
      · exact fin 0 (by rw [jnd_cmp e2, if_neg (by rw [if_neg z, if_neg z2]; exact y)]) (Or.inl rfl)
  · refine ⟨fun _ => ?_, fun q => absurd rfl q⟩
    rw [if_neg e2] at hQ
    refine (C_fails (by omega) h1.1 h1.2.1 h1.2.2.1).conseq (KI.mono ?_)
    rintro r μ3 ⟨rfl, o3, rfl⟩
    exact ⟨Or.inl rfl, hQ _ _ ⟨Or.inl rfl, o1.trans o3, by rw [xI_sI, if_pos ⟨rfl, rfl⟩]⟩⟩
theorem C_cmp1 {S : Nat → LR} {h h' : Nat} (hd : 3 ≤ d) (hS : ∀ (μ : XM) (p : Nat), MT μ a o n tb e p k → Call Γ m_MO_sum (d - 1) [.ref 547] μ (KI (fun x μ' => MRs μ μ' a o n tb e k (S p) x))) (hG : ∀ p, p ≤ n → LG n p (CG h) (S p)) {c : List Int} {g : (Nat → Int) → Int} (hg : CG h' c g) (hp : MT μ a o n tb e p k) : Call Γ m_MO_compares d [.ref 547, .int (w 1), .int (w (g e))] μ (KI (fun x μ' => MRb μ μ' a o n tb e k (lcr tb n S p c g) x)) := by
  obtain ⟨d, rfl⟩ : ∃ e, d = e + 1 := ⟨d - 1, by omega⟩
  rw [Nat.add_sub_cancel] at hS
  refine Call.of ok_MO_compares (Nat.le_of_ble_eq_true rfl) (B_MO_compares_0 hp.1.o ?_)
  exact ⟨fun q => absurd q w01, fun _ => K_cmp (by omega) hS hG hg hp (fun x μ' q => ⟨_, rfl, q⟩)⟩
theorem C_cmp0 {S : Nat → LR} {h : Nat} (hd : 3 ≤ d) (hS : ∀ (μ : XM) (p : Nat), MT μ a o n tb e p k → Call Γ m_MO_sum (d - 1) [.ref 547] μ (KI (fun x μ' => MRs μ μ' a o n tb e k (S p) x))) (hG : ∀ p, p ≤ n → LG n p (CG h) (S p)) (hp : MT μ a o n tb e p k) : Call Γ m_MO_compares d [.ref 547, .int (w 0), .int (w 0)] μ (KI (fun x μ' => MRb μ μ' a o n tb e k (match S p with
    | .inl q => .inl q
    | .inr (p', c, g) => lcr tb n S p' c g) x)) := by
  obtain ⟨d, rfl⟩ : ∃ e, d = e + 1 := ⟨d - 1, by omega⟩
  rw [Nat.add_sub_cancel] at hS
  have hn := hp.1.n2
  refine Call.of ok_MO_compares (Nat.le_of_ble_eq_true rfl) (B_MO_compares_0 hp.1.o ?_)
  refine ⟨fun _ => ?_, fun q => absurd rfl q⟩
  refine (hS μ p hp).conseq (KI.mono ?_)
  have hr := hG p hp.2.2.2.2.1
  rintro x μ1 ⟨o1, h1⟩
  match hP : S p, hr, h1 with
  | .inl q, hr, h1 =>
    have hq : q ≤ n := hr
    exact ⟨fun z => absurd (h1.symm.trans z) (wq (by omega)), fun _ => ⟨_, rfl, Or.inl rfl, o1, h1⟩⟩
  | .inr (p', c, g), hr, h1 =>
    obtain ⟨rfl, h2⟩ := h1
    obtain ⟨a1, a2, a3, a4⟩ := hr
    exact K_cmp (by omega) hS hG a4 h2 (fun x μ' q => ⟨_, rfl, q.1, o1.trans q.2.1, q.2.2⟩)
theorem partM_G {P : Nat → LR} {h : Nat} (hd : 1 ≤ d) (he : EV e) (hA : ∀ (μ : XM) (p : Nat), MT μ a o n tb e p k → Call Γ m_MO_unit (d + 1) [.ref 547] μ (KI (fun x μ' => MRb μ μ' a o n tb e k (P p) x))) (hG : ∀ p, p ≤ n → LG n p (CT h) (P p)) : ∀ (f : Nat) (μ : XM) (p turn : Nat) (c : List Int) (g : (Nat → Int) → Int), turn + f = 240 → turn < p → MT μ a o n tb e p k → (g e = 0 ∨ g e = 1) → (∀ x μ', MRb μ μ' a o n tb e k (lgo tb n 38 38 P f p c g) x → Q (some (.int x)) μ') → G Γ m_MO_part (d + 2) (0, 0) Q 18 [.ref 547, jk, jk, .int (w (g e))] [] μ := by
  intro f
  induction f with
  | zero =>
    intro μ p turn c g hf ht h vb hQ
    have := h.1.n2
    have := h.2.2.2.2.1
    omega
  | succ f ih =>
    intro μ p turn c g hf ht h vb hQ
    have hn := h.1.n2
    have hp := h.2.2.2.2.1
    have hs := sk_le tb hp
    have hb := lk_bd (p := p) h.1.bt
    have v01 : w (g e) = w 0 ∨ w (g e) = w 1 := by
      rcases vb with z | z
      · exact Or.inl (by rw [z])
      · exact Or.inr (by rw [z])
    refine B_MO_part_18 h.1.o ?_
    refine ⟨fun _ => ?_, fun z => absurd h.2.2.1 z⟩
    refine (C_look (by omega) h).conseq (KI.mono ?_)
    rintro r μ1 ⟨rfl, o1, h1⟩
    rw [w_inj (by omega) (by omega) (by omega) (by omega)]
    refine ⟨fun z => ?_, fun z => ?_⟩
    · have hlt := lk_lt z (by decide)
      rw [lgo, if_pos (Or.inl z)] at hQ
      rintro μ2 rfl
      rw [h1.2.1, w_add, show ((sk tb n p : Nat) : Int) + 1 = ((sk tb n p + 1 : Nat) : Int) by omega]
      have h2 := h1.mv (q := sk tb n p + 1) (by omega)
      have o2 := o1.trans (mf _ (w ((sk tb n p + 1 : Nat) : Int)) (Or.inl rfl))
      refine (hA _ _ h2).conseq (KI.mono ?_)
      have hr := hG (sk tb n p + 1) (by omega)
      rintro x μ3 ⟨hx, o3, h3⟩
      match hP : P (sk tb n p + 1), hr, h3, hQ with
      | .inl q, hr, h4, hQ =>
        have hq : q ≤ n := hr
        have bad : ∀ (v : Int32), (v = w 0 ∨ v = w 1) → G Γ m_MO_part (d + 2) (0, 0) Q 18 [.ref 547, jk, jk, .int v] [] μ3 := fun v hv => by
          refine B_MO_part_18 (h2.1.m o3).o ?_
          exact ⟨fun z => absurd (h4.symm.trans z) (wq (by omega)), fun _ => ⟨hv, hQ v μ3 ⟨hv, o2.trans o3, h4⟩⟩⟩
        exact ⟨fun _ => bad _ (Or.inl rfl), fun _ => ⟨fun _ => bad _ (Or.inl rfl), fun _ => bad _ (Or.inr rfl)⟩⟩
      | .inr (p', c', g'), hr, h3, hQ =>
        obtain ⟨rfl, h4⟩ := h3
        obtain ⟨a1, a2, a3, a4⟩ := hr
        have vb2 := a4.2 e he
        have fin : ∀ (v : Int), v = jnd 38 (g e) (g' e) → (v = 0 ∨ v = 1) → G Γ m_MO_part (d + 2) (0, 0) Q 18 [.ref 547, jk, jk, .int (w v)] [] μ3 := fun v ev hv => by
          have := ih μ3 p' (turn + 1) _ (fun e => jnd (lk tb n p) (g e) (g' e)) (by omega) (by omega) h4 (by show jnd _ _ _ = 0 ∨ jnd _ _ _ = 1; rw [z, ← ev]; exact hv) (fun x μ5 h6 => hQ x μ5 ⟨h6.1, (o2.trans o3).trans h6.2.1, h6.2.2⟩)
          rw [ev]
          rw [z] at this
          exact this
        rw [w_inj (by omega) (by omega) (by omega) (by omega)]
        refine ⟨fun y => fin 0 (by rw [jnd_and vb vb2, if_pos y]) (Or.inl rfl), fun y => ?_⟩
        rw [w_inj (by omega) (by omega) (by omega) (by omega)]
        exact ⟨fun y2 => fin 0 (by rw [jnd_and vb vb2, if_neg y, y2]) (Or.inl rfl), fun y2 => fin 1 (by rw [jnd_and vb vb2, if_neg y]; omega) (Or.inr rfl)⟩
    · rw [lgo, if_neg (fun q => q.elim z z)] at hQ
      exact ⟨v01, hQ _ _ ⟨v01, o1, rfl, h1⟩⟩
theorem partM_go {P : Nat → LR} {h : Nat} (hd : 1 ≤ d) (hA : ∀ (μ : XM) (p : Nat), MT μ a o n tb e p k → Call Γ m_MO_unit (d + 1) [.ref 547] μ (KI (fun x μ' => MRb μ μ' a o n tb e k (P p) x))) (hG : ∀ p, p ≤ n → LG n p (CT h) (P p)) {r : LR} (hM : MS μ a o n tb e) {p0 : Nat} (hr : LG n p0 (CT h) r) {x : Int32} {μ1 : XM} (h1 : MRb μ μ1 a o n tb e k r x) (hQ : ∀ x μ', MRb μ μ' a o n tb e k (lbeh tb n 38 38 P r) x → Q (some (.int x)) μ') : G Γ m_MO_part (d + 2) (0, 0) Q 18 [.ref 547, jk, jk, .int x] [] μ1 := by
  have hn := hM.n2
  have he := hM.2.2.2.2.2.2.2.2.1
  obtain ⟨hx, o1, h2⟩ := h1
  match r, hr, h2, hQ with
  | .inl q, hr, h2, hQ =>
    have hq : q ≤ n := hr
    refine B_MO_part_18 (hM.m o1).o ?_
    exact ⟨fun z => absurd (h2.symm.trans z) (wq (by omega)), fun _ => ⟨hx, hQ _ _ ⟨hx, o1, h2⟩⟩⟩
  | .inr (p', c, g), hr, h2, hQ =>
    obtain ⟨rfl, h3⟩ := h2
    obtain ⟨a1, a2, a3, a4⟩ := hr
    exact partM_G (turn := 0) hd he hA hG 240 μ1 p' c g (by omega) (by omega) h3 (a4.2 e he) (fun x μ3 h4 => hQ x μ3 ⟨h4.1, o1.trans h4.2.1, h4.2.2⟩)
theorem conditionM_G {P : Nat → LR} {h : Nat} (hd : 1 ≤ d) (he : EV e) (hA : ∀ (μ : XM) (p : Nat), MT μ a o n tb e p k → Call Γ m_MO_part (d + 1) [.ref 547, .int (w 0), .int (w 0)] μ (KI (fun x μ' => MRb μ μ' a o n tb e k (P p) x))) (hG : ∀ p, p ≤ n → LG n p (CT h) (P p)) : ∀ (f : Nat) (μ : XM) (p turn : Nat) (c : List Int) (g : (Nat → Int) → Int), turn + f = 240 → turn < p → MT μ a o n tb e p k → (g e = 0 ∨ g e = 1) → (∀ x μ', MRb μ μ' a o n tb e k (lgo tb n 124 124 P f p c g) x → Q (some (.int x)) μ') → G Γ m_MO_condition (d + 2) (0, 0) Q 7 [.ref 547, jk, jk, .int (w (g e))] [] μ := by
  intro f
  induction f with
  | zero =>
    intro μ p turn c g hf ht h vb hQ
    have := h.1.n2
    have := h.2.2.2.2.1
    omega
  | succ f ih =>
    intro μ p turn c g hf ht h vb hQ
    have hn := h.1.n2
    have hp := h.2.2.2.2.1
    have hs := sk_le tb hp
    have hb := lk_bd (p := p) h.1.bt
    have v01 : w (g e) = w 0 ∨ w (g e) = w 1 := by
      rcases vb with z | z
      · exact Or.inl (by rw [z])
      · exact Or.inr (by rw [z])
    refine B_MO_condition_7 h.1.o ?_
    refine ⟨fun _ => ?_, fun z => absurd h.2.2.1 z⟩
    refine (C_look (by omega) h).conseq (KI.mono ?_)
    rintro r μ1 ⟨rfl, o1, h1⟩
    rw [w_inj (by omega) (by omega) (by omega) (by omega)]
    refine ⟨fun z => ?_, fun z => ?_⟩
    · have hlt := lk_lt z (by decide)
      rw [lgo, if_pos (Or.inl z)] at hQ
      rintro μ2 rfl
      rw [h1.2.1, w_add, show ((sk tb n p : Nat) : Int) + 1 = ((sk tb n p + 1 : Nat) : Int) by omega]
      have h2 := h1.mv (q := sk tb n p + 1) (by omega)
      have o2 := o1.trans (mf _ (w ((sk tb n p + 1 : Nat) : Int)) (Or.inl rfl))
      refine (hA _ _ h2).conseq (KI.mono ?_)
      have hr := hG (sk tb n p + 1) (by omega)
      rintro x μ3 ⟨hx, o3, h3⟩
      match hP : P (sk tb n p + 1), hr, h3, hQ with
      | .inl q, hr, h4, hQ =>
        have hq : q ≤ n := hr
        have bad : ∀ (v : Int32), (v = w 0 ∨ v = w 1) → G Γ m_MO_condition (d + 2) (0, 0) Q 7 [.ref 547, jk, jk, .int v] [] μ3 := fun v hv => by
          refine B_MO_condition_7 (h2.1.m o3).o ?_
          exact ⟨fun z => absurd (h4.symm.trans z) (wq (by omega)), fun _ => ⟨hv, hQ v μ3 ⟨hv, o2.trans o3, h4⟩⟩⟩
        exact ⟨fun _ => ⟨fun _ => bad _ (Or.inl rfl), fun _ => bad _ (Or.inr rfl)⟩, fun _ => bad _ (Or.inr rfl)⟩
      | .inr (p', c', g'), hr, h3, hQ =>
        obtain ⟨rfl, h4⟩ := h3
        obtain ⟨a1, a2, a3, a4⟩ := hr
        have vb2 := a4.2 e he
        have fin : ∀ (v : Int), v = jnd 124 (g e) (g' e) → (v = 0 ∨ v = 1) → G Γ m_MO_condition (d + 2) (0, 0) Q 7 [.ref 547, jk, jk, .int (w v)] [] μ3 := fun v ev hv => by
          have := ih μ3 p' (turn + 1) _ (fun e => jnd (lk tb n p) (g e) (g' e)) (by omega) (by omega) h4 (by show jnd _ _ _ = 0 ∨ jnd _ _ _ = 1; rw [z, ← ev]; exact hv) (fun x μ5 h6 => hQ x μ5 ⟨h6.1, (o2.trans o3).trans h6.2.1, h6.2.2⟩)
          rw [ev]
          rw [z] at this
          exact this
        rw [w_inj (by omega) (by omega) (by omega) (by omega)]
        refine ⟨fun y => ?_, fun y => fin 1 (by rw [jnd_or vb vb2, if_neg y]) (Or.inr rfl)⟩
        rw [w_inj (by omega) (by omega) (by omega) (by omega)]
        exact ⟨fun y2 => fin 0 (by rw [jnd_or vb vb2, if_pos y, y2]) (Or.inl rfl), fun y2 => fin 1 (by rw [jnd_or vb vb2, if_pos y]; omega) (Or.inr rfl)⟩
    · rw [lgo, if_neg (fun q => q.elim z z)] at hQ
      exact ⟨v01, hQ _ _ ⟨v01, o1, rfl, h1⟩⟩
theorem conditionM_go {P : Nat → LR} {h : Nat} (hd : 1 ≤ d) (hA : ∀ (μ : XM) (p : Nat), MT μ a o n tb e p k → Call Γ m_MO_part (d + 1) [.ref 547, .int (w 0), .int (w 0)] μ (KI (fun x μ' => MRb μ μ' a o n tb e k (P p) x))) (hG : ∀ p, p ≤ n → LG n p (CT h) (P p)) {r : LR} (hM : MS μ a o n tb e) {p0 : Nat} (hr : LG n p0 (CT h) r) {x : Int32} {μ1 : XM} (h1 : MRb μ μ1 a o n tb e k r x) (hQ : ∀ x μ', MRb μ μ' a o n tb e k (lbeh tb n 124 124 P r) x → Q (some (.int x)) μ') : G Γ m_MO_condition (d + 2) (0, 0) Q 7 [.ref 547, jk, jk, .int x] [] μ1 := by
  have hn := hM.n2
  have he := hM.2.2.2.2.2.2.2.2.1
  obtain ⟨hx, o1, h2⟩ := h1
  match r, hr, h2, hQ with
  | .inl q, hr, h2, hQ =>
    have hq : q ≤ n := hr
    refine B_MO_condition_7 (hM.m o1).o ?_
    exact ⟨fun z => absurd (h2.symm.trans z) (wq (by omega)), fun _ => ⟨hx, hQ _ _ ⟨hx, o1, h2⟩⟩⟩
  | .inr (p', c, g), hr, h2, hQ =>
    obtain ⟨rfl, h3⟩ := h2
    obtain ⟨a1, a2, a3, a4⟩ := hr
    exact conditionM_G (turn := 0) hd he hA hG 240 μ1 p' c g (by omega) (by omega) h3 (a4.2 e he) (fun x μ3 h4 => hQ x μ3 ⟨h4.1, o1.trans h4.2.1, h4.2.2⟩)
theorem C_part0 {U : Nat → LR} {h : Nat} (hd : 3 ≤ d) (hU : ∀ (μ : XM) (p : Nat), MT μ a o n tb e p k → Call Γ m_MO_unit (d - 1) [.ref 547] μ (KI (fun x μ' => MRb μ μ' a o n tb e k (U p) x))) (hG : ∀ p, p ≤ n → LG n p (CT h) (U p)) (hp : MT μ a o n tb e p k) : Call Γ m_MO_part d [.ref 547, .int (w 0), .int (w 0)] μ (KI (fun x μ' => MRb μ μ' a o n tb e k (ltw tb n U (U p)) x)) := by
  obtain ⟨d, rfl⟩ : ∃ e, d = e + 2 := ⟨d - 2, by omega⟩
  rw [show d + 2 - 1 = d + 1 by omega] at hU
  refine Call.of ok_MO_part (Nat.le_of_ble_eq_true rfl) (B_MO_part_0 hp.1.o ?_)
  refine ⟨fun _ => ?_, fun q => absurd rfl q⟩
  refine (hU μ p hp).conseq (KI.mono ?_)
  intro x μ1 h1
  exact partM_go (by omega) hU hG hp.1 (hG p hp.2.2.2.2.1) h1 (fun x μ' q => ⟨_, rfl, q⟩)
theorem C_part1 {S U : Nat → LR} {h : Nat} (hd : 4 ≤ d) (hU : ∀ (μ : XM) (p : Nat), MT μ a o n tb e p k → Call Γ m_MO_unit (d - 1) [.ref 547] μ (KI (fun x μ' => MRb μ μ' a o n tb e k (U p) x))) (hG : ∀ p, p ≤ n → LG n p (CT (h + 1)) (U p)) (hS : ∀ (μ : XM) (p : Nat), MT μ a o n tb e p k → Call Γ m_MO_sum (d - 2) [.ref 547] μ (KI (fun x μ' => MRs μ μ' a o n tb e k (S p) x))) (gS : ∀ p, p ≤ n → LG n p (CG h) (S p)) {c : List Int} {g : (Nat → Int) → Int} (hg : CG h c g) (hp : MT μ a o n tb e p k) {p0 : Nat} (h0 : p0 < p) (hc : c.length + p0 ≤ p) : Call Γ m_MO_part d [.ref 547, .int (w 1), .int (w (g e))] μ (KI (fun x μ' => MRb μ μ' a o n tb e k (ltw tb n U (lcr tb n S p c g)) x)) := by
  obtain ⟨d, rfl⟩ : ∃ e, d = e + 2 := ⟨d - 2, by omega⟩
  rw [show d + 2 - 1 = d + 1 by omega] at hU
  refine Call.of ok_MO_part (Nat.le_of_ble_eq_true rfl) (B_MO_part_0 hp.1.o ?_)
  refine ⟨fun q => absurd q w01, fun _ => ?_⟩
  refine (C_cmp1 (d := d + 1) (by omega) hS gS hg hp).conseq (KI.mono ?_)
  intro x μ1 h1
  exact partM_go (by omega) hU hG hp.1 (lcr_LG gS h0 hp.2.2.2.2.1 hc hg) h1 (fun x μ' q => ⟨_, rfl, q⟩)
theorem C_cond0 {U : Nat → LR} {h : Nat} (hd : 4 ≤ d) (hU : ∀ (μ : XM) (p : Nat), MT μ a o n tb e p k → Call Γ m_MO_unit (d - 2) [.ref 547] μ (KI (fun x μ' => MRb μ μ' a o n tb e k (U p) x))) (hG : ∀ p, p ≤ n → LG n p (CT h) (U p)) (hp : MT μ a o n tb e p k) : Call Γ m_MO_condition d [.ref 547, .int (w 0), .int (w 0)] μ (KI (fun x μ' => MRb μ μ' a o n tb e k (lcw tb n U (U p)) x)) := by
  obtain ⟨d, rfl⟩ : ∃ e, d = e + 2 := ⟨d - 2, by omega⟩
  rw [Nat.add_sub_cancel] at hU
  have hA : ∀ (μ : XM) (p : Nat), MT μ a o n tb e p k → Call Γ m_MO_part (d + 1) [.ref 547, .int (w 0), .int (w 0)] μ (KI (fun x μ' => MRb μ μ' a o n tb e k (ltw tb n U (U p)) x)) := fun μ p hp => C_part0 (by omega) hU hG hp
  refine Call.of ok_MO_condition (Nat.le_of_ble_eq_true rfl) (B_MO_condition_0 hp.1.o ?_)
  refine (hA μ p hp).conseq (KI.mono ?_)
  intro x μ1 h1
  exact conditionM_go (P := fun p => ltw tb n U (U p)) (by omega) hA (fun p hp => ltw_LG hG (hG p hp)) hp.1 (ltw_LG hG (hG p hp.2.2.2.2.1)) h1 (fun x μ' q => ⟨_, rfl, q⟩)
theorem C_cond1 {S U : Nat → LR} {h : Nat} (hd : 5 ≤ d) (hU : ∀ (μ : XM) (p : Nat), MT μ a o n tb e p k → Call Γ m_MO_unit (d - 2) [.ref 547] μ (KI (fun x μ' => MRb μ μ' a o n tb e k (U p) x))) (hG : ∀ p, p ≤ n → LG n p (CT (h + 1)) (U p)) (hS : ∀ (μ : XM) (p : Nat), MT μ a o n tb e p k → Call Γ m_MO_sum (d - 3) [.ref 547] μ (KI (fun x μ' => MRs μ μ' a o n tb e k (S p) x))) (gS : ∀ p, p ≤ n → LG n p (CG h) (S p)) {c : List Int} {g : (Nat → Int) → Int} (hg : CG h c g) (hp : MT μ a o n tb e p k) {p0 : Nat} (h0 : p0 < p) (hc : c.length + p0 ≤ p) : Call Γ m_MO_condition d [.ref 547, .int (w 1), .int (w (g e))] μ (KI (fun x μ' => MRb μ μ' a o n tb e k (lcw tb n U (lcr tb n S p c g)) x)) := by
  obtain ⟨d, rfl⟩ : ∃ e, d = e + 2 := ⟨d - 2, by omega⟩
  rw [Nat.add_sub_cancel] at hU
  rw [show d + 2 - 3 = d + 1 - 2 by omega] at hS
  have hA : ∀ (μ : XM) (p : Nat), MT μ a o n tb e p k → Call Γ m_MO_part (d + 1) [.ref 547, .int (w 0), .int (w 0)] μ (KI (fun x μ' => MRb μ μ' a o n tb e k (ltw tb n U (U p)) x)) := fun μ p hp => C_part0 (by omega) hU hG hp
  refine Call.of ok_MO_condition (Nat.le_of_ble_eq_true rfl) (B_MO_condition_0 hp.1.o ?_)
  refine (C_part1 (d := d + 1) (by omega) hU hG hS gS hg hp h0 hc).conseq (KI.mono ?_)
  intro x μ1 h1
  exact conditionM_go (P := fun p => ltw tb n U (U p)) (by omega) hA (fun p hp => ltw_LG hG (hG p hp)) hp.1 (ltw_LG hG (lcr_LG gS h0 hp.2.2.2.2.1 hc hg)) h1 (fun x μ' q => ⟨_, rfl, q⟩)
theorem C_unit {S U : Nat → LR} {h h' : Nat} (hd : 5 ≤ d) (hS : ∀ (μ : XM) (p : Nat), MT μ a o n tb e p k → Call Γ m_MO_sum (d - 2) [.ref 547] μ (KI (fun x μ' => MRs μ μ' a o n tb e k (S p) x))) (gS : ∀ p, p ≤ n → LG n p (CG h) (S p)) (hU : 0 < k → ∀ (d' : Nat), d - 3 ≤ d' → ∀ (μ : XM) (p : Nat), MT μ a o n tb e p (k - 1) → Call Γ m_MO_unit d' [.ref 547] μ (KI (fun x μ' => MRb μ μ' a o n tb e (k - 1) (U p) x))) (gU : 0 < k → ∀ p, p ≤ n → LG n p (CT h') (U p)) (hp : MT μ a o n tb e p k) : Call Γ m_MO_unit d [.ref 547] μ (KI (fun x μ' => MRb μ μ' a o n tb e k (lun tb n k S U (fun p => lcw tb n U (U p)) p) x)) := by
  obtain ⟨d, rfl⟩ : ∃ e, d = e + 1 := ⟨d - 1, by omega⟩
  have hb := lk_bd (p := p) hp.1.bt
  have hn := hp.1.n2
  have he := hp.1.2.2.2.2.2.2.2.2.1
  have hpn := hp.2.2.2.2.1
  have hs := sk_le tb hpn
  have hk := hp.2.2.2.2.2
  refine Call.of ok_MO_unit (Nat.le_of_ble_eq_true rfl) (B_MO_unit_0 hp.1.o ?_)
  refine (C_look (by omega) hp).conseq (KI.mono ?_)
  rintro r μ1 ⟨rfl, o1, h1⟩
  rw [w_inj (by omega) (by omega) (by omega) (by omega), w_inj (by omega) (by omega) (by omega) (by omega)]
  unfold lun
  refine ⟨fun z => ?_, fun z => ⟨fun z2 => ?_, fun z2 => ?_⟩⟩
  · rw [if_pos z]
    have hlt := lk_lt z (by decide)
    refine (C_goesIn (by omega) h1).conseq (KI.mono ?_)
    rintro r μ3 ⟨o3, ⟨e3, rfl, h3⟩ | ⟨e3, rfl, h3⟩⟩
    · refine ⟨fun _ => ⟨_, rfl, ?_⟩, fun q => absurd rfl q⟩
      rw [if_pos e3]
      exact ⟨Or.inl rfl, o1.trans o3, h3⟩
    · refine ⟨fun q => absurd q w01, fun _ => ?_⟩
      rw [if_neg (by omega)]
      refine (hU e3 d (by omega) μ3 _ (h3 hlt)).conseq (KI.mono ?_)
      have hr := gU e3 (sk tb n p + 1) (by omega)
      rintro x μ4 ⟨hx, o4, h4⟩
      rintro μ9 rfl
      have o9 := ((o1.trans o3).trans o4).trans (mf μ4 (xI μ4 547 12 - w 1) (Or.inr (Or.inr rfl)))
      match hP : U (sk tb n p + 1), hr, h4 with
      | .inl q, hr, h4 =>
        have h5 : xI (sI μ4 547 12 (xI μ4 547 12 - w 1)) 547 11 = w q := by rw [xI_sI, if_neg (by omega)]; exact h4
        exact ⟨fun _ => ⟨_, rfl, Or.inr rfl, o9, h5⟩, fun _ => ⟨_, rfl, Or.inl rfl, o9, h5⟩⟩
      | .inr (p', c, g), hr, h4 =>
        obtain ⟨rfl, h5⟩ := h4
        obtain ⟨a1, a2, a3, a4⟩ := hr
        have v01 := a4.2 e he
        have h9 : MT (sI μ4 547 12 (xI μ4 547 12 - w 1)) a o n tb e p' k := by
          refine ⟨h5.1.m (mf _ _ (Or.inr (Or.inr rfl))), ?_, ?_, ?_, h5.2.2.2.2.1, hk⟩
          · rw [xI_sI, if_neg (by omega)]; exact h5.2.1
          · rw [xI_sI, if_neg (by omega)]; exact h5.2.2.1
          · rw [xI_sI, if_pos ⟨rfl, rfl⟩, h5.2.2.2.1, w_sub]
            congr 1
            omega
        rw [w_inj (by omega) (by omega) (by omega) (by omega)]
        refine ⟨fun y => ⟨_, rfl, Or.inr rfl, o9, ?_, h9⟩, fun y => ⟨_, rfl, Or.inl rfl, o9, ?_, h9⟩⟩
        · show w 1 = w (1 - g e)
          rw [y]
          rfl
        · show w 0 = w (1 - g e)
          rw [show g e = 1 by omega]
          rfl
  · rw [if_neg z, if_pos z2]
    have hlt := lk_lt z2 (by decide)
    refine (C_goesIn (by omega) h1).conseq (KI.mono ?_)
    rintro r μ3 ⟨o3, ⟨e3, rfl, h3⟩ | ⟨e3, rfl, h3⟩⟩
    · refine ⟨fun _ => ⟨_, rfl, ?_⟩, fun q => absurd rfl q⟩
      rw [if_pos e3]
      exact ⟨Or.inl rfl, o1.trans o3, h3⟩
    · refine ⟨fun q => absurd q w01, fun _ => ?_⟩
      rw [if_neg (by omega)]
      dsimp only
      refine (C_cond0 (d := d) (by omega) (hU e3 (d - 2) (by omega)) (gU e3) (h3 hlt)).conseq (KI.mono ?_)
      have hr := lcw_LG (tb := tb) (gU e3) (gU e3 (sk tb n p + 1) (by omega))
      rintro x μ4 ⟨hx, o4, h4⟩
      match hP : lcw tb n U (U (sk tb n p + 1)), hr, h4 with
      | .inl q, hr, h4 =>
        have hq : q ≤ n := hr
        have hM4 := ((h1.1.m o3).m o4)
        refine (C_takesB (by omega) hM4 (by rw [h4]; exact wq (by omega))).conseq (KI.mono ?_)
        rintro r μ5 ⟨rfl, rfl⟩
        exact ⟨fun _ => ⟨_, rfl, Or.inl rfl, (o1.trans o3).trans o4, h4⟩, fun q => absurd rfl q⟩
      | .inr (p', c, g), hr, h4 =>
        obtain ⟨rfl, h5⟩ := h4
        refine (C_takes (by omega) h5 (c := 41) (by decide) (by decide)).conseq (KI.mono ?_)
        rintro r μ5 ⟨o5, ⟨e5, rfl, h6⟩ | ⟨e5, rfl, h6⟩⟩
        · refine ⟨fun q => absurd q w01, fun _ => ?_⟩
          rintro μ8 rfl
          refine ⟨hx, _, rfl, hx, (((o1.trans o3).trans o4).trans o5).trans (mf _ _ (Or.inr (Or.inr rfl))), ?_⟩
          dsimp only
          rw [if_pos e5, h6.2.2.2.1, w_sub]
          refine ⟨rfl, h6.1.m (mf _ _ (Or.inr (Or.inr rfl))), ?_, ?_, ?_, h6.2.2.2.2.1, hk⟩
          · rw [xI_sI, if_neg (by omega)]; exact h6.2.1
          · rw [xI_sI, if_neg (by omega)]; exact h6.2.2.1
          · rw [xI_sI, if_pos ⟨rfl, rfl⟩]
            congr 1
            omega
        · refine ⟨fun _ => ⟨_, rfl, Or.inl rfl, ((o1.trans o3).trans o4).trans o5, ?_⟩, fun q => absurd rfl q⟩
          dsimp only
          rw [if_neg e5]
          exact h6
  · rw [if_neg z, if_neg z2]
    refine (C_cmp0 (d := d) (by omega) (fun μ p h => hS μ p h) gS h1).conseq (KI.mono ?_)
    rintro x μ2 ⟨hx, o2, h2⟩
    exact ⟨hx, _, rfl, hx, o1.trans o2, h2⟩
theorem C_lUM (hf : FM Γ) : ∀ (k : Nat) (d : Nat) (μ : XM) (p : Nat), 10 + 3 * k ≤ d → MT μ a o n tb e p k → Call Γ m_MO_unit d [.ref 547] μ (KI (fun x μ' => MRb μ μ' a o n tb e k (lU tb n k p) x))
  | 0, d, μ, p, hd, hp => by
    have := C_unit (k := 0) (S := lS tb n 0) (U := fun p => .inl p) (h' := 0) (Γ := Γ) (d := d) (by omega) (fun μ p h1 => C_lSM hf 0 (d - 2) μ p (by omega) h1) (lS_LG 0) (fun q => absurd q (by omega)) (fun q => absurd q (by omega)) hp
    have e0 : lU tb n 0 p = lun tb n 0 (lS tb n 0) (fun p => .inl p) (fun p => lcw tb n (fun p => .inl p) (.inl p)) p := rfl
    rw [e0]
    exact this
  | k + 1, d, μ, p, hd, hp => by
    have := C_unit (k := k + 1) (S := lS tb n (k + 1)) (U := lU tb n k) (Γ := Γ) (d := d) (by omega) (fun μ p h1 => C_lSM hf (k + 1) (d - 2) μ p (by omega) h1) (lS_LG (k + 1)) (fun _ d' hd' μ p h1 => C_lUM hf k d' μ p (by omega) h1) (fun _ => lU_LG k) hp
    exact this
end MJ
