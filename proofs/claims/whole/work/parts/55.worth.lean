/-! THE WORTH OF A LAW, out of its signs -/
def ups (S : Nat → Int) (k : Nat) (v : Int) : Nat → Int := fun j => if j = k then v else S j
/-- the run over the signs cd, i the next, t on the stack S, passing or not -/
def wst (cd : Nat → Int) (ev : Nat → Int) : Nat → Nat → Nat → (Nat → Int) → Bool → Int
  | 0, _, _, _, _ => 0
  | f + 1, i, t, S, p =>
    if p = true then wst cd ev f (i + 1) t S (if cd i = 20059 then false else true)
    else if cd i < 20000 then (if 64 ≤ t then 0 else wst cd ev f (i + 1) (t + 1) (ups S t (if cd i < 10000 then cd i else ev (cd i - 10000).toNat)) false)
    else if t < 1 then 0
    else if cd i = 20059 then S (t - 1)
    else if cd i = 20033 then wst cd ev f (i + 1) t (ups S (t - 1) (1 - S (t - 1))) false
    else if cd i = 20063 then wst cd ev f (i + 1) (t - 1) S (if S (t - 1) = 0 then true else false)
    else if t - 1 < 1 then wst cd ev f (i + 1) (t - 1) S false
    else wst cd ev f (i + 1) (t - 1) (ups S (t - 2) (jnd (cd i - 20000) (S (t - 2)) (S (t - 1)))) false
/-- a sign of a law: a number, a letter, another -/
def CB (c : Int) : Prop := 0 ≤ c ∧ (c < 10006 ∨ 20000 ≤ c) ∧ c ≤ 20300
def LSh (L : Nat) : Prop := 32 ≤ L ∧ L + 3 < 574 ∧ shp L = some (.inl 2) ∧ shp (L + 1) = some (.inr (0, 240)) ∧ shp (L + 2) = some (.inr (0, 6)) ∧ shp (L + 3) = some (.inr (0, 64))
def LB (μ : XM) (L : Nat) : Prop := LSh L ∧ 574 ≤ xN μ ∧ xR μ L 0 = some (L + 1) ∧ xR μ L 1 = some (L + 2) ∧ xR μ L 2 = some (L + 3)
theorem LB.of {μ μ' : XM} {a : Nat} (h : LB μ a) (h1 : xR μ' = xR μ) (h2 : xN μ' = xN μ) : LB μ' a := by
  unfold LB; rw [h1, h2]; exact h
theorem LB.ob {μ : XM} {a : Nat} (h : LB μ a) : ob μ a 2 := ob_of h.1.2.2.1 (by have := h.1.2.1; omega) h.2.1
/-- the law at L has sz signs cd -/
def LF (μ : XM) (L sz : Nat) (cd : Nat → Int) : Prop := LB μ L ∧ sz ≤ 240 ∧ xI μ L 3 = w sz ∧ ∀ i, i < sz → xI μ (L + 1) i = w (cd i) ∧ CB (cd i)
theorem LF.of {μ μ' : XM} {L sz : Nat} {cd : Nat → Int} (h : LF μ L sz cd) (h0 : ∀ j, xI μ' L j = xI μ L j) (h1 : ∀ j, xI μ' (L + 1) j = xI μ (L + 1) j) (h2 : xR μ' = xR μ) (h3 : xN μ' = xN μ) : LF μ' L sz cd :=
  ⟨h.1.of h2 h3, h.2.1, by rw [h0]; exact h.2.2.1, fun i hi => by rw [h1]; exact h.2.2.2 i hi⟩
section WO
variable {Γ : XG} {d L sz : Nat} {cd ev : Nat → Int} {μ : XM} {Q : Option Value → XM → Prop}
theorem worth_G (hev : ∀ j, j < 6 → -1000 ≤ ev j ∧ ev j ≤ 100000) : ∀ (f i t : Nat) (S : Nat → Int) (p : Bool) (μ : XM), i + f = sz → t ≤ 64 → LF μ L sz cd → (∀ j, j < 6 → xI μ (L + 2) j = w (ev j)) → (∀ j, j < t → xI μ (L + 3) j = w (S j) ∧ SB (S j)) →
    (∀ μ', off (L + 2) (L + 4) μ μ' → Q (some (.int (w (wst cd ev f i t S p)))) μ') → G Γ m_La_worth (d + 2) (0, 0) Q 54 [.ref L, jk, jk, jk, jk, jk, jk, .int (w t), .int (w (if p = true then 1 else 0)), .int (w i)] [] μ := by
  intro f
  induction f with
  | zero =>
    intro i t S p μ hi ht h he hS hQ
    refine B_La_worth_54 h.1.ob h.1.2.2.1 h.1.2.2.2.2 h.1.2.2.2.1 ?_
    have hs := h.2.1
    rw [h.2.2.1, w_lt (by omega) (by omega) (by omega) (by omega)]
    exact ⟨fun q => absurd q (by omega), fun _ => hQ μ (off.rf _ _ _)⟩
  | succ f ih =>
    intro i t S p μ hi ht h he hS hQ
    have hs := h.2.1
    obtain ⟨⟨l1, l2, l3, l4, l5, l6⟩, hN, -⟩ := h.1
    obtain ⟨ec, hc⟩ := h.2.2.2 i (by omega)
    obtain ⟨c1, c2, c3⟩ := hc
    have iw : ∀ (μ' : XM) (z : Int), xN μ' = xN μ → 0 ≤ z → z < 64 → inS μ' 0 (L + 3) (w z) := fun μ' z hn g1 g2 => inS_of l6 (by omega) (by omega) g1 (by omega) (by omega)
    have next : ∀ (t' : Nat) (S' : Nat → Int) (p' : Bool) (μ' : XM), off (L + 2) (L + 4) μ μ' → (∀ j, xI μ' (L + 2) j = xI μ (L + 2) j) → t' ≤ 64 → (∀ j, j < t' → xI μ' (L + 3) j = w (S' j) ∧ SB (S' j)) → wst cd ev (f + 1) i t S p = wst cd ev f (i + 1) t' S' p' →
        G Γ m_La_worth (d + 2) (0, 0) Q 288 [.ref L, jk, jk, jk, jk, jk, jk, .int (w t'), .int (w (if p' = true then 1 else 0)), .int (w i)] [] μ' := by
      intro t' S' p' μ' ho hl ht' hS' hw
      refine B_La_worth_288 ?_
      rw [w_add]
      refine ih (i + 1) t' S' p' μ' (by omega) ht' (h.of (fun j => ho.1 L (by omega) j) (fun j => ho.1 (L + 1) (by omega) j) ho.2.2.1 ho.2.2.2) (fun j hj => by rw [hl]; exact he j hj) hS' (fun μ2 g => ?_)
      rw [← hw]
      exact hQ μ2 (ho.trans g)
    refine B_La_worth_54 h.1.ob h.1.2.2.1 h.1.2.2.2.2 h.1.2.2.2.1 ?_
    rw [h.2.2.1, w_lt (by omega) (by omega) (by omega) (by omega), w_cln (by omega), ec]
    refine ⟨fun _ => ⟨inb_of l4 (by omega) hN (by omega) (by omega), ?_⟩, fun q => absurd (by omega) q⟩
    cases p with
    | true =>
      refine ⟨fun q => absurd q (by decide), fun _ => ?_⟩
      rw [w_inj (by omega) (by omega) (by omega) (by omega)]
      refine ⟨fun q => next t S false μ (off.rf _ _ _) (fun _ => rfl) ht hS ?_, fun q => next t S true μ (off.rf _ _ _) (fun _ => rfl) ht hS ?_⟩
      · simp only [wst, if_pos q, if_true]
      · simp only [wst, if_neg q, if_true]
    | false =>
      refine ⟨fun _ => ?_, fun q => absurd rfl q⟩
      have up : ∀ (k : Nat) (v : Int), k < 64 → SB v → ∀ t', t' ≤ 64 → (∀ j, j < t' → j ≠ k → j < t) → ∀ j, j < t' → xI (sI μ (L + 3) k (w v)) (L + 3) j = w (ups S k v j) ∧ SB (ups S k v j) := by
        intro k v hk hv t' ht' hj' j hj
        rw [xI_sI]
        unfold ups
        by_cases e : j = k
        · rw [if_pos ⟨rfl, e⟩, if_pos e]; exact ⟨rfl, hv⟩
        · rw [if_neg (fun z => e z.2), if_neg e]; exact hS j (hj' j hj e)
      have lt : ∀ (k : Nat) (v : Int32) (j : Nat), xI (sI μ (L + 3) k v) (L + 2) j = xI μ (L + 2) j := fun k v j => by rw [xI_sI, if_neg (by omega)]
      have op : ∀ (k : Nat) (v : Int32), off (L + 2) (L + 4) μ (sI μ (L + 3) k v) := fun k v => off.sI _ _ _ (by omega) (by omega)
      simp (disch := omega) only [w_lt, w_inj, w_sub, w_add, w_cln]
      refine ⟨fun q => ⟨64, ar_of l6 (by omega) hN, ?_, ?_⟩, fun q => ⟨fun q2 => ?_, fun q2 => ⟨fun q3 => ?_, fun q3 => ⟨fun q4 => ?_, fun q4 => ⟨fun q5 => ?_, fun q5 => ⟨fun q6 => ?_, fun q6 => ?_⟩⟩⟩⟩⟩⟩
      · intro q2
        rw [w_lt (by omega) (by omega) (by omega) (by omega)] at q2
        refine ⟨fun q3 => ⟨iw μ _ rfl (by omega) (by omega), ?_⟩, fun q3 => ⟨inb_of l5 (by omega) hN (by omega) (by omega), iw μ _ rfl (by omega) (by omega), ?_⟩⟩
        · rintro μ16 rfl
          refine next (t + 1) (ups S t (cd i)) false _ (op _ _) (lt _ _) (by omega) (up t (cd i) (by omega) ⟨by omega, by omega⟩ (t + 1) (by omega) (fun j h1 h2 => by omega)) ?_
          simp only [wst, Bool.false_eq_true, if_false, if_pos q, if_pos q3]
          rw [if_neg (by omega)]
        · rw [w_cl (by omega) (by omega), he _ (by omega)]
          rintro μ14 rfl
          have hv := hev (cd i - 10000).toNat (by omega)
          refine next (t + 1) (ups S t (ev (cd i - 10000).toNat)) false _ (op _ _) (lt _ _) (by omega) (up t _ (by omega) ⟨by omega, by omega⟩ (t + 1) (by omega) (fun j h1 h2 => by omega)) ?_
          simp only [wst, Bool.false_eq_true, if_false, if_pos q, if_neg q3]
          rw [if_neg (by omega)]
      · intro q2
        rw [w_lt (by omega) (by omega) (by omega) (by omega)] at q2
        have := hQ μ (off.rf _ _ _)
        simp only [wst, Bool.false_eq_true, if_false, if_pos q] at this
        rw [if_pos (by omega)] at this
        exact this
      · refine B_La_worth_166 h.1.ob h.1.2.2.2.2 ?_
        rw [w_lt (by omega) (by omega) (by omega) (by omega)]
        refine ⟨fun _ => ?_, fun z => absurd q2 z⟩
        have := hQ μ (off.rf _ _ _)
        simp only [wst, Bool.false_eq_true, if_false, if_neg q] at this
        rw [if_pos (by omega)] at this
        exact this
      · refine B_La_worth_166 h.1.ob h.1.2.2.2.2 ?_
        rw [w_lt (by omega) (by omega) (by omega) (by omega)]
        refine ⟨fun z => absurd z q2, fun _ => ?_⟩
        rw [w_sub, w_cl (by omega) (by omega), show ((t : Int) - 1).toNat = t - 1 by omega, (hS (t - 1) (by omega)).1]
        refine ⟨(iw μ _ rfl (by omega) (by omega)).2, ?_⟩
        have := hQ μ (off.rf _ _ _)
        simp only [wst, Bool.false_eq_true, if_false, if_neg q] at this
        rw [if_neg (by omega), if_pos q3] at this
        exact this
      · obtain ⟨es, g1, g2⟩ := hS (t - 1) (by omega)
        rw [w_cl (by omega) (by omega), show ((t : Int) - 1).toNat = t - 1 by omega, es, w_sub]
        refine ⟨(iw μ _ rfl (by omega) (by omega)).2, iw μ _ rfl (by omega) (by omega), ?_⟩
        rintro μ10 rfl
        refine next t (ups S (t - 1) (1 - S (t - 1))) false _ (op _ _) (lt _ _) ht (up (t - 1) _ (by omega) ⟨by omega, by omega⟩ t ht (fun j h1 h2 => h1)) ?_
        simp only [wst, Bool.false_eq_true, if_false, if_neg q]
        rw [if_neg (by omega), if_neg q3, if_pos q4]
      · obtain ⟨es, g1, g2⟩ := hS (t - 1) (by omega)
        rw [w_cl (by omega) (by omega), show ((t : Int) + -1).toNat = t - 1 by omega, es, w_inj (by omega) (by omega) (by omega) (by omega)]
        refine ⟨(iw μ _ rfl (by omega) (by omega)).2, ?_⟩
        have ew : ∀ b : Bool, (if S (t - 1) = 0 then true else false) = b → wst cd ev (f + 1) i t S false = wst cd ev f (i + 1) (t - 1) S b := by
          intro b hb
          simp only [wst, Bool.false_eq_true, if_false, if_neg q]
          rw [if_neg (by omega), if_neg q3, if_neg q4, if_pos q5, hb]
        rw [show ((t : Int) + -1) = ((t - 1 : Nat) : Int) by omega]
        refine ⟨fun z => next (t - 1) S true μ (off.rf _ _ _) (fun _ => rfl) (by omega) (fun j hj => hS j (by omega)) (ew _ (if_pos z)), fun z => next (t - 1) S false μ (off.rf _ _ _) (fun _ => rfl) (by omega) (fun j hj => hS j (by omega)) (ew _ (if_neg z))⟩
      · rw [show ((t : Int) + -1) = ((t - 1 : Nat) : Int) by omega]
        refine next (t - 1) S false μ (off.rf _ _ _) (fun _ => rfl) (by omega) (fun j hj => hS j (by omega)) ?_
        simp only [wst, Bool.false_eq_true, if_false, if_neg q]
        rw [if_neg (by omega), if_neg q3, if_neg q4, if_neg q5, if_pos (by omega)]
      · obtain ⟨es, g1, g2⟩ := hS (t - 1) (by omega)
        obtain ⟨es2, g3, g4⟩ := hS (t - 2) (by omega)
        rw [w_cl (by omega) (by omega), w_cl (by omega) (by omega), show ((t : Int) + -1).toNat = t - 1 by omega, show ((t : Int) + -1 - 1).toNat = t - 2 by omega, es, es2]
        refine ⟨(iw μ _ rfl (by omega) (by omega)).2, (iw μ _ rfl (by omega) (by omega)).2, ?_⟩
        refine (C_joined (by omega) (by omega) (by omega) ⟨g3, g4⟩ ⟨g1, g2⟩).conseq (KI.mono ?_)
        rintro r μ4 ⟨rfl, rfl⟩
        refine ⟨iw _ _ rfl (by omega) (by omega), ?_⟩
        rintro μ6 rfl
        have hj := clp_bd (if (cd i - 20000) = 38 then (w (S (t - 2)) &&& w (S (t - 1))).toInt else if (cd i - 20000) = 42 then S (t - 2) * S (t - 1) else if (cd i - 20000) = 43 then S (t - 2) + S (t - 1) else if (cd i - 20000) = 45 then S (t - 2) - S (t - 1) else if (cd i - 20000) = 47 then (if S (t - 1) = 0 then 0 else (S (t - 2)).tdiv (S (t - 1))) else if (cd i - 20000) = 60 then (if S (t - 2) < S (t - 1) then 1 else 0) else if (cd i - 20000) = 61 then (if S (t - 2) = S (t - 1) then 1 else 0) else if (cd i - 20000) = 62 then (if S (t - 1) < S (t - 2) then 1 else 0) else (w (S (t - 2)) ||| w (S (t - 1))).toInt)
        have hj2 : SB (jnd (cd i - 20000) (S (t - 2)) (S (t - 1))) := ⟨hj.1, by have := hj.2; unfold jnd; omega⟩
        rw [show ((t : Int) + -1) = ((t - 1 : Nat) : Int) by omega]
        refine next (t - 1) (ups S (t - 2) (jnd (cd i - 20000) (S (t - 2)) (S (t - 1)))) false _ (op _ _) (lt _ _) (by omega) (up (t - 2) _ (by omega) hj2 (t - 1) (by omega) (fun j h1 h2 => by omega)) ?_
        simp only [wst, Bool.false_eq_true, if_false, if_neg q]
        rw [if_neg (by omega), if_neg q3, if_neg q4, if_neg q5, if_neg (by omega)]
/-- the letters' values -/
def evL (a o n y k m : Int) : Nat → Int := fun j => if j = 0 then a else if j = 1 then o else if j = 2 then n else if j = 3 then y else if j = 4 then k else m
theorem C_worth (hd : 2 ≤ d) (h : LF μ L sz cd) {a o n y k m : Int} (hev : ∀ j, j < 6 → -1000 ≤ evL a o n y k m j ∧ evL a o n y k m j ≤ 100000) : Call Γ m_La_worth d [.ref L, .int (w a), .int (w o), .int (w n), .int (w y), .int (w k), .int (w m)] μ (KI (fun r μ' => off (L + 2) (L + 4) μ μ' ∧ r = w (wst cd (evL a o n y k m) sz 0 0 (fun _ => 0) false))) := by
  obtain ⟨d, rfl⟩ : ∃ e, d = e + 2 := ⟨d - 2, by omega⟩
  obtain ⟨⟨l1, l2, l3, l4, l5, l6⟩, hN, -⟩ := h.1
  have iw : ∀ (μ' : XM) (z : Int), xN μ' = xN μ → 0 ≤ z → z < 6 → inS μ' 0 (L + 2) (w z) := fun μ' z hn g1 g2 => inS_of l5 (by omega) (by omega) g1 (by omega) (by omega)
  refine Call.of ok_La_worth (Nat.le_of_ble_eq_true rfl) (B_La_worth_0 h.1.ob h.1.2.2.2.1 ?_)
  refine ⟨iw _ _ rfl (by decide) (by decide), ?_⟩
  rintro μ2 rfl
  refine ⟨iw _ _ rfl (by decide) (by decide), ?_⟩
  rintro μ4 rfl
  refine ⟨iw _ _ rfl (by decide) (by decide), ?_⟩
  rintro μ6 rfl
  refine ⟨iw _ _ rfl (by decide) (by decide), ?_⟩
  rintro μ8 rfl
  refine ⟨iw _ _ rfl (by decide) (by decide), ?_⟩
  rintro μ10 rfl
  refine ⟨iw _ _ rfl (by decide) (by decide), ?_⟩
  rintro μ12 rfl
  have o1 : off (L + 2) (L + 4) μ (sI (sI (sI (sI (sI (sI μ (L + 2) (w 0).toNatClampNeg (w a)) (L + 2) (w 1).toNatClampNeg (w o)) (L + 2) (w 2).toNatClampNeg (w n)) (L + 2) (w 3).toNatClampNeg (w y)) (L + 2) (w 4).toNatClampNeg (w k)) (L + 2) (w 5).toNatClampNeg (w m)) :=
    (((((off.sI _ _ _ (by omega) (by omega)).trans (off.sI _ _ _ (by omega) (by omega))).trans (off.sI _ _ _ (by omega) (by omega))).trans (off.sI _ _ _ (by omega) (by omega))).trans (off.sI _ _ _ (by omega) (by omega))).trans (off.sI _ _ _ (by omega) (by omega))
  refine worth_G hev sz 0 0 (fun _ => 0) false _ (by omega) (by omega) (h.of (fun j => o1.1 L (by omega) j) (fun j => o1.1 (L + 1) (by omega) j) o1.2.2.1 o1.2.2.2) ?_ (fun j hj => absurd hj (by omega)) (fun μ' g => ⟨_, rfl, o1.trans g, rfl⟩)
  intro j hj
  have d0 : (w 0).toNatClampNeg = 0 := by decide
  have d1 : (w 1).toNatClampNeg = 1 := by decide
  have d2 : (w 2).toNatClampNeg = 2 := by decide
  have d3 : (w 3).toNatClampNeg = 3 := by decide
  have d4 : (w 4).toNatClampNeg = 4 := by decide
  have d5 : (w 5).toNatClampNeg = 5 := by decide
  simp only [xI_sI, d0, d1, d2, d3, d4, d5, true_and]
  rcases (show j = 0 ∨ j = 1 ∨ j = 2 ∨ j = 3 ∨ j = 4 ∨ j = 5 by omega) with rfl | rfl | rfl | rfl | rfl | rfl <;> simp [evL]
end WO
