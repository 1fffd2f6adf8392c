/-! THE REFERENCE GOES THROUGH A LAW -/
/-- what was found so far -/
def FO (μ : XM) (F : Option Int) : Prop := (F = none ∧ xI μ 547 17 = w 0 ∧ xI μ 547 14 = w 0) ∨ ∃ v, F = some v ∧ xI μ 547 17 = w 1 ∧ xI μ 547 14 = w v
def cfr (c j : Nat) : Prop := c = 547 ∧ (j = 10 ∨ j = 11 ∨ j = 12 ∨ j = 14 ∨ j = 17)
theorem mfr_c (c j : Nat) (h : mfr c j) : cfr c j := by unfold mfr at h; unfold cfr; omega
theorem FO.m {μ μ' : XM} {F : Option Int} (h : FO μ F) (ho : fr mfr μ μ') : FO μ' F := by
  have e1 := (ho.1 547 17 (by unfold mfr; omega)).1
  have e2 := (ho.1 547 14 (by unfold mfr; omega)).1
  unfold FO
  rw [e1, e2]
  exact h
def orF (F G : Option Int) : Option Int := match F with
  | some v => some v
  | none => G
def MC2 (μ μ' : XM) (a o n : Nat) (tb : Nat → Nat) (e : Nat → Int) (F : Option Int) (r : LO2) : Prop := fr cfr μ μ' ∧ match r with
  | .inl q => xI μ' 547 11 = w q
  | .inr (p', _, h) => MT μ' a o n tb e p' 6 ∧ xI μ' 547 13 = w 121 ∧ FO μ' (orF F (h e))
section MK
variable {Γ : XG} {d a o n p : Nat} {tb : Nat → Nat} {e : Nat → Int} {μ : XM} {Q : Option Value → XM → Prop} {F : Option Int}
theorem K_134 (hp : MT μ a o n tb e p 6) (hl : xI μ 547 13 = w 121) (hF : FO μ F) {x : Int32} (hx : x = w 0 ∨ x = w 1) {v : Int} (hQ : ∀ μ', fr cfr μ μ' → MT μ' a o n tb e p 6 → xI μ' 547 13 = w 121 → FO μ' (orF F (if x = w 0 then none else some v)) → Q none μ') : G Γ m_MO_clause (d + 1) (0, 0) Q 134 [.ref 547, .int (w 121), .int x, .int (w v)] [] μ := by
  refine B_MO_clause_134 hp.1.o ?_
  refine ⟨fun _ => ?_, fun z => absurd hp.2.2.1 z⟩
  rw [hl]
  rcases hF with ⟨rfl, h1, h2⟩ | ⟨u, rfl, h1, h2⟩
  · rw [h1]
    refine ⟨fun _ => ⟨fun _ => ⟨fun z => ?_, fun z => ?_⟩, fun z => absurd rfl z⟩, fun z => absurd rfl z⟩
    · exact hQ μ (fr.rf _ _) hp hl (Or.inl ⟨by rw [if_pos z]; rfl, h1, h2⟩)
    · rintro μ1 rfl μ2 rfl
      have ho : fr cfr μ (sI (sI μ 547 17 (w 1)) 547 14 (w v)) := (fr.sI μ (w 1) ⟨rfl, by omega⟩).trans (fr.sI _ (w v) ⟨rfl, by omega⟩)
      refine hQ _ ho ⟨hp.1.frm ho (fun c j q => by unfold cfr at q; omega), ?_, ?_, ?_, hp.2.2.2.2.1, hp.2.2.2.2.2⟩ ?_ (Or.inr ⟨v, by rw [if_neg z]; rfl, ?_, ?_⟩)
      · rw [xI_sI, if_neg (by omega), xI_sI, if_neg (by omega)]; exact hp.2.1
      · rw [xI_sI, if_neg (by omega), xI_sI, if_neg (by omega)]; exact hp.2.2.1
      · rw [xI_sI, if_neg (by omega), xI_sI, if_neg (by omega)]; exact hp.2.2.2.1
      · rw [xI_sI, if_neg (by omega), xI_sI, if_neg (by omega)]; exact hl
      · rw [xI_sI, if_neg (by omega), xI_sI, if_pos ⟨rfl, rfl⟩]
      · rw [xI_sI, if_pos ⟨rfl, rfl⟩]
  · rw [h1]
    exact ⟨fun z => absurd z w01, fun _ => hQ μ (fr.rf _ _) hp hl (Or.inr ⟨u, rfl, h1, h2⟩)⟩
theorem K_134B (hM : MS μ a o n tb e) (hf : ¬ xI μ 547 11 = w (-1)) {x y z : Int32} (hQ : Q none μ) : G Γ m_MO_clause (d + 1) (0, 0) Q 134 [.ref 547, .int x, .int y, .int z] [] μ := by
  refine B_MO_clause_134 hM.o ?_
  exact ⟨fun z => absurd z hf, fun _ => hQ⟩
theorem K_ct (hf : FM Γ) (hd : 26 ≤ d) {μ1 : XM} {r : LR} {h p0 : Nat} (hM : MS μ a o n tb e) (hl : xI μ 547 13 = w 121) (hF : FO μ F) (hr : LG n p0 (CT h) r) {x : Int32} (h1 : MRb μ μ1 a o n tb e 6 r x) (hQ : ∀ μ', MC2 μ μ' a o n tb e F (lct tb n r) → Q none μ') :
    Call Γ m_MO_takes d [.ref 547, .int (w 63)] μ1 (KI (fun v7 μ7 => ((v7 = w 0 → Q none μ7) ∧ (¬ v7 = w 0 → Call Γ m_MO_sum d [.ref 547] μ7 (KI (fun v8 μ8 => G Γ m_MO_clause (d + 1) (0, 0) Q 134 [.ref 547, .int (w 121), .int x, .int v8] [] μ8)))))) := by
  have hn := hM.n2
  have he := hM.2.2.2.2.2.2.2.2.1
  obtain ⟨hx, o1, h2⟩ := h1
  match r, hr, h2, hQ with
  | .inl q, hr, h2, hQ =>
    have hq : q ≤ n := hr
    refine (C_takesB (by omega) (hM.m o1) (by rw [h2]; exact wq (by omega))).conseq (KI.mono ?_)
    rintro r μ5 ⟨rfl, rfl⟩
    exact ⟨fun _ => hQ _ ⟨o1.wide mfr_c, h2⟩, fun q => absurd rfl q⟩
  | .inr (p', c, g), hr, h2, hQ =>
    obtain ⟨rfl, h3⟩ := h2
    obtain ⟨a1, a2, a3, a4⟩ := hr
    have hs := sk_le tb a2
    have v01 := a4.2 e he
    refine (C_takes (by omega) h3 (c := 63) (by decide) (by decide)).conseq (KI.mono ?_)
    unfold lct at hQ
    dsimp only at hQ
    rintro r μ5 ⟨o5, ⟨e5, rfl, h6⟩ | ⟨e5, rfl, h6⟩⟩
    · refine ⟨fun q => absurd q w01, fun _ => ?_⟩
      have hlt := lk_lt e5 (by decide)
      rw [if_pos e5] at hQ
      refine (C_lSM hf 6 d μ5 _ (by omega) h6).conseq (KI.mono ?_)
      have hr2 := lS_LG (tb := tb) (n := n) 6 (sk tb n p' + 1) (by omega)
      rintro v μ8 ⟨o8, h8⟩
      have o18 := (o1.trans o5).trans o8
      match hP : lS tb n 6 (sk tb n p' + 1), hr2, h8, hQ with
      | .inl q, hr2, h8, hQ =>
        have hq : q ≤ n := hr2
        exact K_134B (hM.m o18) (by rw [h8]; exact wq (by omega)) (hQ _ ⟨o18.wide mfr_c, h8⟩)
      | .inr (p2, c2, g2), hr2, h8, hQ =>
        obtain ⟨rfl, h9⟩ := h8
        have hl8 : xI μ8 547 13 = w 121 := by rw [(o18.1 547 13 (by unfold mfr; omega)).1]; exact hl
        refine K_134 h9 hl8 (hF.m o18) hx (fun μ' q1 q2 q3 q4 => hQ μ' ⟨(o18.wide mfr_c).trans q1, q2, q3, ?_⟩)
        have e0 : (if w (g e) = w 0 then none else some (g2 e)) = (if g e = 0 then none else some (g2 e)) := by
          rcases v01 with z | z
          · rw [z]; rfl
          · rw [z]; rfl
        rw [e0] at q4
        exact q4
    · refine ⟨fun _ => ?_, fun q => absurd rfl q⟩
      rw [if_neg e5] at hQ
      exact hQ _ ⟨(o1.trans o5).wide mfr_c, h6⟩
theorem C_lCM (hf : FM Γ) (hd : 30 ≤ d) (hp : MT μ a o n tb e p 6) : Call Γ m_MO_condition d [.ref 547, .int (w 0), .int (w 0)] μ (KI (fun x μ' => MRb μ μ' a o n tb e 6 (lC tb n 6 p) x)) :=
  C_cond0 (by omega) (fun μ p h => C_lUM hf 6 (d - 2) μ p (by omega) h) (lU_LG 6) hp
theorem lU_sk {q : Nat} (hq : q ≤ n) (h1 : ¬ lk tb n q = 33) (h2 : ¬ lk tb n q = 40) {p' : Nat} {c : List Int} {g : (Nat → Int) → Int} (hS : lS tb n 6 (sk tb n q) = .inr (p', c, g)) : lU tb n 6 (sk tb n q) = lcr tb n (lS tb n 6) p' c g := by
  have e0 : lU tb n 6 (sk tb n q) = lun tb n 6 (lS tb n 6) (lU tb n 5) (fun p => lcw tb n (lU tb n 5) (lU tb n 5 p)) (sk tb n q) := rfl
  rw [e0]
  unfold lun
  rw [lk_sk tb hq, sk_sk tb hq, if_neg h1, if_neg h2, hS]
theorem C_clause (hf : FM Γ) (hd : 32 ≤ d) (hp : MT μ a o n tb e p 6) (hl : xI μ 547 13 = w 121) (hF : FO μ F) : Call Γ m_MO_clause d [.ref 547] μ (KV (fun μ' => MC2 μ μ' a o n tb e F (lcl tb n p))) := by
  obtain ⟨d, rfl⟩ : ∃ e, d = e + 1 := ⟨d - 1, by omega⟩
  have hn := hp.1.n2
  have he := hp.1.2.2.2.2.2.2.2.2.1
  have hs := sk_le tb hp.2.2.2.2.1
  have hb := lk_bd (p := p) hp.1.bt
  refine Call.of ok_MO_clause (Nat.le_of_ble_eq_true rfl) (B_MO_clause_0 hp.1.o ?_)
  refine (C_look (by omega) hp).conseq (KI.mono ?_)
  rintro r μ1 ⟨rfl, o1, h1⟩
  refine (C_isAmong (j := 0) (by omega) hf h1.1.1 h1.1.2.2.2.2.2.2.2.2.2.2 (by omega) hb.1 (by omega)).conseq (KI.mono ?_)
  rw [spt_y]
  unfold lcl
  rintro r μ2 ⟨rfl, ⟨e2, rfl⟩ | ⟨e2, rfl⟩⟩
  · refine ⟨fun z => absurd z w01, fun _ => ?_⟩
    have e1 : lk tb n p = 121 := Decidable.not_not.mp e2
    rw [if_pos e1]
    have hlt := lk_lt e1 (by decide)
    rintro μ3 rfl
    rw [h1.2.1, w_add, show ((sk tb n p : Nat) : Int) + 1 = ((sk tb n p + 1 : Nat) : Int) by omega]
    have h3 := h1.mv (q := sk tb n p + 1) (by omega)
    have o3 := o1.trans (mf _ (w ((sk tb n p + 1 : Nat) : Int)) (Or.inl rfl))
    refine (C_takes (by omega) h3 (c := 58) (by decide) (by decide)).conseq (KI.mono ?_)
    rintro r μ4 ⟨o4, ⟨e4, rfl, h4⟩ | ⟨e4, rfl, h4⟩⟩
    · refine ⟨fun q => absurd q w01, fun _ => ?_⟩
      rw [if_pos e4]
      have hp2 := h4.2.2.2.2.1
      obtain ⟨p2, ep2⟩ : ∃ q, q = sk tb n (sk tb n p + 1) + 1 := ⟨_, rfl⟩
      rw [← ep2] at h4 hp2 ⊢
      have hs2 := sk_le tb hp2
      have hb2 := lk_bd (p := p2) hp.1.bt
      refine (C_look (by omega) h4).conseq (KI.mono ?_)
      rintro r μ5 ⟨rfl, o5, h5⟩
      have o15 := (o3.trans o4).trans o5
      have hl5 : xI μ5 547 13 = w 121 := by rw [(o15.1 547 13 (by unfold mfr; omega)).1]; exact hl
      have hF5 := hF.m o15
      rw [w_inj (by omega) (by omega) (by omega) (by omega), w_inj (by omega) (by omega) (by omega) (by omega), e1]
      unfold lcs
      have fin : ∀ (r : LO2) (μ' : XM), MC2 μ5 μ' a o n tb e F r → MC2 μ μ' a o n tb e F r := fun r μ' q => ⟨(o15.wide mfr_c).trans q.1, q.2⟩
      have br : (lk tb n p2 = 33 ∨ lk tb n p2 = 40) → Call Γ m_MO_condition d [.ref 547, .int (w 0), .int (w 0)] μ5 (KI (fun v6 μ6 => Call Γ m_MO_takes d [.ref 547, .int (w 63)] μ6 (KI (fun v7 μ7 => ((v7 = w 0 → KV (fun μ' => MC2 μ μ' a o n tb e F (lct tb n (lC tb n 6 (sk tb n p2)))) none μ7) ∧ (¬ v7 = w 0 → Call Γ m_MO_sum d [.ref 547] μ7 (KI (fun v8 μ8 => G Γ m_MO_clause (d + 1) (0, 0) (KV (fun μ' => MC2 μ μ' a o n tb e F (lct tb n (lC tb n 6 (sk tb n p2))))) 134 [.ref 547, .int (w 121), .int v6, .int v8] [] μ8)))))))) := fun _ => by
        refine (C_lCM hf (by omega) h5).conseq (KI.mono ?_)
        intro x μ6 h6
        exact K_ct hf (by omega) h5.1 hl5 hF5 (lC_LG 6 (sk tb n p2) hs2.2) h6 (fun μ' q => ⟨rfl, fin _ _ q⟩)
      refine ⟨fun z => ?_, fun z => ⟨fun z2 => ?_, fun z2 => ?_⟩⟩
      · rw [if_pos (Or.inl z)]
        exact br (Or.inl z)
      · rw [if_pos (Or.inr z2)]
        exact br (Or.inr z2)
      · rw [if_neg (fun q => q.elim z z2)]
        refine (C_lSM hf 6 d μ5 _ (by omega) h5).conseq (KI.mono ?_)
        have hr := lS_LG (tb := tb) (n := n) 6 (sk tb n p2) hs2.2
        rintro x μ9 ⟨o9, h9⟩
        match hP : lS tb n 6 (sk tb n p2), hr, h9 with
        | .inl q, hr, h9 =>
          have hq : q ≤ n := hr
          have hne : ¬ xI μ9 547 11 = w (-1) := by rw [h9]; exact wq (by omega)
          exact ⟨fun z => absurd z hne, fun _ => K_134B (h5.1.m o9) hne ⟨rfl, fin _ _ ⟨o9.wide mfr_c, h9⟩⟩⟩
        | .inr (p4, c4, g4), hr, h9 =>
          obtain ⟨rfl, h10⟩ := h9
          obtain ⟨a1, a2, a3, a4⟩ := hr
          have hb4 := lk_bd (p := p4) hp.1.bt
          have hs4 := sk_le tb a2
          refine ⟨fun _ => ?_, fun z => absurd h10.2.2.1 z⟩
          refine (C_look (by omega) h10).conseq (KI.mono ?_)
          rintro r μ10 ⟨rfl, o10, h11⟩
          have o910 := o9.trans o10
          refine (C_isSign (by omega) hb4.1 hb4.2).conseq (KI.mono ?_)
          dsimp only
          have hl10 : xI μ10 547 13 = w 121 := by rw [(o910.1 547 13 (by unfold mfr; omega)).1]; exact hl5
          rintro r μ11 ⟨rfl, ⟨e11, rfl⟩ | ⟨e11, rfl⟩⟩
          · refine ⟨fun q => absurd q w01, fun _ => ?_⟩
            rw [if_pos e11]
            have eC : lC tb n 6 (sk tb n p2) = lcw tb n (lU tb n 6) (lcr tb n (lS tb n 6) (sk tb n p4) c4 g4) := by
              show lcw tb n (lU tb n 6) (lU tb n 6 (sk tb n p2)) = _
              rw [lU_sk hp2 z z2 hP]
              unfold lcr
              rw [lk_sk tb a2, sk_sk tb a2]
            have hLG := lC_LG (tb := tb) (n := n) 6 (sk tb n p2) hs2.2
            rw [eC] at hLG ⊢
            refine (C_cond1 (d := d) (S := lS tb n 6) (U := lU tb n 6) (h := 15) (by omega) (fun μ p h => C_lUM hf 6 (d - 2) μ p (by omega) h) (lU_LG 6) (fun μ p h => C_lSM hf 6 (d - 3) μ p (by omega) h) (lS_LG 6) a4 h11 (p0 := sk tb n p2) (by omega) (by omega)).conseq (KI.mono ?_)
            intro x μ12 h12
            exact K_ct hf (by omega) h11.1 hl10 (hF5.m o910) hLG h12 (fun μ' q => ⟨rfl, fin _ _ ⟨(o910.wide mfr_c).trans q.1, q.2⟩⟩)
          · refine ⟨fun _ => ?_, fun q => absurd rfl q⟩
            rw [if_neg e11]
            refine K_134 h11 hl10 (hF5.m o910) (Or.inr rfl) (fun μ' g1 g2 g3 g5 => ⟨rfl, fin _ _ ⟨(o910.wide mfr_c).trans g1, g2, g3, ?_⟩⟩)
            rw [if_neg w01] at g5
            exact g5
    · refine ⟨fun _ => ?_, fun q => absurd rfl q⟩
      rw [if_neg e4]
      exact ⟨rfl, (o3.trans o4).wide mfr_c, h4⟩
  · refine ⟨fun _ => ?_, fun z => absurd rfl z⟩
    rw [if_neg e2]
    refine (C_fails (by omega) h1.1 h1.2.1 h1.2.2.1).conseq (KI.mono ?_)
    rintro r μ3 ⟨rfl, o3, rfl⟩
    exact ⟨rfl, (o1.trans o3).wide mfr_c, by rw [xI_sI, if_pos ⟨rfl, rfl⟩]⟩
/-- what stands behind a clause -/
def lrs (tb : Nat → Nat) (n f p : Nat) : Nat ⊕ ((Nat → Int) → Option Int) :=
  if lk tb n p = -1 then .inr (fun _ => none) else if lk tb n p = 59 then (match lla tb n f (sk tb n p + 1) with
    | .inl q => .inl q
    | .inr (_, h) => .inr h) else .inl (sk tb n p)
def GO (μ μ' : XM) (e : Nat → Int) (F : Option Int) (r : Nat ⊕ ((Nat → Int) → Option Int)) : Prop := fr cfr μ μ' ∧ match r with
  | .inl q => xI μ' 547 11 = w q
  | .inr h => xI μ' 547 11 = w (-1) ∧ xI μ' 547 14 = w ((orF F (h e)).getD 0)
theorem FO.get (h : FO μ F) : xI μ 547 14 = w (F.getD 0) := by
  rcases h with ⟨rfl, -, h2⟩ | ⟨v, rfl, -, h2⟩
  · exact h2
  · exact h2
theorem orF_a (F G H : Option Int) : orF (orF F G) H = orF F (orF G H) := by
  cases F <;> rfl
theorem lla_S {f p : Nat} : lla tb n (f + 1) p = (match lcl tb n p with
    | .inl q => .inl q
    | .inr (p', c, g) => match lrs tb n f p' with
      | .inl q => .inl q
      | .inr h => .inr ((match lla tb n (f + 1) p with
        | .inl _ => []
        | .inr (c, _) => c), fun e => orF (g e) (h e))) := by
  conv => lhs; unfold lla
  match hP : lcl tb n p with
  | .inl q => rfl
  | .inr (p', c, g) =>
    unfold lrs
    dsimp only
    by_cases e : lk tb n p' = -1
    · rw [if_pos e, if_pos e]
      dsimp only
      have e1 : lla tb n (f + 1) p = .inr (c ++ [20059], g) := by
        unfold lla
        rw [hP]
        dsimp only
        rw [if_pos e]
      rw [e1]
      dsimp only
      have e2 : (fun e => orF (g e) none) = g := by
        funext e
        cases g e <;> rfl
      rw [e2]
    · rw [if_neg e, if_neg e]
      by_cases e5 : lk tb n p' = 59
      · rw [if_pos e5, if_pos e5]
        match hP2 : lla tb n f (sk tb n p' + 1) with
        | .inl q => rfl
        | .inr (c', g') =>
          dsimp only
          have e1 : lla tb n (f + 1) p = .inr (c ++ ([20059] ++ c'), fun e => match g e with
            | some v => some v
            | none => g' e) := by
            unfold lla
            rw [hP]
            dsimp only
            rw [if_neg e, if_pos e5, hP2]
            rfl
          rw [e1]
          rfl
      · rw [if_neg e5, if_neg e5]
theorem goM_G (hf : FM Γ) (hd : 32 ≤ d) : ∀ (f : Nat) (μ : XM) (p : Nat) (F : Option Int), 241 ≤ p + f → MT μ a o n tb e p 6 → xI μ 547 13 = w 121 → FO μ F → (∀ μ', GO μ μ' e F (lrs tb n f p) → Q none μ') → G Γ m_MO_goThrough (d + 1) (0, 0) Q 32 [.ref 547] [] μ := by
  intro f
  induction f with
  | zero =>
    intro μ p F hpf h hl hF hQ
    have := h.1.n2
    have := h.2.2.2.2.1
    omega
  | succ f ih =>
    intro μ p F hpf h hl hF hQ
    have hn := h.1.n2
    have hp := h.2.2.2.2.1
    have hs := sk_le tb hp
    have hb := lk_bd (p := p) h.1.bt
    refine B_MO_goThrough_32 h.1.o ?_
    refine ⟨fun _ => ?_, fun z => absurd h.2.2.1 z⟩
    refine (C_look (by omega) h).conseq (KI.mono ?_)
    rintro r μ1 ⟨rfl, o1, h1⟩
    unfold lrs at hQ
    rw [w_inj (by omega) (by omega) (by omega) (by omega)]
    refine ⟨fun z => ?_, fun z => ⟨fun _ => ?_, fun q => absurd h1.2.2.1 q⟩⟩
    · have hlt := lk_lt z (by decide)
      rw [if_neg (by omega), if_pos z] at hQ
      rintro μ6 rfl
      rw [h1.2.1, w_add, show ((sk tb n p : Nat) : Int) + 1 = ((sk tb n p + 1 : Nat) : Int) by omega]
      have h6 := h1.mv (q := sk tb n p + 1) (by omega)
      have o6 := o1.trans (mf _ (w ((sk tb n p + 1 : Nat) : Int)) (Or.inl rfl))
      have hl6 : xI (sI μ1 547 10 (w ((sk tb n p + 1 : Nat) : Int))) 547 13 = w 121 := by rw [(o6.1 547 13 (by unfold mfr; omega)).1]; exact hl
      refine (C_clause hf (by omega) h6 hl6 (hF.m o6)).conseq (KV.mono ?_)
      have hr := lcl_LG (tb := tb) (n := n) (p := sk tb n p + 1) (by omega)
      rw [lla_S] at hQ
      rintro μ7 ⟨o7, h7⟩
      have o17 := (o6.wide mfr_c).trans o7
      match hP : lcl tb n (sk tb n p + 1), hr, h7, hQ with
      | .inl q, hr, h7, hQ =>
        have hq : q ≤ n := hr
        have hM7 := h6.1.frm o7 (fun c j q => by unfold cfr at q; omega)
        have hne : ¬ xI μ7 547 11 = w (-1) := by rw [h7]; exact wq (by omega)
        have fin := hQ μ7 ⟨o17, h7⟩
        refine B_MO_goThrough_32 hM7.o ?_
        exact ⟨fun z => absurd z hne, fun _ => ⟨fun z => absurd z hne, fun _ => fin⟩⟩
      | .inr (p', c, g), hr, h7, hQ =>
        obtain ⟨h8, h9, h10⟩ := h7
        obtain ⟨a1, a2, a3, a4⟩ := hr
        refine ih μ7 p' _ (by omega) h8 h9 h10 (fun μ' g1 => hQ μ' ?_)
        obtain ⟨g2, g3⟩ := g1
        refine ⟨o17.trans g2, ?_⟩
        dsimp only
        match hP2 : lrs tb n f p', g3 with
        | .inl q, g3 => exact g3
        | .inr h, g3 =>
          refine ⟨g3.1, ?_⟩
          have := g3.2
          rw [orF_a] at this
          exact this
    · refine (C_look (by omega) h1).conseq (KI.mono ?_)
      rw [lk_sk tb hp, sk_sk tb hp]
      rintro r μ2 ⟨rfl, o2, h2⟩
      rw [w_inj (by omega) (by omega) (by omega) (by omega)]
      refine ⟨fun z2 => ?_, fun z2 => ?_⟩
      · rw [if_pos z2] at hQ
        refine hQ _ ⟨(o1.trans o2).wide mfr_c, h2.2.2.1, ?_⟩
        have := (hF.m (o1.trans o2)).get
        rw [this]
        cases F <;> rfl
      · rw [if_neg z2, if_neg z] at hQ
        refine (C_fails (by omega) h2.1 h2.2.1 h2.2.2.1).conseq (KI.mono ?_)
        rintro r μ3 ⟨rfl, o3, rfl⟩
        exact hQ _ ⟨((o1.trans o2).trans o3).wide mfr_c, by rw [xI_sI, if_pos ⟨rfl, rfl⟩]⟩
def gfr (c j : Nat) : Prop := c = 547 ∧ (j = 5 ∨ (8 ≤ j ∧ j ≤ 14) ∨ j = 17)
/-- bytes of a text, where they lie -/
def TX (μ : XM) (a o n : Nat) (tb : Nat → Nat) : Prop := n ≤ 240 ∧ (∃ len, shp a = some (.inr (1, len)) ∧ a < 574 ∧ 547 < a ∧ o + n ≤ len ∧ len ≤ 960) ∧ ∀ j, j < n → xI μ a (o + j) = w (sb (tb j)) ∧ 1 ≤ tb j ∧ tb j ≤ 255
/-- the letters' values, within bounds -/
def LE (μ : XM) (e : Nat → Int) : Prop := EV e ∧ ∀ j, j < 6 → xI μ 551 (ltr 3 j).toNat = w (e j)
theorem C_starts (hd : 1 ≤ d) (hR : RM μ) (hT : TX μ a o n tb) : Call Γ m_MO_starts d [.ref 547, .ref a, .int (w o), .int (w n)] μ (KV (fun μ' => fr gfr μ μ' ∧ xR μ' 547 5 = some a ∧ xI μ' 547 8 = w o ∧ xI μ' 547 9 = w n ∧ xI μ' 547 10 = w 0 ∧ xI μ' 547 11 = w (-1))) := by
  obtain ⟨d, rfl⟩ : ∃ e, d = e + 1 := ⟨d - 1, by omega⟩
  refine Call.of ok_MO_starts (Nat.le_of_ble_eq_true rfl) (B_MO_starts_0 hR.o ?_)
  rintro μ1 rfl μ2 rfl μ3 rfl μ4 rfl μ5 rfl
  refine ⟨rfl, ((((fr.sR μ (some a) ⟨rfl, by omega⟩).trans (fr.sI _ (w o) ⟨rfl, by omega⟩)).trans (fr.sI _ (w n) ⟨rfl, by omega⟩)).trans (fr.sI _ (w 0) ⟨rfl, by omega⟩)).trans (fr.sI _ (w (-1)) ⟨rfl, by omega⟩), ?_, ?_, ?_, ?_, ?_⟩
  · rw [xR_sI, xR_sI, xR_sI, xR_sI, xR_sR, if_pos ⟨rfl, rfl⟩]
  · rw [xI_sI, if_neg (by omega), xI_sI, if_neg (by omega), xI_sI, if_neg (by omega), xI_sI, if_pos ⟨rfl, rfl⟩]
  · rw [xI_sI, if_neg (by omega), xI_sI, if_neg (by omega), xI_sI, if_pos ⟨rfl, rfl⟩]
  · rw [xI_sI, if_neg (by omega), xI_sI, if_pos ⟨rfl, rfl⟩]
  · rw [xI_sI, if_pos ⟨rfl, rfl⟩]
theorem gfr_r (k v : Nat) (h : rM k = some v) : ¬ gfr 547 k := by
  rintro ⟨-, q⟩
  have : ∀ k, k < 18 → (k = 5 ∨ (8 ≤ k ∧ k ≤ 14) ∨ k = 17) → rM k = none := by decide
  rw [this k (by omega) q] at h
  cases h
theorem C_goThrough (hf : FM Γ) (hd : 33 ≤ d) (hR : RM μ) (hS : SS μ) (hE : LE μ e) (hT : TX μ a o n tb) : Call Γ m_MO_goThrough d [.ref 547, .ref a, .int (w o), .int (w n)] μ (KV (fun μ' => fr gfr μ μ' ∧ match law tb n with
    | .inl q => xI μ' 547 11 = w q
    | .inr (_, h) => xI μ' 547 11 = w (-1) ∧ xI μ' 547 14 = w ((h e).getD 0))) := by
  obtain ⟨d, rfl⟩ : ∃ e, d = e + 1 := ⟨d - 1, by omega⟩
  refine Call.of ok_MO_goThrough (Nat.le_of_ble_eq_true rfl) (B_MO_goThrough_0 hR.o ?_)
  refine (C_starts (by omega) hR hT).conseq (KV.mono ?_)
  rintro μ1 ⟨o1, q1, q2, q3, q4, q5⟩
  rintro μ2 rfl μ3 rfl μ4 rfl μ5 rfl
  have o5 : fr gfr μ1 (sI (sI (sI (sI μ1 547 13 (w 121)) 547 12 (w 0)) 547 17 (w 0)) 547 14 (w 0)) := (((fr.sI μ1 (w 121) ⟨rfl, by omega⟩).trans (fr.sI _ (w 0) ⟨rfl, by omega⟩)).trans (fr.sI _ (w 0) ⟨rfl, by omega⟩)).trans (fr.sI _ (w 0) ⟨rfl, by omega⟩)
  have o15 := o1.trans o5
  obtain ⟨t1, ⟨len, s1, s2, s3, s4, s5⟩, t3⟩ := hT
  have ng : ∀ c j, c ≠ 547 → ¬ gfr c j := fun c j h q => h q.1
  have hM : MS (sI (sI (sI (sI μ1 547 13 (w 121)) 547 12 (w 0)) 547 17 (w 0)) 547 14 (w 0)) a o n tb e := by
    refine ⟨by rw [o15.2]; exact hR.1, by rw [(o15.1 547 4 (gfr_r 4 551 rfl)).2.2]; exact hR.2 4 551 rfl, q1, ?_, ?_, t1, ⟨len, s1, s2, s3, s4, s5⟩, fun j hj => ?_, hE.1, fun j hj => ?_, fun j hj i hi => ?_⟩
    · rw [xI_sI, if_neg (by omega), xI_sI, if_neg (by omega), xI_sI, if_neg (by omega), xI_sI, if_neg (by omega)]; exact q2
    · rw [xI_sI, if_neg (by omega), xI_sI, if_neg (by omega), xI_sI, if_neg (by omega), xI_sI, if_neg (by omega)]; exact q3
    · rw [(o15.1 a _ (ng _ _ (by omega))).1]; exact t3 j hj
    · rw [(o15.1 551 _ (ng _ _ (by omega))).1]; exact hE.2 j hj
    · rw [(o15.1 _ _ (ng _ _ (by omega))).1]; exact hS j hj i hi
  have hMT : MT (sI (sI (sI (sI μ1 547 13 (w 121)) 547 12 (w 0)) 547 17 (w 0)) 547 14 (w 0)) a o n tb e 0 6 := by
    refine ⟨hM, ?_, ?_, ?_, Nat.zero_le _, by omega⟩
    · rw [xI_sI, if_neg (by omega), xI_sI, if_neg (by omega), xI_sI, if_neg (by omega), xI_sI, if_neg (by omega)]; exact q4
    · rw [xI_sI, if_neg (by omega), xI_sI, if_neg (by omega), xI_sI, if_neg (by omega), xI_sI, if_neg (by omega)]; exact q5
    · rw [xI_sI, if_neg (by omega), xI_sI, if_neg (by omega), xI_sI, if_pos ⟨rfl, rfl⟩]; rfl
  have hFO : FO (sI (sI (sI (sI μ1 547 13 (w 121)) 547 12 (w 0)) 547 17 (w 0)) 547 14 (w 0)) none := by
    refine Or.inl ⟨rfl, ?_, ?_⟩
    · rw [xI_sI, if_neg (by omega), xI_sI, if_pos ⟨rfl, rfl⟩]
    · rw [xI_sI, if_pos ⟨rfl, rfl⟩]
  have hl : xI (sI (sI (sI (sI μ1 547 13 (w 121)) 547 12 (w 0)) 547 17 (w 0)) 547 14 (w 0)) 547 13 = w 121 := by
    rw [xI_sI, if_neg (by omega), xI_sI, if_neg (by omega), xI_sI, if_neg (by omega), xI_sI, if_pos ⟨rfl, rfl⟩]
  refine (C_clause hf (by omega) hMT hl hFO).conseq (KV.mono ?_)
  have hr := lcl_LG (tb := tb) (n := n) (p := 0) (Nat.zero_le _)
  have cg : ∀ c j, cfr c j → gfr c j := fun c j q => by unfold cfr at q; unfold gfr; omega
  have hn := t1
  unfold law
  rw [lla_S]
  rintro μ7 ⟨o7, h7⟩
  have o17 := o15.trans (o7.wide cg)
  match hP : lcl tb n 0, hr, h7 with
  | .inl q, hr, h7 =>
    have hq : q ≤ n := hr
    have hM7 := hM.frm o7 (fun c j q => by unfold cfr at q; omega)
    have hne : ¬ xI μ7 547 11 = w (-1) := by rw [h7]; exact wq (by omega)
    refine B_MO_goThrough_32 hM7.o ?_
    exact ⟨fun z => absurd z hne, fun _ => ⟨fun z => absurd z hne, fun _ => ⟨rfl, o17, h7⟩⟩⟩
  | .inr (p', c, g), hr, h7 =>
    obtain ⟨h8, h9, h10⟩ := h7
    obtain ⟨a1, a2, a3, a4⟩ := hr
    refine goM_G hf (by omega) 240 μ7 p' _ (by omega) h8 h9 h10 (fun μ' g1 => ⟨rfl, ?_⟩)
    obtain ⟨g2, g3⟩ := g1
    refine ⟨o17.trans (g2.wide cg), ?_⟩
    dsimp only
    match hP2 : lrs tb n 240 p', g3 with
    | .inl q, g3 => exact g3
    | .inr h, g3 => exact g3
end MK
