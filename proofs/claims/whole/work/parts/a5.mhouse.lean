/-! A WHOLE HOUSE, in the reference -/
def wk1 (X : HT) (i : Nat) : Prop := 0 < t1 X ∧ ∀ k, k < i → t4 X k 4 = 6 ∨ t4 X k 4 < t1 X
def wk2 (X : HT) (i : Nat) : Prop := wk1 X (t1 X) ∧ ∀ k, k < i → t5 X k 0 < t1 X
theorem wk1_s {X : HT} {i : Nat} : wk1 X (i + 1) ↔ wk1 X i ∧ (t4 X i 4 = 6 ∨ t4 X i 4 < t1 X) := ⟨fun h => ⟨⟨h.1, fun k hk => h.2 k (by omega)⟩, h.2 i (by omega)⟩, fun h => ⟨h.1.1, fun k hk => by
  by_cases e : k = i
  · rw [e]; exact h.2
  · exact h.1.2 k (by omega)⟩⟩
theorem wk2_s {X : HT} {i : Nat} : wk2 X (i + 1) ↔ wk2 X i ∧ t5 X i 0 < t1 X := ⟨fun h => ⟨⟨h.1, fun k hk => h.2 k (by omega)⟩, h.2 i (by omega)⟩, fun h => ⟨h.1.1, fun k hk => by
  by_cases e : k = i
  · rw [e]; exact h.2
  · exact h.1.2 k (by omega)⟩⟩
theorem hwh_w {X : HT} : hwh X ↔ wk2 X (t2 X) ∧ bsum (t5 X) 1 (t2 X) ≤ t3 X 0 := ⟨fun h => ⟨⟨⟨h.1, h.2.2.1⟩, h.2.2.2⟩, h.2.1⟩, fun h => ⟨h.1.1.1, h.2, h.1.1.2, h.1.2⟩⟩
def flg (A : Prop) (x : Int32) : Prop := (A ∧ x = w 1) ∨ (¬ A ∧ x = w 0)
section HHM
variable {Γ : XG} {d n p : Nat} {tb : Nat → Nat} {μ : XM} {X : HT} {Q : Option Value → XM → Prop}
theorem HI.v1 (hI : HI X) {k : Nat} (hk : k < t1 X) : 0 ≤ t4 X k 4 ∧ t4 X k 4 ≤ 6 := by
  have := hI.2.2.2.1 k hk 4 (by decide)
  have z : hls 1 4 = 0 ∧ hms 1 4 = 6 := by decide
  omega
theorem HI.sum (hI : HI X) {i : Nat} (hi : i ≤ t2 X) : 0 ≤ bsum (t5 X) 1 i ∧ bsum (t5 X) 1 i ≤ 72 := by
  have := bsum_le (bx := lbx (t5 X)) (s := t2 X) (fun i hi => IV_BB (hI.2.2.2.2.1 i hi)) i hi
  rw [bsum_lbx] at this
  have := hI.2.1
  omega
theorem HI.r0 (hI : HI X) : 1 ≤ t3 X 0 ∧ t3 X 0 ≤ 99 := by
  have := hI.2.2.1 0 (by decide)
  have z : hls 0 0 = 1 ∧ hms 0 0 = 99 := by decide
  omega
theorem whole_75 (hR : RM μ) (hX : HR μ X) (hI : HI X) (hQ : ∀ r, flg (hwh X) r → Q (some (.int r)) μ) : ∀ (f i : Nat) (x : Int32), i + f = t2 X → flg (wk2 X i) x → G Γ m_MO_isWhole (d + 1) (0, 0) Q 75 [.ref 547, .int x, .int (w (bsum (t5 X) 1 i)), .int (w i)] [] μ := by
  obtain ⟨b1, b2, b3, b4, b5, b6⟩ := hX
  have hi1 := hI.1
  have hi2 := hI.2.1
  have hr0 := hI.r0
  have sh5 : shp 556 = some (.inr (0, 32)) := rfl
  have sh2 : shp 553 = some (.inr (0, 4)) := rfl
  intro f
  induction f with
  | zero =>
    intro i x hi hx
    have hs := hI.sum (i := i) (by omega)
    refine B_MO_isWhole_75 hR.o (hR.r 19 553 rfl) (hR.r 22 556 rfl) ?_
    rw [b2, w_lt (by omega) (by omega) (by omega) (by omega), show (w 0).toNatClampNeg = 0 by decide, b4 0 (by omega), w_lt (by omega) (by omega) (by omega) (by omega)]
    refine ⟨fun z => absurd z (by omega), fun _ => ?_⟩
    have ei : i = t2 X := by omega
    subst ei
    rcases hx with ⟨hA, rfl⟩ | ⟨hA, rfl⟩
    · refine ⟨fun z => absurd z (by decide), fun _ => ⟨inb_of sh2 (by omega) hR.1 (by omega) (by omega), fun z => hQ _ (Or.inr ⟨fun y => ?_, rfl⟩), fun z => hQ _ (Or.inl ⟨hwh_w.mpr ⟨hA, by omega⟩, rfl⟩)⟩⟩
      have := y.2.1
      omega
    · exact ⟨fun _ => hQ _ (Or.inr ⟨fun y => hA (hwh_w.mp y).1, rfl⟩), fun z => absurd rfl z⟩
  | succ f ih =>
    intro i x hi hx
    have hs := hI.sum (i := i) (by omega)
    have hv := IV_2 (hI.2.2.2.2.1 i (by omega))
    have e1 : bsum (t5 X) 1 i + t5 X i 1 = bsum (t5 X) 1 (i + 1) := rfl
    refine B_MO_isWhole_75 hR.o (hR.r 19 553 rfl) (hR.r 22 556 rfl) ?_
    have i0 : inb μ 0 556 (w (4 * (i : Int))) := inb_of sh5 (by omega) hR.1 (by omega) (by omega)
    have i1 : inb μ 0 556 (w (4 * (i : Int) + 1)) := inb_of sh5 (by omega) hR.1 (by omega) (by omega)
    have v0 : xI μ 556 (w (4 * (i : Int))).toNatClampNeg = w (t5 X i 0) := by rw [w_cl (by omega) (by omega), show (4 * (i : Int)).toNat = 4 * i + 0 by omega]; exact b6 i (by omega) 0 (by omega)
    have v1 : xI μ 556 (w (4 * (i : Int) + 1)).toNatClampNeg = w (t5 X i 1) := by rw [w_cl (by omega) (by omega), show (4 * (i : Int) + 1).toNat = 4 * i + 1 by omega]; exact b6 i (by omega) 1 (by omega)
    simp only [w_mul, w_add]
    rw [b2, b1, v0, v1, w_lt (by omega) (by omega) (by omega) (by omega), w_lt (by omega) (by omega) (by omega) (by omega), w_add, e1, show (i : Int) + 1 = ((i + 1 : Nat) : Int) by omega]
    refine ⟨fun _ => ?_, fun z => absurd (by omega) z⟩
    rcases hx with ⟨hA, rfl⟩ | ⟨hA, rfl⟩
    · refine ⟨fun z => absurd z (by decide), fun _ => ⟨i0, fun z => ⟨i1, ih (i + 1) _ (by omega) (Or.inl ⟨wk2_s.mpr ⟨hA, z⟩, rfl⟩)⟩, fun z => ⟨i1, ih (i + 1) _ (by omega) (Or.inr ⟨fun y => z (wk2_s.mp y).2, rfl⟩)⟩⟩⟩
    · exact ⟨fun _ => ⟨i1, ih (i + 1) _ (by omega) (Or.inr ⟨fun y => hA (wk2_s.mp y).1, rfl⟩)⟩, fun z => absurd rfl z⟩
theorem whole_17 (hR : RM μ) (hX : HR μ X) (hI : HI X) (hQ : ∀ r, flg (hwh X) r → Q (some (.int r)) μ) : ∀ (f i : Nat) (x : Int32), i + f = t1 X → flg (wk1 X i) x → G Γ m_MO_isWhole (d + 1) (0, 0) Q 17 [.ref 547, .int x, .int (w 0), .int (w i)] [] μ := by
  have hX' := hX
  obtain ⟨b1, b2, b3, b4, b5, b6⟩ := hX
  have hi1 := hI.1
  have sh4 : shp 555 = some (.inr (0, 30)) := rfl
  intro f
  induction f with
  | zero =>
    intro i x hi hx
    refine B_MO_isWhole_17 hR.o (hR.r 21 555 rfl) ?_
    rw [b1, w_lt (by omega) (by omega) (by omega) (by omega)]
    refine ⟨fun z => absurd z (by omega), fun _ => ?_⟩
    refine whole_75 hR hX' hI hQ (t2 X) 0 x (by omega) ?_
    have ei : i = t1 X := by omega
    subst ei
    rcases hx with ⟨hA, rfl⟩ | ⟨hA, rfl⟩
    · exact Or.inl ⟨⟨hA, fun k hk => absurd hk (Nat.not_lt_zero _)⟩, rfl⟩
    · exact Or.inr ⟨fun y => hA y.1, rfl⟩
  | succ f ih =>
    intro i x hi hx
    have hv := hI.v1 (k := i) (by omega)
    refine B_MO_isWhole_17 hR.o (hR.r 21 555 rfl) ?_
    have i0 : inb μ 0 555 (w (5 * (i : Int) + 4)) := inb_of sh4 (by omega) hR.1 (by omega) (by omega)
    have v0 : xI μ 555 (w (5 * (i : Int) + 4)).toNatClampNeg = w (t4 X i 4) := by rw [w_cl (by omega) (by omega), show (5 * (i : Int) + 4).toNat = 5 * i + 4 by omega]; exact b5 i (by omega) 4 (by omega)
    simp only [w_mul, w_add]
    rw [b1, v0, w_lt (by omega) (by omega) (by omega) (by omega), w_lt (by omega) (by omega) (by omega) (by omega), w_inj (b := 6) (by omega) (by omega) (by omega) (by omega), show (i : Int) + 1 = ((i + 1 : Nat) : Int) by omega]
    refine ⟨fun _ => ?_, fun z => absurd (by omega) z⟩
    rcases hx with ⟨hA, rfl⟩ | ⟨hA, rfl⟩
    · exact ⟨fun z => absurd z (by decide), fun _ => ⟨i0, fun z => ih (i + 1) _ (by omega) (Or.inl ⟨wk1_s.mpr ⟨hA, Or.inr z⟩, rfl⟩), fun z => ⟨i0, fun z2 => ih (i + 1) _ (by omega) (Or.inl ⟨wk1_s.mpr ⟨hA, Or.inl z2⟩, rfl⟩), fun z2 => ih (i + 1) _ (by omega) (Or.inr ⟨fun y => (wk1_s.mp y).2.elim z2 z, rfl⟩)⟩⟩⟩
    · exact ⟨fun _ => ih (i + 1) _ (by omega) (Or.inr ⟨fun y => hA (wk1_s.mp y).1, rfl⟩), fun z => absurd rfl z⟩
theorem C_isWholeM (hd : 1 ≤ d) (hR : RM μ) (hX : HR μ X) (hI : HI X) : Call Γ m_MO_isWhole d [.ref 547] μ (KI (fun r μ' => μ' = μ ∧ flg (hwh X) r)) := by
  obtain ⟨d, rfl⟩ : ∃ e, d = e + 1 := ⟨d - 1, by omega⟩
  have hi1 := hI.1
  refine Call.of ok_MO_isWhole (Nat.le_of_ble_eq_true rfl) (B_MO_isWhole_0 hR.o ?_)
  rw [hX.1, w_lt (by omega) (by omega) (by omega) (by omega)]
  refine ⟨fun z => whole_17 hR hX hI (fun r h => ⟨_, rfl, rfl, h⟩) (t1 X) 0 _ (by omega) (Or.inl ⟨⟨by omega, fun k hk => absurd hk (Nat.not_lt_zero _)⟩, rfl⟩), fun z => whole_17 hR hX hI (fun r h => ⟨_, rfl, rfl, h⟩) (t1 X) 0 _ (by omega) (Or.inr ⟨fun y => z (by have := y.1; omega), rfl⟩)⟩
/-- how the reading of a house ends -/
def HRD (μ μ' : XM) (r : Nat ⊕ HT) : Prop := fr hzf μ μ' ∧ match r with
  | .inl q => xI μ' 547 11 = w q
  | .inr X => xI μ' 547 11 = w (-1) ∧ HR μ' X
theorem house_0 (hd : 3 ≤ d) (h : RT μ n tb p) (h11 : xI μ 547 11 = w (-1)) (hX : HR μ X) (hI : HI X) (hQ : ∀ μ', HRD μ μ' (if lk tb n p = -1 then (@ite _ (hwh X) (Classical.propDecidable _) (.inr X) (.inl (sk tb n p))) else .inl (sk tb n p)) → Q none μ') : G Γ m_MO_readHouse (d + 1) (0, 0) Q 55 [.ref 547, .int (w 0)] [] μ := by
  have hn := h.n2
  have hb := lk_bd (n := n) (p := p) (fun j hj => (h.b hj).2.2)
  refine B_MO_readHouse_55 h.1.o ?_
  refine ⟨fun _ => ⟨fun _ => ?_, fun z => absurd h11 z⟩, fun z => absurd rfl z⟩
  refine (C_lookR (by omega) h).conseq (KI.mono ?_)
  rintro r μ1 ⟨rfl, o1, f1, h1⟩
  rw [h11] at f1
  rw [w_inj (by omega) (by omega) (by omega) (by omega)]
  refine ⟨fun z => ?_, fun z => ?_⟩
  · rw [if_pos z] at hQ
    refine (C_isWholeM (by omega) h1.1 (hX.rd o1) hI).conseq (KI.mono ?_)
    rintro r μ2 ⟨rfl, ⟨hA, rfl⟩ | ⟨hA, rfl⟩⟩
    · rw [if_pos hA] at hQ
      exact ⟨fun y => absurd y (by decide), fun _ => hQ _ ⟨o1.wide (fun _ _ => hzf_d), f1, hX.rd o1⟩⟩
    · rw [if_neg hA] at hQ
      refine ⟨fun _ => ?_, fun y => absurd rfl y⟩
      refine (C_failsR (by omega) h1 f1).conseq (KI.mono ?_)
      rintro r μ3 ⟨rfl, o3, f3, h3⟩
      exact hQ _ ⟨(o1.trans o3).wide (fun _ _ => hzf_d), f3⟩
  · rw [if_neg z] at hQ
    refine (C_failsR (by omega) h1 f1).conseq (KI.mono ?_)
    rintro r μ3 ⟨rfl, o3, f3, h3⟩
    exact hQ _ ⟨(o1.trans o3).wide (fun _ _ => hzf_d), f3⟩
theorem house_e (hR : ob μ 547 11) {q : Nat} (hq : q ≤ 300) (h11 : xI μ 547 11 = w q) (hQ : Q none μ) : G Γ m_MO_readHouse (d + 1) (0, 0) Q 55 [.ref 547, .int (w 0)] [] μ := by
  refine B_MO_readHouse_55 hR ?_
  rw [h11]
  have hne : ¬ w (q : Int) = w (-1) := by rw [w_inj (by omega) (by omega) (by omega) (by omega)]; omega
  exact ⟨fun _ => ⟨fun z => absurd z hne, fun _ => hQ⟩, fun z => absurd rfl z⟩
theorem house_55 (hf : FM Γ) (hd : 7 ≤ d) : ∀ (f cl p : Nat) (X : HT) (μ1 : XM), cl + f = 241 → cl ≤ p → fr hzf μ μ1 → RT μ1 n tb p → xI μ1 547 11 = w (-1) → HR μ1 X → HI X → (∀ μ', HRD μ μ' (hsF tb n f p X) → Q none μ') → G Γ m_MO_readHouse (d + 1) (0, 0) Q 55 [.ref 547, .int (w 1)] [] μ1 := by
  intro f
  induction f with
  | zero =>
    intro cl p X μ1 hc hp ho h
    have := h.n2
    have := h.2.2.2.2.2.2.2
    omega
  | succ f ih =>
    intro cl p X μ1 hc hp ho h h11 hX hI hQ
    have hn := h.n2
    have hpn := h.2.2.2.2.2.2.2
    have hbb : ∀ j, j < n → 1 ≤ tb j ∧ tb j ≤ 255 := fun j hj => (h.b hj).2.2
    refine B_MO_readHouse_55 h.1.o ?_
    refine ⟨fun z => absurd z (by decide), fun _ => ⟨fun _ => ?_, fun z => absurd h11 z⟩⟩
    refine (C_readClauseM hf (by omega) h h11 hX hI).conseq (KV.mono ?_)
    rintro μ2 ⟨o2, r2⟩
    have hk := clF_ok hbb hpn hI
    have eP : hsF tb n (f + 1) p X = match clF tb n p X with
      | .inl q => .inl q
      | .inr u => if lk tb n u.1 = -1 then (@ite _ (hwh u.2) (Classical.propDecidable _) (.inr u.2) (.inl (sk tb n u.1))) else if lk tb n u.1 = 59 then hsF tb n f (sk tb n u.1 + 1) u.2 else .inl (sk tb n u.1) := rfl
    rw [eP] at hQ
    have tw : ∀ {r : Nat ⊕ HT} {μ'}, HRD μ2 μ' r → HRD μ μ' r := fun z => ⟨(ho.trans o2).trans z.1, z.2⟩
    match hP : clF tb n p X, hk, r2, hQ with
    | .inl q, hk, r2, hQ =>
      have hq : q ≤ n := hk
      have hne : ¬ xI μ2 547 11 = w (-1) := by rw [r2, w_inj (by omega) (by omega) (by omega) (by omega)]; omega
      refine ⟨fun z => absurd z hne, fun _ => ⟨fun _ => ?_, fun z => absurd rfl z⟩⟩
      exact house_e (ob_of rfl (by omega) (by rw [o2.2]; exact h.1.1)) (by omega) r2 (hQ _ ⟨ho.trans o2, r2⟩)
    | .inr u, hk, r2, hQ =>
      obtain ⟨k1, k2, k3⟩ := hk
      obtain ⟨f2, h2, hX2⟩ := r2
      have hb := lk_bd (n := n) (p := u.1) hbb
      have hsk := sk_le tb k2
      dsimp only at hQ
      refine ⟨fun _ => ?_, fun z => absurd f2 z⟩
      refine (C_lookR (by omega) h2).conseq (KI.mono ?_)
      rintro r μ3 ⟨rfl, o3, f3, h3⟩
      rw [f2] at f3
      have hX3 := hX2.rd o3
      rw [w_inj (b := 59) (by omega) (by omega) (by omega) (by omega)]
      refine ⟨fun z => ⟨fun y => absurd y (by decide), fun _ => ?_⟩, fun z => ⟨fun _ => ?_, fun y => absurd rfl y⟩⟩
      · have hlt : sk tb n u.1 < n := lk_lt z (by omega)
        rw [if_neg (by omega), if_pos z] at hQ
        rintro μ4 rfl
        rw [h3.2.2.2.2.2.2.1, w_add, show ((sk tb n u.1 : Nat) : Int) + 1 = ((sk tb n u.1 + 1 : Nat) : Int) by omega]
        have hT := h3.mv (q := sk tb n u.1 + 1) (by omega)
        exact ih (cl + 1) (sk tb n u.1 + 1) u.2 _ (by omega) (by omega) (((ho.trans o2).trans (o3.wide (fun _ _ => hzf_d))).trans (hT.2.wide (fun _ _ => hzf_d))) hT.1 (by rw [xI_sI, if_neg (by omega)]; exact f3) (hX3.rd hT.2) k3 hQ
      · refine house_0 (by omega) h3 f3 hX3 k3 (fun μ' g => hQ μ' (tw ⟨(o3.wide (fun _ _ => hzf_d)).trans g.1, ?_⟩))
        have g2 := g.2
        rw [lk_sk tb k2, sk_sk tb k2] at g2
        rw [if_neg z]
        exact g2
def hzg (c j : Nat) : Prop := hzf c j ∨ gfr c j
theorem house_30 (hd : 1 ≤ d) : ∀ (f k : Nat) (μ1 : XM), k + f = 4 → RT μ1 n tb p → (∀ j, j < k → xI μ1 553 j = w (hus 0 j)) → (∀ μ', fr (fun c _ => c = 553) μ1 μ' → RT μ' n tb p → (∀ j, j < 4 → xI μ' 553 j = w (hus 0 j)) → G Γ m_MO_readHouse (d + 1) (0, 0) Q 55 [.ref 547, .int (w 1)] [] μ') → G Γ m_MO_readHouse (d + 1) (0, 0) Q 30 [.ref 547, .int (w k)] [] μ1 := by
  intro f
  induction f with
  | zero =>
    intro k μ1 hk h hv hQ
    refine B_MO_readHouse_30 h.1.o (h.1.r 19 553 rfl) ?_
    rw [w_lt (by omega) (by omega) (by omega) (by omega)]
    have ek : k = 4 := by omega
    subst ek
    exact ⟨fun z => absurd z (by omega), fun _ => hQ _ (fr.rf _ _) h hv⟩
  | succ f ih =>
    intro k μ1 hk h hv hQ
    refine B_MO_readHouse_30 h.1.o (h.1.r 19 553 rfl) ?_
    rw [w_lt (by omega) (by omega) (by omega) (by omega)]
    refine ⟨fun _ => ?_, fun z => absurd (by omega) z⟩
    refine (C_usual (by omega) (S := 0) (k := k) (by omega) (by show k < 4; omega)).conseq (KI.mono ?_)
    rintro r μ2 ⟨rfl, rfl⟩
    refine ⟨inS_of (n := 4) rfl (by omega) h.1.1 (by omega) (by omega) (by omega), ?_⟩
    rintro μ3 rfl
    rw [w_cln (by omega), w_add, show (k : Int) + 1 = ((k + 1 : Nat) : Int) by omega]
    refine ih (k + 1) _ (by omega) (h.ar (by omega) _ _) (fun j hj => ?_) (fun μ' g1 g2 g3 => hQ μ' ((fr.sI (F := fun c _ => c = 553) (a := 553) (k := k) _ _ rfl).trans g1) g2 g3)
    rw [xI_sI]
    by_cases e : j = k
    · rw [if_pos ⟨rfl, e⟩, e]
    · rw [if_neg (by omega)]; exact hv j (by omega)
theorem C_readHouseM (hf : FM Γ) (hd : 8 ≤ d) (hR : RM μ) (hS : SS μ) (hT : TM μ n tb) : Call Γ m_MO_readHouse d [.ref 547] μ (KV (fun μ' => fr hzg μ μ' ∧ match hse tb n with
    | .inl q => xI μ' 547 11 = w q
    | .inr X => xI μ' 547 11 = w (-1) ∧ HR μ' X)) := by
  obtain ⟨d, rfl⟩ : ∃ e, d = e + 1 := ⟨d - 1, by omega⟩
  refine Call.of ok_MO_readHouse (Nat.le_of_ble_eq_true rfl) (B_MO_readHouse_0 hR.o (hR.r 1 548 rfl) ?_)
  rw [hT.2]
  refine (C_starts (o := 0) (by omega) hR hT.1).conseq (KV.mono ?_)
  rintro μ1 ⟨o1, e5, e8, e9, e10, e11⟩
  have hR1 : RM μ1 := hR.fr o1 gfr_r
  have h1 : RT μ1 n tb 0 := ⟨hR1, hS.frm o1 (fun c j hc => by unfold gfr; omega), hT.1.fr o1 (fun j => by unfold gfr; omega), e5, e8, e9, e10, Nat.zero_le _⟩
  rintro μ2 rfl μ3 rfl μ4 rfl
  have h4 := ((h1.fd (k := 26) (by omega) (w 0)).fd (k := 27) (by omega) (w 0)).fd (k := 29) (by omega) (w 0)
  have o4 : fr hzf μ1 (sI (sI (sI μ1 547 26 (w 0)) 547 27 (w 0)) 547 29 (w 0)) := ((fr.sI (F := hzf) (a := 547) (k := 26) _ _ (Or.inr (by omega))).trans (fr.sI (F := hzf) (a := 547) (k := 27) _ _ (Or.inr (by omega)))).trans (fr.sI (F := hzf) (a := 547) (k := 29) _ _ (Or.inr (by omega)))
  have f4 : xI (sI (sI (sI μ1 547 26 (w 0)) 547 27 (w 0)) 547 29 (w 0)) 547 11 = w (-1) := by rw [xI_sI, if_neg (by omega), xI_sI, if_neg (by omega), xI_sI, if_neg (by omega)]; exact e11
  have g26 : xI (sI (sI (sI μ1 547 26 (w 0)) 547 27 (w 0)) 547 29 (w 0)) 547 26 = w 0 := by rw [xI_sI, if_neg (by omega), xI_sI, if_neg (by omega), xI_sI, if_pos ⟨rfl, rfl⟩]
  have g27 : xI (sI (sI (sI μ1 547 26 (w 0)) 547 27 (w 0)) 547 29 (w 0)) 547 27 = w 0 := by rw [xI_sI, if_neg (by omega), xI_sI, if_pos ⟨rfl, rfl⟩]
  have g29 : xI (sI (sI (sI μ1 547 26 (w 0)) 547 27 (w 0)) 547 29 (w 0)) 547 29 = w 0 := by rw [xI_sI, if_pos ⟨rfl, rfl⟩]
  generalize sI (sI (sI μ1 547 26 (w 0)) 547 27 (w 0)) 547 29 (w 0) = μ4 at *
  refine house_30 (by omega) 4 0 μ4 (by omega) h4 (fun j hj => absurd hj (Nat.not_lt_zero _)) (fun μ5 o5 h5 v5 => ?_)
  have e5 : ∀ j, xI μ5 547 j = xI μ4 547 j := fun j => (o5.1 547 j (by omega)).1
  have o15 : fr hzf μ1 μ5 := o4.trans (o5.wide (fun c j z => Or.inr (Or.inl z)))
  refine house_55 (μ := μ5) hf (by omega) 241 0 0 HT0 μ5 (by omega) (by omega) (fr.rf _ _) h5 (by rw [e5]; exact f4) ⟨by rw [e5]; exact g26, by rw [e5]; exact g27, by rw [e5]; exact g29, v5, fun k hk => absurd hk (Nat.not_lt_zero _), fun k hk => absurd hk (Nat.not_lt_zero _)⟩ HI_0 (fun μ' hP => ⟨rfl, ((o1.wide (fun _ _ e => Or.inr e)).trans ((o15.trans hP.1).wide (fun _ _ e => Or.inl e))), hP.2⟩)
end HHM
