/-! DINNERS, in the reference -/
set_option maxRecDepth 100000 in
theorem ib_or : ∀ u, u < 64 → ∀ i, i < 6 → w ((u : Nat) : Int) ||| bit1 i = w ((u ||| 2 ^ i : Nat) : Int) ∧ u ||| 2 ^ i < 64 ∧ ∀ j, j < 6 → ((u ||| 2 ^ i).testBit j = true ↔ (u.testBit j = true ∨ j = i)) := by decide +kernel
set_option maxRecDepth 100000 in
theorem ib_sub : ∀ u, u < 64 → ∀ v, v < 64 → (w ((u : Nat) : Int) &&& (w ((v : Nat) : Int) ^^^ w (-1)) = w 0 ↔ ∀ i, i < 6 → u.testBit i = true → v.testBit i = true) := by decide +kernel
/-- a set of kinds as bits -/
def IBP (x : Int32) (P : Nat → Prop) : Prop := ∃ u : Nat, u < 64 ∧ x = w u ∧ ∀ i, i < 6 → (u.testBit i = true ↔ P i)
theorem IBP.zero : IBP (w 0) (fun _ => False) := ⟨0, by omega, rfl, fun i hi => by simp⟩
theorem IBP.or {x : Int32} {P : Nat → Prop} (h : IBP x P) {i : Nat} (hi : i < 6) : IBP (x ||| bit1 i) (fun j => P j ∨ j = i) := by
  obtain ⟨u, hu, rfl, hP⟩ := h
  obtain ⟨e1, e2, e3⟩ := ib_or u hu i hi
  exact ⟨u ||| 2 ^ i, e2, e1, fun j hj => by rw [e3 j hj, hP j hj]⟩
theorem IBP.cg {x : Int32} {P P' : Nat → Prop} (h : IBP x P) (he : ∀ i, i < 6 → (P i ↔ P' i)) : IBP x P' := by
  obtain ⟨u, hu, hx, hP⟩ := h
  exact ⟨u, hu, hx, fun i hi => (hP i hi).trans (he i hi)⟩
theorem IBP.has {x : Int32} {P : Nat → Prop} (h : IBP x P) {i : Nat} (hi : i < 6) : hsb x i = true ↔ P i := by
  obtain ⟨u, hu, rfl, hP⟩ := h
  rw [hsb_b i (by omega) u (by omega)]
  exact hP i hi
theorem IBP.sub {x y : Int32} {P R : Nat → Prop} (h : IBP x P) (h2 : IBP y R) : x &&& (y ^^^ w (-1)) = w 0 ↔ ∀ i, i < 6 → P i → R i := by
  obtain ⟨u, hu, rfl, hP⟩ := h
  obtain ⟨v, hv, rfl, hR⟩ := h2
  rw [ib_sub u hu v hv]
  exact ⟨fun q i hi p => (hR i hi).mp (q i hi ((hP i hi).mpr p)), fun q i hi p => (hR i hi).mpr (q i hi ((hP i hi).mp p))⟩
theorem btw_ib (f : Nat → Bool) : ∀ n, n ≤ 6 → IBP (btw f n) (fun j => j < n ∧ f j = true)
  | 0, _ => IBP.zero.cg (fun i _ => ⟨fun q => q.elim, fun q => by omega⟩)
  | n + 1, h => by
    unfold btw
    by_cases e : f n = true
    · rw [if_pos e]
      refine ((btw_ib f n (by omega)).or (i := n) (by omega)).cg (fun i _ => ⟨fun q => ?_, fun q => ?_⟩)
      · rcases q with q | q
        · exact ⟨by omega, q.2⟩
        · exact ⟨by omega, q ▸ e⟩
      · by_cases e2 : i = n
        · exact Or.inr e2
        · exact Or.inl ⟨by omega, q.2⟩
    · rw [if_neg e]
      refine (btw_ib f n (by omega)).cg (fun i _ => ⟨fun q => ⟨by omega, q.2⟩, fun q => ⟨?_, q.2⟩⟩)
      refine Decidable.byContradiction fun z => e ?_
      rw [show n = i by omega]
      exact q.2
theorem kms_ib {bx : Nat → Nat → Int} {s : Nat} {x : Int32} (hb : ∀ j, j < s → 0 ≤ bx j 0 ∧ bx j 0 ≤ 5) : ∀ p, p ≤ s → IBP (kms bx s x p) (fun k => ∃ q, q < p ∧ hsb x q = true ∧ bx (s - 1 - q) 0 = k)
  | 0, _ => IBP.zero.cg (fun i _ => ⟨fun q => q.elim, fun ⟨q, h, _⟩ => by omega⟩)
  | p + 1, h => by
    have ih := kms_ib (x := x) hb p (by omega)
    have hk := hb (s - 1 - p) (by omega)
    unfold kms
    by_cases e : hsb x p = true
    · rw [if_pos e]
      have := ih.or (i := (bx (s - 1 - p) 0).toNat) (by omega)
      unfold bit1 at this
      rw [show (((bx (s - 1 - p) 0).toNat : Nat) : Int) = bx (s - 1 - p) 0 by omega] at this
      refine this.cg (fun i _ => ⟨fun q => ?_, fun q => ?_⟩)
      · rcases q with ⟨q, h1, h2, h3⟩ | q
        · exact ⟨q, by omega, h2, h3⟩
        · exact ⟨p, by omega, e, by omega⟩
      · obtain ⟨q, h1, h2, h3⟩ := q
        by_cases e2 : q = p
        · subst e2
          exact Or.inr (by omega)
        · exact Or.inl ⟨q, by omega, h2, h3⟩
    · rw [if_neg e]
      refine ih.cg (fun i _ => ⟨fun ⟨q, h1, h2, h3⟩ => ⟨q, by omega, h2, h3⟩, fun ⟨q, h1, h2, h3⟩ => ⟨q, ?_, h2, h3⟩⟩)
      refine Decidable.byContradiction fun z => e ?_
      rw [show p = q by omega]
      exact h2
theorem gtk_iff {ki : Nat → Nat → Int} {n : Nat} {y : Int32} {P : Nat → Prop} (hn : n ≤ 6) (hy : IBP y P) : ∀ f k, k + f = n → (gtk ki n y f k = true ↔ ∀ k', k ≤ k' → k' < n → P k' → ∀ j, j < 6 → P j → j < n ∧ gob ki j k' = true)
  | 0, k, h => by
    unfold gtk
    exact ⟨fun _ k' h1 h2 => by omega, fun _ => rfl⟩
  | f + 1, k, h => by
    have ih := gtk_iff (ki := ki) hn hy f (k + 1) (by omega)
    have hs := hy.sub (y := kwi ki n k) (R := fun j => j < n ∧ gob ki j k = true) (by rw [kwi_btw ki (by omega)]; exact btw_ib _ n hn)
    have hh := hy.has (i := k) (by omega)
    unfold gtk
    by_cases e : hsb y k = true ∧ ¬ y &&& (kwi ki n k ^^^ w (-1)) = w 0
    · rw [if_pos e]
      refine ⟨fun q => absurd q (by decide), fun q => absurd (hs.mpr (fun j hj pj => q k (by omega) (by omega) (hh.mp e.1) j hj pj)) e.2⟩
    · rw [if_neg e, ih]
      refine ⟨fun q k' h1 h2 h3 => ?_, fun q k' h1 h2 h3 => q k' (by omega) h2 h3⟩
      by_cases e2 : k' = k
      · subst e2
        have : y &&& (kwi ki n k' ^^^ w (-1)) = w 0 := Decidable.byContradiction fun z => e ⟨hh.mpr h3, z⟩
        exact hs.mp this
      · exact q k' (by omega) h2 h3
theorem gob_comm (ki : Nat → Nat → Int) (a b : Nat) : gob ki a b = gob ki b a := by
  unfold gob
  congr 1
  refine propext ⟨fun h => ?_, fun h => ?_⟩
  · rcases h with h | h | h
    · exact Or.inl h.symm
    · exact Or.inr (Or.inr h)
    · exact Or.inr (Or.inl h)
  · rcases h with h | h | h
    · exact Or.inl h.symm
    · exact Or.inr (Or.inr h)
    · exact Or.inr (Or.inl h)
/-- all pairs of a set go together -/
def gpr (ki bx : Nat → Nat → Int) (s : Nat) (x : Int32) (a b : Nat) : Prop := hsb x a = true → hsb x b = true → gob ki (bx (s - 1 - a) 0).toNat (bx (s - 1 - b) 0).toNat = true
theorem gts_iff {ki bx : Nat → Nat → Int} {n s : Nat} {x : Int32} (hn : n ≤ 6) (hb : ∀ j, j < s → 0 ≤ bx j 0 ∧ bx j 0 ≤ 5) (hK : KN bx s n) : gts ki bx n s x = true ↔ ∀ a, a < s → ∀ b, b < a → gpr ki bx s x a b := by
  unfold gts
  rw [gtk_iff hn (kms_ib (x := x) hb s (Nat.le_refl _)) n 0 (by omega)]
  constructor
  · intro q a ha b hba h1 h2
    have ka := hb (s - 1 - a) (by omega)
    have kb := hb (s - 1 - b) (by omega)
    have na := hK (s - 1 - a) (by omega)
    have := (q (bx (s - 1 - b) 0).toNat (by omega) (by have := hK (s - 1 - b) (by omega); omega) ⟨b, by omega, h2, by omega⟩ (bx (s - 1 - a) 0).toNat (by omega) ⟨a, ha, h1, by omega⟩).2
    exact this
  · intro q k' _ hk ⟨b, h1, h2, h3⟩ j hj ⟨a, g1, g2, g3⟩
    have ea : (bx (s - 1 - a) 0).toNat = j := by omega
    have eb : (bx (s - 1 - b) 0).toNat = k' := by omega
    have na := hK (s - 1 - a) (by omega)
    refine ⟨by omega, ?_⟩
    by_cases e1 : b < a
    · have := q a g1 b e1 g2 h2
      rwa [ea, eb] at this
    · by_cases e2 : a < b
      · have := q b h1 a e2 h2 g2
        rw [ea, eb] at this
        rw [gob_comm]
        exact this
      · have : a = b := by omega
        subst this
        rw [← ea, ← eb]
        unfold gob
        exact decide_eq_true (Or.inl rfl)
section ND
variable {Γ : XG} {d n a s m T : Nat} {ru : Nat → Int} {ki bx mg : Nat → Nat → Int} {ls : Int → Int → Int → Int → Int → Int → Int} {μ : XM} {Q : Option Value → XM → Prop} {W : WL}
theorem C_has (hd : 1 ≤ d) {x : Int32} {p : Nat} : Call Γ m_MO_has d [.int x, .int (w p)] μ (KI (fun r μ' => μ' = μ ∧ ((hsb x p = true ∧ r = w 1) ∨ (¬ hsb x p = true ∧ r = w 0)))) := by
  obtain ⟨d, rfl⟩ : ∃ e, d = e + 1 := ⟨d - 1, by omega⟩
  refine Call.of ok_MO_has (Nat.le_of_ble_eq_true rfl) (B_MO_has_0 ?_)
  exact ⟨fun q => ⟨_, rfl, rfl, Or.inl ⟨hsb_t q, rfl⟩⟩, fun q => ⟨_, rfl, rfl, Or.inr ⟨hsb_f q, rfl⟩⟩⟩
theorem NR.bb (hN : NR μ a 0 s bx m T mg) : ∀ j, j < s → BB bx j := fun j hj => by
  have := (hN.2.2.2.2.2.1 (s - 1 - j) (by omega)).2
  rwa [show s - 1 - (s - 1 - j) = j by omega] at this
theorem isDinner_i {x : Int32} (hM : HM μ n ru ki) (hN : NR μ 559 0 s bx m T mg) (hK : KN bx s n) {a : Nat} (ha : a < s) : ∀ (f b : Nat), b + f = a → ((∀ b', b ≤ b' → b' < a → gpr ki bx s x a b') → G Γ m_MO_isDinner (d + 3) (0, 0) Q 2 [.ref 547, .int x, .int (w ((a + 1 : Nat) : Int))] [] μ) → (¬ (∀ b', b ≤ b' → b' < a → gpr ki bx s x a b') → Q (some (.int (w 0))) μ) → G Γ m_MO_isDinner (d + 3) (0, 0) Q 15 [.ref 547, .int x, .int (w a), .int (w b)] [] μ := by
  have h8 := hN.1
  have hn := hM.2.1
  intro f
  induction f with
  | zero =>
    intro b hb hQ1 hQ2
    refine B_MO_isDinner_15 hM.1.o ?_
    rw [w_lt (by omega) (by omega) (by omega) (by omega)]
    simp only [w_add]
    exact ⟨fun q => absurd q (by omega), fun _ => hQ1 (fun b' h1 h2 => absurd h2 (by omega))⟩
  | succ f ih =>
    intro b hb hQ1 hQ2
    have kb := hN.bb (s - 1 - b) (by omega)
    have ka := hN.bb (s - 1 - a) (by omega)
    have nb := hK (s - 1 - b) (by omega)
    have na := hK (s - 1 - a) (by omega)
    unfold BB at ka kb
    have yes : gpr ki bx s x a b → G Γ m_MO_isDinner (d + 3) (0, 0) Q 15 [.ref 547, .int x, .int (w a), .int (w ((b : Int) + 1))] [] μ := fun g => by
      refine ih (b + 1) (by omega) (fun q => hQ1 (fun b' h1 h2 => ?_)) (fun q => hQ2 (fun z => q (fun b' h1 h2 => z b' (by omega) h2)))
      by_cases e : b' = b
      · rw [e]; exact g
      · exact q b' (by omega) h2
    refine B_MO_isDinner_15 hM.1.o ?_
    rw [w_lt (by omega) (by omega) (by omega) (by omega)]
    simp only [w_add]
    refine ⟨fun _ => ?_, fun q => absurd (by omega) q⟩
    refine (C_has (by omega)).conseq (KI.mono ?_)
    rintro r μ1 ⟨rfl, ⟨g1, rfl⟩ | ⟨g1, rfl⟩⟩
    · refine ⟨fun q => absurd q w01, fun _ => ?_⟩
      refine (C_has (by omega)).conseq (KI.mono ?_)
      rintro r μ1 ⟨rfl, ⟨g2, rfl⟩ | ⟨g2, rfl⟩⟩
      · refine ⟨fun q => absurd q w01, fun _ => ?_⟩
        refine (C_kindIn (by omega) hM hN ha).conseq (KI.mono ?_)
        rintro r μ1 ⟨rfl, rfl⟩
        refine (C_kindIn (by omega) hM hN (b := b) (by omega)).conseq (KI.mono ?_)
        rintro r μ1 ⟨rfl, rfl⟩
        refine (C_fit (by omega) hM (by omega) na (by omega) nb).conseq (KI.mono ?_)
        rintro r μ1 ⟨rfl, ⟨g3, rfl⟩ | ⟨g3, rfl⟩⟩
        · exact ⟨fun q => absurd q w01, fun _ => yes (fun _ _ => g3)⟩
        · refine ⟨fun _ => hQ2 (fun z => ?_), fun q => absurd rfl q⟩
          have := z b (by omega) (by omega) g1 g2
          rw [g3] at this
          exact absurd this (by decide)
      · exact ⟨fun _ => yes (fun _ z => absurd z g2), fun q => absurd rfl q⟩
    · exact ⟨fun _ => yes (fun z _ => absurd z g1), fun q => absurd rfl q⟩
theorem isDinner_o {x : Int32} (hM : HM μ n ru ki) (hN : NR μ 559 0 s bx m T mg) (hK : KN bx s n) : ∀ (f a : Nat), a + f = s → ((∀ a', a ≤ a' → a' < s → ∀ b, b < a' → gpr ki bx s x a' b) → Q (some (.int (w 1))) μ) → (¬ (∀ a', a ≤ a' → a' < s → ∀ b, b < a' → gpr ki bx s x a' b) → Q (some (.int (w 0))) μ) → G Γ m_MO_isDinner (d + 3) (0, 0) Q 2 [.ref 547, .int x, .int (w a)] [] μ := by
  have h8 := hN.1
  intro f
  induction f with
  | zero =>
    intro a ha hQ1 hQ2
    refine B_MO_isDinner_2 hM.1.o (hM.1.r 30 559 rfl) ⟨rc_in (Or.inl rfl) hM.1.1 (by omega) (by omega), ?_⟩
    rw [hN.sz, w_lt (by omega) (by omega) (by omega) (by omega)]
    exact ⟨fun q => absurd q (by omega), fun _ => hQ1 (fun a' h1 h2 => absurd h2 (by omega))⟩
  | succ f ih =>
    intro a ha hQ1 hQ2
    refine B_MO_isDinner_2 hM.1.o (hM.1.r 30 559 rfl) ⟨rc_in (Or.inl rfl) hM.1.1 (by omega) (by omega), ?_⟩
    rw [hN.sz, w_lt (by omega) (by omega) (by omega) (by omega)]
    refine ⟨fun _ => ?_, fun q => absurd (by omega) q⟩
    refine isDinner_i hM hN hK (by omega) a 0 (by omega) (fun g => ih (a + 1) (by omega) (fun q => hQ1 (fun a' h1 h2 b hb => ?_)) (fun q => hQ2 (fun z => q (fun a' h1 h2 => z a' (by omega) h2)))) (fun g => hQ2 (fun z => g (fun b' _ h2 => z a (by omega) (by omega) b' h2)))
    by_cases e : a' = a
    · subst e; exact g b (by omega) hb
    · exact q a' (by omega) h2 b hb
theorem C_isDinner {x : Int32} (hd : 3 ≤ d) (hM : HM μ n ru ki) (hN : NR μ 559 0 s bx m T mg) (hK : KN bx s n) : Call Γ m_MO_isDinner d [.ref 547, .int x] μ (KI (fun r μ' => μ' = μ ∧ ((gts ki bx n s x = true ∧ r = w 1) ∨ (gts ki bx n s x = false ∧ r = w 0)))) := by
  obtain ⟨d, rfl⟩ : ∃ e, d = e + 3 := ⟨d - 3, by omega⟩
  have hb : ∀ j, j < s → 0 ≤ bx j 0 ∧ bx j 0 ≤ 5 := fun j hj => by
    have := hN.bb j hj
    unfold BB at this
    omega
  have hg := gts_iff (x := x) hM.2.1 hb hK (ki := ki)
  refine Call.of ok_MO_isDinner (Nat.le_of_ble_eq_true rfl) (B_MO_isDinner_0 (isDinner_o hM hN hK s 0 (by omega) (fun q => ⟨_, rfl, rfl, Or.inl ⟨hg.mpr (fun a ha b hb => q a (by omega) ha b hb), rfl⟩⟩) (fun q => ⟨_, rfl, rfl, Or.inr ⟨?_, rfl⟩⟩)))
  refine Bool.eq_false_iff.mpr (fun z => q (fun a _ ha b hb => hg.mp z a ha b hb))
theorem posM_bd (hN : NR μ 559 0 s bx m T mg) (x : Int32) : 0 ≤ pos bx s x ∧ pos bx s x ≤ 72 := by
  have h8 := hN.1
  have := fsum_bd (f := fun p => if hsb x p = true then bx (s - 1 - p) 1 else 0) (lo := 0) (hi := 9) s (fun j hj => by
    have hb := hN.bb (s - 1 - j) (by omega)
    unfold BB at hb
    split <;> omega)
  unfold pos
  omega
theorem vosM_bd (h : MQs μ n ru ki s bx m T mg W ls) (x : Int32) : 0 ≤ vos ls ki bx m s x ∧ vos ls ki bx m s x ≤ 648 := by
  have h8 := h.nr.1
  have := fsum_bd (f := fun p => if hsb x p = true then vpl ls ki bx m s p else 0) (lo := 0) (hi := 81) s (fun j hj => by
    have hv := h.vb hj
    split <;> omega)
  unfold vos
  omega
theorem dinner_sum (hf : FM Γ) {x1 x2 x3 x4 x5 x : Int32} : ∀ (f p : Nat) (μ : XM), p + f = s → MQs μ n ru ki s bx m T mg W ls → (∀ μ', fr vfr μ μ' → MQs μ' n ru ki s bx m T mg W ls → G Γ m_MO_dinner (d + 38) (0, 0) Q 70 [.ref 547, .int x1, .int x2, .int x3, .int x4, .int x5, .int x, .int (w (pos bx s x)), .int (w (vos ls ki bx m s x)), .int (w s)] [] μ') → G Γ m_MO_dinner (d + 38) (0, 0) Q 70 [.ref 547, .int x1, .int x2, .int x3, .int x4, .int x5, .int x, .int (w (fsum (fun p => if hsb x p = true then bx (s - 1 - p) 1 else 0) p)), .int (w (fsum (fun p => if hsb x p = true then vpl ls ki bx m s p else 0) p)), .int (w p)] [] μ := by
  intro f
  induction f with
  | zero =>
    intro p μ hp h hQ
    have := hQ μ (fr.rf _ _) h
    rw [show p = s by omega]
    exact this
  | succ f ih =>
    intro p μ hp h hQ
    have h8 := h.nr.1
    refine B_MO_dinner_70 h.hm.1.o (now30 h) ⟨in40 h, ?_⟩
    rw [h.nr.sz, w_lt (by omega) (by omega) (by omega) (by omega)]
    refine ⟨fun _ => ?_, fun q => absurd (by omega) q⟩
    refine (C_has (by omega)).conseq (KI.mono ?_)
    rintro r μ1 ⟨rfl, ⟨g1, rfl⟩ | ⟨g1, rfl⟩⟩
    · refine ⟨fun q => absurd q w01, fun _ => ⟨now30 h, rc_5 (Or.inl rfl) h.hm.1.1 (by omega) (by omega) (by omega), ?_⟩⟩
      refine (V_of (d := d + 37) hf (by omega) h (b := p) (by omega)).conseq (KI.mono ?_)
      rintro r μ2 ⟨o2, h2, rfl⟩
      rw [(h.nr.at (b := p) (by omega)).2.1]
      simp only [w_add]
      have nx := ih (p + 1) μ2 (by omega) h2 (fun μ' q1 q2 => hQ μ' (o2.trans q1) q2)
      unfold fsum at nx
      rw [if_pos g1, if_pos g1] at nx
      exact nx
    · refine ⟨fun _ => ?_, fun q => absurd rfl q⟩
      simp only [w_add]
      have nx := ih (p + 1) μ1 (by omega) h hQ
      unfold fsum at nx
      rw [if_neg g1, if_neg g1, Int.add_zero, Int.add_zero] at nx
      exact nx
theorem dinnerM_G (hf : FM Γ) {z y : Int} (z1 : 1 ≤ z) (z2 : z ≤ 30) (y0 : 0 ≤ y) (y1 : y ≤ 1) : ∀ (f t : Nat) (b r q : Int) (μ : XM), (1 ≤ f ∧ t + f = 2 ^ s ∨ f = 0 ∧ 2 ^ s ≤ t ∧ t ≤ 256) → (b = -1 ∧ r = -1 ∨ 1 ≤ b ∧ 0 ≤ r) → b ≤ 256 → r ≤ 64800 → 0 ≤ q → q ≤ 72 → 1 ≤ t → MQs μ n ru ki s bx m T mg W ls → (∀ μ', fr vfr μ μ' → MW μ' W → Q (some (.int (w (sl2 y (dnr (pos bx s) (vos ls ki bx m s) (gts ki bx n s) z f t b r q))))) μ') → G Γ m_MO_dinner (d + 38) (0, 0) Q 47 [.ref 547, .int (w z), .int (w y), .int (w b), .int (w (if b = -1 then 0 else r)), .int (w q), .int (w t)] [] μ := by
  intro f
  induction f with
  | zero =>
    intro t b r q μ ht hbr hb hr hq1 hq2 t1 h hQ
    have h8 := h.nr.1
    have hp := pw_le (s := s) h8
    have hQ := hQ μ (fr.rf _ _) h.mw
    unfold dnr sl2 at hQ
    dsimp only at hQ
    refine B_MO_dinner_47 h.hm.1.o (now30 h) ⟨in40 h, ?_⟩
    rw [h.nr.sz, shl_w h8, w_lt (by omega) (by omega) (by omega) (by omega), w_inj (by omega) (by omega) (by omega) (by omega), w_inj (by omega) (by omega) (by omega) (by omega)]
    refine ⟨fun g => absurd g (by omega), fun _ => ⟨fun g => ?_, fun g => ⟨fun g2 => ?_, fun g2 => ?_⟩⟩⟩
    · have e : (if y = 0 then b else r) = b := by split <;> omega
      rw [e] at hQ
      exact hQ
    · rw [if_pos g2] at hQ
      exact hQ
    · rw [if_neg g2] at hQ
      rw [if_neg g]
      exact hQ
  | succ f ih =>
    intro t b r q μ ht hbr hb hr hq1 hq2 t1 h hQ
    have h8 := h.nr.1
    have hp := pw_le (s := s) h8
    refine B_MO_dinner_47 h.hm.1.o (now30 h) ⟨in40 h, ?_⟩
    rw [h.nr.sz, shl_w h8, w_lt (by omega) (by omega) (by omega) (by omega)]
    refine ⟨fun _ => ?_, fun g => absurd (by omega) g⟩
    refine dinner_sum hf s 0 μ (by omega) h (fun μ1 o1 h1 => ?_)
    have pb := posM_bd h.nr (w t)
    have vb := vosM_bd h (w t)
    have nxt : ∀ (b' r' q' : Int), (b' = -1 ∧ r' = -1 ∨ 1 ≤ b' ∧ 0 ≤ r') → b' ≤ 256 → r' ≤ 64800 → 0 ≤ q' → q' ≤ 72 → dnr (pos bx s) (vos ls ki bx m s) (gts ki bx n s) z (f + 1) t b r q = dnr (pos bx s) (vos ls ki bx m s) (gts ki bx n s) z f (t + 1) b' r' q' → ∀ μ2, fr vfr μ1 μ2 → MQs μ2 n ru ki s bx m T mg W ls → G Γ m_MO_dinner (d + 38) (0, 0) Q 47 [.ref 547, .int (w z), .int (w y), .int (w b'), .int (w (if b' = -1 then 0 else r')), .int (w q'), .int (w ((t : Int) + 1))] [] μ2 := fun b' r' q' c1 c2 c3 c4 c5 e μ2 o2 h2 => by
      refine ih (t + 1) b' r' q' μ2 (by omega) c1 c2 c3 c4 c5 (by omega) h2 (fun μ' g1 g2 => ?_)
      rw [← e]
      exact hQ μ' ((o1.trans o2).trans g1) g2
    refine B_MO_dinner_70 h1.hm.1.o (now30 h1) ⟨in40 h1, ?_⟩
    rw [h1.nr.sz, w_lt (by omega) (by omega) (by omega) (by omega), w_lt (by omega) (by omega) (by omega) (by omega)]
    refine ⟨fun g => absurd g (by omega), fun _ => ⟨fun g => ?_, fun g => ?_⟩⟩
    · simp only [w_add]
      refine nxt b r q hbr hb hr hq1 hq2 ?_ μ1 (fr.rf _ _) h1
      rw [dnr, if_pos (Or.inl g)]
    · refine (C_isDinner (by omega) h1.hm h1.nr h1.kn).conseq (KI.mono ?_)
      rintro v μ2 ⟨rfl, ⟨g2, rfl⟩ | ⟨g2, rfl⟩⟩
      · have ng : ¬ (pos bx s (w t) < z ∨ gts ki bx n s (w t) = false) := fun q => q.elim g (fun q => by rw [g2] at q; exact absurd q (by decide))
        have hp1 : 1 ≤ pos bx s (w t) := by omega
        have d1 := Int.ediv_nonneg (a := vos ls ki bx m s (w t) * 100) (b := pos bx s (w t)) (by omega) (by omega)
        have d2 := Int.ediv_le_self (a := vos ls ki bx m s (w t) * 100) (pos bx s (w t)) (by omega)
        refine ⟨fun q => absurd q w01, fun _ => ⟨w_nz (by omega) (by omega), ?_⟩⟩
        rw [w_mul, Int.mul_comm 100, w_div (by omega) (by omega) (by omega) (by omega), w_inj (by omega) (by omega) (by omega) (by omega)]
        simp only [w_add]
        have take : (r < vos ls ki bx m s (w t) * 100 / pos bx s (w t) ∨ vos ls ki bx m s (w t) * 100 / pos bx s (w t) = r ∧ pos bx s (w t) < q) → G Γ m_MO_dinner (d + 38) (0, 0) Q 47 [.ref 547, .int (w z), .int (w y), .int (w t), .int (w (vos ls ki bx m s (w t) * 100 / pos bx s (w t))), .int (w (pos bx s (w t))), .int (w ((t : Int) + 1))] [] μ2 := fun c => by
          have := nxt t (vos ls ki bx m s (w t) * 100 / pos bx s (w t)) (pos bx s (w t)) (Or.inr ⟨by omega, d1⟩) (by omega) (by omega) pb.1 pb.2 (by rw [dnr, if_neg ng, if_pos c]) μ2 (fr.rf _ _) h1
          rw [if_neg (show ¬ (t : Int) = -1 by omega)] at this
          exact this
        have skip : ¬ (r < vos ls ki bx m s (w t) * 100 / pos bx s (w t) ∨ vos ls ki bx m s (w t) * 100 / pos bx s (w t) = r ∧ pos bx s (w t) < q) → G Γ m_MO_dinner (d + 38) (0, 0) Q 47 [.ref 547, .int (w z), .int (w y), .int (w b), .int (w (if b = -1 then 0 else r)), .int (w q), .int (w ((t : Int) + 1))] [] μ2 := fun c =>
          nxt b r q hbr hb hr hq1 hq2 (by rw [dnr, if_neg ng, if_neg c]) μ2 (fr.rf _ _) h1
        refine ⟨fun e => take (by omega), fun e => ?_⟩
        have er : (if b = -1 then 0 else r) = r := if_neg e
        rw [er] at skip ⊢
        rw [w_lt (by omega) (by omega) (by omega) (by omega), w_inj (by omega) (by omega) (by omega) (by omega), w_lt (by omega) (by omega) (by omega) (by omega)]
        exact ⟨fun c1 => skip (by omega), fun c1 => ⟨fun c2 => ⟨fun c3 => take (by omega), fun c3 => skip (by omega)⟩, fun c2 => take (by omega)⟩⟩
      · refine ⟨fun _ => ?_, fun q => absurd rfl q⟩
        simp only [w_add]
        refine nxt b r q hbr hb hr hq1 hq2 ?_ μ2 (fr.rf _ _) h1
        rw [dnr, if_pos (Or.inr g2)]
theorem C_dinnerM (hf : FM Γ) (hd : 39 ≤ d) (h : MQs μ n ru ki s bx m T mg W ls) {z y : Int} (z1 : -2147483648 ≤ z) (z2 : z < 2147483648) (y1 : -2147483648 ≤ y) (y2 : y < 2147483648) : Call Γ m_MO_dinner d [.ref 547, .int (w z), .int (w y)] μ (KI (fun r μ' => fr qfr μ μ' ∧ MW μ' W ∧ r = if 0 < n ∧ 1 ≤ z ∧ z ≤ 30 ∧ 0 ≤ y ∧ y ≤ 1 then w (sl2 y (dnr (pos bx s) (vos ls ki bx m s) (gts ki bx n s) z (2 ^ s - 1) 1 (-1) (-1) 0)) else w (-1))) := by
  obtain ⟨d, rfl⟩ : ∃ e, d = e + 39 := ⟨d - 39, by omega⟩
  have hn := h.hm.2.1
  have h8 := h.nr.1
  have hp := pw_le (s := s) h8
  refine Call.of ok_MO_dinner (Nat.le_of_ble_eq_true rfl) (B_MO_dinner_0 h.hm.1.o ?_)
  rintro μ1 rfl
  have h0 := (th0 μ).wide thr_q
  have h1 := h.th
  rw [h1.hm.2.2.1, w_inj (by omega) (by omega) (by omega) (by omega), w_l z1 z2, w_l y1 y2]
  refine ⟨fun q => ⟨_, rfl, h0, h1.mw, by rw [if_neg (by omega)]⟩, fun q => ?_⟩
  refine (C_isIn (x := 1) (y := 30) (by omega) (by omega) (by omega) (by omega) (by omega) (by omega) (by omega)).conseq (KI.mono ?_)
  rintro r μ2 ⟨rfl, ⟨g1, g2, rfl⟩ | ⟨g1, rfl⟩⟩
  · refine ⟨fun q2 => absurd q2 w01, fun _ => ?_⟩
    refine (C_isIn (x := 0) (y := 1) (by omega) (by omega) (by omega) (by omega) (by omega) (by omega) (by omega)).conseq (KI.mono ?_)
    rintro r μ3 ⟨rfl, ⟨g3, g4, rfl⟩ | ⟨g3, rfl⟩⟩
    · refine ⟨fun q2 => absurd q2 w01, fun _ => ?_⟩
      have := dinnerM_G (d := d + 1) (Γ := Γ) hf g1 g2 g3 g4 (2 ^ s - 1) 1 (-1) (-1) 0 _ (by omega) (by omega) (by omega) (by omega) (by omega) (by omega) (by omega) h1 (Q := KI (fun r μ' => fr qfr μ μ' ∧ MW μ' W ∧ r = if 0 < n ∧ 1 ≤ z ∧ z ≤ 30 ∧ 0 ≤ y ∧ y ≤ 1 then w (sl2 y (dnr (pos bx s) (vos ls ki bx m s) (gts ki bx n s) z (2 ^ s - 1) 1 (-1) (-1) 0)) else w (-1))) (fun μ' g5 g6 => ⟨_, rfl, h0.trans (g5.wide vfr_q), g6, by rw [if_pos (by omega)]⟩)
      rw [if_pos rfl] at this
      exact this
    · exact ⟨fun _ => ⟨_, rfl, h0, h1.mw, by rw [if_neg (by omega)]⟩, fun q2 => absurd rfl q2⟩
  · exact ⟨fun _ => ⟨_, rfl, h0, h1.mw, by rw [if_neg (by omega)]⟩, fun q2 => absurd rfl q2⟩
end ND
