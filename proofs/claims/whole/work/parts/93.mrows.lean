/-! ROWS OF THE REFERENCE: copies, ages, what hours cost -/
/-- cells that hold rows, the image's too -/
def RC3 (a : Nat) : Prop := a = 559 ∨ a = 560 ∨ a = 572
theorem RC3.sh {a : Nat} (h : RC3 a) : shp a = some (.inr (0, 283)) ∧ a < 574 ∧ 32 ≤ a := by
  rcases h with rfl | rfl | rfl <;> exact ⟨rfl, by omega, by omega⟩
theorem RC.r3 {a : Nat} (h : RC a) : RC3 a := by unfold RC at h; unfold RC3; omega
theorem NR.cg {μ : XM} {a o s m T : Nat} {bx bx' mg : Nat → Nat → Int} (h : NR μ a o s bx m T mg) (he : ∀ j, j < s → ∀ t, t < 4 → bx' j t = bx j t) : NR μ a o s bx' m T mg := by
  obtain ⟨h1, h2, h3, h4, h5, h6, h7⟩ := h
  refine ⟨h1, h2, h3, h4, h5, fun b hb => ?_, h7⟩
  have e := he (s - 1 - b) (by omega)
  unfold BB
  rw [e 0 (by omega), e 1 (by omega), e 2 (by omega), e 3 (by omega)]
  exact h6 b hb
theorem NR.cp {μ μ' : XM} {a b o o' s m T : Nat} {bx mg : Nat → Nat → Int} (h : NR μ a o s bx m T mg) (he : ∀ j, j < 43 + 4 * min 60 T → xI μ' b (o' + j) = xI μ a (o + j)) : NR μ' b o' s bx m T mg := by
  obtain ⟨h1, h2, h3, h4, h5, h6, h7⟩ := h
  refine ⟨h1, h2, by rw [he 40 (by omega)]; exact h3, by rw [he 41 (by omega)]; exact h4, by rw [he 42 (by omega)]; exact h5, fun c hc => ?_, fun k hk q hq => ?_⟩
  · rw [he (5 * c) (by omega), show o' + 5 * c + 1 = o' + (5 * c + 1) by omega, show o' + 5 * c + 2 = o' + (5 * c + 2) by omega, show o' + 5 * c + 3 = o' + (5 * c + 3) by omega, show o' + 5 * c + 4 = o' + (5 * c + 4) by omega, he (5 * c + 1) (by omega), he (5 * c + 2) (by omega), he (5 * c + 3) (by omega), he (5 * c + 4) (by omega)]
    exact h6 c hc
  · rw [show o' + 43 + 4 * k + q = o' + (43 + 4 * k + q) by omega, he _ (by omega), show o + (43 + 4 * k + q) = o + 43 + 4 * k + q by omega]
    exact h7 k hk q hq
section RA
variable {Γ : XG} {d n a b s m T : Nat} {ru : Nat → Int} {ki bx mg : Nat → Nat → Int} {ls : Int → Int → Int → Int → Int → Int → Int} {μ : XM} {Q : Option Value → XM → Prop} {W : WL}
theorem copy_G (ha : RC3 a) (hb : RC3 b) (hab : a ≠ b) {L : Nat} (hL : L ≤ 283) : ∀ (f j : Nat) (μ : XM), j + f = L → 574 ≤ xN μ → (∀ μ', fr (fun c _ => c = b) μ μ' → (∀ i, (i < j ∨ L ≤ i) → xI μ' b i = xI μ b i) → (∀ i, j ≤ i → i < L → xI μ' b i = xI μ a i) → Q none μ') → G Γ m_MO_copy (d + 1) (0, 0) Q 12 [.ref a, .ref b, .int (w L), .int (w j)] [] μ := by
  intro f
  induction f with
  | zero =>
    intro j μ hj hx hQ
    refine B_MO_copy_12 ?_
    rw [w_lt (by omega) (by omega) (by omega) (by omega)]
    exact ⟨fun q => absurd q (by omega), fun _ => hQ μ (fr.rf _ _) (fun _ _ => rfl) (fun i h1 h2 => absurd h2 (by omega))⟩
  | succ f ih =>
    intro j μ hj hx hQ
    refine B_MO_copy_12 ?_
    rw [w_lt (by omega) (by omega) (by omega) (by omega), w_cln (by omega), w_add]
    refine ⟨fun _ => ⟨inb_of ha.sh.1 ha.sh.2.1 hx (by omega) (by omega), inS_of hb.sh.1 hb.sh.2.1 hx (by omega) (by omega) hb.sh.2.2, ?_⟩, fun q => absurd (by omega) q⟩
    rintro μ3 rfl
    refine ih (j + 1) _ (by omega) hx (fun μ' g1 g2 g3 => hQ μ' ((fr.sI (F := fun c _ => c = b) (a := b) (k := j) μ _ rfl).trans g1) (fun i hi => ?_) (fun i h1 h2 => ?_))
    · rw [g2 i (by omega), xI_sI, if_neg (by omega)]
    · by_cases e : i = j
      · subst e
        rw [g2 i (by omega), xI_sI, if_pos ⟨rfl, rfl⟩]
      · rw [g3 i (by omega) h2, xI_sI, if_neg (by omega)]
theorem C_copyM (hd : 1 ≤ d) (ha : RC3 a) (hb : RC3 b) (hab : a ≠ b) (hx : 574 ≤ xN μ) (hN : NR μ a 0 s bx m T mg) : Call Γ m_MO_copy d [.ref a, .ref b] μ (KV (fun μ' => fr (fun c _ => c = b) μ μ' ∧ NR μ' b 0 s bx m T mg)) := by
  obtain ⟨d, rfl⟩ : ∃ e, d = e + 1 := ⟨d - 1, by omega⟩
  refine Call.of ok_MO_copy (Nat.le_of_ble_eq_true rfl) (B_MO_copy_0 ⟨inb_of ha.sh.1 ha.sh.2.1 hx (by omega) (by omega), ?_⟩)
  rw [show (w 42).toNatClampNeg = 0 + 42 by decide, hN.2.2.2.2.1, w_mul, w_add, show (43 : Int) + 4 * ((min 60 T : Nat) : Int) = ((43 + 4 * min 60 T : Nat) : Int) by omega]
  refine copy_G ha hb hab (by omega) (43 + 4 * min 60 T) 0 μ (by omega) hx (fun μ' g1 g2 g3 => ⟨rfl, g1, hN.cp (fun j hj => ?_)⟩)
  rw [Nat.zero_add]
  exact g3 j (by omega) hj
/-- the b upper boxes have grown older -/
def bolt (bx : Nat → Nat → Int) (n : Int) (s b : Nat) : Nat → Nat → Int := fun j t => if t = 2 ∧ s ≤ j + b then min 99 (bx j 2 + n) else bx j t
/-- one value of a box changes: the place is written -/
theorem NR.set {bx' : Nat → Nat → Int} (h : NR μ a 0 s bx m T mg) {c q : Nat} (hc : c < s) (hq : q < 3) {v : Int} (he : ∀ j, j < s → ∀ t, t < 4 → bx' j t = if j = s - 1 - c ∧ t = q then v else bx j t) (hB : BB bx' (s - 1 - c)) : NR (sI μ a (5 * c + q) (w v)) a 0 s bx' m T mg := by
  obtain ⟨h1, h2, h3, h4, h5, h6, h7⟩ := h
  have ne : ∀ j, j ≠ 5 * c + q → xI (sI μ a (5 * c + q) (w v)) a j = xI μ a j := fun j hj => by rw [xI_sI, if_neg (fun z => hj z.2)]
  refine ⟨h1, h2, by rw [ne _ (by omega)]; exact h3, by rw [ne _ (by omega)]; exact h4, by rw [ne _ (by omega)]; exact h5, fun b hb => ?_, fun k hk r hr => by rw [ne _ (by omega)]; exact h7 k hk r hr⟩
  obtain ⟨⟨e0, e1, e2, e3, e4⟩, eB⟩ := h6 b hb
  have e := he (s - 1 - b) (by omega)
  by_cases ebc : b = c
  · subst ebc
    have ev : xI (sI μ a (5 * b + q) (w v)) a (5 * b + q) = w v := by rw [xI_sI, if_pos ⟨rfl, rfl⟩]
    have en3 : bx' (s - 1 - b) 3 = bx (s - 1 - b) 3 := by rw [e 3 (by omega), if_neg (by omega)]
    refine ⟨⟨?_, ?_, ?_, ?_, ?_⟩, hB⟩
    · rw [e 0 (by omega)]
      by_cases z : q = 0
      · subst z; rw [if_pos ⟨rfl, rfl⟩, Nat.zero_add]; exact ev
      · rw [if_neg (fun y => z y.2.symm), ne _ (by omega)]; exact e0
    · rw [e 1 (by omega)]
      by_cases z : q = 1
      · subst z; rw [if_pos ⟨rfl, rfl⟩, Nat.zero_add]; exact ev
      · rw [if_neg (fun y => z y.2.symm), ne _ (by omega)]; exact e1
    · rw [e 2 (by omega)]
      by_cases z : q = 2
      · subst z; rw [if_pos ⟨rfl, rfl⟩, Nat.zero_add]; exact ev
      · rw [if_neg (fun y => z y.2.symm), ne _ (by omega)]; exact e2
    · rw [en3, ne _ (by omega)]; exact e3
    · intro hl
      rw [en3] at hl
      rw [en3, ne _ (by omega)]
      exact e4 hl
  · have en : ∀ t, t < 4 → bx' (s - 1 - b) t = bx (s - 1 - b) t := fun t ht => by rw [e t ht, if_neg (by omega)]
    unfold BB at eB ⊢
    rw [en 0 (by omega), en 1 (by omega), en 2 (by omega), en 3 (by omega)]
    refine ⟨⟨?_, ?_, ?_, ?_, ?_⟩, eB⟩
    · rw [ne _ (by omega)]; exact e0
    · rw [ne _ (by omega)]; exact e1
    · rw [ne _ (by omega)]; exact e2
    · rw [ne _ (by omega)]; exact e3
    · intro hl
      rw [ne _ (by omega)]; exact e4 hl
theorem ages_G (ha : RC a) {v : Int} (v0 : 0 ≤ v) (v9 : v ≤ 1000) : ∀ (f b : Nat) (μ : XM), b + f = s → 574 ≤ xN μ → (∀ j, j < s → BB bx j) → NR μ a 0 s (bolt bx v s b) m T mg → (∀ μ', fr (fun c _ => c = a) μ μ' → NR μ' a 0 s (bold bx v s) m T mg → Q none μ') → G Γ m_MO_ages (d + 1) (0, 0) Q 2 [jk, .ref a, .int (w v), .int (w b)] [] μ := by
  intro f
  induction f with
  | zero =>
    intro b μ hb hx hBB hN hQ
    have h8 := hN.1
    refine B_MO_ages_2 ⟨rc_in ha hx (by omega) (by omega), ?_⟩
    rw [hN.sz, w_lt (by omega) (by omega) (by omega) (by omega)]
    refine ⟨fun q => absurd q (by omega), fun _ => hQ μ (fr.rf _ _) (hN.cg (fun j hj t ht => ?_))⟩
    unfold bold bolt
    by_cases e : t = 2
    · rw [if_pos ⟨e, hj⟩, if_pos ⟨e, by omega⟩]
    · rw [if_neg (fun z => e z.1), if_neg (fun z => e z.1)]
  | succ f ih =>
    intro b μ hb hx hBB hN hQ
    have h8 := hN.1
    obtain ⟨e0, e1, e2, hB⟩ := hN.at (b := b) (by omega)
    have hbb := hBB (s - 1 - b) (by omega)
    have e3 : bolt bx v s b (s - 1 - b) 2 = bx (s - 1 - b) 2 := by unfold bolt; rw [if_neg (by omega)]
    unfold BB at hbb
    refine B_MO_ages_2 ⟨rc_in ha hx (by omega) (by omega), ?_⟩
    rw [hN.sz, w_lt (by omega) (by omega) (by omega) (by omega), e2, e3, w_add, w_add, jmin_w (by omega) (by omega) (by omega) (by omega)]
    refine ⟨fun _ => ⟨rc_5 ha hx (by omega) (by omega) (by omega), ⟨ha.sh.2.2, rc_5 ha hx (by omega) (by omega) (by omega)⟩, ?_⟩, fun q => absurd (by omega) q⟩
    rintro μ4 rfl
    rw [w_mul, w_add, w_cl (by omega) (by omega), show (5 * (b : Int) + 2).toNat = 5 * b + 2 by omega]
    refine ih (b + 1) _ (by omega) hx hBB ?_ (fun μ' g1 g2 => hQ μ' ((fr.sI (F := fun c _ => c = a) (a := a) (k := 5 * b + 2) μ _ rfl).trans g1) g2)
    refine hN.set (by omega) (by omega) (fun j hj t ht => ?_) ?_
    · unfold bolt
      by_cases et : t = 2
      · by_cases ej : j = s - 1 - b
        · rw [if_pos (show t = 2 ∧ s ≤ j + (b + 1) from ⟨et, by omega⟩), if_pos (show j = s - 1 - b ∧ t = 2 from ⟨ej, et⟩), ej]
        · rw [if_neg (show ¬ (j = s - 1 - b ∧ t = 2) from fun z => ej z.1)]
          by_cases e5 : s ≤ j + b
          · rw [if_pos (show t = 2 ∧ s ≤ j + (b + 1) from ⟨et, by omega⟩), if_pos (show t = 2 ∧ s ≤ j + b from ⟨et, e5⟩)]
          · rw [if_neg (show ¬ (t = 2 ∧ s ≤ j + (b + 1)) by omega), if_neg (show ¬ (t = 2 ∧ s ≤ j + b) by omega)]
      · rw [if_neg (show ¬ (t = 2 ∧ s ≤ j + (b + 1)) from fun z => et z.1), if_neg (show ¬ (j = s - 1 - b ∧ t = 2) from fun z => et z.2), if_neg (show ¬ (t = 2 ∧ s ≤ j + b) from fun z => et z.1)]
    · unfold BB bolt
      rw [if_neg (by omega), if_neg (by omega), if_pos (by omega), if_neg (by omega)]
      omega
theorem C_ages (hd : 1 ≤ d) (ha : RC a) (hx : 574 ≤ xN μ) (hN : NR μ a 0 s bx m T mg) {v : Int} (v0 : 0 ≤ v) (v9 : v ≤ 1000) : Call Γ m_MO_ages d [.ref 547, .ref a, .int (w v)] μ (KV (fun μ' => fr (fun c _ => c = a) μ μ' ∧ NR μ' a 0 s (bold bx v s) m T mg)) := by
  obtain ⟨d, rfl⟩ : ∃ e, d = e + 1 := ⟨d - 1, by omega⟩
  have hBB : ∀ j, j < s → BB bx j := fun j hj => by
    have := (hN.2.2.2.2.2.1 (s - 1 - j) (by omega)).2
    rwa [show s - 1 - (s - 1 - j) = j by omega] at this
  refine Call.of ok_MO_ages (Nat.le_of_ble_eq_true rfl) (B_MO_ages_0 (ages_G ha v0 v9 s 0 μ (by omega) hx hBB (hN.cg (fun j hj t ht => ?_)) (fun μ' g1 g2 => ⟨rfl, g1, g2⟩)))
  unfold bolt
  rw [if_neg (by omega)]
theorem q559 (c j : Nat) (h : c = 560) : qfr c j := Or.inr (Or.inr (Or.inl h))
theorem MQs.t (h : MQs μ n ru ki s bx m T mg W ls) {μ' : XM} (ho : fr (fun c _ => c = 560) μ μ') : MQs μ' n ru ki s bx m T mg W ls :=
  ⟨h.1.fr ho (fun k v e => by omega) (by omega) (fun j => by omega) (fun j => by omega), h.2.1.fr ho (fun j => by omega), h.2.2.1, h.2.2.2.1, h.2.2.2.2.1.frm ho (fun c j hc => by omega) (by omega) (fun c j h1 h2 => by omega) (fun c j h1 h2 => by omega), h.2.2.2.2.2⟩
theorem KN.oldt (hK : KN bx s n) (v : Int) : KN (bold bx v s) s n := KN.old hK v s
theorem tmhM_bd (h : MQs μ n ru ki s bx m T mg W ls) {z : Int} (z2 : z ≤ 99) : 0 ≤ tmh ru bx s z ∧ tmh ru bx s z ≤ 99 ∧ 0 ≤ bsum bx 1 s ∧ bsum bx 1 s ≤ 72 := by
  have h8 := h.nr.1
  have hBB : ∀ j, j < s → BB bx j := fun j hj => by
    have := (h.nr.2.2.2.2.2.1 (s - 1 - j) (by omega)).2
    rwa [show s - 1 - (s - 1 - j) = j by omega] at this
  have hb := bsum_le hBB s (by omega)
  have := brn_bd h.hm.2.2.2.1 (p := bsum bx 1 s) (by omega) (by omega)
  unfold tmh
  omega
/-- trial: as now, so many hours later -/
theorem K_trial (hd : 3 ≤ d) (h : MQs μ n ru ki s bx m T mg W ls) {z : Int} (hz : isH n z) {K : XM → Prop} (hK : ∀ μ', fr (fun c _ => c = 560) μ μ' → MQs μ' n ru ki s bx m T mg W ls → NR μ' 560 0 s (bold bx (tmh ru bx s z) s) m T mg → K μ') :
    Call Γ m_MO_copy d [.ref 559, .ref 560] μ (KV (fun μ5 => xR μ5 547 31 = some 560 ∧ xR μ5 547 30 = some 559 ∧ Call Γ m_MO_sumIn d [.ref 547, .ref 559] μ5 (KI (fun v8 μ8 => Call Γ m_MO_moreThanBorne d [.ref 547, .int v8, .int (w z)] μ8 (KI (fun v9 μ9 => Call Γ m_MO_ages d [.ref 547, .ref 560, .int v9] μ9 (KV K))))))) := by
  unfold isH at hz
  refine (C_copyM (by omega) (Or.inl rfl) (Or.inr (Or.inl rfl)) (by omega) h.hm.1.1 h.nr).conseq (KV.mono ?_)
  rintro μ5 ⟨o5, h5⟩
  have hq5 := h.t o5
  refine ⟨hq5.hm.1.r 31 560 rfl, now30 hq5, ?_⟩
  refine (C_sumIn (by omega) hq5.hm.1.1 shmod.2.2.1 (by omega) hq5.nr).conseq (KI.mono ?_)
  rintro r μ8 ⟨rfl, rfl⟩
  have hb := tmhM_bd h hz.2.2
  refine (C_moreThanBorne (by omega) hq5.hm (by omega) (by omega) (by omega) (by omega) (by omega)).conseq (KI.mono ?_)
  rintro r μ9 ⟨rfl, rfl⟩
  refine (C_ages (v := tmh ru bx s z) (by omega) (Or.inr rfl) hq5.hm.1.1 h5 hb.1 (by omega)).conseq (KV.mono ?_)
  rintro μ10 ⟨o10, h10⟩
  exact hK μ10 (o5.trans o10) (hq5.t o10) h10
theorem C_costsM (hf : FM Γ) (hd : 39 ≤ d) (h : MQs μ n ru ki s bx m T mg W ls) {z : Int} (z1 : -2147483648 ≤ z) (z2 : z < 2147483648) : Call Γ m_MO_costs d [.ref 547, .int (w z)] μ (KI (fun r μ' => fr qfr μ μ' ∧ MW μ' W ∧ ((isH n z ∧ r = w (sov ls ki bx m s 0 0 - sov ls ki bx m s (tmh ru bx s z) 0)) ∨ (¬ isH n z ∧ r = w (-1))))) := by
  obtain ⟨d, rfl⟩ : ∃ e, d = e + 1 := ⟨d - 1, by omega⟩
  have hn := h.hm.2.1
  refine Call.of ok_MO_costs (Nat.le_of_ble_eq_true rfl) (B_MO_costs_0 h.hm.1.o ?_)
  rintro μ1 rfl
  have h0 := (th0 μ).wide thr_q
  have h1 := h.th
  refine (C_isHoursM (by omega) h1.hm z1 z2).conseq (KI.mono ?_)
  rintro r μ2 ⟨rfl, ⟨hz, rfl⟩ | ⟨hz, rfl⟩⟩
  · refine ⟨fun q => absurd q w01, fun _ => ⟨559, now30 h1, 560, h1.hm.1.r 31 560 rfl, ?_⟩⟩
    refine K_trial (by omega) h1 hz (fun μ3 o3 h3 n3 => ⟨now30 h3, ?_⟩)
    refine (C_valueIn hf (by omega) h3.hm h3.mw h3.lo (Or.inl rfl) h3.nr h3.kn).conseq (KI.mono ?_)
    rintro r μ4 ⟨o4, w4, rfl⟩
    have h4 := h3.v o4 w4
    refine ⟨h4.hm.1.r 31 560 rfl, ?_⟩
    refine (C_valueIn hf (by omega) h4.hm h4.mw h4.lo (Or.inr rfl) (NRv n3 (Or.inr rfl) o4) (KN.oldt h4.kn _)).conseq (KI.mono ?_)
    rintro r μ5 ⟨o5, w5, rfl⟩
    refine ⟨_, rfl, ((h0.trans (o3.wide q559)).trans (o4.wide vfr_q)).trans (o5.wide vfr_q), w5, Or.inl ⟨hz, ?_⟩⟩
    rw [w_sub]
    congr 2
    unfold sov
    exact fsum_cg s (fun i hi => vw_old hi _ _ _)
  · exact ⟨fun _ => ⟨_, rfl, h0, h1.mw, Or.inr ⟨hz, rfl⟩⟩, fun q => absurd rfl q⟩
theorem keepM_G (hf : FM Γ) {v t : Int} (v0 : 0 ≤ v) (v9 : v ≤ 9) : ∀ (f b : Nat) (μ : XM), b + f = s → MQs μ n ru ki s bx m T mg W ls → NR μ 560 0 s (bold bx t s) m T mg → (∀ μ', fr vfr μ μ' → MW μ' W → Q (some (.int (btw (fun p => decide (v ≤ pw ls ki (bx (s - 1 - p) 0) (bx (s - 1 - p) 1) (min 99 (bx (s - 1 - p) 2 + t)) ((s - 1 - p : Nat) : Int) m)) s))) μ') → G Γ m_MO_keep (d + 38) (0, 0) Q 64 [.ref 547, jk, .int (w v), .int (btw (fun p => decide (v ≤ pw ls ki (bx (s - 1 - p) 0) (bx (s - 1 - p) 1) (min 99 (bx (s - 1 - p) 2 + t)) ((s - 1 - p : Nat) : Int) m)) b), .int (w b)] [] μ := by
  intro f
  induction f with
  | zero =>
    intro b μ hb h hN hQ
    have h8 := h.nr.1
    refine B_MO_keep_64 h.hm.1.o (h.hm.1.r 31 560 rfl) ⟨rc_in (Or.inr rfl) h.hm.1.1 (by omega) (by omega), ?_⟩
    rw [hN.sz, w_lt (by omega) (by omega) (by omega) (by omega)]
    refine ⟨fun q => absurd q (by omega), fun _ => ?_⟩
    rw [show b = s by omega]
    exact hQ μ (fr.rf _ _) h.mw
  | succ f ih =>
    intro b μ hb h hN hQ
    have h8 := h.nr.1
    have hn := h.hm.2.1
    refine B_MO_keep_64 h.hm.1.o (h.hm.1.r 31 560 rfl) ⟨rc_in (Or.inr rfl) h.hm.1.1 (by omega) (by omega), ?_⟩
    rw [hN.sz, w_lt (by omega) (by omega) (by omega) (by omega)]
    refine ⟨fun _ => ?_, fun q => absurd (by omega) q⟩
    refine (C_valueOfM (d := d + 37) hf (by omega) h.hm h.mw h.lo (Or.inr rfl) hN (KN.oldt h.kn t) (b := b) (by omega)).conseq (KI.mono ?_)
    rintro r μ2 ⟨o2, w2, rfl⟩
    have h2 := h.v o2 w2
    have hN2 := NRv hN (Or.inr rfl) o2
    obtain ⟨-, e1, -, hB⟩ := hN2.at (b := b) (by omega)
    have eb : bold bx t s (s - 1 - b) 1 = bx (s - 1 - b) 1 := by unfold bold; rw [if_neg (by omega)]
    have hB0 := (h.nr.at (b := b) (by omega)).2.2.2
    have hk := h.kn (s - 1 - b) (by omega)
    unfold BB at hB0
    have hp := pw_bd (ls := ls) (k := bx (s - 1 - b) 0) (n := bx (s - 1 - b) 1) (a := min 99 (bx (s - 1 - b) 2 + t)) (y := ((s - 1 - b : Nat) : Int)) (m := m) (h.hm.2.2.2.2.2 (bx (s - 1 - b) 0).toNat (by omega)).2
    have ev : vpl ls ki (bold bx t s) m s b = bx (s - 1 - b) 1 * pw ls ki (bx (s - 1 - b) 0) (bx (s - 1 - b) 1) (min 99 (bx (s - 1 - b) 2 + t)) ((s - 1 - b : Nat) : Int) m := by
      unfold vpl
      rw [vw_old (by omega)]
      unfold vw
      rw [Int.add_zero]
    have m1 := mul_bd (a := bx (s - 1 - b) 1) (b := pw ls ki (bx (s - 1 - b) 0) (bx (s - 1 - b) 1) (min 99 (bx (s - 1 - b) 2 + t)) ((s - 1 - b : Nat) : Int) m) (x := 9) (y := 9) (by omega) (by omega) hp.1 (by omega)
    have m2 := mul_bd (a := v) (b := bx (s - 1 - b) 1) (x := 9) (y := 9) v0 (by omega) (by omega) (by omega)
    have nx := ih (b + 1) μ2 (by omega) h2 hN2 (fun μ' g1 g2 => hQ μ' (o2.trans g1) g2)
    rw [btw] at nx
    refine ⟨h2.hm.1.r 31 560 rfl, rc_5 (Or.inr rfl) h2.hm.1.1 (by omega) (by omega) (by omega), ?_⟩
    rw [e1, eb, ev, w_mul, w_lt (by omega) (by omega) (by omega) (by omega), w_add]
    have key : bx (s - 1 - b) 1 * pw ls ki (bx (s - 1 - b) 0) (bx (s - 1 - b) 1) (min 99 (bx (s - 1 - b) 2 + t)) ((s - 1 - b : Nat) : Int) m < v * bx (s - 1 - b) 1 ↔ pw ls ki (bx (s - 1 - b) 0) (bx (s - 1 - b) 1) (min 99 (bx (s - 1 - b) 2 + t)) ((s - 1 - b : Nat) : Int) m < v := by
      rw [Int.mul_comm v]
      exact Int.mul_lt_mul_left (by omega)
    refine ⟨fun q => ?_, fun q => ?_⟩
    · rw [if_neg (by have := key.mp q; simp; omega)] at nx
      rw [or_0]
      exact nx
    · rw [if_pos (by have := fun z => q (key.mpr z); simp; omega)] at nx
      exact nx
theorem C_keepM (hf : FM Γ) (hd : 39 ≤ d) (h : MQs μ n ru ki s bx m T mg W ls) {z v : Int} (z1 : -2147483648 ≤ z) (z2 : z < 2147483648) (v1 : -2147483648 ≤ v) (v2 : v < 2147483648) : Call Γ m_MO_keep d [.ref 547, .int (w z), .int (w v)] μ (KI (fun r μ' => fr qfr μ μ' ∧ MW μ' W ∧ (((isH n z ∧ 0 ≤ v ∧ v ≤ 9) ∧ r = btw (fun p => decide (v ≤ pw ls ki (bx (s - 1 - p) 0) (bx (s - 1 - p) 1) (min 99 (bx (s - 1 - p) 2 + tmh ru bx s z)) ((s - 1 - p : Nat) : Int) m)) s) ∨ (¬ (isH n z ∧ 0 ≤ v ∧ v ≤ 9) ∧ r = w (-1))))) := by
  obtain ⟨d, rfl⟩ : ∃ e, d = e + 39 := ⟨d - 39, by omega⟩
  have hn := h.hm.2.1
  refine Call.of ok_MO_keep (Nat.le_of_ble_eq_true rfl) (B_MO_keep_0 h.hm.1.o ?_)
  rintro μ1 rfl
  have h0 := (th0 μ).wide thr_q
  have h1 := h.th
  refine (C_isHoursM (by omega) h1.hm z1 z2).conseq (KI.mono ?_)
  rintro r μ2 ⟨rfl, ⟨hz, rfl⟩ | ⟨hz, rfl⟩⟩
  · refine ⟨fun q => absurd q w01, fun _ => ?_⟩
    rw [w_l v1 v2]
    refine (C_isIn (x := 0) (y := 9) (by omega) (by omega) (by omega) (by omega) (by omega) (by omega) (by omega)).conseq (KI.mono ?_)
    rintro r μ3 ⟨rfl, ⟨g1, g2, rfl⟩ | ⟨g1, rfl⟩⟩
    · refine ⟨fun q => absurd q w01, fun _ => ⟨559, now30 h1, 560, h1.hm.1.r 31 560 rfl, ?_⟩⟩
      refine K_trial (by omega) h1 hz (fun μ3 o3 h3 n3 => ?_)
      exact keepM_G (d := d + 1) hf g1 g2 s 0 μ3 (by omega) h3 n3 (fun μ' g3 g4 => ⟨_, rfl, (h0.trans (o3.wide q559)).trans (g3.wide vfr_q), g4, Or.inl ⟨⟨hz, g1, g2⟩, rfl⟩⟩)
    · exact ⟨fun _ => ⟨_, rfl, h0, h1.mw, Or.inr ⟨fun y => g1 y.2, rfl⟩⟩, fun q => absurd rfl q⟩
  · exact ⟨fun _ => ⟨_, rfl, h0, h1.mw, Or.inr ⟨fun y => hz y.1, rfl⟩⟩, fun q => absurd rfl q⟩
end RA
