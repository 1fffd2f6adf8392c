/-! EATING MONTH BY MONTH, in the reference: the method -/
section NE2
variable {Γ : XG} {d n a s m T : Nat} {ru : Nat → Int} {ki bx mg : Nat → Nat → Int} {ls : Int → Int → Int → Int → Int → Int → Int} {μ : XM} {Q : Option Value → XM → Prop} {W : WL}
theorem goEat_G (hf : FM Γ) {f L : Nat} (hL : L < 2 ^ s) (hpc : pc L = f + 1) {sm x : Int} (s0 : 0 ≤ sm) (s1 : sm ≤ 81 * (8 - (f + 1 : Nat))) {X : Int × Int} (X0 : -1 ≤ X.1) (X1 : X.1 ≤ 50000)
    (ih : ∀ (L' : Nat) (μ : XM) (sm x : Int) (X : Int × Int), L' < 2 ^ s → pc L' = f → 0 ≤ sm → sm ≤ 81 * (8 - f) → -1 ≤ X.1 → X.1 ≤ 50000 → MQs μ n ru ki s bx m T mg W ls → xI μ 547 39 = w X.1 → xI μ 547 40 = w X.2 → Call Γ m_MO_goEat (d + 37) [.ref 547, .int (w L'), .int (w ((s - f : Nat) : Int)), .int (w sm), .int (w x)] μ (KV (fun μ' => fr etf μ μ' ∧ MQs μ' n ru ki s bx m T mg W ls ∧ xI μ' 547 39 = w (upm X (sm + bst (gei ls ki bx m s) s (rv s L')) (bor (gei ls ki bx m s) s f (rv s L') x)).1 ∧ xI μ' 547 40 = w (upm X (sm + bst (gei ls ki bx m s) s (rv s L')) (bor (gei ls ki bx m s) s f (rv s L') x)).2))) :
    ∀ (g b : Nat) (μ : XM), b + g = s → MQs μ n ru ki s bx m T mg W ls → xI μ 547 39 = w (updo X (bpl L (fun b => sm + (gei ls ki bx m s (rv s L) (s - 1 - b) + bst (gei ls ki bx m s) s (rv s L - 2 ^ (s - 1 - b)))) (fun b => bor (gei ls ki bx m s) s f (rv s L - 2 ^ (s - 1 - b)) (10 * x + b)) b)).1 → xI μ 547 40 = w (updo X (bpl L (fun b => sm + (gei ls ki bx m s (rv s L) (s - 1 - b) + bst (gei ls ki bx m s) s (rv s L - 2 ^ (s - 1 - b)))) (fun b => bor (gei ls ki bx m s) s f (rv s L - 2 ^ (s - 1 - b)) (10 * x + b)) b)).2 → (∀ μ', fr etf μ μ' → MQs μ' n ru ki s bx m T mg W ls → xI μ' 547 39 = w (upm X (sm + bst (gei ls ki bx m s) s (rv s L)) (bor (gei ls ki bx m s) s (f + 1) (rv s L) x)).1 → xI μ' 547 40 = w (upm X (sm + bst (gei ls ki bx m s) s (rv s L)) (bor (gei ls ki bx m s) s (f + 1) (rv s L) x)).2 → Q none μ') → G Γ m_MO_goEat (d + 38) (0, 0) Q 36 [.ref 547, .int (w L), .int (w ((s - (f + 1) : Nat) : Int)), .int (w sm), .int (w x), .int (w b)] [] μ := by
  intro g
  induction g with
  | zero =>
    intro b μ hb h h39 h40 hQ
    have h8 := h.nr.1
    have hL0 : 0 < L := Nat.pos_of_ne_zero fun q => by
      rw [q] at hpc
      have : pc 0 = 0 := rfl
      omega
    refine B_MO_goEat_36 h.hm.1.o (now30 h) ⟨in40 h, ?_⟩
    rw [h.nr.sz, w_lt (by omega) (by omega) (by omega) (by omega)]
    refine ⟨fun q => absurd q (by omega), fun _ => ?_⟩
    rw [show b = s by omega, bpl_all h8 hL hL0 (geiM_bd h)] at h39 h40
    exact hQ μ (fr.rf _ _) h h39 h40
  | succ g ihg =>
    intro b μ hb h h39 h40 hQ
    have h8 := h.nr.1
    have p8 := pw_le h8
    obtain ⟨r1, r2, r3, r4⟩ := rv_ok s (by omega) L hL
    obtain ⟨q1, q2, q3⟩ := r4 b (by omega)
    have hgb := geiM_bd h
    have hCb : ∀ b, 0 ≤ sm + (gei ls ki bx m s (rv s L) (s - 1 - b) + bst (gei ls ki bx m s) s (rv s L - 2 ^ (s - 1 - b))) := fun b => by
      have h1 := hgb (rv s L) (s - 1 - b) (by omega) (by omega)
      have h2 := bst_bd (s := s) h8 hgb _ (rv s L - 2 ^ (s - 1 - b)) (Nat.le_refl _) (Nat.lt_of_le_of_lt (Nat.sub_le _ _) (by omega))
      omega
    refine B_MO_goEat_36 h.hm.1.o (now30 h) ⟨in40 h, ?_⟩
    rw [h.nr.sz, w_lt (by omega) (by omega) (by omega) (by omega), w_add]
    refine ⟨fun _ => ?_, fun q => absurd (by omega) q⟩
    refine (C_has (by omega)).conseq (KI.mono ?_)
    rw [hsb_b b (by omega) L (by omega)]
    rintro r μ2 ⟨rfl, ⟨g1, rfl⟩ | ⟨g1, rfl⟩⟩
    · refine ⟨fun q => absurd q w01, fun _ => ⟨now30 h, ?_⟩⟩
      obtain ⟨n1, n2⟩ := pc_no b (by omega) L (by omega) g1
      refine (C_belowOf (by omega) (by omega) (by omega)).conseq (KI.mono ?_)
      rintro r μ4 ⟨rfl, rfl⟩
      have pl := pc_le s (by omega) (rv s L) r1
      have pl2 := pc_le s (by omega) L hL
      have pl3 : pc (L / 2 ^ (b + 1)) ≤ 8 := pc_le 8 (by omega) _ (by have := Nat.div_le_self L (2 ^ (b + 1)); omega)
      refine (V_on (d := d + 37) hf (by omega) h (b := b) (by omega) (by omega) (by omega) (by omega) (by omega)).conseq (KI.mono ?_)
      rintro r μ5 ⟨o5, h5, rfl⟩
      have ev : vw ls ki bx m (s - 1 - b) ((s - (f + 1) : Nat) : Int) ((s - (f + 1) : Nat) : Int) ((pc (L / 2 ^ (b + 1)) : Nat) : Int) = gei ls ki bx m s (rv s L) (s - 1 - b) := by
        unfold gei
        rw [q3, r2, hpc]
      have hg1 := hgb (rv s L) (s - 1 - b) (by omega) (by omega)
      have hb1 := bst_bd (s := s) h8 hgb _ (rv s L - 2 ^ (s - 1 - b)) (Nat.le_refl _) (Nat.lt_of_le_of_lt (Nat.sub_le _ _) (by omega))
      rw [ev, and_no b (by omega) L (by omega) g1, w_add, w_add, w_mul, w_add, show ((s - (f + 1) : Nat) : Int) + 1 = ((s - f : Nat) : Int) by omega]
      have e39 : ∀ j, j = 39 ∨ j = 40 → xI μ5 547 j = xI μ4 547 j := fun j hj => (o5.1 547 j (by unfold vfr gfr; omega)).1
      have hXb : ∀ b, b ≤ s → -1 ≤ (updo X (bpl L (fun b => sm + (gei ls ki bx m s (rv s L) (s - 1 - b) + bst (gei ls ki bx m s) s (rv s L - 2 ^ (s - 1 - b)))) (fun b => bor (gei ls ki bx m s) s f (rv s L - 2 ^ (s - 1 - b)) (10 * x + b)) b)).1 ∧ (updo X (bpl L (fun b => sm + (gei ls ki bx m s (rv s L) (s - 1 - b) + bst (gei ls ki bx m s) s (rv s L - 2 ^ (s - 1 - b)))) (fun b => bor (gei ls ki bx m s) s f (rv s L - 2 ^ (s - 1 - b)) (10 * x + b)) b)).1 ≤ 50000 := fun b hb => by
        rcases bpl_is (L := L) (C := fun b => sm + (gei ls ki bx m s (rv s L) (s - 1 - b) + bst (gei ls ki bx m s) s (rv s L - 2 ^ (s - 1 - b)))) (E := fun b => bor (gei ls ki bx m s) s f (rv s L - 2 ^ (s - 1 - b)) (10 * x + b)) b with ⟨z1, z2⟩ | ⟨p, z1, z2, z3, z4, z5⟩
        · rw [z1]
          exact ⟨X0, X1⟩
        · rw [z3]
          have h1 := hgb (rv s L) (s - 1 - p) (by omega) (by omega)
          have h2 := bst_bd (s := s) h8 hgb _ (rv s L - 2 ^ (s - 1 - p)) (Nat.le_refl _) (Nat.lt_of_le_of_lt (Nat.sub_le _ _) (by omega))
          have h3 := Nat.sub_le (rv s L) (2 ^ (s - 1 - p))
          dsimp only [updo]
          unfold upm
          split
          · dsimp only
            omega
          · exact ⟨X0, X1⟩
      have hXb1 := hXb b (by omega)
      refine (ih (L - 2 ^ b) μ5 _ _ _ (Nat.lt_of_le_of_lt (Nat.sub_le _ _) hL) (by omega) (by omega) (by omega) hXb1.1 hXb1.2 h5 (by rw [e39 39 (Or.inl rfl)]; exact h39) (by rw [e39 40 (Or.inr rfl)]; exact h40)).conseq (KV.mono ?_)
      rw [q2 g1, Int.add_assoc]
      have us := updo_step (X := X) (E := fun b => bor (gei ls ki bx m s) s f (rv s L - 2 ^ (s - 1 - b)) (10 * x + b)) X0 hCb g1
      rw [us]
      rintro μ6 ⟨o6, h6, z39, z40⟩
      exact ihg (b + 1) μ6 (by omega) h6 z39 z40 (fun μ' k1 k2 k3 k4 => hQ μ' (((o5.wide (fun c j q => Or.inl q)).trans o6).trans k1) k2 k3 k4)
    · refine ⟨fun _ => ?_, fun q => absurd rfl q⟩
      have e9 : ∀ C E : Nat → Int, bpl L C E (b + 1) = bpl L C E b := fun C E => by
        conv => lhs; unfold bpl
        rw [if_neg g1]
      exact ihg (b + 1) μ2 (by omega) h (by rw [e9]; exact h39) (by rw [e9]; exact h40) hQ
theorem C_goEat (hf : FM Γ) : ∀ (f d : Nat), 38 + f ≤ d → ∀ (L : Nat) (μ : XM) (sm x : Int) (X : Int × Int), L < 2 ^ s → pc L = f → 0 ≤ sm → sm ≤ 81 * (8 - f) → -1 ≤ X.1 → X.1 ≤ 50000 → MQs μ n ru ki s bx m T mg W ls → xI μ 547 39 = w X.1 → xI μ 547 40 = w X.2 → Call Γ m_MO_goEat d [.ref 547, .int (w L), .int (w ((s - f : Nat) : Int)), .int (w sm), .int (w x)] μ (KV (fun μ' => fr etf μ μ' ∧ MQs μ' n ru ki s bx m T mg W ls ∧ xI μ' 547 39 = w (upm X (sm + bst (gei ls ki bx m s) s (rv s L)) (bor (gei ls ki bx m s) s f (rv s L) x)).1 ∧ xI μ' 547 40 = w (upm X (sm + bst (gei ls ki bx m s) s (rv s L)) (bor (gei ls ki bx m s) s f (rv s L) x)).2)) := by
  intro f
  induction f with
  | zero =>
    intro d hd L μ sm x X hL hpc s0 s1 X0 X1 h h39 h40
    have h8 := h.nr.1
    have p8 := pw_le h8
    have hL0 : L = 0 := (pc_0 L (by omega)).mp hpc
    subst hL0
    have e0 : rv s 0 = 0 := by
      have h3 : ∀ s, s < 9 → rv s 0 = 0 := by decide
      exact h3 s (by omega)
    rw [e0, bst_0, Int.add_zero]
    have eb : bor (gei ls ki bx m s) s 0 0 x = x := rfl
    rw [eb]
    obtain ⟨d, rfl⟩ : ∃ e, d = e + 1 := ⟨d - 1, by omega⟩
    refine Call.of ok_MO_goEat (Nat.le_of_ble_eq_true rfl) (B_MO_goEat_0 h.hm.1.o ?_)
    rw [h39, w_inj (by omega) (by omega) (by omega) (by omega), w_inj (by omega) (by omega) (by omega) (by omega), w_lt (by omega) (by omega) (by omega) (by omega)]
    have set : (X.1 = -1 ∨ X.1 < sm) → KV (fun μ' => fr etf μ μ' ∧ MQs μ' n ru ki s bx m T mg W ls ∧ xI μ' 547 39 = w (upm X sm x).1 ∧ xI μ' 547 40 = w (upm X sm x).2) none (sI (sI μ 547 39 (w sm)) 547 40 (w x)) := fun c => by
      have eu : upm X sm x = (sm, x) := if_pos c
      rw [eu]
      refine ⟨rfl, (fr.sI μ (w sm) (Or.inr ⟨rfl, Or.inl rfl⟩)).trans (fr.sI _ (w x) (Or.inr ⟨rfl, Or.inr rfl⟩)), (h.e (Or.inl rfl) _).e (Or.inr rfl) _, ?_, ?_⟩
      · rw [xI_sI, if_neg (by omega), xI_sI, if_pos ⟨rfl, rfl⟩]
      · rw [xI_sI, if_pos ⟨rfl, rfl⟩]
    refine ⟨fun _ => ⟨fun q => ?_, fun q => ⟨fun q2 => ?_, fun q2 => ?_⟩⟩, fun q => absurd rfl q⟩
    · rintro μ1 rfl μ2 rfl
      exact set (Or.inl q)
    · rintro μ1 rfl μ2 rfl
      exact set (Or.inr q2)
    · have eu : upm X sm x = X := if_neg (fun z => z.elim q q2)
      rw [eu]
      exact ⟨rfl, fr.rf _ _, h, h39, h40⟩
  | succ f ih =>
    intro d hd L μ sm x X hL hpc s0 s1 X0 X1 h h39 h40
    have h8 := h.nr.1
    have p8 := pw_le h8
    obtain ⟨d, rfl⟩ : ∃ e, d = e + 38 := ⟨d - 38, by omega⟩
    have hL0 : ¬ (L : Int) = 0 := fun q => by
      have : L = 0 := by omega
      rw [this] at hpc
      have e0 : pc 0 = 0 := rfl
      omega
    refine Call.of ok_MO_goEat (Nat.le_of_ble_eq_true rfl) (B_MO_goEat_0 h.hm.1.o ?_)
    rw [w_inj (by omega) (by omega) (by omega) (by omega)]
    refine ⟨fun q => absurd q hL0, fun _ => ?_⟩
    exact goEat_G hf hL hpc s0 s1 X0 X1 (ih (d + 37) (by omega)) s 0 μ (by omega) h h39 h40 (fun μ' g1 g2 g3 g4 => ⟨rfl, g1, g2, g3, g4⟩)
theorem eatM_G (hf : FM Γ) {z : Int} (z0 : 2 ≤ z) (z1 : z ≤ 3) : ∀ (f t : Nat) (μ : XM), t + f = s → MQs μ n ru ki s bx m T mg W ls → (∀ μ', fr vfr μ μ' → MW μ' W → Q (some (.int (w (fsum (eit ls ki bx m s (decide (z = 3))) s)))) μ') → G Γ m_MO_eat (d + 37) (0, 0) Q 44 [.ref 547, .int (w z), .int (w s), .int (w (fsum (eit ls ki bx m s (decide (z = 3))) t)), .int (w t)] [] μ := by
  intro f
  induction f with
  | zero =>
    intro t μ ht h hQ
    have h8 := h.nr.1
    refine B_MO_eat_44 h.hm.1.o (now30 h) ?_
    rw [w_lt (by omega) (by omega) (by omega) (by omega)]
    refine ⟨fun q => absurd q (by omega), fun _ => ?_⟩
    rw [show t = s by omega]
    exact hQ μ (fr.rf _ _) h.mw
  | succ f ih =>
    intro t μ ht h hQ
    have h8 := h.nr.1
    refine B_MO_eat_44 h.hm.1.o (now30 h) ?_
    rw [w_lt (by omega) (by omega) (by omega) (by omega), w_inj (by omega) (by omega) (by omega) (by omega), w_sub, w_sub, show (s : Int) - 1 - t = ((s - 1 - t : Nat) : Int) by omega]
    refine ⟨fun _ => ⟨fun e2 => ⟨fun _ => ?_, fun q => absurd e2 q⟩, fun e2 => ⟨fun q => absurd q e2, fun _ => ?_⟩⟩, fun q => absurd (by omega) q⟩
    · refine (V_on (d := d + 36) hf (by omega) h (b := s - 1 - t) (by omega) (by omega) (by omega) (by omega) (by omega)).conseq (KI.mono ?_)
      rintro r μ4 ⟨o4, h4, rfl⟩
      simp only [w_add]
      have nx := ih (t + 1) μ4 (by omega) h4 (fun μ' g1 g2 => hQ μ' (o4.trans g1) g2)
      have e9 : fsum (eit ls ki bx m s (decide (z = 3))) (t + 1) = fsum (eit ls ki bx m s (decide (z = 3))) t + vw ls ki bx m (s - 1 - (s - 1 - t)) t t 0 := by
        show _ + eit ls ki bx m s (decide (z = 3)) t = _
        unfold eit
        rw [if_neg (by simp; omega), show s - 1 - (s - 1 - t) = t by omega]
      rw [e9] at nx
      exact nx
    · refine (V_on (d := d + 36) hf (by omega) h (b := t) (by omega) (by omega) (by omega) (by omega) (by omega)).conseq (KI.mono ?_)
      rintro r μ4 ⟨o4, h4, rfl⟩
      simp only [w_add]
      have nx := ih (t + 1) μ4 (by omega) h4 (fun μ' g1 g2 => hQ μ' (o4.trans g1) g2)
      have e9 : fsum (eit ls ki bx m s (decide (z = 3))) (t + 1) = fsum (eit ls ki bx m s (decide (z = 3))) t + vw ls ki bx m (s - 1 - t) t t ((s - 1 - t : Nat) : Int) := by
        show _ + eit ls ki bx m s (decide (z = 3)) t = _
        unfold eit
        rw [if_pos (by simp; omega)]
      rw [e9] at nx
      exact nx
theorem C_eatM (hf : FM Γ) (hd : 48 ≤ d) (h : MQs μ n ru ki s bx m T mg W ls) {z : Int} (z1 : -2147483648 ≤ z) (z2 : z < 2147483648) : Call Γ m_MO_eat d [.ref 547, .int (w z)] μ (KI (fun r μ' => fr qfr μ μ' ∧ MW μ' W ∧ r = if 0 < n ∧ 0 ≤ z ∧ z ≤ 3 then w (if z = 0 then bor (gei ls ki bx m s) s s (2 ^ s - 1) 0 else if z = 1 then bst (gei ls ki bx m s) s (2 ^ s - 1) else fsum (eit ls ki bx m s (decide (z = 3))) s) else w (-1))) := by
  obtain ⟨d, rfl⟩ : ∃ e, d = e + 48 := ⟨d - 48, by omega⟩
  have hn := h.hm.2.1
  have h8 := h.nr.1
  have p8 := pw_le h8
  refine Call.of ok_MO_eat (Nat.le_of_ble_eq_true rfl) (B_MO_eat_0 h.hm.1.o ?_)
  rintro μ1 rfl
  have h0 := (th0 μ).wide thr_q
  have h1 := h.th
  rw [h1.hm.2.2.1, w_inj (by omega) (by omega) (by omega) (by omega), w_l z1 z2]
  refine ⟨fun q => ⟨_, rfl, h0, h1.mw, by rw [if_neg (by omega)]⟩, fun q => ?_⟩
  refine (C_isIn (x := 0) (y := 3) (by omega) (by omega) (by omega) (by omega) (by omega) (by omega) (by omega)).conseq (KI.mono ?_)
  rintro r μ2 ⟨rfl, ⟨g1, g2, rfl⟩ | ⟨g1, rfl⟩⟩
  · refine ⟨fun q2 => absurd q2 w01, fun _ => ⟨559, now30 h1, in40 h1, ?_⟩⟩
    rw [h1.nr.sz, w_lt (by omega) (by omega) (by omega) (by omega)]
    refine ⟨fun q2 => ?_, fun q2 => ?_⟩
    · refine eatM_G (d := d + 11) hf (by omega) g2 s 0 _ (by omega) h1 (fun μ' g3 g4 => ⟨_, rfl, h0.trans (g3.wide vfr_q), g4, ?_⟩)
      rw [if_pos (show 0 < n ∧ 0 ≤ z ∧ z ≤ 3 by omega), if_neg (show ¬ z = 0 by omega), if_neg (show ¬ z = 1 by omega)]
    · rintro μ5 rfl μ6 rfl
      rw [shl_w h8, w_sub, show ((2 ^ s : Nat) : Int) - 1 = ((2 ^ s - 1 : Nat) : Int) by omega]
      have h6 := (h1.e (Or.inl rfl) (w (-1))).e (Or.inr rfl) (w 0)
      have o6 : fr etf (sI μ 547 0 (w 0)) (sI (sI (sI μ 547 0 (w 0)) 547 39 (w (-1))) 547 40 (w 0)) := (fr.sI _ (w (-1)) (Or.inr ⟨rfl, Or.inl rfl⟩)).trans (fr.sI _ (w 0) (Or.inr ⟨rfl, Or.inr rfl⟩))
      have := C_goEat (Γ := Γ) hf s (d + 47) (by omega) (2 ^ s - 1) _ 0 0 (-1, 0) (by omega) (pc_all s (by omega)) (by omega) (by omega) (by dsimp only; omega) (by dsimp only; omega) h6 (by rw [xI_sI, if_neg (by omega), xI_sI, if_pos ⟨rfl, rfl⟩]) (by rw [xI_sI, if_pos ⟨rfl, rfl⟩])
      rw [Nat.sub_self] at this
      refine this.conseq (KV.mono ?_)
      have er := (rv_ok s (by omega) (2 ^ s - 1) (by omega)).2.2.1
      rw [er, Int.zero_add]
      have eu : upm (-1, 0) (bst (gei ls ki bx m s) s (2 ^ s - 1)) (bor (gei ls ki bx m s) s s (2 ^ s - 1) 0) = (bst (gei ls ki bx m s) s (2 ^ s - 1), bor (gei ls ki bx m s) s s (2 ^ s - 1) 0) := if_pos (Or.inl rfl)
      rw [eu]
      rintro μ7 ⟨o7, h7, z39, z40⟩
      have o17 := (h0.trans (o6.wide etf_q)).trans (o7.wide etf_q)
      rw [w_inj (by omega) (by omega) (by omega) (by omega)]
      refine ⟨fun q3 => ⟨_, rfl, o17, h7.mw, ?_⟩, fun q3 => ⟨_, rfl, o17, h7.mw, ?_⟩⟩
      · rw [z40, if_pos (show 0 < n ∧ 0 ≤ z ∧ z ≤ 3 by omega), if_pos q3]
      · rw [z39, if_pos (show 0 < n ∧ 0 ≤ z ∧ z ≤ 3 by omega), if_neg q3, if_pos (show z = 1 by omega)]
  · exact ⟨fun _ => ⟨_, rfl, h0, h1.mw, by rw [if_neg (by omega)]⟩, fun q2 => absurd rfl q2⟩
end NE2
