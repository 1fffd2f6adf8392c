theorem ks_start {I : RI4} {L : RJ} {R : RR} {xs : Nat → Int32} (hI : ∀ c, 32 ≤ c → ∀ j, I c j = w 0) (hL : ∀ c, 32 ≤ c → ∀ j, L c j = wl 0) (hST : ∀ a j v, sT a j = some v → I a j = w v) (hSS : ∀ j, j < 6 → ∀ i, i < (sS j).length → I (20 + j) i = w ((sS j).getD i 0)) (hx : ∀ j, I 31 j = xs j) : KS xs (moI (fbI I), L, moR (vR (fbR R) 5), 574) 0 := by
  obtain ⟨μ, eμ⟩ : ∃ m : XM, m = (moI (fbI I), L, moR (vR (fbR R) 5), 574) := ⟨_, rfl⟩
  rw [← eμ]
  have hN : 574 ≤ xN μ := by rw [eμ]; exact Nat.le_refl _
  have hlow : ∀ c j, c < 32 → xI μ c j = I c j := fun c j h => by
    rw [eμ]
    show moI (fbI I) c j = _
    unfold moI fbI
    rw [up2_out (by omega), up2_out (by omega), up2_out (by omega), up2_out (by omega), up2_out (by omega)]
  have hz : ∀ c j, 32 ≤ c → ¬ (c = 33 ∧ j = 3) → ¬ (c = 32 ∧ (j = 5 ∨ j = 8)) → ¬ (c = 547 ∧ (j = 32 ∨ j = 33)) → xI μ c j = w 0 := fun c j h h1 h2 h3 => by
    rw [eμ]
    show moI (fbI I) c j = _
    unfold moI fbI up2
    rw [← hI c h j]
    repeat' split
    all_goals first | rfl | omega
  have i1 : xI μ 32 5 = w (-1) := by rw [eμ]; rfl
  have i2 : xI μ 32 8 = w 5 := by rw [eμ]; rfl
  have i3 : xI μ 547 32 = w (-1) := by rw [eμ]; rfl
  have i4 : xI μ 547 33 = w 5 := by rw [eμ]; rfl
  have hl : ∀ c j, 32 ≤ c → xL μ c j = wl 0 := fun c j h => by rw [eμ]; exact hL c h j
  have r0 : ∀ c j, ¬ c = 547 → xR μ c j = vR (fbR R) 5 c j := fun c j h => by rw [eμ]; exact moR_ne h
  have r1 : ∀ c j, ¬ c = 547 → (c < 65 ∨ (66 < c ∧ c < 502)) → xR μ c j = fbR R c j := fun c j h h2 => by rw [r0 c j h, vR_ne 5 (by omega)]
  have hrF : ∀ a k v, rF a k = some v → xR μ a k = some v := fun a k v e => by
    have ha : a = 32 ∨ a = 33 ∨ a = 77 ∨ a = 280 ∨ a = 388 ∨ a = 382 ∨ a = 490 ∨ a = 493 := by
      refine Decidable.byContradiction fun q => ?_
      unfold rF at e
      rw [if_neg (by omega), if_neg (by omega), if_neg (by omega), if_neg (by omega), if_neg (by omega), if_neg (by omega), if_neg (by omega), if_neg (by omega)] at e
      cases e
    rw [r1 a k (by omega) (by omega)]
    exact fb_rF a k v e
  have hP : ∀ a, PS a → (xR μ a 0 = some (a + 1) ∧ xR μ a 1 = some (a + 2) ∧ xR μ a 2 = some (a + 3) ∧ xR μ a 3 = some (a + 4)) → PB μ a := fun a h q => ⟨h, hN, q⟩
  have p67 : PB μ 67 := hP 67 (PS_at (by omega)) (by rw [r1 67 0 (by omega) (by omega), r1 67 1 (by omega) (by omega), r1 67 2 (by omega) (by omega), r1 67 3 (by omega) (by omega)]; exact fb_67)
  have p72 : PB μ 72 := hP 72 (PS_at (by omega)) (by rw [r1 72 0 (by omega) (by omega), r1 72 1 (by omega) (by omega), r1 72 2 (by omega) (by omega), r1 72 3 (by omega) (by omega)]; exact fb_72)
  have p383 : PB μ 383 := hP 383 (PS_at (by omega)) (by rw [r1 383 0 (by omega) (by omega), r1 383 1 (by omega) (by omega), r1 383 2 (by omega) (by omega), r1 383 3 (by omega) (by omega)]; exact fb_383)
  have p80 : ∀ i, i < 40 → PB μ (80 + 5 * i) := fun i hi => hP _ (PS_at (by omega)) (by rw [r1 _ 0 (by omega) (by omega), r1 _ 1 (by omega) (by omega), r1 _ 2 (by omega) (by omega), r1 _ 3 (by omega) (by omega)]; exact fb_80 hi)
  have p45 : PB μ 45 := hP 45 (HS_p (Or.inl rfl)) (by rw [r1 45 0 (by omega) (by omega), r1 45 1 (by omega) (by omega), r1 45 2 (by omega) (by omega), r1 45 3 (by omega) (by omega)]; exact fb_35.2.2.2.2.1)
  have p60 : PB μ 60 := hP 60 (HS_p (Or.inr rfl)) (by rw [r1 60 0 (by omega) (by omega), r1 60 1 (by omega) (by omega), r1 60 2 (by omega) (by omega), r1 60 3 (by omega) (by omega)]; exact fb_50.2.2.2.2.1)
  have hRF : RF μ := by
    refine ⟨hN, hrF, p67, p72, p383, fun i hi => ⟨by rw [r1 78 i (by omega) (by omega)]; exact fb_78 hi, p80 i hi⟩, fun i hi => ⟨by rw [r1 281 i (by omega) (by omega)]; exact fb_281 hi, by rw [r1 389 i (by omega) (by omega)]; exact fb_389 hi⟩, fun i hi => ?_⟩
    refine ⟨by rw [r0 65 i (by omega)]; exact vR_65 5 hi, ⟨LSh_at (by omega), hN, by rw [r0 _ 0 (by omega), vR_l 5 hi]; exact lR_0, by rw [r0 _ 1 (by omega), vR_l 5 hi]; exact lR_1, by rw [r0 _ 2 (by omega), vR_l 5 hi]; exact lR_2⟩, by rw [r0 66 i (by omega)]; exact vR_66 5 hi, ?_, ?_, ?_, ?_⟩
    · rw [r0 _ 0 (by omega), vR_p 5 hi, pR_0]; congr 1; omega
    · rw [r0 _ 1 (by omega), vR_p 5 hi, pR_1]; congr 1; omega
    · rw [r0 _ 2 (by omega), vR_p 5 hi, pR_2]; congr 1; omega
    · rw [r0 _ 3 (by omega), vR_p 5 hi, pR_3]; congr 1; omega
  have h35 : HH μ 35 := by
    obtain ⟨a1, a2, a3, a4, -, a5⟩ := @fb_35 R
    exact ⟨Or.inl rfl, hN, by rw [r1 35 0 (by omega) (by omega)]; exact a1, by rw [r1 35 1 (by omega) (by omega)]; exact a2, by rw [r1 35 2 (by omega) (by omega)]; exact a3, by rw [r1 35 3 (by omega) (by omega)]; exact a4, p45, fun k hk => by rw [r1 (35 + 2) k (by omega) (by omega)]; exact a5 k hk⟩
  have h50 : HH μ 50 := by
    obtain ⟨a1, a2, a3, a4, -, a5⟩ := @fb_50 R
    exact ⟨Or.inr rfl, hN, by rw [r1 50 0 (by omega) (by omega)]; exact a1, by rw [r1 50 1 (by omega) (by omega)]; exact a2, by rw [r1 50 2 (by omega) (by omega)]; exact a3, by rw [r1 50 3 (by omega) (by omega)]; exact a4, p60, fun k hk => by rw [r1 (50 + 2) k (by omega) (by omega)]; exact a5 k hk⟩
  have e1 : xR μ 32 1 = some 35 := by rw [r1 32 1 (by omega) (by omega)]; exact fb_12.1
  have e2 : xR μ 32 2 = some 50 := by rw [r1 32 2 (by omega) (by omega)]; exact fb_12.2
  have hRM : RM μ := ⟨hN, fun k v e => by rw [eμ]; exact moR_at k v e⟩
  have hSS2 : SS μ := fun j hj i hi => by
    rw [hlow (20 + j) i (by omega)]; exact hSS j hj i hi
  have hRU : RU (fun _ => (0 : Int)) 0 := ⟨by decide, fun q => absurd q (by omega)⟩
  have hLW : LW μ 0 (fun _ => 0) (fun _ _ => 0) (-1) := ⟨by omega, hz 32 4 (by omega) (by omega) (by omega) (by omega), i1, by omega, by omega, fun i hi => absurd hi (by omega)⟩
  have hRL : RL 0 (fun _ => 0) (fun _ _ => 0) (-1) ((0, -1, fun _ => 0, fun _ _ => 0) : WL) := ⟨rfl, rfl, fun i hi => absurd hi (Nat.not_lt_zero _)⟩
  have hPF : PF μ 67 0 (fun _ _ => 0) 0 := ⟨p67, by omega, by omega, hz 67 4 (by omega) (by omega) (by omega) (by omega), hz 67 5 (by omega) (by omega) (by omega) (by omega), fun i hi => absurd hi (by omega)⟩
  have hKN : KN (fun _ _ => (0 : Int)) 0 0 := fun i hi => absurd hi (by omega)
  have hHO : HO μ 35 0 (fun _ => 0) (fun _ _ => 0) := ⟨h35, e1, by omega, hz 35 4 (by omega) (by omega) (by omega) (by omega), hRU, fun j hj => hz (35 + 1) j (by omega) (by omega) (by omega) (by omega), fun k hk => absurd hk (by omega)⟩
  have hMW : MW μ ((0, -1, fun _ => 0, fun _ _ => 0) : WL) := ⟨hSS2, by show 0 ≤ 4; omega, i3, by show (-1 : Int) ≤ -1; omega, by show (-1 : Int) < ((0 : Nat) : Int); omega, fun i hi => absurd hi (Nat.not_lt_zero _), fun s hs => Or.inl (hl 561 s (by omega)), fun _ => 0, fun j => by show (-1000000 : Int) ≤ 0 ∧ (0 : Int) ≤ 1000000; omega, fun j hj => hz 551 _ (by omega) (by omega) (by omega) (by omega)⟩
  refine ⟨35, (0, -1, fun _ => 0, fun _ _ => 0), 0, fun _ => 0, fun _ _ => 0, 0, fun _ _ => 0, 0, 0, fun _ _ => 0, (0, fun _ => 0, fun _ _ _ => 0, fun _ => 0, fun _ => 0), 0, fun _ => 0, fun _ _ => 0, -1, 0, fun _ => 0, fun _ _ _ => 0, 0, fun _ => 0, 5, 0, fun _ _ => 0, 0, fun _ _ => 0, false, 0, fun _ _ => 0, 0, 0, fun _ _ => 0, ?_, ?_, ⟨by omega, by omega⟩, fun j => by rw [hlow 31 j (by omega)]; exact hx j⟩
  · refine ⟨⟨⟨hRF, hHO, hLW.fw, hPF, hKN⟩, by omega, hz 280 1 (by omega) (by omega) (by omega) (by omega), fun j hj => absurd hj (by omega), 0, by show 0 ≤ 40; omega, by omega, hz 77 3 (by omega) (by omega) (by omega) (by omega), hz 77 2 (by omega) (by omega) (by omega) (by omega), fun j hj => absurd hj (Nat.not_lt_zero _)⟩, hLW, ⟨hz 32 7 (by omega) (by omega) (by omega) (by omega), by omega, fun p hp => absurd hp (by omega)⟩, ⟨hRF.r 33 0 34 rfl, hN, hz 33 1 (by omega) (by omega) (by omega) (by omega), by omega, fun j hj => absurd hj (by omega)⟩, ⟨i2, by omega, by omega⟩, ⟨by omega, hz 490 2 (by omega) (by omega) (by omega) (by omega), fun i hi => absurd hi (by omega)⟩, ⟨by omega, hz 493 5 (by omega) (by omega) (by omega) (by omega), fun i hi => absurd hi (by omega)⟩, ⟨hz 382 2 (by omega) (by omega) (by omega) (by omega), fun q => absurd q (by decide)⟩, fun a j v e => ?_, 50, h50, e2, Or.inl ⟨rfl, rfl⟩⟩
    have ha : a < 14 := by
      refine Decidable.byContradiction fun q => ?_
      unfold sT at e
      split at e <;> first | omega | simp at e
    rw [hlow a j (by omega)]
    exact hST a j v e
  · refine ⟨⟨⟨⟨hRM, by omega, hz 547 25 (by omega) (by omega) (by omega) (by omega), hRU, fun j hj => hz 552 j (by omega) (by omega) (by omega) (by omega), fun k hk => absurd hk (by omega)⟩, ⟨by omega, by omega, hz 559 40 (by omega) (by omega) (by omega) (by omega), hz 559 41 (by omega) (by omega) (by omega) (by omega), hz 559 42 (by omega) (by omega) (by omega) (by omega), fun b hb => absurd hb (by omega), fun k hk => absurd hk (by omega)⟩, hKN, fun _ => rfl, hMW, hRL.ls (by show (-1 : Int) < ((0 : Nat) : Int); omega)⟩, by show 0 ≤ 40; omega, hz 547 37 (by omega) (by omega) (by omega) (by omega), fun i j _ hj => absurd hj (Nat.not_lt_zero _), fun j hj => absurd hj (Nat.not_lt_zero _)⟩, ⟨by omega, hz 547 28 (by omega) (by omega) (by omega) (by omega), fun p hp => absurd hp (by omega)⟩, ⟨⟨by omega, ⟨240, rfl, by omega, by omega, by omega, by omega⟩, fun j hj => absurd hj (by omega)⟩, hz 547 6 (by omega) (by omega) (by omega) (by omega)⟩, i4, ⟨by omega, hz 547 43 (by omega) (by omega) (by omega) (by omega), fun i hi => absurd hi (by omega)⟩, ⟨by omega, hz 547 50 (by omega) (by omega) (by omega) (by omega), fun i hi => absurd hi (by omega)⟩, ⟨hz 547 55 (by omega) (by omega) (by omega) (by omega), fun q => absurd q (by decide)⟩, hz 547 7 (by omega) (by omega) (by omega) (by omega), hRL⟩
