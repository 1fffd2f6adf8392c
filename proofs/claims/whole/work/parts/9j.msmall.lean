/-! SMALL ACTS, THE IMAGE AND THE COUNTS, in the reference -/
def wfr (i : Nat) (c j : Nat) : Prop := c = 547 ∧ (j = 0 ∨ j = i)
/-- what was found, as kept -/
def FDM (μ : XM) (c : Nat) (fd : Nat → Nat → Int) : Prop := c ≤ 10 ∧ xI μ 547 50 = w c ∧ ∀ i, i < c → (xI μ 566 i = w (fd i 0) ∧ xI μ 567 i = w (fd i 1) ∧ xI μ 571 i = w (fd i 2)) ∧ 0 ≤ fd i 0 ∧ fd i 0 < 6 ∧ 0 ≤ fd i 1 ∧ fd i 1 < 6 ∧ (fd i 2 = 0 ∨ fd i 2 = 1)
theorem FDM.frm {F : Nat → Nat → Prop} {μ μ' : XM} {c : Nat} {fd : Nat → Nat → Int} (h : FDM μ c fd) (ho : fr F μ μ') (h1 : ∀ c j, (c = 566 ∨ c = 567 ∨ c = 571) → ¬ F c j) (h2 : ¬ F 547 50) : FDM μ' c fd := ⟨h.1, by rw [(ho.1 547 50 h2).1]; exact h.2.1, fun i hi => by
  rw [(ho.1 566 i (h1 _ _ (by omega))).1, (ho.1 567 i (h1 _ _ (by omega))).1, (ho.1 571 i (h1 _ _ (by omega))).1]
  exact h.2.2 i hi⟩
theorem sh565 : shp 566 = some (.inr (0, 10)) ∧ shp 567 = some (.inr (0, 10)) ∧ shp 571 = some (.inr (2, 10)) := ⟨rfl, rfl, rfl⟩
def fdf (c j : Nat) : Prop := c = 566 ∨ c = 567 ∨ c = 571 ∨ (c = 547 ∧ (j = 0 ∨ j = 50))
/-- the image, if kept -/
def IMM (μ : XM) (n : Nat) (k : Bool) (s : Nat) (bx : Nat → Nat → Int) (m T : Nat) (mg : Nat → Nat → Int) : Prop := xI μ 547 55 = w (if k = true then 1 else 0) ∧ (k = true → NR μ 572 0 s bx m T mg ∧ KN bx s n ∧ 0 < n)
theorem IMM.frm {F : Nat → Nat → Prop} {μ μ' : XM} {n s m T : Nat} {k : Bool} {bx mg : Nat → Nat → Int} (h : IMM μ n k s bx m T mg) (ho : fr F μ μ') (h1 : ∀ j, ¬ F 572 j) (h2 : ¬ F 547 55) : IMM μ' n k s bx m T mg := ⟨by rw [(ho.1 547 55 h2).1]; exact h.1, fun e => ⟨(h.2 e).1.fr ho h1, (h.2 e).2⟩⟩
def imf (c j : Nat) : Prop := c = 572 ∨ (c = 547 ∧ (j = 0 ∨ j = 55))
section OK
variable {Γ : XG} {d n s m T : Nat} {ru : Nat → Int} {ki bx mg : Nat → Nat → Int} {ls : Int → Int → Int → Int → Int → Int → Int} {μ : XM} {Q : Option Value → XM → Prop} {W : WL} {A : AA}
theorem wfr_0 {i c j : Nat} (h : thr c j) : wfr i c j := ⟨h.1, Or.inl h.2⟩
theorem C_habitM (hd : 2 ≤ d) (hR : RM μ) {hab : Int} (h0 : 0 ≤ hab) (h9 : hab ≤ 9) (e8 : xI μ 547 33 = w hab) {z : Int} (z1 : -2147483648 ≤ z) (z2 : z < 2147483648) : Call Γ m_MO_habit d [.ref 547, .int (w z)] μ (KI (fun r μ' => fr (wfr 33) μ μ' ∧ (((0 ≤ z ∧ z ≤ 9 ∧ ¬ z = hab) ∧ r = w 1 ∧ xI μ' 547 33 = w z) ∨ (¬ (0 ≤ z ∧ z ≤ 9 ∧ ¬ z = hab) ∧ r = w 0 ∧ xI μ' 547 33 = w hab)))) := by
  obtain ⟨d, rfl⟩ : ∃ e, d = e + 1 := ⟨d - 1, by omega⟩
  refine Call.of ok_MO_habit (Nat.le_of_ble_eq_true rfl) (B_MO_habit_0 hR.o ?_)
  rintro μ1 rfl
  have o1 : fr (wfr 33) μ (sI μ 547 0 (w 0)) := (th0 μ).wide (fun _ _ => wfr_0)
  have e1 : xI (sI μ 547 0 (w 0)) 547 33 = w hab := by rw [xI_sI, if_neg (by omega)]; exact e8
  generalize sI μ 547 0 (w 0) = μ1 at *
  rw [w_l z1 z2]
  refine (C_isIn (x := 0) (y := 9) (by omega) (by omega) (by omega) (by omega) (by omega) (by omega) (by omega)).conseq (KI.mono ?_)
  rintro r μ2 ⟨rfl, ⟨g1, g2, rfl⟩ | ⟨g1, rfl⟩⟩
  · refine ⟨fun q => absurd q (by decide), fun _ => ?_⟩
    rw [e1, w_inj (by omega) (by omega) (by omega) (by omega)]
    refine ⟨fun q => ⟨_, rfl, o1, Or.inr ⟨by omega, rfl, e1⟩⟩, fun q => ?_⟩
    rintro μ3 rfl
    exact ⟨_, rfl, o1.trans (fr.sI (F := wfr 33) (a := 547) (k := 33) _ _ ⟨rfl, Or.inr rfl⟩), Or.inl ⟨by omega, rfl, by rw [xI_sI, if_pos ⟨rfl, rfl⟩]⟩⟩
  · exact ⟨fun _ => ⟨_, rfl, o1, Or.inr ⟨by omega, rfl, e1⟩⟩, fun q => absurd rfl q⟩
theorem C_lawM (hd : 2 ≤ d) (hR : RM μ) {lt : Nat} (hl : lt ≤ 4) (e7 : xI μ 547 7 = w lt) {z : Int} (z1 : -2147483648 ≤ z) (z2 : z < 2147483648) : Call Γ m_MO_law d [.ref 547, .int (w z)] μ (KI (fun r μ' => fr (wfr 32) μ μ' ∧ (((-1 ≤ z ∧ z < lt) ∧ r = w 1 ∧ xI μ' 547 32 = w z) ∨ (¬ (-1 ≤ z ∧ z < lt) ∧ r = w 0 ∧ xI μ' 547 32 = xI μ 547 32)))) := by
  obtain ⟨d, rfl⟩ : ∃ e, d = e + 1 := ⟨d - 1, by omega⟩
  refine Call.of ok_MO_law (Nat.le_of_ble_eq_true rfl) (B_MO_law_0 hR.o ?_)
  rintro μ1 rfl
  have o1 : fr (wfr 32) μ (sI μ 547 0 (w 0)) := (th0 μ).wide (fun _ _ => wfr_0)
  have e1 : xI (sI μ 547 0 (w 0)) 547 7 = w lt := by rw [xI_sI, if_neg (by omega)]; exact e7
  have e2 : xI (sI μ 547 0 (w 0)) 547 32 = xI μ 547 32 := by rw [xI_sI, if_neg (by omega)]
  generalize sI μ 547 0 (w 0) = μ1 at *
  rw [w_inj (by omega) (by omega) (by omega) (by omega), w_l z1 z2, e1, w_sub, w_l (by omega) (by omega)]
  have set : ∀ μ2, μ2 = sI μ1 547 32 (w z) → (-1 ≤ z ∧ z < lt) → KI (fun r μ' => fr (wfr 32) μ μ' ∧ (((-1 ≤ z ∧ z < lt) ∧ r = w 1 ∧ xI μ' 547 32 = w z) ∨ (¬ (-1 ≤ z ∧ z < lt) ∧ r = w 0 ∧ xI μ' 547 32 = xI μ 547 32))) (some (.int (w 1))) μ2 := fun μ2 e q => by
    subst e
    exact ⟨_, rfl, o1.trans (fr.sI (F := wfr 32) (a := 547) (k := 32) _ _ ⟨rfl, Or.inr rfl⟩), Or.inl ⟨q, rfl, by rw [xI_sI, if_pos ⟨rfl, rfl⟩]⟩⟩
  refine ⟨fun q μ2 e => set μ2 e (by omega), fun q => ?_⟩
  refine (C_isIn (x := 0) (by omega) (by omega) (by omega) (by omega) (by omega) (by omega) (by omega)).conseq (KI.mono ?_)
  rintro r μ2 ⟨rfl, ⟨g1, g2, rfl⟩ | ⟨g1, rfl⟩⟩
  · exact ⟨fun q => absurd q (by decide), fun _ μ4 e => set μ4 e (by omega)⟩
  · exact ⟨fun _ => ⟨_, rfl, o1, Or.inr ⟨by omega, rfl, e2⟩⟩, fun q => absurd rfl q⟩
theorem C_foundM (hd : 2 ≤ d) (hM : HM μ n ru ki) {c : Nat} {fd : Nat → Nat → Int} (hD : FDM μ c fd) {x y v : Int} (x1 : -2147483648 ≤ x) (x2 : x < 2147483648) (y1 : -2147483648 ≤ y) (y2 : y < 2147483648) (hv : v = 0 ∨ v = 1) : Call Γ m_MO_found d [.ref 547, .int (w x), .int (w y), .int (w v)] μ (KI (fun r μ' => fr fdf μ μ' ∧ (((0 ≤ y ∧ y < n ∧ 0 ≤ x ∧ x < 6 ∧ c < 10) ∧ r = w ((c + 1 : Nat) : Int) ∧ FDM μ' (c + 1) (fput fd c x y v)) ∨ (¬ (0 ≤ y ∧ y < n ∧ 0 ≤ x ∧ x < 6 ∧ c < 10) ∧ r = w (-1) ∧ FDM μ' c fd)))) := by
  obtain ⟨d, rfl⟩ : ∃ e, d = e + 1 := ⟨d - 1, by omega⟩
  have hn6 := hM.2.1
  refine Call.of ok_MO_found (Nat.le_of_ble_eq_true rfl) (B_MO_found_0 hM.1.o ?_)
  rintro μ1 rfl
  have o1 : fr fdf μ (sI μ 547 0 (w 0)) := (th0 μ).wide (fun _ _ h => Or.inr (Or.inr (Or.inr ⟨h.1, Or.inl h.2⟩)))
  have hM1 := HM_th hM (th0 μ)
  have hD1 : FDM (sI μ 547 0 (w 0)) c fd := hD.frm (th0 μ) (fun c j h => by unfold thr; omega) (by unfold thr; omega)
  generalize sI μ 547 0 (w 0) = μ1 at *
  have c10 := hD1.1
  rw [hM1.2.2.1, w_inj (by omega) (by omega) (by omega) (by omega), w_l x1 x2]
  refine ⟨fun q => ⟨_, rfl, o1, Or.inr ⟨by omega, rfl, hD1⟩⟩, fun q => ?_⟩
  refine (C_isIn (x := 0) (y := 5) (by omega) (by omega) (by omega) (by omega) (by omega) (by omega) (by omega)).conseq (KI.mono ?_)
  rintro r μ2 ⟨rfl, ⟨g1, g2, rfl⟩ | ⟨g1, rfl⟩⟩
  · refine ⟨fun q => absurd q (by decide), fun _ => ?_⟩
    refine (C_isKindM (by omega) hM1 y1 y2).conseq (KI.mono ?_)
    rintro r μ3 ⟨rfl, ⟨g3, g4, rfl⟩ | ⟨g3, rfl⟩⟩
    · refine ⟨fun q => absurd q (by decide), fun _ => ?_⟩
      rw [hD1.2.1, w_inj (by omega) (by omega) (by omega) (by omega)]
      refine ⟨fun q => ⟨_, rfl, o1, Or.inr ⟨by omega, rfl, hD1⟩⟩, fun q => ?_⟩
      rw [w_cln (by omega)]
      refine ⟨566, hM1.1.r 44 566 rfl, ⟨by omega, inb_of sh565.1 (by omega) hM1.1.1 (by omega) (by omega)⟩, ?_⟩
      rintro μ6 rfl
      have e6 : xI (sI μ3 566 c (w x)) 547 50 = w c := by rw [xI_sI, if_neg (by omega)]; exact hD1.2.1
      rw [e6, w_cln (by omega)]
      refine ⟨567, hM1.1.r 45 567 rfl, ⟨by omega, inb_of sh565.2.1 (by omega) hM1.1.1 (by omega) (by omega)⟩, ?_⟩
      rintro μ9 rfl
      have e9 : xI (sI (sI μ3 566 c (w x)) 567 c (w y)) 547 50 = w c := by rw [xI_sI, if_neg (by omega)]; exact e6
      rw [e9, w_cln (by omega)]
      refine ⟨571, hM1.1.r 49 571 rfl, ⟨by omega, inb_of sh565.2.2 (by omega) hM1.1.1 (by omega) (by omega)⟩, by rcases hv with rfl | rfl <;> simp, ?_⟩
      rintro μ12 rfl
      have e12 : xI (sI (sI (sI μ3 566 c (w x)) 567 c (w y)) 571 c (w v)) 547 50 = w c := by rw [xI_sI, if_neg (by omega)]; exact e9
      rw [e12, w_add]
      rintro μ13 rfl
      have o2 : fr fdf μ3 (sI (sI (sI (sI μ3 566 c (w x)) 567 c (w y)) 571 c (w v)) 547 50 (w ((c : Int) + 1))) := (((fr.sI (F := fdf) (a := 566) (k := c) _ _ (Or.inl rfl)).trans (fr.sI (F := fdf) (a := 567) (k := c) _ _ (Or.inr (Or.inl rfl)))).trans (fr.sI (F := fdf) (a := 571) (k := c) _ _ (Or.inr (Or.inr (Or.inl rfl))))).trans (fr.sI (F := fdf) (a := 547) (k := 50) _ _ (Or.inr (Or.inr (Or.inr ⟨rfl, Or.inr rfl⟩))))
      refine ⟨_, rfl, o1.trans o2, Or.inl ⟨by omega, by rw [xI_sI, if_pos ⟨rfl, rfl⟩]; rfl, by omega, by rw [xI_sI, if_pos ⟨rfl, rfl⟩]; rfl, fun i hi => ?_⟩⟩
      by_cases e : i = c
      · subst e
        have f0 : fput fd i x y v i 0 = x := by unfold fput; rw [if_pos rfl, if_pos rfl]
        have f1 : fput fd i x y v i 1 = y := by unfold fput; rw [if_pos rfl, if_neg (by omega), if_pos rfl]
        have f2 : fput fd i x y v i 2 = v := by unfold fput; rw [if_pos rfl, if_neg (by omega), if_neg (by omega)]
        rw [f0, f1, f2]
        refine ⟨⟨?_, ?_, ?_⟩, g1, by omega, g3, by omega, hv⟩
        · rw [xI_sI, if_neg (by omega), xI_sI, if_neg (by omega), xI_sI, if_neg (by omega), xI_sI, if_pos ⟨rfl, rfl⟩]
        · rw [xI_sI, if_neg (by omega), xI_sI, if_neg (by omega), xI_sI, if_pos ⟨rfl, rfl⟩]
        · rw [xI_sI, if_neg (by omega), xI_sI, if_pos ⟨rfl, rfl⟩]
      · have fe : ∀ t, fput fd c x y v i t = fd i t := fun t => by unfold fput; rw [if_neg e]
        rw [fe, fe, fe]
        obtain ⟨⟨b0, b1, b2⟩, b3⟩ := hD1.2.2 i (by omega)
        refine ⟨⟨?_, ?_, ?_⟩, b3⟩
        · rw [xI_sI, if_neg (by omega), xI_sI, if_neg (by omega), xI_sI, if_neg (by omega), xI_sI, if_neg (by omega)]; exact b0
        · rw [xI_sI, if_neg (by omega), xI_sI, if_neg (by omega), xI_sI, if_neg (by omega), xI_sI, if_neg (by omega)]; exact b1
        · rw [xI_sI, if_neg (by omega), xI_sI, if_neg (by omega), xI_sI, if_neg (by omega), xI_sI, if_neg (by omega)]; exact b2
    · exact ⟨fun _ => ⟨_, rfl, o1, Or.inr ⟨by omega, rfl, hD1⟩⟩, fun q => absurd rfl q⟩
  · exact ⟨fun _ => ⟨_, rfl, o1, Or.inr ⟨by omega, rfl, hD1⟩⟩, fun q => absurd rfl q⟩
end OK
