/-! TEXTS ARE TOLD: each side -/
theorem lsof_up {sel : Int} {lz : Nat → Nat} {lc : Nat → Nat → Int} {lt x : Nat} {y : Nat → Int} (h : sel < lt) : lsof sel (upN lz lt x) (upN lc lt y) = lsof sel lz lc := by
  funext a o n y' k m
  unfold lsof
  by_cases e : sel < 0
  · rw [if_pos e, if_pos e]
  · rw [if_neg e, if_neg e, upN_n _ _ (by omega), upN_n _ _ (by omega)]
theorem cat_gd : ∀ (l : List Int) (i : Nat) (cd : Nat → Int), (∀ j, j < l.length → cd (i + j) = l.getD j 0) → cat cd i l
  | [], _, _, _ => trivial
  | x :: l, i, cd, h => ⟨by have := h 0 (by simp); simpa using this, cat_gd l (i + 1) cd (fun j hj => by
    have := h (j + 1) (by simp; omega)
    rw [show i + 1 + j = i + (j + 1) by omega, this]
    simp)⟩
theorem BL_EV {a o n y k m : Int} (h : BL a o n y k m) : EV (evL a o n y k m) := h.ev
theorem law_val {tb : Nat → Nat} {n : Nat} {c : List Int} {g : (Nat → Int) → Option Int} (h : law tb n = .inr (c, g)) {a o m1 y k m : Int} (hb : BL a o m1 y k m) : wst (fun i => c.getD i 0) (evL a o m1 y k m) c.length 0 0 (fun _ => 0) false = lvl n tb (evL a o m1 y k m) := by
  have q := law_LG (tb := tb) (n := n)
  unfold lvl
  rw [h] at q ⊢
  exact (q.2.2 _ hb.ev).2 _ 0 _ (cat_gd c 0 _ (fun j hj => by rw [Nat.zero_add]))
section TX1
variable {Γ : XG} {d : Nat} {h n s m T lt k tn cl cf si mi Ti : Nat} {ru : Nat → Int} {ki bx mg lo fd bi gi : Nat → Nat → Int} {lz : Nat → Nat} {lc : Nat → Nat → Int} {sel hab : Int} {pz : Nat → Nat} {pv : Nat → Nat → Nat → Int} {tb : Nat → Nat} {ik : Bool} {A : AA} {W : WL} {μ : XM}
theorem FI_tl {x : Nat} {y : Nat → Int} (hF : FI μ h n ru ki s bx m T mg A lt lz lc sel k pz pv tn tb hab cl lo cf fd ik si bi mi Ti gi) (hl : lt < 4) (hL : LF μ (502 + 9 * lt) x y) : FI (sI (sI μ 33 1 (w 0)) 32 4 (w ((lt + 1 : Nat) : Int))) h n ru ki s bx m T mg A (lt + 1) (upN lz lt x) (upN lc lt y) sel k pz pv 0 tb hab cl lo cf fd ik si bi mi Ti gi := by
  obtain ⟨a1, a2, ⟨a3, a4, a5⟩, a6, ⟨a7, a8, a9⟩, b1, b2, b3, b4, g, b5, b6, b7⟩ := hF
  obtain ⟨⟨f1, f2, f3, f4, f5⟩, h2, h3, h4, nx, h5⟩ := a1
  have ho : fof (fun c => c = 32 ∨ c = 33) μ (sI (sI μ 33 1 (w 0)) 32 4 (w ((lt + 1 : Nat) : Int))) := (fof.sI (P := fun c => c = 32 ∨ c = 33) _ _ _ (Or.inr rfl)).trans (fof.sI (P := fun c => c = 32 ∨ c = 33) _ _ _ (Or.inl rfl))
  have e32 : ∀ j, ¬ j = 4 → xI (sI (sI μ 33 1 (w 0)) 32 4 (w ((lt + 1 : Nat) : Int))) 32 j = xI μ 32 j := fun j hj => by rw [xI_sI, if_neg (fun z => hj z.2), xI_sI, if_neg (by omega)]
  have e4 : xI (sI (sI μ 33 1 (w 0)) 32 4 (w ((lt + 1 : Nat) : Int))) 32 4 = w ((lt + 1 : Nat) : Int) := by rw [xI_sI, if_pos ⟨rfl, rfl⟩]
  have e33' : xI (sI (sI μ 33 1 (w 0)) 32 4 (w ((lt + 1 : Nat) : Int))) 33 1 = w 0 := by rw [xI_sI, if_neg (by omega), xI_sI, if_pos ⟨rfl, rfl⟩]
  generalize sI (sI μ 33 1 (w 0)) 32 4 (w ((lt + 1 : Nat) : Int)) = μ1 at *
  have lw : LW μ1 (lt + 1) (upN lz lt x) (upN lc lt y) sel := ⟨by omega, e4, by rw [e32 5 (by omega)]; exact a2.2.2.1, a2.2.2.2.1, by have := a2.2.2.2.2.1; omega, fun i hi => by
    by_cases e : i = lt
    · rw [e, upN_y, upN_y]
      exact hL.of (fun j => ho.1 _ (by omega) j) (fun j => ho.1 _ (by omega) j) ho.2.2.1 ho.2.2.2
    · rw [upN_n _ _ e, upN_n _ _ e]
      exact (a2.2.2.2.2.2 i (by omega)).of (fun j => ho.1 _ (by omega) j) (fun j => ho.1 _ (by omega) j) ho.2.2.1 ho.2.2.2⟩
  exact ⟨⟨⟨f1.of ho.2.2.1 ho.2.2.2, f2.fof ho (fun c c1 c2 => by omega), lw.fw, f4.fof ho (fun c c1 c2 => by omega), f5⟩, h2, by rw [ho.1 280 (by omega)]; exact h3, h4.fof ho (fun i hi => by omega), nx, h5.fof ho (fun c c1 c2 => by omega)⟩, lw, ⟨by rw [e32 7 (by omega)]; exact a3, a4, fun p hp => (a5 p hp).fof ho (fun c c1 c2 => by omega)⟩, ⟨by rw [ho.2.2.1]; exact a6.1, by rw [ho.2.2.2]; exact a6.2.1, e33', by omega, fun j hj => absurd hj (Nat.not_lt_zero _)⟩, ⟨by rw [e32 8 (by omega)]; exact a7, a8, a9⟩, b1.fof ho (by omega), b2.fof ho (fun c c1 c2 => by omega), b3.fof ho (fun c c1 c2 => by omega), b4.fof ho (fun c c1 => by omega), g, b5.of ho.2.2.1 ho.2.2.2, by rw [ho.2.2.1]; exact b6, b7⟩
theorem FI_tp {u : Nat × (Nat → Nat → Int)} (hF : FI μ h n ru ki s bx m T mg A lt lz lc sel k pz pv tn tb hab cl lo cf fd ik si bi mi Ti gi) (hk : k < 4) (hu : xI μ (506 + 9 * k) 4 = w u.1 ∧ ∀ i, i < u.1 → xI μ (507 + 9 * k) i = w (u.2 i 0) ∧ xI μ (508 + 9 * k) i = w (u.2 i 1) ∧ xI μ (509 + 9 * k) i = w (u.2 i 2) ∧ xI μ (510 + 9 * k) i = w (u.2 i 3)) (h16 : u.1 ≤ 16) (hv : ∀ i, i < u.1 → PVM u.2 i) : FI (sI (sI μ 33 1 (w 0)) 32 7 (w ((k + 1 : Nat) : Int))) h n ru ki s bx m T mg A lt lz lc sel (k + 1) (upN pz k u.1) (upN pv k u.2) 0 tb hab cl lo cf fd ik si bi mi Ti gi := by
  obtain ⟨a1, a2, ⟨a3, a4, a5⟩, a6, ⟨a7, a8, a9⟩, b1, b2, b3, b4, g, b5, b6, b7⟩ := hF
  obtain ⟨⟨f1, f2, f3, f4, f5⟩, h2, h3, h4, nx, h5⟩ := a1
  have ho : fof (fun c => c = 32 ∨ c = 33) μ (sI (sI μ 33 1 (w 0)) 32 7 (w ((k + 1 : Nat) : Int))) := (fof.sI (P := fun c => c = 32 ∨ c = 33) _ _ _ (Or.inr rfl)).trans (fof.sI (P := fun c => c = 32 ∨ c = 33) _ _ _ (Or.inl rfl))
  have e32 : ∀ j, ¬ j = 7 → xI (sI (sI μ 33 1 (w 0)) 32 7 (w ((k + 1 : Nat) : Int))) 32 j = xI μ 32 j := fun j hj => by rw [xI_sI, if_neg (fun z => hj z.2), xI_sI, if_neg (by omega)]
  have e4 : xI (sI (sI μ 33 1 (w 0)) 32 7 (w ((k + 1 : Nat) : Int))) 32 7 = w ((k + 1 : Nat) : Int) := by rw [xI_sI, if_pos ⟨rfl, rfl⟩]
  have e33' : xI (sI (sI μ 33 1 (w 0)) 32 7 (w ((k + 1 : Nat) : Int))) 33 1 = w 0 := by rw [xI_sI, if_neg (by omega), xI_sI, if_pos ⟨rfl, rfl⟩]
  generalize sI (sI μ 33 1 (w 0)) 32 7 (w ((k + 1 : Nat) : Int)) = μ1 at *
  have lw : LW μ1 lt lz lc sel := ⟨a2.1, by rw [e32 4 (by omega)]; exact a2.2.1, by rw [e32 5 (by omega)]; exact a2.2.2.1, a2.2.2.2.1, a2.2.2.2.2.1, fun i hi => (a2.2.2.2.2.2 i hi).of (fun j => ho.1 _ (by omega) j) (fun j => ho.1 _ (by omega) j) ho.2.2.1 ho.2.2.2⟩
  have pn : PL μ k u.1 u.2 := ⟨by omega, h16, hu.1, fun i hi => ⟨hu.2 i hi, (hv i hi).1⟩⟩
  exact ⟨⟨⟨f1.of ho.2.2.1 ho.2.2.2, f2.fof ho (fun c c1 c2 => by omega), lw.fw, f4.fof ho (fun c c1 c2 => by omega), f5⟩, h2, by rw [ho.1 280 (by omega)]; exact h3, h4.fof ho (fun i hi => by omega), nx, h5.fof ho (fun c c1 c2 => by omega)⟩, lw, ⟨e4, by omega, fun p hp => by
    by_cases e : p = k
    · rw [e, upN_y, upN_y]; exact pn.fof ho (fun c c1 c2 => by omega)
    · rw [upN_n _ _ e, upN_n _ _ e]; exact (a5 p (by omega)).fof ho (fun c c1 c2 => by omega)⟩, ⟨by rw [ho.2.2.1]; exact a6.1, by rw [ho.2.2.2]; exact a6.2.1, e33', by omega, fun j hj => absurd hj (Nat.not_lt_zero _)⟩, ⟨by rw [e32 8 (by omega)]; exact a7, a8, a9⟩, b1.fof ho (by omega), b2.fof ho (fun c c1 c2 => by omega), b3.fof ho (fun c c1 c2 => by omega), b4.fof ho (fun c c1 => by omega), g, b5.of ho.2.2.1 ho.2.2.2, by rw [ho.2.2.1]; exact b6, b7⟩
def hi5 (c j : Nat) : Prop := 547 ≤ c
/-- the model's tape is empty, a law more -/
theorem MI_tl {c : List Int} {g : (Nat → Int) → Option Int} {μ' : XM} (hM : MI μ W n ru ki s bx m T mg A lt lz lc sel k pz pv tn tb hab cl lo cf fd ik si bi mi Ti gi) (hl : lt < 4) (hlaw : law tb tn = .inr (c, g)) (ho : fr (fun c j => c = 549 ∨ c = 550 ∨ (c = 547 ∧ (j = 6 ∨ j = 7))) μ μ') (v1 : ∀ j, j < tn → xI μ' 549 (240 * lt + j) = w (sb (tb j))) (v2 : ∀ j, j < 240 * lt → xI μ' 549 j = xI μ 549 j) (v3 : xI μ' 550 lt = w tn) (v4 : ∀ j, ¬ j = lt → xI μ' 550 j = xI μ 550 j) (v7 : xI μ' 547 7 = w ((lt + 1 : Nat) : Int)) (v6 : xI μ' 547 6 = w 0) :
    MI μ' (W.1 + 1, W.2.1, upN W.2.2.1 lt tn, upN W.2.2.2 lt tb) n ru ki s bx m T mg A (lt + 1) (upN lz lt c.length) (upN lc lt (fun i => c.getD i 0)) sel k pz pv 0 tb hab cl lo cf fd ik si bi mi Ti gi := by
  obtain ⟨⟨⟨a1, a2, a3, a4, a5, a6⟩, a7⟩, b2, b3, b4, b5, b6, b7, b8, ⟨c1, c2, c3⟩⟩ := hM
  obtain ⟨w1, w2, w3, w4, w5, w6, w7⟩ := a5
  have rr : ∀ k v, rM k = some v → ¬ ((547 = 549 ∨ 547 = 550 ∨ (547 = 547 ∧ (k = 6 ∨ k = 7))) : Prop) := fun k v e z => by
    have : k = 6 ∨ k = 7 := by omega
    rcases this with rfl | rfl <;> cases e
  have hs : sel < lt := by omega
  have rl : RL (lt + 1) (upN lz lt c.length) (upN lc lt (fun i => c.getD i 0)) sel (W.1 + 1, W.2.1, upN W.2.2.1 lt tn, upN W.2.2.2 lt tb) := ⟨by show lt + 1 = W.1 + 1; omega, c2, fun i hi a o n y k m hb => by
    have hi : i < W.1 + 1 := hi
    show wst (upN lc lt (fun i => c.getD i 0) i) (evL a o n y k m) (upN lz lt c.length i) 0 0 (fun _ => 0) false = lvl (upN W.2.2.1 lt tn i) (upN W.2.2.2 lt tb i) (evL a o n y k m)
    by_cases e : i = lt
    · rw [e, upN_y, upN_y, upN_y, upN_y]
      exact law_val hlaw hb
    · rw [upN_n _ _ e, upN_n _ _ e, upN_n _ _ e, upN_n _ _ e]
      exact c3 i (by omega) a o n y k m hb⟩
  have mw : MW μ' (W.1 + 1, W.2.1, upN W.2.2.1 lt tn, upN W.2.2.2 lt tb) := by
    refine ⟨w1.frm ho (fun c j hc => by omega), (by show W.1 + 1 ≤ 4; omega), (by rw [(ho.1 547 32 (by omega)).1]; exact w3), w4, (by show W.2.1 < ((W.1 + 1 : Nat) : Int); omega), fun i hi => ?_, fun s hs => ?_, ?_⟩
    · have hi : i < W.1 + 1 := hi
      show xI μ' 550 i = w ((upN W.2.2.1 lt tn i : Nat) : Int) ∧ TX μ' 549 (240 * i) (upN W.2.2.1 lt tn i) (upN W.2.2.2 lt tb i) ∧ ∃ c h, law (upN W.2.2.2 lt tb i) (upN W.2.2.1 lt tn i) = .inr (c, h)
      by_cases e : i = lt
      · rw [e, upN_y, upN_y]
        exact ⟨v3, ⟨b3.1.1, ⟨960, rfl, by omega, by omega, by have := b3.1.1; omega, by omega⟩, fun j hj => ⟨v1 j hj, (b3.1.2.2 j hj).2⟩⟩, c, g, hlaw⟩
      · rw [upN_n _ _ e, upN_n _ _ e, v4 i e]
        obtain ⟨q1, q2, q3⟩ := w6 i (by omega)
        refine ⟨q1, ⟨q2.1, q2.2.1, fun j hj => ?_⟩, q3⟩
        rw [v2 _ (by have := q2.1; omega)]
        exact q2.2.2 j hj
    · rw [(ho.1 561 s (by omega)).2.1, (ho.1 562 s (by omega)).1]
      rcases w7.1 s hs with q | ⟨i, a, o, n, y, k, m, q0, q1, q2, q3, q4⟩
      · exact Or.inl q
      · refine Or.inr ⟨i, a, o, n, y, k, m, q0, (by show i < ((W.1 + 1 : Nat) : Int); omega), q2, q3, ?_⟩
        show xI μ 562 s = w (lvl (upN W.2.2.1 lt tn i.toNat) (upN W.2.2.2 lt tb i.toNat) (evL a o n y k m))
        rw [upN_n _ _ (by omega), upN_n _ _ (by omega)]
        exact q4
    · obtain ⟨e, q1, q2⟩ := w7.2
      exact ⟨e, q1, fun j hj => by rw [(ho.1 551 _ (by omega)).1]; exact q2 j hj⟩
  have lsk : LSok (lsof sel (upN lz lt c.length) (upN lc lt (fun i => c.getD i 0))) (W.1 + 1, W.2.1, upN W.2.2.1 lt tn, upN W.2.2.2 lt tb) := rl.ls (by show sel < ((W.1 + 1 : Nat) : Int); omega)
  exact ⟨⟨⟨a1.fr ho rr (by omega) (fun j => by omega) (fun j => by omega), a2.fr ho (fun j => by omega), a3, a4, mw, lsk⟩, a7.frm ho (fun j => by omega) (by omega)⟩, b2.frm ho (fun j => by omega) (fun j => by omega) (by omega), TM.mk v6 (by omega) (fun j hj => absurd hj (Nat.not_lt_zero _)), by rw [(ho.1 547 33 (by omega)).1]; exact b4, b5.fr ho (by omega) (fun j => by omega) (fun j => by omega), b6.frm ho (fun c j hc => by omega) (by omega), b7.frm ho (fun j => by omega) (by omega), v7, rl⟩
theorem MI_tp {u : Nat × (Nat → Nat → Int)} {μ' : XM} (hM : MI μ W n ru ki s bx m T mg A lt lz lc sel k pz pv tn tb hab cl lo cf fd ik si bi mi Ti gi) (hk : k < 4) (h16 : u.1 ≤ 16) (hv : ∀ i, i < u.1 → PVM u.2 i) (ho : fr (fun c j => c = 557 ∨ c = 558 ∨ (c = 547 ∧ (j = 6 ∨ j = 28))) μ μ') (v1 : ∀ i, i < u.1 → ∀ q, q < 4 → xI μ' 557 (64 * k + (4 * i + q)) = w (u.2 i q)) (v2 : ∀ j, j < 64 * k → xI μ' 557 j = xI μ 557 j) (v3 : xI μ' 558 k = w u.1) (v4 : ∀ j, ¬ j = k → xI μ' 558 j = xI μ 558 j) (v7 : xI μ' 547 28 = w ((k + 1 : Nat) : Int)) (v6 : xI μ' 547 6 = w 0) :
    MI μ' W n ru ki s bx m T mg A lt lz lc sel (k + 1) (upN pz k u.1) (upN pv k u.2) 0 tb hab cl lo cf fd ik si bi mi Ti gi := by
  obtain ⟨⟨⟨a1, a2, a3, a4, a5, a6⟩, a7⟩, b2, b3, b4, b5, b6, b7, b8, b9⟩ := hM
  have rr : ∀ k v, rM k = some v → ¬ ((547 = 557 ∨ 547 = 558 ∨ (547 = 547 ∧ (k = 6 ∨ k = 28))) : Prop) := fun k v e z => by
    have : k = 6 ∨ k = 28 := by omega
    rcases this with rfl | rfl <;> cases e
  refine ⟨⟨⟨a1.fr ho rr (by omega) (fun j => by omega) (fun j => by omega), a2.fr ho (fun j => by omega), a3, a4, a5.frm ho (fun c j hc => by omega) (by omega) (fun c j h1 h2 => by omega) (fun c j h1 h2 => by omega), a6⟩, a7.frm ho (fun j => by omega) (by omega)⟩, ⟨by omega, v7, fun p hp => ?_⟩, TM.mk v6 (by omega) (fun j hj => absurd hj (Nat.not_lt_zero _)), by rw [(ho.1 547 33 (by omega)).1]; exact b4, b5.fr ho (by omega) (fun j => by omega) (fun j => by omega), b6.frm ho (fun c j hc => by omega) (by omega), b7.frm ho (fun j => by omega) (by omega), by rw [(ho.1 547 7 (by omega)).1]; exact b8, b9⟩
  by_cases e : p = k
  · rw [e, upN_y, upN_y]
    exact ⟨h16, v3, fun i hi => ⟨by omega, fun q hq => by rw [show 4 * (16 * k + i) + q = 64 * k + (4 * i + q) by omega]; exact v1 i hi q hq, hv i hi⟩⟩
  · rw [upN_n _ _ e, upN_n _ _ e]
    obtain ⟨q1, q2, q3⟩ := b2.2.2 p (by omega)
    refine ⟨q1, by rw [v4 p e]; exact q2, fun i hi => ⟨(q3 i hi).1, fun q hq => ?_, (q3 i hi).2.2⟩⟩
    rw [v2 _ (by omega)]
    exact (q3 i hi).2.1 q hq
end TX1
