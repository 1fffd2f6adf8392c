/-! A BOX, in the reference -/
def boxv (ls : Int → Int → Int → Int → Int → Int → Int) (ki bx : Nat → Nat → Int) (m s z : Nat) (q : Int) : Int :=
  if q = 0 then bx (s - 1 - z) 0 else if q = 1 then bx (s - 1 - z) 1 else if q = 2 then bx (s - 1 - z) 2 else if q = 3 then (if bx (s - 1 - z) 3 = -1 then 0 else 1) else if q = 4 then vpl ls ki bx m s z else if q = 5 then wt ki bx (s - 1 - z) else ((s - 1 - z : Nat) : Int)
/-- such a box, and such a thing told of it -/
def BOK (s : Nat) (z q : Int) : Prop := 0 ≤ z ∧ z < s ∧ 0 ≤ q ∧ q ≤ 6
def bxf (c j : Nat) : Prop := vfr c j ∨ thr c j
section OP2
variable {Γ : XG} {d n s m T : Nat} {ru : Nat → Int} {ki bx mg : Nat → Nat → Int} {ls : Int → Int → Int → Int → Int → Int → Int} {μ : XM} {Q : Option Value → XM → Prop} {W : WL}
theorem th1 (μ : XM) (v : Int32) : fr thr μ (sI μ 547 0 v) := fr.sI μ v ⟨rfl, rfl⟩
theorem MQs.thv (h : MQs μ n ru ki s bx m T mg W ls) (v : Int32) : MQs (sI μ 547 0 v) n ru ki s bx m T mg W ls := by
  have h0 := th1 μ v
  exact ⟨HM_th h.1 h0, h.2.1.fr h0 (fun j => by unfold thr; omega), h.2.2.1, h.2.2.2.1, h.2.2.2.2.1.frm h0 (fun c j hc => by unfold thr; omega) (by unfold thr; omega) (fun c j h1 h2 => by unfold thr; omega) (fun c j h1 h2 => by unfold thr; omega), h.2.2.2.2.2⟩
theorem C_boxM (hf : FM Γ) (hd : 38 ≤ d) (h : MQs μ n ru ki s bx m T mg W ls) {z q : Int} (z1 : -2147483648 ≤ z) (z2 : z < 2147483648) (q1 : -2147483648 ≤ q) (q2 : q < 2147483648) : Call Γ m_MO_box d [.ref 547, .int (w z), .int (w q)] μ (KI (fun r μ' => fr bxf μ μ' ∧ MW μ' W ∧ ((BOK s z q ∧ xI μ' 547 0 = w 0 ∧ r = w (boxv ls ki bx m s z.toNat q)) ∨ (¬ BOK s z q ∧ xI μ' 547 0 = w 1 ∧ r = w 0)))) := by
  obtain ⟨d, rfl⟩ : ∃ e, d = e + 1 := ⟨d - 1, by omega⟩
  have hR := h.hm.1
  have h8 := h.nr.1
  refine Call.of ok_MO_box (Nat.le_of_ble_eq_true rfl) (B_MO_box_0 hR.o (hR.r 30 559 rfl) ?_)
  have no : ¬ BOK s z q → ∀ μ2, μ2 = sI μ 547 0 (w 1) → ∀ {R : Prop}, ((w 0 < xI μ2 547 0 → KI (fun r μ' => fr bxf μ μ' ∧ MW μ' W ∧ ((BOK s z q ∧ xI μ' 547 0 = w 0 ∧ r = w (boxv ls ki bx m s z.toNat q)) ∨ (¬ BOK s z q ∧ xI μ' 547 0 = w 1 ∧ r = w 0))) (some (.int (w 0))) μ2) ∧ (¬ w 0 < xI μ2 547 0 → R)) := fun hb μ2 e R => by
    subst e
    have e1 : xI (sI μ 547 0 (w 1)) 547 0 = w 1 := by rw [xI_sI, if_pos ⟨rfl, rfl⟩]
    rw [e1]
    exact ⟨fun _ => ⟨_, rfl, (th1 μ (w 1)).wide (fun _ _ h => Or.inr h), (h.thv (w 1)).mw, Or.inr ⟨hb, e1, rfl⟩⟩, fun x => absurd (by decide) x⟩
  refine (C_isBox (by omega) h.hm r558.sh.1 r558.sh.2.1 h.nr h.n0 z1 z2).conseq (KI.mono ?_)
  rintro r μ1 ⟨rfl, ⟨g1, g2, rfl⟩ | ⟨g1, rfl⟩⟩
  · refine ⟨fun x => absurd x (by decide), fun _ => ?_⟩
    rw [w_l q1 q2]
    refine (C_isIn (x := 0) (y := 6) (by omega) (by omega) (by omega) (by omega) (by omega) (by omega) (by omega)).conseq (KI.mono ?_)
    rintro r μ2 ⟨rfl, ⟨g3, g4, rfl⟩ | ⟨g3, rfl⟩⟩
    · refine ⟨fun x => absurd x (by decide), fun _ => ?_⟩
      have hb : BOK s z q := ⟨g1, g2, g3, g4⟩
      obtain ⟨b, rfl⟩ : ∃ v : Nat, z = v := ⟨z.toNat, by omega⟩
      rw [show ((b : Nat) : Int).toNat = b by omega]
      rintro μ3 rfl
      have h3 := h.thv (w 0)
      have o3 : fr bxf μ2 (sI μ2 547 0 (w 0)) := (th1 μ2 (w 0)).wide (fun _ _ h => Or.inr h)
      have e3 : xI (sI μ2 547 0 (w 0)) 547 0 = w 0 := by rw [xI_sI, if_pos ⟨rfl, rfl⟩]
      generalize sI μ2 547 0 (w 0) = μ3 at *
      have hr := h3.nr.rb (b := b) (by omega)
      unfold RB at hr
      dsimp only at hr
      have c0 : (w (5 * (b : Int) + q)).toNatClampNeg = 5 * b + q.toNat := by rw [w_cl (by omega) (by omega)]; omega
      have hM3 := h3.hm
      rw [e3, w_lt (by omega) (by omega) (by omega) (by omega), w_lt (by omega) (by omega) (by omega) (by omega), w_lt (by omega) (by omega) (by omega) (by omega), w_mul, w_add, c0, w_inj (by omega) (by omega) (by omega) (by omega), w_inj (by omega) (by omega) (by omega) (by omega), w_inj (by omega) (by omega) (by omega) (by omega)]
      refine ⟨fun x => absurd x (by decide), fun _ => ⟨fun x => ?_, fun x => ⟨hM3.1.r 30 559 rfl, ?_⟩, fun x => ⟨hM3.1.r 30 559 rfl, ?_⟩, fun x => ⟨hM3.1.r 30 559 rfl, in558 hM3.1.1 (by omega) (by omega), _, rfl, o3, h3.mw, Or.inl ⟨hb, e3, ?_⟩⟩⟩⟩
      · refine ⟨hM3.1.r 30 559 rfl, in558 hM3.1.1 (by omega) (by omega), _, rfl, o3, h3.mw, Or.inl ⟨hb, e3, ?_⟩⟩
        unfold boxv
        rcases (show q = 0 ∨ q = 1 ∨ q = 2 ∨ q = 3 by omega) with rfl | rfl | rfl | rfl
        · rw [if_pos rfl]; exact hr.1
        · rw [if_neg (by omega), if_pos rfl]; exact hr.2.1
        · rw [if_neg (by omega), if_neg (by omega), if_pos rfl]; exact hr.2.2.1
        · rw [if_neg (by omega), if_neg (by omega), if_neg (by omega), if_pos rfl]; exact hr.2.2.2.1
      · refine (C_valueOfM hf (by omega) hM3 h3.mw h3.lo r558 h3.nr h3.kn (b := b) (by omega)).conseq (KI.mono ?_)
        rintro r μ6 ⟨o6, hW6, rfl⟩
        refine ⟨_, rfl, o3.trans (o6.wide (fun _ _ h => Or.inl h)), hW6, Or.inl ⟨hb, by rw [(o6.1 547 0 (by unfold vfr gfr; omega)).1, e3], ?_⟩⟩
        unfold boxv
        rw [if_neg (by omega), if_neg (by omega), if_neg (by omega), if_neg (by omega), if_pos x]
      · refine (C_weightOfM (by omega) hM3 r558 h3.nr h3.kn (b := b) (by omega)).conseq (KI.mono ?_)
        rintro r μ6 ⟨rfl, rfl⟩
        refine ⟨_, rfl, o3, h3.mw, Or.inl ⟨hb, e3, ?_⟩⟩
        unfold boxv
        rw [if_neg (by omega), if_neg (by omega), if_neg (by omega), if_neg (by omega), if_neg (by omega), if_pos x]
      · unfold boxv
        rw [if_neg (by omega), if_neg (by omega), if_neg (by omega), if_neg (by omega), if_neg (by omega), if_neg (by omega), h3.nr.sz, w_sub, w_sub]
        congr 1
        omega
    · exact ⟨fun _ μ12 e => no (fun x => g3 ⟨x.2.2.1, x.2.2.2⟩) μ12 e, fun x => absurd rfl x⟩
  · exact ⟨fun _ μ2 e => no (fun x => g1 ⟨x.1, x.2.1⟩) μ2 e, fun x => absurd rfl x⟩
end OP2
