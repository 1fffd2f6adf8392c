/-! YEARS, in the reference -/
def MAL (μ : XM) (n : Nat) (ru : Nat → Int) (ki : Nat → Nat → Int) (W : WL) (ls : Int → Int → Int → Int → Int → Int → Int) (L : LL) : Prop := MA μ n ru ki (l0 L) (l1 L) (l2 L) (l3 L) (l4 L) W ls (l5 L)
def dfr (c j : Nat) : Prop := c = 547 ∧ j = 38
theorem mof_d {c j : Nat} (h : dfr c j) : mof c j := Or.inr (Or.inr (Or.inr ⟨h.1, Or.inr (Or.inr h.2)⟩))
section OF
variable {Γ : XG} {d n s m T a : Nat} {ru : Nat → Int} {ki bx mg : Nat → Nat → Int} {ls : Int → Int → Int → Int → Int → Int → Int} {μ : XM} {Q : Option Value → XM → Prop} {W : WL} {A : AA} {L : LL} {hab : Int}
theorem MQs.dr (h : MQs μ n ru ki s bx m T mg W ls) {μ' : XM} (ho : fr dfr μ μ') : MQs μ' n ru ki s bx m T mg W ls :=
  ⟨h.1.fr ho (fun k v e => by unfold dfr; rintro ⟨-, rfl⟩; exact nomatch e) (by unfold dfr; omega) (fun j => by unfold dfr; omega) (fun j => by unfold dfr; omega), h.2.1.fr ho (fun j => by unfold dfr; omega), h.2.2.1, h.2.2.2.1, h.2.2.2.2.1.frm ho (fun c j hc => by unfold dfr; omega) (by unfold dfr; omega) (fun c j h1 h2 => by unfold dfr; omega) (fun c j h1 h2 => by unfold dfr; omega), h.2.2.2.2.2⟩
theorem MA.dr (h : MA μ n ru ki s bx m T mg W ls A) {μ' : XM} (ho : fr dfr μ μ') : MA μ' n ru ki s bx m T mg W ls A := ⟨h.1.dr ho, h.2.frm ho (fun j => by unfold dfr; omega) (by unfold dfr; omega)⟩
theorem fr38 {μ' : XM} (ho : fr (efr 559) μ μ') : xL μ' 547 38 = xL μ 547 38 := (ho.1 547 38 (by unfold efr vfr gfr; omega)).2.1
theorem fa38 {μ' : XM} (ho : fr (fun c _ => c = 559) μ μ') : xL μ' 547 38 = xL μ 547 38 := (ho.1 547 38 (by omega)).2.1
theorem yt_go (hd : 2 ≤ d) (h : MAL μ n ru ki W ls L) (hn : 0 < n) (hm : l2 L < 999) {x : Int64} (hx : xL μ 547 38 = x) {P : XM → Prop} (hP : ∀ μ', fr (fun c _ => c = 559) μ μ' → MAL μ' n ru ki W ls (lv3 (ru 2) x L) → xL μ' 547 38 = x → P μ') : Call Γ m_MO_goMonth d [.ref 547, .ref 559] μ (KV P) := by
  refine (C_goMonth (by omega) r558 hn h.1.hm h.1.nr hm).conseq (KV.mono ?_)
  rintro μ4 ⟨o4, hN4⟩
  exact hP μ4 o4 ⟨h.1.row o4 hN4 (h.1.kn.mon _ _) h.1.n0, h.2.row o4⟩ (by rw [fa38 o4]; exact hx)
theorem yt_eat (hf : FM Γ) (hd : 38 ≤ d) (h : MAL μ n ru ki W ls L) (hn : 0 < n) (hm : l2 L < 999) {x : Int64} (hx : xL μ 547 38 = x) {b i : Nat} (hb : b < l0 L) (hi : i = l0 L - 1 - b) {P : XM → Prop} (hP : ∀ μ', fr mof μ μ' → MAL μ' n ru ki W ls (lv3 (ru 2) x (leat ls ki i L)) → xL μ' 547 38 = x → P μ') : Call Γ m_MO_eats d [.ref 547, .ref 559, .int (w b)] μ (KI (fun _ μ9 => xR μ9 547 30 = some 559 ∧ Call Γ m_MO_goMonth d [.ref 547, .ref 559] μ9 (KV (fun μ11 => P μ11)))) := by
  subst hi
  refine (C_eatsM hf (by omega) h.1.hm h.1.mw h.1.lo r558 h.1.nr h.1.kn hb).conseq (KI.mono ?_)
  rintro r μ4 ⟨o4, hW4, hN4, rfl⟩
  have h4 : MAL μ4 n ru ki W ls (leat ls ki (l0 L - 1 - b) L) := ⟨⟨HM_e h.1.hm r558 o4, hN4, h.1.kn.cut _, fun q => by have := h.1.n0 q; omega, hW4, h.1.lo⟩, (h.2.e r558 o4).mp _ _ _ _⟩
  exact ⟨h4.1.hm.1.r 30 559 rfl, yt_go (by omega) h4 hn hm (by rw [fr38 o4]; exact hx) (fun μ' g1 g2 g3 => hP μ' ((o4.wide (fun _ _ => mof_e)).trans (g1.wide (fun _ _ => mof_a))) g2 g3)⟩
theorem yt_all (hf : FM Γ) (hd : 38 ≤ d) (h : MAL μ n ru ki W ls L) (hn : 0 < n) (hm : l2 L < 999) (hx : xL μ 547 38 = l6 L) {P : XM → Prop} (hP : ∀ μ', fr mof μ μ' → MAL μ' n ru ki W ls (lv3 (ru 2) (nxd (l6 L)) (lv2 ls ki L)) → xL μ' 547 38 = nxd (l6 L) → P μ') : Call Γ m_MO_draw d [.ref 547, .int (w 2)] μ (KI (fun v2 μ2 => xR μ2 547 30 = some 559 ∧ zib μ2 0 559 (w 40) ∧ ((xI μ2 559 (w 40).toNatClampNeg = w 0 → Call Γ m_MO_goMonth d [.ref 547, .ref 559] μ2 (KV (fun μ12 => P μ12))) ∧ (¬ xI μ2 559 (w 40).toNatClampNeg = w 0 → ((v2 = w 0 → Call Γ m_MO_eats d [.ref 547, .ref 559, .int (w 0)] μ2 (KI (fun v9 μ9 => xR μ9 547 30 = some 559 ∧ Call Γ m_MO_goMonth d [.ref 547, .ref 559] μ9 (KV (fun μ11 => P μ11))))) ∧ (¬ v2 = w 0 → zib μ2 0 559 (w 40) ∧ Call Γ m_MO_eats d [.ref 547, .ref 559, .int ((xI μ2 559 (w 40).toNatClampNeg) - (w 1))] μ2 (KI (fun v6 μ6 => xR μ6 547 30 = some 559 ∧ Call Γ m_MO_goMonth d [.ref 547, .ref 559] μ6 (KV (fun μ8 => P μ8)))))))))) := by
  refine (C_drawM (j := 2) (by omega) h.1.hm.1 (by omega) (by omega)).conseq (KI.mono ?_)
  rintro r μ2 ⟨o2, e38, rfl⟩
  have h2 : MAL μ2 n ru ki W ls L := MA.dr h o2
  have h8 := h2.1.nr.1
  have hb := drw_lt (nxd (l6 L)) (j := 2) (by omega)
  have o2' : fr mof μ μ2 := fr.wide o2 (fun _ _ => mof_d)
  have hx2 : xL μ2 547 38 = nxd (l6 L) := by rw [e38, hx]
  rw [hx, h2.1.nr.sz, w_inj (by omega) (by omega) (by omega) (by omega), w_sub]
  refine ⟨h2.1.hm.1.r 30 559 rfl, in558 h2.1.hm.1.1 (by omega) (by omega), fun q => ?_, fun q => ⟨fun q2 => ?_, fun q2 => ⟨in558 h2.1.hm.1.1 (by omega) (by omega), ?_⟩⟩⟩
  · rw [lv2_n (by omega)] at hP
    exact yt_go (by omega) h2 hn hm hx2 (fun μ' g1 g2 g3 => hP μ' (o2'.trans (g1.wide (fun _ _ => mof_a))) g2 g3)
  · rw [w_inj (by omega) (by omega) (by omega) (by omega)] at q2
    rw [lv2_y (by omega), show lvi L = l0 L - 1 from if_pos (by omega)] at hP
    exact yt_eat hf hd h2 hn hm hx2 (b := 0) (by omega) (by omega) (fun μ' g1 g2 g3 => hP μ' (o2'.trans g1) g2 g3)
  · rw [w_inj (by omega) (by omega) (by omega) (by omega)] at q2
    rw [lv2_y (by omega), show lvi L = 0 from if_neg (by omega)] at hP
    rw [show (l0 L : Int) - 1 = ((l0 L - 1 : Nat) : Int) by omega]
    exact yt_eat hf hd h2 hn hm hx2 (b := l0 L - 1) (by omega) (by omega) (fun μ' g1 g2 g3 => hP μ' (o2'.trans g1) g2 g3)
theorem lv3_m {hh : Int} {x : Int64} : l2 (lv3 hh x L) = l2 L + 1 := rfl
theorem lv2_m : l2 (lv2 ls ki L) = l2 L := rfl
theorem lv1_m : l2 (lv1 n ru hab L) = l2 L := rfl
theorem years_77 (hf : FM Γ) (hd : 38 ≤ d) (h : MAL μ n ru ki W ls (l0 L, l1 L, l2 L, l3 L, l4 L, asav (l5 L) (l0 L) (l1 L) (l2 L) (l3 L), nxd (nxd (nxd (l6 L))))) (hn : 0 < n) (hm : l2 L < 999) (hx : xL μ 547 38 = nxd (nxd (nxd (l6 L)))) {z k : Nat} {l : Int} (hl : l = if (drw (nxd (nxd (nxd (l6 L)))) 10 : Int) < hab then 1 else 0) (hQ : ∀ μ', fr mof μ μ' → MAL μ' n ru ki W ls (lvm n ru ki ls hab L) → xL μ' 547 38 = l6 (lvm n ru ki ls hab L) → G Γ m_MO_years (d + 1) (0, 0) Q 29 [.ref 547, .int (w z), jk, jk, .int (w ((k : Int) + 1))] [] μ') : G Γ m_MO_years (d + 1) (0, 0) Q 77 [.ref 547, .int (w z), jk, jk, .int (w k), .int (w (drw (nxd (l6 L)) n : Nat)), .int (w (drw (nxd (nxd (l6 L))) 9 : Nat) + w 1)] [.int (w l)] μ := by
  have hR := h.1.hm.1
  have hn6 := h.1.hm.2.1
  have k6 := drw_lt (nxd (l6 L)) hn
  have p9 := drw_lt (nxd (nxd (l6 L))) (j := 9) (by omega)
  refine B_MO_years_77 hR.o (hR.r 30 559 rfl) ?_
  rw [w_add, w_add]
  refine (C_canPutM (by omega) h.1.hm r558.sh.1 r558.sh.2.1 h.1.nr (by omega) (by omega) (by omega) (by omega)).conseq (KI.mono ?_)
  rintro r μ1 ⟨rfl, ⟨hc, rfl⟩ | ⟨hc, rfl⟩⟩
  · refine ⟨fun q => absurd q (by decide), fun _ => ⟨hR.r 30 559 rfl, ?_⟩⟩
    have hc' := hc
    unfold CP at hc'
    have hv : lvc n ru L = true := by unfold lvc; exact cpb_iff.mpr hc
    have hl01 : 0 ≤ l ∧ l ≤ 1 := by
      by_cases e : (drw (nxd (nxd (nxd (l6 L)))) 10 : Int) < hab
      · rw [if_pos e] at hl; omega
      · rw [if_neg e] at hl; omega
    refine (C_puts (by omega) r558 h.1.hm.1.1 h.1.nr hc'.2.2.2.2.1 hc'.1 (by omega) hc'.2.2.1 hc'.2.2.2.1 hl01.1 hl01.2).conseq (KV.mono ?_)
    rintro μ2 ⟨o2, hN2⟩
    have hb3 : (if l = 0 then -1 else ((l2 L : Nat) : Int)) = if (drw (nxd (nxd (nxd (l6 L)))) 10 : Int) < hab then (l2 L : Int) else -1 := by
      by_cases e : (drw (nxd (nxd (nxd (l6 L)))) 10 : Int) < hab
      · rw [if_pos e, if_neg (by rw [hl, if_pos e]; omega)]
      · rw [if_neg e, if_pos (by rw [hl, if_neg e])]
    have h2 : MAL μ2 n ru ki W ls (lv1 n ru hab L) := by
      have e1 : lv1 n ru hab L = (l0 L + 1, bput (l1 L) (l0 L) (drw (nxd (l6 L)) n) ((drw (nxd (nxd (l6 L))) 9 : Int) + 1) 0 (if (drw (nxd (nxd (nxd (l6 L)))) 10 : Int) < hab then (l2 L : Int) else -1), l2 L, l3 L, l4 L, asav (l5 L) (l0 L) (l1 L) (l2 L) (l3 L), nxd (nxd (nxd (l6 L)))) := by
        unfold lv1
        rw [if_pos hv, if_pos hv]
      rw [e1]
      refine ⟨h.1.row o2 ?_ (h.1.kn.put hc'.2.1) (fun q => by omega), h.2.row o2⟩
      rw [← hb3]
      exact hN2
    refine yt_all hf hd h2 hn hm (by rw [fa38 o2, hx]; rfl) (fun μ' g1 g2 g3 => hQ μ' ((o2.wide (fun _ _ => mof_a)).trans g1) g2 g3)
  · refine ⟨fun _ => ?_, fun q => absurd rfl q⟩
    have hv : ¬ lvc n ru L = true := by unfold lvc; exact fun z => hc (cpb_iff.mp z)
    have h2 : MAL μ1 n ru ki W ls (lv1 n ru hab L) := by
      have e1 : lv1 n ru hab L = (l0 L, l1 L, l2 L, l3 L, l4 L, asav (l5 L) (l0 L) (l1 L) (l2 L) (l3 L), nxd (nxd (nxd (l6 L)))) := by
        unfold lv1
        rw [if_neg hv, if_neg hv]
      rw [e1]
      exact h
    exact yt_all hf hd h2 hn hm (by rw [hx]; rfl) (fun μ' g1 g2 g3 => hQ μ' g1 g2 g3)
theorem years_GM (hf : FM Γ) (hd : 38 ≤ d) (hn : 0 < n) (hh0 : 0 ≤ hab) (hh1 : hab ≤ 9) {z : Nat} (hz : z ≤ 60) : ∀ (f k : Nat) (μ : XM) (L : LL), k + f = z → MAL μ n ru ki W ls L → l2 L + f ≤ 999 → xL μ 547 38 = l6 L → xI μ 547 33 = w hab → (∀ μ', fr mof μ μ' → MAL μ' n ru ki W ls (lvy n ru ki ls hab f L) → Q (some (.int (w ((l2 L + f : Nat) : Int)))) μ') → G Γ m_MO_years (d + 1) (0, 0) Q 29 [.ref 547, .int (w z), jk, jk, .int (w k)] [] μ := by
  intro f
  induction f with
  | zero =>
    intro k μ L hk h hm hx hh hQ
    have hR := h.1.hm.1
    obtain ⟨t0, t1, t2⟩ := h.1.nr.z
    refine B_MO_years_29 hR.o (hR.r 30 559 rfl) ?_
    rw [w_lt (by omega) (by omega) (by omega) (by omega), show (w 41).toNatClampNeg = 41 by decide, t1]
    refine ⟨fun q => absurd q (by omega), fun _ => ⟨in558 hR.1 (by omega) (by omega), hQ μ (fr.rf _ _) ?_⟩⟩
    rw [lvy_0]
    exact h
  | succ f ih =>
    intro k μ L hk h hm hx hh hQ
    have hR := h.1.hm.1
    have hn6 := h.1.hm.2.1
    refine B_MO_years_29 hR.o (hR.r 30 559 rfl) ?_
    rw [w_lt (by omega) (by omega) (by omega) (by omega)]
    refine ⟨fun _ => ?_, fun q => absurd (by omega) q⟩
    refine (C_rememberM (by omega) h.1 h.2).conseq (KV.mono ?_)
    rintro μ2 ⟨o2, h2, a2⟩
    rw [h2.hm.2.2.1]
    refine (C_drawM (by omega) h2.hm.1 hn (by omega)).conseq (KI.mono ?_)
    rintro r μ3 ⟨o3, e3, rfl⟩
    refine (C_drawM (j := 9) (by omega) (h2.dr o3).hm.1 (by omega) (by omega)).conseq (KI.mono ?_)
    rintro r μ4 ⟨o4, e4, rfl⟩
    refine (C_drawM (j := 10) (by omega) ((h2.dr o3).dr o4).hm.1 (by omega) (by omega)).conseq (KI.mono ?_)
    rintro r μ5 ⟨o5, e5, rfl⟩
    have e2 : xL μ2 547 38 = l6 L := by rw [(o2.1 547 38 (by unfold rmf; omega)).2.1, hx]
    rw [e2] at e3
    rw [e3] at e4
    rw [e4] at e5
    have o35 : fr dfr μ2 μ5 := (fr.trans o3 o4).trans o5
    have ho : fr mof μ μ5 := (o2.wide (fun _ _ => mof_r)).trans (o35.wide (fun _ _ => mof_d))
    have h33 : xI μ5 547 33 = w hab := by rw [(o35.1 547 33 (by unfold dfr; omega)).1, (o2.1 547 33 (by unfold rmf; omega)).1, hh]
    have h5 : MAL μ5 n ru ki W ls (l0 L, l1 L, l2 L, l3 L, l4 L, asav (l5 L) (l0 L) (l1 L) (l2 L) (l3 L), nxd (nxd (nxd (l6 L)))) := MA.dr ⟨h2, a2⟩ o35
    have b10 := drw_lt (nxd (nxd (nxd (l6 L)))) (j := 10) (by omega)
    have step : ∀ l : Int, l = (if (drw (nxd (nxd (nxd (l6 L)))) 10 : Int) < hab then 1 else 0) → G Γ m_MO_years (d + 1) (0, 0) Q 77 [.ref 547, .int (w z), jk, jk, .int (w k), .int (w (drw (nxd (l6 L)) n : Nat)), .int (w (drw (nxd (nxd (l6 L))) 9 : Nat) + w 1)] [.int (w l)] μ5 := fun l hl => by
      refine years_77 (hab := hab) hf hd h5 hn (by omega) e5 hl (fun μ' g1 g2 g3 => ?_)
      refine ih (k + 1) μ' (lvm n ru ki ls hab L) (by omega) g2 ?_ g3 ?_ (fun μ'' q1 q2 => ?_)
      · show l2 L + 1 + f ≤ 999
        omega
      · rw [(g1.1 547 33 (by unfold mof vfr gfr; omega)).1, h33]
      · have e6 : l2 (lvm n ru ki ls hab L) + f = l2 L + (f + 1) := by
          show l2 L + 1 + f = _
          omega
        rw [e6]
        exact hQ μ'' (ho.trans (g1.trans q1)) q2
    rw [e2, e3, e4, h33, w_lt (by omega) (by omega) (by omega) (by omega)]
    exact ⟨fun q => step 1 (by rw [if_pos q]), fun q => step 0 (by rw [if_neg q])⟩
theorem C_yearsM (hf : FM Γ) (hd : 39 ≤ d) (h : MA μ n ru ki s bx m T mg W ls A) (hh : xI μ 547 33 = w hab) (hh0 : 0 ≤ hab) (hh1 : hab ≤ 9) {z : Int} (z1 : -2147483648 ≤ z) (z2 : z < 2147483648) {x : Int64} : Call Γ m_MO_years d [.ref 547, .int (w z), .long x] μ (KI (fun r μ' => fr mof μ μ' ∧ ((cpm n m z ∧ r = w ((m + z.toNat : Nat) : Int) ∧ MAL μ' n ru ki W ls (lvy n ru ki ls hab z.toNat (s, bx, m, T, mg, A, x))) ∨ (¬ cpm n m z ∧ r = w (-1) ∧ MA μ' n ru ki s bx m T mg W ls A)))) := by
  obtain ⟨d, rfl⟩ : ∃ e, d = e + 1 := ⟨d - 1, by omega⟩
  have hR := h.1.hm.1
  refine Call.of ok_MO_years (Nat.le_of_ble_eq_true rfl) (B_MO_years_0 hR.o (hR.r 30 559 rfl) ?_)
  rintro μ1 rfl
  have h1 := h.th
  have o1 := th0 μ
  have hh1' : xI (sI μ 547 0 (w 0)) 547 33 = w hab := by rw [xI_sI, if_neg (by omega)]; exact hh
  generalize sI μ 547 0 (w 0) = μ1 at *
  refine (C_mayPassM (y := 60) (by omega) h1.1.hm r558 h1.1.nr z1 z2 (by omega) (by omega)).conseq (KI.mono ?_)
  rintro r μ2 ⟨rfl, ⟨g1, rfl⟩ | ⟨g1, rfl⟩⟩
  · refine ⟨fun q => absurd q (by decide), fun _ => ?_⟩
    rintro μ3 rfl
    have o3 : fr dfr μ2 (sL μ2 547 38 x) := fr.sL (F := dfr) (a := 547) (k := 38) μ2 _ ⟨rfl, rfl⟩
    have ez : w z = w (z.toNat : Int) := by rw [show ((z.toNat : Nat) : Int) = z by omega]
    rw [ez]
    refine years_GM (L := (s, bx, m, T, mg, A, x)) hf (by omega) g1.1 hh0 hh1 (z := z.toNat) (by omega) z.toNat 0 _ (by omega) (h1.dr o3) (by show m + z.toNat ≤ 999; omega) (by rw [xL_sL, if_pos ⟨rfl, rfl⟩]; rfl) (by rw [xI_sL]; exact hh1') (fun μ' g2 g3 => ⟨_, rfl, (o1.wide (fun _ _ => mof_0)).trans ((o3.wide (fun _ _ => mof_d)).trans g2), Or.inl ⟨g1, rfl, g3⟩⟩)
  · exact ⟨fun _ => ⟨_, rfl, o1.wide (fun _ _ => mof_0), Or.inr ⟨g1, rfl, h1⟩⟩, fun q => absurd rfl q⟩
end OF
