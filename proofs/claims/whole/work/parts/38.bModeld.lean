/-! FrostBoxModel fit(II)Z -/
set_option maxRecDepth 100000 in
theorem B_MO_fit_0 {Γ : XG} {d : Nat} {Q : Option Value → XM → Prop} {r0 : Nat} {x1 x2 : Int32} {μ : XM} (o_r0_11 : ob μ r0 11) (h : ((x1 = x2 → Q (some (.int (w 1))) μ) ∧ (¬ x1 = x2 → Call Γ m_MO_told d [.ref r0, .int x1, .int (w 4)] μ (KI (fun v1 μ1 => ((v1 = x2 → Q (some (.int (w 1))) μ1) ∧ (¬ v1 = x2 → Call Γ m_MO_told d [.ref r0, .int x2, .int (w 4)] μ1 (KI (fun v2 μ2 => ((v2 = x1 → Q (some (.int (w 1))) μ2) ∧ (¬ v2 = x1 → Q (some (.int (w 0))) μ2))))))))))) : G Γ m_MO_fit (d + 1) (0, 0) Q 0 [.ref r0, .int x1, .int x2] [] μ := by
  refine run_ok (pc' := 2) [(.iload_n 1, 0, 0, 0), (.iload_n 2, 0, 0, 0)] _ _ _ _ (by decide +kernel) ?_
  show G Γ m_MO_fit (d + 1) (0, 0) Q 2 [.ref r0, .int x1, .int x2] [.int x2, .int x1] μ
  refine g_icmp_eq (pc' := 25) (off := 23) (by decide) (by decide +kernel) (fun hc => ?_) (fun hc => ?_)
  · replace h := h.1 hc
    show G Γ m_MO_fit (d + 1) (0, 0) Q 25 [.ref r0, .int x1, .int x2] [] μ
    refine run_ok (pc' := 30) [(.iconst 1, 0, 0, 0), (.goto 4, 0, 0, 0)] _ _ _ _ (by decide +kernel) ?_
    show G Γ m_MO_fit (d + 1) (0, 0) Q 30 [.ref r0, .int x1, .int x2] [.int (w 1)] μ
    exact g_retz (by decide +kernel) rfl (Or.inr rfl) h
  · replace h := h.2 hc
    show G Γ m_MO_fit (d + 1) (0, 0) Q 5 [.ref r0, .int x1, .int x2] [] μ
    refine run_ok (pc' := 8) [(.aload_n 0, 0, 0, 0), (.iload_n 1, 0, 0, 0), (.iconst 4, 0, 0, 0)] _ _ _ _ (by decide +kernel) ?_
    show G Γ m_MO_fit (d + 1) (0, 0) Q 8 [.ref r0, .int x1, .int x2] [.int (w 4), .int x1, .ref r0] μ
    refine g_invV (M' := m_MO_told) (b1 := 0) (b2 := 0) (As := [.int x1, .int (w 4)]) (a := r0) (st := []) lk_11_322 (by decide +kernel) rfl (dk_MO_told d) (Nat.le_of_ble_eq_true rfl) (Or.inl ⟨11, o_r0_11, rfl⟩) h ?_
    rintro _ μ1 ⟨v1, rfl, h⟩ hn1
    show G Γ m_MO_fit (d + 1) (0, 0) Q 11 [.ref r0, .int x1, .int x2] [.int v1] μ1
    refine run_ok (pc' := 12) [(.iload_n 2, 0, 0, 0)] _ _ _ _ (by decide +kernel) ?_
    show G Γ m_MO_fit (d + 1) (0, 0) Q 12 [.ref r0, .int x1, .int x2] [.int x2, .int v1] μ1
    refine g_icmp_eq (pc' := 25) (off := 13) (by decide) (by decide +kernel) (fun hc => ?_) (fun hc => ?_)
    · replace h := h.1 hc
      show G Γ m_MO_fit (d + 1) (0, 0) Q 25 [.ref r0, .int x1, .int x2] [] μ1
      refine run_ok (pc' := 30) [(.iconst 1, 0, 0, 0), (.goto 4, 0, 0, 0)] _ _ _ _ (by decide +kernel) ?_
      show G Γ m_MO_fit (d + 1) (0, 0) Q 30 [.ref r0, .int x1, .int x2] [.int (w 1)] μ1
      exact g_retz (by decide +kernel) rfl (Or.inr rfl) h
    · replace h := h.2 hc
      show G Γ m_MO_fit (d + 1) (0, 0) Q 15 [.ref r0, .int x1, .int x2] [] μ1
      refine run_ok (pc' := 18) [(.aload_n 0, 0, 0, 0), (.iload_n 2, 0, 0, 0), (.iconst 4, 0, 0, 0)] _ _ _ _ (by decide +kernel) ?_
      show G Γ m_MO_fit (d + 1) (0, 0) Q 18 [.ref r0, .int x1, .int x2] [.int (w 4), .int x2, .ref r0] μ1
      refine g_invV (M' := m_MO_told) (b1 := 0) (b2 := 0) (As := [.int x2, .int (w 4)]) (a := r0) (st := []) lk_11_322 (by decide +kernel) rfl (dk_MO_told d) (Nat.le_of_ble_eq_true rfl) (Or.inl ⟨11, ((o_r0_11).mono hn1), rfl⟩) h ?_
      rintro _ μ2 ⟨v2, rfl, h⟩ hn2
      show G Γ m_MO_fit (d + 1) (0, 0) Q 21 [.ref r0, .int x1, .int x2] [.int v2] μ2
      refine run_ok (pc' := 22) [(.iload_n 1, 0, 0, 0)] _ _ _ _ (by decide +kernel) ?_
      show G Γ m_MO_fit (d + 1) (0, 0) Q 22 [.ref r0, .int x1, .int x2] [.int x1, .int v2] μ2
      refine g_icmp_ne (pc' := 29) (off := 7) (by decide) (by decide +kernel) (fun hc => ?_) (fun hc => ?_)
      · replace h := h.2 hc
        show G Γ m_MO_fit (d + 1) (0, 0) Q 29 [.ref r0, .int x1, .int x2] [] μ2
        refine run_ok (pc' := 30) [(.iconst 0, 0, 0, 0)] _ _ _ _ (by decide +kernel) ?_
        show G Γ m_MO_fit (d + 1) (0, 0) Q 30 [.ref r0, .int x1, .int x2] [.int (w 0)] μ2
        exact g_retz (by decide +kernel) rfl (Or.inl rfl) h
      · replace h := h.1 hc
        show G Γ m_MO_fit (d + 1) (0, 0) Q 25 [.ref r0, .int x1, .int x2] [] μ2
        refine run_ok (pc' := 30) [(.iconst 1, 0, 0, 0), (.goto 4, 0, 0, 0)] _ _ _ _ (by decide +kernel) ?_
        show G Γ m_MO_fit (d + 1) (0, 0) Q 30 [.ref r0, .int x1, .int x2] [.int (w 1)] μ2
        exact g_retz (by decide +kernel) rfl (Or.inr rfl) h
/-! FrostBoxModel kindIn(I)I -/
set_option maxRecDepth 100000 in
theorem B_MO_kindIn_0 {Γ : XG} {d : Nat} {Q : Option Value → XM → Prop} {r0 r0_30 : Nat} {x1 : Int32} {μ : XM} (o_r0_11 : ob μ r0 11) (e_r0_30 : xR μ r0 30 = some r0_30) (h : inb μ 0 r0_30 (((w 5) * x1) + (w 0)) ∧ Q (some (.int (xI μ r0_30 (((w 5) * x1) + (w 0)).toNatClampNeg))) μ) : G Γ m_MO_kindIn (d + 1) (0, 0) Q 0 [.ref r0, .int x1] [] μ := by
  obtain ⟨ib1, h⟩ := h
  refine run_ok (pc' := 10) [(.aload_n 0, 0, 0, 0), (.getfield 58, 11, 30, 2), (.iconst 5, 0, 0, 0), (.iload_n 1, 0, 0, 0), (.imul, 0, 0, 0), (.iconst 0, 0, 0, 0), (.iadd, 0, 0, 0), (.iaload, 0, 0, 0)] _ _ _ _ (by decide +kernel) ?_
  show _ ∧ (∃ _, _ ∧ (_ ∧ (_)))
  refine ⟨o_r0_11, r0_30, e_r0_30, ib1, ?_⟩
  show G Γ m_MO_kindIn (d + 1) (0, 0) Q 10 [.ref r0, .int x1] [.int (xI μ r0_30 (((w 5) * x1) + (w 0)).toNatClampNeg)] μ
  exact g_reti (by decide +kernel) rfl h
/-! FrostBoxModel isDinner(I)Z -/
set_option maxRecDepth 100000 in
theorem lk_11_449 : LkV 11 449 m_MO_fit 2 := ⟨lc_MO_fit, lwG_in (List.mem_of_getElem? (i := 1781) rfl) rfl, lwG_in (List.mem_of_getElem? (i := 1783) rfl) rfl, lwG_in (List.mem_of_getElem? (i := 100) rfl) rfl⟩
set_option maxRecDepth 100000 in
theorem lk_11_446 : LkV 11 446 m_MO_kindIn 1 := ⟨lc_MO_kindIn, lwG_in (List.mem_of_getElem? (i := 1777) rfl) rfl, lwG_in (List.mem_of_getElem? (i := 1779) rfl) rfl, lwG_in (List.mem_of_getElem? (i := 99) rfl) rfl⟩
set_option maxRecDepth 100000 in
theorem B_MO_isDinner_0 {Γ : XG} {d : Nat} {Q : Option Value → XM → Prop} {r0 : Nat} {x1 : Int32} {μ : XM}  (h : G Γ m_MO_isDinner (d + 1) (0, 0) Q 2 [.ref r0, .int x1, .int (w 0)] [] μ) : G Γ m_MO_isDinner (d + 1) (0, 0) Q 0 [.ref r0, .int x1] [] μ := by
  refine run_ok (pc' := 2) [(.iconst 0, 0, 0, 0), (.istore_n 2, 0, 0, 0)] _ _ _ _ (by decide +kernel) ?_
  show G Γ m_MO_isDinner (d + 1) (0, 0) Q 2 [.ref r0, .int x1, .int (w 0)] [] μ
  exact h
set_option maxRecDepth 100000 in
theorem B_MO_isDinner_2 {Γ : XG} {d : Nat} {Q : Option Value → XM → Prop} {r0 r0_30 : Nat} {x1 x2 : Int32} {μ : XM} (o_r0_11 : ob μ r0 11) (e_r0_30 : xR μ r0 30 = some r0_30) (h : inb μ 0 r0_30 (w 40) ∧ ((x2 < xI μ r0_30 (w 40).toNatClampNeg → G Γ m_MO_isDinner (d + 1) (0, 0) Q 15 [.ref r0, .int x1, .int x2, .int (w 0)] [] μ) ∧ (¬ x2 < xI μ r0_30 (w 40).toNatClampNeg → Q (some (.int (w 1))) μ))) : G Γ m_MO_isDinner (d + 1) (0, 0) Q 2 [.ref r0, .int x1, .int x2] [] μ := by
  obtain ⟨ib1, h⟩ := h
  refine run_ok (pc' := 10) [(.iload_n 2, 0, 0, 0), (.aload_n 0, 0, 0, 0), (.getfield 58, 11, 30, 2), (.bipush 40, 0, 0, 0), (.iaload, 0, 0, 0)] _ _ _ _ (by decide +kernel) ?_
  show _ ∧ (∃ _, _ ∧ (_ ∧ (_)))
  refine ⟨o_r0_11, r0_30, e_r0_30, ib1, ?_⟩
  show G Γ m_MO_isDinner (d + 1) (0, 0) Q 10 [.ref r0, .int x1, .int x2] [.int (xI μ r0_30 (w 40).toNatClampNeg), .int x2] μ
  refine g_icmp_ge (pc' := 67) (off := 57) (by decide) (by decide +kernel) (fun hc => ?_) (fun hc => ?_)
  · replace h := h.2 hc
    show G Γ m_MO_isDinner (d + 1) (0, 0) Q 67 [.ref r0, .int x1, .int x2] [] μ
    refine run_ok (pc' := 68) [(.iconst 1, 0, 0, 0)] _ _ _ _ (by decide +kernel) ?_
    show G Γ m_MO_isDinner (d + 1) (0, 0) Q 68 [.ref r0, .int x1, .int x2] [.int (w 1)] μ
    exact g_retz (by decide +kernel) rfl (Or.inr rfl) h
  · replace h := h.1 hc
    show G Γ m_MO_isDinner (d + 1) (0, 0) Q 13 [.ref r0, .int x1, .int x2] [] μ
    refine run_ok (pc' := 15) [(.iconst 0, 0, 0, 0), (.istore_n 3, 0, 0, 0)] _ _ _ _ (by decide +kernel) ?_
    show G Γ m_MO_isDinner (d + 1) (0, 0) Q 15 [.ref r0, .int x1, .int x2, .int (w 0)] [] μ
    exact h
set_option maxRecDepth 100000 in
theorem B_MO_isDinner_15 {Γ : XG} {d : Nat} {Q : Option Value → XM → Prop} {r0 : Nat} {x1 x2 x3 : Int32} {μ : XM} (o_r0_11 : ob μ r0 11) (h : ((x3 < x2 → Call Γ m_MO_has d [.int x1, .int x2] μ (KI (fun v1 μ1 => ((v1 = w 0 → G Γ m_MO_isDinner (d + 1) (0, 0) Q 15 [.ref r0, .int x1, .int x2, .int (x3 + w 1)] [] μ1) ∧ (¬ v1 = w 0 → Call Γ m_MO_has d [.int x1, .int x3] μ1 (KI (fun v2 μ2 => ((v2 = w 0 → G Γ m_MO_isDinner (d + 1) (0, 0) Q 15 [.ref r0, .int x1, .int x2, .int (x3 + w 1)] [] μ2) ∧ (¬ v2 = w 0 → Call Γ m_MO_kindIn d [.ref r0, .int x2] μ2 (KI (fun v3 μ3 => Call Γ m_MO_kindIn d [.ref r0, .int x3] μ3 (KI (fun v4 μ4 => Call Γ m_MO_fit d [.ref r0, .int v3, .int v4] μ4 (KI (fun v5 μ5 => ((v5 = w 0 → Q (some (.int (w 0))) μ5) ∧ (¬ v5 = w 0 → G Γ m_MO_isDinner (d + 1) (0, 0) Q 15 [.ref r0, .int x1, .int x2, .int (x3 + w 1)] [] μ5))))))))))))))))) ∧ (¬ x3 < x2 → G Γ m_MO_isDinner (d + 1) (0, 0) Q 2 [.ref r0, .int x1, .int (x2 + w 1)] [] μ))) : G Γ m_MO_isDinner (d + 1) (0, 0) Q 15 [.ref r0, .int x1, .int x2, .int x3] [] μ := by
  refine run_ok (pc' := 17) [(.iload_n 3, 0, 0, 0), (.iload_n 2, 0, 0, 0)] _ _ _ _ (by decide +kernel) ?_
  show G Γ m_MO_isDinner (d + 1) (0, 0) Q 17 [.ref r0, .int x1, .int x2, .int x3] [.int x2, .int x3] μ
  refine g_icmp_ge (pc' := 61) (off := 44) (by decide) (by decide +kernel) (fun hc => ?_) (fun hc => ?_)
  · replace h := h.2 hc
    show G Γ m_MO_isDinner (d + 1) (0, 0) Q 61 [.ref r0, .int x1, .int x2, .int x3] [] μ
    refine run_ok (pc' := 2) [(.iinc 2 1, 0, 0, 0), (.goto (-62), 0, 0, 0)] _ _ _ _ (by decide +kernel) ?_
    show G Γ m_MO_isDinner (d + 1) (0, 0) Q 2 [.ref r0, .int x1, .int (x2 + w 1), .int x3] [] μ
    exact g_wk (ls' := [.ref r0, .int x1, .int (x2 + w 1)]) ⟨Or.inr rfl, Or.inr rfl, Or.inr rfl, trivial⟩ h
  · replace h := h.1 hc
    show G Γ m_MO_isDinner (d + 1) (0, 0) Q 20 [.ref r0, .int x1, .int x2, .int x3] [] μ
    refine run_ok (pc' := 22) [(.iload_n 1, 0, 0, 0), (.iload_n 2, 0, 0, 0)] _ _ _ _ (by decide +kernel) ?_
    show G Γ m_MO_isDinner (d + 1) (0, 0) Q 22 [.ref r0, .int x1, .int x2, .int x3] [.int x2, .int x1] μ
    refine g_invS (M' := m_MO_has) (b1 := 0) (b2 := 0) (As := [.int x1, .int x2]) (st := []) lk_11_242 (by decide +kernel) rfl (dk_MO_has d) (Nat.le_of_ble_eq_true rfl) h ?_
    rintro _ μ1 ⟨v1, rfl, h⟩ hn1
    show G Γ m_MO_isDinner (d + 1) (0, 0) Q 25 [.ref r0, .int x1, .int x2, .int x3] [.int v1] μ1
    refine g_ifz_eq (pc' := 55) (off := 30) (by decide) (by decide +kernel) (fun hc => ?_) (fun hc => ?_)
    · replace h := h.1 hc
      show G Γ m_MO_isDinner (d + 1) (0, 0) Q 55 [.ref r0, .int x1, .int x2, .int x3] [] μ1
      refine run_ok (pc' := 15) [(.iinc 3 1, 0, 0, 0), (.goto (-43), 0, 0, 0)] _ _ _ _ (by decide +kernel) ?_
      show G Γ m_MO_isDinner (d + 1) (0, 0) Q 15 [.ref r0, .int x1, .int x2, .int (x3 + w 1)] [] μ1
      exact h
    · replace h := h.2 hc
      show G Γ m_MO_isDinner (d + 1) (0, 0) Q 28 [.ref r0, .int x1, .int x2, .int x3] [] μ1
      refine run_ok (pc' := 30) [(.iload_n 1, 0, 0, 0), (.iload_n 3, 0, 0, 0)] _ _ _ _ (by decide +kernel) ?_
      show G Γ m_MO_isDinner (d + 1) (0, 0) Q 30 [.ref r0, .int x1, .int x2, .int x3] [.int x3, .int x1] μ1
      refine g_invS (M' := m_MO_has) (b1 := 0) (b2 := 0) (As := [.int x1, .int x3]) (st := []) lk_11_242 (by decide +kernel) rfl (dk_MO_has d) (Nat.le_of_ble_eq_true rfl) h ?_
      rintro _ μ2 ⟨v2, rfl, h⟩ hn2
      show G Γ m_MO_isDinner (d + 1) (0, 0) Q 33 [.ref r0, .int x1, .int x2, .int x3] [.int v2] μ2
      refine g_ifz_eq (pc' := 55) (off := 22) (by decide) (by decide +kernel) (fun hc => ?_) (fun hc => ?_)
      · replace h := h.1 hc
        show G Γ m_MO_isDinner (d + 1) (0, 0) Q 55 [.ref r0, .int x1, .int x2, .int x3] [] μ2
        refine run_ok (pc' := 15) [(.iinc 3 1, 0, 0, 0), (.goto (-43), 0, 0, 0)] _ _ _ _ (by decide +kernel) ?_
        show G Γ m_MO_isDinner (d + 1) (0, 0) Q 15 [.ref r0, .int x1, .int x2, .int (x3 + w 1)] [] μ2
        exact h
      · replace h := h.2 hc
        show G Γ m_MO_isDinner (d + 1) (0, 0) Q 36 [.ref r0, .int x1, .int x2, .int x3] [] μ2
        refine run_ok (pc' := 39) [(.aload_n 0, 0, 0, 0), (.aload_n 0, 0, 0, 0), (.iload_n 2, 0, 0, 0)] _ _ _ _ (by decide +kernel) ?_
        show G Γ m_MO_isDinner (d + 1) (0, 0) Q 39 [.ref r0, .int x1, .int x2, .int x3] [.int x2, .ref r0, .ref r0] μ2
        refine g_invV (M' := m_MO_kindIn) (b1 := 0) (b2 := 0) (As := [.int x2]) (a := r0) (st := [.ref r0]) lk_11_446 (by decide +kernel) rfl (dk_MO_kindIn d) (Nat.le_of_ble_eq_true rfl) (Or.inl ⟨11, (((o_r0_11).mono hn1).mono hn2), rfl⟩) h ?_
        rintro _ μ3 ⟨v3, rfl, h⟩ hn3
        show G Γ m_MO_isDinner (d + 1) (0, 0) Q 42 [.ref r0, .int x1, .int x2, .int x3] [.int v3, .ref r0] μ3
        refine run_ok (pc' := 44) [(.aload_n 0, 0, 0, 0), (.iload_n 3, 0, 0, 0)] _ _ _ _ (by decide +kernel) ?_
        show G Γ m_MO_isDinner (d + 1) (0, 0) Q 44 [.ref r0, .int x1, .int x2, .int x3] [.int x3, .ref r0, .int v3, .ref r0] μ3
        refine g_invV (M' := m_MO_kindIn) (b1 := 0) (b2 := 0) (As := [.int x3]) (a := r0) (st := [.int v3, .ref r0]) lk_11_446 (by decide +kernel) rfl (dk_MO_kindIn d) (Nat.le_of_ble_eq_true rfl) (Or.inl ⟨11, ((((o_r0_11).mono hn1).mono hn2).mono hn3), rfl⟩) h ?_
        rintro _ μ4 ⟨v4, rfl, h⟩ hn4
        show G Γ m_MO_isDinner (d + 1) (0, 0) Q 47 [.ref r0, .int x1, .int x2, .int x3] [.int v4, .int v3, .ref r0] μ4
        refine g_invV (M' := m_MO_fit) (b1 := 0) (b2 := 0) (As := [.int v3, .int v4]) (a := r0) (st := []) lk_11_449 (by decide +kernel) rfl (dk_MO_fit d) (Nat.le_of_ble_eq_true rfl) (Or.inl ⟨11, (((((o_r0_11).mono hn1).mono hn2).mono hn3).mono hn4), rfl⟩) h ?_
        rintro _ μ5 ⟨v5, rfl, h⟩ hn5
        show G Γ m_MO_isDinner (d + 1) (0, 0) Q 50 [.ref r0, .int x1, .int x2, .int x3] [.int v5] μ5
        refine g_ifz_ne (pc' := 55) (off := 5) (by decide) (by decide +kernel) (fun hc => ?_) (fun hc => ?_)
        · replace h := h.2 hc
          show G Γ m_MO_isDinner (d + 1) (0, 0) Q 55 [.ref r0, .int x1, .int x2, .int x3] [] μ5
          refine run_ok (pc' := 15) [(.iinc 3 1, 0, 0, 0), (.goto (-43), 0, 0, 0)] _ _ _ _ (by decide +kernel) ?_
          show G Γ m_MO_isDinner (d + 1) (0, 0) Q 15 [.ref r0, .int x1, .int x2, .int (x3 + w 1)] [] μ5
          exact h
        · replace h := h.1 hc
          show G Γ m_MO_isDinner (d + 1) (0, 0) Q 53 [.ref r0, .int x1, .int x2, .int x3] [] μ5
          refine run_ok (pc' := 54) [(.iconst 0, 0, 0, 0)] _ _ _ _ (by decide +kernel) ?_
          show G Γ m_MO_isDinner (d + 1) (0, 0) Q 54 [.ref r0, .int x1, .int x2, .int x3] [.int (w 0)] μ5
          exact g_retz (by decide +kernel) rfl (Or.inl rfl) h
/-! FrostBoxModel dinner(II)I -/
set_option maxRecDepth 100000 in
theorem lk_11_454 : LkV 11 454 m_MO_isDinner 1 := ⟨lc_MO_isDinner, lwG_in (List.mem_of_getElem? (i := 1773) rfl) rfl, lwG_in (List.mem_of_getElem? (i := 1775) rfl) rfl, lwG_in (List.mem_of_getElem? (i := 98) rfl) rfl⟩
set_option maxRecDepth 100000 in
theorem B_MO_dinner_0 {Γ : XG} {d : Nat} {Q : Option Value → XM → Prop} {r0 : Nat} {x1 x2 : Int32} {μ : XM} (o_r0_11 : ob μ r0 11) (h : ∀ μ1, μ1 = sI μ r0 0 (w 0) → ((xI μ1 r0 25 = w 0 → Q (some (.int (w (-1)))) μ1) ∧ (¬ xI μ1 r0 25 = w 0 → Call Γ m_MO_isIn d [.long (x1.toInt64), .long (wl 1), .long (wl 30)] μ1 (KI (fun v2 μ2 => ((v2 = w 0 → Q (some (.int (w (-1)))) μ2) ∧ (¬ v2 = w 0 → Call Γ m_MO_isIn d [.long (x2.toInt64), .long (wl 0), .long (wl 1)] μ2 (KI (fun v3 μ3 => ((v3 = w 0 → Q (some (.int (w (-1)))) μ3) ∧ (¬ v3 = w 0 → G Γ m_MO_dinner (d + 1) (0, 0) Q 47 [.ref r0, .int x1, .int x2, .int (w (-1)), .int (w 0), .int (w 0), .int (w 1)] [] μ3))))))))))) : G Γ m_MO_dinner (d + 1) (0, 0) Q 0 [.ref r0, .int x1, .int x2] [] μ := by
  refine run_ok (pc' := 5) [(.aload_n 0, 0, 0, 0), (.iconst 0, 0, 0, 0), (.putfield 109, 11, 0, 0)] _ _ _ _ (by decide +kernel) ?_
  show _ ∧ (_)
  refine ⟨o_r0_11, ?_⟩
  show G Γ m_MO_dinner (d + 1) (0, 0) Q 5 [.ref r0, .int x1, .int x2] [] (sI μ r0 0 (w 0))
  obtain ⟨μ1, em1⟩ : ∃ m : XM, m = sI μ r0 0 (w 0) := ⟨_, rfl⟩
  replace h := h μ1 em1
  have hm1 : xN μ ≤ xN μ1 := by rw [em1]; exact Nat.le_refl _
  rw [← em1]
  refine run_ok (pc' := 9) [(.aload_n 0, 0, 0, 0), (.getfield 307, 11, 25, 0)] _ _ _ _ (by decide +kernel) ?_
  show _ ∧ (_)
  refine ⟨((o_r0_11).mono hm1), ?_⟩
  show G Γ m_MO_dinner (d + 1) (0, 0) Q 9 [.ref r0, .int x1, .int x2] [.int (xI μ1 r0 25)] μ1
  refine g_ifz_eq (pc' := 34) (off := 25) (by decide) (by decide +kernel) (fun hc => ?_) (fun hc => ?_)
  · replace h := h.1 hc
    show G Γ m_MO_dinner (d + 1) (0, 0) Q 34 [.ref r0, .int x1, .int x2] [] μ1
    refine run_ok (pc' := 35) [(.iconst (-1), 0, 0, 0)] _ _ _ _ (by decide +kernel) ?_
    show G Γ m_MO_dinner (d + 1) (0, 0) Q 35 [.ref r0, .int x1, .int x2] [.int (w (-1))] μ1
    exact g_reti (by decide +kernel) rfl h
  · replace h := h.2 hc
    show G Γ m_MO_dinner (d + 1) (0, 0) Q 12 [.ref r0, .int x1, .int x2] [] μ1
    refine run_ok (pc' := 18) [(.iload_n 1, 0, 0, 0), (.i2l, 0, 0, 0), (.lconst 1, 0, 0, 1), (.ldc2_w 452, 0, 0, 30)] _ _ _ _ (by decide +kernel) ?_
    show G Γ m_MO_dinner (d + 1) (0, 0) Q 18 [.ref r0, .int x1, .int x2] [.long (wl 30), .long (wl 1), .long (x1.toInt64)] μ1
    refine g_invS (M' := m_MO_isIn) (b1 := 0) (b2 := 0) (As := [.long (x1.toInt64), .long (wl 1), .long (wl 30)]) (st := []) lk_11_230 (by decide +kernel) rfl (dk_MO_isIn d) (Nat.le_of_ble_eq_true rfl) h ?_
    rintro _ μ2 ⟨v2, rfl, h⟩ hn2
    show G Γ m_MO_dinner (d + 1) (0, 0) Q 21 [.ref r0, .int x1, .int x2] [.int v2] μ2
    refine g_ifz_eq (pc' := 34) (off := 13) (by decide) (by decide +kernel) (fun hc => ?_) (fun hc => ?_)
    · replace h := h.1 hc
      show G Γ m_MO_dinner (d + 1) (0, 0) Q 34 [.ref r0, .int x1, .int x2] [] μ2
      refine run_ok (pc' := 35) [(.iconst (-1), 0, 0, 0)] _ _ _ _ (by decide +kernel) ?_
      show G Γ m_MO_dinner (d + 1) (0, 0) Q 35 [.ref r0, .int x1, .int x2] [.int (w (-1))] μ2
      exact g_reti (by decide +kernel) rfl h
    · replace h := h.2 hc
      show G Γ m_MO_dinner (d + 1) (0, 0) Q 24 [.ref r0, .int x1, .int x2] [] μ2
      refine run_ok (pc' := 28) [(.iload_n 2, 0, 0, 0), (.i2l, 0, 0, 0), (.lconst 0, 0, 0, 0), (.lconst 1, 0, 0, 1)] _ _ _ _ (by decide +kernel) ?_
      show G Γ m_MO_dinner (d + 1) (0, 0) Q 28 [.ref r0, .int x1, .int x2] [.long (wl 1), .long (wl 0), .long (x2.toInt64)] μ2
      refine g_invS (M' := m_MO_isIn) (b1 := 0) (b2 := 0) (As := [.long (x2.toInt64), .long (wl 0), .long (wl 1)]) (st := []) lk_11_230 (by decide +kernel) rfl (dk_MO_isIn d) (Nat.le_of_ble_eq_true rfl) h ?_
      rintro _ μ3 ⟨v3, rfl, h⟩ hn3
      show G Γ m_MO_dinner (d + 1) (0, 0) Q 31 [.ref r0, .int x1, .int x2] [.int v3] μ3
      refine g_ifz_ne (pc' := 36) (off := 5) (by decide) (by decide +kernel) (fun hc => ?_) (fun hc => ?_)
      · replace h := h.2 hc
        show G Γ m_MO_dinner (d + 1) (0, 0) Q 36 [.ref r0, .int x1, .int x2] [] μ3
        refine run_ok (pc' := 47) [(.iconst (-1), 0, 0, 0), (.istore_n 3, 0, 0, 0), (.iconst 0, 0, 0, 0), (.istore 4, 0, 0, 0), (.iconst 0, 0, 0, 0), (.istore 5, 0, 0, 0), (.iconst 1, 0, 0, 0), (.istore 6, 0, 0, 0)] _ _ _ _ (by decide +kernel) ?_
        show G Γ m_MO_dinner (d + 1) (0, 0) Q 47 [.ref r0, .int x1, .int x2, .int (w (-1)), .int (w 0), .int (w 0), .int (w 1)] [] μ3
        exact h
      · replace h := h.1 hc
        show G Γ m_MO_dinner (d + 1) (0, 0) Q 34 [.ref r0, .int x1, .int x2] [] μ3
        refine run_ok (pc' := 35) [(.iconst (-1), 0, 0, 0)] _ _ _ _ (by decide +kernel) ?_
        show G Γ m_MO_dinner (d + 1) (0, 0) Q 35 [.ref r0, .int x1, .int x2] [.int (w (-1))] μ3
        exact g_reti (by decide +kernel) rfl h
set_option maxRecDepth 100000 in
theorem B_MO_dinner_47 {Γ : XG} {d : Nat} {Q : Option Value → XM → Prop} {r0 r0_30 : Nat} {x1 x2 x3 x4 x5 x6 : Int32} {μ : XM} (o_r0_11 : ob μ r0 11) (e_r0_30 : xR μ r0 30 = some r0_30) (h : inb μ 0 r0_30 (w 40) ∧ ((x6 < (w 1) <<< ((xI μ r0_30 (w 40).toNatClampNeg) &&& 31) → G Γ m_MO_dinner (d + 1) (0, 0) Q 70 [.ref r0, .int x1, .int x2, .int x3, .int x4, .int x5, .int x6, .int (w 0), .int (w 0), .int (w 0)] [] μ) ∧ (¬ x6 < (w 1) <<< ((xI μ r0_30 (w 40).toNatClampNeg) &&& 31) → ((x3 = w (-1) → Q (some (.int x3)) μ) ∧ (¬ x3 = w (-1) → ((x2 = w 0 → Q (some (.int x3)) μ) ∧ (¬ x2 = w 0 → Q (some (.int x4)) μ))))))) : G Γ m_MO_dinner (d + 1) (0, 0) Q 47 [.ref r0, .int x1, .int x2, .int x3, .int x4, .int x5, .int x6] [] μ := by
  obtain ⟨ib1, h⟩ := h
  refine run_ok (pc' := 58) [(.iload 6, 0, 0, 0), (.iconst 1, 0, 0, 0), (.aload_n 0, 0, 0, 0), (.getfield 58, 11, 30, 2), (.bipush 40, 0, 0, 0), (.iaload, 0, 0, 0), (.ishl, 0, 0, 0)] _ _ _ _ (by decide +kernel) ?_
  show _ ∧ (∃ _, _ ∧ (_ ∧ (_)))
  refine ⟨o_r0_11, r0_30, e_r0_30, ib1, ?_⟩
  show G Γ m_MO_dinner (d + 1) (0, 0) Q 58 [.ref r0, .int x1, .int x2, .int x3, .int x4, .int x5, .int x6] [.int ((w 1) <<< ((xI μ r0_30 (w 40).toNatClampNeg) &&& 31)), .int x6] μ
  refine g_icmp_ge (pc' := 206) (off := 148) (by decide) (by decide +kernel) (fun hc => ?_) (fun hc => ?_)
  · replace h := h.2 hc
    show G Γ m_MO_dinner (d + 1) (0, 0) Q 206 [.ref r0, .int x1, .int x2, .int x3, .int x4, .int x5, .int x6] [] μ
    refine run_ok (pc' := 208) [(.iload_n 3, 0, 0, 0), (.iconst (-1), 0, 0, 0)] _ _ _ _ (by decide +kernel) ?_
    show G Γ m_MO_dinner (d + 1) (0, 0) Q 208 [.ref r0, .int x1, .int x2, .int x3, .int x4, .int x5, .int x6] [.int (w (-1)), .int x3] μ
    refine g_icmp_eq (pc' := 215) (off := 7) (by decide) (by decide +kernel) (fun hc => ?_) (fun hc => ?_)
    · replace h := h.1 hc
      show G Γ m_MO_dinner (d + 1) (0, 0) Q 215 [.ref r0, .int x1, .int x2, .int x3, .int x4, .int x5, .int x6] [] μ
      refine run_ok (pc' := 221) [(.iload_n 3, 0, 0, 0), (.goto 5, 0, 0, 0)] _ _ _ _ (by decide +kernel) ?_
      show G Γ m_MO_dinner (d + 1) (0, 0) Q 221 [.ref r0, .int x1, .int x2, .int x3, .int x4, .int x5, .int x6] [.int x3] μ
      exact g_reti (by decide +kernel) rfl h
    · replace h := h.2 hc
      show G Γ m_MO_dinner (d + 1) (0, 0) Q 211 [.ref r0, .int x1, .int x2, .int x3, .int x4, .int x5, .int x6] [] μ
      refine run_ok (pc' := 212) [(.iload_n 2, 0, 0, 0)] _ _ _ _ (by decide +kernel) ?_
      show G Γ m_MO_dinner (d + 1) (0, 0) Q 212 [.ref r0, .int x1, .int x2, .int x3, .int x4, .int x5, .int x6] [.int x2] μ
      refine g_ifz_ne (pc' := 219) (off := 7) (by decide) (by decide +kernel) (fun hc => ?_) (fun hc => ?_)
      · replace h := h.2 hc
        show G Γ m_MO_dinner (d + 1) (0, 0) Q 219 [.ref r0, .int x1, .int x2, .int x3, .int x4, .int x5, .int x6] [] μ
        refine run_ok (pc' := 221) [(.iload 4, 0, 0, 0)] _ _ _ _ (by decide +kernel) ?_
        show G Γ m_MO_dinner (d + 1) (0, 0) Q 221 [.ref r0, .int x1, .int x2, .int x3, .int x4, .int x5, .int x6] [.int x4] μ
        exact g_reti (by decide +kernel) rfl h
      · replace h := h.1 hc
        show G Γ m_MO_dinner (d + 1) (0, 0) Q 215 [.ref r0, .int x1, .int x2, .int x3, .int x4, .int x5, .int x6] [] μ
        refine run_ok (pc' := 221) [(.iload_n 3, 0, 0, 0), (.goto 5, 0, 0, 0)] _ _ _ _ (by decide +kernel) ?_
        show G Γ m_MO_dinner (d + 1) (0, 0) Q 221 [.ref r0, .int x1, .int x2, .int x3, .int x4, .int x5, .int x6] [.int x3] μ
        exact g_reti (by decide +kernel) rfl h
  · replace h := h.1 hc
    show G Γ m_MO_dinner (d + 1) (0, 0) Q 61 [.ref r0, .int x1, .int x2, .int x3, .int x4, .int x5, .int x6] [] μ
    refine run_ok (pc' := 70) [(.iconst 0, 0, 0, 0), (.istore 7, 0, 0, 0), (.iconst 0, 0, 0, 0), (.istore 8, 0, 0, 0), (.iconst 0, 0, 0, 0), (.istore 9, 0, 0, 0)] _ _ _ _ (by decide +kernel) ?_
    show G Γ m_MO_dinner (d + 1) (0, 0) Q 70 [.ref r0, .int x1, .int x2, .int x3, .int x4, .int x5, .int x6, .int (w 0), .int (w 0), .int (w 0)] [] μ
    exact h
set_option maxRecDepth 100000 in
theorem B_MO_dinner_70 {Γ : XG} {d : Nat} {Q : Option Value → XM → Prop} {r0 r0_30 : Nat} {x1 x2 x3 x4 x5 x6 x7 x8 x9 : Int32} {μ : XM} (o_r0_11 : ob μ r0 11) (e_r0_30 : xR μ r0 30 = some r0_30) (h : inb μ 0 r0_30 (w 40) ∧ ((x9 < xI μ r0_30 (w 40).toNatClampNeg → Call Γ m_MO_has d [.int x6, .int x9] μ (KI (fun v4 μ4 => ((v4 = w 0 → G Γ m_MO_dinner (d + 1) (0, 0) Q 70 [.ref r0, .int x1, .int x2, .int x3, .int x4, .int x5, .int x6, .int x7, .int x8, .int (x9 + w 1)] [] μ4) ∧ (¬ v4 = w 0 → xR μ4 r0 30 = some r0_30 ∧ inb μ4 0 r0_30 (((w 5) * x9) + (w 1)) ∧ Call Γ m_MO_valueOf d [.ref r0, .ref r0_30, .int x9] μ4 (KI (fun v7 μ7 => G Γ m_MO_dinner (d + 1) (0, 0) Q 70 [.ref r0, .int x1, .int x2, .int x3, .int x4, .int x5, .int x6, .int (x7 + (xI μ4 r0_30 (((w 5) * x9) + (w 1)).toNatClampNeg)), .int (x8 + v7), .int (x9 + w 1)] [] μ7))))))) ∧ (¬ x9 < xI μ r0_30 (w 40).toNatClampNeg → ((x7 < x1 → G Γ m_MO_dinner (d + 1) (0, 0) Q 47 [.ref r0, .int x1, .int x2, .int x3, .int x4, .int x5, .int (x6 + w 1)] [] μ) ∧ (¬ x7 < x1 → Call Γ m_MO_isDinner d [.ref r0, .int x6] μ (KI (fun v2 μ2 => ((v2 = w 0 → G Γ m_MO_dinner (d + 1) (0, 0) Q 47 [.ref r0, .int x1, .int x2, .int x3, .int x4, .int x5, .int (x6 + w 1)] [] μ2) ∧ (¬ v2 = w 0 → ¬ x7 = 0 ∧ ((x3 = w (-1) → G Γ m_MO_dinner (d + 1) (0, 0) Q 47 [.ref r0, .int x1, .int x2, .int x6, .int (((w 100) * x8) / x7), .int x7, .int (x6 + w 1)] [] μ2) ∧ (¬ x3 = w (-1) → ((((w 100) * x8) / x7 < x4 → G Γ m_MO_dinner (d + 1) (0, 0) Q 47 [.ref r0, .int x1, .int x2, .int x3, .int x4, .int x5, .int (x6 + w 1)] [] μ2) ∧ (¬ ((w 100) * x8) / x7 < x4 → ((((w 100) * x8) / x7 = x4 → ((x7 < x5 → G Γ m_MO_dinner (d + 1) (0, 0) Q 47 [.ref r0, .int x1, .int x2, .int x6, .int (((w 100) * x8) / x7), .int x7, .int (x6 + w 1)] [] μ2) ∧ (¬ x7 < x5 → G Γ m_MO_dinner (d + 1) (0, 0) Q 47 [.ref r0, .int x1, .int x2, .int x3, .int x4, .int x5, .int (x6 + w 1)] [] μ2))) ∧ (¬ ((w 100) * x8) / x7 = x4 → G Γ m_MO_dinner (d + 1) (0, 0) Q 47 [.ref r0, .int x1, .int x2, .int x6, .int (((w 100) * x8) / x7), .int x7, .int (x6 + w 1)] [] μ2))))))))))))))) : G Γ m_MO_dinner (d + 1) (0, 0) Q 70 [.ref r0, .int x1, .int x2, .int x3, .int x4, .int x5, .int x6, .int x7, .int x8, .int x9] [] μ := by
  obtain ⟨ib1, h⟩ := h
  refine run_ok (pc' := 79) [(.iload 9, 0, 0, 0), (.aload_n 0, 0, 0, 0), (.getfield 58, 11, 30, 2), (.bipush 40, 0, 0, 0), (.iaload, 0, 0, 0)] _ _ _ _ (by decide +kernel) ?_
  show _ ∧ (∃ _, _ ∧ (_ ∧ (_)))
  refine ⟨o_r0_11, r0_30, e_r0_30, ib1, ?_⟩
  show G Γ m_MO_dinner (d + 1) (0, 0) Q 79 [.ref r0, .int x1, .int x2, .int x3, .int x4, .int x5, .int x6, .int x7, .int x8, .int x9] [.int (xI μ r0_30 (w 40).toNatClampNeg), .int x9] μ
  refine g_icmp_ge (pc' := 132) (off := 53) (by decide) (by decide +kernel) (fun hc => ?_) (fun hc => ?_)
  · replace h := h.2 hc
    show G Γ m_MO_dinner (d + 1) (0, 0) Q 132 [.ref r0, .int x1, .int x2, .int x3, .int x4, .int x5, .int x6, .int x7, .int x8, .int x9] [] μ
    refine run_ok (pc' := 135) [(.iload 7, 0, 0, 0), (.iload_n 1, 0, 0, 0)] _ _ _ _ (by decide +kernel) ?_
    show G Γ m_MO_dinner (d + 1) (0, 0) Q 135 [.ref r0, .int x1, .int x2, .int x3, .int x4, .int x5, .int x6, .int x7, .int x8, .int x9] [.int x1, .int x7] μ
    refine g_icmp_lt (pc' := 200) (off := 65) (by decide) (by decide +kernel) (fun hc => ?_) (fun hc => ?_)
    · replace h := h.1 hc
      show G Γ m_MO_dinner (d + 1) (0, 0) Q 200 [.ref r0, .int x1, .int x2, .int x3, .int x4, .int x5, .int x6, .int x7, .int x8, .int x9] [] μ
      refine run_ok (pc' := 47) [(.iinc 6 1, 0, 0, 0), (.goto (-156), 0, 0, 0)] _ _ _ _ (by decide +kernel) ?_
      show G Γ m_MO_dinner (d + 1) (0, 0) Q 47 [.ref r0, .int x1, .int x2, .int x3, .int x4, .int x5, .int (x6 + w 1), .int x7, .int x8, .int x9] [] μ
      exact g_wk (ls' := [.ref r0, .int x1, .int x2, .int x3, .int x4, .int x5, .int (x6 + w 1)]) ⟨Or.inr rfl, Or.inr rfl, Or.inr rfl, Or.inr rfl, Or.inr rfl, Or.inr rfl, Or.inr rfl, trivial⟩ h
    · replace h := h.2 hc
      show G Γ m_MO_dinner (d + 1) (0, 0) Q 138 [.ref r0, .int x1, .int x2, .int x3, .int x4, .int x5, .int x6, .int x7, .int x8, .int x9] [] μ
      refine run_ok (pc' := 141) [(.aload_n 0, 0, 0, 0), (.iload 6, 0, 0, 0)] _ _ _ _ (by decide +kernel) ?_
      show G Γ m_MO_dinner (d + 1) (0, 0) Q 141 [.ref r0, .int x1, .int x2, .int x3, .int x4, .int x5, .int x6, .int x7, .int x8, .int x9] [.int x6, .ref r0] μ
      refine g_invV (M' := m_MO_isDinner) (b1 := 0) (b2 := 0) (As := [.int x6]) (a := r0) (st := []) lk_11_454 (by decide +kernel) rfl (dk_MO_isDinner d) (Nat.le_of_ble_eq_true rfl) (Or.inl ⟨11, o_r0_11, rfl⟩) h ?_
      rintro _ μ2 ⟨v2, rfl, h⟩ hn2
      show G Γ m_MO_dinner (d + 1) (0, 0) Q 144 [.ref r0, .int x1, .int x2, .int x3, .int x4, .int x5, .int x6, .int x7, .int x8, .int x9] [.int v2] μ2
      refine g_ifz_ne (pc' := 150) (off := 6) (by decide) (by decide +kernel) (fun hc => ?_) (fun hc => ?_)
      · replace h := h.2 hc
        show G Γ m_MO_dinner (d + 1) (0, 0) Q 150 [.ref r0, .int x1, .int x2, .int x3, .int x4, .int x5, .int x6, .int x7, .int x8, .int x9] [] μ2
        obtain ⟨nz3, h⟩ := h
        refine run_ok (pc' := 162) [(.bipush 100, 0, 0, 0), (.iload 8, 0, 0, 0), (.imul, 0, 0, 0), (.iload 7, 0, 0, 0), (.idiv, 0, 0, 0), (.istore 9, 0, 0, 0), (.iload_n 3, 0, 0, 0), (.iconst (-1), 0, 0, 0)] _ _ _ _ (by decide +kernel) ?_
        show _ ∧ (_)
        refine ⟨nz3, ?_⟩
        show G Γ m_MO_dinner (d + 1) (0, 0) Q 162 [.ref r0, .int x1, .int x2, .int x3, .int x4, .int x5, .int x6, .int x7, .int x8, .int (((w 100) * x8) / x7)] [.int (w (-1)), .int x3] μ2
        refine g_icmp_eq (pc' := 189) (off := 27) (by decide) (by decide +kernel) (fun hc => ?_) (fun hc => ?_)
        · replace h := h.1 hc
          show G Γ m_MO_dinner (d + 1) (0, 0) Q 189 [.ref r0, .int x1, .int x2, .int x3, .int x4, .int x5, .int x6, .int x7, .int x8, .int (((w 100) * x8) / x7)] [] μ2
          refine run_ok (pc' := 47) [(.iload 6, 0, 0, 0), (.istore_n 3, 0, 0, 0), (.iload 9, 0, 0, 0), (.istore 4, 0, 0, 0), (.iload 7, 0, 0, 0), (.istore 5, 0, 0, 0), (.iinc 6 1, 0, 0, 0), (.goto (-156), 0, 0, 0)] _ _ _ _ (by decide +kernel) ?_
          show G Γ m_MO_dinner (d + 1) (0, 0) Q 47 [.ref r0, .int x1, .int x2, .int x6, .int (((w 100) * x8) / x7), .int x7, .int (x6 + w 1), .int x7, .int x8, .int (((w 100) * x8) / x7)] [] μ2
          exact g_wk (ls' := [.ref r0, .int x1, .int x2, .int x6, .int (((w 100) * x8) / x7), .int x7, .int (x6 + w 1)]) ⟨Or.inr rfl, Or.inr rfl, Or.inr rfl, Or.inr rfl, Or.inr rfl, Or.inr rfl, Or.inr rfl, trivial⟩ h
        · replace h := h.2 hc
          show G Γ m_MO_dinner (d + 1) (0, 0) Q 165 [.ref r0, .int x1, .int x2, .int x3, .int x4, .int x5, .int x6, .int x7, .int x8, .int (((w 100) * x8) / x7)] [] μ2
          refine run_ok (pc' := 169) [(.iload 9, 0, 0, 0), (.iload 4, 0, 0, 0)] _ _ _ _ (by decide +kernel) ?_
          show G Γ m_MO_dinner (d + 1) (0, 0) Q 169 [.ref r0, .int x1, .int x2, .int x3, .int x4, .int x5, .int x6, .int x7, .int x8, .int (((w 100) * x8) / x7)] [.int x4, .int (((w 100) * x8) / x7)] μ2
          refine g_icmp_lt (pc' := 200) (off := 31) (by decide) (by decide +kernel) (fun hc => ?_) (fun hc => ?_)
          · replace h := h.1 hc
            show G Γ m_MO_dinner (d + 1) (0, 0) Q 200 [.ref r0, .int x1, .int x2, .int x3, .int x4, .int x5, .int x6, .int x7, .int x8, .int (((w 100) * x8) / x7)] [] μ2
            refine run_ok (pc' := 47) [(.iinc 6 1, 0, 0, 0), (.goto (-156), 0, 0, 0)] _ _ _ _ (by decide +kernel) ?_
            show G Γ m_MO_dinner (d + 1) (0, 0) Q 47 [.ref r0, .int x1, .int x2, .int x3, .int x4, .int x5, .int (x6 + w 1), .int x7, .int x8, .int (((w 100) * x8) / x7)] [] μ2
            exact g_wk (ls' := [.ref r0, .int x1, .int x2, .int x3, .int x4, .int x5, .int (x6 + w 1)]) ⟨Or.inr rfl, Or.inr rfl, Or.inr rfl, Or.inr rfl, Or.inr rfl, Or.inr rfl, Or.inr rfl, trivial⟩ h
          · replace h := h.2 hc
            show G Γ m_MO_dinner (d + 1) (0, 0) Q 172 [.ref r0, .int x1, .int x2, .int x3, .int x4, .int x5, .int x6, .int x7, .int x8, .int (((w 100) * x8) / x7)] [] μ2
            refine run_ok (pc' := 176) [(.iload 9, 0, 0, 0), (.iload 4, 0, 0, 0)] _ _ _ _ (by decide +kernel) ?_
            show G Γ m_MO_dinner (d + 1) (0, 0) Q 176 [.ref r0, .int x1, .int x2, .int x3, .int x4, .int x5, .int x6, .int x7, .int x8, .int (((w 100) * x8) / x7)] [.int x4, .int (((w 100) * x8) / x7)] μ2
            refine g_icmp_ne (pc' := 189) (off := 13) (by decide) (by decide +kernel) (fun hc => ?_) (fun hc => ?_)
            · replace h := h.2 hc
              show G Γ m_MO_dinner (d + 1) (0, 0) Q 189 [.ref r0, .int x1, .int x2, .int x3, .int x4, .int x5, .int x6, .int x7, .int x8, .int (((w 100) * x8) / x7)] [] μ2
              refine run_ok (pc' := 47) [(.iload 6, 0, 0, 0), (.istore_n 3, 0, 0, 0), (.iload 9, 0, 0, 0), (.istore 4, 0, 0, 0), (.iload 7, 0, 0, 0), (.istore 5, 0, 0, 0), (.iinc 6 1, 0, 0, 0), (.goto (-156), 0, 0, 0)] _ _ _ _ (by decide +kernel) ?_
              show G Γ m_MO_dinner (d + 1) (0, 0) Q 47 [.ref r0, .int x1, .int x2, .int x6, .int (((w 100) * x8) / x7), .int x7, .int (x6 + w 1), .int x7, .int x8, .int (((w 100) * x8) / x7)] [] μ2
              exact g_wk (ls' := [.ref r0, .int x1, .int x2, .int x6, .int (((w 100) * x8) / x7), .int x7, .int (x6 + w 1)]) ⟨Or.inr rfl, Or.inr rfl, Or.inr rfl, Or.inr rfl, Or.inr rfl, Or.inr rfl, Or.inr rfl, trivial⟩ h
            · replace h := h.1 hc
              show G Γ m_MO_dinner (d + 1) (0, 0) Q 179 [.ref r0, .int x1, .int x2, .int x3, .int x4, .int x5, .int x6, .int x7, .int x8, .int (((w 100) * x8) / x7)] [] μ2
              refine run_ok (pc' := 183) [(.iload 7, 0, 0, 0), (.iload 5, 0, 0, 0)] _ _ _ _ (by decide +kernel) ?_
              show G Γ m_MO_dinner (d + 1) (0, 0) Q 183 [.ref r0, .int x1, .int x2, .int x3, .int x4, .int x5, .int x6, .int x7, .int x8, .int (((w 100) * x8) / x7)] [.int x5, .int x7] μ2
              refine g_icmp_lt (pc' := 189) (off := 6) (by decide) (by decide +kernel) (fun hc => ?_) (fun hc => ?_)
              · replace h := h.1 hc
                show G Γ m_MO_dinner (d + 1) (0, 0) Q 189 [.ref r0, .int x1, .int x2, .int x3, .int x4, .int x5, .int x6, .int x7, .int x8, .int (((w 100) * x8) / x7)] [] μ2
                refine run_ok (pc' := 47) [(.iload 6, 0, 0, 0), (.istore_n 3, 0, 0, 0), (.iload 9, 0, 0, 0), (.istore 4, 0, 0, 0), (.iload 7, 0, 0, 0), (.istore 5, 0, 0, 0), (.iinc 6 1, 0, 0, 0), (.goto (-156), 0, 0, 0)] _ _ _ _ (by decide +kernel) ?_
                show G Γ m_MO_dinner (d + 1) (0, 0) Q 47 [.ref r0, .int x1, .int x2, .int x6, .int (((w 100) * x8) / x7), .int x7, .int (x6 + w 1), .int x7, .int x8, .int (((w 100) * x8) / x7)] [] μ2
                exact g_wk (ls' := [.ref r0, .int x1, .int x2, .int x6, .int (((w 100) * x8) / x7), .int x7, .int (x6 + w 1)]) ⟨Or.inr rfl, Or.inr rfl, Or.inr rfl, Or.inr rfl, Or.inr rfl, Or.inr rfl, Or.inr rfl, trivial⟩ h
              · replace h := h.2 hc
                show G Γ m_MO_dinner (d + 1) (0, 0) Q 186 [.ref r0, .int x1, .int x2, .int x3, .int x4, .int x5, .int x6, .int x7, .int x8, .int (((w 100) * x8) / x7)] [] μ2
                refine run_ok (pc' := 47) [(.goto 14, 0, 0, 0), (.iinc 6 1, 0, 0, 0), (.goto (-156), 0, 0, 0)] _ _ _ _ (by decide +kernel) ?_
                show G Γ m_MO_dinner (d + 1) (0, 0) Q 47 [.ref r0, .int x1, .int x2, .int x3, .int x4, .int x5, .int (x6 + w 1), .int x7, .int x8, .int (((w 100) * x8) / x7)] [] μ2
                exact g_wk (ls' := [.ref r0, .int x1, .int x2, .int x3, .int x4, .int x5, .int (x6 + w 1)]) ⟨Or.inr rfl, Or.inr rfl, Or.inr rfl, Or.inr rfl, Or.inr rfl, Or.inr rfl, Or.inr rfl, trivial⟩ h
      · replace h := h.1 hc
        show G Γ m_MO_dinner (d + 1) (0, 0) Q 147 [.ref r0, .int x1, .int x2, .int x3, .int x4, .int x5, .int x6, .int x7, .int x8, .int x9] [] μ2
        refine run_ok (pc' := 47) [(.goto 53, 0, 0, 0), (.iinc 6 1, 0, 0, 0), (.goto (-156), 0, 0, 0)] _ _ _ _ (by decide +kernel) ?_
        show G Γ m_MO_dinner (d + 1) (0, 0) Q 47 [.ref r0, .int x1, .int x2, .int x3, .int x4, .int x5, .int (x6 + w 1), .int x7, .int x8, .int x9] [] μ2
        exact g_wk (ls' := [.ref r0, .int x1, .int x2, .int x3, .int x4, .int x5, .int (x6 + w 1)]) ⟨Or.inr rfl, Or.inr rfl, Or.inr rfl, Or.inr rfl, Or.inr rfl, Or.inr rfl, Or.inr rfl, trivial⟩ h
  · replace h := h.1 hc
    show G Γ m_MO_dinner (d + 1) (0, 0) Q 82 [.ref r0, .int x1, .int x2, .int x3, .int x4, .int x5, .int x6, .int x7, .int x8, .int x9] [] μ
    refine run_ok (pc' := 86) [(.iload 6, 0, 0, 0), (.iload 9, 0, 0, 0)] _ _ _ _ (by decide +kernel) ?_
    show G Γ m_MO_dinner (d + 1) (0, 0) Q 86 [.ref r0, .int x1, .int x2, .int x3, .int x4, .int x5, .int x6, .int x7, .int x8, .int x9] [.int x9, .int x6] μ
    refine g_invS (M' := m_MO_has) (b1 := 0) (b2 := 0) (As := [.int x6, .int x9]) (st := []) lk_11_242 (by decide +kernel) rfl (dk_MO_has d) (Nat.le_of_ble_eq_true rfl) h ?_
    rintro _ μ4 ⟨v4, rfl, h⟩ hn4
    show G Γ m_MO_dinner (d + 1) (0, 0) Q 89 [.ref r0, .int x1, .int x2, .int x3, .int x4, .int x5, .int x6, .int x7, .int x8, .int x9] [.int v4] μ4
    refine g_ifz_ne (pc' := 95) (off := 6) (by decide) (by decide +kernel) (fun hc => ?_) (fun hc => ?_)
    · replace h := h.2 hc
      show G Γ m_MO_dinner (d + 1) (0, 0) Q 95 [.ref r0, .int x1, .int x2, .int x3, .int x4, .int x5, .int x6, .int x7, .int x8, .int x9] [] μ4
      obtain ⟨ea5, h⟩ := h
      obtain ⟨ib6, h⟩ := h
      refine run_ok (pc' := 120) [(.iload 7, 0, 0, 0), (.aload_n 0, 0, 0, 0), (.getfield 58, 11, 30, 2), (.iconst 5, 0, 0, 0), (.iload 9, 0, 0, 0), (.imul, 0, 0, 0), (.iconst 1, 0, 0, 0), (.iadd, 0, 0, 0), (.iaload, 0, 0, 0), (.iadd, 0, 0, 0), (.istore 7, 0, 0, 0), (.iload 8, 0, 0, 0), (.aload_n 0, 0, 0, 0), (.aload_n 0, 0, 0, 0), (.getfield 58, 11, 30, 2), (.iload 9, 0, 0, 0)] _ _ _ _ (by decide +kernel) ?_
      show _ ∧ (∃ _, _ ∧ (_ ∧ (_ ∧ (∃ _, _ ∧ (_)))))
      refine ⟨((o_r0_11).mono hn4), r0_30, ea5, ib6, ((o_r0_11).mono hn4), r0_30, ea5, ?_⟩
      show G Γ m_MO_dinner (d + 1) (0, 0) Q 120 [.ref r0, .int x1, .int x2, .int x3, .int x4, .int x5, .int x6, .int (x7 + (xI μ4 r0_30 (((w 5) * x9) + (w 1)).toNatClampNeg)), .int x8, .int x9] [.int x9, .ref r0_30, .ref r0, .int x8] μ4
      refine g_invV (M' := m_MO_valueOf) (b1 := 0) (b2 := 0) (As := [.ref r0_30, .int x9]) (a := r0) (st := [.int x8]) lk_11_350 (by decide +kernel) rfl (dk_MO_valueOf d) (Nat.le_of_ble_eq_true rfl) (Or.inl ⟨11, ((o_r0_11).mono hn4), rfl⟩) h ?_
      rintro _ μ7 ⟨v7, rfl, h⟩ hn7
      show G Γ m_MO_dinner (d + 1) (0, 0) Q 123 [.ref r0, .int x1, .int x2, .int x3, .int x4, .int x5, .int x6, .int (x7 + (xI μ4 r0_30 (((w 5) * x9) + (w 1)).toNatClampNeg)), .int x8, .int x9] [.int v7, .int x8] μ7
      refine run_ok (pc' := 70) [(.iadd, 0, 0, 0), (.istore 8, 0, 0, 0), (.iinc 9 1, 0, 0, 0), (.goto (-59), 0, 0, 0)] _ _ _ _ (by decide +kernel) ?_
      show G Γ m_MO_dinner (d + 1) (0, 0) Q 70 [.ref r0, .int x1, .int x2, .int x3, .int x4, .int x5, .int x6, .int (x7 + (xI μ4 r0_30 (((w 5) * x9) + (w 1)).toNatClampNeg)), .int (x8 + v7), .int (x9 + w 1)] [] μ7
      exact h
    · replace h := h.1 hc
      show G Γ m_MO_dinner (d + 1) (0, 0) Q 92 [.ref r0, .int x1, .int x2, .int x3, .int x4, .int x5, .int x6, .int x7, .int x8, .int x9] [] μ4
      refine run_ok (pc' := 70) [(.goto 34, 0, 0, 0), (.iinc 9 1, 0, 0, 0), (.goto (-59), 0, 0, 0)] _ _ _ _ (by decide +kernel) ?_
      show G Γ m_MO_dinner (d + 1) (0, 0) Q 70 [.ref r0, .int x1, .int x2, .int x3, .int x4, .int x5, .int x6, .int x7, .int x8, .int (x9 + w 1)] [] μ4
      exact h
/-! FrostBoxModel belowOf(II)I -/
set_option maxRecDepth 100000 in
theorem lk_11_457 : LkS 11 457 m_In_bitCount 1 := ⟨lc_In_bitCount, lwG_in (List.mem_of_getElem? (i := 1797) rfl) rfl, lwG_in (List.mem_of_getElem? (i := 951) rfl) rfl⟩
set_option maxRecDepth 100000 in
theorem B_MO_belowOf_0 {Γ : XG} {d : Nat} {Q : Option Value → XM → Prop} {r0 : Nat} {x1 x2 : Int32} {μ : XM}  (h : Call Γ m_In_bitCount d [.int (x1 >>> ((x2 + (w 1)) &&& 31))] μ (KI (fun v1 μ1 => Q (some (.int v1)) μ1))) : G Γ m_MO_belowOf (d + 1) (0, 0) Q 0 [.ref r0, .int x1, .int x2] [] μ := by
  refine run_ok (pc' := 5) [(.iload_n 1, 0, 0, 0), (.iload_n 2, 0, 0, 0), (.iconst 1, 0, 0, 0), (.iadd, 0, 0, 0), (.ishr, 0, 0, 0)] _ _ _ _ (by decide +kernel) ?_
  show G Γ m_MO_belowOf (d + 1) (0, 0) Q 5 [.ref r0, .int x1, .int x2] [.int (x1 >>> ((x2 + (w 1)) &&& 31))] μ
  refine g_invS (M' := m_In_bitCount) (b1 := 0) (b2 := 0) (As := [.int (x1 >>> ((x2 + (w 1)) &&& 31))]) (st := []) lk_11_457 (by decide +kernel) rfl (dk_In_bitCount d) (Nat.le_of_ble_eq_true rfl) h ?_
  rintro _ μ1 ⟨v1, rfl, h⟩ hn1
  show G Γ m_MO_belowOf (d + 1) (0, 0) Q 8 [.ref r0, .int x1, .int x2] [.int v1] μ1
  exact g_reti (by decide +kernel) rfl h
/-! FrostBoxModel goEat(IIII)V -/
set_option maxRecDepth 100000 in
theorem lk_11_471 : LkV 11 471 m_MO_goEat 4 := ⟨lc_MO_goEat, lwG_in (List.mem_of_getElem? (i := 1789) rfl) rfl, lwG_in (List.mem_of_getElem? (i := 1791) rfl) rfl, lwG_in (List.mem_of_getElem? (i := 101) rfl) rfl⟩
set_option maxRecDepth 100000 in
theorem lk_11_468 : LkV 11 468 m_MO_belowOf 2 := ⟨lc_MO_belowOf, lwG_in (List.mem_of_getElem? (i := 1793) rfl) rfl, lwG_in (List.mem_of_getElem? (i := 1795) rfl) rfl, lwG_in (List.mem_of_getElem? (i := 102) rfl) rfl⟩
set_option maxRecDepth 100000 in
theorem B_MO_goEat_0 {Γ : XG} {d : Nat} {Q : Option Value → XM → Prop} {r0 : Nat} {x1 x2 x3 x4 : Int32} {μ : XM} (o_r0_11 : ob μ r0 11) (h : ((x1 = w 0 → ((xI μ r0 39 = w (-1) → ∀ μ1, μ1 = sI μ r0 39 x3 → ∀ μ2, μ2 = sI μ1 r0 40 x4 → Q none μ2) ∧ (¬ xI μ r0 39 = w (-1) → ((xI μ r0 39 < x3 → ∀ μ3, μ3 = sI μ r0 39 x3 → ∀ μ4, μ4 = sI μ3 r0 40 x4 → Q none μ4) ∧ (¬ xI μ r0 39 < x3 → Q none μ))))) ∧ (¬ x1 = w 0 → G Γ m_MO_goEat (d + 1) (0, 0) Q 36 [.ref r0, .int x1, .int x2, .int x3, .int x4, .int (w 0)] [] μ))) : G Γ m_MO_goEat (d + 1) (0, 0) Q 0 [.ref r0, .int x1, .int x2, .int x3, .int x4] [] μ := by
  refine run_ok (pc' := 1) [(.iload_n 1, 0, 0, 0)] _ _ _ _ (by decide +kernel) ?_
  show G Γ m_MO_goEat (d + 1) (0, 0) Q 1 [.ref r0, .int x1, .int x2, .int x3, .int x4] [.int x1] μ
  refine g_ifz_ne (pc' := 33) (off := 32) (by decide) (by decide +kernel) (fun hc => ?_) (fun hc => ?_)
  · replace h := h.2 hc
    show G Γ m_MO_goEat (d + 1) (0, 0) Q 33 [.ref r0, .int x1, .int x2, .int x3, .int x4] [] μ
    refine run_ok (pc' := 36) [(.iconst 0, 0, 0, 0), (.istore 5, 0, 0, 0)] _ _ _ _ (by decide +kernel) ?_
    show G Γ m_MO_goEat (d + 1) (0, 0) Q 36 [.ref r0, .int x1, .int x2, .int x3, .int x4, .int (w 0)] [] μ
    exact h
  · replace h := h.1 hc
    show G Γ m_MO_goEat (d + 1) (0, 0) Q 4 [.ref r0, .int x1, .int x2, .int x3, .int x4] [] μ
    refine run_ok (pc' := 9) [(.aload_n 0, 0, 0, 0), (.getfield 462, 11, 39, 0), (.iconst (-1), 0, 0, 0)] _ _ _ _ (by decide +kernel) ?_
    show _ ∧ (_)
    refine ⟨o_r0_11, ?_⟩
    show G Γ m_MO_goEat (d + 1) (0, 0) Q 9 [.ref r0, .int x1, .int x2, .int x3, .int x4] [.int (w (-1)), .int (xI μ r0 39)] μ
    refine g_icmp_eq (pc' := 21) (off := 12) (by decide) (by decide +kernel) (fun hc => ?_) (fun hc => ?_)
    · replace h := h.1 hc
      show G Γ m_MO_goEat (d + 1) (0, 0) Q 21 [.ref r0, .int x1, .int x2, .int x3, .int x4] [] μ
      refine run_ok (pc' := 26) [(.aload_n 0, 0, 0, 0), (.iload_n 3, 0, 0, 0), (.putfield 462, 11, 39, 0)] _ _ _ _ (by decide +kernel) ?_
      show _ ∧ (_)
      refine ⟨o_r0_11, ?_⟩
      show G Γ m_MO_goEat (d + 1) (0, 0) Q 26 [.ref r0, .int x1, .int x2, .int x3, .int x4] [] (sI μ r0 39 x3)
      obtain ⟨μ1, em1⟩ : ∃ m : XM, m = sI μ r0 39 x3 := ⟨_, rfl⟩
      replace h := h μ1 em1
      have hm1 : xN μ ≤ xN μ1 := by rw [em1]; exact Nat.le_refl _
      rw [← em1]
      refine run_ok (pc' := 32) [(.aload_n 0, 0, 0, 0), (.iload 4, 0, 0, 0), (.putfield 465, 11, 40, 0)] _ _ _ _ (by decide +kernel) ?_
      show _ ∧ (_)
      refine ⟨((o_r0_11).mono hm1), ?_⟩
      show G Γ m_MO_goEat (d + 1) (0, 0) Q 32 [.ref r0, .int x1, .int x2, .int x3, .int x4] [] (sI μ1 r0 40 x4)
      obtain ⟨μ2, em2⟩ : ∃ m : XM, m = sI μ1 r0 40 x4 := ⟨_, rfl⟩
      replace h := h μ2 em2
      have hm2 : xN μ1 ≤ xN μ2 := by rw [em2]; exact Nat.le_refl _
      rw [← em2]
      exact g_retv (by decide +kernel) rfl h
    · replace h := h.2 hc
      show G Γ m_MO_goEat (d + 1) (0, 0) Q 12 [.ref r0, .int x1, .int x2, .int x3, .int x4] [] μ
      refine run_ok (pc' := 17) [(.iload_n 3, 0, 0, 0), (.aload_n 0, 0, 0, 0), (.getfield 462, 11, 39, 0)] _ _ _ _ (by decide +kernel) ?_
      show _ ∧ (_)
      refine ⟨o_r0_11, ?_⟩
      show G Γ m_MO_goEat (d + 1) (0, 0) Q 17 [.ref r0, .int x1, .int x2, .int x3, .int x4] [.int (xI μ r0 39), .int x3] μ
      refine g_icmp_gt (pc' := 21) (off := 4) (by decide) (by decide +kernel) (fun hc => ?_) (fun hc => ?_)
      · replace h := h.1 hc
        show G Γ m_MO_goEat (d + 1) (0, 0) Q 21 [.ref r0, .int x1, .int x2, .int x3, .int x4] [] μ
        refine run_ok (pc' := 26) [(.aload_n 0, 0, 0, 0), (.iload_n 3, 0, 0, 0), (.putfield 462, 11, 39, 0)] _ _ _ _ (by decide +kernel) ?_
        show _ ∧ (_)
        refine ⟨o_r0_11, ?_⟩
        show G Γ m_MO_goEat (d + 1) (0, 0) Q 26 [.ref r0, .int x1, .int x2, .int x3, .int x4] [] (sI μ r0 39 x3)
        obtain ⟨μ3, em3⟩ : ∃ m : XM, m = sI μ r0 39 x3 := ⟨_, rfl⟩
        replace h := h μ3 em3
        have hm3 : xN μ ≤ xN μ3 := by rw [em3]; exact Nat.le_refl _
        rw [← em3]
        refine run_ok (pc' := 32) [(.aload_n 0, 0, 0, 0), (.iload 4, 0, 0, 0), (.putfield 465, 11, 40, 0)] _ _ _ _ (by decide +kernel) ?_
        show _ ∧ (_)
        refine ⟨((o_r0_11).mono hm3), ?_⟩
        show G Γ m_MO_goEat (d + 1) (0, 0) Q 32 [.ref r0, .int x1, .int x2, .int x3, .int x4] [] (sI μ3 r0 40 x4)
        obtain ⟨μ4, em4⟩ : ∃ m : XM, m = sI μ3 r0 40 x4 := ⟨_, rfl⟩
        replace h := h μ4 em4
        have hm4 : xN μ3 ≤ xN μ4 := by rw [em4]; exact Nat.le_refl _
        rw [← em4]
        exact g_retv (by decide +kernel) rfl h
      · replace h := h.2 hc
        show G Γ m_MO_goEat (d + 1) (0, 0) Q 20 [.ref r0, .int x1, .int x2, .int x3, .int x4] [] μ
        exact g_retv (by decide +kernel) rfl h
set_option maxRecDepth 100000 in
theorem B_MO_goEat_36 {Γ : XG} {d : Nat} {Q : Option Value → XM → Prop} {r0 r0_30 : Nat} {x1 x2 x3 x4 x5 : Int32} {μ : XM} (o_r0_11 : ob μ r0 11) (e_r0_30 : xR μ r0 30 = some r0_30) (h : inb μ 0 r0_30 (w 40) ∧ ((x5 < xI μ r0_30 (w 40).toNatClampNeg → Call Γ m_MO_has d [.int x1, .int x5] μ (KI (fun v2 μ2 => ((v2 = w 0 → G Γ m_MO_goEat (d + 1) (0, 0) Q 36 [.ref r0, .int x1, .int x2, .int x3, .int x4, .int (x5 + w 1)] [] μ2) ∧ (¬ v2 = w 0 → xR μ2 r0 30 = some r0_30 ∧ Call Γ m_MO_belowOf d [.ref r0, .int x1, .int x5] μ2 (KI (fun v4 μ4 => Call Γ m_MO_valueOn d [.ref r0, .ref r0_30, .int x5, .int v4, .int x2] μ4 (KI (fun v5 μ5 => Call Γ m_MO_goEat d [.ref r0, .int (x1 &&& (((w 1) <<< (x5 &&& 31)) ^^^ (w (-1)))), .int (x2 + (w 1)), .int (x3 + v5), .int (((w 10) * x4) + x5)] μ5 (KV (fun μ6 => G Γ m_MO_goEat (d + 1) (0, 0) Q 36 [.ref r0, .int x1, .int x2, .int x3, .int x4, .int (x5 + w 1)] [] μ6))))))))))) ∧ (¬ x5 < xI μ r0_30 (w 40).toNatClampNeg → Q none μ))) : G Γ m_MO_goEat (d + 1) (0, 0) Q 36 [.ref r0, .int x1, .int x2, .int x3, .int x4, .int x5] [] μ := by
  obtain ⟨ib1, h⟩ := h
  refine run_ok (pc' := 45) [(.iload 5, 0, 0, 0), (.aload_n 0, 0, 0, 0), (.getfield 58, 11, 30, 2), (.bipush 40, 0, 0, 0), (.iaload, 0, 0, 0)] _ _ _ _ (by decide +kernel) ?_
  show _ ∧ (∃ _, _ ∧ (_ ∧ (_)))
  refine ⟨o_r0_11, r0_30, e_r0_30, ib1, ?_⟩
  show G Γ m_MO_goEat (d + 1) (0, 0) Q 45 [.ref r0, .int x1, .int x2, .int x3, .int x4, .int x5] [.int (xI μ r0_30 (w 40).toNatClampNeg), .int x5] μ
  refine g_icmp_ge (pc' := 106) (off := 61) (by decide) (by decide +kernel) (fun hc => ?_) (fun hc => ?_)
  · replace h := h.2 hc
    show G Γ m_MO_goEat (d + 1) (0, 0) Q 106 [.ref r0, .int x1, .int x2, .int x3, .int x4, .int x5] [] μ
    exact g_retv (by decide +kernel) rfl h
  · replace h := h.1 hc
    show G Γ m_MO_goEat (d + 1) (0, 0) Q 48 [.ref r0, .int x1, .int x2, .int x3, .int x4, .int x5] [] μ
    refine run_ok (pc' := 51) [(.iload_n 1, 0, 0, 0), (.iload 5, 0, 0, 0)] _ _ _ _ (by decide +kernel) ?_
    show G Γ m_MO_goEat (d + 1) (0, 0) Q 51 [.ref r0, .int x1, .int x2, .int x3, .int x4, .int x5] [.int x5, .int x1] μ
    refine g_invS (M' := m_MO_has) (b1 := 0) (b2 := 0) (As := [.int x1, .int x5]) (st := []) lk_11_242 (by decide +kernel) rfl (dk_MO_has d) (Nat.le_of_ble_eq_true rfl) h ?_
    rintro _ μ2 ⟨v2, rfl, h⟩ hn2
    show G Γ m_MO_goEat (d + 1) (0, 0) Q 54 [.ref r0, .int x1, .int x2, .int x3, .int x4, .int x5] [.int v2] μ2
    refine g_ifz_eq (pc' := 100) (off := 46) (by decide) (by decide +kernel) (fun hc => ?_) (fun hc => ?_)
    · replace h := h.1 hc
      show G Γ m_MO_goEat (d + 1) (0, 0) Q 100 [.ref r0, .int x1, .int x2, .int x3, .int x4, .int x5] [] μ2
      refine run_ok (pc' := 36) [(.iinc 5 1, 0, 0, 0), (.goto (-67), 0, 0, 0)] _ _ _ _ (by decide +kernel) ?_
      show G Γ m_MO_goEat (d + 1) (0, 0) Q 36 [.ref r0, .int x1, .int x2, .int x3, .int x4, .int (x5 + w 1)] [] μ2
      exact h
    · replace h := h.2 hc
      show G Γ m_MO_goEat (d + 1) (0, 0) Q 57 [.ref r0, .int x1, .int x2, .int x3, .int x4, .int x5] [] μ2
      obtain ⟨ea3, h⟩ := h
      refine run_ok (pc' := 81) [(.aload_n 0, 0, 0, 0), (.iload_n 1, 0, 0, 0), (.iconst 1, 0, 0, 0), (.iload 5, 0, 0, 0), (.ishl, 0, 0, 0), (.iconst (-1), 0, 0, 0), (.ixor, 0, 0, 0), (.iand, 0, 0, 0), (.iload_n 2, 0, 0, 0), (.iconst 1, 0, 0, 0), (.iadd, 0, 0, 0), (.iload_n 3, 0, 0, 0), (.aload_n 0, 0, 0, 0), (.aload_n 0, 0, 0, 0), (.getfield 58, 11, 30, 2), (.iload 5, 0, 0, 0), (.aload_n 0, 0, 0, 0), (.iload_n 1, 0, 0, 0), (.iload 5, 0, 0, 0)] _ _ _ _ (by decide +kernel) ?_
      show _ ∧ (∃ _, _ ∧ (_))
      refine ⟨((o_r0_11).mono hn2), r0_30, ea3, ?_⟩
      show G Γ m_MO_goEat (d + 1) (0, 0) Q 81 [.ref r0, .int x1, .int x2, .int x3, .int x4, .int x5] [.int x5, .int x1, .ref r0, .int x5, .ref r0_30, .ref r0, .int x3, .int (x2 + (w 1)), .int (x1 &&& (((w 1) <<< (x5 &&& 31)) ^^^ (w (-1)))), .ref r0] μ2
      refine g_invV (M' := m_MO_belowOf) (b1 := 0) (b2 := 0) (As := [.int x1, .int x5]) (a := r0) (st := [.int x5, .ref r0_30, .ref r0, .int x3, .int (x2 + (w 1)), .int (x1 &&& (((w 1) <<< (x5 &&& 31)) ^^^ (w (-1)))), .ref r0]) lk_11_468 (by decide +kernel) rfl (dk_MO_belowOf d) (Nat.le_of_ble_eq_true rfl) (Or.inl ⟨11, ((o_r0_11).mono hn2), rfl⟩) h ?_
      rintro _ μ4 ⟨v4, rfl, h⟩ hn4
      show G Γ m_MO_goEat (d + 1) (0, 0) Q 84 [.ref r0, .int x1, .int x2, .int x3, .int x4, .int x5] [.int v4, .int x5, .ref r0_30, .ref r0, .int x3, .int (x2 + (w 1)), .int (x1 &&& (((w 1) <<< (x5 &&& 31)) ^^^ (w (-1)))), .ref r0] μ4
      refine run_ok (pc' := 85) [(.iload_n 2, 0, 0, 0)] _ _ _ _ (by decide +kernel) ?_
      show G Γ m_MO_goEat (d + 1) (0, 0) Q 85 [.ref r0, .int x1, .int x2, .int x3, .int x4, .int x5] [.int x2, .int v4, .int x5, .ref r0_30, .ref r0, .int x3, .int (x2 + (w 1)), .int (x1 &&& (((w 1) <<< (x5 &&& 31)) ^^^ (w (-1)))), .ref r0] μ4
      refine g_invV (M' := m_MO_valueOn) (b1 := 0) (b2 := 0) (As := [.ref r0_30, .int x5, .int v4, .int x2]) (a := r0) (st := [.int x3, .int (x2 + (w 1)), .int (x1 &&& (((w 1) <<< (x5 &&& 31)) ^^^ (w (-1)))), .ref r0]) lk_11_346 (by decide +kernel) rfl (dk_MO_valueOn d) (Nat.le_of_ble_eq_true rfl) (Or.inl ⟨11, (((o_r0_11).mono hn2).mono hn4), rfl⟩) h ?_
      rintro _ μ5 ⟨v5, rfl, h⟩ hn5
      show G Γ m_MO_goEat (d + 1) (0, 0) Q 88 [.ref r0, .int x1, .int x2, .int x3, .int x4, .int x5] [.int v5, .int x3, .int (x2 + (w 1)), .int (x1 &&& (((w 1) <<< (x5 &&& 31)) ^^^ (w (-1)))), .ref r0] μ5
      refine run_ok (pc' := 97) [(.iadd, 0, 0, 0), (.bipush 10, 0, 0, 0), (.iload 4, 0, 0, 0), (.imul, 0, 0, 0), (.iload 5, 0, 0, 0), (.iadd, 0, 0, 0)] _ _ _ _ (by decide +kernel) ?_
      show G Γ m_MO_goEat (d + 1) (0, 0) Q 97 [.ref r0, .int x1, .int x2, .int x3, .int x4, .int x5] [.int (((w 10) * x4) + x5), .int (x3 + v5), .int (x2 + (w 1)), .int (x1 &&& (((w 1) <<< (x5 &&& 31)) ^^^ (w (-1)))), .ref r0] μ5
      refine g_invV (M' := m_MO_goEat) (b1 := 0) (b2 := 0) (As := [.int (x1 &&& (((w 1) <<< (x5 &&& 31)) ^^^ (w (-1)))), .int (x2 + (w 1)), .int (x3 + v5), .int (((w 10) * x4) + x5)]) (a := r0) (st := []) lk_11_471 (by decide +kernel) rfl (dk_MO_goEat d) (Nat.le_of_ble_eq_true rfl) (Or.inl ⟨11, ((((o_r0_11).mono hn2).mono hn4).mono hn5), rfl⟩) h ?_
      rintro _ μ6 ⟨rfl, h⟩ hn6
      show G Γ m_MO_goEat (d + 1) (0, 0) Q 100 [.ref r0, .int x1, .int x2, .int x3, .int x4, .int x5] [] μ6
      refine run_ok (pc' := 36) [(.iinc 5 1, 0, 0, 0), (.goto (-67), 0, 0, 0)] _ _ _ _ (by decide +kernel) ?_
      show G Γ m_MO_goEat (d + 1) (0, 0) Q 36 [.ref r0, .int x1, .int x2, .int x3, .int x4, .int (x5 + w 1)] [] μ6
      exact h
/-! FrostBoxModel eat(I)I -/
set_option maxRecDepth 100000 in
theorem B_MO_eat_0 {Γ : XG} {d : Nat} {Q : Option Value → XM → Prop} {r0 : Nat} {x1 : Int32} {μ : XM} (o_r0_11 : ob μ r0 11) (h : ∀ μ1, μ1 = sI μ r0 0 (w 0) → ((xI μ1 r0 25 = w 0 → Q (some (.int (w (-1)))) μ1) ∧ (¬ xI μ1 r0 25 = w 0 → Call Γ m_MO_isIn d [.long (x1.toInt64), .long (wl 0), .long (wl 3)] μ1 (KI (fun v2 μ2 => ((v2 = w 0 → Q (some (.int (w (-1)))) μ2) ∧ (¬ v2 = w 0 → ∃ a3, xR μ2 r0 30 = some a3 ∧ inb μ2 0 a3 (w 40) ∧ ((w 1 < x1 → G Γ m_MO_eat (d + 1) (0, 0) Q 44 [.ref r0, .int x1, .int (xI μ2 a3 (w 40).toNatClampNeg), .int (w 0), .int (w 0)] [] μ2) ∧ (¬ w 1 < x1 → ∀ μ5, μ5 = sI μ2 r0 39 (w (-1)) → ∀ μ6, μ6 = sI μ5 r0 40 (w 0) → Call Γ m_MO_goEat d [.ref r0, .int (((w 1) <<< ((xI μ2 a3 (w 40).toNatClampNeg) &&& 31)) - (w 1)), .int (w 0), .int (w 0), .int (w 0)] μ6 (KV (fun μ7 => ((x1 = w 0 → Q (some (.int (xI μ7 r0 40))) μ7) ∧ (¬ x1 = w 0 → Q (some (.int (xI μ7 r0 39))) μ7))))))))))))) : G Γ m_MO_eat (d + 1) (0, 0) Q 0 [.ref r0, .int x1] [] μ := by
  refine run_ok (pc' := 5) [(.aload_n 0, 0, 0, 0), (.iconst 0, 0, 0, 0), (.putfield 109, 11, 0, 0)] _ _ _ _ (by decide +kernel) ?_
  show _ ∧ (_)
  refine ⟨o_r0_11, ?_⟩
  show G Γ m_MO_eat (d + 1) (0, 0) Q 5 [.ref r0, .int x1] [] (sI μ r0 0 (w 0))
  obtain ⟨μ1, em1⟩ : ∃ m : XM, m = sI μ r0 0 (w 0) := ⟨_, rfl⟩
  replace h := h μ1 em1
  have hm1 : xN μ ≤ xN μ1 := by rw [em1]; exact Nat.le_refl _
  rw [← em1]
  refine run_ok (pc' := 9) [(.aload_n 0, 0, 0, 0), (.getfield 307, 11, 25, 0)] _ _ _ _ (by decide +kernel) ?_
  show _ ∧ (_)
  refine ⟨((o_r0_11).mono hm1), ?_⟩
  show G Γ m_MO_eat (d + 1) (0, 0) Q 9 [.ref r0, .int x1] [.int (xI μ1 r0 25)] μ1
  refine g_ifz_eq (pc' := 24) (off := 15) (by decide) (by decide +kernel) (fun hc => ?_) (fun hc => ?_)
  · replace h := h.1 hc
    show G Γ m_MO_eat (d + 1) (0, 0) Q 24 [.ref r0, .int x1] [] μ1
    refine run_ok (pc' := 25) [(.iconst (-1), 0, 0, 0)] _ _ _ _ (by decide +kernel) ?_
    show G Γ m_MO_eat (d + 1) (0, 0) Q 25 [.ref r0, .int x1] [.int (w (-1))] μ1
    exact g_reti (by decide +kernel) rfl h
  · replace h := h.2 hc
    show G Γ m_MO_eat (d + 1) (0, 0) Q 12 [.ref r0, .int x1] [] μ1
    refine run_ok (pc' := 18) [(.iload_n 1, 0, 0, 0), (.i2l, 0, 0, 0), (.lconst 0, 0, 0, 0), (.ldc2_w 354, 0, 0, 3)] _ _ _ _ (by decide +kernel) ?_
    show G Γ m_MO_eat (d + 1) (0, 0) Q 18 [.ref r0, .int x1] [.long (wl 3), .long (wl 0), .long (x1.toInt64)] μ1
    refine g_invS (M' := m_MO_isIn) (b1 := 0) (b2 := 0) (As := [.long (x1.toInt64), .long (wl 0), .long (wl 3)]) (st := []) lk_11_230 (by decide +kernel) rfl (dk_MO_isIn d) (Nat.le_of_ble_eq_true rfl) h ?_
    rintro _ μ2 ⟨v2, rfl, h⟩ hn2
    show G Γ m_MO_eat (d + 1) (0, 0) Q 21 [.ref r0, .int x1] [.int v2] μ2
    refine g_ifz_ne (pc' := 26) (off := 5) (by decide) (by decide +kernel) (fun hc => ?_) (fun hc => ?_)
    · replace h := h.2 hc
      show G Γ m_MO_eat (d + 1) (0, 0) Q 26 [.ref r0, .int x1] [] μ2
      obtain ⟨a3, ea3, h⟩ := h
      obtain ⟨ib4, h⟩ := h
      refine run_ok (pc' := 38) [(.aload_n 0, 0, 0, 0), (.getfield 58, 11, 30, 2), (.bipush 40, 0, 0, 0), (.iaload, 0, 0, 0), (.istore_n 2, 0, 0, 0), (.iconst 0, 0, 0, 0), (.istore_n 3, 0, 0, 0), (.iload_n 1, 0, 0, 0), (.iconst 1, 0, 0, 0)] _ _ _ _ (by decide +kernel) ?_
      show _ ∧ (∃ _, _ ∧ (_ ∧ (_)))
      refine ⟨(((o_r0_11).mono hm1).mono hn2), a3, ea3, ib4, ?_⟩
      show G Γ m_MO_eat (d + 1) (0, 0) Q 38 [.ref r0, .int x1, .int (xI μ2 a3 (w 40).toNatClampNeg), .int (w 0)] [.int (w 1), .int x1] μ2
      refine g_icmp_le (pc' := 106) (off := 68) (by decide) (by decide +kernel) (fun hc => ?_) (fun hc => ?_)
      · replace h := h.2 hc
        show G Γ m_MO_eat (d + 1) (0, 0) Q 106 [.ref r0, .int x1, .int (xI μ2 a3 (w 40).toNatClampNeg), .int (w 0)] [] μ2
        refine run_ok (pc' := 111) [(.aload_n 0, 0, 0, 0), (.iconst (-1), 0, 0, 0), (.putfield 462, 11, 39, 0)] _ _ _ _ (by decide +kernel) ?_
        show _ ∧ (_)
        refine ⟨(((o_r0_11).mono hm1).mono hn2), ?_⟩
        show G Γ m_MO_eat (d + 1) (0, 0) Q 111 [.ref r0, .int x1, .int (xI μ2 a3 (w 40).toNatClampNeg), .int (w 0)] [] (sI μ2 r0 39 (w (-1)))
        obtain ⟨μ5, em5⟩ : ∃ m : XM, m = sI μ2 r0 39 (w (-1)) := ⟨_, rfl⟩
        replace h := h μ5 em5
        have hm5 : xN μ2 ≤ xN μ5 := by rw [em5]; exact Nat.le_refl _
        rw [← em5]
        refine run_ok (pc' := 116) [(.aload_n 0, 0, 0, 0), (.iconst 0, 0, 0, 0), (.putfield 465, 11, 40, 0)] _ _ _ _ (by decide +kernel) ?_
        show _ ∧ (_)
        refine ⟨((((o_r0_11).mono hm1).mono hn2).mono hm5), ?_⟩
        show G Γ m_MO_eat (d + 1) (0, 0) Q 116 [.ref r0, .int x1, .int (xI μ2 a3 (w 40).toNatClampNeg), .int (w 0)] [] (sI μ5 r0 40 (w 0))
        obtain ⟨μ6, em6⟩ : ∃ m : XM, m = sI μ5 r0 40 (w 0) := ⟨_, rfl⟩
        replace h := h μ6 em6
        have hm6 : xN μ5 ≤ xN μ6 := by rw [em6]; exact Nat.le_refl _
        rw [← em6]
        refine run_ok (pc' := 125) [(.aload_n 0, 0, 0, 0), (.iconst 1, 0, 0, 0), (.iload_n 2, 0, 0, 0), (.ishl, 0, 0, 0), (.iconst 1, 0, 0, 0), (.isub, 0, 0, 0), (.iconst 0, 0, 0, 0), (.iconst 0, 0, 0, 0), (.iconst 0, 0, 0, 0)] _ _ _ _ (by decide +kernel) ?_
        show G Γ m_MO_eat (d + 1) (0, 0) Q 125 [.ref r0, .int x1, .int (xI μ2 a3 (w 40).toNatClampNeg), .int (w 0)] [.int (w 0), .int (w 0), .int (w 0), .int (((w 1) <<< ((xI μ2 a3 (w 40).toNatClampNeg) &&& 31)) - (w 1)), .ref r0] μ6
        refine g_invV (M' := m_MO_goEat) (b1 := 0) (b2 := 0) (As := [.int (((w 1) <<< ((xI μ2 a3 (w 40).toNatClampNeg) &&& 31)) - (w 1)), .int (w 0), .int (w 0), .int (w 0)]) (a := r0) (st := []) lk_11_471 (by decide +kernel) rfl (dk_MO_goEat d) (Nat.le_of_ble_eq_true rfl) (Or.inl ⟨11, (((((o_r0_11).mono hm1).mono hn2).mono hm5).mono hm6), rfl⟩) h ?_
        rintro _ μ7 ⟨rfl, h⟩ hn7
        show G Γ m_MO_eat (d + 1) (0, 0) Q 128 [.ref r0, .int x1, .int (xI μ2 a3 (w 40).toNatClampNeg), .int (w 0)] [] μ7
        refine run_ok (pc' := 129) [(.iload_n 1, 0, 0, 0)] _ _ _ _ (by decide +kernel) ?_
        show G Γ m_MO_eat (d + 1) (0, 0) Q 129 [.ref r0, .int x1, .int (xI μ2 a3 (w 40).toNatClampNeg), .int (w 0)] [.int x1] μ7
        refine g_ifz_ne (pc' := 139) (off := 10) (by decide) (by decide +kernel) (fun hc => ?_) (fun hc => ?_)
        · replace h := h.2 hc
          show G Γ m_MO_eat (d + 1) (0, 0) Q 139 [.ref r0, .int x1, .int (xI μ2 a3 (w 40).toNatClampNeg), .int (w 0)] [] μ7
          refine run_ok (pc' := 143) [(.aload_n 0, 0, 0, 0), (.getfield 462, 11, 39, 0)] _ _ _ _ (by decide +kernel) ?_
          show _ ∧ (_)
          refine ⟨((((((o_r0_11).mono hm1).mono hn2).mono hm5).mono hm6).mono hn7), ?_⟩
          show G Γ m_MO_eat (d + 1) (0, 0) Q 143 [.ref r0, .int x1, .int (xI μ2 a3 (w 40).toNatClampNeg), .int (w 0)] [.int (xI μ7 r0 39)] μ7
          exact g_reti (by decide +kernel) rfl h
        · replace h := h.1 hc
          show G Γ m_MO_eat (d + 1) (0, 0) Q 132 [.ref r0, .int x1, .int (xI μ2 a3 (w 40).toNatClampNeg), .int (w 0)] [] μ7
          refine run_ok (pc' := 143) [(.aload_n 0, 0, 0, 0), (.getfield 465, 11, 40, 0), (.goto 7, 0, 0, 0)] _ _ _ _ (by decide +kernel) ?_
          show _ ∧ (_)
          refine ⟨((((((o_r0_11).mono hm1).mono hn2).mono hm5).mono hm6).mono hn7), ?_⟩
          show G Γ m_MO_eat (d + 1) (0, 0) Q 143 [.ref r0, .int x1, .int (xI μ2 a3 (w 40).toNatClampNeg), .int (w 0)] [.int (xI μ7 r0 40)] μ7
          exact g_reti (by decide +kernel) rfl h
      · replace h := h.1 hc
        show G Γ m_MO_eat (d + 1) (0, 0) Q 41 [.ref r0, .int x1, .int (xI μ2 a3 (w 40).toNatClampNeg), .int (w 0)] [] μ2
        refine run_ok (pc' := 44) [(.iconst 0, 0, 0, 0), (.istore 4, 0, 0, 0)] _ _ _ _ (by decide +kernel) ?_
        show G Γ m_MO_eat (d + 1) (0, 0) Q 44 [.ref r0, .int x1, .int (xI μ2 a3 (w 40).toNatClampNeg), .int (w 0), .int (w 0)] [] μ2
        exact h
    · replace h := h.1 hc
      show G Γ m_MO_eat (d + 1) (0, 0) Q 24 [.ref r0, .int x1] [] μ2
      refine run_ok (pc' := 25) [(.iconst (-1), 0, 0, 0)] _ _ _ _ (by decide +kernel) ?_
      show G Γ m_MO_eat (d + 1) (0, 0) Q 25 [.ref r0, .int x1] [.int (w (-1))] μ2
      exact g_reti (by decide +kernel) rfl h
set_option maxRecDepth 100000 in
theorem B_MO_eat_44 {Γ : XG} {d : Nat} {Q : Option Value → XM → Prop} {r0 r0_30 : Nat} {x1 x2 x3 x4 : Int32} {μ : XM} (o_r0_11 : ob μ r0 11) (e_r0_30 : xR μ r0 30 = some r0_30) (h : ((x4 < x2 → ((x1 = w 2 → ((x1 = w 2 → Call Γ m_MO_valueOn d [.ref r0, .ref r0_30, .int ((x2 - (w 1)) - x4), .int (w 0), .int x4] μ (KI (fun v4 μ4 => G Γ m_MO_eat (d + 1) (0, 0) Q 44 [.ref r0, .int x1, .int x2, .int (x3 + v4), .int (x4 + w 1)] [] μ4))) ∧ (¬ x1 = w 2 → Call Γ m_MO_valueOn d [.ref r0, .ref r0_30, .int ((x2 - (w 1)) - x4), .int ((x2 - (w 1)) - x4), .int x4] μ (KI (fun v3 μ3 => G Γ m_MO_eat (d + 1) (0, 0) Q 44 [.ref r0, .int x1, .int x2, .int (x3 + v3), .int (x4 + w 1)] [] μ3))))) ∧ (¬ x1 = w 2 → ((x1 = w 2 → Call Γ m_MO_valueOn d [.ref r0, .ref r0_30, .int x4, .int (w 0), .int x4] μ (KI (fun v2 μ2 => G Γ m_MO_eat (d + 1) (0, 0) Q 44 [.ref r0, .int x1, .int x2, .int (x3 + v2), .int (x4 + w 1)] [] μ2))) ∧ (¬ x1 = w 2 → Call Γ m_MO_valueOn d [.ref r0, .ref r0_30, .int x4, .int ((x2 - (w 1)) - x4), .int x4] μ (KI (fun v1 μ1 => G Γ m_MO_eat (d + 1) (0, 0) Q 44 [.ref r0, .int x1, .int x2, .int (x3 + v1), .int (x4 + w 1)] [] μ1))))))) ∧ (¬ x4 < x2 → Q (some (.int x3)) μ))) : G Γ m_MO_eat (d + 1) (0, 0) Q 44 [.ref r0, .int x1, .int x2, .int x3, .int x4] [] μ := by
  refine run_ok (pc' := 47) [(.iload 4, 0, 0, 0), (.iload_n 2, 0, 0, 0)] _ _ _ _ (by decide +kernel) ?_
  show G Γ m_MO_eat (d + 1) (0, 0) Q 47 [.ref r0, .int x1, .int x2, .int x3, .int x4] [.int x2, .int x4] μ
  refine g_icmp_ge (pc' := 104) (off := 57) (by decide) (by decide +kernel) (fun hc => ?_) (fun hc => ?_)
  · replace h := h.2 hc
    show G Γ m_MO_eat (d + 1) (0, 0) Q 104 [.ref r0, .int x1, .int x2, .int x3, .int x4] [] μ
    refine run_ok (pc' := 105) [(.iload_n 3, 0, 0, 0)] _ _ _ _ (by decide +kernel) ?_
    show G Γ m_MO_eat (d + 1) (0, 0) Q 105 [.ref r0, .int x1, .int x2, .int x3, .int x4] [.int x3] μ
    exact g_reti (by decide +kernel) rfl h
  · replace h := h.1 hc
    show G Γ m_MO_eat (d + 1) (0, 0) Q 50 [.ref r0, .int x1, .int x2, .int x3, .int x4] [] μ
    refine run_ok (pc' := 52) [(.iload_n 1, 0, 0, 0), (.iconst 2, 0, 0, 0)] _ _ _ _ (by decide +kernel) ?_
    show G Γ m_MO_eat (d + 1) (0, 0) Q 52 [.ref r0, .int x1, .int x2, .int x3, .int x4] [.int (w 2), .int x1] μ
    refine g_icmp_ne (pc' := 64) (off := 12) (by decide) (by decide +kernel) (fun hc => ?_) (fun hc => ?_)
    · replace h := h.2 hc
      show G Γ m_MO_eat (d + 1) (0, 0) Q 64 [.ref r0, .int x1, .int x2, .int x3, .int x4] [] μ
      refine run_ok (pc' := 78) [(.iload 4, 0, 0, 0), (.istore 5, 0, 0, 0), (.iload_n 3, 0, 0, 0), (.aload_n 0, 0, 0, 0), (.aload_n 0, 0, 0, 0), (.getfield 58, 11, 30, 2), (.iload 5, 0, 0, 0), (.iload_n 1, 0, 0, 0), (.iconst 2, 0, 0, 0)] _ _ _ _ (by decide +kernel) ?_
      show _ ∧ (∃ _, _ ∧ (_))
      refine ⟨o_r0_11, r0_30, e_r0_30, ?_⟩
      show G Γ m_MO_eat (d + 1) (0, 0) Q 78 [.ref r0, .int x1, .int x2, .int x3, .int x4, .int x4] [.int (w 2), .int x1, .int x4, .ref r0_30, .ref r0, .int x3] μ
      refine g_icmp_ne (pc' := 85) (off := 7) (by decide) (by decide +kernel) (fun hc => ?_) (fun hc => ?_)
      · replace h := h.2 hc
        show G Γ m_MO_eat (d + 1) (0, 0) Q 85 [.ref r0, .int x1, .int x2, .int x3, .int x4, .int x4] [.int x4, .ref r0_30, .ref r0, .int x3] μ
        refine run_ok (pc' := 93) [(.iload_n 2, 0, 0, 0), (.iconst 1, 0, 0, 0), (.isub, 0, 0, 0), (.iload 4, 0, 0, 0), (.isub, 0, 0, 0), (.iload 4, 0, 0, 0)] _ _ _ _ (by decide +kernel) ?_
        show G Γ m_MO_eat (d + 1) (0, 0) Q 93 [.ref r0, .int x1, .int x2, .int x3, .int x4, .int x4] [.int x4, .int ((x2 - (w 1)) - x4), .int x4, .ref r0_30, .ref r0, .int x3] μ
        refine g_invV (M' := m_MO_valueOn) (b1 := 0) (b2 := 0) (As := [.ref r0_30, .int x4, .int ((x2 - (w 1)) - x4), .int x4]) (a := r0) (st := [.int x3]) lk_11_346 (by decide +kernel) rfl (dk_MO_valueOn d) (Nat.le_of_ble_eq_true rfl) (Or.inl ⟨11, o_r0_11, rfl⟩) h ?_
        rintro _ μ1 ⟨v1, rfl, h⟩ hn1
        show G Γ m_MO_eat (d + 1) (0, 0) Q 96 [.ref r0, .int x1, .int x2, .int x3, .int x4, .int x4] [.int v1, .int x3] μ1
        refine run_ok (pc' := 44) [(.iadd, 0, 0, 0), (.istore_n 3, 0, 0, 0), (.iinc 4 1, 0, 0, 0), (.goto (-57), 0, 0, 0)] _ _ _ _ (by decide +kernel) ?_
        show G Γ m_MO_eat (d + 1) (0, 0) Q 44 [.ref r0, .int x1, .int x2, .int (x3 + v1), .int (x4 + w 1), .int x4] [] μ1
        exact g_wk (ls' := [.ref r0, .int x1, .int x2, .int (x3 + v1), .int (x4 + w 1)]) ⟨Or.inr rfl, Or.inr rfl, Or.inr rfl, Or.inr rfl, Or.inr rfl, trivial⟩ h
      · replace h := h.1 hc
        show G Γ m_MO_eat (d + 1) (0, 0) Q 81 [.ref r0, .int x1, .int x2, .int x3, .int x4, .int x4] [.int x4, .ref r0_30, .ref r0, .int x3] μ
        refine run_ok (pc' := 93) [(.iconst 0, 0, 0, 0), (.goto 9, 0, 0, 0), (.iload 4, 0, 0, 0)] _ _ _ _ (by decide +kernel) ?_
        show G Γ m_MO_eat (d + 1) (0, 0) Q 93 [.ref r0, .int x1, .int x2, .int x3, .int x4, .int x4] [.int x4, .int (w 0), .int x4, .ref r0_30, .ref r0, .int x3] μ
        refine g_invV (M' := m_MO_valueOn) (b1 := 0) (b2 := 0) (As := [.ref r0_30, .int x4, .int (w 0), .int x4]) (a := r0) (st := [.int x3]) lk_11_346 (by decide +kernel) rfl (dk_MO_valueOn d) (Nat.le_of_ble_eq_true rfl) (Or.inl ⟨11, o_r0_11, rfl⟩) h ?_
        rintro _ μ2 ⟨v2, rfl, h⟩ hn2
        show G Γ m_MO_eat (d + 1) (0, 0) Q 96 [.ref r0, .int x1, .int x2, .int x3, .int x4, .int x4] [.int v2, .int x3] μ2
        refine run_ok (pc' := 44) [(.iadd, 0, 0, 0), (.istore_n 3, 0, 0, 0), (.iinc 4 1, 0, 0, 0), (.goto (-57), 0, 0, 0)] _ _ _ _ (by decide +kernel) ?_
        show G Γ m_MO_eat (d + 1) (0, 0) Q 44 [.ref r0, .int x1, .int x2, .int (x3 + v2), .int (x4 + w 1), .int x4] [] μ2
        exact g_wk (ls' := [.ref r0, .int x1, .int x2, .int (x3 + v2), .int (x4 + w 1)]) ⟨Or.inr rfl, Or.inr rfl, Or.inr rfl, Or.inr rfl, Or.inr rfl, trivial⟩ h
    · replace h := h.1 hc
      show G Γ m_MO_eat (d + 1) (0, 0) Q 55 [.ref r0, .int x1, .int x2, .int x3, .int x4] [] μ
      refine run_ok (pc' := 78) [(.iload_n 2, 0, 0, 0), (.iconst 1, 0, 0, 0), (.isub, 0, 0, 0), (.iload 4, 0, 0, 0), (.isub, 0, 0, 0), (.goto 5, 0, 0, 0), (.istore 5, 0, 0, 0), (.iload_n 3, 0, 0, 0), (.aload_n 0, 0, 0, 0), (.aload_n 0, 0, 0, 0), (.getfield 58, 11, 30, 2), (.iload 5, 0, 0, 0), (.iload_n 1, 0, 0, 0), (.iconst 2, 0, 0, 0)] _ _ _ _ (by decide +kernel) ?_
      show _ ∧ (∃ _, _ ∧ (_))
      refine ⟨o_r0_11, r0_30, e_r0_30, ?_⟩
      show G Γ m_MO_eat (d + 1) (0, 0) Q 78 [.ref r0, .int x1, .int x2, .int x3, .int x4, .int ((x2 - (w 1)) - x4)] [.int (w 2), .int x1, .int ((x2 - (w 1)) - x4), .ref r0_30, .ref r0, .int x3] μ
      refine g_icmp_ne (pc' := 85) (off := 7) (by decide) (by decide +kernel) (fun hc => ?_) (fun hc => ?_)
      · replace h := h.2 hc
        show G Γ m_MO_eat (d + 1) (0, 0) Q 85 [.ref r0, .int x1, .int x2, .int x3, .int x4, .int ((x2 - (w 1)) - x4)] [.int ((x2 - (w 1)) - x4), .ref r0_30, .ref r0, .int x3] μ
        refine run_ok (pc' := 93) [(.iload_n 2, 0, 0, 0), (.iconst 1, 0, 0, 0), (.isub, 0, 0, 0), (.iload 4, 0, 0, 0), (.isub, 0, 0, 0), (.iload 4, 0, 0, 0)] _ _ _ _ (by decide +kernel) ?_
        show G Γ m_MO_eat (d + 1) (0, 0) Q 93 [.ref r0, .int x1, .int x2, .int x3, .int x4, .int ((x2 - (w 1)) - x4)] [.int x4, .int ((x2 - (w 1)) - x4), .int ((x2 - (w 1)) - x4), .ref r0_30, .ref r0, .int x3] μ
        refine g_invV (M' := m_MO_valueOn) (b1 := 0) (b2 := 0) (As := [.ref r0_30, .int ((x2 - (w 1)) - x4), .int ((x2 - (w 1)) - x4), .int x4]) (a := r0) (st := [.int x3]) lk_11_346 (by decide +kernel) rfl (dk_MO_valueOn d) (Nat.le_of_ble_eq_true rfl) (Or.inl ⟨11, o_r0_11, rfl⟩) h ?_
        rintro _ μ3 ⟨v3, rfl, h⟩ hn3
        show G Γ m_MO_eat (d + 1) (0, 0) Q 96 [.ref r0, .int x1, .int x2, .int x3, .int x4, .int ((x2 - (w 1)) - x4)] [.int v3, .int x3] μ3
        refine run_ok (pc' := 44) [(.iadd, 0, 0, 0), (.istore_n 3, 0, 0, 0), (.iinc 4 1, 0, 0, 0), (.goto (-57), 0, 0, 0)] _ _ _ _ (by decide +kernel) ?_
        show G Γ m_MO_eat (d + 1) (0, 0) Q 44 [.ref r0, .int x1, .int x2, .int (x3 + v3), .int (x4 + w 1), .int ((x2 - (w 1)) - x4)] [] μ3
        exact g_wk (ls' := [.ref r0, .int x1, .int x2, .int (x3 + v3), .int (x4 + w 1)]) ⟨Or.inr rfl, Or.inr rfl, Or.inr rfl, Or.inr rfl, Or.inr rfl, trivial⟩ h
      · replace h := h.1 hc
        show G Γ m_MO_eat (d + 1) (0, 0) Q 81 [.ref r0, .int x1, .int x2, .int x3, .int x4, .int ((x2 - (w 1)) - x4)] [.int ((x2 - (w 1)) - x4), .ref r0_30, .ref r0, .int x3] μ
        refine run_ok (pc' := 93) [(.iconst 0, 0, 0, 0), (.goto 9, 0, 0, 0), (.iload 4, 0, 0, 0)] _ _ _ _ (by decide +kernel) ?_
        show G Γ m_MO_eat (d + 1) (0, 0) Q 93 [.ref r0, .int x1, .int x2, .int x3, .int x4, .int ((x2 - (w 1)) - x4)] [.int x4, .int (w 0), .int ((x2 - (w 1)) - x4), .ref r0_30, .ref r0, .int x3] μ
        refine g_invV (M' := m_MO_valueOn) (b1 := 0) (b2 := 0) (As := [.ref r0_30, .int ((x2 - (w 1)) - x4), .int (w 0), .int x4]) (a := r0) (st := [.int x3]) lk_11_346 (by decide +kernel) rfl (dk_MO_valueOn d) (Nat.le_of_ble_eq_true rfl) (Or.inl ⟨11, o_r0_11, rfl⟩) h ?_
        rintro _ μ4 ⟨v4, rfl, h⟩ hn4
        show G Γ m_MO_eat (d + 1) (0, 0) Q 96 [.ref r0, .int x1, .int x2, .int x3, .int x4, .int ((x2 - (w 1)) - x4)] [.int v4, .int x3] μ4
        refine run_ok (pc' := 44) [(.iadd, 0, 0, 0), (.istore_n 3, 0, 0, 0), (.iinc 4 1, 0, 0, 0), (.goto (-57), 0, 0, 0)] _ _ _ _ (by decide +kernel) ?_
        show G Γ m_MO_eat (d + 1) (0, 0) Q 44 [.ref r0, .int x1, .int x2, .int (x3 + v4), .int (x4 + w 1), .int ((x2 - (w 1)) - x4)] [] μ4
        exact g_wk (ls' := [.ref r0, .int x1, .int x2, .int (x3 + v4), .int (x4 + w 1)]) ⟨Or.inr rfl, Or.inr rfl, Or.inr rfl, Or.inr rfl, Or.inr rfl, trivial⟩ h
/-! FrostBoxModel costs(I)I -/
set_option maxRecDepth 100000 in
theorem lk_11_475 : LkV 11 475 m_MO_valueIn 1 := ⟨lc_MO_valueIn, lwG_in (List.mem_of_getElem? (i := 1802) rfl) rfl, lwG_in (List.mem_of_getElem? (i := 1804) rfl) rfl, lwG_in (List.mem_of_getElem? (i := 103) rfl) rfl⟩
set_option maxRecDepth 100000 in
theorem B_MO_costs_0 {Γ : XG} {d : Nat} {Q : Option Value → XM → Prop} {r0 : Nat} {x1 : Int32} {μ : XM} (o_r0_11 : ob μ r0 11) (h : ∀ μ1, μ1 = sI μ r0 0 (w 0) → Call Γ m_MO_isHours d [.ref r0, .int x1] μ1 (KI (fun v2 μ2 => ((v2 = w 0 → Q (some (.int (w (-1)))) μ2) ∧ (¬ v2 = w 0 → ∃ a3, xR μ2 r0 30 = some a3 ∧ ∃ a4, xR μ2 r0 31 = some a4 ∧ Call Γ m_MO_copy d [.ref a3, .ref a4] μ2 (KV (fun μ5 => xR μ5 r0 31 = some a4 ∧ xR μ5 r0 30 = some a3 ∧ Call Γ m_MO_sumIn d [.ref r0, .ref a3] μ5 (KI (fun v8 μ8 => Call Γ m_MO_moreThanBorne d [.ref r0, .int v8, .int x1] μ8 (KI (fun v9 μ9 => Call Γ m_MO_ages d [.ref r0, .ref a4, .int v9] μ9 (KV (fun μ10 => xR μ10 r0 30 = some a3 ∧ Call Γ m_MO_valueIn d [.ref r0, .ref a3] μ10 (KI (fun v12 μ12 => xR μ12 r0 31 = some a4 ∧ Call Γ m_MO_valueIn d [.ref r0, .ref a4] μ12 (KI (fun v14 μ14 => Q (some (.int (v12 - v14))) μ14))))))))))))))))) : G Γ m_MO_costs (d + 1) (0, 0) Q 0 [.ref r0, .int x1] [] μ := by
  refine run_ok (pc' := 5) [(.aload_n 0, 0, 0, 0), (.iconst 0, 0, 0, 0), (.putfield 109, 11, 0, 0)] _ _ _ _ (by decide +kernel) ?_
  show _ ∧ (_)
  refine ⟨o_r0_11, ?_⟩
  show G Γ m_MO_costs (d + 1) (0, 0) Q 5 [.ref r0, .int x1] [] (sI μ r0 0 (w 0))
  obtain ⟨μ1, em1⟩ : ∃ m : XM, m = sI μ r0 0 (w 0) := ⟨_, rfl⟩
  replace h := h μ1 em1
  have hm1 : xN μ ≤ xN μ1 := by rw [em1]; exact Nat.le_refl _
  rw [← em1]
  refine run_ok (pc' := 7) [(.aload_n 0, 0, 0, 0), (.iload_n 1, 0, 0, 0)] _ _ _ _ (by decide +kernel) ?_
  show G Γ m_MO_costs (d + 1) (0, 0) Q 7 [.ref r0, .int x1] [.int x1, .ref r0] μ1
  refine g_invV (M' := m_MO_isHours) (b1 := 0) (b2 := 0) (As := [.int x1]) (a := r0) (st := []) lk_11_412 (by decide +kernel) rfl (dk_MO_isHours d) (Nat.le_of_ble_eq_true rfl) (Or.inl ⟨11, ((o_r0_11).mono hm1), rfl⟩) h ?_
  rintro _ μ2 ⟨v2, rfl, h⟩ hn2
  show G Γ m_MO_costs (d + 1) (0, 0) Q 10 [.ref r0, .int x1] [.int v2] μ2
  refine g_ifz_ne (pc' := 15) (off := 5) (by decide) (by decide +kernel) (fun hc => ?_) (fun hc => ?_)
  · replace h := h.2 hc
    show G Γ m_MO_costs (d + 1) (0, 0) Q 15 [.ref r0, .int x1] [] μ2
    obtain ⟨a3, ea3, h⟩ := h
    obtain ⟨a4, ea4, h⟩ := h
    refine run_ok (pc' := 23) [(.aload_n 0, 0, 0, 0), (.getfield 58, 11, 30, 2), (.aload_n 0, 0, 0, 0), (.getfield 61, 11, 31, 2)] _ _ _ _ (by decide +kernel) ?_
    show _ ∧ (∃ _, _ ∧ (_ ∧ (∃ _, _ ∧ (_))))
    refine ⟨(((o_r0_11).mono hm1).mono hn2), a3, ea3, (((o_r0_11).mono hm1).mono hn2), a4, ea4, ?_⟩
    show G Γ m_MO_costs (d + 1) (0, 0) Q 23 [.ref r0, .int x1] [.ref a4, .ref a3] μ2
    refine g_invS (M' := m_MO_copy) (b1 := 0) (b2 := 0) (As := [.ref a3, .ref a4]) (st := []) lk_11_433 (by decide +kernel) rfl (dk_MO_copy d) (Nat.le_of_ble_eq_true rfl) h ?_
    rintro _ μ5 ⟨rfl, h⟩ hn5
    show G Γ m_MO_costs (d + 1) (0, 0) Q 26 [.ref r0, .int x1] [] μ5
    obtain ⟨ea6, h⟩ := h
    obtain ⟨ea7, h⟩ := h
    refine run_ok (pc' := 37) [(.aload_n 0, 0, 0, 0), (.aload_n 0, 0, 0, 0), (.getfield 61, 11, 31, 2), (.aload_n 0, 0, 0, 0), (.aload_n 0, 0, 0, 0), (.aload_n 0, 0, 0, 0), (.getfield 58, 11, 30, 2)] _ _ _ _ (by decide +kernel) ?_
    show _ ∧ (∃ _, _ ∧ (_ ∧ (∃ _, _ ∧ (_))))
    refine ⟨((((o_r0_11).mono hm1).mono hn2).mono hn5), a4, ea6, ((((o_r0_11).mono hm1).mono hn2).mono hn5), a3, ea7, ?_⟩
    show G Γ m_MO_costs (d + 1) (0, 0) Q 37 [.ref r0, .int x1] [.ref a3, .ref r0, .ref r0, .ref a4, .ref r0] μ5
    refine g_invV (M' := m_MO_sumIn) (b1 := 0) (b2 := 0) (As := [.ref a3]) (a := r0) (st := [.ref r0, .ref a4, .ref r0]) lk_11_372 (by decide +kernel) rfl (dk_MO_sumIn d) (Nat.le_of_ble_eq_true rfl) (Or.inl ⟨11, ((((o_r0_11).mono hm1).mono hn2).mono hn5), rfl⟩) h ?_
    rintro _ μ8 ⟨v8, rfl, h⟩ hn8
    show G Γ m_MO_costs (d + 1) (0, 0) Q 40 [.ref r0, .int x1] [.int v8, .ref r0, .ref a4, .ref r0] μ8
    refine run_ok (pc' := 41) [(.iload_n 1, 0, 0, 0)] _ _ _ _ (by decide +kernel) ?_
    show G Γ m_MO_costs (d + 1) (0, 0) Q 41 [.ref r0, .int x1] [.int x1, .int v8, .ref r0, .ref a4, .ref r0] μ8
    refine g_invV (M' := m_MO_moreThanBorne) (b1 := 0) (b2 := 0) (As := [.int v8, .int x1]) (a := r0) (st := [.ref a4, .ref r0]) lk_11_415 (by decide +kernel) rfl (dk_MO_moreThanBorne d) (Nat.le_of_ble_eq_true rfl) (Or.inl ⟨11, (((((o_r0_11).mono hm1).mono hn2).mono hn5).mono hn8), rfl⟩) h ?_
    rintro _ μ9 ⟨v9, rfl, h⟩ hn9
    show G Γ m_MO_costs (d + 1) (0, 0) Q 44 [.ref r0, .int x1] [.int v9, .ref a4, .ref r0] μ9
    refine g_invV (M' := m_MO_ages) (b1 := 0) (b2 := 0) (As := [.ref a4, .int v9]) (a := r0) (st := []) lk_11_400 (by decide +kernel) rfl (dk_MO_ages d) (Nat.le_of_ble_eq_true rfl) (Or.inl ⟨11, ((((((o_r0_11).mono hm1).mono hn2).mono hn5).mono hn8).mono hn9), rfl⟩) h ?_
    rintro _ μ10 ⟨rfl, h⟩ hn10
    show G Γ m_MO_costs (d + 1) (0, 0) Q 47 [.ref r0, .int x1] [] μ10
    obtain ⟨ea11, h⟩ := h
    refine run_ok (pc' := 52) [(.aload_n 0, 0, 0, 0), (.aload_n 0, 0, 0, 0), (.getfield 58, 11, 30, 2)] _ _ _ _ (by decide +kernel) ?_
    show _ ∧ (∃ _, _ ∧ (_))
    refine ⟨(((((((o_r0_11).mono hm1).mono hn2).mono hn5).mono hn8).mono hn9).mono hn10), a3, ea11, ?_⟩
    show G Γ m_MO_costs (d + 1) (0, 0) Q 52 [.ref r0, .int x1] [.ref a3, .ref r0] μ10
    refine g_invV (M' := m_MO_valueIn) (b1 := 0) (b2 := 0) (As := [.ref a3]) (a := r0) (st := []) lk_11_475 (by decide +kernel) rfl (dk_MO_valueIn d) (Nat.le_of_ble_eq_true rfl) (Or.inl ⟨11, (((((((o_r0_11).mono hm1).mono hn2).mono hn5).mono hn8).mono hn9).mono hn10), rfl⟩) h ?_
    rintro _ μ12 ⟨v12, rfl, h⟩ hn12
    show G Γ m_MO_costs (d + 1) (0, 0) Q 55 [.ref r0, .int x1] [.int v12] μ12
    obtain ⟨ea13, h⟩ := h
    refine run_ok (pc' := 60) [(.aload_n 0, 0, 0, 0), (.aload_n 0, 0, 0, 0), (.getfield 61, 11, 31, 2)] _ _ _ _ (by decide +kernel) ?_
    show _ ∧ (∃ _, _ ∧ (_))
    refine ⟨((((((((o_r0_11).mono hm1).mono hn2).mono hn5).mono hn8).mono hn9).mono hn10).mono hn12), a4, ea13, ?_⟩
    show G Γ m_MO_costs (d + 1) (0, 0) Q 60 [.ref r0, .int x1] [.ref a4, .ref r0, .int v12] μ12
    refine g_invV (M' := m_MO_valueIn) (b1 := 0) (b2 := 0) (As := [.ref a4]) (a := r0) (st := [.int v12]) lk_11_475 (by decide +kernel) rfl (dk_MO_valueIn d) (Nat.le_of_ble_eq_true rfl) (Or.inl ⟨11, ((((((((o_r0_11).mono hm1).mono hn2).mono hn5).mono hn8).mono hn9).mono hn10).mono hn12), rfl⟩) h ?_
    rintro _ μ14 ⟨v14, rfl, h⟩ hn14
    show G Γ m_MO_costs (d + 1) (0, 0) Q 63 [.ref r0, .int x1] [.int v14, .int v12] μ14
    refine run_ok (pc' := 64) [(.isub, 0, 0, 0)] _ _ _ _ (by decide +kernel) ?_
    show G Γ m_MO_costs (d + 1) (0, 0) Q 64 [.ref r0, .int x1] [.int (v12 - v14)] μ14
    exact g_reti (by decide +kernel) rfl h
  · replace h := h.1 hc
    show G Γ m_MO_costs (d + 1) (0, 0) Q 13 [.ref r0, .int x1] [] μ2
    refine run_ok (pc' := 14) [(.iconst (-1), 0, 0, 0)] _ _ _ _ (by decide +kernel) ?_
    show G Γ m_MO_costs (d + 1) (0, 0) Q 14 [.ref r0, .int x1] [.int (w (-1))] μ2
    exact g_reti (by decide +kernel) rfl h
/-! FrostBoxModel full(I)I -/
set_option maxRecDepth 100000 in
theorem B_MO_full_0 {Γ : XG} {d : Nat} {Q : Option Value → XM → Prop} {r0 : Nat} {x1 : Int32} {μ : XM} (o_r0_11 : ob μ r0 11) (h : ∀ μ1, μ1 = sI μ r0 0 (w 0) → Call Γ m_MO_isHours d [.ref r0, .int x1] μ1 (KI (fun v2 μ2 => ((v2 = w 0 → Q (some (.int (w (-1)))) μ2) ∧ (¬ v2 = w 0 → G Γ m_MO_full (d + 1) (0, 0) Q 17 [.ref r0, .int x1, .int (w 0)] [] μ2))))) : G Γ m_MO_full (d + 1) (0, 0) Q 0 [.ref r0, .int x1] [] μ := by
  refine run_ok (pc' := 5) [(.aload_n 0, 0, 0, 0), (.iconst 0, 0, 0, 0), (.putfield 109, 11, 0, 0)] _ _ _ _ (by decide +kernel) ?_
  show _ ∧ (_)
  refine ⟨o_r0_11, ?_⟩
  show G Γ m_MO_full (d + 1) (0, 0) Q 5 [.ref r0, .int x1] [] (sI μ r0 0 (w 0))
  obtain ⟨μ1, em1⟩ : ∃ m : XM, m = sI μ r0 0 (w 0) := ⟨_, rfl⟩
  replace h := h μ1 em1
  have hm1 : xN μ ≤ xN μ1 := by rw [em1]; exact Nat.le_refl _
  rw [← em1]
  refine run_ok (pc' := 7) [(.aload_n 0, 0, 0, 0), (.iload_n 1, 0, 0, 0)] _ _ _ _ (by decide +kernel) ?_
  show G Γ m_MO_full (d + 1) (0, 0) Q 7 [.ref r0, .int x1] [.int x1, .ref r0] μ1
  refine g_invV (M' := m_MO_isHours) (b1 := 0) (b2 := 0) (As := [.int x1]) (a := r0) (st := []) lk_11_412 (by decide +kernel) rfl (dk_MO_isHours d) (Nat.le_of_ble_eq_true rfl) (Or.inl ⟨11, ((o_r0_11).mono hm1), rfl⟩) h ?_
  rintro _ μ2 ⟨v2, rfl, h⟩ hn2
  show G Γ m_MO_full (d + 1) (0, 0) Q 10 [.ref r0, .int x1] [.int v2] μ2
  refine g_ifz_ne (pc' := 15) (off := 5) (by decide) (by decide +kernel) (fun hc => ?_) (fun hc => ?_)
  · replace h := h.2 hc
    show G Γ m_MO_full (d + 1) (0, 0) Q 15 [.ref r0, .int x1] [] μ2
    refine run_ok (pc' := 17) [(.iconst 0, 0, 0, 0), (.istore_n 2, 0, 0, 0)] _ _ _ _ (by decide +kernel) ?_
    show G Γ m_MO_full (d + 1) (0, 0) Q 17 [.ref r0, .int x1, .int (w 0)] [] μ2
    exact h
  · replace h := h.1 hc
    show G Γ m_MO_full (d + 1) (0, 0) Q 13 [.ref r0, .int x1] [] μ2
    refine run_ok (pc' := 14) [(.iconst (-1), 0, 0, 0)] _ _ _ _ (by decide +kernel) ?_
    show G Γ m_MO_full (d + 1) (0, 0) Q 14 [.ref r0, .int x1] [.int (w (-1))] μ2
    exact g_reti (by decide +kernel) rfl h
set_option maxRecDepth 100000 in
theorem B_MO_full_17 {Γ : XG} {d : Nat} {Q : Option Value → XM → Prop} {r0 r0_18 : Nat} {x1 x2 : Int32} {μ : XM} (o_r0_11 : ob μ r0 11) (e_r0_18 : xR μ r0 18 = some r0_18) (h : inb μ 0 r0_18 (w 0) ∧ ((xI μ r0_18 (w 0).toNatClampNeg < x2 → Q (some (.int (w (-1)))) μ) ∧ (¬ xI μ r0_18 (w 0).toNatClampNeg < x2 → Call Γ m_MO_moreThanBorne d [.ref r0, .int x2, .int x1] μ (KI (fun v2 μ2 => ((v2 = w 0 → Q (some (.int x2)) μ2) ∧ (¬ v2 = w 0 → G Γ m_MO_full (d + 1) (0, 0) Q 17 [.ref r0, .int x1, .int (x2 + w 1)] [] μ2))))))) : G Γ m_MO_full (d + 1) (0, 0) Q 17 [.ref r0, .int x1, .int x2] [] μ := by
  obtain ⟨ib1, h⟩ := h
  refine run_ok (pc' := 24) [(.iload_n 2, 0, 0, 0), (.aload_n 0, 0, 0, 0), (.getfield 37, 11, 18, 2), (.iconst 0, 0, 0, 0), (.iaload, 0, 0, 0)] _ _ _ _ (by decide +kernel) ?_
  show _ ∧ (∃ _, _ ∧ (_ ∧ (_)))
  refine ⟨o_r0_11, r0_18, e_r0_18, ib1, ?_⟩
  show G Γ m_MO_full (d + 1) (0, 0) Q 24 [.ref r0, .int x1, .int x2] [.int (xI μ r0_18 (w 0).toNatClampNeg), .int x2] μ
  refine g_icmp_gt (pc' := 44) (off := 20) (by decide) (by decide +kernel) (fun hc => ?_) (fun hc => ?_)
  · replace h := h.1 hc
    show G Γ m_MO_full (d + 1) (0, 0) Q 44 [.ref r0, .int x1, .int x2] [] μ
    refine run_ok (pc' := 45) [(.iconst (-1), 0, 0, 0)] _ _ _ _ (by decide +kernel) ?_
    show G Γ m_MO_full (d + 1) (0, 0) Q 45 [.ref r0, .int x1, .int x2] [.int (w (-1))] μ
    exact g_reti (by decide +kernel) rfl h
  · replace h := h.2 hc
    show G Γ m_MO_full (d + 1) (0, 0) Q 27 [.ref r0, .int x1, .int x2] [] μ
    refine run_ok (pc' := 30) [(.aload_n 0, 0, 0, 0), (.iload_n 2, 0, 0, 0), (.iload_n 1, 0, 0, 0)] _ _ _ _ (by decide +kernel) ?_
    show G Γ m_MO_full (d + 1) (0, 0) Q 30 [.ref r0, .int x1, .int x2] [.int x1, .int x2, .ref r0] μ
    refine g_invV (M' := m_MO_moreThanBorne) (b1 := 0) (b2 := 0) (As := [.int x2, .int x1]) (a := r0) (st := []) lk_11_415 (by decide +kernel) rfl (dk_MO_moreThanBorne d) (Nat.le_of_ble_eq_true rfl) (Or.inl ⟨11, o_r0_11, rfl⟩) h ?_
    rintro _ μ2 ⟨v2, rfl, h⟩ hn2
    show G Γ m_MO_full (d + 1) (0, 0) Q 33 [.ref r0, .int x1, .int x2] [.int v2] μ2
    refine g_ifz_ne (pc' := 38) (off := 5) (by decide) (by decide +kernel) (fun hc => ?_) (fun hc => ?_)
    · replace h := h.2 hc
      show G Γ m_MO_full (d + 1) (0, 0) Q 38 [.ref r0, .int x1, .int x2] [] μ2
      refine run_ok (pc' := 17) [(.iinc 2 1, 0, 0, 0), (.goto (-24), 0, 0, 0)] _ _ _ _ (by decide +kernel) ?_
      show G Γ m_MO_full (d + 1) (0, 0) Q 17 [.ref r0, .int x1, .int (x2 + w 1)] [] μ2
      exact h
    · replace h := h.1 hc
      show G Γ m_MO_full (d + 1) (0, 0) Q 36 [.ref r0, .int x1, .int x2] [] μ2
      refine run_ok (pc' := 37) [(.iload_n 2, 0, 0, 0)] _ _ _ _ (by decide +kernel) ?_
      show G Γ m_MO_full (d + 1) (0, 0) Q 37 [.ref r0, .int x1, .int x2] [.int x2] μ2
      exact g_reti (by decide +kernel) rfl h
/-! FrostBoxModel keep(II)I -/
set_option maxRecDepth 100000 in
theorem B_MO_keep_0 {Γ : XG} {d : Nat} {Q : Option Value → XM → Prop} {r0 : Nat} {x1 x2 : Int32} {μ : XM} (o_r0_11 : ob μ r0 11) (h : ∀ μ1, μ1 = sI μ r0 0 (w 0) → Call Γ m_MO_isHours d [.ref r0, .int x1] μ1 (KI (fun v2 μ2 => ((v2 = w 0 → Q (some (.int (w (-1)))) μ2) ∧ (¬ v2 = w 0 → Call Γ m_MO_isIn d [.long (x2.toInt64), .long (wl 0), .long (wl 9)] μ2 (KI (fun v3 μ3 => ((v3 = w 0 → Q (some (.int (w (-1)))) μ3) ∧ (¬ v3 = w 0 → ∃ a4, xR μ3 r0 30 = some a4 ∧ ∃ a5, xR μ3 r0 31 = some a5 ∧ Call Γ m_MO_copy d [.ref a4, .ref a5] μ3 (KV (fun μ6 => xR μ6 r0 31 = some a5 ∧ xR μ6 r0 30 = some a4 ∧ Call Γ m_MO_sumIn d [.ref r0, .ref a4] μ6 (KI (fun v9 μ9 => Call Γ m_MO_moreThanBorne d [.ref r0, .int v9, .int x1] μ9 (KI (fun v10 μ10 => Call Γ m_MO_ages d [.ref r0, .ref a5, .int v10] μ10 (KV (fun μ11 => G Γ m_MO_keep (d + 1) (0, 0) Q 64 [.ref r0, jk, .int x2, .int (w 0), .int (w 0)] [] μ11))))))))))))))))) : G Γ m_MO_keep (d + 1) (0, 0) Q 0 [.ref r0, .int x1, .int x2] [] μ := by
  refine run_ok (pc' := 5) [(.aload_n 0, 0, 0, 0), (.iconst 0, 0, 0, 0), (.putfield 109, 11, 0, 0)] _ _ _ _ (by decide +kernel) ?_
  show _ ∧ (_)
  refine ⟨o_r0_11, ?_⟩
  show G Γ m_MO_keep (d + 1) (0, 0) Q 5 [.ref r0, .int x1, .int x2] [] (sI μ r0 0 (w 0))
  obtain ⟨μ1, em1⟩ : ∃ m : XM, m = sI μ r0 0 (w 0) := ⟨_, rfl⟩
  replace h := h μ1 em1
  have hm1 : xN μ ≤ xN μ1 := by rw [em1]; exact Nat.le_refl _
  rw [← em1]
  refine run_ok (pc' := 7) [(.aload_n 0, 0, 0, 0), (.iload_n 1, 0, 0, 0)] _ _ _ _ (by decide +kernel) ?_
  show G Γ m_MO_keep (d + 1) (0, 0) Q 7 [.ref r0, .int x1, .int x2] [.int x1, .ref r0] μ1
  refine g_invV (M' := m_MO_isHours) (b1 := 0) (b2 := 0) (As := [.int x1]) (a := r0) (st := []) lk_11_412 (by decide +kernel) rfl (dk_MO_isHours d) (Nat.le_of_ble_eq_true rfl) (Or.inl ⟨11, ((o_r0_11).mono hm1), rfl⟩) h ?_
  rintro _ μ2 ⟨v2, rfl, h⟩ hn2
  show G Γ m_MO_keep (d + 1) (0, 0) Q 10 [.ref r0, .int x1, .int x2] [.int v2] μ2
  refine g_ifz_eq (pc' := 25) (off := 15) (by decide) (by decide +kernel) (fun hc => ?_) (fun hc => ?_)
  · replace h := h.1 hc
    show G Γ m_MO_keep (d + 1) (0, 0) Q 25 [.ref r0, .int x1, .int x2] [] μ2
    refine run_ok (pc' := 26) [(.iconst (-1), 0, 0, 0)] _ _ _ _ (by decide +kernel) ?_
    show G Γ m_MO_keep (d + 1) (0, 0) Q 26 [.ref r0, .int x1, .int x2] [.int (w (-1))] μ2
    exact g_reti (by decide +kernel) rfl h
  · replace h := h.2 hc
    show G Γ m_MO_keep (d + 1) (0, 0) Q 13 [.ref r0, .int x1, .int x2] [] μ2
    refine run_ok (pc' := 19) [(.iload_n 2, 0, 0, 0), (.i2l, 0, 0, 0), (.lconst 0, 0, 0, 0), (.ldc2_w 370, 0, 0, 9)] _ _ _ _ (by decide +kernel) ?_
    show G Γ m_MO_keep (d + 1) (0, 0) Q 19 [.ref r0, .int x1, .int x2] [.long (wl 9), .long (wl 0), .long (x2.toInt64)] μ2
    refine g_invS (M' := m_MO_isIn) (b1 := 0) (b2 := 0) (As := [.long (x2.toInt64), .long (wl 0), .long (wl 9)]) (st := []) lk_11_230 (by decide +kernel) rfl (dk_MO_isIn d) (Nat.le_of_ble_eq_true rfl) h ?_
    rintro _ μ3 ⟨v3, rfl, h⟩ hn3
    show G Γ m_MO_keep (d + 1) (0, 0) Q 22 [.ref r0, .int x1, .int x2] [.int v3] μ3
    refine g_ifz_ne (pc' := 27) (off := 5) (by decide) (by decide +kernel) (fun hc => ?_) (fun hc => ?_)
    · replace h := h.2 hc
      show G Γ m_MO_keep (d + 1) (0, 0) Q 27 [.ref r0, .int x1, .int x2] [] μ3
      obtain ⟨a4, ea4, h⟩ := h
      obtain ⟨a5, ea5, h⟩ := h
      refine run_ok (pc' := 35) [(.aload_n 0, 0, 0, 0), (.getfield 58, 11, 30, 2), (.aload_n 0, 0, 0, 0), (.getfield 61, 11, 31, 2)] _ _ _ _ (by decide +kernel) ?_
      show _ ∧ (∃ _, _ ∧ (_ ∧ (∃ _, _ ∧ (_))))
      refine ⟨((((o_r0_11).mono hm1).mono hn2).mono hn3), a4, ea4, ((((o_r0_11).mono hm1).mono hn2).mono hn3), a5, ea5, ?_⟩
      show G Γ m_MO_keep (d + 1) (0, 0) Q 35 [.ref r0, .int x1, .int x2] [.ref a5, .ref a4] μ3
      refine g_invS (M' := m_MO_copy) (b1 := 0) (b2 := 0) (As := [.ref a4, .ref a5]) (st := []) lk_11_433 (by decide +kernel) rfl (dk_MO_copy d) (Nat.le_of_ble_eq_true rfl) h ?_
      rintro _ μ6 ⟨rfl, h⟩ hn6
      show G Γ m_MO_keep (d + 1) (0, 0) Q 38 [.ref r0, .int x1, .int x2] [] μ6
      obtain ⟨ea7, h⟩ := h
      obtain ⟨ea8, h⟩ := h
      refine run_ok (pc' := 49) [(.aload_n 0, 0, 0, 0), (.aload_n 0, 0, 0, 0), (.getfield 61, 11, 31, 2), (.aload_n 0, 0, 0, 0), (.aload_n 0, 0, 0, 0), (.aload_n 0, 0, 0, 0), (.getfield 58, 11, 30, 2)] _ _ _ _ (by decide +kernel) ?_
      show _ ∧ (∃ _, _ ∧ (_ ∧ (∃ _, _ ∧ (_))))
      refine ⟨(((((o_r0_11).mono hm1).mono hn2).mono hn3).mono hn6), a5, ea7, (((((o_r0_11).mono hm1).mono hn2).mono hn3).mono hn6), a4, ea8, ?_⟩
      show G Γ m_MO_keep (d + 1) (0, 0) Q 49 [.ref r0, .int x1, .int x2] [.ref a4, .ref r0, .ref r0, .ref a5, .ref r0] μ6
      refine g_invV (M' := m_MO_sumIn) (b1 := 0) (b2 := 0) (As := [.ref a4]) (a := r0) (st := [.ref r0, .ref a5, .ref r0]) lk_11_372 (by decide +kernel) rfl (dk_MO_sumIn d) (Nat.le_of_ble_eq_true rfl) (Or.inl ⟨11, (((((o_r0_11).mono hm1).mono hn2).mono hn3).mono hn6), rfl⟩) h ?_
      rintro _ μ9 ⟨v9, rfl, h⟩ hn9
      show G Γ m_MO_keep (d + 1) (0, 0) Q 52 [.ref r0, .int x1, .int x2] [.int v9, .ref r0, .ref a5, .ref r0] μ9
      refine run_ok (pc' := 53) [(.iload_n 1, 0, 0, 0)] _ _ _ _ (by decide +kernel) ?_
      show G Γ m_MO_keep (d + 1) (0, 0) Q 53 [.ref r0, .int x1, .int x2] [.int x1, .int v9, .ref r0, .ref a5, .ref r0] μ9
      refine g_invV (M' := m_MO_moreThanBorne) (b1 := 0) (b2 := 0) (As := [.int v9, .int x1]) (a := r0) (st := [.ref a5, .ref r0]) lk_11_415 (by decide +kernel) rfl (dk_MO_moreThanBorne d) (Nat.le_of_ble_eq_true rfl) (Or.inl ⟨11, ((((((o_r0_11).mono hm1).mono hn2).mono hn3).mono hn6).mono hn9), rfl⟩) h ?_
      rintro _ μ10 ⟨v10, rfl, h⟩ hn10
      show G Γ m_MO_keep (d + 1) (0, 0) Q 56 [.ref r0, .int x1, .int x2] [.int v10, .ref a5, .ref r0] μ10
      refine g_invV (M' := m_MO_ages) (b1 := 0) (b2 := 0) (As := [.ref a5, .int v10]) (a := r0) (st := []) lk_11_400 (by decide +kernel) rfl (dk_MO_ages d) (Nat.le_of_ble_eq_true rfl) (Or.inl ⟨11, (((((((o_r0_11).mono hm1).mono hn2).mono hn3).mono hn6).mono hn9).mono hn10), rfl⟩) h ?_
      rintro _ μ11 ⟨rfl, h⟩ hn11
      show G Γ m_MO_keep (d + 1) (0, 0) Q 59 [.ref r0, .int x1, .int x2] [] μ11
      refine run_ok (pc' := 64) [(.iconst 0, 0, 0, 0), (.istore_n 3, 0, 0, 0), (.iconst 0, 0, 0, 0), (.istore 4, 0, 0, 0)] _ _ _ _ (by decide +kernel) ?_
      show G Γ m_MO_keep (d + 1) (0, 0) Q 64 [.ref r0, .int x1, .int x2, .int (w 0), .int (w 0)] [] μ11
      exact g_wk (ls' := [.ref r0, jk, .int x2, .int (w 0), .int (w 0)]) ⟨Or.inr rfl, Or.inl rfl, Or.inr rfl, Or.inr rfl, Or.inr rfl, trivial⟩ h
    · replace h := h.1 hc
      show G Γ m_MO_keep (d + 1) (0, 0) Q 25 [.ref r0, .int x1, .int x2] [] μ3
      refine run_ok (pc' := 26) [(.iconst (-1), 0, 0, 0)] _ _ _ _ (by decide +kernel) ?_
      show G Γ m_MO_keep (d + 1) (0, 0) Q 26 [.ref r0, .int x1, .int x2] [.int (w (-1))] μ3
      exact g_reti (by decide +kernel) rfl h
set_option maxRecDepth 100000 in
theorem B_MO_keep_64 {Γ : XG} {d : Nat} {Q : Option Value → XM → Prop} {r0 r0_31 : Nat} {x2 x3 x4 : Int32} {μ : XM} (o_r0_11 : ob μ r0 11) (e_r0_31 : xR μ r0 31 = some r0_31) (h : inb μ 0 r0_31 (w 40) ∧ ((x4 < xI μ r0_31 (w 40).toNatClampNeg → Call Γ m_MO_valueOf d [.ref r0, .ref r0_31, .int x4] μ (KI (fun v2 μ2 => xR μ2 r0 31 = some r0_31 ∧ inb μ2 0 r0_31 (((w 5) * x4) + (w 1)) ∧ ((v2 < x2 * (xI μ2 r0_31 (((w 5) * x4) + (w 1)).toNatClampNeg) → G Γ m_MO_keep (d + 1) (0, 0) Q 64 [.ref r0, jk, .int x2, .int (x3 ||| (w 0)), .int (x4 + w 1)] [] μ2) ∧ (¬ v2 < x2 * (xI μ2 r0_31 (((w 5) * x4) + (w 1)).toNatClampNeg) → G Γ m_MO_keep (d + 1) (0, 0) Q 64 [.ref r0, jk, .int x2, .int (x3 ||| ((w 1) <<< (x4 &&& 31))), .int (x4 + w 1)] [] μ2))))) ∧ (¬ x4 < xI μ r0_31 (w 40).toNatClampNeg → Q (some (.int x3)) μ))) : G Γ m_MO_keep (d + 1) (0, 0) Q 64 [.ref r0, jk, .int x2, .int x3, .int x4] [] μ := by
  obtain ⟨ib1, h⟩ := h
  refine run_ok (pc' := 73) [(.iload 4, 0, 0, 0), (.aload_n 0, 0, 0, 0), (.getfield 61, 11, 31, 2), (.bipush 40, 0, 0, 0), (.iaload, 0, 0, 0)] _ _ _ _ (by decide +kernel) ?_
  show _ ∧ (∃ _, _ ∧ (_ ∧ (_)))
  refine ⟨o_r0_11, r0_31, e_r0_31, ib1, ?_⟩
  show G Γ m_MO_keep (d + 1) (0, 0) Q 73 [.ref r0, jk, .int x2, .int x3, .int x4] [.int (xI μ r0_31 (w 40).toNatClampNeg), .int x4] μ
  refine g_icmp_ge (pc' := 119) (off := 46) (by decide) (by decide +kernel) (fun hc => ?_) (fun hc => ?_)
  · replace h := h.2 hc
    show G Γ m_MO_keep (d + 1) (0, 0) Q 119 [.ref r0, jk, .int x2, .int x3, .int x4] [] μ
    refine run_ok (pc' := 120) [(.iload_n 3, 0, 0, 0)] _ _ _ _ (by decide +kernel) ?_
    show G Γ m_MO_keep (d + 1) (0, 0) Q 120 [.ref r0, jk, .int x2, .int x3, .int x4] [.int x3] μ
    exact g_reti (by decide +kernel) rfl h
  · replace h := h.1 hc
    show G Γ m_MO_keep (d + 1) (0, 0) Q 76 [.ref r0, jk, .int x2, .int x3, .int x4] [] μ
    refine run_ok (pc' := 84) [(.iload_n 3, 0, 0, 0), (.aload_n 0, 0, 0, 0), (.aload_n 0, 0, 0, 0), (.getfield 61, 11, 31, 2), (.iload 4, 0, 0, 0)] _ _ _ _ (by decide +kernel) ?_
    show _ ∧ (∃ _, _ ∧ (_))
    refine ⟨o_r0_11, r0_31, e_r0_31, ?_⟩
    show G Γ m_MO_keep (d + 1) (0, 0) Q 84 [.ref r0, jk, .int x2, .int x3, .int x4] [.int x4, .ref r0_31, .ref r0, .int x3] μ
    refine g_invV (M' := m_MO_valueOf) (b1 := 0) (b2 := 0) (As := [.ref r0_31, .int x4]) (a := r0) (st := [.int x3]) lk_11_350 (by decide +kernel) rfl (dk_MO_valueOf d) (Nat.le_of_ble_eq_true rfl) (Or.inl ⟨11, o_r0_11, rfl⟩) h ?_
    rintro _ μ2 ⟨v2, rfl, h⟩ hn2
    show G Γ m_MO_keep (d + 1) (0, 0) Q 87 [.ref r0, jk, .int x2, .int x3, .int x4] [.int v2, .int x3] μ2
    obtain ⟨ea3, h⟩ := h
    obtain ⟨ib4, h⟩ := h
    refine run_ok (pc' := 100) [(.iload_n 2, 0, 0, 0), (.aload_n 0, 0, 0, 0), (.getfield 61, 11, 31, 2), (.iconst 5, 0, 0, 0), (.iload 4, 0, 0, 0), (.imul, 0, 0, 0), (.iconst 1, 0, 0, 0), (.iadd, 0, 0, 0), (.iaload, 0, 0, 0), (.imul, 0, 0, 0)] _ _ _ _ (by decide +kernel) ?_
    show _ ∧ (∃ _, _ ∧ (_ ∧ (_)))
    refine ⟨((o_r0_11).mono hn2), r0_31, ea3, ib4, ?_⟩
    show G Γ m_MO_keep (d + 1) (0, 0) Q 100 [.ref r0, jk, .int x2, .int x3, .int x4] [.int (x2 * (xI μ2 r0_31 (((w 5) * x4) + (w 1)).toNatClampNeg)), .int v2, .int x3] μ2
    refine g_icmp_lt (pc' := 110) (off := 10) (by decide) (by decide +kernel) (fun hc => ?_) (fun hc => ?_)
    · replace h := h.1 hc
      show G Γ m_MO_keep (d + 1) (0, 0) Q 110 [.ref r0, jk, .int x2, .int x3, .int x4] [.int x3] μ2
      refine run_ok (pc' := 64) [(.iconst 0, 0, 0, 0), (.ior, 0, 0, 0), (.istore_n 3, 0, 0, 0), (.iinc 4 1, 0, 0, 0), (.goto (-52), 0, 0, 0)] _ _ _ _ (by decide +kernel) ?_
      show G Γ m_MO_keep (d + 1) (0, 0) Q 64 [.ref r0, jk, .int x2, .int (x3 ||| (w 0)), .int (x4 + w 1)] [] μ2
      exact h
    · replace h := h.2 hc
      show G Γ m_MO_keep (d + 1) (0, 0) Q 103 [.ref r0, jk, .int x2, .int x3, .int x4] [.int x3] μ2
      refine run_ok (pc' := 64) [(.iconst 1, 0, 0, 0), (.iload 4, 0, 0, 0), (.ishl, 0, 0, 0), (.goto 4, 0, 0, 0), (.ior, 0, 0, 0), (.istore_n 3, 0, 0, 0), (.iinc 4 1, 0, 0, 0), (.goto (-52), 0, 0, 0)] _ _ _ _ (by decide +kernel) ?_
      show G Γ m_MO_keep (d + 1) (0, 0) Q 64 [.ref r0, jk, .int x2, .int (x3 ||| ((w 1) <<< (x4 &&& 31))), .int (x4 + w 1)] [] μ2
      exact h
/-! FrostBoxModel isNameless(I)Z -/
set_option maxRecDepth 100000 in
theorem B_MO_isNameless_0 {Γ : XG} {d : Nat} {Q : Option Value → XM → Prop} {r0 r0_30 : Nat} {x1 : Int32} {μ : XM} (o_r0_11 : ob μ r0 11) (e_r0_30 : xR μ r0 30 = some r0_30) (h : inb μ 0 r0_30 (((w 5) * x1) + (w 3)) ∧ ((xI μ r0_30 (((w 5) * x1) + (w 3)).toNatClampNeg = w 0 → Q (some (.int (w 1))) μ) ∧ (¬ xI μ r0_30 (((w 5) * x1) + (w 3)).toNatClampNeg = w 0 → Q (some (.int (w 0))) μ))) : G Γ m_MO_isNameless (d + 1) (0, 0) Q 0 [.ref r0, .int x1] [] μ := by
  obtain ⟨ib1, h⟩ := h
  refine run_ok (pc' := 10) [(.aload_n 0, 0, 0, 0), (.getfield 58, 11, 30, 2), (.iconst 5, 0, 0, 0), (.iload_n 1, 0, 0, 0), (.imul, 0, 0, 0), (.iconst 3, 0, 0, 0), (.iadd, 0, 0, 0), (.iaload, 0, 0, 0)] _ _ _ _ (by decide +kernel) ?_
  show _ ∧ (∃ _, _ ∧ (_ ∧ (_)))
  refine ⟨o_r0_11, r0_30, e_r0_30, ib1, ?_⟩
  show G Γ m_MO_isNameless (d + 1) (0, 0) Q 10 [.ref r0, .int x1] [.int (xI μ r0_30 (((w 5) * x1) + (w 3)).toNatClampNeg)] μ
  refine g_ifz_ne (pc' := 17) (off := 7) (by decide) (by decide +kernel) (fun hc => ?_) (fun hc => ?_)
  · replace h := h.2 hc
    show G Γ m_MO_isNameless (d + 1) (0, 0) Q 17 [.ref r0, .int x1] [] μ
    refine run_ok (pc' := 18) [(.iconst 0, 0, 0, 0)] _ _ _ _ (by decide +kernel) ?_
    show G Γ m_MO_isNameless (d + 1) (0, 0) Q 18 [.ref r0, .int x1] [.int (w 0)] μ
    exact g_retz (by decide +kernel) rfl (Or.inl rfl) h
  · replace h := h.1 hc
    show G Γ m_MO_isNameless (d + 1) (0, 0) Q 13 [.ref r0, .int x1] [] μ
    refine run_ok (pc' := 18) [(.iconst 1, 0, 0, 0), (.goto 4, 0, 0, 0)] _ _ _ _ (by decide +kernel) ?_
    show G Γ m_MO_isNameless (d + 1) (0, 0) Q 18 [.ref r0, .int x1] [.int (w 1)] μ
    exact g_retz (by decide +kernel) rfl (Or.inr rfl) h
/-! FrostBoxModel couldBe(II)I -/
set_option maxRecDepth 100000 in
theorem B_MO_couldBe_0 {Γ : XG} {d : Nat} {Q : Option Value → XM → Prop} {r0 r0_30 : Nat} {x1 x2 : Int32} {μ : XM} (o_r0_11 : ob μ r0 11) (e_r0_30 : xR μ r0 30 = some r0_30) (h : Call Γ m_MO_weightOf d [.ref r0, .ref r0_30, .int x1] μ (KI (fun v1 μ1 => Call Γ m_MO_told d [.ref r0, .int x2, .int (w 1)] μ1 (KI (fun v2 μ2 => Call Γ m_MO_kindIn d [.ref r0, .int x1] μ2 (KI (fun v3 μ3 => Call Γ m_MO_told d [.ref r0, .int v3, .int (w 0)] μ3 (KI (fun v4 μ4 => Call Γ m_MO_told d [.ref r0, .int x2, .int (w 0)] μ4 (KI (fun v5 μ5 => ((v4 = v5 → ¬ v2 = 0 ∧ ((v1 - v1 / v2 * v2 = w 0 → ¬ v2 = 0 ∧ ((w 9 < v1 / v2 → Q (some (.int (w 0))) μ5) ∧ (¬ w 9 < v1 / v2 → ¬ v2 = 0 ∧ Q (some (.int (v1 / v2))) μ5))) ∧ (¬ v1 - v1 / v2 * v2 = w 0 → Q (some (.int (w 0))) μ5))) ∧ (¬ v4 = v5 → Q (some (.int (w 0))) μ5))))))))))))) : G Γ m_MO_couldBe (d + 1) (0, 0) Q 0 [.ref r0, .int x1, .int x2] [] μ := by
  refine run_ok (pc' := 6) [(.aload_n 0, 0, 0, 0), (.aload_n 0, 0, 0, 0), (.getfield 58, 11, 30, 2), (.iload_n 1, 0, 0, 0)] _ _ _ _ (by decide +kernel) ?_
  show _ ∧ (∃ _, _ ∧ (_))
  refine ⟨o_r0_11, r0_30, e_r0_30, ?_⟩
  show G Γ m_MO_couldBe (d + 1) (0, 0) Q 6 [.ref r0, .int x1, .int x2] [.int x1, .ref r0_30, .ref r0] μ
  refine g_invV (M' := m_MO_weightOf) (b1 := 0) (b2 := 0) (As := [.ref r0_30, .int x1]) (a := r0) (st := []) lk_11_367 (by decide +kernel) rfl (dk_MO_weightOf d) (Nat.le_of_ble_eq_true rfl) (Or.inl ⟨11, o_r0_11, rfl⟩) h ?_
  rintro _ μ1 ⟨v1, rfl, h⟩ hn1
  show G Γ m_MO_couldBe (d + 1) (0, 0) Q 9 [.ref r0, .int x1, .int x2] [.int v1] μ1
  refine run_ok (pc' := 13) [(.istore_n 3, 0, 0, 0), (.aload_n 0, 0, 0, 0), (.iload_n 2, 0, 0, 0), (.iconst 1, 0, 0, 0)] _ _ _ _ (by decide +kernel) ?_
  show G Γ m_MO_couldBe (d + 1) (0, 0) Q 13 [.ref r0, .int x1, .int x2, .int v1] [.int (w 1), .int x2, .ref r0] μ1
  refine g_invV (M' := m_MO_told) (b1 := 0) (b2 := 0) (As := [.int x2, .int (w 1)]) (a := r0) (st := []) lk_11_322 (by decide +kernel) rfl (dk_MO_told d) (Nat.le_of_ble_eq_true rfl) (Or.inl ⟨11, ((o_r0_11).mono hn1), rfl⟩) h ?_
  rintro _ μ2 ⟨v2, rfl, h⟩ hn2
  show G Γ m_MO_couldBe (d + 1) (0, 0) Q 16 [.ref r0, .int x1, .int x2, .int v1] [.int v2] μ2
  refine run_ok (pc' := 21) [(.istore 4, 0, 0, 0), (.aload_n 0, 0, 0, 0), (.aload_n 0, 0, 0, 0), (.iload_n 1, 0, 0, 0)] _ _ _ _ (by decide +kernel) ?_
  show G Γ m_MO_couldBe (d + 1) (0, 0) Q 21 [.ref r0, .int x1, .int x2, .int v1, .int v2] [.int x1, .ref r0, .ref r0] μ2
  refine g_invV (M' := m_MO_kindIn) (b1 := 0) (b2 := 0) (As := [.int x1]) (a := r0) (st := [.ref r0]) lk_11_446 (by decide +kernel) rfl (dk_MO_kindIn d) (Nat.le_of_ble_eq_true rfl) (Or.inl ⟨11, (((o_r0_11).mono hn1).mono hn2), rfl⟩) h ?_
  rintro _ μ3 ⟨v3, rfl, h⟩ hn3
  show G Γ m_MO_couldBe (d + 1) (0, 0) Q 24 [.ref r0, .int x1, .int x2, .int v1, .int v2] [.int v3, .ref r0] μ3
  refine run_ok (pc' := 25) [(.iconst 0, 0, 0, 0)] _ _ _ _ (by decide +kernel) ?_
  show G Γ m_MO_couldBe (d + 1) (0, 0) Q 25 [.ref r0, .int x1, .int x2, .int v1, .int v2] [.int (w 0), .int v3, .ref r0] μ3
  refine g_invV (M' := m_MO_told) (b1 := 0) (b2 := 0) (As := [.int v3, .int (w 0)]) (a := r0) (st := []) lk_11_322 (by decide +kernel) rfl (dk_MO_told d) (Nat.le_of_ble_eq_true rfl) (Or.inl ⟨11, ((((o_r0_11).mono hn1).mono hn2).mono hn3), rfl⟩) h ?_
  rintro _ μ4 ⟨v4, rfl, h⟩ hn4
  show G Γ m_MO_couldBe (d + 1) (0, 0) Q 28 [.ref r0, .int x1, .int x2, .int v1, .int v2] [.int v4] μ4
  refine run_ok (pc' := 31) [(.aload_n 0, 0, 0, 0), (.iload_n 2, 0, 0, 0), (.iconst 0, 0, 0, 0)] _ _ _ _ (by decide +kernel) ?_
  show G Γ m_MO_couldBe (d + 1) (0, 0) Q 31 [.ref r0, .int x1, .int x2, .int v1, .int v2] [.int (w 0), .int x2, .ref r0, .int v4] μ4
  refine g_invV (M' := m_MO_told) (b1 := 0) (b2 := 0) (As := [.int x2, .int (w 0)]) (a := r0) (st := [.int v4]) lk_11_322 (by decide +kernel) rfl (dk_MO_told d) (Nat.le_of_ble_eq_true rfl) (Or.inl ⟨11, (((((o_r0_11).mono hn1).mono hn2).mono hn3).mono hn4), rfl⟩) h ?_
  rintro _ μ5 ⟨v5, rfl, h⟩ hn5
  show G Γ m_MO_couldBe (d + 1) (0, 0) Q 34 [.ref r0, .int x1, .int x2, .int v1, .int v2] [.int v5, .int v4] μ5
  refine g_icmp_ne (pc' := 60) (off := 26) (by decide) (by decide +kernel) (fun hc => ?_) (fun hc => ?_)
  · replace h := h.2 hc
    show G Γ m_MO_couldBe (d + 1) (0, 0) Q 60 [.ref r0, .int x1, .int x2, .int v1, .int v2] [] μ5
    refine run_ok (pc' := 61) [(.iconst 0, 0, 0, 0)] _ _ _ _ (by decide +kernel) ?_
    show G Γ m_MO_couldBe (d + 1) (0, 0) Q 61 [.ref r0, .int x1, .int x2, .int v1, .int v2] [.int (w 0)] μ5
    exact g_reti (by decide +kernel) rfl h
  · replace h := h.1 hc
    show G Γ m_MO_couldBe (d + 1) (0, 0) Q 37 [.ref r0, .int x1, .int x2, .int v1, .int v2] [] μ5
    obtain ⟨nz6, h⟩ := h
    refine run_ok (pc' := 41) [(.iload_n 3, 0, 0, 0), (.iload 4, 0, 0, 0), (.irem, 0, 0, 0)] _ _ _ _ (by decide +kernel) ?_
    show _ ∧ (_)
    refine ⟨nz6, ?_⟩
    show G Γ m_MO_couldBe (d + 1) (0, 0) Q 41 [.ref r0, .int x1, .int x2, .int v1, .int v2] [.int (v1 - v1 / v2 * v2)] μ5
    refine g_ifz_ne (pc' := 60) (off := 19) (by decide) (by decide +kernel) (fun hc => ?_) (fun hc => ?_)
    · replace h := h.2 hc
      show G Γ m_MO_couldBe (d + 1) (0, 0) Q 60 [.ref r0, .int x1, .int x2, .int v1, .int v2] [] μ5
      refine run_ok (pc' := 61) [(.iconst 0, 0, 0, 0)] _ _ _ _ (by decide +kernel) ?_
      show G Γ m_MO_couldBe (d + 1) (0, 0) Q 61 [.ref r0, .int x1, .int x2, .int v1, .int v2] [.int (w 0)] μ5
      exact g_reti (by decide +kernel) rfl h
    · replace h := h.1 hc
      show G Γ m_MO_couldBe (d + 1) (0, 0) Q 44 [.ref r0, .int x1, .int x2, .int v1, .int v2] [] μ5
      obtain ⟨nz7, h⟩ := h
      refine run_ok (pc' := 50) [(.iload_n 3, 0, 0, 0), (.iload 4, 0, 0, 0), (.idiv, 0, 0, 0), (.bipush 9, 0, 0, 0)] _ _ _ _ (by decide +kernel) ?_
      show _ ∧ (_)
      refine ⟨nz7, ?_⟩
      show G Γ m_MO_couldBe (d + 1) (0, 0) Q 50 [.ref r0, .int x1, .int x2, .int v1, .int v2] [.int (w 9), .int (v1 / v2)] μ5
      refine g_icmp_gt (pc' := 60) (off := 10) (by decide) (by decide +kernel) (fun hc => ?_) (fun hc => ?_)
      · replace h := h.1 hc
        show G Γ m_MO_couldBe (d + 1) (0, 0) Q 60 [.ref r0, .int x1, .int x2, .int v1, .int v2] [] μ5
        refine run_ok (pc' := 61) [(.iconst 0, 0, 0, 0)] _ _ _ _ (by decide +kernel) ?_
        show G Γ m_MO_couldBe (d + 1) (0, 0) Q 61 [.ref r0, .int x1, .int x2, .int v1, .int v2] [.int (w 0)] μ5
        exact g_reti (by decide +kernel) rfl h
      · replace h := h.2 hc
        show G Γ m_MO_couldBe (d + 1) (0, 0) Q 53 [.ref r0, .int x1, .int x2, .int v1, .int v2] [] μ5
        obtain ⟨nz8, h⟩ := h
        refine run_ok (pc' := 61) [(.iload_n 3, 0, 0, 0), (.iload 4, 0, 0, 0), (.idiv, 0, 0, 0), (.goto 4, 0, 0, 0)] _ _ _ _ (by decide +kernel) ?_
        show _ ∧ (_)
        refine ⟨nz8, ?_⟩
        show G Γ m_MO_couldBe (d + 1) (0, 0) Q 61 [.ref r0, .int x1, .int x2, .int v1, .int v2] [.int (v1 / v2)] μ5
        exact g_reti (by decide +kernel) rfl h
/-! FrostBoxModel spans(II)I -/
set_option maxRecDepth 100000 in
theorem lk_11_481 : LkV 11 481 m_MO_couldBe 2 := ⟨lc_MO_couldBe, lwG_in (List.mem_of_getElem? (i := 1822) rfl) rfl, lwG_in (List.mem_of_getElem? (i := 1824) rfl) rfl, lwG_in (List.mem_of_getElem? (i := 105) rfl) rfl⟩
set_option maxRecDepth 100000 in
theorem lk_11_478 : LkV 11 478 m_MO_isNameless 1 := ⟨lc_MO_isNameless, lwG_in (List.mem_of_getElem? (i := 1818) rfl) rfl, lwG_in (List.mem_of_getElem? (i := 1820) rfl) rfl, lwG_in (List.mem_of_getElem? (i := 104) rfl) rfl⟩
set_option maxRecDepth 100000 in
theorem B_MO_spans_0 {Γ : XG} {d : Nat} {Q : Option Value → XM → Prop} {r0 : Nat} {x1 x2 : Int32} {μ : XM} (o_r0_11 : ob μ r0 11) (h : ∀ μ1, μ1 = sI μ r0 0 (w 0) → Call Γ m_MO_isKind d [.ref r0, .int x1] μ1 (KI (fun v2 μ2 => ((v2 = w 0 → Q (some (.int (w (-1)))) μ2) ∧ (¬ v2 = w 0 → Call Γ m_MO_isIn d [.long (x2.toInt64), .long (wl 0), .long (wl 1)] μ2 (KI (fun v3 μ3 => ((v3 = w 0 → Q (some (.int (w (-1)))) μ3) ∧ (¬ v3 = w 0 → G Γ m_MO_spans (d + 1) (0, 0) Q 30 [.ref r0, .int x1, .int x2, .int (w 0), .int (w 0)] [] μ3))))))))) : G Γ m_MO_spans (d + 1) (0, 0) Q 0 [.ref r0, .int x1, .int x2] [] μ := by
  refine run_ok (pc' := 5) [(.aload_n 0, 0, 0, 0), (.iconst 0, 0, 0, 0), (.putfield 109, 11, 0, 0)] _ _ _ _ (by decide +kernel) ?_
  show _ ∧ (_)
  refine ⟨o_r0_11, ?_⟩
  show G Γ m_MO_spans (d + 1) (0, 0) Q 5 [.ref r0, .int x1, .int x2] [] (sI μ r0 0 (w 0))
  obtain ⟨μ1, em1⟩ : ∃ m : XM, m = sI μ r0 0 (w 0) := ⟨_, rfl⟩
  replace h := h μ1 em1
  have hm1 : xN μ ≤ xN μ1 := by rw [em1]; exact Nat.le_refl _
  rw [← em1]
  refine run_ok (pc' := 7) [(.aload_n 0, 0, 0, 0), (.iload_n 1, 0, 0, 0)] _ _ _ _ (by decide +kernel) ?_
  show G Γ m_MO_spans (d + 1) (0, 0) Q 7 [.ref r0, .int x1, .int x2] [.int x1, .ref r0] μ1
  refine g_invV (M' := m_MO_isKind) (b1 := 0) (b2 := 0) (As := [.int x1]) (a := r0) (st := []) lk_11_356 (by decide +kernel) rfl (dk_MO_isKind d) (Nat.le_of_ble_eq_true rfl) (Or.inl ⟨11, ((o_r0_11).mono hm1), rfl⟩) h ?_
  rintro _ μ2 ⟨v2, rfl, h⟩ hn2
  show G Γ m_MO_spans (d + 1) (0, 0) Q 10 [.ref r0, .int x1, .int x2] [.int v2] μ2
  refine g_ifz_eq (pc' := 23) (off := 13) (by decide) (by decide +kernel) (fun hc => ?_) (fun hc => ?_)
  · replace h := h.1 hc
    show G Γ m_MO_spans (d + 1) (0, 0) Q 23 [.ref r0, .int x1, .int x2] [] μ2
    refine run_ok (pc' := 24) [(.iconst (-1), 0, 0, 0)] _ _ _ _ (by decide +kernel) ?_
    show G Γ m_MO_spans (d + 1) (0, 0) Q 24 [.ref r0, .int x1, .int x2] [.int (w (-1))] μ2
    exact g_reti (by decide +kernel) rfl h
  · replace h := h.2 hc
    show G Γ m_MO_spans (d + 1) (0, 0) Q 13 [.ref r0, .int x1, .int x2] [] μ2
    refine run_ok (pc' := 17) [(.iload_n 2, 0, 0, 0), (.i2l, 0, 0, 0), (.lconst 0, 0, 0, 0), (.lconst 1, 0, 0, 1)] _ _ _ _ (by decide +kernel) ?_
    show G Γ m_MO_spans (d + 1) (0, 0) Q 17 [.ref r0, .int x1, .int x2] [.long (wl 1), .long (wl 0), .long (x2.toInt64)] μ2
    refine g_invS (M' := m_MO_isIn) (b1 := 0) (b2 := 0) (As := [.long (x2.toInt64), .long (wl 0), .long (wl 1)]) (st := []) lk_11_230 (by decide +kernel) rfl (dk_MO_isIn d) (Nat.le_of_ble_eq_true rfl) h ?_
    rintro _ μ3 ⟨v3, rfl, h⟩ hn3
    show G Γ m_MO_spans (d + 1) (0, 0) Q 20 [.ref r0, .int x1, .int x2] [.int v3] μ3
    refine g_ifz_ne (pc' := 25) (off := 5) (by decide) (by decide +kernel) (fun hc => ?_) (fun hc => ?_)
    · replace h := h.2 hc
      show G Γ m_MO_spans (d + 1) (0, 0) Q 25 [.ref r0, .int x1, .int x2] [] μ3
      refine run_ok (pc' := 30) [(.iconst 0, 0, 0, 0), (.istore_n 3, 0, 0, 0), (.iconst 0, 0, 0, 0), (.istore 4, 0, 0, 0)] _ _ _ _ (by decide +kernel) ?_
      show G Γ m_MO_spans (d + 1) (0, 0) Q 30 [.ref r0, .int x1, .int x2, .int (w 0), .int (w 0)] [] μ3
      exact h
    · replace h := h.1 hc
      show G Γ m_MO_spans (d + 1) (0, 0) Q 23 [.ref r0, .int x1, .int x2] [] μ3
      refine run_ok (pc' := 24) [(.iconst (-1), 0, 0, 0)] _ _ _ _ (by decide +kernel) ?_
      show G Γ m_MO_spans (d + 1) (0, 0) Q 24 [.ref r0, .int x1, .int x2] [.int (w (-1))] μ3
      exact g_reti (by decide +kernel) rfl h
set_option maxRecDepth 100000 in
theorem B_MO_spans_30 {Γ : XG} {d : Nat} {Q : Option Value → XM → Prop} {r0 r0_30 : Nat} {x1 x2 x3 x4 : Int32} {μ : XM} (o_r0_11 : ob μ r0 11) (e_r0_30 : xR μ r0 30 = some r0_30) (h : inb μ 0 r0_30 (w 40) ∧ ((x4 < xI μ r0_30 (w 40).toNatClampNeg → Call Γ m_MO_isNameless d [.ref r0, .int x4] μ (KI (fun v2 μ2 => ((v2 = w 0 → Call Γ m_MO_kindIn d [.ref r0, .int x4] μ2 (KI (fun v4 μ4 => ((v4 = x1 → xR μ4 r0 30 = some r0_30 ∧ inb μ4 0 r0_30 (((w 5) * x4) + (w 1)) ∧ G Γ m_MO_spans (d + 1) (0, 0) Q 30 [.ref r0, .int x1, .int x2, .int (x3 + (xI μ4 r0_30 (((w 5) * x4) + (w 1)).toNatClampNeg)), .int (x4 + w 1)] [] μ4) ∧ (¬ v4 = x1 → G Γ m_MO_spans (d + 1) (0, 0) Q 30 [.ref r0, .int x1, .int x2, .int (x3 + (w 0)), .int (x4 + w 1)] [] μ4))))) ∧ (¬ v2 = w 0 → ((x2 = w 1 → Call Γ m_MO_couldBe d [.ref r0, .int x4, .int x1] μ2 (KI (fun v3 μ3 => G Γ m_MO_spans (d + 1) (0, 0) Q 30 [.ref r0, .int x1, .int x2, .int (x3 + v3), .int (x4 + w 1)] [] μ3))) ∧ (¬ x2 = w 1 → G Γ m_MO_spans (d + 1) (0, 0) Q 30 [.ref r0, .int x1, .int x2, .int (x3 + (w 0)), .int (x4 + w 1)] [] μ2))))))) ∧ (¬ x4 < xI μ r0_30 (w 40).toNatClampNeg → Q (some (.int x3)) μ))) : G Γ m_MO_spans (d + 1) (0, 0) Q 30 [.ref r0, .int x1, .int x2, .int x3, .int x4] [] μ := by
  obtain ⟨ib1, h⟩ := h
  refine run_ok (pc' := 39) [(.iload 4, 0, 0, 0), (.aload_n 0, 0, 0, 0), (.getfield 58, 11, 30, 2), (.bipush 40, 0, 0, 0), (.iaload, 0, 0, 0)] _ _ _ _ (by decide +kernel) ?_
  show _ ∧ (∃ _, _ ∧ (_ ∧ (_)))
  refine ⟨o_r0_11, r0_30, e_r0_30, ib1, ?_⟩
  show G Γ m_MO_spans (d + 1) (0, 0) Q 39 [.ref r0, .int x1, .int x2, .int x3, .int x4] [.int (xI μ r0_30 (w 40).toNatClampNeg), .int x4] μ
  refine g_icmp_ge (pc' := 107) (off := 68) (by decide) (by decide +kernel) (fun hc => ?_) (fun hc => ?_)
  · replace h := h.2 hc
    show G Γ m_MO_spans (d + 1) (0, 0) Q 107 [.ref r0, .int x1, .int x2, .int x3, .int x4] [] μ
    refine run_ok (pc' := 108) [(.iload_n 3, 0, 0, 0)] _ _ _ _ (by decide +kernel) ?_
    show G Γ m_MO_spans (d + 1) (0, 0) Q 108 [.ref r0, .int x1, .int x2, .int x3, .int x4] [.int x3] μ
    exact g_reti (by decide +kernel) rfl h
  · replace h := h.1 hc
    show G Γ m_MO_spans (d + 1) (0, 0) Q 42 [.ref r0, .int x1, .int x2, .int x3, .int x4] [] μ
    refine run_ok (pc' := 45) [(.aload_n 0, 0, 0, 0), (.iload 4, 0, 0, 0)] _ _ _ _ (by decide +kernel) ?_
    show G Γ m_MO_spans (d + 1) (0, 0) Q 45 [.ref r0, .int x1, .int x2, .int x3, .int x4] [.int x4, .ref r0] μ
    refine g_invV (M' := m_MO_isNameless) (b1 := 0) (b2 := 0) (As := [.int x4]) (a := r0) (st := []) lk_11_478 (by decide +kernel) rfl (dk_MO_isNameless d) (Nat.le_of_ble_eq_true rfl) (Or.inl ⟨11, o_r0_11, rfl⟩) h ?_
    rintro _ μ2 ⟨v2, rfl, h⟩ hn2
    show G Γ m_MO_spans (d + 1) (0, 0) Q 48 [.ref r0, .int x1, .int x2, .int x3, .int x4] [.int v2] μ2
    refine g_ifz_ne (pc' := 82) (off := 34) (by decide) (by decide +kernel) (fun hc => ?_) (fun hc => ?_)
    · replace h := h.2 hc
      show G Γ m_MO_spans (d + 1) (0, 0) Q 82 [.ref r0, .int x1, .int x2, .int x3, .int x4] [] μ2
      refine run_ok (pc' := 85) [(.iload_n 3, 0, 0, 0), (.iload_n 2, 0, 0, 0), (.iconst 1, 0, 0, 0)] _ _ _ _ (by decide +kernel) ?_
      show G Γ m_MO_spans (d + 1) (0, 0) Q 85 [.ref r0, .int x1, .int x2, .int x3, .int x4] [.int (w 1), .int x2, .int x3] μ2
      refine g_icmp_ne (pc' := 98) (off := 13) (by decide) (by decide +kernel) (fun hc => ?_) (fun hc => ?_)
      · replace h := h.2 hc
        show G Γ m_MO_spans (d + 1) (0, 0) Q 98 [.ref r0, .int x1, .int x2, .int x3, .int x4] [.int x3] μ2
        refine run_ok (pc' := 30) [(.iconst 0, 0, 0, 0), (.iadd, 0, 0, 0), (.istore_n 3, 0, 0, 0), (.iinc 4 1, 0, 0, 0), (.goto (-74), 0, 0, 0)] _ _ _ _ (by decide +kernel) ?_
        show G Γ m_MO_spans (d + 1) (0, 0) Q 30 [.ref r0, .int x1, .int x2, .int (x3 + (w 0)), .int (x4 + w 1)] [] μ2
        exact h
      · replace h := h.1 hc
        show G Γ m_MO_spans (d + 1) (0, 0) Q 88 [.ref r0, .int x1, .int x2, .int x3, .int x4] [.int x3] μ2
        refine run_ok (pc' := 92) [(.aload_n 0, 0, 0, 0), (.iload 4, 0, 0, 0), (.iload_n 1, 0, 0, 0)] _ _ _ _ (by decide +kernel) ?_
        show G Γ m_MO_spans (d + 1) (0, 0) Q 92 [.ref r0, .int x1, .int x2, .int x3, .int x4] [.int x1, .int x4, .ref r0, .int x3] μ2
        refine g_invV (M' := m_MO_couldBe) (b1 := 0) (b2 := 0) (As := [.int x4, .int x1]) (a := r0) (st := [.int x3]) lk_11_481 (by decide +kernel) rfl (dk_MO_couldBe d) (Nat.le_of_ble_eq_true rfl) (Or.inl ⟨11, ((o_r0_11).mono hn2), rfl⟩) h ?_
        rintro _ μ3 ⟨v3, rfl, h⟩ hn3
        show G Γ m_MO_spans (d + 1) (0, 0) Q 95 [.ref r0, .int x1, .int x2, .int x3, .int x4] [.int v3, .int x3] μ3
        refine run_ok (pc' := 30) [(.goto 4, 0, 0, 0), (.iadd, 0, 0, 0), (.istore_n 3, 0, 0, 0), (.iinc 4 1, 0, 0, 0), (.goto (-74), 0, 0, 0)] _ _ _ _ (by decide +kernel) ?_
        show G Γ m_MO_spans (d + 1) (0, 0) Q 30 [.ref r0, .int x1, .int x2, .int (x3 + v3), .int (x4 + w 1)] [] μ3
        exact h
    · replace h := h.1 hc
      show G Γ m_MO_spans (d + 1) (0, 0) Q 51 [.ref r0, .int x1, .int x2, .int x3, .int x4] [] μ2
      refine run_ok (pc' := 55) [(.iload_n 3, 0, 0, 0), (.aload_n 0, 0, 0, 0), (.iload 4, 0, 0, 0)] _ _ _ _ (by decide +kernel) ?_
      show G Γ m_MO_spans (d + 1) (0, 0) Q 55 [.ref r0, .int x1, .int x2, .int x3, .int x4] [.int x4, .ref r0, .int x3] μ2
      refine g_invV (M' := m_MO_kindIn) (b1 := 0) (b2 := 0) (As := [.int x4]) (a := r0) (st := [.int x3]) lk_11_446 (by decide +kernel) rfl (dk_MO_kindIn d) (Nat.le_of_ble_eq_true rfl) (Or.inl ⟨11, ((o_r0_11).mono hn2), rfl⟩) h ?_
      rintro _ μ4 ⟨v4, rfl, h⟩ hn4
      show G Γ m_MO_spans (d + 1) (0, 0) Q 58 [.ref r0, .int x1, .int x2, .int x3, .int x4] [.int v4, .int x3] μ4
      refine run_ok (pc' := 59) [(.iload_n 1, 0, 0, 0)] _ _ _ _ (by decide +kernel) ?_
      show G Γ m_MO_spans (d + 1) (0, 0) Q 59 [.ref r0, .int x1, .int x2, .int x3, .int x4] [.int x1, .int v4, .int x3] μ4
      refine g_icmp_ne (pc' := 76) (off := 17) (by decide) (by decide +kernel) (fun hc => ?_) (fun hc => ?_)
      · replace h := h.2 hc
        show G Γ m_MO_spans (d + 1) (0, 0) Q 76 [.ref r0, .int x1, .int x2, .int x3, .int x4] [.int x3] μ4
        refine run_ok (pc' := 30) [(.iconst 0, 0, 0, 0), (.iadd, 0, 0, 0), (.istore_n 3, 0, 0, 0), (.goto 22, 0, 0, 0), (.iinc 4 1, 0, 0, 0), (.goto (-74), 0, 0, 0)] _ _ _ _ (by decide +kernel) ?_
        show G Γ m_MO_spans (d + 1) (0, 0) Q 30 [.ref r0, .int x1, .int x2, .int (x3 + (w 0)), .int (x4 + w 1)] [] μ4
        exact h
      · replace h := h.1 hc
        show G Γ m_MO_spans (d + 1) (0, 0) Q 62 [.ref r0, .int x1, .int x2, .int x3, .int x4] [.int x3] μ4
        obtain ⟨ea5, h⟩ := h
        obtain ⟨ib6, h⟩ := h
        refine run_ok (pc' := 30) [(.aload_n 0, 0, 0, 0), (.getfield 58, 11, 30, 2), (.iconst 5, 0, 0, 0), (.iload 4, 0, 0, 0), (.imul, 0, 0, 0), (.iconst 1, 0, 0, 0), (.iadd, 0, 0, 0), (.iaload, 0, 0, 0), (.goto 4, 0, 0, 0), (.iadd, 0, 0, 0), (.istore_n 3, 0, 0, 0), (.goto 22, 0, 0, 0), (.iinc 4 1, 0, 0, 0), (.goto (-74), 0, 0, 0)] _ _ _ _ (by decide +kernel) ?_
        show _ ∧ (∃ _, _ ∧ (_ ∧ (_)))
        refine ⟨(((o_r0_11).mono hn2).mono hn4), r0_30, ea5, ib6, ?_⟩
        show G Γ m_MO_spans (d + 1) (0, 0) Q 30 [.ref r0, .int x1, .int x2, .int (x3 + (xI μ4 r0_30 (((w 5) * x4) + (w 1)).toNatClampNeg)), .int (x4 + w 1)] [] μ4
        exact h
/-! FrostBoxModel nameless()I -/
set_option maxRecDepth 100000 in
theorem B_MO_nameless_0 {Γ : XG} {d : Nat} {Q : Option Value → XM → Prop} {r0 : Nat} {μ : XM} (o_r0_11 : ob μ r0 11) (h : ∀ μ1, μ1 = sI μ r0 0 (w 0) → ((xI μ1 r0 25 = w 0 → Q (some (.int (w (-1)))) μ1) ∧ (¬ xI μ1 r0 25 = w 0 → G Γ m_MO_nameless (d + 1) (0, 0) Q 18 [.ref r0, .int (w 0), .int (w 0)] [] μ1))) : G Γ m_MO_nameless (d + 1) (0, 0) Q 0 [.ref r0] [] μ := by
  refine run_ok (pc' := 5) [(.aload_n 0, 0, 0, 0), (.iconst 0, 0, 0, 0), (.putfield 109, 11, 0, 0)] _ _ _ _ (by decide +kernel) ?_
  show _ ∧ (_)
  refine ⟨o_r0_11, ?_⟩
  show G Γ m_MO_nameless (d + 1) (0, 0) Q 5 [.ref r0] [] (sI μ r0 0 (w 0))
  obtain ⟨μ1, em1⟩ : ∃ m : XM, m = sI μ r0 0 (w 0) := ⟨_, rfl⟩
  replace h := h μ1 em1
  have hm1 : xN μ ≤ xN μ1 := by rw [em1]; exact Nat.le_refl _
  rw [← em1]
  refine run_ok (pc' := 9) [(.aload_n 0, 0, 0, 0), (.getfield 307, 11, 25, 0)] _ _ _ _ (by decide +kernel) ?_
  show _ ∧ (_)
  refine ⟨((o_r0_11).mono hm1), ?_⟩
  show G Γ m_MO_nameless (d + 1) (0, 0) Q 9 [.ref r0] [.int (xI μ1 r0 25)] μ1
  refine g_ifz_ne (pc' := 14) (off := 5) (by decide) (by decide +kernel) (fun hc => ?_) (fun hc => ?_)
  · replace h := h.2 hc
    show G Γ m_MO_nameless (d + 1) (0, 0) Q 14 [.ref r0] [] μ1
    refine run_ok (pc' := 18) [(.iconst 0, 0, 0, 0), (.istore_n 1, 0, 0, 0), (.iconst 0, 0, 0, 0), (.istore_n 2, 0, 0, 0)] _ _ _ _ (by decide +kernel) ?_
    show G Γ m_MO_nameless (d + 1) (0, 0) Q 18 [.ref r0, .int (w 0), .int (w 0)] [] μ1
    exact h
  · replace h := h.1 hc
    show G Γ m_MO_nameless (d + 1) (0, 0) Q 12 [.ref r0] [] μ1
    refine run_ok (pc' := 13) [(.iconst (-1), 0, 0, 0)] _ _ _ _ (by decide +kernel) ?_
    show G Γ m_MO_nameless (d + 1) (0, 0) Q 13 [.ref r0] [.int (w (-1))] μ1
    exact g_reti (by decide +kernel) rfl h
set_option maxRecDepth 100000 in
theorem B_MO_nameless_18 {Γ : XG} {d : Nat} {Q : Option Value → XM → Prop} {r0 r0_30 : Nat} {x1 x2 : Int32} {μ : XM} (o_r0_11 : ob μ r0 11) (e_r0_30 : xR μ r0 30 = some r0_30) (h : inb μ 0 r0_30 (w 40) ∧ ((x2 < xI μ r0_30 (w 40).toNatClampNeg → Call Γ m_MO_isNameless d [.ref r0, .int x2] μ (KI (fun v2 μ2 => ((v2 = w 0 → G Γ m_MO_nameless (d + 1) (0, 0) Q 18 [.ref r0, .int (x1 ||| (w 0)), .int (x2 + w 1)] [] μ2) ∧ (¬ v2 = w 0 → G Γ m_MO_nameless (d + 1) (0, 0) Q 18 [.ref r0, .int (x1 ||| ((w 1) <<< (x2 &&& 31))), .int (x2 + w 1)] [] μ2))))) ∧ (¬ x2 < xI μ r0_30 (w 40).toNatClampNeg → Q (some (.int x1)) μ))) : G Γ m_MO_nameless (d + 1) (0, 0) Q 18 [.ref r0, .int x1, .int x2] [] μ := by
  obtain ⟨ib1, h⟩ := h
  refine run_ok (pc' := 26) [(.iload_n 2, 0, 0, 0), (.aload_n 0, 0, 0, 0), (.getfield 58, 11, 30, 2), (.bipush 40, 0, 0, 0), (.iaload, 0, 0, 0)] _ _ _ _ (by decide +kernel) ?_
  show _ ∧ (∃ _, _ ∧ (_ ∧ (_)))
  refine ⟨o_r0_11, r0_30, e_r0_30, ib1, ?_⟩
  show G Γ m_MO_nameless (d + 1) (0, 0) Q 26 [.ref r0, .int x1, .int x2] [.int (xI μ r0_30 (w 40).toNatClampNeg), .int x2] μ
  refine g_icmp_ge (pc' := 53) (off := 27) (by decide) (by decide +kernel) (fun hc => ?_) (fun hc => ?_)
  · replace h := h.2 hc
    show G Γ m_MO_nameless (d + 1) (0, 0) Q 53 [.ref r0, .int x1, .int x2] [] μ
    refine run_ok (pc' := 54) [(.iload_n 1, 0, 0, 0)] _ _ _ _ (by decide +kernel) ?_
    show G Γ m_MO_nameless (d + 1) (0, 0) Q 54 [.ref r0, .int x1, .int x2] [.int x1] μ
    exact g_reti (by decide +kernel) rfl h
  · replace h := h.1 hc
    show G Γ m_MO_nameless (d + 1) (0, 0) Q 29 [.ref r0, .int x1, .int x2] [] μ
    refine run_ok (pc' := 32) [(.iload_n 1, 0, 0, 0), (.aload_n 0, 0, 0, 0), (.iload_n 2, 0, 0, 0)] _ _ _ _ (by decide +kernel) ?_
    show G Γ m_MO_nameless (d + 1) (0, 0) Q 32 [.ref r0, .int x1, .int x2] [.int x2, .ref r0, .int x1] μ
    refine g_invV (M' := m_MO_isNameless) (b1 := 0) (b2 := 0) (As := [.int x2]) (a := r0) (st := [.int x1]) lk_11_478 (by decide +kernel) rfl (dk_MO_isNameless d) (Nat.le_of_ble_eq_true rfl) (Or.inl ⟨11, o_r0_11, rfl⟩) h ?_
    rintro _ μ2 ⟨v2, rfl, h⟩ hn2
    show G Γ m_MO_nameless (d + 1) (0, 0) Q 35 [.ref r0, .int x1, .int x2] [.int v2, .int x1] μ2
    refine g_ifz_eq (pc' := 44) (off := 9) (by decide) (by decide +kernel) (fun hc => ?_) (fun hc => ?_)
    · replace h := h.1 hc
      show G Γ m_MO_nameless (d + 1) (0, 0) Q 44 [.ref r0, .int x1, .int x2] [.int x1] μ2
      refine run_ok (pc' := 18) [(.iconst 0, 0, 0, 0), (.ior, 0, 0, 0), (.istore_n 1, 0, 0, 0), (.iinc 2 1, 0, 0, 0), (.goto (-32), 0, 0, 0)] _ _ _ _ (by decide +kernel) ?_
      show G Γ m_MO_nameless (d + 1) (0, 0) Q 18 [.ref r0, .int (x1 ||| (w 0)), .int (x2 + w 1)] [] μ2
      exact h
    · replace h := h.2 hc
      show G Γ m_MO_nameless (d + 1) (0, 0) Q 38 [.ref r0, .int x1, .int x2] [.int x1] μ2
      refine run_ok (pc' := 18) [(.iconst 1, 0, 0, 0), (.iload_n 2, 0, 0, 0), (.ishl, 0, 0, 0), (.goto 4, 0, 0, 0), (.ior, 0, 0, 0), (.istore_n 1, 0, 0, 0), (.iinc 2 1, 0, 0, 0), (.goto (-32), 0, 0, 0)] _ _ _ _ (by decide +kernel) ?_
      show G Γ m_MO_nameless (d + 1) (0, 0) Q 18 [.ref r0, .int (x1 ||| ((w 1) <<< (x2 &&& 31))), .int (x2 + w 1)] [] μ2
      exact h
/-! FrostBoxModel doubles(I)I -/
set_option maxRecDepth 100000 in
theorem B_MO_doubles_0 {Γ : XG} {d : Nat} {Q : Option Value → XM → Prop} {r0 : Nat} {x1 : Int32} {μ : XM} (o_r0_11 : ob μ r0 11) (h : ∀ μ1, μ1 = sI μ r0 0 (w 0) → ((xI μ1 r0 25 = w 0 → Q (some (.int (w (-1)))) μ1) ∧ (¬ xI μ1 r0 25 = w 0 → ((x1 < w (-1) → Q (some (.int (w (-1)))) μ1) ∧ (¬ x1 < w (-1) → G Γ m_MO_doubles (d + 1) (0, 0) Q 23 [.ref r0, .int x1, .int (w 0), .int (w 0)] [] μ1))))) : G Γ m_MO_doubles (d + 1) (0, 0) Q 0 [.ref r0, .int x1] [] μ := by
  refine run_ok (pc' := 5) [(.aload_n 0, 0, 0, 0), (.iconst 0, 0, 0, 0), (.putfield 109, 11, 0, 0)] _ _ _ _ (by decide +kernel) ?_
  show _ ∧ (_)
  refine ⟨o_r0_11, ?_⟩
  show G Γ m_MO_doubles (d + 1) (0, 0) Q 5 [.ref r0, .int x1] [] (sI μ r0 0 (w 0))
  obtain ⟨μ1, em1⟩ : ∃ m : XM, m = sI μ r0 0 (w 0) := ⟨_, rfl⟩
  replace h := h μ1 em1
  have hm1 : xN μ ≤ xN μ1 := by rw [em1]; exact Nat.le_refl _
  rw [← em1]
  refine run_ok (pc' := 9) [(.aload_n 0, 0, 0, 0), (.getfield 307, 11, 25, 0)] _ _ _ _ (by decide +kernel) ?_
  show _ ∧ (_)
  refine ⟨((o_r0_11).mono hm1), ?_⟩
  show G Γ m_MO_doubles (d + 1) (0, 0) Q 9 [.ref r0, .int x1] [.int (xI μ1 r0 25)] μ1
  refine g_ifz_eq (pc' := 17) (off := 8) (by decide) (by decide +kernel) (fun hc => ?_) (fun hc => ?_)
  · replace h := h.1 hc
    show G Γ m_MO_doubles (d + 1) (0, 0) Q 17 [.ref r0, .int x1] [] μ1
    refine run_ok (pc' := 18) [(.iconst (-1), 0, 0, 0)] _ _ _ _ (by decide +kernel) ?_
    show G Γ m_MO_doubles (d + 1) (0, 0) Q 18 [.ref r0, .int x1] [.int (w (-1))] μ1
    exact g_reti (by decide +kernel) rfl h
  · replace h := h.2 hc
    show G Γ m_MO_doubles (d + 1) (0, 0) Q 12 [.ref r0, .int x1] [] μ1
    refine run_ok (pc' := 14) [(.iload_n 1, 0, 0, 0), (.iconst (-1), 0, 0, 0)] _ _ _ _ (by decide +kernel) ?_
    show G Γ m_MO_doubles (d + 1) (0, 0) Q 14 [.ref r0, .int x1] [.int (w (-1)), .int x1] μ1
    refine g_icmp_ge (pc' := 19) (off := 5) (by decide) (by decide +kernel) (fun hc => ?_) (fun hc => ?_)
    · replace h := h.2 hc
      show G Γ m_MO_doubles (d + 1) (0, 0) Q 19 [.ref r0, .int x1] [] μ1
      refine run_ok (pc' := 23) [(.iconst 0, 0, 0, 0), (.istore_n 2, 0, 0, 0), (.iconst 0, 0, 0, 0), (.istore_n 3, 0, 0, 0)] _ _ _ _ (by decide +kernel) ?_
      show G Γ m_MO_doubles (d + 1) (0, 0) Q 23 [.ref r0, .int x1, .int (w 0), .int (w 0)] [] μ1
      exact h
    · replace h := h.1 hc
      show G Γ m_MO_doubles (d + 1) (0, 0) Q 17 [.ref r0, .int x1] [] μ1
      refine run_ok (pc' := 18) [(.iconst (-1), 0, 0, 0)] _ _ _ _ (by decide +kernel) ?_
      show G Γ m_MO_doubles (d + 1) (0, 0) Q 18 [.ref r0, .int x1] [.int (w (-1))] μ1
      exact g_reti (by decide +kernel) rfl h
set_option maxRecDepth 100000 in
theorem B_MO_doubles_23 {Γ : XG} {d : Nat} {Q : Option Value → XM → Prop} {r0 r0_30 : Nat} {x1 x2 x3 : Int32} {μ : XM} (o_r0_11 : ob μ r0 11) (e_r0_30 : xR μ r0 30 = some r0_30) (h : inb μ 0 r0_30 (w 40) ∧ ((x3 < xI μ r0_30 (w 40).toNatClampNeg → G Γ m_MO_doubles (d + 1) (0, 0) Q 39 [.ref r0, .int x1, .int x2, .int x3, .int (x3 + (w 1))] [] μ) ∧ (¬ x3 < xI μ r0_30 (w 40).toNatClampNeg → ((x1 = w (-1) → Q (some (.int x2)) μ) ∧ (¬ x1 = w (-1) → Q (some (.int (w (-1)))) μ))))) : G Γ m_MO_doubles (d + 1) (0, 0) Q 23 [.ref r0, .int x1, .int x2, .int x3] [] μ := by
  obtain ⟨ib1, h⟩ := h
  refine run_ok (pc' := 31) [(.iload_n 3, 0, 0, 0), (.aload_n 0, 0, 0, 0), (.getfield 58, 11, 30, 2), (.bipush 40, 0, 0, 0), (.iaload, 0, 0, 0)] _ _ _ _ (by decide +kernel) ?_
  show _ ∧ (∃ _, _ ∧ (_ ∧ (_)))
  refine ⟨o_r0_11, r0_30, e_r0_30, ib1, ?_⟩
  show G Γ m_MO_doubles (d + 1) (0, 0) Q 31 [.ref r0, .int x1, .int x2, .int x3] [.int (xI μ r0_30 (w 40).toNatClampNeg), .int x3] μ
  refine g_icmp_ge (pc' := 145) (off := 114) (by decide) (by decide +kernel) (fun hc => ?_) (fun hc => ?_)
  · replace h := h.2 hc
    show G Γ m_MO_doubles (d + 1) (0, 0) Q 145 [.ref r0, .int x1, .int x2, .int x3] [] μ
    refine run_ok (pc' := 147) [(.iload_n 1, 0, 0, 0), (.iconst (-1), 0, 0, 0)] _ _ _ _ (by decide +kernel) ?_
    show G Γ m_MO_doubles (d + 1) (0, 0) Q 147 [.ref r0, .int x1, .int x2, .int x3] [.int (w (-1)), .int x1] μ
    refine g_icmp_ne (pc' := 154) (off := 7) (by decide) (by decide +kernel) (fun hc => ?_) (fun hc => ?_)
    · replace h := h.2 hc
      show G Γ m_MO_doubles (d + 1) (0, 0) Q 154 [.ref r0, .int x1, .int x2, .int x3] [] μ
      refine run_ok (pc' := 155) [(.iconst (-1), 0, 0, 0)] _ _ _ _ (by decide +kernel) ?_
      show G Γ m_MO_doubles (d + 1) (0, 0) Q 155 [.ref r0, .int x1, .int x2, .int x3] [.int (w (-1))] μ
      exact g_reti (by decide +kernel) rfl h
    · replace h := h.1 hc
      show G Γ m_MO_doubles (d + 1) (0, 0) Q 150 [.ref r0, .int x1, .int x2, .int x3] [] μ
      refine run_ok (pc' := 155) [(.iload_n 2, 0, 0, 0), (.goto 4, 0, 0, 0)] _ _ _ _ (by decide +kernel) ?_
      show G Γ m_MO_doubles (d + 1) (0, 0) Q 155 [.ref r0, .int x1, .int x2, .int x3] [.int x2] μ
      exact g_reti (by decide +kernel) rfl h
  · replace h := h.1 hc
    show G Γ m_MO_doubles (d + 1) (0, 0) Q 34 [.ref r0, .int x1, .int x2, .int x3] [] μ
    refine run_ok (pc' := 39) [(.iload_n 3, 0, 0, 0), (.iconst 1, 0, 0, 0), (.iadd, 0, 0, 0), (.istore 4, 0, 0, 0)] _ _ _ _ (by decide +kernel) ?_
    show G Γ m_MO_doubles (d + 1) (0, 0) Q 39 [.ref r0, .int x1, .int x2, .int x3, .int (x3 + (w 1))] [] μ
    exact h
set_option maxRecDepth 100000 in
theorem B_MO_doubles_39 {Γ : XG} {d : Nat} {Q : Option Value → XM → Prop} {r0 r0_30 : Nat} {x1 x2 x3 x4 : Int32} {μ : XM} (o_r0_11 : ob μ r0 11) (e_r0_30 : xR μ r0 30 = some r0_30) (h : inb μ 0 r0_30 (w 40) ∧ ((x4 < xI μ r0_30 (w 40).toNatClampNeg → Call Γ m_MO_isNameless d [.ref r0, .int x3] μ (KI (fun v2 μ2 => ((v2 = w 0 → G Γ m_MO_doubles (d + 1) (0, 0) Q 39 [.ref r0, .int x1, .int x2, .int x3, .int (x4 + w 1)] [] μ2) ∧ (¬ v2 = w 0 → Call Γ m_MO_isNameless d [.ref r0, .int x4] μ2 (KI (fun v3 μ3 => ((v3 = w 0 → G Γ m_MO_doubles (d + 1) (0, 0) Q 39 [.ref r0, .int x1, .int x2, .int x3, .int (x4 + w 1)] [] μ3) ∧ (¬ v3 = w 0 → Call Γ m_MO_kindIn d [.ref r0, .int x3] μ3 (KI (fun v4 μ4 => Call Γ m_MO_told d [.ref r0, .int v4, .int (w 0)] μ4 (KI (fun v5 μ5 => Call Γ m_MO_kindIn d [.ref r0, .int x4] μ5 (KI (fun v6 μ6 => Call Γ m_MO_told d [.ref r0, .int v6, .int (w 0)] μ6 (KI (fun v7 μ7 => ((v5 = v7 → xR μ7 r0 30 = some r0_30 ∧ Call Γ m_MO_weightOf d [.ref r0, .ref r0_30, .int x3] μ7 (KI (fun v9 μ9 => xR μ9 r0 30 = some r0_30 ∧ Call Γ m_MO_weightOf d [.ref r0, .ref r0_30, .int x4] μ9 (KI (fun v11 μ11 => ((v9 = v11 → ((x2 = x1 → Q (some (.int (((w 10) * x3) + x4))) μ11) ∧ (¬ x2 = x1 → G Γ m_MO_doubles (d + 1) (0, 0) Q 39 [.ref r0, .int x1, .int (x2 + w 1), .int x3, .int (x4 + w 1)] [] μ11))) ∧ (¬ v9 = v11 → G Γ m_MO_doubles (d + 1) (0, 0) Q 39 [.ref r0, .int x1, .int x2, .int x3, .int (x4 + w 1)] [] μ11))))))) ∧ (¬ v5 = v7 → G Γ m_MO_doubles (d + 1) (0, 0) Q 39 [.ref r0, .int x1, .int x2, .int x3, .int (x4 + w 1)] [] μ7))))))))))))))))))) ∧ (¬ x4 < xI μ r0_30 (w 40).toNatClampNeg → G Γ m_MO_doubles (d + 1) (0, 0) Q 23 [.ref r0, .int x1, .int x2, .int (x3 + w 1)] [] μ))) : G Γ m_MO_doubles (d + 1) (0, 0) Q 39 [.ref r0, .int x1, .int x2, .int x3, .int x4] [] μ := by
  obtain ⟨ib1, h⟩ := h
  refine run_ok (pc' := 48) [(.iload 4, 0, 0, 0), (.aload_n 0, 0, 0, 0), (.getfield 58, 11, 30, 2), (.bipush 40, 0, 0, 0), (.iaload, 0, 0, 0)] _ _ _ _ (by decide +kernel) ?_
  show _ ∧ (∃ _, _ ∧ (_ ∧ (_)))
  refine ⟨o_r0_11, r0_30, e_r0_30, ib1, ?_⟩
  show G Γ m_MO_doubles (d + 1) (0, 0) Q 48 [.ref r0, .int x1, .int x2, .int x3, .int x4] [.int (xI μ r0_30 (w 40).toNatClampNeg), .int x4] μ
  refine g_icmp_ge (pc' := 139) (off := 91) (by decide) (by decide +kernel) (fun hc => ?_) (fun hc => ?_)
  · replace h := h.2 hc
    show G Γ m_MO_doubles (d + 1) (0, 0) Q 139 [.ref r0, .int x1, .int x2, .int x3, .int x4] [] μ
    refine run_ok (pc' := 23) [(.iinc 3 1, 0, 0, 0), (.goto (-119), 0, 0, 0)] _ _ _ _ (by decide +kernel) ?_
    show G Γ m_MO_doubles (d + 1) (0, 0) Q 23 [.ref r0, .int x1, .int x2, .int (x3 + w 1), .int x4] [] μ
    exact g_wk (ls' := [.ref r0, .int x1, .int x2, .int (x3 + w 1)]) ⟨Or.inr rfl, Or.inr rfl, Or.inr rfl, Or.inr rfl, trivial⟩ h
  · replace h := h.1 hc
    show G Γ m_MO_doubles (d + 1) (0, 0) Q 51 [.ref r0, .int x1, .int x2, .int x3, .int x4] [] μ
    refine run_ok (pc' := 53) [(.aload_n 0, 0, 0, 0), (.iload_n 3, 0, 0, 0)] _ _ _ _ (by decide +kernel) ?_
    show G Γ m_MO_doubles (d + 1) (0, 0) Q 53 [.ref r0, .int x1, .int x2, .int x3, .int x4] [.int x3, .ref r0] μ
    refine g_invV (M' := m_MO_isNameless) (b1 := 0) (b2 := 0) (As := [.int x3]) (a := r0) (st := []) lk_11_478 (by decide +kernel) rfl (dk_MO_isNameless d) (Nat.le_of_ble_eq_true rfl) (Or.inl ⟨11, o_r0_11, rfl⟩) h ?_
    rintro _ μ2 ⟨v2, rfl, h⟩ hn2
    show G Γ m_MO_doubles (d + 1) (0, 0) Q 56 [.ref r0, .int x1, .int x2, .int x3, .int x4] [.int v2] μ2
    refine g_ifz_eq (pc' := 133) (off := 77) (by decide) (by decide +kernel) (fun hc => ?_) (fun hc => ?_)
    · replace h := h.1 hc
      show G Γ m_MO_doubles (d + 1) (0, 0) Q 133 [.ref r0, .int x1, .int x2, .int x3, .int x4] [] μ2
      refine run_ok (pc' := 39) [(.iinc 4 1, 0, 0, 0), (.goto (-97), 0, 0, 0)] _ _ _ _ (by decide +kernel) ?_
      show G Γ m_MO_doubles (d + 1) (0, 0) Q 39 [.ref r0, .int x1, .int x2, .int x3, .int (x4 + w 1)] [] μ2
      exact h
    · replace h := h.2 hc
      show G Γ m_MO_doubles (d + 1) (0, 0) Q 59 [.ref r0, .int x1, .int x2, .int x3, .int x4] [] μ2
      refine run_ok (pc' := 62) [(.aload_n 0, 0, 0, 0), (.iload 4, 0, 0, 0)] _ _ _ _ (by decide +kernel) ?_
      show G Γ m_MO_doubles (d + 1) (0, 0) Q 62 [.ref r0, .int x1, .int x2, .int x3, .int x4] [.int x4, .ref r0] μ2
      refine g_invV (M' := m_MO_isNameless) (b1 := 0) (b2 := 0) (As := [.int x4]) (a := r0) (st := []) lk_11_478 (by decide +kernel) rfl (dk_MO_isNameless d) (Nat.le_of_ble_eq_true rfl) (Or.inl ⟨11, ((o_r0_11).mono hn2), rfl⟩) h ?_
      rintro _ μ3 ⟨v3, rfl, h⟩ hn3
      show G Γ m_MO_doubles (d + 1) (0, 0) Q 65 [.ref r0, .int x1, .int x2, .int x3, .int x4] [.int v3] μ3
      refine g_ifz_eq (pc' := 133) (off := 68) (by decide) (by decide +kernel) (fun hc => ?_) (fun hc => ?_)
      · replace h := h.1 hc
        show G Γ m_MO_doubles (d + 1) (0, 0) Q 133 [.ref r0, .int x1, .int x2, .int x3, .int x4] [] μ3
        refine run_ok (pc' := 39) [(.iinc 4 1, 0, 0, 0), (.goto (-97), 0, 0, 0)] _ _ _ _ (by decide +kernel) ?_
        show G Γ m_MO_doubles (d + 1) (0, 0) Q 39 [.ref r0, .int x1, .int x2, .int x3, .int (x4 + w 1)] [] μ3
        exact h
      · replace h := h.2 hc
        show G Γ m_MO_doubles (d + 1) (0, 0) Q 68 [.ref r0, .int x1, .int x2, .int x3, .int x4] [] μ3
        refine run_ok (pc' := 71) [(.aload_n 0, 0, 0, 0), (.aload_n 0, 0, 0, 0), (.iload_n 3, 0, 0, 0)] _ _ _ _ (by decide +kernel) ?_
        show G Γ m_MO_doubles (d + 1) (0, 0) Q 71 [.ref r0, .int x1, .int x2, .int x3, .int x4] [.int x3, .ref r0, .ref r0] μ3
        refine g_invV (M' := m_MO_kindIn) (b1 := 0) (b2 := 0) (As := [.int x3]) (a := r0) (st := [.ref r0]) lk_11_446 (by decide +kernel) rfl (dk_MO_kindIn d) (Nat.le_of_ble_eq_true rfl) (Or.inl ⟨11, (((o_r0_11).mono hn2).mono hn3), rfl⟩) h ?_
        rintro _ μ4 ⟨v4, rfl, h⟩ hn4
        show G Γ m_MO_doubles (d + 1) (0, 0) Q 74 [.ref r0, .int x1, .int x2, .int x3, .int x4] [.int v4, .ref r0] μ4
        refine run_ok (pc' := 75) [(.iconst 0, 0, 0, 0)] _ _ _ _ (by decide +kernel) ?_
        show G Γ m_MO_doubles (d + 1) (0, 0) Q 75 [.ref r0, .int x1, .int x2, .int x3, .int x4] [.int (w 0), .int v4, .ref r0] μ4
        refine g_invV (M' := m_MO_told) (b1 := 0) (b2 := 0) (As := [.int v4, .int (w 0)]) (a := r0) (st := []) lk_11_322 (by decide +kernel) rfl (dk_MO_told d) (Nat.le_of_ble_eq_true rfl) (Or.inl ⟨11, ((((o_r0_11).mono hn2).mono hn3).mono hn4), rfl⟩) h ?_
        rintro _ μ5 ⟨v5, rfl, h⟩ hn5
        show G Γ m_MO_doubles (d + 1) (0, 0) Q 78 [.ref r0, .int x1, .int x2, .int x3, .int x4] [.int v5] μ5
        refine run_ok (pc' := 82) [(.aload_n 0, 0, 0, 0), (.aload_n 0, 0, 0, 0), (.iload 4, 0, 0, 0)] _ _ _ _ (by decide +kernel) ?_
        show G Γ m_MO_doubles (d + 1) (0, 0) Q 82 [.ref r0, .int x1, .int x2, .int x3, .int x4] [.int x4, .ref r0, .ref r0, .int v5] μ5
        refine g_invV (M' := m_MO_kindIn) (b1 := 0) (b2 := 0) (As := [.int x4]) (a := r0) (st := [.ref r0, .int v5]) lk_11_446 (by decide +kernel) rfl (dk_MO_kindIn d) (Nat.le_of_ble_eq_true rfl) (Or.inl ⟨11, (((((o_r0_11).mono hn2).mono hn3).mono hn4).mono hn5), rfl⟩) h ?_
        rintro _ μ6 ⟨v6, rfl, h⟩ hn6
        show G Γ m_MO_doubles (d + 1) (0, 0) Q 85 [.ref r0, .int x1, .int x2, .int x3, .int x4] [.int v6, .ref r0, .int v5] μ6
        refine run_ok (pc' := 86) [(.iconst 0, 0, 0, 0)] _ _ _ _ (by decide +kernel) ?_
        show G Γ m_MO_doubles (d + 1) (0, 0) Q 86 [.ref r0, .int x1, .int x2, .int x3, .int x4] [.int (w 0), .int v6, .ref r0, .int v5] μ6
        refine g_invV (M' := m_MO_told) (b1 := 0) (b2 := 0) (As := [.int v6, .int (w 0)]) (a := r0) (st := [.int v5]) lk_11_322 (by decide +kernel) rfl (dk_MO_told d) (Nat.le_of_ble_eq_true rfl) (Or.inl ⟨11, ((((((o_r0_11).mono hn2).mono hn3).mono hn4).mono hn5).mono hn6), rfl⟩) h ?_
        rintro _ μ7 ⟨v7, rfl, h⟩ hn7
        show G Γ m_MO_doubles (d + 1) (0, 0) Q 89 [.ref r0, .int x1, .int x2, .int x3, .int x4] [.int v7, .int v5] μ7
        refine g_icmp_ne (pc' := 133) (off := 44) (by decide) (by decide +kernel) (fun hc => ?_) (fun hc => ?_)
        · replace h := h.2 hc
          show G Γ m_MO_doubles (d + 1) (0, 0) Q 133 [.ref r0, .int x1, .int x2, .int x3, .int x4] [] μ7
          refine run_ok (pc' := 39) [(.iinc 4 1, 0, 0, 0), (.goto (-97), 0, 0, 0)] _ _ _ _ (by decide +kernel) ?_
          show G Γ m_MO_doubles (d + 1) (0, 0) Q 39 [.ref r0, .int x1, .int x2, .int x3, .int (x4 + w 1)] [] μ7
          exact h
        · replace h := h.1 hc
          show G Γ m_MO_doubles (d + 1) (0, 0) Q 92 [.ref r0, .int x1, .int x2, .int x3, .int x4] [] μ7
          obtain ⟨ea8, h⟩ := h
          refine run_ok (pc' := 98) [(.aload_n 0, 0, 0, 0), (.aload_n 0, 0, 0, 0), (.getfield 58, 11, 30, 2), (.iload_n 3, 0, 0, 0)] _ _ _ _ (by decide +kernel) ?_
          show _ ∧ (∃ _, _ ∧ (_))
          refine ⟨(((((((o_r0_11).mono hn2).mono hn3).mono hn4).mono hn5).mono hn6).mono hn7), r0_30, ea8, ?_⟩
          show G Γ m_MO_doubles (d + 1) (0, 0) Q 98 [.ref r0, .int x1, .int x2, .int x3, .int x4] [.int x3, .ref r0_30, .ref r0] μ7
          refine g_invV (M' := m_MO_weightOf) (b1 := 0) (b2 := 0) (As := [.ref r0_30, .int x3]) (a := r0) (st := []) lk_11_367 (by decide +kernel) rfl (dk_MO_weightOf d) (Nat.le_of_ble_eq_true rfl) (Or.inl ⟨11, (((((((o_r0_11).mono hn2).mono hn3).mono hn4).mono hn5).mono hn6).mono hn7), rfl⟩) h ?_
          rintro _ μ9 ⟨v9, rfl, h⟩ hn9
          show G Γ m_MO_doubles (d + 1) (0, 0) Q 101 [.ref r0, .int x1, .int x2, .int x3, .int x4] [.int v9] μ9
          obtain ⟨ea10, h⟩ := h
          refine run_ok (pc' := 108) [(.aload_n 0, 0, 0, 0), (.aload_n 0, 0, 0, 0), (.getfield 58, 11, 30, 2), (.iload 4, 0, 0, 0)] _ _ _ _ (by decide +kernel) ?_
          show _ ∧ (∃ _, _ ∧ (_))
          refine ⟨((((((((o_r0_11).mono hn2).mono hn3).mono hn4).mono hn5).mono hn6).mono hn7).mono hn9), r0_30, ea10, ?_⟩
          show G Γ m_MO_doubles (d + 1) (0, 0) Q 108 [.ref r0, .int x1, .int x2, .int x3, .int x4] [.int x4, .ref r0_30, .ref r0, .int v9] μ9
          refine g_invV (M' := m_MO_weightOf) (b1 := 0) (b2 := 0) (As := [.ref r0_30, .int x4]) (a := r0) (st := [.int v9]) lk_11_367 (by decide +kernel) rfl (dk_MO_weightOf d) (Nat.le_of_ble_eq_true rfl) (Or.inl ⟨11, ((((((((o_r0_11).mono hn2).mono hn3).mono hn4).mono hn5).mono hn6).mono hn7).mono hn9), rfl⟩) h ?_
          rintro _ μ11 ⟨v11, rfl, h⟩ hn11
          show G Γ m_MO_doubles (d + 1) (0, 0) Q 111 [.ref r0, .int x1, .int x2, .int x3, .int x4] [.int v11, .int v9] μ11
          refine g_icmp_eq (pc' := 117) (off := 6) (by decide) (by decide +kernel) (fun hc => ?_) (fun hc => ?_)
          · replace h := h.1 hc
            show G Γ m_MO_doubles (d + 1) (0, 0) Q 117 [.ref r0, .int x1, .int x2, .int x3, .int x4] [] μ11
            refine run_ok (pc' := 119) [(.iload_n 2, 0, 0, 0), (.iload_n 1, 0, 0, 0)] _ _ _ _ (by decide +kernel) ?_
            show G Γ m_MO_doubles (d + 1) (0, 0) Q 119 [.ref r0, .int x1, .int x2, .int x3, .int x4] [.int x1, .int x2] μ11
            refine g_icmp_ne (pc' := 130) (off := 11) (by decide) (by decide +kernel) (fun hc => ?_) (fun hc => ?_)
            · replace h := h.2 hc
              show G Γ m_MO_doubles (d + 1) (0, 0) Q 130 [.ref r0, .int x1, .int x2, .int x3, .int x4] [] μ11
              refine run_ok (pc' := 39) [(.iinc 2 1, 0, 0, 0), (.iinc 4 1, 0, 0, 0), (.goto (-97), 0, 0, 0)] _ _ _ _ (by decide +kernel) ?_
              show G Γ m_MO_doubles (d + 1) (0, 0) Q 39 [.ref r0, .int x1, .int (x2 + w 1), .int x3, .int (x4 + w 1)] [] μ11
              exact h
            · replace h := h.1 hc
              show G Γ m_MO_doubles (d + 1) (0, 0) Q 122 [.ref r0, .int x1, .int x2, .int x3, .int x4] [] μ11
              refine run_ok (pc' := 129) [(.bipush 10, 0, 0, 0), (.iload_n 3, 0, 0, 0), (.imul, 0, 0, 0), (.iload 4, 0, 0, 0), (.iadd, 0, 0, 0)] _ _ _ _ (by decide +kernel) ?_
              show G Γ m_MO_doubles (d + 1) (0, 0) Q 129 [.ref r0, .int x1, .int x2, .int x3, .int x4] [.int (((w 10) * x3) + x4)] μ11
              exact g_reti (by decide +kernel) rfl h
          · replace h := h.2 hc
            show G Γ m_MO_doubles (d + 1) (0, 0) Q 114 [.ref r0, .int x1, .int x2, .int x3, .int x4] [] μ11
            refine run_ok (pc' := 39) [(.goto 19, 0, 0, 0), (.iinc 4 1, 0, 0, 0), (.goto (-97), 0, 0, 0)] _ _ _ _ (by decide +kernel) ?_
            show G Γ m_MO_doubles (d + 1) (0, 0) Q 39 [.ref r0, .int x1, .int x2, .int x3, .int (x4 + w 1)] [] μ11
            exact h
/-! FrostBoxModel peek(II)I -/
set_option maxRecDepth 100000 in
theorem B_MO_peek_0 {Γ : XG} {d : Nat} {Q : Option Value → XM → Prop} {r0 : Nat} {x1 x2 : Int32} {μ : XM} (o_r0_11 : ob μ r0 11) (h : ∀ μ1, μ1 = sI μ r0 0 (w 0) → ((xI μ1 r0 25 = w 0 → Q (some (.int (w (-1)))) μ1) ∧ (¬ xI μ1 r0 25 = w 0 → Call Γ m_MO_isIn d [.long (x1.toInt64), .long (wl 0), .long (wl 1)] μ1 (KI (fun v2 μ2 => ((v2 = w 0 → Q (some (.int (w (-1)))) μ2) ∧ (¬ v2 = w 0 → ((x1 = w 0 → Call Γ m_MO_isIn d [.long (x2.toInt64), .long (x1.toInt64), .long (wl 5)] μ2 (KI (fun v11 μ11 => ((v11 = w 0 → Q (some (.int (w (-1)))) μ11) ∧ (¬ v11 = w 0 → ((xI μ11 r0 43 = w 12 → Q (some (.int (w (-1)))) μ11) ∧ (¬ xI μ11 r0 43 = w 12 → ∃ a12, xR μ11 r0 41 = some a12 ∧ inS μ11 0 a12 (xI μ11 r0 43) ∧ ∀ μ14, μ14 = sI μ11 a12 (xI μ11 r0 43).toNatClampNeg x1 → ∃ a15, xR μ14 r0 42 = some a15 ∧ inS μ14 0 a15 (xI μ14 r0 43) ∧ ∀ μ17, μ17 = sI μ14 a15 (xI μ14 r0 43).toNatClampNeg x2 → ∀ μ18, μ18 = sI μ17 r0 43 ((xI μ17 r0 43) + (w 1)) → Q (some (.int (xI μ18 r0 43))) μ18))))))) ∧ (¬ x1 = w 0 → Call Γ m_MO_isIn d [.long (x2.toInt64), .long (x1.toInt64), .long (wl 9)] μ2 (KI (fun v3 μ3 => ((v3 = w 0 → Q (some (.int (w (-1)))) μ3) ∧ (¬ v3 = w 0 → ((xI μ3 r0 43 = w 12 → Q (some (.int (w (-1)))) μ3) ∧ (¬ xI μ3 r0 43 = w 12 → ∃ a4, xR μ3 r0 41 = some a4 ∧ inS μ3 0 a4 (xI μ3 r0 43) ∧ ∀ μ6, μ6 = sI μ3 a4 (xI μ3 r0 43).toNatClampNeg x1 → ∃ a7, xR μ6 r0 42 = some a7 ∧ inS μ6 0 a7 (xI μ6 r0 43) ∧ ∀ μ9, μ9 = sI μ6 a7 (xI μ6 r0 43).toNatClampNeg x2 → ∀ μ10, μ10 = sI μ9 r0 43 ((xI μ9 r0 43) + (w 1)) → Q (some (.int (xI μ10 r0 43))) μ10))))))))))))))) : G Γ m_MO_peek (d + 1) (0, 0) Q 0 [.ref r0, .int x1, .int x2] [] μ := by
  refine run_ok (pc' := 5) [(.aload_n 0, 0, 0, 0), (.iconst 0, 0, 0, 0), (.putfield 109, 11, 0, 0)] _ _ _ _ (by decide +kernel) ?_
  show _ ∧ (_)
  refine ⟨o_r0_11, ?_⟩
  show G Γ m_MO_peek (d + 1) (0, 0) Q 5 [.ref r0, .int x1, .int x2] [] (sI μ r0 0 (w 0))
  obtain ⟨μ1, em1⟩ : ∃ m : XM, m = sI μ r0 0 (w 0) := ⟨_, rfl⟩
  replace h := h μ1 em1
  have hm1 : xN μ ≤ xN μ1 := by rw [em1]; exact Nat.le_refl _
  rw [← em1]
  refine run_ok (pc' := 9) [(.aload_n 0, 0, 0, 0), (.getfield 307, 11, 25, 0)] _ _ _ _ (by decide +kernel) ?_
  show _ ∧ (_)
  refine ⟨((o_r0_11).mono hm1), ?_⟩
  show G Γ m_MO_peek (d + 1) (0, 0) Q 9 [.ref r0, .int x1, .int x2] [.int (xI μ1 r0 25)] μ1
  refine g_ifz_eq (pc' := 54) (off := 45) (by decide) (by decide +kernel) (fun hc => ?_) (fun hc => ?_)
  · replace h := h.1 hc
    show G Γ m_MO_peek (d + 1) (0, 0) Q 54 [.ref r0, .int x1, .int x2] [] μ1
    refine run_ok (pc' := 55) [(.iconst (-1), 0, 0, 0)] _ _ _ _ (by decide +kernel) ?_
    show G Γ m_MO_peek (d + 1) (0, 0) Q 55 [.ref r0, .int x1, .int x2] [.int (w (-1))] μ1
    exact g_reti (by decide +kernel) rfl h
  · replace h := h.2 hc
    show G Γ m_MO_peek (d + 1) (0, 0) Q 12 [.ref r0, .int x1, .int x2] [] μ1
    refine run_ok (pc' := 16) [(.iload_n 1, 0, 0, 0), (.i2l, 0, 0, 0), (.lconst 0, 0, 0, 0), (.lconst 1, 0, 0, 1)] _ _ _ _ (by decide +kernel) ?_
    show G Γ m_MO_peek (d + 1) (0, 0) Q 16 [.ref r0, .int x1, .int x2] [.long (wl 1), .long (wl 0), .long (x1.toInt64)] μ1
    refine g_invS (M' := m_MO_isIn) (b1 := 0) (b2 := 0) (As := [.long (x1.toInt64), .long (wl 0), .long (wl 1)]) (st := []) lk_11_230 (by decide +kernel) rfl (dk_MO_isIn d) (Nat.le_of_ble_eq_true rfl) h ?_
    rintro _ μ2 ⟨v2, rfl, h⟩ hn2
    show G Γ m_MO_peek (d + 1) (0, 0) Q 19 [.ref r0, .int x1, .int x2] [.int v2] μ2
    refine g_ifz_eq (pc' := 54) (off := 35) (by decide) (by decide +kernel) (fun hc => ?_) (fun hc => ?_)
    · replace h := h.1 hc
      show G Γ m_MO_peek (d + 1) (0, 0) Q 54 [.ref r0, .int x1, .int x2] [] μ2
      refine run_ok (pc' := 55) [(.iconst (-1), 0, 0, 0)] _ _ _ _ (by decide +kernel) ?_
      show G Γ m_MO_peek (d + 1) (0, 0) Q 55 [.ref r0, .int x1, .int x2] [.int (w (-1))] μ2
      exact g_reti (by decide +kernel) rfl h
    · replace h := h.2 hc
      show G Γ m_MO_peek (d + 1) (0, 0) Q 22 [.ref r0, .int x1, .int x2] [] μ2
      refine run_ok (pc' := 27) [(.iload_n 2, 0, 0, 0), (.i2l, 0, 0, 0), (.iload_n 1, 0, 0, 0), (.i2l, 0, 0, 0), (.iload_n 1, 0, 0, 0)] _ _ _ _ (by decide +kernel) ?_
      show G Γ m_MO_peek (d + 1) (0, 0) Q 27 [.ref r0, .int x1, .int x2] [.int x1, .long (x1.toInt64), .long (x2.toInt64)] μ2
      refine g_ifz_ne (pc' := 36) (off := 9) (by decide) (by decide +kernel) (fun hc => ?_) (fun hc => ?_)
      · replace h := h.2 hc
        show G Γ m_MO_peek (d + 1) (0, 0) Q 36 [.ref r0, .int x1, .int x2] [.long (x1.toInt64), .long (x2.toInt64)] μ2
        refine run_ok (pc' := 39) [(.ldc2_w 370, 0, 0, 9)] _ _ _ _ (by decide +kernel) ?_
        show G Γ m_MO_peek (d + 1) (0, 0) Q 39 [.ref r0, .int x1, .int x2] [.long (wl 9), .long (x1.toInt64), .long (x2.toInt64)] μ2
        refine g_invS (M' := m_MO_isIn) (b1 := 0) (b2 := 0) (As := [.long (x2.toInt64), .long (x1.toInt64), .long (wl 9)]) (st := []) lk_11_230 (by decide +kernel) rfl (dk_MO_isIn d) (Nat.le_of_ble_eq_true rfl) h ?_
        rintro _ μ3 ⟨v3, rfl, h⟩ hn3
        show G Γ m_MO_peek (d + 1) (0, 0) Q 42 [.ref r0, .int x1, .int x2] [.int v3] μ3
        refine g_ifz_eq (pc' := 54) (off := 12) (by decide) (by decide +kernel) (fun hc => ?_) (fun hc => ?_)
        · replace h := h.1 hc
          show G Γ m_MO_peek (d + 1) (0, 0) Q 54 [.ref r0, .int x1, .int x2] [] μ3
          refine run_ok (pc' := 55) [(.iconst (-1), 0, 0, 0)] _ _ _ _ (by decide +kernel) ?_
          show G Γ m_MO_peek (d + 1) (0, 0) Q 55 [.ref r0, .int x1, .int x2] [.int (w (-1))] μ3
          exact g_reti (by decide +kernel) rfl h
        · replace h := h.2 hc
          show G Γ m_MO_peek (d + 1) (0, 0) Q 45 [.ref r0, .int x1, .int x2] [] μ3
          refine run_ok (pc' := 51) [(.aload_n 0, 0, 0, 0), (.getfield 310, 11, 43, 0), (.bipush 12, 0, 0, 0)] _ _ _ _ (by decide +kernel) ?_
          show _ ∧ (_)
          refine ⟨((((o_r0_11).mono hm1).mono hn2).mono hn3), ?_⟩
          show G Γ m_MO_peek (d + 1) (0, 0) Q 51 [.ref r0, .int x1, .int x2] [.int (w 12), .int (xI μ3 r0 43)] μ3
          refine g_icmp_ne (pc' := 56) (off := 5) (by decide) (by decide +kernel) (fun hc => ?_) (fun hc => ?_)
          · replace h := h.2 hc
            show G Γ m_MO_peek (d + 1) (0, 0) Q 56 [.ref r0, .int x1, .int x2] [] μ3
            obtain ⟨a4, ea4, h⟩ := h
            obtain ⟨is5, h⟩ := h
            refine run_ok (pc' := 66) [(.aload_n 0, 0, 0, 0), (.getfield 81, 11, 41, 2), (.aload_n 0, 0, 0, 0), (.getfield 310, 11, 43, 0), (.iload_n 1, 0, 0, 0), (.iastore, 0, 0, 0)] _ _ _ _ (by decide +kernel) ?_
            show _ ∧ (∃ _, _ ∧ (_ ∧ (_ ∧ (_))))
            refine ⟨((((o_r0_11).mono hm1).mono hn2).mono hn3), a4, ea4, ((((o_r0_11).mono hm1).mono hn2).mono hn3), is5, ?_⟩
            show G Γ m_MO_peek (d + 1) (0, 0) Q 66 [.ref r0, .int x1, .int x2] [] (sI μ3 a4 (xI μ3 r0 43).toNatClampNeg x1)
            obtain ⟨μ6, em6⟩ : ∃ m : XM, m = sI μ3 a4 (xI μ3 r0 43).toNatClampNeg x1 := ⟨_, rfl⟩
            replace h := h μ6 em6
            have hm6 : xN μ3 ≤ xN μ6 := by rw [em6]; exact Nat.le_refl _
            rw [← em6]
            obtain ⟨a7, ea7, h⟩ := h
            obtain ⟨is8, h⟩ := h
            refine run_ok (pc' := 76) [(.aload_n 0, 0, 0, 0), (.getfield 84, 11, 42, 2), (.aload_n 0, 0, 0, 0), (.getfield 310, 11, 43, 0), (.iload_n 2, 0, 0, 0), (.iastore, 0, 0, 0)] _ _ _ _ (by decide +kernel) ?_
            show _ ∧ (∃ _, _ ∧ (_ ∧ (_ ∧ (_))))
            refine ⟨(((((o_r0_11).mono hm1).mono hn2).mono hn3).mono hm6), a7, ea7, (((((o_r0_11).mono hm1).mono hn2).mono hn3).mono hm6), is8, ?_⟩
            show G Γ m_MO_peek (d + 1) (0, 0) Q 76 [.ref r0, .int x1, .int x2] [] (sI μ6 a7 (xI μ6 r0 43).toNatClampNeg x2)
            obtain ⟨μ9, em9⟩ : ∃ m : XM, m = sI μ6 a7 (xI μ6 r0 43).toNatClampNeg x2 := ⟨_, rfl⟩
            replace h := h μ9 em9
            have hm9 : xN μ6 ≤ xN μ9 := by rw [em9]; exact Nat.le_refl _
            rw [← em9]
            refine run_ok (pc' := 86) [(.aload_n 0, 0, 0, 0), (.dup, 0, 0, 0), (.getfield 310, 11, 43, 0), (.iconst 1, 0, 0, 0), (.iadd, 0, 0, 0), (.putfield 310, 11, 43, 0)] _ _ _ _ (by decide +kernel) ?_
            show _ ∧ (_ ∧ (_))
            refine ⟨((((((o_r0_11).mono hm1).mono hn2).mono hn3).mono hm6).mono hm9), ((((((o_r0_11).mono hm1).mono hn2).mono hn3).mono hm6).mono hm9), ?_⟩
            show G Γ m_MO_peek (d + 1) (0, 0) Q 86 [.ref r0, .int x1, .int x2] [] (sI μ9 r0 43 ((xI μ9 r0 43) + (w 1)))
            obtain ⟨μ10, em10⟩ : ∃ m : XM, m = sI μ9 r0 43 ((xI μ9 r0 43) + (w 1)) := ⟨_, rfl⟩
            replace h := h μ10 em10
            have hm10 : xN μ9 ≤ xN μ10 := by rw [em10]; exact Nat.le_refl _
            rw [← em10]
            refine run_ok (pc' := 90) [(.aload_n 0, 0, 0, 0), (.getfield 310, 11, 43, 0)] _ _ _ _ (by decide +kernel) ?_
            show _ ∧ (_)
            refine ⟨(((((((o_r0_11).mono hm1).mono hn2).mono hn3).mono hm6).mono hm9).mono hm10), ?_⟩
            show G Γ m_MO_peek (d + 1) (0, 0) Q 90 [.ref r0, .int x1, .int x2] [.int (xI μ10 r0 43)] μ10
            exact g_reti (by decide +kernel) rfl h
          · replace h := h.1 hc
            show G Γ m_MO_peek (d + 1) (0, 0) Q 54 [.ref r0, .int x1, .int x2] [] μ3
            refine run_ok (pc' := 55) [(.iconst (-1), 0, 0, 0)] _ _ _ _ (by decide +kernel) ?_
            show G Γ m_MO_peek (d + 1) (0, 0) Q 55 [.ref r0, .int x1, .int x2] [.int (w (-1))] μ3
            exact g_reti (by decide +kernel) rfl h
      · replace h := h.1 hc
        show G Γ m_MO_peek (d + 1) (0, 0) Q 30 [.ref r0, .int x1, .int x2] [.long (x1.toInt64), .long (x2.toInt64)] μ2
        refine run_ok (pc' := 39) [(.ldc2_w 338, 0, 0, 5), (.goto 6, 0, 0, 0)] _ _ _ _ (by decide +kernel) ?_
        show G Γ m_MO_peek (d + 1) (0, 0) Q 39 [.ref r0, .int x1, .int x2] [.long (wl 5), .long (x1.toInt64), .long (x2.toInt64)] μ2
        refine g_invS (M' := m_MO_isIn) (b1 := 0) (b2 := 0) (As := [.long (x2.toInt64), .long (x1.toInt64), .long (wl 5)]) (st := []) lk_11_230 (by decide +kernel) rfl (dk_MO_isIn d) (Nat.le_of_ble_eq_true rfl) h ?_
        rintro _ μ11 ⟨v11, rfl, h⟩ hn11
        show G Γ m_MO_peek (d + 1) (0, 0) Q 42 [.ref r0, .int x1, .int x2] [.int v11] μ11
        refine g_ifz_eq (pc' := 54) (off := 12) (by decide) (by decide +kernel) (fun hc => ?_) (fun hc => ?_)
        · replace h := h.1 hc
          show G Γ m_MO_peek (d + 1) (0, 0) Q 54 [.ref r0, .int x1, .int x2] [] μ11
          refine run_ok (pc' := 55) [(.iconst (-1), 0, 0, 0)] _ _ _ _ (by decide +kernel) ?_
          show G Γ m_MO_peek (d + 1) (0, 0) Q 55 [.ref r0, .int x1, .int x2] [.int (w (-1))] μ11
          exact g_reti (by decide +kernel) rfl h
        · replace h := h.2 hc
          show G Γ m_MO_peek (d + 1) (0, 0) Q 45 [.ref r0, .int x1, .int x2] [] μ11
          refine run_ok (pc' := 51) [(.aload_n 0, 0, 0, 0), (.getfield 310, 11, 43, 0), (.bipush 12, 0, 0, 0)] _ _ _ _ (by decide +kernel) ?_
          show _ ∧ (_)
          refine ⟨((((o_r0_11).mono hm1).mono hn2).mono hn11), ?_⟩
          show G Γ m_MO_peek (d + 1) (0, 0) Q 51 [.ref r0, .int x1, .int x2] [.int (w 12), .int (xI μ11 r0 43)] μ11
          refine g_icmp_ne (pc' := 56) (off := 5) (by decide) (by decide +kernel) (fun hc => ?_) (fun hc => ?_)
          · replace h := h.2 hc
            show G Γ m_MO_peek (d + 1) (0, 0) Q 56 [.ref r0, .int x1, .int x2] [] μ11
            obtain ⟨a12, ea12, h⟩ := h
            obtain ⟨is13, h⟩ := h
            refine run_ok (pc' := 66) [(.aload_n 0, 0, 0, 0), (.getfield 81, 11, 41, 2), (.aload_n 0, 0, 0, 0), (.getfield 310, 11, 43, 0), (.iload_n 1, 0, 0, 0), (.iastore, 0, 0, 0)] _ _ _ _ (by decide +kernel) ?_
            show _ ∧ (∃ _, _ ∧ (_ ∧ (_ ∧ (_))))
            refine ⟨((((o_r0_11).mono hm1).mono hn2).mono hn11), a12, ea12, ((((o_r0_11).mono hm1).mono hn2).mono hn11), is13, ?_⟩
            show G Γ m_MO_peek (d + 1) (0, 0) Q 66 [.ref r0, .int x1, .int x2] [] (sI μ11 a12 (xI μ11 r0 43).toNatClampNeg x1)
            obtain ⟨μ14, em14⟩ : ∃ m : XM, m = sI μ11 a12 (xI μ11 r0 43).toNatClampNeg x1 := ⟨_, rfl⟩
            replace h := h μ14 em14
            have hm14 : xN μ11 ≤ xN μ14 := by rw [em14]; exact Nat.le_refl _
            rw [← em14]
            obtain ⟨a15, ea15, h⟩ := h
            obtain ⟨is16, h⟩ := h
            refine run_ok (pc' := 76) [(.aload_n 0, 0, 0, 0), (.getfield 84, 11, 42, 2), (.aload_n 0, 0, 0, 0), (.getfield 310, 11, 43, 0), (.iload_n 2, 0, 0, 0), (.iastore, 0, 0, 0)] _ _ _ _ (by decide +kernel) ?_
            show _ ∧ (∃ _, _ ∧ (_ ∧ (_ ∧ (_))))
            refine ⟨(((((o_r0_11).mono hm1).mono hn2).mono hn11).mono hm14), a15, ea15, (((((o_r0_11).mono hm1).mono hn2).mono hn11).mono hm14), is16, ?_⟩
            show G Γ m_MO_peek (d + 1) (0, 0) Q 76 [.ref r0, .int x1, .int x2] [] (sI μ14 a15 (xI μ14 r0 43).toNatClampNeg x2)
            obtain ⟨μ17, em17⟩ : ∃ m : XM, m = sI μ14 a15 (xI μ14 r0 43).toNatClampNeg x2 := ⟨_, rfl⟩
            replace h := h μ17 em17
            have hm17 : xN μ14 ≤ xN μ17 := by rw [em17]; exact Nat.le_refl _
            rw [← em17]
            refine run_ok (pc' := 86) [(.aload_n 0, 0, 0, 0), (.dup, 0, 0, 0), (.getfield 310, 11, 43, 0), (.iconst 1, 0, 0, 0), (.iadd, 0, 0, 0), (.putfield 310, 11, 43, 0)] _ _ _ _ (by decide +kernel) ?_
            show _ ∧ (_ ∧ (_))
            refine ⟨((((((o_r0_11).mono hm1).mono hn2).mono hn11).mono hm14).mono hm17), ((((((o_r0_11).mono hm1).mono hn2).mono hn11).mono hm14).mono hm17), ?_⟩
            show G Γ m_MO_peek (d + 1) (0, 0) Q 86 [.ref r0, .int x1, .int x2] [] (sI μ17 r0 43 ((xI μ17 r0 43) + (w 1)))
            obtain ⟨μ18, em18⟩ : ∃ m : XM, m = sI μ17 r0 43 ((xI μ17 r0 43) + (w 1)) := ⟨_, rfl⟩
            replace h := h μ18 em18
            have hm18 : xN μ17 ≤ xN μ18 := by rw [em18]; exact Nat.le_refl _
            rw [← em18]
            refine run_ok (pc' := 90) [(.aload_n 0, 0, 0, 0), (.getfield 310, 11, 43, 0)] _ _ _ _ (by decide +kernel) ?_
            show _ ∧ (_)
            refine ⟨(((((((o_r0_11).mono hm1).mono hn2).mono hn11).mono hm14).mono hm17).mono hm18), ?_⟩
            show G Γ m_MO_peek (d + 1) (0, 0) Q 90 [.ref r0, .int x1, .int x2] [.int (xI μ18 r0 43)] μ18
            exact g_reti (by decide +kernel) rfl h
          · replace h := h.1 hc
            show G Γ m_MO_peek (d + 1) (0, 0) Q 54 [.ref r0, .int x1, .int x2] [] μ11
            refine run_ok (pc' := 55) [(.iconst (-1), 0, 0, 0)] _ _ _ _ (by decide +kernel) ?_
            show G Γ m_MO_peek (d + 1) (0, 0) Q 55 [.ref r0, .int x1, .int x2] [.int (w (-1))] μ11
            exact g_reti (by decide +kernel) rfl h
/-! FrostBoxModel heldBy(I)J -/
set_option maxRecDepth 100000 in
theorem B_MO_heldBy_0 {Γ : XG} {d : Nat} {Q : Option Value → XM → Prop} {r0 : Nat} {x1 : Int32} {μ : XM}  (h : G Γ m_MO_heldBy (d + 1) (0, 0) Q 5 [.ref r0, .int x1, .long (wl 1), jk, .int (w 0)] [] μ) : G Γ m_MO_heldBy (d + 1) (0, 0) Q 0 [.ref r0, .int x1] [] μ := by
  refine run_ok (pc' := 5) [(.lconst 1, 0, 0, 1), (.lstore_n 2, 0, 0, 0), (.iconst 0, 0, 0, 0), (.istore 4, 0, 0, 0)] _ _ _ _ (by decide +kernel) ?_
  show G Γ m_MO_heldBy (d + 1) (0, 0) Q 5 [.ref r0, .int x1, .long (wl 1), jk, .int (w 0)] [] μ
  exact h
set_option maxRecDepth 100000 in
theorem B_MO_heldBy_5 {Γ : XG} {d : Nat} {Q : Option Value → XM → Prop} {r0 r0_41 : Nat} {x1 x4 : Int32} {y2 : Int64} {μ : XM} (o_r0_11 : ob μ r0 11) (e_r0_41 : xR μ r0 41 = some r0_41) (h : ((x4 < xI μ r0 43 → inb μ 0 r0_41 x4 ∧ Call Γ m_MO_told d [.ref r0, .int x1, .int (xI μ r0_41 x4.toNatClampNeg)] μ (KI (fun v2 μ2 => ∃ a3, xR μ2 r0 42 = some a3 ∧ inb μ2 0 a3 x4 ∧ ((v2 = xI μ2 a3 x4.toNatClampNeg → ∃ a7, xR μ2 r0 18 = some a7 ∧ inb μ2 0 a7 (w 3) ∧ G Γ m_MO_heldBy (d + 1) (0, 0) Q 5 [.ref r0, .int x1, .long (y2 * (((w 10) - (xI μ2 a7 (w 3).toNatClampNeg)).toInt64)), jk, .int (x4 + w 1)] [] μ2) ∧ (¬ v2 = xI μ2 a3 x4.toNatClampNeg → ∃ a5, xR μ2 r0 18 = some a5 ∧ inb μ2 0 a5 (w 3) ∧ G Γ m_MO_heldBy (d + 1) (0, 0) Q 5 [.ref r0, .int x1, .long (y2 * ((xI μ2 a5 (w 3).toNatClampNeg).toInt64)), jk, .int (x4 + w 1)] [] μ2))))) ∧ (¬ x4 < xI μ r0 43 → Q (some (.long y2)) μ))) : G Γ m_MO_heldBy (d + 1) (0, 0) Q 5 [.ref r0, .int x1, .long y2, jk, .int x4] [] μ := by
  refine run_ok (pc' := 11) [(.iload 4, 0, 0, 0), (.aload_n 0, 0, 0, 0), (.getfield 310, 11, 43, 0)] _ _ _ _ (by decide +kernel) ?_
  show _ ∧ (_)
  refine ⟨o_r0_11, ?_⟩
  show G Γ m_MO_heldBy (d + 1) (0, 0) Q 11 [.ref r0, .int x1, .long y2, jk, .int x4] [.int (xI μ r0 43), .int x4] μ
  refine g_icmp_ge (pc' := 65) (off := 54) (by decide) (by decide +kernel) (fun hc => ?_) (fun hc => ?_)
  · replace h := h.2 hc
    show G Γ m_MO_heldBy (d + 1) (0, 0) Q 65 [.ref r0, .int x1, .long y2, jk, .int x4] [] μ
    refine run_ok (pc' := 66) [(.lload_n 2, 0, 0, 0)] _ _ _ _ (by decide +kernel) ?_
    show G Γ m_MO_heldBy (d + 1) (0, 0) Q 66 [.ref r0, .int x1, .long y2, jk, .int x4] [.long y2] μ
    exact g_retl (by decide +kernel) rfl h
  · replace h := h.1 hc
    show G Γ m_MO_heldBy (d + 1) (0, 0) Q 14 [.ref r0, .int x1, .long y2, jk, .int x4] [] μ
    obtain ⟨ib1, h⟩ := h
    refine run_ok (pc' := 24) [(.lload_n 2, 0, 0, 0), (.aload_n 0, 0, 0, 0), (.iload_n 1, 0, 0, 0), (.aload_n 0, 0, 0, 0), (.getfield 81, 11, 41, 2), (.iload 4, 0, 0, 0), (.iaload, 0, 0, 0)] _ _ _ _ (by decide +kernel) ?_
    show _ ∧ (∃ _, _ ∧ (_ ∧ (_)))
    refine ⟨o_r0_11, r0_41, e_r0_41, ib1, ?_⟩
    show G Γ m_MO_heldBy (d + 1) (0, 0) Q 24 [.ref r0, .int x1, .long y2, jk, .int x4] [.int (xI μ r0_41 x4.toNatClampNeg), .int x1, .ref r0, .long y2] μ
    refine g_invV (M' := m_MO_told) (b1 := 0) (b2 := 0) (As := [.int x1, .int (xI μ r0_41 x4.toNatClampNeg)]) (a := r0) (st := [.long y2]) lk_11_322 (by decide +kernel) rfl (dk_MO_told d) (Nat.le_of_ble_eq_true rfl) (Or.inl ⟨11, o_r0_11, rfl⟩) h ?_
    rintro _ μ2 ⟨v2, rfl, h⟩ hn2
    show G Γ m_MO_heldBy (d + 1) (0, 0) Q 27 [.ref r0, .int x1, .long y2, jk, .int x4] [.int v2, .long y2] μ2
    obtain ⟨a3, ea3, h⟩ := h
    obtain ⟨ib4, h⟩ := h
    refine run_ok (pc' := 34) [(.aload_n 0, 0, 0, 0), (.getfield 84, 11, 42, 2), (.iload 4, 0, 0, 0), (.iaload, 0, 0, 0)] _ _ _ _ (by decide +kernel) ?_
    show _ ∧ (∃ _, _ ∧ (_ ∧ (_)))
    refine ⟨((o_r0_11).mono hn2), a3, ea3, ib4, ?_⟩
    show G Γ m_MO_heldBy (d + 1) (0, 0) Q 34 [.ref r0, .int x1, .long y2, jk, .int x4] [.int (xI μ2 a3 x4.toNatClampNeg), .int v2, .long y2] μ2
    refine g_icmp_ne (pc' := 50) (off := 16) (by decide) (by decide +kernel) (fun hc => ?_) (fun hc => ?_)
    · replace h := h.2 hc
      show G Γ m_MO_heldBy (d + 1) (0, 0) Q 50 [.ref r0, .int x1, .long y2, jk, .int x4] [.long y2] μ2
      obtain ⟨a5, ea5, h⟩ := h
      obtain ⟨ib6, h⟩ := h
      refine run_ok (pc' := 5) [(.aload_n 0, 0, 0, 0), (.getfield 37, 11, 18, 2), (.iconst 3, 0, 0, 0), (.iaload, 0, 0, 0), (.i2l, 0, 0, 0), (.lmul, 0, 0, 0), (.lstore_n 2, 0, 0, 0), (.iinc 4 1, 0, 0, 0), (.goto (-57), 0, 0, 0)] _ _ _ _ (by decide +kernel) ?_
      show _ ∧ (∃ _, _ ∧ (_ ∧ (_)))
      refine ⟨((o_r0_11).mono hn2), a5, ea5, ib6, ?_⟩
      show G Γ m_MO_heldBy (d + 1) (0, 0) Q 5 [.ref r0, .int x1, .long (y2 * ((xI μ2 a5 (w 3).toNatClampNeg).toInt64)), jk, .int (x4 + w 1)] [] μ2
      exact h
    · replace h := h.1 hc
      show G Γ m_MO_heldBy (d + 1) (0, 0) Q 37 [.ref r0, .int x1, .long y2, jk, .int x4] [.long y2] μ2
      obtain ⟨a7, ea7, h⟩ := h
      obtain ⟨ib8, h⟩ := h
      refine run_ok (pc' := 5) [(.bipush 10, 0, 0, 0), (.aload_n 0, 0, 0, 0), (.getfield 37, 11, 18, 2), (.iconst 3, 0, 0, 0), (.iaload, 0, 0, 0), (.isub, 0, 0, 0), (.i2l, 0, 0, 0), (.goto 10, 0, 0, 0), (.lmul, 0, 0, 0), (.lstore_n 2, 0, 0, 0), (.iinc 4 1, 0, 0, 0), (.goto (-57), 0, 0, 0)] _ _ _ _ (by decide +kernel) ?_
      show _ ∧ (∃ _, _ ∧ (_ ∧ (_)))
      refine ⟨((o_r0_11).mono hn2), a7, ea7, ib8, ?_⟩
      show G Γ m_MO_heldBy (d + 1) (0, 0) Q 5 [.ref r0, .int x1, .long (y2 * (((w 10) - (xI μ2 a7 (w 3).toNatClampNeg)).toInt64)), jk, .int (x4 + w 1)] [] μ2
      exact h
/-! FrostBoxModel greatestBy(I)J -/
set_option maxRecDepth 100000 in
theorem lk_11_484 : LkV 11 484 m_MO_heldBy 1 := ⟨lc_MO_heldBy, lwG_in (List.mem_of_getElem? (i := 1846) rfl) rfl, lwG_in (List.mem_of_getElem? (i := 1848) rfl) rfl, lwG_in (List.mem_of_getElem? (i := 107) rfl) rfl⟩
set_option maxRecDepth 100000 in
theorem B_MO_greatestBy_0 {Γ : XG} {d : Nat} {Q : Option Value → XM → Prop} {r0 : Nat} {x1 : Int32} {μ : XM}  (h : G Γ m_MO_greatestBy (d + 1) (0, 0) Q 5 [.ref r0, .int x1, .long (wl 0), jk, .int (w 0)] [] μ) : G Γ m_MO_greatestBy (d + 1) (0, 0) Q 0 [.ref r0, .int x1] [] μ := by
  refine run_ok (pc' := 5) [(.lconst 0, 0, 0, 0), (.lstore_n 2, 0, 0, 0), (.iconst 0, 0, 0, 0), (.istore 4, 0, 0, 0)] _ _ _ _ (by decide +kernel) ?_
  show G Γ m_MO_greatestBy (d + 1) (0, 0) Q 5 [.ref r0, .int x1, .long (wl 0), jk, .int (w 0)] [] μ
  exact h
set_option maxRecDepth 100000 in
theorem B_MO_greatestBy_5 {Γ : XG} {d : Nat} {Q : Option Value → XM → Prop} {r0 : Nat} {x1 x4 : Int32} {y2 : Int64} {μ : XM}  (h : ((w 9 < x4 → Q (some (.long y2)) μ) ∧ (¬ w 9 < x4 → G Γ m_MO_greatestBy (d + 1) (0, 0) Q 18 [.ref r0, .int x1, .long y2, jk, .int x4, .long (wl 0), jk, .int (w 0)] [] μ))) : G Γ m_MO_greatestBy (d + 1) (0, 0) Q 5 [.ref r0, .int x1, .long y2, jk, .int x4] [] μ := by
  refine run_ok (pc' := 9) [(.iload 4, 0, 0, 0), (.bipush 9, 0, 0, 0)] _ _ _ _ (by decide +kernel) ?_
  show G Γ m_MO_greatestBy (d + 1) (0, 0) Q 9 [.ref r0, .int x1, .long y2, jk, .int x4] [.int (w 9), .int x4] μ
  refine g_icmp_gt (pc' := 73) (off := 64) (by decide) (by decide +kernel) (fun hc => ?_) (fun hc => ?_)
  · replace h := h.1 hc
    show G Γ m_MO_greatestBy (d + 1) (0, 0) Q 73 [.ref r0, .int x1, .long y2, jk, .int x4] [] μ
    refine run_ok (pc' := 74) [(.lload_n 2, 0, 0, 0)] _ _ _ _ (by decide +kernel) ?_
    show G Γ m_MO_greatestBy (d + 1) (0, 0) Q 74 [.ref r0, .int x1, .long y2, jk, .int x4] [.long y2] μ
    exact g_retl (by decide +kernel) rfl h
  · replace h := h.2 hc
    show G Γ m_MO_greatestBy (d + 1) (0, 0) Q 12 [.ref r0, .int x1, .long y2, jk, .int x4] [] μ
    refine run_ok (pc' := 18) [(.lconst 0, 0, 0, 0), (.lstore 5, 0, 0, 0), (.iconst 0, 0, 0, 0), (.istore 7, 0, 0, 0)] _ _ _ _ (by decide +kernel) ?_
    show G Γ m_MO_greatestBy (d + 1) (0, 0) Q 18 [.ref r0, .int x1, .long y2, jk, .int x4, .long (wl 0), jk, .int (w 0)] [] μ
    exact h
set_option maxRecDepth 100000 in
theorem B_MO_greatestBy_18 {Γ : XG} {d : Nat} {Q : Option Value → XM → Prop} {r0 : Nat} {x1 x4 x7 : Int32} {y2 y5 : Int64} {μ : XM} (o_r0_11 : ob μ r0 11) (h : ((x7 < xI μ r0 25 → Call Γ m_MO_told d [.ref r0, .int x7, .int x1] μ (KI (fun v1 μ1 => ((v1 = x4 → Call Γ m_MO_heldBy d [.ref r0, .int x7] μ1 (KL (fun v2 μ2 => G Γ m_MO_greatestBy (d + 1) (0, 0) Q 18 [.ref r0, .int x1, .long y2, jk, .int x4, .long (y5 + v2), jk, .int (x7 + w 1)] [] μ2))) ∧ (¬ v1 = x4 → G Γ m_MO_greatestBy (d + 1) (0, 0) Q 18 [.ref r0, .int x1, .long y2, jk, .int x4, .long (y5 + (wl 0)), jk, .int (x7 + w 1)] [] μ1))))) ∧ (¬ x7 < xI μ r0 25 → G Γ m_MO_greatestBy (d + 1) (0, 0) Q 5 [.ref r0, .int x1, .long (jmaxL y2 y5), jk, .int (x4 + w 1)] [] μ))) : G Γ m_MO_greatestBy (d + 1) (0, 0) Q 18 [.ref r0, .int x1, .long y2, jk, .int x4, .long y5, jk, .int x7] [] μ := by
  refine run_ok (pc' := 24) [(.iload 7, 0, 0, 0), (.aload_n 0, 0, 0, 0), (.getfield 307, 11, 25, 0)] _ _ _ _ (by decide +kernel) ?_
  show _ ∧ (_)
  refine ⟨o_r0_11, ?_⟩
  show G Γ m_MO_greatestBy (d + 1) (0, 0) Q 24 [.ref r0, .int x1, .long y2, jk, .int x4, .long y5, jk, .int x7] [.int (xI μ r0 25), .int x7] μ
  refine g_icmp_ge (pc' := 60) (off := 36) (by decide) (by decide +kernel) (fun hc => ?_) (fun hc => ?_)
  · replace h := h.2 hc
    show G Γ m_MO_greatestBy (d + 1) (0, 0) Q 60 [.ref r0, .int x1, .long y2, jk, .int x4, .long y5, jk, .int x7] [] μ
    refine run_ok (pc' := 63) [(.lload_n 2, 0, 0, 0), (.lload 5, 0, 0, 0)] _ _ _ _ (by decide +kernel) ?_
    show G Γ m_MO_greatestBy (d + 1) (0, 0) Q 63 [.ref r0, .int x1, .long y2, jk, .int x4, .long y5, jk, .int x7] [.long y5, .long y2] μ
    refine g_maxL (i := 164) lm_11_164 (Nat.le_of_ble_eq_true rfl) (by decide +kernel) ?_
    show G Γ m_MO_greatestBy (d + 1) (0, 0) Q 66 [.ref r0, .int x1, .long y2, jk, .int x4, .long y5, jk, .int x7] [.long (jmaxL y2 y5)] μ
    refine run_ok (pc' := 5) [(.lstore_n 2, 0, 0, 0), (.iinc 4 1, 0, 0, 0), (.goto (-65), 0, 0, 0)] _ _ _ _ (by decide +kernel) ?_
    show G Γ m_MO_greatestBy (d + 1) (0, 0) Q 5 [.ref r0, .int x1, .long (jmaxL y2 y5), jk, .int (x4 + w 1), .long y5, jk, .int x7] [] μ
    exact g_wk (ls' := [.ref r0, .int x1, .long (jmaxL y2 y5), jk, .int (x4 + w 1)]) ⟨Or.inr rfl, Or.inr rfl, Or.inr rfl, Or.inl rfl, Or.inr rfl, trivial⟩ h
  · replace h := h.1 hc
    show G Γ m_MO_greatestBy (d + 1) (0, 0) Q 27 [.ref r0, .int x1, .long y2, jk, .int x4, .long y5, jk, .int x7] [] μ
    refine run_ok (pc' := 33) [(.lload 5, 0, 0, 0), (.aload_n 0, 0, 0, 0), (.iload 7, 0, 0, 0), (.iload_n 1, 0, 0, 0)] _ _ _ _ (by decide +kernel) ?_
    show G Γ m_MO_greatestBy (d + 1) (0, 0) Q 33 [.ref r0, .int x1, .long y2, jk, .int x4, .long y5, jk, .int x7] [.int x1, .int x7, .ref r0, .long y5] μ
    refine g_invV (M' := m_MO_told) (b1 := 0) (b2 := 0) (As := [.int x7, .int x1]) (a := r0) (st := [.long y5]) lk_11_322 (by decide +kernel) rfl (dk_MO_told d) (Nat.le_of_ble_eq_true rfl) (Or.inl ⟨11, o_r0_11, rfl⟩) h ?_
    rintro _ μ1 ⟨v1, rfl, h⟩ hn1
    show G Γ m_MO_greatestBy (d + 1) (0, 0) Q 36 [.ref r0, .int x1, .long y2, jk, .int x4, .long y5, jk, .int x7] [.int v1, .long y5] μ1
    refine run_ok (pc' := 38) [(.iload 4, 0, 0, 0)] _ _ _ _ (by decide +kernel) ?_
    show G Γ m_MO_greatestBy (d + 1) (0, 0) Q 38 [.ref r0, .int x1, .long y2, jk, .int x4, .long y5, jk, .int x7] [.int x4, .int v1, .long y5] μ1
    refine g_icmp_ne (pc' := 50) (off := 12) (by decide) (by decide +kernel) (fun hc => ?_) (fun hc => ?_)
    · replace h := h.2 hc
      show G Γ m_MO_greatestBy (d + 1) (0, 0) Q 50 [.ref r0, .int x1, .long y2, jk, .int x4, .long y5, jk, .int x7] [.long y5] μ1
      refine run_ok (pc' := 18) [(.lconst 0, 0, 0, 0), (.ladd, 0, 0, 0), (.lstore 5, 0, 0, 0), (.iinc 7 1, 0, 0, 0), (.goto (-39), 0, 0, 0)] _ _ _ _ (by decide +kernel) ?_
      show G Γ m_MO_greatestBy (d + 1) (0, 0) Q 18 [.ref r0, .int x1, .long y2, jk, .int x4, .long (y5 + (wl 0)), jk, .int (x7 + w 1)] [] μ1
      exact h
    · replace h := h.1 hc
      show G Γ m_MO_greatestBy (d + 1) (0, 0) Q 41 [.ref r0, .int x1, .long y2, jk, .int x4, .long y5, jk, .int x7] [.long y5] μ1
      refine run_ok (pc' := 44) [(.aload_n 0, 0, 0, 0), (.iload 7, 0, 0, 0)] _ _ _ _ (by decide +kernel) ?_
      show G Γ m_MO_greatestBy (d + 1) (0, 0) Q 44 [.ref r0, .int x1, .long y2, jk, .int x4, .long y5, jk, .int x7] [.int x7, .ref r0, .long y5] μ1
      refine g_invV (M' := m_MO_heldBy) (b1 := 0) (b2 := 0) (As := [.int x7]) (a := r0) (st := [.long y5]) lk_11_484 (by decide +kernel) rfl (dk_MO_heldBy d) (Nat.le_of_ble_eq_true rfl) (Or.inl ⟨11, ((o_r0_11).mono hn1), rfl⟩) h ?_
      rintro _ μ2 ⟨v2, rfl, h⟩ hn2
      show G Γ m_MO_greatestBy (d + 1) (0, 0) Q 47 [.ref r0, .int x1, .long y2, jk, .int x4, .long y5, jk, .int x7] [.long v2, .long y5] μ2
      refine run_ok (pc' := 18) [(.goto 4, 0, 0, 0), (.ladd, 0, 0, 0), (.lstore 5, 0, 0, 0), (.iinc 7 1, 0, 0, 0), (.goto (-39), 0, 0, 0)] _ _ _ _ (by decide +kernel) ?_
      show G Γ m_MO_greatestBy (d + 1) (0, 0) Q 18 [.ref r0, .int x1, .long y2, jk, .int x4, .long (y5 + v2), jk, .int (x7 + w 1)] [] μ2
      exact h
/-! FrostBoxModel what(I)I -/
set_option maxRecDepth 100000 in
theorem lk_11_488 : LkV 11 488 m_MO_greatestBy 1 := ⟨lc_MO_greatestBy, lwG_in (List.mem_of_getElem? (i := 1842) rfl) rfl, lwG_in (List.mem_of_getElem? (i := 1844) rfl) rfl, lwG_in (List.mem_of_getElem? (i := 106) rfl) rfl⟩
set_option maxRecDepth 100000 in
theorem B_MO_what_0 {Γ : XG} {d : Nat} {Q : Option Value → XM → Prop} {r0 : Nat} {x1 : Int32} {μ : XM} (o_r0_11 : ob μ r0 11) (h : ∀ μ1, μ1 = sI μ r0 0 (w 0) → ((xI μ1 r0 25 = w 0 → Q (some (.int (w (-1)))) μ1) ∧ (¬ xI μ1 r0 25 = w 0 → Call Γ m_MO_isIn d [.long (x1.toInt64), .long (wl 0), .long (wl 2)] μ1 (KI (fun v2 μ2 => ((v2 = w 0 → Q (some (.int (w (-1)))) μ2) ∧ (¬ v2 = w 0 → ((x1 = w 2 → Call Γ m_MO_greatestBy d [.ref r0, .int (w 1)] μ2 (KL (fun v3 μ3 => Call Γ m_MO_greatestBy d [.ref r0, .int (w 0)] μ3 (KL (fun v4 μ4 => ((lg_cmp v3 v4 < w 0 → Q (some (.int (w 1))) μ4) ∧ (¬ lg_cmp v3 v4 < w 0 → Q (some (.int (w 0))) μ4))))))) ∧ (¬ x1 = w 2 → G Γ m_MO_what (d + 1) (0, 0) Q 58 [.ref r0, .int x1, .int (w 0), .long (wl 0), jk, .int (w 0)] [] μ2))))))))) : G Γ m_MO_what (d + 1) (0, 0) Q 0 [.ref r0, .int x1] [] μ := by
  refine run_ok (pc' := 5) [(.aload_n 0, 0, 0, 0), (.iconst 0, 0, 0, 0), (.putfield 109, 11, 0, 0)] _ _ _ _ (by decide +kernel) ?_
  show _ ∧ (_)
  refine ⟨o_r0_11, ?_⟩
  show G Γ m_MO_what (d + 1) (0, 0) Q 5 [.ref r0, .int x1] [] (sI μ r0 0 (w 0))
  obtain ⟨μ1, em1⟩ : ∃ m : XM, m = sI μ r0 0 (w 0) := ⟨_, rfl⟩
  replace h := h μ1 em1
  have hm1 : xN μ ≤ xN μ1 := by rw [em1]; exact Nat.le_refl _
  rw [← em1]
  refine run_ok (pc' := 9) [(.aload_n 0, 0, 0, 0), (.getfield 307, 11, 25, 0)] _ _ _ _ (by decide +kernel) ?_
  show _ ∧ (_)
  refine ⟨((o_r0_11).mono hm1), ?_⟩
  show G Γ m_MO_what (d + 1) (0, 0) Q 9 [.ref r0, .int x1] [.int (xI μ1 r0 25)] μ1
  refine g_ifz_eq (pc' := 24) (off := 15) (by decide) (by decide +kernel) (fun hc => ?_) (fun hc => ?_)
  · replace h := h.1 hc
    show G Γ m_MO_what (d + 1) (0, 0) Q 24 [.ref r0, .int x1] [] μ1
    refine run_ok (pc' := 25) [(.iconst (-1), 0, 0, 0)] _ _ _ _ (by decide +kernel) ?_
    show G Γ m_MO_what (d + 1) (0, 0) Q 25 [.ref r0, .int x1] [.int (w (-1))] μ1
    exact g_reti (by decide +kernel) rfl h
  · replace h := h.2 hc
    show G Γ m_MO_what (d + 1) (0, 0) Q 12 [.ref r0, .int x1] [] μ1
    refine run_ok (pc' := 18) [(.iload_n 1, 0, 0, 0), (.i2l, 0, 0, 0), (.lconst 0, 0, 0, 0), (.ldc2_w 288, 0, 0, 2)] _ _ _ _ (by decide +kernel) ?_
    show G Γ m_MO_what (d + 1) (0, 0) Q 18 [.ref r0, .int x1] [.long (wl 2), .long (wl 0), .long (x1.toInt64)] μ1
    refine g_invS (M' := m_MO_isIn) (b1 := 0) (b2 := 0) (As := [.long (x1.toInt64), .long (wl 0), .long (wl 2)]) (st := []) lk_11_230 (by decide +kernel) rfl (dk_MO_isIn d) (Nat.le_of_ble_eq_true rfl) h ?_
    rintro _ μ2 ⟨v2, rfl, h⟩ hn2
    show G Γ m_MO_what (d + 1) (0, 0) Q 21 [.ref r0, .int x1] [.int v2] μ2
    refine g_ifz_ne (pc' := 26) (off := 5) (by decide) (by decide +kernel) (fun hc => ?_) (fun hc => ?_)
    · replace h := h.2 hc
      show G Γ m_MO_what (d + 1) (0, 0) Q 26 [.ref r0, .int x1] [] μ2
      refine run_ok (pc' := 28) [(.iload_n 1, 0, 0, 0), (.iconst 2, 0, 0, 0)] _ _ _ _ (by decide +kernel) ?_
      show G Γ m_MO_what (d + 1) (0, 0) Q 28 [.ref r0, .int x1] [.int (w 2), .int x1] μ2
      refine g_icmp_ne (pc' := 51) (off := 23) (by decide) (by decide +kernel) (fun hc => ?_) (fun hc => ?_)
      · replace h := h.2 hc
        show G Γ m_MO_what (d + 1) (0, 0) Q 51 [.ref r0, .int x1] [] μ2
        refine run_ok (pc' := 58) [(.iconst 0, 0, 0, 0), (.istore_n 2, 0, 0, 0), (.lconst 0, 0, 0, 0), (.lstore_n 3, 0, 0, 0), (.iconst 0, 0, 0, 0), (.istore 5, 0, 0, 0)] _ _ _ _ (by decide +kernel) ?_
        show G Γ m_MO_what (d + 1) (0, 0) Q 58 [.ref r0, .int x1, .int (w 0), .long (wl 0), jk, .int (w 0)] [] μ2
        exact h
      · replace h := h.1 hc
        show G Γ m_MO_what (d + 1) (0, 0) Q 31 [.ref r0, .int x1] [] μ2
        refine run_ok (pc' := 33) [(.aload_n 0, 0, 0, 0), (.iconst 1, 0, 0, 0)] _ _ _ _ (by decide +kernel) ?_
        show G Γ m_MO_what (d + 1) (0, 0) Q 33 [.ref r0, .int x1] [.int (w 1), .ref r0] μ2
        refine g_invV (M' := m_MO_greatestBy) (b1 := 0) (b2 := 0) (As := [.int (w 1)]) (a := r0) (st := []) lk_11_488 (by decide +kernel) rfl (dk_MO_greatestBy d) (Nat.le_of_ble_eq_true rfl) (Or.inl ⟨11, (((o_r0_11).mono hm1).mono hn2), rfl⟩) h ?_
        rintro _ μ3 ⟨v3, rfl, h⟩ hn3
        show G Γ m_MO_what (d + 1) (0, 0) Q 36 [.ref r0, .int x1] [.long v3] μ3
        refine run_ok (pc' := 38) [(.aload_n 0, 0, 0, 0), (.iconst 0, 0, 0, 0)] _ _ _ _ (by decide +kernel) ?_
        show G Γ m_MO_what (d + 1) (0, 0) Q 38 [.ref r0, .int x1] [.int (w 0), .ref r0, .long v3] μ3
        refine g_invV (M' := m_MO_greatestBy) (b1 := 0) (b2 := 0) (As := [.int (w 0)]) (a := r0) (st := [.long v3]) lk_11_488 (by decide +kernel) rfl (dk_MO_greatestBy d) (Nat.le_of_ble_eq_true rfl) (Or.inl ⟨11, ((((o_r0_11).mono hm1).mono hn2).mono hn3), rfl⟩) h ?_
        rintro _ μ4 ⟨v4, rfl, h⟩ hn4
        show G Γ m_MO_what (d + 1) (0, 0) Q 41 [.ref r0, .int x1] [.long v4, .long v3] μ4
        refine run_ok (pc' := 42) [(.lcmp, 0, 0, 0)] _ _ _ _ (by decide +kernel) ?_
        show G Γ m_MO_what (d + 1) (0, 0) Q 42 [.ref r0, .int x1] [.int (lg_cmp v3 v4)] μ4
        refine g_ifz_ge (pc' := 49) (off := 7) (by decide) (by decide +kernel) (fun hc => ?_) (fun hc => ?_)
        · replace h := h.2 hc
          show G Γ m_MO_what (d + 1) (0, 0) Q 49 [.ref r0, .int x1] [] μ4
          refine run_ok (pc' := 50) [(.iconst 0, 0, 0, 0)] _ _ _ _ (by decide +kernel) ?_
          show G Γ m_MO_what (d + 1) (0, 0) Q 50 [.ref r0, .int x1] [.int (w 0)] μ4
          exact g_reti (by decide +kernel) rfl h
        · replace h := h.1 hc
          show G Γ m_MO_what (d + 1) (0, 0) Q 45 [.ref r0, .int x1] [] μ4
          refine run_ok (pc' := 50) [(.iconst 1, 0, 0, 0), (.goto 4, 0, 0, 0)] _ _ _ _ (by decide +kernel) ?_
          show G Γ m_MO_what (d + 1) (0, 0) Q 50 [.ref r0, .int x1] [.int (w 1)] μ4
          exact g_reti (by decide +kernel) rfl h
    · replace h := h.1 hc
      show G Γ m_MO_what (d + 1) (0, 0) Q 24 [.ref r0, .int x1] [] μ2
      refine run_ok (pc' := 25) [(.iconst (-1), 0, 0, 0)] _ _ _ _ (by decide +kernel) ?_
      show G Γ m_MO_what (d + 1) (0, 0) Q 25 [.ref r0, .int x1] [.int (w (-1))] μ2
      exact g_reti (by decide +kernel) rfl h
set_option maxRecDepth 100000 in
theorem B_MO_what_58 {Γ : XG} {d : Nat} {Q : Option Value → XM → Prop} {r0 : Nat} {x1 x2 x5 : Int32} {y3 : Int64} {μ : XM} (o_r0_11 : ob μ r0 11) (h : ((x5 < xI μ r0 25 → Call Γ m_MO_heldBy d [.ref r0, .int x5] μ (KL (fun v3 μ3 => Call Γ m_MO_heldBy d [.ref r0, .int x2] μ3 (KL (fun v4 μ4 => ((w 0 < lg_cmp v3 v4 → Call Γ m_MO_heldBy d [.ref r0, .int x5] μ4 (KL (fun v6 μ6 => G Γ m_MO_what (d + 1) (0, 0) Q 58 [.ref r0, .int x1, .int x5, .long (y3 + v6), jk, .int (x5 + w 1)] [] μ6))) ∧ (¬ w 0 < lg_cmp v3 v4 → Call Γ m_MO_heldBy d [.ref r0, .int x5] μ4 (KL (fun v5 μ5 => G Γ m_MO_what (d + 1) (0, 0) Q 58 [.ref r0, .int x1, .int x2, .long (y3 + v5), jk, .int (x5 + w 1)] [] μ5))))))))) ∧ (¬ x5 < xI μ r0 25 → ((x1 = w 0 → Q (some (.int x2)) μ) ∧ (¬ x1 = w 0 → ((lg_cmp y3 (wl 0) = w 0 → Q (some (.int (w 0))) μ) ∧ (¬ lg_cmp y3 (wl 0) = w 0 → Call Γ m_MO_heldBy d [.ref r0, .int x2] μ (KL (fun v1 μ1 => ¬ y3 = 0 ∧ Q (some (.int ((((wl 1000) * v1) / y3).toInt32))) μ1))))))))) : G Γ m_MO_what (d + 1) (0, 0) Q 58 [.ref r0, .int x1, .int x2, .long y3, jk, .int x5] [] μ := by
  refine run_ok (pc' := 64) [(.iload 5, 0, 0, 0), (.aload_n 0, 0, 0, 0), (.getfield 307, 11, 25, 0)] _ _ _ _ (by decide +kernel) ?_
  show _ ∧ (_)
  refine ⟨o_r0_11, ?_⟩
  show G Γ m_MO_what (d + 1) (0, 0) Q 64 [.ref r0, .int x1, .int x2, .long y3, jk, .int x5] [.int (xI μ r0 25), .int x5] μ
  refine g_icmp_ge (pc' := 100) (off := 36) (by decide) (by decide +kernel) (fun hc => ?_) (fun hc => ?_)
  · replace h := h.2 hc
    show G Γ m_MO_what (d + 1) (0, 0) Q 100 [.ref r0, .int x1, .int x2, .long y3, jk, .int x5] [] μ
    refine run_ok (pc' := 101) [(.iload_n 1, 0, 0, 0)] _ _ _ _ (by decide +kernel) ?_
    show G Γ m_MO_what (d + 1) (0, 0) Q 101 [.ref r0, .int x1, .int x2, .long y3, jk, .int x5] [.int x1] μ
    refine g_ifz_ne (pc' := 106) (off := 5) (by decide) (by decide +kernel) (fun hc => ?_) (fun hc => ?_)
    · replace h := h.2 hc
      show G Γ m_MO_what (d + 1) (0, 0) Q 106 [.ref r0, .int x1, .int x2, .long y3, jk, .int x5] [] μ
      refine run_ok (pc' := 109) [(.lload_n 3, 0, 0, 0), (.lconst 0, 0, 0, 0), (.lcmp, 0, 0, 0)] _ _ _ _ (by decide +kernel) ?_
      show G Γ m_MO_what (d + 1) (0, 0) Q 109 [.ref r0, .int x1, .int x2, .long y3, jk, .int x5] [.int (lg_cmp y3 (wl 0))] μ
      refine g_ifz_ne (pc' := 116) (off := 7) (by decide) (by decide +kernel) (fun hc => ?_) (fun hc => ?_)
      · replace h := h.2 hc
        show G Γ m_MO_what (d + 1) (0, 0) Q 116 [.ref r0, .int x1, .int x2, .long y3, jk, .int x5] [] μ
        refine run_ok (pc' := 121) [(.ldc2_w 491, 0, 0, 1000), (.aload_n 0, 0, 0, 0), (.iload_n 2, 0, 0, 0)] _ _ _ _ (by decide +kernel) ?_
        show G Γ m_MO_what (d + 1) (0, 0) Q 121 [.ref r0, .int x1, .int x2, .long y3, jk, .int x5] [.int x2, .ref r0, .long (wl 1000)] μ
        refine g_invV (M' := m_MO_heldBy) (b1 := 0) (b2 := 0) (As := [.int x2]) (a := r0) (st := [.long (wl 1000)]) lk_11_484 (by decide +kernel) rfl (dk_MO_heldBy d) (Nat.le_of_ble_eq_true rfl) (Or.inl ⟨11, o_r0_11, rfl⟩) h ?_
        rintro _ μ1 ⟨v1, rfl, h⟩ hn1
        show G Γ m_MO_what (d + 1) (0, 0) Q 124 [.ref r0, .int x1, .int x2, .long y3, jk, .int x5] [.long v1, .long (wl 1000)] μ1
        obtain ⟨nz2, h⟩ := h
        refine run_ok (pc' := 128) [(.lmul, 0, 0, 0), (.lload_n 3, 0, 0, 0), (.ldiv, 0, 0, 0), (.l2i, 0, 0, 0)] _ _ _ _ (by decide +kernel) ?_
        show _ ∧ (_)
        refine ⟨nz2, ?_⟩
        show G Γ m_MO_what (d + 1) (0, 0) Q 128 [.ref r0, .int x1, .int x2, .long y3, jk, .int x5] [.int ((((wl 1000) * v1) / y3).toInt32)] μ1
        exact g_reti (by decide +kernel) rfl h
      · replace h := h.1 hc
        show G Γ m_MO_what (d + 1) (0, 0) Q 112 [.ref r0, .int x1, .int x2, .long y3, jk, .int x5] [] μ
        refine run_ok (pc' := 128) [(.iconst 0, 0, 0, 0), (.goto 15, 0, 0, 0)] _ _ _ _ (by decide +kernel) ?_
        show G Γ m_MO_what (d + 1) (0, 0) Q 128 [.ref r0, .int x1, .int x2, .long y3, jk, .int x5] [.int (w 0)] μ
        exact g_reti (by decide +kernel) rfl h
    · replace h := h.1 hc
      show G Γ m_MO_what (d + 1) (0, 0) Q 104 [.ref r0, .int x1, .int x2, .long y3, jk, .int x5] [] μ
      refine run_ok (pc' := 105) [(.iload_n 2, 0, 0, 0)] _ _ _ _ (by decide +kernel) ?_
      show G Γ m_MO_what (d + 1) (0, 0) Q 105 [.ref r0, .int x1, .int x2, .long y3, jk, .int x5] [.int x2] μ
      exact g_reti (by decide +kernel) rfl h
  · replace h := h.1 hc
    show G Γ m_MO_what (d + 1) (0, 0) Q 67 [.ref r0, .int x1, .int x2, .long y3, jk, .int x5] [] μ
    refine run_ok (pc' := 70) [(.aload_n 0, 0, 0, 0), (.iload 5, 0, 0, 0)] _ _ _ _ (by decide +kernel) ?_
    show G Γ m_MO_what (d + 1) (0, 0) Q 70 [.ref r0, .int x1, .int x2, .long y3, jk, .int x5] [.int x5, .ref r0] μ
    refine g_invV (M' := m_MO_heldBy) (b1 := 0) (b2 := 0) (As := [.int x5]) (a := r0) (st := []) lk_11_484 (by decide +kernel) rfl (dk_MO_heldBy d) (Nat.le_of_ble_eq_true rfl) (Or.inl ⟨11, o_r0_11, rfl⟩) h ?_
    rintro _ μ3 ⟨v3, rfl, h⟩ hn3
    show G Γ m_MO_what (d + 1) (0, 0) Q 73 [.ref r0, .int x1, .int x2, .long y3, jk, .int x5] [.long v3] μ3
    refine run_ok (pc' := 75) [(.aload_n 0, 0, 0, 0), (.iload_n 2, 0, 0, 0)] _ _ _ _ (by decide +kernel) ?_
    show G Γ m_MO_what (d + 1) (0, 0) Q 75 [.ref r0, .int x1, .int x2, .long y3, jk, .int x5] [.int x2, .ref r0, .long v3] μ3
    refine g_invV (M' := m_MO_heldBy) (b1 := 0) (b2 := 0) (As := [.int x2]) (a := r0) (st := [.long v3]) lk_11_484 (by decide +kernel) rfl (dk_MO_heldBy d) (Nat.le_of_ble_eq_true rfl) (Or.inl ⟨11, ((o_r0_11).mono hn3), rfl⟩) h ?_
    rintro _ μ4 ⟨v4, rfl, h⟩ hn4
    show G Γ m_MO_what (d + 1) (0, 0) Q 78 [.ref r0, .int x1, .int x2, .long y3, jk, .int x5] [.long v4, .long v3] μ4
    refine run_ok (pc' := 79) [(.lcmp, 0, 0, 0)] _ _ _ _ (by decide +kernel) ?_
    show G Γ m_MO_what (d + 1) (0, 0) Q 79 [.ref r0, .int x1, .int x2, .long y3, jk, .int x5] [.int (lg_cmp v3 v4)] μ4
    refine g_ifz_le (pc' := 85) (off := 6) (by decide) (by decide +kernel) (fun hc => ?_) (fun hc => ?_)
    · replace h := h.2 hc
      show G Γ m_MO_what (d + 1) (0, 0) Q 85 [.ref r0, .int x1, .int x2, .long y3, jk, .int x5] [] μ4
      refine run_ok (pc' := 89) [(.lload_n 3, 0, 0, 0), (.aload_n 0, 0, 0, 0), (.iload 5, 0, 0, 0)] _ _ _ _ (by decide +kernel) ?_
      show G Γ m_MO_what (d + 1) (0, 0) Q 89 [.ref r0, .int x1, .int x2, .long y3, jk, .int x5] [.int x5, .ref r0, .long y3] μ4
      refine g_invV (M' := m_MO_heldBy) (b1 := 0) (b2 := 0) (As := [.int x5]) (a := r0) (st := [.long y3]) lk_11_484 (by decide +kernel) rfl (dk_MO_heldBy d) (Nat.le_of_ble_eq_true rfl) (Or.inl ⟨11, (((o_r0_11).mono hn3).mono hn4), rfl⟩) h ?_
      rintro _ μ5 ⟨v5, rfl, h⟩ hn5
      show G Γ m_MO_what (d + 1) (0, 0) Q 92 [.ref r0, .int x1, .int x2, .long y3, jk, .int x5] [.long v5, .long y3] μ5
      refine run_ok (pc' := 58) [(.ladd, 0, 0, 0), (.lstore_n 3, 0, 0, 0), (.iinc 5 1, 0, 0, 0), (.goto (-39), 0, 0, 0)] _ _ _ _ (by decide +kernel) ?_
      show G Γ m_MO_what (d + 1) (0, 0) Q 58 [.ref r0, .int x1, .int x2, .long (y3 + v5), jk, .int (x5 + w 1)] [] μ5
      exact h
    · replace h := h.1 hc
      show G Γ m_MO_what (d + 1) (0, 0) Q 82 [.ref r0, .int x1, .int x2, .long y3, jk, .int x5] [] μ4
      refine run_ok (pc' := 89) [(.iload 5, 0, 0, 0), (.istore_n 2, 0, 0, 0), (.lload_n 3, 0, 0, 0), (.aload_n 0, 0, 0, 0), (.iload 5, 0, 0, 0)] _ _ _ _ (by decide +kernel) ?_
      show G Γ m_MO_what (d + 1) (0, 0) Q 89 [.ref r0, .int x1, .int x5, .long y3, jk, .int x5] [.int x5, .ref r0, .long y3] μ4
      refine g_invV (M' := m_MO_heldBy) (b1 := 0) (b2 := 0) (As := [.int x5]) (a := r0) (st := [.long y3]) lk_11_484 (by decide +kernel) rfl (dk_MO_heldBy d) (Nat.le_of_ble_eq_true rfl) (Or.inl ⟨11, (((o_r0_11).mono hn3).mono hn4), rfl⟩) h ?_
      rintro _ μ6 ⟨v6, rfl, h⟩ hn6
      show G Γ m_MO_what (d + 1) (0, 0) Q 92 [.ref r0, .int x1, .int x5, .long y3, jk, .int x5] [.long v6, .long y3] μ6
      refine run_ok (pc' := 58) [(.ladd, 0, 0, 0), (.lstore_n 3, 0, 0, 0), (.iinc 5 1, 0, 0, 0), (.goto (-39), 0, 0, 0)] _ _ _ _ (by decide +kernel) ?_
      show G Γ m_MO_what (d + 1) (0, 0) Q 58 [.ref r0, .int x1, .int x5, .long (y3 + v6), jk, .int (x5 + w 1)] [] μ6
      exact h
/-! FrostBoxModel found(IIZ)I -/
set_option maxRecDepth 100000 in
theorem B_MO_found_0 {Γ : XG} {d : Nat} {Q : Option Value → XM → Prop} {r0 : Nat} {x1 x2 x3 : Int32} {μ : XM} (o_r0_11 : ob μ r0 11) (h : ∀ μ1, μ1 = sI μ r0 0 (w 0) → ((xI μ1 r0 25 = w 0 → Q (some (.int (w (-1)))) μ1) ∧ (¬ xI μ1 r0 25 = w 0 → Call Γ m_MO_isIn d [.long (x1.toInt64), .long (wl 0), .long (wl 5)] μ1 (KI (fun v2 μ2 => ((v2 = w 0 → Q (some (.int (w (-1)))) μ2) ∧ (¬ v2 = w 0 → Call Γ m_MO_isKind d [.ref r0, .int x2] μ2 (KI (fun v3 μ3 => ((v3 = w 0 → Q (some (.int (w (-1)))) μ3) ∧ (¬ v3 = w 0 → ((xI μ3 r0 50 = w 10 → Q (some (.int (w (-1)))) μ3) ∧ (¬ xI μ3 r0 50 = w 10 → ∃ a4, xR μ3 r0 44 = some a4 ∧ inS μ3 0 a4 (xI μ3 r0 50) ∧ ∀ μ6, μ6 = sI μ3 a4 (xI μ3 r0 50).toNatClampNeg x1 → ∃ a7, xR μ6 r0 45 = some a7 ∧ inS μ6 0 a7 (xI μ6 r0 50) ∧ ∀ μ9, μ9 = sI μ6 a7 (xI μ6 r0 50).toNatClampNeg x2 → ∃ a10, xR μ9 r0 49 = some a10 ∧ inS μ9 2 a10 (xI μ9 r0 50) ∧ (x3 = w 0 ∨ x3 = w 1) ∧ ∀ μ12, μ12 = sI μ9 a10 (xI μ9 r0 50).toNatClampNeg x3 → ∀ μ13, μ13 = sI μ12 r0 50 ((xI μ12 r0 50) + (w 1)) → Q (some (.int (xI μ13 r0 50))) μ13))))))))))))) : G Γ m_MO_found (d + 1) (0, 0) Q 0 [.ref r0, .int x1, .int x2, .int x3] [] μ := by
  refine run_ok (pc' := 5) [(.aload_n 0, 0, 0, 0), (.iconst 0, 0, 0, 0), (.putfield 109, 11, 0, 0)] _ _ _ _ (by decide +kernel) ?_
  show _ ∧ (_)
  refine ⟨o_r0_11, ?_⟩
  show G Γ m_MO_found (d + 1) (0, 0) Q 5 [.ref r0, .int x1, .int x2, .int x3] [] (sI μ r0 0 (w 0))
  obtain ⟨μ1, em1⟩ : ∃ m : XM, m = sI μ r0 0 (w 0) := ⟨_, rfl⟩
  replace h := h μ1 em1
  have hm1 : xN μ ≤ xN μ1 := by rw [em1]; exact Nat.le_refl _
  rw [← em1]
  refine run_ok (pc' := 9) [(.aload_n 0, 0, 0, 0), (.getfield 307, 11, 25, 0)] _ _ _ _ (by decide +kernel) ?_
  show _ ∧ (_)
  refine ⟨((o_r0_11).mono hm1), ?_⟩
  show G Γ m_MO_found (d + 1) (0, 0) Q 9 [.ref r0, .int x1, .int x2, .int x3] [.int (xI μ1 r0 25)] μ1
  refine g_ifz_eq (pc' := 41) (off := 32) (by decide) (by decide +kernel) (fun hc => ?_) (fun hc => ?_)
  · replace h := h.1 hc
    show G Γ m_MO_found (d + 1) (0, 0) Q 41 [.ref r0, .int x1, .int x2, .int x3] [] μ1
    refine run_ok (pc' := 42) [(.iconst (-1), 0, 0, 0)] _ _ _ _ (by decide +kernel) ?_
    show G Γ m_MO_found (d + 1) (0, 0) Q 42 [.ref r0, .int x1, .int x2, .int x3] [.int (w (-1))] μ1
    exact g_reti (by decide +kernel) rfl h
  · replace h := h.2 hc
    show G Γ m_MO_found (d + 1) (0, 0) Q 12 [.ref r0, .int x1, .int x2, .int x3] [] μ1
    refine run_ok (pc' := 18) [(.iload_n 1, 0, 0, 0), (.i2l, 0, 0, 0), (.lconst 0, 0, 0, 0), (.ldc2_w 338, 0, 0, 5)] _ _ _ _ (by decide +kernel) ?_
    show G Γ m_MO_found (d + 1) (0, 0) Q 18 [.ref r0, .int x1, .int x2, .int x3] [.long (wl 5), .long (wl 0), .long (x1.toInt64)] μ1
    refine g_invS (M' := m_MO_isIn) (b1 := 0) (b2 := 0) (As := [.long (x1.toInt64), .long (wl 0), .long (wl 5)]) (st := []) lk_11_230 (by decide +kernel) rfl (dk_MO_isIn d) (Nat.le_of_ble_eq_true rfl) h ?_
    rintro _ μ2 ⟨v2, rfl, h⟩ hn2
    show G Γ m_MO_found (d + 1) (0, 0) Q 21 [.ref r0, .int x1, .int x2, .int x3] [.int v2] μ2
    refine g_ifz_eq (pc' := 41) (off := 20) (by decide) (by decide +kernel) (fun hc => ?_) (fun hc => ?_)
    · replace h := h.1 hc
      show G Γ m_MO_found (d + 1) (0, 0) Q 41 [.ref r0, .int x1, .int x2, .int x3] [] μ2
      refine run_ok (pc' := 42) [(.iconst (-1), 0, 0, 0)] _ _ _ _ (by decide +kernel) ?_
      show G Γ m_MO_found (d + 1) (0, 0) Q 42 [.ref r0, .int x1, .int x2, .int x3] [.int (w (-1))] μ2
      exact g_reti (by decide +kernel) rfl h
    · replace h := h.2 hc
      show G Γ m_MO_found (d + 1) (0, 0) Q 24 [.ref r0, .int x1, .int x2, .int x3] [] μ2
      refine run_ok (pc' := 26) [(.aload_n 0, 0, 0, 0), (.iload_n 2, 0, 0, 0)] _ _ _ _ (by decide +kernel) ?_
      show G Γ m_MO_found (d + 1) (0, 0) Q 26 [.ref r0, .int x1, .int x2, .int x3] [.int x2, .ref r0] μ2
      refine g_invV (M' := m_MO_isKind) (b1 := 0) (b2 := 0) (As := [.int x2]) (a := r0) (st := []) lk_11_356 (by decide +kernel) rfl (dk_MO_isKind d) (Nat.le_of_ble_eq_true rfl) (Or.inl ⟨11, (((o_r0_11).mono hm1).mono hn2), rfl⟩) h ?_
      rintro _ μ3 ⟨v3, rfl, h⟩ hn3
      show G Γ m_MO_found (d + 1) (0, 0) Q 29 [.ref r0, .int x1, .int x2, .int x3] [.int v3] μ3
      refine g_ifz_eq (pc' := 41) (off := 12) (by decide) (by decide +kernel) (fun hc => ?_) (fun hc => ?_)
      · replace h := h.1 hc
        show G Γ m_MO_found (d + 1) (0, 0) Q 41 [.ref r0, .int x1, .int x2, .int x3] [] μ3
        refine run_ok (pc' := 42) [(.iconst (-1), 0, 0, 0)] _ _ _ _ (by decide +kernel) ?_
        show G Γ m_MO_found (d + 1) (0, 0) Q 42 [.ref r0, .int x1, .int x2, .int x3] [.int (w (-1))] μ3
        exact g_reti (by decide +kernel) rfl h
      · replace h := h.2 hc
        show G Γ m_MO_found (d + 1) (0, 0) Q 32 [.ref r0, .int x1, .int x2, .int x3] [] μ3
        refine run_ok (pc' := 38) [(.aload_n 0, 0, 0, 0), (.getfield 313, 11, 50, 0), (.bipush 10, 0, 0, 0)] _ _ _ _ (by decide +kernel) ?_
        show _ ∧ (_)
        refine ⟨((((o_r0_11).mono hm1).mono hn2).mono hn3), ?_⟩
        show G Γ m_MO_found (d + 1) (0, 0) Q 38 [.ref r0, .int x1, .int x2, .int x3] [.int (w 10), .int (xI μ3 r0 50)] μ3
        refine g_icmp_ne (pc' := 43) (off := 5) (by decide) (by decide +kernel) (fun hc => ?_) (fun hc => ?_)
        · replace h := h.2 hc
          show G Γ m_MO_found (d + 1) (0, 0) Q 43 [.ref r0, .int x1, .int x2, .int x3] [] μ3
          obtain ⟨a4, ea4, h⟩ := h
          obtain ⟨is5, h⟩ := h
          refine run_ok (pc' := 53) [(.aload_n 0, 0, 0, 0), (.getfield 87, 11, 44, 2), (.aload_n 0, 0, 0, 0), (.getfield 313, 11, 50, 0), (.iload_n 1, 0, 0, 0), (.iastore, 0, 0, 0)] _ _ _ _ (by decide +kernel) ?_
          show _ ∧ (∃ _, _ ∧ (_ ∧ (_ ∧ (_))))
          refine ⟨((((o_r0_11).mono hm1).mono hn2).mono hn3), a4, ea4, ((((o_r0_11).mono hm1).mono hn2).mono hn3), is5, ?_⟩
          show G Γ m_MO_found (d + 1) (0, 0) Q 53 [.ref r0, .int x1, .int x2, .int x3] [] (sI μ3 a4 (xI μ3 r0 50).toNatClampNeg x1)
          obtain ⟨μ6, em6⟩ : ∃ m : XM, m = sI μ3 a4 (xI μ3 r0 50).toNatClampNeg x1 := ⟨_, rfl⟩
          replace h := h μ6 em6
          have hm6 : xN μ3 ≤ xN μ6 := by rw [em6]; exact Nat.le_refl _
          rw [← em6]
          obtain ⟨a7, ea7, h⟩ := h
          obtain ⟨is8, h⟩ := h
          refine run_ok (pc' := 63) [(.aload_n 0, 0, 0, 0), (.getfield 90, 11, 45, 2), (.aload_n 0, 0, 0, 0), (.getfield 313, 11, 50, 0), (.iload_n 2, 0, 0, 0), (.iastore, 0, 0, 0)] _ _ _ _ (by decide +kernel) ?_
          show _ ∧ (∃ _, _ ∧ (_ ∧ (_ ∧ (_))))
          refine ⟨(((((o_r0_11).mono hm1).mono hn2).mono hn3).mono hm6), a7, ea7, (((((o_r0_11).mono hm1).mono hn2).mono hn3).mono hm6), is8, ?_⟩
          show G Γ m_MO_found (d + 1) (0, 0) Q 63 [.ref r0, .int x1, .int x2, .int x3] [] (sI μ6 a7 (xI μ6 r0 50).toNatClampNeg x2)
          obtain ⟨μ9, em9⟩ : ∃ m : XM, m = sI μ6 a7 (xI μ6 r0 50).toNatClampNeg x2 := ⟨_, rfl⟩
          replace h := h μ9 em9
          have hm9 : xN μ6 ≤ xN μ9 := by rw [em9]; exact Nat.le_refl _
          rw [← em9]
          obtain ⟨a10, ea10, h⟩ := h
          obtain ⟨is11, h⟩ := h
          obtain ⟨zb11, h⟩ := h
          refine run_ok (pc' := 73) [(.aload_n 0, 0, 0, 0), (.getfield 102, 11, 49, 2), (.aload_n 0, 0, 0, 0), (.getfield 313, 11, 50, 0), (.iload_n 3, 0, 0, 0), (.bastore, 2, 0, 0)] _ _ _ _ (by decide +kernel) ?_
          show _ ∧ (∃ _, _ ∧ (_ ∧ (_ ∧ (_ ∧ (_)))))
          refine ⟨((((((o_r0_11).mono hm1).mono hn2).mono hn3).mono hm6).mono hm9), a10, ea10, ((((((o_r0_11).mono hm1).mono hn2).mono hn3).mono hm6).mono hm9), is11, zb11, ?_⟩
          show G Γ m_MO_found (d + 1) (0, 0) Q 73 [.ref r0, .int x1, .int x2, .int x3] [] (sI μ9 a10 (xI μ9 r0 50).toNatClampNeg x3)
          obtain ⟨μ12, em12⟩ : ∃ m : XM, m = sI μ9 a10 (xI μ9 r0 50).toNatClampNeg x3 := ⟨_, rfl⟩
          replace h := h μ12 em12
          have hm12 : xN μ9 ≤ xN μ12 := by rw [em12]; exact Nat.le_refl _
          rw [← em12]
          refine run_ok (pc' := 83) [(.aload_n 0, 0, 0, 0), (.dup, 0, 0, 0), (.getfield 313, 11, 50, 0), (.iconst 1, 0, 0, 0), (.iadd, 0, 0, 0), (.putfield 313, 11, 50, 0)] _ _ _ _ (by decide +kernel) ?_
          show _ ∧ (_ ∧ (_))
          refine ⟨(((((((o_r0_11).mono hm1).mono hn2).mono hn3).mono hm6).mono hm9).mono hm12), (((((((o_r0_11).mono hm1).mono hn2).mono hn3).mono hm6).mono hm9).mono hm12), ?_⟩
          show G Γ m_MO_found (d + 1) (0, 0) Q 83 [.ref r0, .int x1, .int x2, .int x3] [] (sI μ12 r0 50 ((xI μ12 r0 50) + (w 1)))
          obtain ⟨μ13, em13⟩ : ∃ m : XM, m = sI μ12 r0 50 ((xI μ12 r0 50) + (w 1)) := ⟨_, rfl⟩
          replace h := h μ13 em13
          have hm13 : xN μ12 ≤ xN μ13 := by rw [em13]; exact Nat.le_refl _
          rw [← em13]
          refine run_ok (pc' := 87) [(.aload_n 0, 0, 0, 0), (.getfield 313, 11, 50, 0)] _ _ _ _ (by decide +kernel) ?_
          show _ ∧ (_)
          refine ⟨((((((((o_r0_11).mono hm1).mono hn2).mono hn3).mono hm6).mono hm9).mono hm12).mono hm13), ?_⟩
          show G Γ m_MO_found (d + 1) (0, 0) Q 87 [.ref r0, .int x1, .int x2, .int x3] [.int (xI μ13 r0 50)] μ13
          exact g_reti (by decide +kernel) rfl h
        · replace h := h.1 hc
          show G Γ m_MO_found (d + 1) (0, 0) Q 41 [.ref r0, .int x1, .int x2, .int x3] [] μ3
          refine run_ok (pc' := 42) [(.iconst (-1), 0, 0, 0)] _ _ _ _ (by decide +kernel) ?_
          show G Γ m_MO_found (d + 1) (0, 0) Q 42 [.ref r0, .int x1, .int x2, .int x3] [.int (w (-1))] μ3
          exact g_reti (by decide +kernel) rfl h
/-! FrostBoxModel mayBe(II)Z -/
set_option maxRecDepth 100000 in
theorem B_MO_mayBe_0 {Γ : XG} {d : Nat} {Q : Option Value → XM → Prop} {r0 : Nat} {x1 x2 : Int32} {μ : XM}  (h : G Γ m_MO_mayBe (d + 1) (0, 0) Q 2 [.ref r0, .int x1, .int x2, .int (w 0)] [] μ) : G Γ m_MO_mayBe (d + 1) (0, 0) Q 0 [.ref r0, .int x1, .int x2] [] μ := by
  refine run_ok (pc' := 2) [(.iconst 0, 0, 0, 0), (.istore_n 3, 0, 0, 0)] _ _ _ _ (by decide +kernel) ?_
  show G Γ m_MO_mayBe (d + 1) (0, 0) Q 2 [.ref r0, .int x1, .int x2, .int (w 0)] [] μ
  exact h
set_option maxRecDepth 100000 in
theorem B_MO_mayBe_2 {Γ : XG} {d : Nat} {Q : Option Value → XM → Prop} {r0 r0_44 r0_45 r0_49 : Nat} {x1 x2 x3 : Int32} {μ : XM} (o_r0_11 : ob μ r0 11) (e_r0_44 : xR μ r0 44 = some r0_44) (e_r0_45 : xR μ r0 45 = some r0_45) (e_r0_49 : xR μ r0 49 = some r0_49) (h : ((x3 < xI μ r0 50 → inb μ 0 r0_44 x3 ∧ ((xI μ r0_44 x3.toNatClampNeg = x1 → inb μ 0 r0_45 x3 ∧ ((xI μ r0_45 x3.toNatClampNeg = x2 → inb μ 2 r0_49 x3 ∧ ((w 1 = xI μ r0_49 x3.toNatClampNeg → G Γ m_MO_mayBe (d + 1) (0, 0) Q 2 [.ref r0, .int x1, .int x2, .int (x3 + w 1)] [] μ) ∧ (¬ w 1 = xI μ r0_49 x3.toNatClampNeg → Q (some (.int (w 0))) μ))) ∧ (¬ xI μ r0_45 x3.toNatClampNeg = x2 → inb μ 2 r0_49 x3 ∧ ((w 0 = xI μ r0_49 x3.toNatClampNeg → G Γ m_MO_mayBe (d + 1) (0, 0) Q 2 [.ref r0, .int x1, .int x2, .int (x3 + w 1)] [] μ) ∧ (¬ w 0 = xI μ r0_49 x3.toNatClampNeg → Q (some (.int (w 0))) μ))))) ∧ (¬ xI μ r0_44 x3.toNatClampNeg = x1 → G Γ m_MO_mayBe (d + 1) (0, 0) Q 2 [.ref r0, .int x1, .int x2, .int (x3 + w 1)] [] μ))) ∧ (¬ x3 < xI μ r0 50 → Q (some (.int (w 1))) μ))) : G Γ m_MO_mayBe (d + 1) (0, 0) Q 2 [.ref r0, .int x1, .int x2, .int x3] [] μ := by
  refine run_ok (pc' := 7) [(.iload_n 3, 0, 0, 0), (.aload_n 0, 0, 0, 0), (.getfield 313, 11, 50, 0)] _ _ _ _ (by decide +kernel) ?_
  show _ ∧ (_)
  refine ⟨o_r0_11, ?_⟩
  show G Γ m_MO_mayBe (d + 1) (0, 0) Q 7 [.ref r0, .int x1, .int x2, .int x3] [.int (xI μ r0 50), .int x3] μ
  refine g_icmp_ge (pc' := 52) (off := 45) (by decide) (by decide +kernel) (fun hc => ?_) (fun hc => ?_)
  · replace h := h.2 hc
    show G Γ m_MO_mayBe (d + 1) (0, 0) Q 52 [.ref r0, .int x1, .int x2, .int x3] [] μ
    refine run_ok (pc' := 53) [(.iconst 1, 0, 0, 0)] _ _ _ _ (by decide +kernel) ?_
    show G Γ m_MO_mayBe (d + 1) (0, 0) Q 53 [.ref r0, .int x1, .int x2, .int x3] [.int (w 1)] μ
    exact g_retz (by decide +kernel) rfl (Or.inr rfl) h
  · replace h := h.1 hc
    show G Γ m_MO_mayBe (d + 1) (0, 0) Q 10 [.ref r0, .int x1, .int x2, .int x3] [] μ
    obtain ⟨ib1, h⟩ := h
    refine run_ok (pc' := 17) [(.aload_n 0, 0, 0, 0), (.getfield 87, 11, 44, 2), (.iload_n 3, 0, 0, 0), (.iaload, 0, 0, 0), (.iload_n 1, 0, 0, 0)] _ _ _ _ (by decide +kernel) ?_
    show _ ∧ (∃ _, _ ∧ (_ ∧ (_)))
    refine ⟨o_r0_11, r0_44, e_r0_44, ib1, ?_⟩
    show G Γ m_MO_mayBe (d + 1) (0, 0) Q 17 [.ref r0, .int x1, .int x2, .int x3] [.int x1, .int (xI μ r0_44 x3.toNatClampNeg)] μ
    refine g_icmp_ne (pc' := 46) (off := 29) (by decide) (by decide +kernel) (fun hc => ?_) (fun hc => ?_)
    · replace h := h.2 hc
      show G Γ m_MO_mayBe (d + 1) (0, 0) Q 46 [.ref r0, .int x1, .int x2, .int x3] [] μ
      refine run_ok (pc' := 2) [(.iinc 3 1, 0, 0, 0), (.goto (-47), 0, 0, 0)] _ _ _ _ (by decide +kernel) ?_
      show G Γ m_MO_mayBe (d + 1) (0, 0) Q 2 [.ref r0, .int x1, .int x2, .int (x3 + w 1)] [] μ
      exact h
    · replace h := h.1 hc
      show G Γ m_MO_mayBe (d + 1) (0, 0) Q 20 [.ref r0, .int x1, .int x2, .int x3] [] μ
      obtain ⟨ib2, h⟩ := h
      refine run_ok (pc' := 27) [(.aload_n 0, 0, 0, 0), (.getfield 90, 11, 45, 2), (.iload_n 3, 0, 0, 0), (.iaload, 0, 0, 0), (.iload_n 2, 0, 0, 0)] _ _ _ _ (by decide +kernel) ?_
      show _ ∧ (∃ _, _ ∧ (_ ∧ (_)))
      refine ⟨o_r0_11, r0_45, e_r0_45, ib2, ?_⟩
      show G Γ m_MO_mayBe (d + 1) (0, 0) Q 27 [.ref r0, .int x1, .int x2, .int x3] [.int x2, .int (xI μ r0_45 x3.toNatClampNeg)] μ
      refine g_icmp_ne (pc' := 34) (off := 7) (by decide) (by decide +kernel) (fun hc => ?_) (fun hc => ?_)
      · replace h := h.2 hc
        show G Γ m_MO_mayBe (d + 1) (0, 0) Q 34 [.ref r0, .int x1, .int x2, .int x3] [] μ
        obtain ⟨ib3, h⟩ := h
        refine run_ok (pc' := 41) [(.iconst 0, 0, 0, 0), (.aload_n 0, 0, 0, 0), (.getfield 102, 11, 49, 2), (.iload_n 3, 0, 0, 0), (.baload, 2, 0, 0)] _ _ _ _ (by decide +kernel) ?_
        show _ ∧ (∃ _, _ ∧ (_ ∧ (_ ∧ (_))))
        refine ⟨o_r0_11, r0_49, e_r0_49, ib3, Or.inr rfl, ?_⟩
        show G Γ m_MO_mayBe (d + 1) (0, 0) Q 41 [.ref r0, .int x1, .int x2, .int x3] [.int (xI μ r0_49 x3.toNatClampNeg), .int (w 0)] μ
        refine g_icmp_eq (pc' := 46) (off := 5) (by decide) (by decide +kernel) (fun hc => ?_) (fun hc => ?_)
        · replace h := h.1 hc
          show G Γ m_MO_mayBe (d + 1) (0, 0) Q 46 [.ref r0, .int x1, .int x2, .int x3] [] μ
          refine run_ok (pc' := 2) [(.iinc 3 1, 0, 0, 0), (.goto (-47), 0, 0, 0)] _ _ _ _ (by decide +kernel) ?_
          show G Γ m_MO_mayBe (d + 1) (0, 0) Q 2 [.ref r0, .int x1, .int x2, .int (x3 + w 1)] [] μ
          exact h
        · replace h := h.2 hc
          show G Γ m_MO_mayBe (d + 1) (0, 0) Q 44 [.ref r0, .int x1, .int x2, .int x3] [] μ
          refine run_ok (pc' := 45) [(.iconst 0, 0, 0, 0)] _ _ _ _ (by decide +kernel) ?_
          show G Γ m_MO_mayBe (d + 1) (0, 0) Q 45 [.ref r0, .int x1, .int x2, .int x3] [.int (w 0)] μ
          exact g_retz (by decide +kernel) rfl (Or.inl rfl) h
      · replace h := h.1 hc
        show G Γ m_MO_mayBe (d + 1) (0, 0) Q 30 [.ref r0, .int x1, .int x2, .int x3] [] μ
        obtain ⟨ib4, h⟩ := h
        refine run_ok (pc' := 41) [(.iconst 1, 0, 0, 0), (.goto 4, 0, 0, 0), (.aload_n 0, 0, 0, 0), (.getfield 102, 11, 49, 2), (.iload_n 3, 0, 0, 0), (.baload, 2, 0, 0)] _ _ _ _ (by decide +kernel) ?_
        show _ ∧ (∃ _, _ ∧ (_ ∧ (_ ∧ (_))))
        refine ⟨o_r0_11, r0_49, e_r0_49, ib4, Or.inr rfl, ?_⟩
        show G Γ m_MO_mayBe (d + 1) (0, 0) Q 41 [.ref r0, .int x1, .int x2, .int x3] [.int (xI μ r0_49 x3.toNatClampNeg), .int (w 1)] μ
        refine g_icmp_eq (pc' := 46) (off := 5) (by decide) (by decide +kernel) (fun hc => ?_) (fun hc => ?_)
        · replace h := h.1 hc
          show G Γ m_MO_mayBe (d + 1) (0, 0) Q 46 [.ref r0, .int x1, .int x2, .int x3] [] μ
          refine run_ok (pc' := 2) [(.iinc 3 1, 0, 0, 0), (.goto (-47), 0, 0, 0)] _ _ _ _ (by decide +kernel) ?_
          show G Γ m_MO_mayBe (d + 1) (0, 0) Q 2 [.ref r0, .int x1, .int x2, .int (x3 + w 1)] [] μ
          exact h
        · replace h := h.2 hc
          show G Γ m_MO_mayBe (d + 1) (0, 0) Q 44 [.ref r0, .int x1, .int x2, .int x3] [] μ
          refine run_ok (pc' := 45) [(.iconst 0, 0, 0, 0)] _ _ _ _ (by decide +kernel) ?_
          show G Γ m_MO_mayBe (d + 1) (0, 0) Q 45 [.ref r0, .int x1, .int x2, .int x3] [.int (w 0)] μ
          exact g_retz (by decide +kernel) rfl (Or.inl rfl) h
/-! FrostBoxModel goHistory(III)V -/
set_option maxRecDepth 100000 in
theorem lk_11_505 : LkV 11 505 m_MO_goHistory 3 := ⟨lc_MO_goHistory, lwG_in (List.mem_of_getElem? (i := 1864) rfl) rfl, lwG_in (List.mem_of_getElem? (i := 1866) rfl) rfl, lwG_in (List.mem_of_getElem? (i := 109) rfl) rfl⟩
set_option maxRecDepth 100000 in
theorem lk_11_502 : LkV 11 502 m_MO_mayBe 2 := ⟨lc_MO_mayBe, lwG_in (List.mem_of_getElem? (i := 1868) rfl) rfl, lwG_in (List.mem_of_getElem? (i := 1870) rfl) rfl, lwG_in (List.mem_of_getElem? (i := 110) rfl) rfl⟩
set_option maxRecDepth 100000 in
theorem B_MO_goHistory_0 {Γ : XG} {d : Nat} {Q : Option Value → XM → Prop} {r0 : Nat} {x1 x2 x3 : Int32} {μ : XM} (o_r0_11 : ob μ r0 11) (h : ((x1 = w 6 → ((xI μ r0 51 = x3 → ∀ μ1, μ1 = sI μ r0 52 x2 → G Γ m_MO_goHistory (d + 1) (0, 0) Q 22 [.ref r0, jk, jk, jk, .int (w 0)] [] μ1) ∧ (¬ xI μ r0 51 = x3 → G Γ m_MO_goHistory (d + 1) (0, 0) Q 22 [.ref r0, jk, jk, jk, .int (w 0)] [] μ))) ∧ (¬ x1 = w 6 → G Γ m_MO_goHistory (d + 1) (0, 0) Q 105 [.ref r0, .int x1, .int x2, .int x3, .int (w 0)] [] μ))) : G Γ m_MO_goHistory (d + 1) (0, 0) Q 0 [.ref r0, .int x1, .int x2, .int x3] [] μ := by
  refine run_ok (pc' := 3) [(.iload_n 1, 0, 0, 0), (.bipush 6, 0, 0, 0)] _ _ _ _ (by decide +kernel) ?_
  show G Γ m_MO_goHistory (d + 1) (0, 0) Q 3 [.ref r0, .int x1, .int x2, .int x3] [.int (w 6), .int x1] μ
  refine g_icmp_ne (pc' := 102) (off := 99) (by decide) (by decide +kernel) (fun hc => ?_) (fun hc => ?_)
  · replace h := h.2 hc
    show G Γ m_MO_goHistory (d + 1) (0, 0) Q 102 [.ref r0, .int x1, .int x2, .int x3] [] μ
    refine run_ok (pc' := 105) [(.iconst 0, 0, 0, 0), (.istore 4, 0, 0, 0)] _ _ _ _ (by decide +kernel) ?_
    show G Γ m_MO_goHistory (d + 1) (0, 0) Q 105 [.ref r0, .int x1, .int x2, .int x3, .int (w 0)] [] μ
    exact h
  · replace h := h.1 hc
    show G Γ m_MO_goHistory (d + 1) (0, 0) Q 6 [.ref r0, .int x1, .int x2, .int x3] [] μ
    refine run_ok (pc' := 11) [(.aload_n 0, 0, 0, 0), (.getfield 493, 11, 51, 0), (.iload_n 3, 0, 0, 0)] _ _ _ _ (by decide +kernel) ?_
    show _ ∧ (_)
    refine ⟨o_r0_11, ?_⟩
    show G Γ m_MO_goHistory (d + 1) (0, 0) Q 11 [.ref r0, .int x1, .int x2, .int x3] [.int x3, .int (xI μ r0 51)] μ
    refine g_icmp_ne (pc' := 19) (off := 8) (by decide) (by decide +kernel) (fun hc => ?_) (fun hc => ?_)
    · replace h := h.2 hc
      show G Γ m_MO_goHistory (d + 1) (0, 0) Q 19 [.ref r0, .int x1, .int x2, .int x3] [] μ
      refine run_ok (pc' := 22) [(.iconst 0, 0, 0, 0), (.istore 4, 0, 0, 0)] _ _ _ _ (by decide +kernel) ?_
      show G Γ m_MO_goHistory (d + 1) (0, 0) Q 22 [.ref r0, .int x1, .int x2, .int x3, .int (w 0)] [] μ
      exact g_wk (ls' := [.ref r0, jk, jk, jk, .int (w 0)]) ⟨Or.inr rfl, Or.inl rfl, Or.inl rfl, Or.inl rfl, Or.inr rfl, trivial⟩ h
    · replace h := h.1 hc
      show G Γ m_MO_goHistory (d + 1) (0, 0) Q 14 [.ref r0, .int x1, .int x2, .int x3] [] μ
      refine run_ok (pc' := 19) [(.aload_n 0, 0, 0, 0), (.iload_n 2, 0, 0, 0), (.putfield 496, 11, 52, 0)] _ _ _ _ (by decide +kernel) ?_
      show _ ∧ (_)
      refine ⟨o_r0_11, ?_⟩
      show G Γ m_MO_goHistory (d + 1) (0, 0) Q 19 [.ref r0, .int x1, .int x2, .int x3] [] (sI μ r0 52 x2)
      obtain ⟨μ1, em1⟩ : ∃ m : XM, m = sI μ r0 52 x2 := ⟨_, rfl⟩
      replace h := h μ1 em1
      have hm1 : xN μ ≤ xN μ1 := by rw [em1]; exact Nat.le_refl _
      rw [← em1]
      refine run_ok (pc' := 22) [(.iconst 0, 0, 0, 0), (.istore 4, 0, 0, 0)] _ _ _ _ (by decide +kernel) ?_
      show G Γ m_MO_goHistory (d + 1) (0, 0) Q 22 [.ref r0, .int x1, .int x2, .int x3, .int (w 0)] [] μ1
      exact g_wk (ls' := [.ref r0, jk, jk, jk, .int (w 0)]) ⟨Or.inr rfl, Or.inl rfl, Or.inl rfl, Or.inl rfl, Or.inr rfl, trivial⟩ h
set_option maxRecDepth 100000 in
theorem B_MO_goHistory_22 {Γ : XG} {d : Nat} {Q : Option Value → XM → Prop} {r0 r0_48 r0_47 : Nat} {x4 : Int32} {μ : XM} (o_r0_11 : ob μ r0 11) (e_r0_48 : xR μ r0 48 = some r0_48) (e_r0_47 : xR μ r0 47 = some r0_47) (h : ((x4 < w 6 → ((xI μ r0 51 = w 0 → inb μ 0 r0_47 x4 ∧ inS μ 0 r0_48 x4 ∧ ∀ μ7, μ7 = sI μ r0_48 x4.toNatClampNeg (xI μ r0_47 x4.toNatClampNeg) → G Γ m_MO_goHistory (d + 1) (0, 0) Q 22 [.ref r0, jk, jk, jk, .int (x4 + w 1)] [] μ7) ∧ (¬ xI μ r0 51 = w 0 → inb μ 0 r0_48 x4 ∧ inb μ 0 r0_47 x4 ∧ ((xI μ r0_48 x4.toNatClampNeg = xI μ r0_47 x4.toNatClampNeg → G Γ m_MO_goHistory (d + 1) (0, 0) Q 22 [.ref r0, jk, jk, jk, .int (x4 + w 1)] [] μ) ∧ (¬ xI μ r0_48 x4.toNatClampNeg = xI μ r0_47 x4.toNatClampNeg → ∀ μ4, μ4 = sI μ r0 53 ((xI μ r0 53) &&& (((w 1) <<< (x4 &&& 31)) ^^^ (w (-1)))) → G Γ m_MO_goHistory (d + 1) (0, 0) Q 22 [.ref r0, jk, jk, jk, .int (x4 + w 1)] [] μ4))))) ∧ (¬ x4 < w 6 → ∀ μ1, μ1 = sI μ r0 51 ((xI μ r0 51) + (w 1)) → Q none μ1))) : G Γ m_MO_goHistory (d + 1) (0, 0) Q 22 [.ref r0, jk, jk, jk, .int x4] [] μ := by
  refine run_ok (pc' := 26) [(.iload 4, 0, 0, 0), (.bipush 6, 0, 0, 0)] _ _ _ _ (by decide +kernel) ?_
  show G Γ m_MO_goHistory (d + 1) (0, 0) Q 26 [.ref r0, jk, jk, jk, .int x4] [.int (w 6), .int x4] μ
  refine g_icmp_ge (pc' := 91) (off := 65) (by decide) (by decide +kernel) (fun hc => ?_) (fun hc => ?_)
  · replace h := h.2 hc
    show G Γ m_MO_goHistory (d + 1) (0, 0) Q 91 [.ref r0, jk, jk, jk, .int x4] [] μ
    refine run_ok (pc' := 101) [(.aload_n 0, 0, 0, 0), (.dup, 0, 0, 0), (.getfield 493, 11, 51, 0), (.iconst 1, 0, 0, 0), (.iadd, 0, 0, 0), (.putfield 493, 11, 51, 0)] _ _ _ _ (by decide +kernel) ?_
    show _ ∧ (_ ∧ (_))
    refine ⟨o_r0_11, o_r0_11, ?_⟩
    show G Γ m_MO_goHistory (d + 1) (0, 0) Q 101 [.ref r0, jk, jk, jk, .int x4] [] (sI μ r0 51 ((xI μ r0 51) + (w 1)))
    obtain ⟨μ1, em1⟩ : ∃ m : XM, m = sI μ r0 51 ((xI μ r0 51) + (w 1)) := ⟨_, rfl⟩
    replace h := h μ1 em1
    have hm1 : xN μ ≤ xN μ1 := by rw [em1]; exact Nat.le_refl _
    rw [← em1]
    exact g_retv (by decide +kernel) rfl h
  · replace h := h.1 hc
    show G Γ m_MO_goHistory (d + 1) (0, 0) Q 29 [.ref r0, jk, jk, jk, .int x4] [] μ
    refine run_ok (pc' := 33) [(.aload_n 0, 0, 0, 0), (.getfield 493, 11, 51, 0)] _ _ _ _ (by decide +kernel) ?_
    show _ ∧ (_)
    refine ⟨o_r0_11, ?_⟩
    show G Γ m_MO_goHistory (d + 1) (0, 0) Q 33 [.ref r0, jk, jk, jk, .int x4] [.int (xI μ r0 51)] μ
    refine g_ifz_ne (pc' := 53) (off := 20) (by decide) (by decide +kernel) (fun hc => ?_) (fun hc => ?_)
    · replace h := h.2 hc
      show G Γ m_MO_goHistory (d + 1) (0, 0) Q 53 [.ref r0, jk, jk, jk, .int x4] [] μ
      obtain ⟨ib2, h⟩ := h
      obtain ⟨ib3, h⟩ := h
      refine run_ok (pc' := 67) [(.aload_n 0, 0, 0, 0), (.getfield 99, 11, 48, 2), (.iload 4, 0, 0, 0), (.iaload, 0, 0, 0), (.aload_n 0, 0, 0, 0), (.getfield 96, 11, 47, 2), (.iload 4, 0, 0, 0), (.iaload, 0, 0, 0)] _ _ _ _ (by decide +kernel) ?_
      show _ ∧ (∃ _, _ ∧ (_ ∧ (_ ∧ (∃ _, _ ∧ (_ ∧ (_))))))
      refine ⟨o_r0_11, r0_48, e_r0_48, ib2, o_r0_11, r0_47, e_r0_47, ib3, ?_⟩
      show G Γ m_MO_goHistory (d + 1) (0, 0) Q 67 [.ref r0, jk, jk, jk, .int x4] [.int (xI μ r0_47 x4.toNatClampNeg), .int (xI μ r0_48 x4.toNatClampNeg)] μ
      refine g_icmp_eq (pc' := 85) (off := 18) (by decide) (by decide +kernel) (fun hc => ?_) (fun hc => ?_)
      · replace h := h.1 hc
        show G Γ m_MO_goHistory (d + 1) (0, 0) Q 85 [.ref r0, jk, jk, jk, .int x4] [] μ
        refine run_ok (pc' := 22) [(.iinc 4 1, 0, 0, 0), (.goto (-66), 0, 0, 0)] _ _ _ _ (by decide +kernel) ?_
        show G Γ m_MO_goHistory (d + 1) (0, 0) Q 22 [.ref r0, jk, jk, jk, .int (x4 + w 1)] [] μ
        exact h
      · replace h := h.2 hc
        show G Γ m_MO_goHistory (d + 1) (0, 0) Q 70 [.ref r0, jk, jk, jk, .int x4] [] μ
        refine run_ok (pc' := 85) [(.aload_n 0, 0, 0, 0), (.dup, 0, 0, 0), (.getfield 499, 11, 53, 0), (.iconst 1, 0, 0, 0), (.iload 4, 0, 0, 0), (.ishl, 0, 0, 0), (.iconst (-1), 0, 0, 0), (.ixor, 0, 0, 0), (.iand, 0, 0, 0), (.putfield 499, 11, 53, 0)] _ _ _ _ (by decide +kernel) ?_
        show _ ∧ (_ ∧ (_))
        refine ⟨o_r0_11, o_r0_11, ?_⟩
        show G Γ m_MO_goHistory (d + 1) (0, 0) Q 85 [.ref r0, jk, jk, jk, .int x4] [] (sI μ r0 53 ((xI μ r0 53) &&& (((w 1) <<< (x4 &&& 31)) ^^^ (w (-1)))))
        obtain ⟨μ4, em4⟩ : ∃ m : XM, m = sI μ r0 53 ((xI μ r0 53) &&& (((w 1) <<< (x4 &&& 31)) ^^^ (w (-1)))) := ⟨_, rfl⟩
        replace h := h μ4 em4
        have hm4 : xN μ ≤ xN μ4 := by rw [em4]; exact Nat.le_refl _
        rw [← em4]
        refine run_ok (pc' := 22) [(.iinc 4 1, 0, 0, 0), (.goto (-66), 0, 0, 0)] _ _ _ _ (by decide +kernel) ?_
        show G Γ m_MO_goHistory (d + 1) (0, 0) Q 22 [.ref r0, jk, jk, jk, .int (x4 + w 1)] [] μ4
        exact h
    · replace h := h.1 hc
      show G Γ m_MO_goHistory (d + 1) (0, 0) Q 36 [.ref r0, jk, jk, jk, .int x4] [] μ
      obtain ⟨ib5, h⟩ := h
      obtain ⟨is6, h⟩ := h
      refine run_ok (pc' := 50) [(.aload_n 0, 0, 0, 0), (.getfield 99, 11, 48, 2), (.iload 4, 0, 0, 0), (.aload_n 0, 0, 0, 0), (.getfield 96, 11, 47, 2), (.iload 4, 0, 0, 0), (.iaload, 0, 0, 0), (.iastore, 0, 0, 0)] _ _ _ _ (by decide +kernel) ?_
      show _ ∧ (∃ _, _ ∧ (_ ∧ (∃ _, _ ∧ (_ ∧ (_ ∧ (_))))))
      refine ⟨o_r0_11, r0_48, e_r0_48, o_r0_11, r0_47, e_r0_47, ib5, is6, ?_⟩
      show G Γ m_MO_goHistory (d + 1) (0, 0) Q 50 [.ref r0, jk, jk, jk, .int x4] [] (sI μ r0_48 x4.toNatClampNeg (xI μ r0_47 x4.toNatClampNeg))
      obtain ⟨μ7, em7⟩ : ∃ m : XM, m = sI μ r0_48 x4.toNatClampNeg (xI μ r0_47 x4.toNatClampNeg) := ⟨_, rfl⟩
      replace h := h μ7 em7
      have hm7 : xN μ ≤ xN μ7 := by rw [em7]; exact Nat.le_refl _
      rw [← em7]
      refine run_ok (pc' := 22) [(.goto 35, 0, 0, 0), (.iinc 4 1, 0, 0, 0), (.goto (-66), 0, 0, 0)] _ _ _ _ (by decide +kernel) ?_
      show G Γ m_MO_goHistory (d + 1) (0, 0) Q 22 [.ref r0, jk, jk, jk, .int (x4 + w 1)] [] μ7
      exact h
set_option maxRecDepth 100000 in
theorem B_MO_goHistory_105 {Γ : XG} {d : Nat} {Q : Option Value → XM → Prop} {r0 r0_46 : Nat} {x1 x2 x3 x4 : Int32} {μ : XM} (o_r0_11 : ob μ r0 11) (e_r0_46 : xR μ r0 46 = some r0_46) (h : ((x4 < xI μ r0 25 → inb μ 0 r0_46 x4 ∧ ((xI μ r0_46 x4.toNatClampNeg = w 0 → G Γ m_MO_goHistory (d + 1) (0, 0) Q 105 [.ref r0, .int x1, .int x2, .int x3, .int (x4 + w 1)] [] μ) ∧ (¬ xI μ r0_46 x4.toNatClampNeg = w 0 → Call Γ m_MO_mayBe d [.ref r0, .int x1, .int x4] μ (KI (fun v2 μ2 => ((v2 = w 0 → G Γ m_MO_goHistory (d + 1) (0, 0) Q 105 [.ref r0, .int x1, .int x2, .int x3, .int (x4 + w 1)] [] μ2) ∧ (¬ v2 = w 0 → xR μ2 r0 46 = some r0_46 ∧ inb μ2 0 r0_46 x4 ∧ inS μ2 0 r0_46 x4 ∧ ∀ μ6, μ6 = sI μ2 r0_46 x4.toNatClampNeg ((xI μ2 r0_46 x4.toNatClampNeg) - (w 1)) → ∃ a7, xR μ6 r0 47 = some a7 ∧ inS μ6 0 a7 x1 ∧ ∀ μ9, μ9 = sI μ6 a7 x1.toNatClampNeg x4 → Call Γ m_MO_goHistory d [.ref r0, .int (x1 + (w 1)), .int (((w 10) * x2) + x4), .int x3] μ9 (KV (fun μ10 => xR μ10 r0 46 = some r0_46 ∧ inb μ10 0 r0_46 x4 ∧ inS μ10 0 r0_46 x4 ∧ ∀ μ14, μ14 = sI μ10 r0_46 x4.toNatClampNeg ((xI μ10 r0_46 x4.toNatClampNeg) + (w 1)) → G Γ m_MO_goHistory (d + 1) (0, 0) Q 105 [.ref r0, .int x1, .int x2, .int x3, .int (x4 + w 1)] [] μ14))))))))) ∧ (¬ x4 < xI μ r0 25 → Q none μ))) : G Γ m_MO_goHistory (d + 1) (0, 0) Q 105 [.ref r0, .int x1, .int x2, .int x3, .int x4] [] μ := by
  refine run_ok (pc' := 111) [(.iload 4, 0, 0, 0), (.aload_n 0, 0, 0, 0), (.getfield 307, 11, 25, 0)] _ _ _ _ (by decide +kernel) ?_
  show _ ∧ (_)
  refine ⟨o_r0_11, ?_⟩
  show G Γ m_MO_goHistory (d + 1) (0, 0) Q 111 [.ref r0, .int x1, .int x2, .int x3, .int x4] [.int (xI μ r0 25), .int x4] μ
  refine g_icmp_ge (pc' := 188) (off := 77) (by decide) (by decide +kernel) (fun hc => ?_) (fun hc => ?_)
  · replace h := h.2 hc
    show G Γ m_MO_goHistory (d + 1) (0, 0) Q 188 [.ref r0, .int x1, .int x2, .int x3, .int x4] [] μ
    exact g_retv (by decide +kernel) rfl h
  · replace h := h.1 hc
    show G Γ m_MO_goHistory (d + 1) (0, 0) Q 114 [.ref r0, .int x1, .int x2, .int x3, .int x4] [] μ
    obtain ⟨ib1, h⟩ := h
    refine run_ok (pc' := 121) [(.aload_n 0, 0, 0, 0), (.getfield 93, 11, 46, 2), (.iload 4, 0, 0, 0), (.iaload, 0, 0, 0)] _ _ _ _ (by decide +kernel) ?_
    show _ ∧ (∃ _, _ ∧ (_ ∧ (_)))
    refine ⟨o_r0_11, r0_46, e_r0_46, ib1, ?_⟩
    show G Γ m_MO_goHistory (d + 1) (0, 0) Q 121 [.ref r0, .int x1, .int x2, .int x3, .int x4] [.int (xI μ r0_46 x4.toNatClampNeg)] μ
    refine g_ifz_eq (pc' := 182) (off := 61) (by decide) (by decide +kernel) (fun hc => ?_) (fun hc => ?_)
    · replace h := h.1 hc
      show G Γ m_MO_goHistory (d + 1) (0, 0) Q 182 [.ref r0, .int x1, .int x2, .int x3, .int x4] [] μ
      refine run_ok (pc' := 105) [(.iinc 4 1, 0, 0, 0), (.goto (-80), 0, 0, 0)] _ _ _ _ (by decide +kernel) ?_
      show G Γ m_MO_goHistory (d + 1) (0, 0) Q 105 [.ref r0, .int x1, .int x2, .int x3, .int (x4 + w 1)] [] μ
      exact h
    · replace h := h.2 hc
      show G Γ m_MO_goHistory (d + 1) (0, 0) Q 124 [.ref r0, .int x1, .int x2, .int x3, .int x4] [] μ
      refine run_ok (pc' := 128) [(.aload_n 0, 0, 0, 0), (.iload_n 1, 0, 0, 0), (.iload 4, 0, 0, 0)] _ _ _ _ (by decide +kernel) ?_
      show G Γ m_MO_goHistory (d + 1) (0, 0) Q 128 [.ref r0, .int x1, .int x2, .int x3, .int x4] [.int x4, .int x1, .ref r0] μ
      refine g_invV (M' := m_MO_mayBe) (b1 := 0) (b2 := 0) (As := [.int x1, .int x4]) (a := r0) (st := []) lk_11_502 (by decide +kernel) rfl (dk_MO_mayBe d) (Nat.le_of_ble_eq_true rfl) (Or.inl ⟨11, o_r0_11, rfl⟩) h ?_
      rintro _ μ2 ⟨v2, rfl, h⟩ hn2
      show G Γ m_MO_goHistory (d + 1) (0, 0) Q 131 [.ref r0, .int x1, .int x2, .int x3, .int x4] [.int v2] μ2
      refine g_ifz_ne (pc' := 137) (off := 6) (by decide) (by decide +kernel) (fun hc => ?_) (fun hc => ?_)
      · replace h := h.2 hc
        show G Γ m_MO_goHistory (d + 1) (0, 0) Q 137 [.ref r0, .int x1, .int x2, .int x3, .int x4] [] μ2
        obtain ⟨ea3, h⟩ := h
        obtain ⟨ib4, h⟩ := h
        obtain ⟨is5, h⟩ := h
        refine run_ok (pc' := 148) [(.aload_n 0, 0, 0, 0), (.getfield 93, 11, 46, 2), (.iload 4, 0, 0, 0), (.dup2, 0, 0, 0), (.iaload, 0, 0, 0), (.iconst 1, 0, 0, 0), (.isub, 0, 0, 0), (.iastore, 0, 0, 0)] _ _ _ _ (by decide +kernel) ?_
        show _ ∧ (∃ _, _ ∧ (_ ∧ (_ ∧ (_))))
        refine ⟨((o_r0_11).mono hn2), r0_46, ea3, ib4, is5, ?_⟩
        show G Γ m_MO_goHistory (d + 1) (0, 0) Q 148 [.ref r0, .int x1, .int x2, .int x3, .int x4] [] (sI μ2 r0_46 x4.toNatClampNeg ((xI μ2 r0_46 x4.toNatClampNeg) - (w 1)))
        obtain ⟨μ6, em6⟩ : ∃ m : XM, m = sI μ2 r0_46 x4.toNatClampNeg ((xI μ2 r0_46 x4.toNatClampNeg) - (w 1)) := ⟨_, rfl⟩
        replace h := h μ6 em6
        have hm6 : xN μ2 ≤ xN μ6 := by rw [em6]; exact Nat.le_refl _
        rw [← em6]
        obtain ⟨a7, ea7, h⟩ := h
        obtain ⟨is8, h⟩ := h
        refine run_ok (pc' := 156) [(.aload_n 0, 0, 0, 0), (.getfield 96, 11, 47, 2), (.iload_n 1, 0, 0, 0), (.iload 4, 0, 0, 0), (.iastore, 0, 0, 0)] _ _ _ _ (by decide +kernel) ?_
        show _ ∧ (∃ _, _ ∧ (_ ∧ (_)))
        refine ⟨(((o_r0_11).mono hn2).mono hm6), a7, ea7, is8, ?_⟩
        show G Γ m_MO_goHistory (d + 1) (0, 0) Q 156 [.ref r0, .int x1, .int x2, .int x3, .int x4] [] (sI μ6 a7 x1.toNatClampNeg x4)
        obtain ⟨μ9, em9⟩ : ∃ m : XM, m = sI μ6 a7 x1.toNatClampNeg x4 := ⟨_, rfl⟩
        replace h := h μ9 em9
        have hm9 : xN μ6 ≤ xN μ9 := by rw [em9]; exact Nat.le_refl _
        rw [← em9]
        refine run_ok (pc' := 168) [(.aload_n 0, 0, 0, 0), (.iload_n 1, 0, 0, 0), (.iconst 1, 0, 0, 0), (.iadd, 0, 0, 0), (.bipush 10, 0, 0, 0), (.iload_n 2, 0, 0, 0), (.imul, 0, 0, 0), (.iload 4, 0, 0, 0), (.iadd, 0, 0, 0), (.iload_n 3, 0, 0, 0)] _ _ _ _ (by decide +kernel) ?_
        show G Γ m_MO_goHistory (d + 1) (0, 0) Q 168 [.ref r0, .int x1, .int x2, .int x3, .int x4] [.int x3, .int (((w 10) * x2) + x4), .int (x1 + (w 1)), .ref r0] μ9
        refine g_invV (M' := m_MO_goHistory) (b1 := 0) (b2 := 0) (As := [.int (x1 + (w 1)), .int (((w 10) * x2) + x4), .int x3]) (a := r0) (st := []) lk_11_505 (by decide +kernel) rfl (dk_MO_goHistory d) (Nat.le_of_ble_eq_true rfl) (Or.inl ⟨11, ((((o_r0_11).mono hn2).mono hm6).mono hm9), rfl⟩) h ?_
        rintro _ μ10 ⟨rfl, h⟩ hn10
        show G Γ m_MO_goHistory (d + 1) (0, 0) Q 171 [.ref r0, .int x1, .int x2, .int x3, .int x4] [] μ10
        obtain ⟨ea11, h⟩ := h
        obtain ⟨ib12, h⟩ := h
        obtain ⟨is13, h⟩ := h
        refine run_ok (pc' := 182) [(.aload_n 0, 0, 0, 0), (.getfield 93, 11, 46, 2), (.iload 4, 0, 0, 0), (.dup2, 0, 0, 0), (.iaload, 0, 0, 0), (.iconst 1, 0, 0, 0), (.iadd, 0, 0, 0), (.iastore, 0, 0, 0)] _ _ _ _ (by decide +kernel) ?_
        show _ ∧ (∃ _, _ ∧ (_ ∧ (_ ∧ (_))))
        refine ⟨(((((o_r0_11).mono hn2).mono hm6).mono hm9).mono hn10), r0_46, ea11, ib12, is13, ?_⟩
        show G Γ m_MO_goHistory (d + 1) (0, 0) Q 182 [.ref r0, .int x1, .int x2, .int x3, .int x4] [] (sI μ10 r0_46 x4.toNatClampNeg ((xI μ10 r0_46 x4.toNatClampNeg) + (w 1)))
        obtain ⟨μ14, em14⟩ : ∃ m : XM, m = sI μ10 r0_46 x4.toNatClampNeg ((xI μ10 r0_46 x4.toNatClampNeg) + (w 1)) := ⟨_, rfl⟩
        replace h := h μ14 em14
        have hm14 : xN μ10 ≤ xN μ14 := by rw [em14]; exact Nat.le_refl _
        rw [← em14]
        refine run_ok (pc' := 105) [(.iinc 4 1, 0, 0, 0), (.goto (-80), 0, 0, 0)] _ _ _ _ (by decide +kernel) ?_
        show G Γ m_MO_goHistory (d + 1) (0, 0) Q 105 [.ref r0, .int x1, .int x2, .int x3, .int (x4 + w 1)] [] μ14
        exact h
      · replace h := h.1 hc
        show G Γ m_MO_goHistory (d + 1) (0, 0) Q 134 [.ref r0, .int x1, .int x2, .int x3, .int x4] [] μ2
        refine run_ok (pc' := 105) [(.goto 48, 0, 0, 0), (.iinc 4 1, 0, 0, 0), (.goto (-80), 0, 0, 0)] _ _ _ _ (by decide +kernel) ?_
        show G Γ m_MO_goHistory (d + 1) (0, 0) Q 105 [.ref r0, .int x1, .int x2, .int x3, .int (x4 + w 1)] [] μ2
        exact h
/-! FrostBoxModel layHistory(II)Z -/
set_option maxRecDepth 100000 in
theorem B_MO_layHistory_0 {Γ : XG} {d : Nat} {Q : Option Value → XM → Prop} {r0 : Nat} {x1 x2 : Int32} {μ : XM} (o_r0_11 : ob μ r0 11) (h : ((xI μ r0 25 = w 0 → Q (some (.int (w 0))) μ) ∧ (¬ xI μ r0 25 = w 0 → Call Γ m_MO_isIn d [.long (x1.toInt64), .long (wl 0), .long (wl 999999)] μ (KI (fun v1 μ1 => ((v1 = w 0 → Q (some (.int (w 0))) μ1) ∧ (¬ v1 = w 0 → G Γ m_MO_layHistory (d + 1) (0, 0) Q 29 [.ref r0, jk, .int x2, .int x1, .int (w 0), .int (w 5)] [] μ1))))))) : G Γ m_MO_layHistory (d + 1) (0, 0) Q 0 [.ref r0, .int x1, .int x2] [] μ := by
  refine run_ok (pc' := 4) [(.aload_n 0, 0, 0, 0), (.getfield 307, 11, 25, 0)] _ _ _ _ (by decide +kernel) ?_
  show _ ∧ (_)
  refine ⟨o_r0_11, ?_⟩
  show G Γ m_MO_layHistory (d + 1) (0, 0) Q 4 [.ref r0, .int x1, .int x2] [.int (xI μ r0 25)] μ
  refine g_ifz_eq (pc' := 19) (off := 15) (by decide) (by decide +kernel) (fun hc => ?_) (fun hc => ?_)
  · replace h := h.1 hc
    show G Γ m_MO_layHistory (d + 1) (0, 0) Q 19 [.ref r0, .int x1, .int x2] [] μ
    refine run_ok (pc' := 20) [(.iconst 0, 0, 0, 0)] _ _ _ _ (by decide +kernel) ?_
    show G Γ m_MO_layHistory (d + 1) (0, 0) Q 20 [.ref r0, .int x1, .int x2] [.int (w 0)] μ
    exact g_retz (by decide +kernel) rfl (Or.inl rfl) h
  · replace h := h.2 hc
    show G Γ m_MO_layHistory (d + 1) (0, 0) Q 7 [.ref r0, .int x1, .int x2] [] μ
    refine run_ok (pc' := 13) [(.iload_n 1, 0, 0, 0), (.i2l, 0, 0, 0), (.lconst 0, 0, 0, 0), (.ldc2_w 509, 0, 0, 999999)] _ _ _ _ (by decide +kernel) ?_
    show G Γ m_MO_layHistory (d + 1) (0, 0) Q 13 [.ref r0, .int x1, .int x2] [.long (wl 999999), .long (wl 0), .long (x1.toInt64)] μ
    refine g_invS (M' := m_MO_isIn) (b1 := 0) (b2 := 0) (As := [.long (x1.toInt64), .long (wl 0), .long (wl 999999)]) (st := []) lk_11_230 (by decide +kernel) rfl (dk_MO_isIn d) (Nat.le_of_ble_eq_true rfl) h ?_
    rintro _ μ1 ⟨v1, rfl, h⟩ hn1
    show G Γ m_MO_layHistory (d + 1) (0, 0) Q 16 [.ref r0, .int x1, .int x2] [.int v1] μ1
    refine g_ifz_ne (pc' := 21) (off := 5) (by decide) (by decide +kernel) (fun hc => ?_) (fun hc => ?_)
    · replace h := h.2 hc
      show G Γ m_MO_layHistory (d + 1) (0, 0) Q 21 [.ref r0, .int x1, .int x2] [] μ1
      refine run_ok (pc' := 29) [(.iload_n 1, 0, 0, 0), (.istore_n 3, 0, 0, 0), (.iconst 0, 0, 0, 0), (.istore 4, 0, 0, 0), (.iconst 5, 0, 0, 0), (.istore 5, 0, 0, 0)] _ _ _ _ (by decide +kernel) ?_
      show G Γ m_MO_layHistory (d + 1) (0, 0) Q 29 [.ref r0, .int x1, .int x2, .int x1, .int (w 0), .int (w 5)] [] μ1
      exact g_wk (ls' := [.ref r0, jk, .int x2, .int x1, .int (w 0), .int (w 5)]) ⟨Or.inr rfl, Or.inl rfl, Or.inr rfl, Or.inr rfl, Or.inr rfl, Or.inr rfl, trivial⟩ h
    · replace h := h.1 hc
      show G Γ m_MO_layHistory (d + 1) (0, 0) Q 19 [.ref r0, .int x1, .int x2] [] μ1
      refine run_ok (pc' := 20) [(.iconst 0, 0, 0, 0)] _ _ _ _ (by decide +kernel) ?_
      show G Γ m_MO_layHistory (d + 1) (0, 0) Q 20 [.ref r0, .int x1, .int x2] [.int (w 0)] μ1
      exact g_retz (by decide +kernel) rfl (Or.inl rfl) h
set_option maxRecDepth 100000 in
theorem B_MO_layHistory_29 {Γ : XG} {d : Nat} {Q : Option Value → XM → Prop} {r0 r0_46 : Nat} {x2 x3 x4 x5 : Int32} {μ : XM} (o_r0_11 : ob μ r0 11) (e_r0_46 : xR μ r0 46 = some r0_46) (h : ((x5 < w 0 → ((x4 = w 6 → ∀ μ1, μ1 = sI μ r0 51 (w 0) → ∀ μ2, μ2 = sI μ1 r0 52 (w (-1)) → ∀ μ3, μ3 = sI μ2 r0 53 (w 63) → Call Γ m_MO_goHistory d [.ref r0, .int (w 0), .int (w 0), .int x2] μ3 (KV (fun μ4 => Q (some (.int (w 1))) μ4))) ∧ (¬ x4 = w 6 → Q (some (.int (w 0))) μ))) ∧ (¬ x5 < w 0 → ¬ (w 10) = 0 ∧ inS μ 0 r0_46 x5 ∧ ∀ μ7, μ7 = sI μ r0_46 x5.toNatClampNeg (x3 - x3 / (w 10) * (w 10)) → ¬ (w 10) = 0 ∧ inb μ7 0 r0_46 x5 ∧ ((x5 < xI μ7 r0 25 → G Γ m_MO_layHistory (d + 1) (0, 0) Q 29 [.ref r0, jk, .int x2, .int (x3 / (w 10)), .int (x4 + (xI μ7 r0_46 x5.toNatClampNeg)), .int (x5 + w (-1))] [] μ7) ∧ (¬ x5 < xI μ7 r0 25 → inb μ7 0 r0_46 x5 ∧ ((w 0 < xI μ7 r0_46 x5.toNatClampNeg → Q (some (.int (w 0))) μ7) ∧ (¬ w 0 < xI μ7 r0_46 x5.toNatClampNeg → G Γ m_MO_layHistory (d + 1) (0, 0) Q 29 [.ref r0, jk, .int x2, .int (x3 / (w 10)), .int (x4 + (xI μ7 r0_46 x5.toNatClampNeg)), .int (x5 + w (-1))] [] μ7))))))) : G Γ m_MO_layHistory (d + 1) (0, 0) Q 29 [.ref r0, jk, .int x2, .int x3, .int x4, .int x5] [] μ := by
  refine run_ok (pc' := 31) [(.iload 5, 0, 0, 0)] _ _ _ _ (by decide +kernel) ?_
  show G Γ m_MO_layHistory (d + 1) (0, 0) Q 31 [.ref r0, jk, .int x2, .int x3, .int x4, .int x5] [.int x5] μ
  refine g_ifz_lt (pc' := 89) (off := 58) (by decide) (by decide +kernel) (fun hc => ?_) (fun hc => ?_)
  · replace h := h.1 hc
    show G Γ m_MO_layHistory (d + 1) (0, 0) Q 89 [.ref r0, jk, .int x2, .int x3, .int x4, .int x5] [] μ
    refine run_ok (pc' := 93) [(.iload 4, 0, 0, 0), (.bipush 6, 0, 0, 0)] _ _ _ _ (by decide +kernel) ?_
    show G Γ m_MO_layHistory (d + 1) (0, 0) Q 93 [.ref r0, jk, .int x2, .int x3, .int x4, .int x5] [.int (w 6), .int x4] μ
    refine g_icmp_eq (pc' := 98) (off := 5) (by decide) (by decide +kernel) (fun hc => ?_) (fun hc => ?_)
    · replace h := h.1 hc
      show G Γ m_MO_layHistory (d + 1) (0, 0) Q 98 [.ref r0, jk, .int x2, .int x3, .int x4, .int x5] [] μ
      refine run_ok (pc' := 103) [(.aload_n 0, 0, 0, 0), (.iconst 0, 0, 0, 0), (.putfield 493, 11, 51, 0)] _ _ _ _ (by decide +kernel) ?_
      show _ ∧ (_)
      refine ⟨o_r0_11, ?_⟩
      show G Γ m_MO_layHistory (d + 1) (0, 0) Q 103 [.ref r0, jk, .int x2, .int x3, .int x4, .int x5] [] (sI μ r0 51 (w 0))
      obtain ⟨μ1, em1⟩ : ∃ m : XM, m = sI μ r0 51 (w 0) := ⟨_, rfl⟩
      replace h := h μ1 em1
      have hm1 : xN μ ≤ xN μ1 := by rw [em1]; exact Nat.le_refl _
      rw [← em1]
      refine run_ok (pc' := 108) [(.aload_n 0, 0, 0, 0), (.iconst (-1), 0, 0, 0), (.putfield 496, 11, 52, 0)] _ _ _ _ (by decide +kernel) ?_
      show _ ∧ (_)
      refine ⟨((o_r0_11).mono hm1), ?_⟩
      show G Γ m_MO_layHistory (d + 1) (0, 0) Q 108 [.ref r0, jk, .int x2, .int x3, .int x4, .int x5] [] (sI μ1 r0 52 (w (-1)))
      obtain ⟨μ2, em2⟩ : ∃ m : XM, m = sI μ1 r0 52 (w (-1)) := ⟨_, rfl⟩
      replace h := h μ2 em2
      have hm2 : xN μ1 ≤ xN μ2 := by rw [em2]; exact Nat.le_refl _
      rw [← em2]
      refine run_ok (pc' := 114) [(.aload_n 0, 0, 0, 0), (.bipush 63, 0, 0, 0), (.putfield 499, 11, 53, 0)] _ _ _ _ (by decide +kernel) ?_
      show _ ∧ (_)
      refine ⟨(((o_r0_11).mono hm1).mono hm2), ?_⟩
      show G Γ m_MO_layHistory (d + 1) (0, 0) Q 114 [.ref r0, jk, .int x2, .int x3, .int x4, .int x5] [] (sI μ2 r0 53 (w 63))
      obtain ⟨μ3, em3⟩ : ∃ m : XM, m = sI μ2 r0 53 (w 63) := ⟨_, rfl⟩
      replace h := h μ3 em3
      have hm3 : xN μ2 ≤ xN μ3 := by rw [em3]; exact Nat.le_refl _
      rw [← em3]
      refine run_ok (pc' := 118) [(.aload_n 0, 0, 0, 0), (.iconst 0, 0, 0, 0), (.iconst 0, 0, 0, 0), (.iload_n 2, 0, 0, 0)] _ _ _ _ (by decide +kernel) ?_
      show G Γ m_MO_layHistory (d + 1) (0, 0) Q 118 [.ref r0, jk, .int x2, .int x3, .int x4, .int x5] [.int x2, .int (w 0), .int (w 0), .ref r0] μ3
      refine g_invV (M' := m_MO_goHistory) (b1 := 0) (b2 := 0) (As := [.int (w 0), .int (w 0), .int x2]) (a := r0) (st := []) lk_11_505 (by decide +kernel) rfl (dk_MO_goHistory d) (Nat.le_of_ble_eq_true rfl) (Or.inl ⟨11, ((((o_r0_11).mono hm1).mono hm2).mono hm3), rfl⟩) h ?_
      rintro _ μ4 ⟨rfl, h⟩ hn4
      show G Γ m_MO_layHistory (d + 1) (0, 0) Q 121 [.ref r0, jk, .int x2, .int x3, .int x4, .int x5] [] μ4
      refine run_ok (pc' := 122) [(.iconst 1, 0, 0, 0)] _ _ _ _ (by decide +kernel) ?_
      show G Γ m_MO_layHistory (d + 1) (0, 0) Q 122 [.ref r0, jk, .int x2, .int x3, .int x4, .int x5] [.int (w 1)] μ4
      exact g_retz (by decide +kernel) rfl (Or.inr rfl) h
    · replace h := h.2 hc
      show G Γ m_MO_layHistory (d + 1) (0, 0) Q 96 [.ref r0, jk, .int x2, .int x3, .int x4, .int x5] [] μ
      refine run_ok (pc' := 97) [(.iconst 0, 0, 0, 0)] _ _ _ _ (by decide +kernel) ?_
      show G Γ m_MO_layHistory (d + 1) (0, 0) Q 97 [.ref r0, jk, .int x2, .int x3, .int x4, .int x5] [.int (w 0)] μ
      exact g_retz (by decide +kernel) rfl (Or.inl rfl) h
  · replace h := h.2 hc
    show G Γ m_MO_layHistory (d + 1) (0, 0) Q 34 [.ref r0, jk, .int x2, .int x3, .int x4, .int x5] [] μ
    obtain ⟨nz5, h⟩ := h
    obtain ⟨is6, h⟩ := h
    refine run_ok (pc' := 45) [(.aload_n 0, 0, 0, 0), (.getfield 93, 11, 46, 2), (.iload 5, 0, 0, 0), (.iload_n 3, 0, 0, 0), (.bipush 10, 0, 0, 0), (.irem, 0, 0, 0), (.iastore, 0, 0, 0)] _ _ _ _ (by decide +kernel) ?_
    show _ ∧ (∃ _, _ ∧ (_ ∧ (_ ∧ (_))))
    refine ⟨o_r0_11, r0_46, e_r0_46, nz5, is6, ?_⟩
    show G Γ m_MO_layHistory (d + 1) (0, 0) Q 45 [.ref r0, jk, .int x2, .int x3, .int x4, .int x5] [] (sI μ r0_46 x5.toNatClampNeg (x3 - x3 / (w 10) * (w 10)))
    obtain ⟨μ7, em7⟩ : ∃ m : XM, m = sI μ r0_46 x5.toNatClampNeg (x3 - x3 / (w 10) * (w 10)) := ⟨_, rfl⟩
    replace h := h μ7 em7
    have hm7 : xN μ ≤ xN μ7 := by rw [em7]; exact Nat.le_refl _
    rw [← em7]
    obtain ⟨nz8, h⟩ := h
    obtain ⟨ib9, h⟩ := h
    refine run_ok (pc' := 68) [(.iload_n 3, 0, 0, 0), (.bipush 10, 0, 0, 0), (.idiv, 0, 0, 0), (.istore_n 3, 0, 0, 0), (.iload 4, 0, 0, 0), (.aload_n 0, 0, 0, 0), (.getfield 93, 11, 46, 2), (.iload 5, 0, 0, 0), (.iaload, 0, 0, 0), (.iadd, 0, 0, 0), (.istore 4, 0, 0, 0), (.iload 5, 0, 0, 0), (.aload_n 0, 0, 0, 0), (.getfield 307, 11, 25, 0)] _ _ _ _ (by decide +kernel) ?_
    show _ ∧ (_ ∧ (∃ _, _ ∧ (_ ∧ (_ ∧ (_)))))
    refine ⟨nz8, ((o_r0_11).mono hm7), r0_46, (by rw [em7]; exact e_r0_46), ib9, ((o_r0_11).mono hm7), ?_⟩
    show G Γ m_MO_layHistory (d + 1) (0, 0) Q 68 [.ref r0, jk, .int x2, .int (x3 / (w 10)), .int (x4 + (xI μ7 r0_46 x5.toNatClampNeg)), .int x5] [.int (xI μ7 r0 25), .int x5] μ7
    refine g_icmp_lt (pc' := 83) (off := 15) (by decide) (by decide +kernel) (fun hc => ?_) (fun hc => ?_)
    · replace h := h.1 hc
      show G Γ m_MO_layHistory (d + 1) (0, 0) Q 83 [.ref r0, jk, .int x2, .int (x3 / (w 10)), .int (x4 + (xI μ7 r0_46 x5.toNatClampNeg)), .int x5] [] μ7
      refine run_ok (pc' := 29) [(.iinc 5 (-1), 0, 0, 0), (.goto (-57), 0, 0, 0)] _ _ _ _ (by decide +kernel) ?_
      show G Γ m_MO_layHistory (d + 1) (0, 0) Q 29 [.ref r0, jk, .int x2, .int (x3 / (w 10)), .int (x4 + (xI μ7 r0_46 x5.toNatClampNeg)), .int (x5 + w (-1))] [] μ7
      exact h
    · replace h := h.2 hc
      show G Γ m_MO_layHistory (d + 1) (0, 0) Q 71 [.ref r0, jk, .int x2, .int (x3 / (w 10)), .int (x4 + (xI μ7 r0_46 x5.toNatClampNeg)), .int x5] [] μ7
      obtain ⟨ib10, h⟩ := h
      refine run_ok (pc' := 78) [(.aload_n 0, 0, 0, 0), (.getfield 93, 11, 46, 2), (.iload 5, 0, 0, 0), (.iaload, 0, 0, 0)] _ _ _ _ (by decide +kernel) ?_
      show _ ∧ (∃ _, _ ∧ (_ ∧ (_)))
      refine ⟨((o_r0_11).mono hm7), r0_46, (by rw [em7]; exact e_r0_46), ib10, ?_⟩
      show G Γ m_MO_layHistory (d + 1) (0, 0) Q 78 [.ref r0, jk, .int x2, .int (x3 / (w 10)), .int (x4 + (xI μ7 r0_46 x5.toNatClampNeg)), .int x5] [.int (xI μ7 r0_46 x5.toNatClampNeg)] μ7
      refine g_ifz_le (pc' := 83) (off := 5) (by decide) (by decide +kernel) (fun hc => ?_) (fun hc => ?_)
      · replace h := h.2 hc
        show G Γ m_MO_layHistory (d + 1) (0, 0) Q 83 [.ref r0, jk, .int x2, .int (x3 / (w 10)), .int (x4 + (xI μ7 r0_46 x5.toNatClampNeg)), .int x5] [] μ7
        refine run_ok (pc' := 29) [(.iinc 5 (-1), 0, 0, 0), (.goto (-57), 0, 0, 0)] _ _ _ _ (by decide +kernel) ?_
        show G Γ m_MO_layHistory (d + 1) (0, 0) Q 29 [.ref r0, jk, .int x2, .int (x3 / (w 10)), .int (x4 + (xI μ7 r0_46 x5.toNatClampNeg)), .int (x5 + w (-1))] [] μ7
        exact h
      · replace h := h.1 hc
        show G Γ m_MO_layHistory (d + 1) (0, 0) Q 81 [.ref r0, jk, .int x2, .int (x3 / (w 10)), .int (x4 + (xI μ7 r0_46 x5.toNatClampNeg)), .int x5] [] μ7
        refine run_ok (pc' := 82) [(.iconst 0, 0, 0, 0)] _ _ _ _ (by decide +kernel) ?_
        show G Γ m_MO_layHistory (d + 1) (0, 0) Q 82 [.ref r0, jk, .int x2, .int (x3 / (w 10)), .int (x4 + (xI μ7 r0_46 x5.toNatClampNeg)), .int x5] [.int (w 0)] μ7
        exact g_retz (by decide +kernel) rfl (Or.inl rfl) h
/-! FrostBoxModel history(II)I -/
set_option maxRecDepth 100000 in
theorem lk_11_511 : LkV 11 511 m_MO_layHistory 2 := ⟨lc_MO_layHistory, lwG_in (List.mem_of_getElem? (i := 1859) rfl) rfl, lwG_in (List.mem_of_getElem? (i := 1861) rfl) rfl, lwG_in (List.mem_of_getElem? (i := 108) rfl) rfl⟩
set_option maxRecDepth 100000 in
theorem B_MO_history_0 {Γ : XG} {d : Nat} {Q : Option Value → XM → Prop} {r0 : Nat} {x1 x2 : Int32} {μ : XM} (o_r0_11 : ob μ r0 11) (h : ∀ μ1, μ1 = sI μ r0 0 (w 0) → ((x2 < w (-1) → Q (some (.int (w (-1)))) μ1) ∧ (¬ x2 < w (-1) → Call Γ m_MO_layHistory d [.ref r0, .int x1, .int x2] μ1 (KI (fun v2 μ2 => ((v2 = w 0 → Q (some (.int (w (-1)))) μ2) ∧ (¬ v2 = w 0 → ((x2 = w (-1) → Q (some (.int (xI μ2 r0 51))) μ2) ∧ (¬ x2 = w (-1) → Q (some (.int (xI μ2 r0 52))) μ2))))))))) : G Γ m_MO_history (d + 1) (0, 0) Q 0 [.ref r0, .int x1, .int x2] [] μ := by
  refine run_ok (pc' := 5) [(.aload_n 0, 0, 0, 0), (.iconst 0, 0, 0, 0), (.putfield 109, 11, 0, 0)] _ _ _ _ (by decide +kernel) ?_
  show _ ∧ (_)
  refine ⟨o_r0_11, ?_⟩
  show G Γ m_MO_history (d + 1) (0, 0) Q 5 [.ref r0, .int x1, .int x2] [] (sI μ r0 0 (w 0))
  obtain ⟨μ1, em1⟩ : ∃ m : XM, m = sI μ r0 0 (w 0) := ⟨_, rfl⟩
  replace h := h μ1 em1
  have hm1 : xN μ ≤ xN μ1 := by rw [em1]; exact Nat.le_refl _
  rw [← em1]
  refine run_ok (pc' := 7) [(.iload_n 2, 0, 0, 0), (.iconst (-1), 0, 0, 0)] _ _ _ _ (by decide +kernel) ?_
  show G Γ m_MO_history (d + 1) (0, 0) Q 7 [.ref r0, .int x1, .int x2] [.int (w (-1)), .int x2] μ1
  refine g_icmp_lt (pc' := 19) (off := 12) (by decide) (by decide +kernel) (fun hc => ?_) (fun hc => ?_)
  · replace h := h.1 hc
    show G Γ m_MO_history (d + 1) (0, 0) Q 19 [.ref r0, .int x1, .int x2] [] μ1
    refine run_ok (pc' := 20) [(.iconst (-1), 0, 0, 0)] _ _ _ _ (by decide +kernel) ?_
    show G Γ m_MO_history (d + 1) (0, 0) Q 20 [.ref r0, .int x1, .int x2] [.int (w (-1))] μ1
    exact g_reti (by decide +kernel) rfl h
  · replace h := h.2 hc
    show G Γ m_MO_history (d + 1) (0, 0) Q 10 [.ref r0, .int x1, .int x2] [] μ1
    refine run_ok (pc' := 13) [(.aload_n 0, 0, 0, 0), (.iload_n 1, 0, 0, 0), (.iload_n 2, 0, 0, 0)] _ _ _ _ (by decide +kernel) ?_
    show G Γ m_MO_history (d + 1) (0, 0) Q 13 [.ref r0, .int x1, .int x2] [.int x2, .int x1, .ref r0] μ1
    refine g_invV (M' := m_MO_layHistory) (b1 := 0) (b2 := 0) (As := [.int x1, .int x2]) (a := r0) (st := []) lk_11_511 (by decide +kernel) rfl (dk_MO_layHistory d) (Nat.le_of_ble_eq_true rfl) (Or.inl ⟨11, ((o_r0_11).mono hm1), rfl⟩) h ?_
    rintro _ μ2 ⟨v2, rfl, h⟩ hn2
    show G Γ m_MO_history (d + 1) (0, 0) Q 16 [.ref r0, .int x1, .int x2] [.int v2] μ2
    refine g_ifz_ne (pc' := 21) (off := 5) (by decide) (by decide +kernel) (fun hc => ?_) (fun hc => ?_)
    · replace h := h.2 hc
      show G Γ m_MO_history (d + 1) (0, 0) Q 21 [.ref r0, .int x1, .int x2] [] μ2
      refine run_ok (pc' := 23) [(.iload_n 2, 0, 0, 0), (.iconst (-1), 0, 0, 0)] _ _ _ _ (by decide +kernel) ?_
      show G Γ m_MO_history (d + 1) (0, 0) Q 23 [.ref r0, .int x1, .int x2] [.int (w (-1)), .int x2] μ2
      refine g_icmp_ne (pc' := 33) (off := 10) (by decide) (by decide +kernel) (fun hc => ?_) (fun hc => ?_)
      · replace h := h.2 hc
        show G Γ m_MO_history (d + 1) (0, 0) Q 33 [.ref r0, .int x1, .int x2] [] μ2
        refine run_ok (pc' := 37) [(.aload_n 0, 0, 0, 0), (.getfield 496, 11, 52, 0)] _ _ _ _ (by decide +kernel) ?_
        show _ ∧ (_)
        refine ⟨(((o_r0_11).mono hm1).mono hn2), ?_⟩
        show G Γ m_MO_history (d + 1) (0, 0) Q 37 [.ref r0, .int x1, .int x2] [.int (xI μ2 r0 52)] μ2
        exact g_reti (by decide +kernel) rfl h
      · replace h := h.1 hc
        show G Γ m_MO_history (d + 1) (0, 0) Q 26 [.ref r0, .int x1, .int x2] [] μ2
        refine run_ok (pc' := 37) [(.aload_n 0, 0, 0, 0), (.getfield 493, 11, 51, 0), (.goto 7, 0, 0, 0)] _ _ _ _ (by decide +kernel) ?_
        show _ ∧ (_)
        refine ⟨(((o_r0_11).mono hm1).mono hn2), ?_⟩
        show G Γ m_MO_history (d + 1) (0, 0) Q 37 [.ref r0, .int x1, .int x2] [.int (xI μ2 r0 51)] μ2
        exact g_reti (by decide +kernel) rfl h
    · replace h := h.1 hc
      show G Γ m_MO_history (d + 1) (0, 0) Q 19 [.ref r0, .int x1, .int x2] [] μ2
      refine run_ok (pc' := 20) [(.iconst (-1), 0, 0, 0)] _ _ _ _ (by decide +kernel) ?_
      show G Γ m_MO_history (d + 1) (0, 0) Q 20 [.ref r0, .int x1, .int x2] [.int (w (-1))] μ2
      exact g_reti (by decide +kernel) rfl h
/-! FrostBoxModel share(I)I -/
set_option maxRecDepth 100000 in
theorem B_MO_share_0 {Γ : XG} {d : Nat} {Q : Option Value → XM → Prop} {r0 : Nat} {x1 : Int32} {μ : XM} (o_r0_11 : ob μ r0 11) (h : ∀ μ1, μ1 = sI μ r0 0 (w 0) → Call Γ m_MO_layHistory d [.ref r0, .int x1, .int (w (-1))] μ1 (KI (fun v2 μ2 => ((v2 = w 0 → Q (some (.int (w (-1)))) μ2) ∧ (¬ v2 = w 0 → ((w 0 < xI μ2 r0 51 → Q (some (.int (xI μ2 r0 53))) μ2) ∧ (¬ w 0 < xI μ2 r0 51 → Q (some (.int (w (-1)))) μ2))))))) : G Γ m_MO_share (d + 1) (0, 0) Q 0 [.ref r0, .int x1] [] μ := by
  refine run_ok (pc' := 5) [(.aload_n 0, 0, 0, 0), (.iconst 0, 0, 0, 0), (.putfield 109, 11, 0, 0)] _ _ _ _ (by decide +kernel) ?_
  show _ ∧ (_)
  refine ⟨o_r0_11, ?_⟩
  show G Γ m_MO_share (d + 1) (0, 0) Q 5 [.ref r0, .int x1] [] (sI μ r0 0 (w 0))
  obtain ⟨μ1, em1⟩ : ∃ m : XM, m = sI μ r0 0 (w 0) := ⟨_, rfl⟩
  replace h := h μ1 em1
  have hm1 : xN μ ≤ xN μ1 := by rw [em1]; exact Nat.le_refl _
  rw [← em1]
  refine run_ok (pc' := 8) [(.aload_n 0, 0, 0, 0), (.iload_n 1, 0, 0, 0), (.iconst (-1), 0, 0, 0)] _ _ _ _ (by decide +kernel) ?_
  show G Γ m_MO_share (d + 1) (0, 0) Q 8 [.ref r0, .int x1] [.int (w (-1)), .int x1, .ref r0] μ1
  refine g_invV (M' := m_MO_layHistory) (b1 := 0) (b2 := 0) (As := [.int x1, .int (w (-1))]) (a := r0) (st := []) lk_11_511 (by decide +kernel) rfl (dk_MO_layHistory d) (Nat.le_of_ble_eq_true rfl) (Or.inl ⟨11, ((o_r0_11).mono hm1), rfl⟩) h ?_
  rintro _ μ2 ⟨v2, rfl, h⟩ hn2
  show G Γ m_MO_share (d + 1) (0, 0) Q 11 [.ref r0, .int x1] [.int v2] μ2
  refine g_ifz_eq (pc' := 28) (off := 17) (by decide) (by decide +kernel) (fun hc => ?_) (fun hc => ?_)
  · replace h := h.1 hc
    show G Γ m_MO_share (d + 1) (0, 0) Q 28 [.ref r0, .int x1] [] μ2
    refine run_ok (pc' := 29) [(.iconst (-1), 0, 0, 0)] _ _ _ _ (by decide +kernel) ?_
    show G Γ m_MO_share (d + 1) (0, 0) Q 29 [.ref r0, .int x1] [.int (w (-1))] μ2
    exact g_reti (by decide +kernel) rfl h
  · replace h := h.2 hc
    show G Γ m_MO_share (d + 1) (0, 0) Q 14 [.ref r0, .int x1] [] μ2
    refine run_ok (pc' := 18) [(.aload_n 0, 0, 0, 0), (.getfield 493, 11, 51, 0)] _ _ _ _ (by decide +kernel) ?_
    show _ ∧ (_)
    refine ⟨(((o_r0_11).mono hm1).mono hn2), ?_⟩
    show G Γ m_MO_share (d + 1) (0, 0) Q 18 [.ref r0, .int x1] [.int (xI μ2 r0 51)] μ2
    refine g_ifz_le (pc' := 28) (off := 10) (by decide) (by decide +kernel) (fun hc => ?_) (fun hc => ?_)
    · replace h := h.2 hc
      show G Γ m_MO_share (d + 1) (0, 0) Q 28 [.ref r0, .int x1] [] μ2
      refine run_ok (pc' := 29) [(.iconst (-1), 0, 0, 0)] _ _ _ _ (by decide +kernel) ?_
      show G Γ m_MO_share (d + 1) (0, 0) Q 29 [.ref r0, .int x1] [.int (w (-1))] μ2
      exact g_reti (by decide +kernel) rfl h
    · replace h := h.1 hc
      show G Γ m_MO_share (d + 1) (0, 0) Q 21 [.ref r0, .int x1] [] μ2
      refine run_ok (pc' := 29) [(.aload_n 0, 0, 0, 0), (.getfield 499, 11, 53, 0), (.goto 4, 0, 0, 0)] _ _ _ _ (by decide +kernel) ?_
      show _ ∧ (_)
      refine ⟨(((o_r0_11).mono hm1).mono hn2), ?_⟩
      show G Γ m_MO_share (d + 1) (0, 0) Q 29 [.ref r0, .int x1] [.int (xI μ2 r0 53)] μ2
      exact g_reti (by decide +kernel) rfl h
/-! FrostBoxModel lot(I)I -/
set_option maxRecDepth 100000 in
theorem B_MO_lot_0 {Γ : XG} {d : Nat} {Q : Option Value → XM → Prop} {r0 : Nat} {x1 : Int32} {μ : XM} (o_r0_11 : ob μ r0 11) (h : ∀ μ1, μ1 = sI μ r0 0 (w 0) → ((xI μ1 r0 25 = w 0 → Q (some (.int (w (-1)))) μ1) ∧ (¬ xI μ1 r0 25 = w 0 → Call Γ m_MO_isIn d [.long (x1.toInt64), .long (wl 0), .long (wl 1)] μ1 (KI (fun v2 μ2 => ((v2 = w 0 → Q (some (.int (w (-1)))) μ2) ∧ (¬ v2 = w 0 → G Γ m_MO_lot (d + 1) (0, 0) Q 31 [.ref r0, .int x1, .int (w 0), .int (w 0), .int (w 0)] [] μ2))))))) : G Γ m_MO_lot (d + 1) (0, 0) Q 0 [.ref r0, .int x1] [] μ := by
  refine run_ok (pc' := 5) [(.aload_n 0, 0, 0, 0), (.iconst 0, 0, 0, 0), (.putfield 109, 11, 0, 0)] _ _ _ _ (by decide +kernel) ?_
  show _ ∧ (_)
  refine ⟨o_r0_11, ?_⟩
  show G Γ m_MO_lot (d + 1) (0, 0) Q 5 [.ref r0, .int x1] [] (sI μ r0 0 (w 0))
  obtain ⟨μ1, em1⟩ : ∃ m : XM, m = sI μ r0 0 (w 0) := ⟨_, rfl⟩
  replace h := h μ1 em1
  have hm1 : xN μ ≤ xN μ1 := by rw [em1]; exact Nat.le_refl _
  rw [← em1]
  refine run_ok (pc' := 9) [(.aload_n 0, 0, 0, 0), (.getfield 307, 11, 25, 0)] _ _ _ _ (by decide +kernel) ?_
  show _ ∧ (_)
  refine ⟨((o_r0_11).mono hm1), ?_⟩
  show G Γ m_MO_lot (d + 1) (0, 0) Q 9 [.ref r0, .int x1] [.int (xI μ1 r0 25)] μ1
  refine g_ifz_eq (pc' := 22) (off := 13) (by decide) (by decide +kernel) (fun hc => ?_) (fun hc => ?_)
  · replace h := h.1 hc
    show G Γ m_MO_lot (d + 1) (0, 0) Q 22 [.ref r0, .int x1] [] μ1
    refine run_ok (pc' := 23) [(.iconst (-1), 0, 0, 0)] _ _ _ _ (by decide +kernel) ?_
    show G Γ m_MO_lot (d + 1) (0, 0) Q 23 [.ref r0, .int x1] [.int (w (-1))] μ1
    exact g_reti (by decide +kernel) rfl h
  · replace h := h.2 hc
    show G Γ m_MO_lot (d + 1) (0, 0) Q 12 [.ref r0, .int x1] [] μ1
    refine run_ok (pc' := 16) [(.iload_n 1, 0, 0, 0), (.i2l, 0, 0, 0), (.lconst 0, 0, 0, 0), (.lconst 1, 0, 0, 1)] _ _ _ _ (by decide +kernel) ?_
    show G Γ m_MO_lot (d + 1) (0, 0) Q 16 [.ref r0, .int x1] [.long (wl 1), .long (wl 0), .long (x1.toInt64)] μ1
    refine g_invS (M' := m_MO_isIn) (b1 := 0) (b2 := 0) (As := [.long (x1.toInt64), .long (wl 0), .long (wl 1)]) (st := []) lk_11_230 (by decide +kernel) rfl (dk_MO_isIn d) (Nat.le_of_ble_eq_true rfl) h ?_
    rintro _ μ2 ⟨v2, rfl, h⟩ hn2
    show G Γ m_MO_lot (d + 1) (0, 0) Q 19 [.ref r0, .int x1] [.int v2] μ2
    refine g_ifz_ne (pc' := 24) (off := 5) (by decide) (by decide +kernel) (fun hc => ?_) (fun hc => ?_)
    · replace h := h.2 hc
      show G Γ m_MO_lot (d + 1) (0, 0) Q 24 [.ref r0, .int x1] [] μ2
      refine run_ok (pc' := 31) [(.iconst 0, 0, 0, 0), (.istore_n 2, 0, 0, 0), (.iconst 0, 0, 0, 0), (.istore_n 3, 0, 0, 0), (.iconst 0, 0, 0, 0), (.istore 4, 0, 0, 0)] _ _ _ _ (by decide +kernel) ?_
      show G Γ m_MO_lot (d + 1) (0, 0) Q 31 [.ref r0, .int x1, .int (w 0), .int (w 0), .int (w 0)] [] μ2
      exact h
    · replace h := h.1 hc
      show G Γ m_MO_lot (d + 1) (0, 0) Q 22 [.ref r0, .int x1] [] μ2
      refine run_ok (pc' := 23) [(.iconst (-1), 0, 0, 0)] _ _ _ _ (by decide +kernel) ?_
      show G Γ m_MO_lot (d + 1) (0, 0) Q 23 [.ref r0, .int x1] [.int (w (-1))] μ2
      exact g_reti (by decide +kernel) rfl h
set_option maxRecDepth 100000 in
theorem B_MO_lot_31 {Γ : XG} {d : Nat} {Q : Option Value → XM → Prop} {r0 r0_30 : Nat} {x1 x2 x3 x4 : Int32} {μ : XM} (o_r0_11 : ob μ r0 11) (e_r0_30 : xR μ r0 30 = some r0_30) (h : inb μ 0 r0_30 (w 40) ∧ ((x4 < xI μ r0_30 (w 40).toNatClampNeg → G Γ m_MO_lot (d + 1) (0, 0) Q 46 [.ref r0, .int x1, .int x2, .int x3, .int x4, .int (w 0)] [] μ) ∧ (¬ x4 < xI μ r0_30 (w 40).toNatClampNeg → ((x1 = w 0 → Q (some (.int x2)) μ) ∧ (¬ x1 = w 0 → Q (some (.int x3)) μ))))) : G Γ m_MO_lot (d + 1) (0, 0) Q 31 [.ref r0, .int x1, .int x2, .int x3, .int x4] [] μ := by
  obtain ⟨ib1, h⟩ := h
  refine run_ok (pc' := 40) [(.iload 4, 0, 0, 0), (.aload_n 0, 0, 0, 0), (.getfield 58, 11, 30, 2), (.bipush 40, 0, 0, 0), (.iaload, 0, 0, 0)] _ _ _ _ (by decide +kernel) ?_
  show _ ∧ (∃ _, _ ∧ (_ ∧ (_)))
  refine ⟨o_r0_11, r0_30, e_r0_30, ib1, ?_⟩
  show G Γ m_MO_lot (d + 1) (0, 0) Q 40 [.ref r0, .int x1, .int x2, .int x3, .int x4] [.int (xI μ r0_30 (w 40).toNatClampNeg), .int x4] μ
  refine g_icmp_ge (pc' := 123) (off := 83) (by decide) (by decide +kernel) (fun hc => ?_) (fun hc => ?_)
  · replace h := h.2 hc
    show G Γ m_MO_lot (d + 1) (0, 0) Q 123 [.ref r0, .int x1, .int x2, .int x3, .int x4] [] μ
    refine run_ok (pc' := 124) [(.iload_n 1, 0, 0, 0)] _ _ _ _ (by decide +kernel) ?_
    show G Γ m_MO_lot (d + 1) (0, 0) Q 124 [.ref r0, .int x1, .int x2, .int x3, .int x4] [.int x1] μ
    refine g_ifz_ne (pc' := 131) (off := 7) (by decide) (by decide +kernel) (fun hc => ?_) (fun hc => ?_)
    · replace h := h.2 hc
      show G Γ m_MO_lot (d + 1) (0, 0) Q 131 [.ref r0, .int x1, .int x2, .int x3, .int x4] [] μ
      refine run_ok (pc' := 132) [(.iload_n 3, 0, 0, 0)] _ _ _ _ (by decide +kernel) ?_
      show G Γ m_MO_lot (d + 1) (0, 0) Q 132 [.ref r0, .int x1, .int x2, .int x3, .int x4] [.int x3] μ
      exact g_reti (by decide +kernel) rfl h
    · replace h := h.1 hc
      show G Γ m_MO_lot (d + 1) (0, 0) Q 127 [.ref r0, .int x1, .int x2, .int x3, .int x4] [] μ
      refine run_ok (pc' := 132) [(.iload_n 2, 0, 0, 0), (.goto 4, 0, 0, 0)] _ _ _ _ (by decide +kernel) ?_
      show G Γ m_MO_lot (d + 1) (0, 0) Q 132 [.ref r0, .int x1, .int x2, .int x3, .int x4] [.int x2] μ
      exact g_reti (by decide +kernel) rfl h
  · replace h := h.1 hc
    show G Γ m_MO_lot (d + 1) (0, 0) Q 43 [.ref r0, .int x1, .int x2, .int x3, .int x4] [] μ
    refine run_ok (pc' := 46) [(.iconst 0, 0, 0, 0), (.istore 5, 0, 0, 0)] _ _ _ _ (by decide +kernel) ?_
    show G Γ m_MO_lot (d + 1) (0, 0) Q 46 [.ref r0, .int x1, .int x2, .int x3, .int x4, .int (w 0)] [] μ
    exact h
set_option maxRecDepth 100000 in
theorem B_MO_lot_46 {Γ : XG} {d : Nat} {Q : Option Value → XM → Prop} {r0 : Nat} {x1 x2 x3 x4 x5 : Int32} {μ : XM}  (h : ((x5 < x4 → G Γ m_MO_lot (d + 1) (0, 0) Q 56 [.ref r0, .int x1, .int x2, .int x3, .int x4, .int x5, .int (w 0)] [] μ) ∧ (¬ x5 < x4 → G Γ m_MO_lot (d + 1) (0, 0) Q 31 [.ref r0, .int x1, .int x2, .int x3, .int (x4 + w 1)] [] μ))) : G Γ m_MO_lot (d + 1) (0, 0) Q 46 [.ref r0, .int x1, .int x2, .int x3, .int x4, .int x5] [] μ := by
  refine run_ok (pc' := 50) [(.iload 5, 0, 0, 0), (.iload 4, 0, 0, 0)] _ _ _ _ (by decide +kernel) ?_
  show G Γ m_MO_lot (d + 1) (0, 0) Q 50 [.ref r0, .int x1, .int x2, .int x3, .int x4, .int x5] [.int x4, .int x5] μ
  refine g_icmp_ge (pc' := 117) (off := 67) (by decide) (by decide +kernel) (fun hc => ?_) (fun hc => ?_)
  · replace h := h.2 hc
    show G Γ m_MO_lot (d + 1) (0, 0) Q 117 [.ref r0, .int x1, .int x2, .int x3, .int x4, .int x5] [] μ
    refine run_ok (pc' := 31) [(.iinc 4 1, 0, 0, 0), (.goto (-89), 0, 0, 0)] _ _ _ _ (by decide +kernel) ?_
    show G Γ m_MO_lot (d + 1) (0, 0) Q 31 [.ref r0, .int x1, .int x2, .int x3, .int (x4 + w 1), .int x5] [] μ
    exact g_wk (ls' := [.ref r0, .int x1, .int x2, .int x3, .int (x4 + w 1)]) ⟨Or.inr rfl, Or.inr rfl, Or.inr rfl, Or.inr rfl, Or.inr rfl, trivial⟩ h
  · replace h := h.1 hc
    show G Γ m_MO_lot (d + 1) (0, 0) Q 53 [.ref r0, .int x1, .int x2, .int x3, .int x4, .int x5] [] μ
    refine run_ok (pc' := 56) [(.iconst 0, 0, 0, 0), (.istore 6, 0, 0, 0)] _ _ _ _ (by decide +kernel) ?_
    show G Γ m_MO_lot (d + 1) (0, 0) Q 56 [.ref r0, .int x1, .int x2, .int x3, .int x4, .int x5, .int (w 0)] [] μ
    exact h
set_option maxRecDepth 100000 in
theorem B_MO_lot_56 {Γ : XG} {d : Nat} {Q : Option Value → XM → Prop} {r0 r0_30 : Nat} {x1 x2 x3 x4 x5 x6 : Int32} {μ : XM} (o_r0_11 : ob μ r0 11) (e_r0_30 : xR μ r0 30 = some r0_30) (h : ((x6 < x5 → Call Γ m_MO_valueOf d [.ref r0, .ref r0_30, .int x4] μ (KI (fun v1 μ1 => xR μ1 r0 30 = some r0_30 ∧ Call Γ m_MO_valueOf d [.ref r0, .ref r0_30, .int x5] μ1 (KI (fun v3 μ3 => xR μ3 r0 30 = some r0_30 ∧ Call Γ m_MO_valueOf d [.ref r0, .ref r0_30, .int x6] μ3 (KI (fun v5 μ5 => G Γ m_MO_lot (d + 1) (0, 0) Q 56 [.ref r0, .int x1, .int (x2 + (jmax v1 (jmax v3 v5))), .int (x3 + w 1), .int x4, .int x5, .int (x6 + w 1)] [] μ5))))))) ∧ (¬ x6 < x5 → G Γ m_MO_lot (d + 1) (0, 0) Q 46 [.ref r0, .int x1, .int x2, .int x3, .int x4, .int (x5 + w 1)] [] μ))) : G Γ m_MO_lot (d + 1) (0, 0) Q 56 [.ref r0, .int x1, .int x2, .int x3, .int x4, .int x5, .int x6] [] μ := by
  refine run_ok (pc' := 60) [(.iload 6, 0, 0, 0), (.iload 5, 0, 0, 0)] _ _ _ _ (by decide +kernel) ?_
  show G Γ m_MO_lot (d + 1) (0, 0) Q 60 [.ref r0, .int x1, .int x2, .int x3, .int x4, .int x5, .int x6] [.int x5, .int x6] μ
  refine g_icmp_ge (pc' := 111) (off := 51) (by decide) (by decide +kernel) (fun hc => ?_) (fun hc => ?_)
  · replace h := h.2 hc
    show G Γ m_MO_lot (d + 1) (0, 0) Q 111 [.ref r0, .int x1, .int x2, .int x3, .int x4, .int x5, .int x6] [] μ
    refine run_ok (pc' := 46) [(.iinc 5 1, 0, 0, 0), (.goto (-68), 0, 0, 0)] _ _ _ _ (by decide +kernel) ?_
    show G Γ m_MO_lot (d + 1) (0, 0) Q 46 [.ref r0, .int x1, .int x2, .int x3, .int x4, .int (x5 + w 1), .int x6] [] μ
    exact g_wk (ls' := [.ref r0, .int x1, .int x2, .int x3, .int x4, .int (x5 + w 1)]) ⟨Or.inr rfl, Or.inr rfl, Or.inr rfl, Or.inr rfl, Or.inr rfl, Or.inr rfl, trivial⟩ h
  · replace h := h.1 hc
    show G Γ m_MO_lot (d + 1) (0, 0) Q 63 [.ref r0, .int x1, .int x2, .int x3, .int x4, .int x5, .int x6] [] μ
    refine run_ok (pc' := 74) [(.iinc 3 1, 0, 0, 0), (.iload_n 2, 0, 0, 0), (.aload_n 0, 0, 0, 0), (.aload_n 0, 0, 0, 0), (.getfield 58, 11, 30, 2), (.iload 4, 0, 0, 0)] _ _ _ _ (by decide +kernel) ?_
    show _ ∧ (∃ _, _ ∧ (_))
    refine ⟨o_r0_11, r0_30, e_r0_30, ?_⟩
    show G Γ m_MO_lot (d + 1) (0, 0) Q 74 [.ref r0, .int x1, .int x2, .int (x3 + w 1), .int x4, .int x5, .int x6] [.int x4, .ref r0_30, .ref r0, .int x2] μ
    refine g_invV (M' := m_MO_valueOf) (b1 := 0) (b2 := 0) (As := [.ref r0_30, .int x4]) (a := r0) (st := [.int x2]) lk_11_350 (by decide +kernel) rfl (dk_MO_valueOf d) (Nat.le_of_ble_eq_true rfl) (Or.inl ⟨11, o_r0_11, rfl⟩) h ?_
    rintro _ μ1 ⟨v1, rfl, h⟩ hn1
    show G Γ m_MO_lot (d + 1) (0, 0) Q 77 [.ref r0, .int x1, .int x2, .int (x3 + w 1), .int x4, .int x5, .int x6] [.int v1, .int x2] μ1
    obtain ⟨ea2, h⟩ := h
    refine run_ok (pc' := 84) [(.aload_n 0, 0, 0, 0), (.aload_n 0, 0, 0, 0), (.getfield 58, 11, 30, 2), (.iload 5, 0, 0, 0)] _ _ _ _ (by decide +kernel) ?_
    show _ ∧ (∃ _, _ ∧ (_))
    refine ⟨((o_r0_11).mono hn1), r0_30, ea2, ?_⟩
    show G Γ m_MO_lot (d + 1) (0, 0) Q 84 [.ref r0, .int x1, .int x2, .int (x3 + w 1), .int x4, .int x5, .int x6] [.int x5, .ref r0_30, .ref r0, .int v1, .int x2] μ1
    refine g_invV (M' := m_MO_valueOf) (b1 := 0) (b2 := 0) (As := [.ref r0_30, .int x5]) (a := r0) (st := [.int v1, .int x2]) lk_11_350 (by decide +kernel) rfl (dk_MO_valueOf d) (Nat.le_of_ble_eq_true rfl) (Or.inl ⟨11, ((o_r0_11).mono hn1), rfl⟩) h ?_
    rintro _ μ3 ⟨v3, rfl, h⟩ hn3
    show G Γ m_MO_lot (d + 1) (0, 0) Q 87 [.ref r0, .int x1, .int x2, .int (x3 + w 1), .int x4, .int x5, .int x6] [.int v3, .int v1, .int x2] μ3
    obtain ⟨ea4, h⟩ := h
    refine run_ok (pc' := 94) [(.aload_n 0, 0, 0, 0), (.aload_n 0, 0, 0, 0), (.getfield 58, 11, 30, 2), (.iload 6, 0, 0, 0)] _ _ _ _ (by decide +kernel) ?_
    show _ ∧ (∃ _, _ ∧ (_))
    refine ⟨(((o_r0_11).mono hn1).mono hn3), r0_30, ea4, ?_⟩
    show G Γ m_MO_lot (d + 1) (0, 0) Q 94 [.ref r0, .int x1, .int x2, .int (x3 + w 1), .int x4, .int x5, .int x6] [.int x6, .ref r0_30, .ref r0, .int v3, .int v1, .int x2] μ3
    refine g_invV (M' := m_MO_valueOf) (b1 := 0) (b2 := 0) (As := [.ref r0_30, .int x6]) (a := r0) (st := [.int v3, .int v1, .int x2]) lk_11_350 (by decide +kernel) rfl (dk_MO_valueOf d) (Nat.le_of_ble_eq_true rfl) (Or.inl ⟨11, (((o_r0_11).mono hn1).mono hn3), rfl⟩) h ?_
    rintro _ μ5 ⟨v5, rfl, h⟩ hn5
    show G Γ m_MO_lot (d + 1) (0, 0) Q 97 [.ref r0, .int x1, .int x2, .int (x3 + w 1), .int x4, .int x5, .int x6] [.int v5, .int v3, .int v1, .int x2] μ5
    refine g_maxI (i := 325) lm_11_325 (Nat.le_of_ble_eq_true rfl) (by decide +kernel) ?_
    show G Γ m_MO_lot (d + 1) (0, 0) Q 100 [.ref r0, .int x1, .int x2, .int (x3 + w 1), .int x4, .int x5, .int x6] [.int (jmax v3 v5), .int v1, .int x2] μ5
    refine g_maxI (i := 325) lm_11_325 (Nat.le_of_ble_eq_true rfl) (by decide +kernel) ?_
    show G Γ m_MO_lot (d + 1) (0, 0) Q 103 [.ref r0, .int x1, .int x2, .int (x3 + w 1), .int x4, .int x5, .int x6] [.int (jmax v1 (jmax v3 v5)), .int x2] μ5
    refine run_ok (pc' := 56) [(.iadd, 0, 0, 0), (.istore_n 2, 0, 0, 0), (.iinc 6 1, 0, 0, 0), (.goto (-52), 0, 0, 0)] _ _ _ _ (by decide +kernel) ?_
    show G Γ m_MO_lot (d + 1) (0, 0) Q 56 [.ref r0, .int x1, .int (x2 + (jmax v1 (jmax v3 v5))), .int (x3 + w 1), .int x4, .int x5, .int (x6 + w 1)] [] μ5
    exact h
/-! FrostBoxModel labelsOf(II)I -/
set_option maxRecDepth 100000 in
theorem lk_11_514 : LkV 11 514 m_MO_nameless 0 := ⟨lc_MO_nameless, lwG_in (List.mem_of_getElem? (i := 1888) rfl) rfl, lwG_in (List.mem_of_getElem? (i := 1827) rfl) rfl, lwG_in (List.mem_of_getElem? (i := 1828) rfl) rfl⟩
set_option maxRecDepth 100000 in
theorem B_MO_labelsOf_0 {Γ : XG} {d : Nat} {Q : Option Value → XM → Prop} {r0 : Nat} {x1 x2 : Int32} {μ : XM} (o_r0_11 : ob μ r0 11) (h : ((w 0 < x1 + x2 → Call Γ m_MO_nameless d [.ref r0] μ (KI (fun v1 μ1 => Call Γ m_In_bitCount d [.int v1] μ1 (KI (fun v2 μ2 => Q (some (.int (((w 2) * v2) - ((w 3) * x1)))) μ2))))) ∧ (¬ w 0 < x1 + x2 → Q (some (.int ((w 0) - ((w 3) * x1)))) μ))) : G Γ m_MO_labelsOf (d + 1) (0, 0) Q 0 [.ref r0, .int x1, .int x2] [] μ := by
  refine run_ok (pc' := 3) [(.iload_n 1, 0, 0, 0), (.iload_n 2, 0, 0, 0), (.iadd, 0, 0, 0)] _ _ _ _ (by decide +kernel) ?_
  show G Γ m_MO_labelsOf (d + 1) (0, 0) Q 3 [.ref r0, .int x1, .int x2] [.int (x1 + x2)] μ
  refine g_ifz_le (pc' := 18) (off := 15) (by decide) (by decide +kernel) (fun hc => ?_) (fun hc => ?_)
  · replace h := h.2 hc
    show G Γ m_MO_labelsOf (d + 1) (0, 0) Q 18 [.ref r0, .int x1, .int x2] [] μ
    refine run_ok (pc' := 23) [(.iconst 0, 0, 0, 0), (.iconst 3, 0, 0, 0), (.iload_n 1, 0, 0, 0), (.imul, 0, 0, 0), (.isub, 0, 0, 0)] _ _ _ _ (by decide +kernel) ?_
    show G Γ m_MO_labelsOf (d + 1) (0, 0) Q 23 [.ref r0, .int x1, .int x2] [.int ((w 0) - ((w 3) * x1))] μ
    exact g_reti (by decide +kernel) rfl h
  · replace h := h.1 hc
    show G Γ m_MO_labelsOf (d + 1) (0, 0) Q 6 [.ref r0, .int x1, .int x2] [] μ
    refine run_ok (pc' := 8) [(.iconst 2, 0, 0, 0), (.aload_n 0, 0, 0, 0)] _ _ _ _ (by decide +kernel) ?_
    show G Γ m_MO_labelsOf (d + 1) (0, 0) Q 8 [.ref r0, .int x1, .int x2] [.ref r0, .int (w 2)] μ
    refine g_invV (M' := m_MO_nameless) (b1 := 0) (b2 := 0) (As := []) (a := r0) (st := [.int (w 2)]) lk_11_514 (by decide +kernel) rfl (dk_MO_nameless d) (Nat.le_of_ble_eq_true rfl) (Or.inl ⟨11, o_r0_11, rfl⟩) h ?_
    rintro _ μ1 ⟨v1, rfl, h⟩ hn1
    show G Γ m_MO_labelsOf (d + 1) (0, 0) Q 11 [.ref r0, .int x1, .int x2] [.int v1, .int (w 2)] μ1
    refine g_invS (M' := m_In_bitCount) (b1 := 0) (b2 := 0) (As := [.int v1]) (st := [.int (w 2)]) lk_11_457 (by decide +kernel) rfl (dk_In_bitCount d) (Nat.le_of_ble_eq_true rfl) h ?_
    rintro _ μ2 ⟨v2, rfl, h⟩ hn2
    show G Γ m_MO_labelsOf (d + 1) (0, 0) Q 14 [.ref r0, .int x1, .int x2] [.int v2, .int (w 2)] μ2
    refine run_ok (pc' := 23) [(.imul, 0, 0, 0), (.goto 4, 0, 0, 0), (.iconst 3, 0, 0, 0), (.iload_n 1, 0, 0, 0), (.imul, 0, 0, 0), (.isub, 0, 0, 0)] _ _ _ _ (by decide +kernel) ?_
    show G Γ m_MO_labelsOf (d + 1) (0, 0) Q 23 [.ref r0, .int x1, .int x2] [.int (((w 2) * v2) - ((w 3) * x1))] μ2
    exact g_reti (by decide +kernel) rfl h
/-! FrostBoxModel labels(II)I -/
set_option maxRecDepth 100000 in
theorem lk_11_517 : LkV 11 517 m_MO_labelsOf 2 := ⟨lc_MO_labelsOf, lwG_in (List.mem_of_getElem? (i := 1884) rfl) rfl, lwG_in (List.mem_of_getElem? (i := 1886) rfl) rfl, lwG_in (List.mem_of_getElem? (i := 111) rfl) rfl⟩
set_option maxRecDepth 100000 in
theorem B_MO_labels_0 {Γ : XG} {d : Nat} {Q : Option Value → XM → Prop} {r0 : Nat} {x1 x2 : Int32} {μ : XM} (o_r0_11 : ob μ r0 11) (h : ∀ μ1, μ1 = sI μ r0 0 (w 0) → ((w 0 < xI μ1 r0 25 → Call Γ m_MO_isIn d [.long (x1.toInt64), .long (wl 0), .long (wl 1)] μ1 (KI (fun v2 μ2 => ((v2 = w 0 → Q (some (.int (w (-1000000)))) μ2) ∧ (¬ v2 = w 0 → Call Γ m_MO_isIn d [.long (x2.toInt64), .long (wl 0), .long (wl 1)] μ2 (KI (fun v3 μ3 => ((v3 = w 0 → Q (some (.int (w (-1000000)))) μ3) ∧ (¬ v3 = w 0 → Call Γ m_MO_labelsOf d [.ref r0, .int x1, .int x2] μ3 (KI (fun v4 μ4 => Q (some (.int v4)) μ4))))))))))) ∧ (¬ w 0 < xI μ1 r0 25 → Q (some (.int (w (-1000000)))) μ1))) : G Γ m_MO_labels (d + 1) (0, 0) Q 0 [.ref r0, .int x1, .int x2] [] μ := by
  refine run_ok (pc' := 5) [(.aload_n 0, 0, 0, 0), (.iconst 0, 0, 0, 0), (.putfield 109, 11, 0, 0)] _ _ _ _ (by decide +kernel) ?_
  show _ ∧ (_)
  refine ⟨o_r0_11, ?_⟩
  show G Γ m_MO_labels (d + 1) (0, 0) Q 5 [.ref r0, .int x1, .int x2] [] (sI μ r0 0 (w 0))
  obtain ⟨μ1, em1⟩ : ∃ m : XM, m = sI μ r0 0 (w 0) := ⟨_, rfl⟩
  replace h := h μ1 em1
  have hm1 : xN μ ≤ xN μ1 := by rw [em1]; exact Nat.le_refl _
  rw [← em1]
  refine run_ok (pc' := 9) [(.aload_n 0, 0, 0, 0), (.getfield 307, 11, 25, 0)] _ _ _ _ (by decide +kernel) ?_
  show _ ∧ (_)
  refine ⟨((o_r0_11).mono hm1), ?_⟩
  show G Γ m_MO_labels (d + 1) (0, 0) Q 9 [.ref r0, .int x1, .int x2] [.int (xI μ1 r0 25)] μ1
  refine g_ifz_le (pc' := 41) (off := 32) (by decide) (by decide +kernel) (fun hc => ?_) (fun hc => ?_)
  · replace h := h.2 hc
    show G Γ m_MO_labels (d + 1) (0, 0) Q 41 [.ref r0, .int x1, .int x2] [] μ1
    refine run_ok (pc' := 44) [(.ldc_w 432, 0, 0, (-1000000))] _ _ _ _ (by decide +kernel) ?_
    show G Γ m_MO_labels (d + 1) (0, 0) Q 44 [.ref r0, .int x1, .int x2] [.int (w (-1000000))] μ1
    exact g_reti (by decide +kernel) rfl h
  · replace h := h.1 hc
    show G Γ m_MO_labels (d + 1) (0, 0) Q 12 [.ref r0, .int x1, .int x2] [] μ1
    refine run_ok (pc' := 16) [(.iload_n 1, 0, 0, 0), (.i2l, 0, 0, 0), (.lconst 0, 0, 0, 0), (.lconst 1, 0, 0, 1)] _ _ _ _ (by decide +kernel) ?_
    show G Γ m_MO_labels (d + 1) (0, 0) Q 16 [.ref r0, .int x1, .int x2] [.long (wl 1), .long (wl 0), .long (x1.toInt64)] μ1
    refine g_invS (M' := m_MO_isIn) (b1 := 0) (b2 := 0) (As := [.long (x1.toInt64), .long (wl 0), .long (wl 1)]) (st := []) lk_11_230 (by decide +kernel) rfl (dk_MO_isIn d) (Nat.le_of_ble_eq_true rfl) h ?_
    rintro _ μ2 ⟨v2, rfl, h⟩ hn2
    show G Γ m_MO_labels (d + 1) (0, 0) Q 19 [.ref r0, .int x1, .int x2] [.int v2] μ2
    refine g_ifz_eq (pc' := 41) (off := 22) (by decide) (by decide +kernel) (fun hc => ?_) (fun hc => ?_)
    · replace h := h.1 hc
      show G Γ m_MO_labels (d + 1) (0, 0) Q 41 [.ref r0, .int x1, .int x2] [] μ2
      refine run_ok (pc' := 44) [(.ldc_w 432, 0, 0, (-1000000))] _ _ _ _ (by decide +kernel) ?_
      show G Γ m_MO_labels (d + 1) (0, 0) Q 44 [.ref r0, .int x1, .int x2] [.int (w (-1000000))] μ2
      exact g_reti (by decide +kernel) rfl h
    · replace h := h.2 hc
      show G Γ m_MO_labels (d + 1) (0, 0) Q 22 [.ref r0, .int x1, .int x2] [] μ2
      refine run_ok (pc' := 26) [(.iload_n 2, 0, 0, 0), (.i2l, 0, 0, 0), (.lconst 0, 0, 0, 0), (.lconst 1, 0, 0, 1)] _ _ _ _ (by decide +kernel) ?_
      show G Γ m_MO_labels (d + 1) (0, 0) Q 26 [.ref r0, .int x1, .int x2] [.long (wl 1), .long (wl 0), .long (x2.toInt64)] μ2
      refine g_invS (M' := m_MO_isIn) (b1 := 0) (b2 := 0) (As := [.long (x2.toInt64), .long (wl 0), .long (wl 1)]) (st := []) lk_11_230 (by decide +kernel) rfl (dk_MO_isIn d) (Nat.le_of_ble_eq_true rfl) h ?_
      rintro _ μ3 ⟨v3, rfl, h⟩ hn3
      show G Γ m_MO_labels (d + 1) (0, 0) Q 29 [.ref r0, .int x1, .int x2] [.int v3] μ3
      refine g_ifz_eq (pc' := 41) (off := 12) (by decide) (by decide +kernel) (fun hc => ?_) (fun hc => ?_)
      · replace h := h.1 hc
        show G Γ m_MO_labels (d + 1) (0, 0) Q 41 [.ref r0, .int x1, .int x2] [] μ3
        refine run_ok (pc' := 44) [(.ldc_w 432, 0, 0, (-1000000))] _ _ _ _ (by decide +kernel) ?_
        show G Γ m_MO_labels (d + 1) (0, 0) Q 44 [.ref r0, .int x1, .int x2] [.int (w (-1000000))] μ3
        exact g_reti (by decide +kernel) rfl h
      · replace h := h.2 hc
        show G Γ m_MO_labels (d + 1) (0, 0) Q 32 [.ref r0, .int x1, .int x2] [] μ3
        refine run_ok (pc' := 35) [(.aload_n 0, 0, 0, 0), (.iload_n 1, 0, 0, 0), (.iload_n 2, 0, 0, 0)] _ _ _ _ (by decide +kernel) ?_
        show G Γ m_MO_labels (d + 1) (0, 0) Q 35 [.ref r0, .int x1, .int x2] [.int x2, .int x1, .ref r0] μ3
        refine g_invV (M' := m_MO_labelsOf) (b1 := 0) (b2 := 0) (As := [.int x1, .int x2]) (a := r0) (st := []) lk_11_517 (by decide +kernel) rfl (dk_MO_labelsOf d) (Nat.le_of_ble_eq_true rfl) (Or.inl ⟨11, ((((o_r0_11).mono hm1).mono hn2).mono hn3), rfl⟩) h ?_
        rintro _ μ4 ⟨v4, rfl, h⟩ hn4
        show G Γ m_MO_labels (d + 1) (0, 0) Q 38 [.ref r0, .int x1, .int x2] [.int v4] μ4
        refine run_ok (pc' := 44) [(.goto 6, 0, 0, 0)] _ _ _ _ (by decide +kernel) ?_
        show G Γ m_MO_labels (d + 1) (0, 0) Q 44 [.ref r0, .int x1, .int x2] [.int v4] μ4
        exact g_reti (by decide +kernel) rfl h
